section
-- ===== PART A: goes FIRST, ahead of the names: the tables' words, and 'selects' of the private methods out of them =====
/-- a private method of a class that the tables say can be made, by its rows of tables_1 -/
def lw_okq (q : MethodName × Nat) : Prop := (q.1.cls ≠ "java/lang/invoke/MethodHandle" ∧ q.1.cls ≠ "java/lang/invoke/VarHandle") ∧ Cond.instantiable q.1.cls q.2 ∈ tables_1 ∧ Cond.privateMethod q.1 ∈ tables_1 ∧ Cond.instanceMethod q.1 ∈ tables_1
theorem lw_p0 : lw_okq (⟨"WallPatience$Tape", "expect", "(I)V"⟩, 4) := ⟨⟨by decide +kernel, by decide +kernel⟩, List.mem_of_getElem? (i := 25) (by decide +kernel), List.mem_of_getElem? (i := 382) (by decide +kernel), List.mem_of_getElem? (i := 383) (by decide +kernel)⟩
theorem lw_p1 : lw_okq (⟨"WallPatience$Tape", "here", "()I"⟩, 4) := ⟨⟨by decide +kernel, by decide +kernel⟩, List.mem_of_getElem? (i := 25) (by decide +kernel), List.mem_of_getElem? (i := 386) (by decide +kernel), List.mem_of_getElem? (i := 387) (by decide +kernel)⟩
theorem lw_p2 : lw_okq (⟨"WallPatience$Tape", "readNumber", "(II)I"⟩, 4) := ⟨⟨by decide +kernel, by decide +kernel⟩, List.mem_of_getElem? (i := 25) (by decide +kernel), List.mem_of_getElem? (i := 390) (by decide +kernel), List.mem_of_getElem? (i := 391) (by decide +kernel)⟩
theorem lw_p3 : lw_okq (⟨"WallPatience$Tape", "isFigure", "()Z"⟩, 4) := ⟨⟨by decide +kernel, by decide +kernel⟩, List.mem_of_getElem? (i := 25) (by decide +kernel), List.mem_of_getElem? (i := 394) (by decide +kernel), List.mem_of_getElem? (i := 395) (by decide +kernel)⟩
theorem lw_p4 : lw_okq (⟨"WallPatience$Tape", "readSitter", "(LWallPatience$Wall;)V"⟩, 4) := ⟨⟨by decide +kernel, by decide +kernel⟩, List.mem_of_getElem? (i := 25) (by decide +kernel), List.mem_of_getElem? (i := 403) (by decide +kernel), List.mem_of_getElem? (i := 404) (by decide +kernel)⟩
theorem lw_p5 : lw_okq (⟨"WallPatience$Tape", "readSort", "()I"⟩, 4) := ⟨⟨by decide +kernel, by decide +kernel⟩, List.mem_of_getElem? (i := 25) (by decide +kernel), List.mem_of_getElem? (i := 407) (by decide +kernel), List.mem_of_getElem? (i := 408) (by decide +kernel)⟩
theorem lw_p6 : lw_okq (⟨"WallPatience$Sitter", "chill", "(IZ)I"⟩, 11) := ⟨⟨by decide +kernel, by decide +kernel⟩, List.mem_of_getElem? (i := 53) (by decide +kernel), List.mem_of_getElem? (i := 452) (by decide +kernel), List.mem_of_getElem? (i := 453) (by decide +kernel)⟩
theorem lw_p7 : lw_okq (⟨"WallPatience$Sitter", "care", "()I"⟩, 11) := ⟨⟨by decide +kernel, by decide +kernel⟩, List.mem_of_getElem? (i := 53) (by decide +kernel), List.mem_of_getElem? (i := 456) (by decide +kernel), List.mem_of_getElem? (i := 457) (by decide +kernel)⟩
theorem lw_p8 : lw_okq (⟨"WallPatience$Forecast", "pass", "(IZ)V"⟩, 6) := ⟨⟨by decide +kernel, by decide +kernel⟩, List.mem_of_getElem? (i := 205) (by decide +kernel), List.mem_of_getElem? (i := 589) (by decide +kernel), List.mem_of_getElem? (i := 590) (by decide +kernel)⟩
theorem lw_p9 : lw_okq (⟨"WallPatience", "refusesTwo", "(II)I"⟩, 11) := ⟨⟨by decide +kernel, by decide +kernel⟩, List.mem_of_getElem? (i := 17) (by decide +kernel), List.mem_of_getElem? (i := 612) (by decide +kernel), List.mem_of_getElem? (i := 613) (by decide +kernel)⟩
theorem lw_p10 : lw_okq (⟨"WallPatience", "refusesOne", "(I)I"⟩, 11) := ⟨⟨by decide +kernel, by decide +kernel⟩, List.mem_of_getElem? (i := 17) (by decide +kernel), List.mem_of_getElem? (i := 628) (by decide +kernel), List.mem_of_getElem? (i := 629) (by decide +kernel)⟩
theorem lw_p11 : lw_okq (⟨"WallPatience$Forecast", "lineToAdd", "(LWallPatience$Sitter;III)I"⟩, 6) := ⟨⟨by decide +kernel, by decide +kernel⟩, List.mem_of_getElem? (i := 205) (by decide +kernel), List.mem_of_getElem? (i := 655) (by decide +kernel), List.mem_of_getElem? (i := 656) (by decide +kernel)⟩
theorem lw_p12 : lw_okq (⟨"WallPatience$Forecast", "isBetter", "(III)Z"⟩, 6) := ⟨⟨by decide +kernel, by decide +kernel⟩, List.mem_of_getElem? (i := 205) (by decide +kernel), List.mem_of_getElem? (i := 660) (by decide +kernel), List.mem_of_getElem? (i := 661) (by decide +kernel)⟩
theorem lw_p13 : lw_okq (⟨"WallPatience$Seconds", "edgeAt", "(I)I"⟩, 3) := ⟨⟨by decide +kernel, by decide +kernel⟩, List.mem_of_getElem? (i := 268) (by decide +kernel), List.mem_of_getElem? (i := 720) (by decide +kernel), List.mem_of_getElem? (i := 721) (by decide +kernel)⟩
theorem lw_p14 : lw_okq (⟨"WallPatience$Seconds", "isAllowed", "(II)Z"⟩, 3) := ⟨⟨by decide +kernel, by decide +kernel⟩, List.mem_of_getElem? (i := 268) (by decide +kernel), List.mem_of_getElem? (i := 727) (by decide +kernel), List.mem_of_getElem? (i := 728) (by decide +kernel)⟩
theorem lw_p15 : lw_okq (⟨"WallPatience$Seconds", "playMove", "(II)V"⟩, 3) := ⟨⟨by decide +kernel, by decide +kernel⟩, List.mem_of_getElem? (i := 268) (by decide +kernel), List.mem_of_getElem? (i := 733) (by decide +kernel), List.mem_of_getElem? (i := 734) (by decide +kernel)⟩
def lw_privs_1 : List (MethodName × Nat) := [(⟨"WallPatience$Tape", "expect", "(I)V"⟩, 4), (⟨"WallPatience$Tape", "here", "()I"⟩, 4), (⟨"WallPatience$Tape", "readNumber", "(II)I"⟩, 4), (⟨"WallPatience$Tape", "isFigure", "()Z"⟩, 4), (⟨"WallPatience$Tape", "readSitter", "(LWallPatience$Wall;)V"⟩, 4), (⟨"WallPatience$Tape", "readSort", "()I"⟩, 4), (⟨"WallPatience$Sitter", "chill", "(IZ)I"⟩, 11), (⟨"WallPatience$Sitter", "care", "()I"⟩, 11), (⟨"WallPatience$Forecast", "pass", "(IZ)V"⟩, 6), (⟨"WallPatience", "refusesTwo", "(II)I"⟩, 11), (⟨"WallPatience", "refusesOne", "(I)I"⟩, 11), (⟨"WallPatience$Forecast", "lineToAdd", "(LWallPatience$Sitter;III)I"⟩, 6), (⟨"WallPatience$Forecast", "isBetter", "(III)Z"⟩, 6), (⟨"WallPatience$Seconds", "edgeAt", "(I)I"⟩, 3), (⟨"WallPatience$Seconds", "isAllowed", "(II)Z"⟩, 3), (⟨"WallPatience$Seconds", "playMove", "(II)V"⟩, 3)]
theorem lw_r1 : ∀ q ∈ lw_privs_1, lw_okq q := List.forall_mem_cons.mpr ⟨lw_p0, List.forall_mem_cons.mpr ⟨lw_p1, List.forall_mem_cons.mpr ⟨lw_p2, List.forall_mem_cons.mpr ⟨lw_p3, List.forall_mem_cons.mpr ⟨lw_p4, List.forall_mem_cons.mpr ⟨lw_p5, List.forall_mem_cons.mpr ⟨lw_p6, List.forall_mem_cons.mpr ⟨lw_p7, List.forall_mem_cons.mpr ⟨lw_p8, List.forall_mem_cons.mpr ⟨lw_p9, List.forall_mem_cons.mpr ⟨lw_p10, List.forall_mem_cons.mpr ⟨lw_p11, List.forall_mem_cons.mpr ⟨lw_p12, List.forall_mem_cons.mpr ⟨lw_p13, List.forall_mem_cons.mpr ⟨lw_p14, List.forall_mem_cons.mpr ⟨lw_p15, fun _ h => absurd h List.not_mem_nil⟩⟩⟩⟩⟩⟩⟩⟩⟩⟩⟩⟩⟩⟩⟩⟩
theorem lw_p16 : lw_okq (⟨"WallPatience", "refusesRow", "(IIII)I"⟩, 11) := ⟨⟨by decide +kernel, by decide +kernel⟩, List.mem_of_getElem? (i := 17) (by decide +kernel), List.mem_of_getElem? (i := 764) (by decide +kernel), List.mem_of_getElem? (i := 765) (by decide +kernel)⟩
theorem lw_p17 : lw_okq (⟨"WallPatience$Sheet", "cut", "(J)J"⟩, 3) := ⟨⟨by decide +kernel, by decide +kernel⟩, List.mem_of_getElem? (i := 182) (by decide +kernel), List.mem_of_getElem? (i := 777) (by decide +kernel), List.mem_of_getElem? (i := 778) (by decide +kernel)⟩
theorem lw_p18 : lw_okq (⟨"WallPatience", "refusesPairs", "(IIIII)I"⟩, 11) := ⟨⟨by decide +kernel, by decide +kernel⟩, List.mem_of_getElem? (i := 17) (by decide +kernel), List.mem_of_getElem? (i := 801) (by decide +kernel), List.mem_of_getElem? (i := 802) (by decide +kernel)⟩
theorem lw_p19 : lw_okq (⟨"WallPatience$Tour", "between", "(II)I"⟩, 5) := ⟨⟨by decide +kernel, by decide +kernel⟩, List.mem_of_getElem? (i := 286) (by decide +kernel), List.mem_of_getElem? (i := 815) (by decide +kernel), List.mem_of_getElem? (i := 816) (by decide +kernel)⟩
theorem lw_p20 : lw_okq (⟨"WallPatience$Gossip", "knownFrom", "(I)I"⟩, 4) := ⟨⟨by decide +kernel, by decide +kernel⟩, List.mem_of_getElem? (i := 310) (by decide +kernel), List.mem_of_getElem? (i := 849) (by decide +kernel), List.mem_of_getElem? (i := 850) (by decide +kernel)⟩
theorem lw_p21 : lw_okq (⟨"WallPatience$Forecast", "wouldShow", "(LWallPatience$Sitter;ILWallPatience$Sheet;II)Z"⟩, 6) := ⟨⟨by decide +kernel, by decide +kernel⟩, List.mem_of_getElem? (i := 205) (by decide +kernel), List.mem_of_getElem? (i := 862) (by decide +kernel), List.mem_of_getElem? (i := 863) (by decide +kernel)⟩
theorem lw_p22 : lw_okq (⟨"WallPatienceModel", "takesWall", "()Z"⟩, 17) := ⟨⟨by decide +kernel, by decide +kernel⟩, List.mem_of_getElem? (i := 875) (by decide +kernel), List.mem_of_getElem? (i := 945) (by decide +kernel), List.mem_of_getElem? (i := 946) (by decide +kernel)⟩
theorem lw_p23 : lw_okq (⟨"WallPatienceModel", "takes", "(I)Z"⟩, 17) := ⟨⟨by decide +kernel, by decide +kernel⟩, List.mem_of_getElem? (i := 875) (by decide +kernel), List.mem_of_getElem? (i := 949) (by decide +kernel), List.mem_of_getElem? (i := 950) (by decide +kernel)⟩
theorem lw_p24 : lw_okq (⟨"WallPatienceModel", "byteAt", "(I)I"⟩, 17) := ⟨⟨by decide +kernel, by decide +kernel⟩, List.mem_of_getElem? (i := 875) (by decide +kernel), List.mem_of_getElem? (i := 953) (by decide +kernel), List.mem_of_getElem? (i := 954) (by decide +kernel)⟩
theorem lw_p25 : lw_okq (⟨"WallPatienceModel", "fails", "(I)Z"⟩, 17) := ⟨⟨by decide +kernel, by decide +kernel⟩, List.mem_of_getElem? (i := 875) (by decide +kernel), List.mem_of_getElem? (i := 957) (by decide +kernel), List.mem_of_getElem? (i := 958) (by decide +kernel)⟩
theorem lw_p26 : lw_okq (⟨"WallPatienceModel", "takesNumber", "(III)Z"⟩, 17) := ⟨⟨by decide +kernel, by decide +kernel⟩, List.mem_of_getElem? (i := 875) (by decide +kernel), List.mem_of_getElem? (i := 961) (by decide +kernel), List.mem_of_getElem? (i := 962) (by decide +kernel)⟩
theorem lw_p27 : lw_okq (⟨"WallPatienceModel", "takesSitter", "()Z"⟩, 17) := ⟨⟨by decide +kernel, by decide +kernel⟩, List.mem_of_getElem? (i := 875) (by decide +kernel), List.mem_of_getElem? (i := 967) (by decide +kernel), List.mem_of_getElem? (i := 968) (by decide +kernel)⟩
theorem lw_p28 : lw_okq (⟨"WallPatienceModel", "copyRow", "(II)V"⟩, 17) := ⟨⟨by decide +kernel, by decide +kernel⟩, List.mem_of_getElem? (i := 875) (by decide +kernel), List.mem_of_getElem? (i := 974) (by decide +kernel), List.mem_of_getElem? (i := 975) (by decide +kernel)⟩
theorem lw_p29 : lw_okq (⟨"WallPatienceModel", "isSitter", "(I)Z"⟩, 17) := ⟨⟨by decide +kernel, by decide +kernel⟩, List.mem_of_getElem? (i := 875) (by decide +kernel), List.mem_of_getElem? (i := 982) (by decide +kernel), List.mem_of_getElem? (i := 983) (by decide +kernel)⟩
theorem lw_p30 : lw_okq (⟨"WallPatienceModel", "growthIn", "(III)I"⟩, 17) := ⟨⟨by decide +kernel, by decide +kernel⟩, List.mem_of_getElem? (i := 875) (by decide +kernel), List.mem_of_getElem? (i := 992) (by decide +kernel), List.mem_of_getElem? (i := 993) (by decide +kernel)⟩
theorem lw_p31 : lw_okq (⟨"WallPatienceModel", "isNight", "(I)Z"⟩, 17) := ⟨⟨by decide +kernel, by decide +kernel⟩, List.mem_of_getElem? (i := 875) (by decide +kernel), List.mem_of_getElem? (i := 996) (by decide +kernel), List.mem_of_getElem? (i := 997) (by decide +kernel)⟩
def lw_privs_2 : List (MethodName × Nat) := [(⟨"WallPatience", "refusesRow", "(IIII)I"⟩, 11), (⟨"WallPatience$Sheet", "cut", "(J)J"⟩, 3), (⟨"WallPatience", "refusesPairs", "(IIIII)I"⟩, 11), (⟨"WallPatience$Tour", "between", "(II)I"⟩, 5), (⟨"WallPatience$Gossip", "knownFrom", "(I)I"⟩, 4), (⟨"WallPatience$Forecast", "wouldShow", "(LWallPatience$Sitter;ILWallPatience$Sheet;II)Z"⟩, 6), (⟨"WallPatienceModel", "takesWall", "()Z"⟩, 17), (⟨"WallPatienceModel", "takes", "(I)Z"⟩, 17), (⟨"WallPatienceModel", "byteAt", "(I)I"⟩, 17), (⟨"WallPatienceModel", "fails", "(I)Z"⟩, 17), (⟨"WallPatienceModel", "takesNumber", "(III)Z"⟩, 17), (⟨"WallPatienceModel", "takesSitter", "()Z"⟩, 17), (⟨"WallPatienceModel", "copyRow", "(II)V"⟩, 17), (⟨"WallPatienceModel", "isSitter", "(I)Z"⟩, 17), (⟨"WallPatienceModel", "growthIn", "(III)I"⟩, 17), (⟨"WallPatienceModel", "isNight", "(I)Z"⟩, 17)]
theorem lw_r2 : ∀ q ∈ lw_privs_2, lw_okq q := List.forall_mem_cons.mpr ⟨lw_p16, List.forall_mem_cons.mpr ⟨lw_p17, List.forall_mem_cons.mpr ⟨lw_p18, List.forall_mem_cons.mpr ⟨lw_p19, List.forall_mem_cons.mpr ⟨lw_p20, List.forall_mem_cons.mpr ⟨lw_p21, List.forall_mem_cons.mpr ⟨lw_p22, List.forall_mem_cons.mpr ⟨lw_p23, List.forall_mem_cons.mpr ⟨lw_p24, List.forall_mem_cons.mpr ⟨lw_p25, List.forall_mem_cons.mpr ⟨lw_p26, List.forall_mem_cons.mpr ⟨lw_p27, List.forall_mem_cons.mpr ⟨lw_p28, List.forall_mem_cons.mpr ⟨lw_p29, List.forall_mem_cons.mpr ⟨lw_p30, List.forall_mem_cons.mpr ⟨lw_p31, fun _ h => absurd h List.not_mem_nil⟩⟩⟩⟩⟩⟩⟩⟩⟩⟩⟩⟩⟩⟩⟩⟩
theorem lw_p32 : lw_okq (⟨"WallPatienceModel", "minds", "()V"⟩, 17) := ⟨⟨by decide +kernel, by decide +kernel⟩, List.mem_of_getElem? (i := 875) (by decide +kernel), List.mem_of_getElem? (i := 1010) (by decide +kernel), List.mem_of_getElem? (i := 1011) (by decide +kernel)⟩
theorem lw_p33 : lw_okq (⟨"WallPatienceModel", "passes", "(I)V"⟩, 17) := ⟨⟨by decide +kernel, by decide +kernel⟩, List.mem_of_getElem? (i := 875) (by decide +kernel), List.mem_of_getElem? (i := 1014) (by decide +kernel), List.mem_of_getElem? (i := 1015) (by decide +kernel)⟩
theorem lw_p34 : lw_okq (⟨"WallPatienceModel", "passesBy", "(II)V"⟩, 17) := ⟨⟨by decide +kernel, by decide +kernel⟩, List.mem_of_getElem? (i := 875) (by decide +kernel), List.mem_of_getElem? (i := 1020) (by decide +kernel), List.mem_of_getElem? (i := 1021) (by decide +kernel)⟩
theorem lw_p35 : lw_okq (⟨"WallPatienceModel", "isDown", "(II)Z"⟩, 17) := ⟨⟨by decide +kernel, by decide +kernel⟩, List.mem_of_getElem? (i := 875) (by decide +kernel), List.mem_of_getElem? (i := 1024) (by decide +kernel), List.mem_of_getElem? (i := 1025) (by decide +kernel)⟩
theorem lw_p36 : lw_okq (⟨"WallPatienceModel", "sittingIn", "(I)I"⟩, 17) := ⟨⟨by decide +kernel, by decide +kernel⟩, List.mem_of_getElem? (i := 875) (by decide +kernel), List.mem_of_getElem? (i := 1028) (by decide +kernel), List.mem_of_getElem? (i := 1029) (by decide +kernel)⟩
theorem lw_p37 : lw_okq (⟨"WallPatienceModel", "eats", "(II)V"⟩, 17) := ⟨⟨by decide +kernel, by decide +kernel⟩, List.mem_of_getElem? (i := 875) (by decide +kernel), List.mem_of_getElem? (i := 1036) (by decide +kernel), List.mem_of_getElem? (i := 1037) (by decide +kernel)⟩
theorem lw_p38 : lw_okq (⟨"WallPatienceModel", "passesMany", "(I)V"⟩, 17) := ⟨⟨by decide +kernel, by decide +kernel⟩, List.mem_of_getElem? (i := 875) (by decide +kernel), List.mem_of_getElem? (i := 1078) (by decide +kernel), List.mem_of_getElem? (i := 1079) (by decide +kernel)⟩
theorem lw_p39 : lw_okq (⟨"WallPatienceModel", "triesSixty", "()V"⟩, 17) := ⟨⟨by decide +kernel, by decide +kernel⟩, List.mem_of_getElem? (i := 875) (by decide +kernel), List.mem_of_getElem? (i := 1086) (by decide +kernel), List.mem_of_getElem? (i := 1087) (by decide +kernel)⟩
theorem lw_p40 : lw_okq (⟨"WallPatienceModel", "downIn", "(I)I"⟩, 17) := ⟨⟨by decide +kernel, by decide +kernel⟩, List.mem_of_getElem? (i := 875) (by decide +kernel), List.mem_of_getElem? (i := 1090) (by decide +kernel), List.mem_of_getElem? (i := 1091) (by decide +kernel)⟩
theorem lw_p41 : lw_okq (⟨"WallPatienceModel", "areTwo", "(II)Z"⟩, 17) := ⟨⟨by decide +kernel, by decide +kernel⟩, List.mem_of_getElem? (i := 875) (by decide +kernel), List.mem_of_getElem? (i := 1099) (by decide +kernel), List.mem_of_getElem? (i := 1100) (by decide +kernel)⟩
theorem lw_p42 : lw_okq (⟨"WallPatienceModel", "sitsBy", "(III)I"⟩, 17) := ⟨⟨by decide +kernel, by decide +kernel⟩, List.mem_of_getElem? (i := 875) (by decide +kernel), List.mem_of_getElem? (i := 1112) (by decide +kernel), List.mem_of_getElem? (i := 1113) (by decide +kernel)⟩
theorem lw_p43 : lw_okq (⟨"WallPatienceModel", "isEnough", "(IIIII)Z"⟩, 17) := ⟨⟨by decide +kernel, by decide +kernel⟩, List.mem_of_getElem? (i := 875) (by decide +kernel), List.mem_of_getElem? (i := 1128) (by decide +kernel), List.mem_of_getElem? (i := 1129) (by decide +kernel)⟩
theorem lw_p44 : lw_okq (⟨"WallPatienceModel", "findOdds", "(IIII)V"⟩, 17) := ⟨⟨by decide +kernel, by decide +kernel⟩, List.mem_of_getElem? (i := 875) (by decide +kernel), List.mem_of_getElem? (i := 1145) (by decide +kernel), List.mem_of_getElem? (i := 1146) (by decide +kernel)⟩
theorem lw_p45 : lw_okq (⟨"WallPatienceModel", "turns", "(III)V"⟩, 17) := ⟨⟨by decide +kernel, by decide +kernel⟩, List.mem_of_getElem? (i := 875) (by decide +kernel), List.mem_of_getElem? (i := 1157) (by decide +kernel), List.mem_of_getElem? (i := 1158) (by decide +kernel)⟩
theorem lw_p46 : lw_okq (⟨"WallPatienceModel", "edgeNow", "(II)I"⟩, 17) := ⟨⟨by decide +kernel, by decide +kernel⟩, List.mem_of_getElem? (i := 875) (by decide +kernel), List.mem_of_getElem? (i := 1161) (by decide +kernel), List.mem_of_getElem? (i := 1162) (by decide +kernel)⟩
theorem lw_p47 : lw_okq (⟨"WallPatienceModel", "against", "(IIII)I"⟩, 17) := ⟨⟨by decide +kernel, by decide +kernel⟩, List.mem_of_getElem? (i := 875) (by decide +kernel), List.mem_of_getElem? (i := 1184) (by decide +kernel), List.mem_of_getElem? (i := 1185) (by decide +kernel)⟩
def lw_privs_3 : List (MethodName × Nat) := [(⟨"WallPatienceModel", "minds", "()V"⟩, 17), (⟨"WallPatienceModel", "passes", "(I)V"⟩, 17), (⟨"WallPatienceModel", "passesBy", "(II)V"⟩, 17), (⟨"WallPatienceModel", "isDown", "(II)Z"⟩, 17), (⟨"WallPatienceModel", "sittingIn", "(I)I"⟩, 17), (⟨"WallPatienceModel", "eats", "(II)V"⟩, 17), (⟨"WallPatienceModel", "passesMany", "(I)V"⟩, 17), (⟨"WallPatienceModel", "triesSixty", "()V"⟩, 17), (⟨"WallPatienceModel", "downIn", "(I)I"⟩, 17), (⟨"WallPatienceModel", "areTwo", "(II)Z"⟩, 17), (⟨"WallPatienceModel", "sitsBy", "(III)I"⟩, 17), (⟨"WallPatienceModel", "isEnough", "(IIIII)Z"⟩, 17), (⟨"WallPatienceModel", "findOdds", "(IIII)V"⟩, 17), (⟨"WallPatienceModel", "turns", "(III)V"⟩, 17), (⟨"WallPatienceModel", "edgeNow", "(II)I"⟩, 17), (⟨"WallPatienceModel", "against", "(IIII)I"⟩, 17)]
theorem lw_r3 : ∀ q ∈ lw_privs_3, lw_okq q := List.forall_mem_cons.mpr ⟨lw_p32, List.forall_mem_cons.mpr ⟨lw_p33, List.forall_mem_cons.mpr ⟨lw_p34, List.forall_mem_cons.mpr ⟨lw_p35, List.forall_mem_cons.mpr ⟨lw_p36, List.forall_mem_cons.mpr ⟨lw_p37, List.forall_mem_cons.mpr ⟨lw_p38, List.forall_mem_cons.mpr ⟨lw_p39, List.forall_mem_cons.mpr ⟨lw_p40, List.forall_mem_cons.mpr ⟨lw_p41, List.forall_mem_cons.mpr ⟨lw_p42, List.forall_mem_cons.mpr ⟨lw_p43, List.forall_mem_cons.mpr ⟨lw_p44, List.forall_mem_cons.mpr ⟨lw_p45, List.forall_mem_cons.mpr ⟨lw_p46, List.forall_mem_cons.mpr ⟨lw_p47, fun _ h => absurd h List.not_mem_nil⟩⟩⟩⟩⟩⟩⟩⟩⟩⟩⟩⟩⟩⟩⟩⟩
theorem lw_p48 : lw_okq (⟨"WallPatienceModel", "areWithin", "(III)Z"⟩, 17) := ⟨⟨by decide +kernel, by decide +kernel⟩, List.mem_of_getElem? (i := 875) (by decide +kernel), List.mem_of_getElem? (i := 1204) (by decide +kernel), List.mem_of_getElem? (i := 1205) (by decide +kernel)⟩
theorem lw_p49 : lw_okq (⟨"WallPatienceModel", "layWays", "(II)V"⟩, 17) := ⟨⟨by decide +kernel, by decide +kernel⟩, List.mem_of_getElem? (i := 875) (by decide +kernel), List.mem_of_getElem? (i := 1208) (by decide +kernel), List.mem_of_getElem? (i := 1209) (by decide +kernel)⟩
theorem lw_p50 : lw_okq (⟨"WallPatienceModel", "wayOf", "(III)I"⟩, 17) := ⟨⟨by decide +kernel, by decide +kernel⟩, List.mem_of_getElem? (i := 875) (by decide +kernel), List.mem_of_getElem? (i := 1212) (by decide +kernel), List.mem_of_getElem? (i := 1213) (by decide +kernel)⟩
theorem lw_p51 : lw_okq (⟨"WallPatienceModel", "knowBy", "(III)I"⟩, 17) := ⟨⟨by decide +kernel, by decide +kernel⟩, List.mem_of_getElem? (i := 875) (by decide +kernel), List.mem_of_getElem? (i := 1224) (by decide +kernel), List.mem_of_getElem? (i := 1225) (by decide +kernel)⟩
theorem lw_p52 : lw_okq (⟨"WallPatienceModel", "crustsOfAll", "()I"⟩, 17) := ⟨⟨by decide +kernel, by decide +kernel⟩, List.mem_of_getElem? (i := 875) (by decide +kernel), List.mem_of_getElem? (i := 1240) (by decide +kernel), List.mem_of_getElem? (i := 1241) (by decide +kernel)⟩
def lw_privs_4 : List (MethodName × Nat) := [(⟨"WallPatienceModel", "areWithin", "(III)Z"⟩, 17), (⟨"WallPatienceModel", "layWays", "(II)V"⟩, 17), (⟨"WallPatienceModel", "wayOf", "(III)I"⟩, 17), (⟨"WallPatienceModel", "knowBy", "(III)I"⟩, 17), (⟨"WallPatienceModel", "crustsOfAll", "()I"⟩, 17)]
theorem lw_r4 : ∀ q ∈ lw_privs_4, lw_okq q := List.forall_mem_cons.mpr ⟨lw_p48, List.forall_mem_cons.mpr ⟨lw_p49, List.forall_mem_cons.mpr ⟨lw_p50, List.forall_mem_cons.mpr ⟨lw_p51, List.forall_mem_cons.mpr ⟨lw_p52, fun _ h => absurd h List.not_mem_nil⟩⟩⟩⟩⟩
def lw_privs : List (MethodName × Nat) := lw_privs_1 ++ (lw_privs_2 ++ (lw_privs_3 ++ (lw_privs_4)))
def lw_tbl : List Cond := k2_sels lw_privs ++ tables_1
theorem lw_privs_ok : ∀ q ∈ lw_privs, lw_okq q := by
  show ∀ q ∈ lw_privs_1 ++ (lw_privs_2 ++ (lw_privs_3 ++ (lw_privs_4))), lw_okq q
  exact List.forall_mem_append.mpr ⟨lw_r1, List.forall_mem_append.mpr ⟨lw_r2, List.forall_mem_append.mpr ⟨lw_r3, lw_r4⟩⟩⟩
end
section
def RX0 : String := "WallPatience$Chances"
def TX0 : u_T := fun k => match k with
  | 0 => ("WallPatience$Chances", "nights", "[Z", true)
  | 1 => ("WallPatience$Chances", "oneGrows", "[[I", true)
  | 2 => ("WallPatience$Chances", "otherGrows", "[[I", true)
  | 3 => ("WallPatience$Chances", "hours", "I", false)
  | 4 => ("WallPatience$Chances", "windTenths", "I", false)
  | 5 => ("WallPatience$Chances", "oneLine", "I", false)
  | _ => ("WallPatience$Chances", "otherLine", "I", false)
def tyX0 : Nat → FieldType := fun k => match k with
  | 0 => .array .boolean
  | 1 => .array (.array .int)
  | 2 => .array (.array .int)
  | 3 => .int
  | 4 => .int
  | 5 => .int
  | _ => .int
theorem nmX0 : ∀ a, a < 7 → ∀ b, b < 7 → a ≠ b → (TX0 a).2.1 ≠ (TX0 b).2.1 := by decide +kernel
theorem tyX0_ok : ∀ k, k < 7 → parseFieldDescriptor (TX0 k).2.2.1 = some (tyX0 k) := by decide +kernel
abbrev cX0_init : ByteArray := prog_2_method_1_code
def yX0_init : MethodName := ⟨RX0, "<init>", "()V"⟩
abbrev cX0_weigh : ByteArray := prog_2_method_2_code
def yX0_weigh : MethodName := ⟨RX0, "weigh", "(LWallPatience$Wall;II)V"⟩
abbrev cX0_waysToOutlast : ByteArray := prog_2_method_3_code
def yX0_waysToOutlast : MethodName := ⟨RX0, "waysToOutlast", "(LWallPatience$Sitter;LWallPatience$Sitter;)J"⟩
abbrev cX0_waysFrom : ByteArray := prog_2_method_4_code
def yX0_waysFrom : MethodName := ⟨RX0, "waysFrom", "(LWallPatience$Chances;III)J"⟩
abbrev cX0_tensTo : ByteArray := prog_2_method_5_code
def yX0_tensTo : MethodName := ⟨RX0, "tensTo", "(I)J"⟩
abbrev cX0_lowest : ByteArray := prog_2_method_6_code
def yX0_lowest : MethodName := ⟨RX0, "lowest", "(JI)J"⟩
def RX1 : String := "WallPatience$Forecast"
def TX1 : u_T := fun k => match k with
  | 0 => ("WallPatience$Forecast", "skies", "[I", true)
  | 1 => ("WallPatience$Forecast", "nights", "[Z", true)
  | 2 => ("WallPatience$Forecast", "training", "[I", true)
  | 3 => ("WallPatience$Forecast", "mealSets", "I", false)
  | 4 => ("WallPatience$Forecast", "leastMeals", "I", false)
  | _ => ("WallPatience$Forecast", "trial", "LWallPatience$Sitter;", true)
def tyX1 : Nat → FieldType := fun k => match k with
  | 0 => .array .int
  | 1 => .array .boolean
  | 2 => .array .int
  | 3 => .int
  | 4 => .int
  | _ => .object "WallPatience$Sitter"
theorem nmX1 : ∀ a, a < 6 → ∀ b, b < 6 → a ≠ b → (TX1 a).2.1 ≠ (TX1 b).2.1 := by decide +kernel
theorem tyX1_ok : ∀ k, k < 6 → parseFieldDescriptor (TX1 k).2.2.1 = some (tyX1 k) := by decide +kernel
abbrev cX1_init : ByteArray := prog_3_method_1_code
def yX1_init : MethodName := ⟨RX1, "<init>", "()V"⟩
abbrev cX1_look : ByteArray := prog_3_method_2_code
def yX1_look : MethodName := ⟨RX1, "look", "(LWallPatience$Wall;)V"⟩
abbrev cX1_setNights : ByteArray := prog_3_method_3_code
def yX1_setNights : MethodName := ⟨RX1, "setNights", "(II)V"⟩
abbrev cX1_pass : ByteArray := prog_3_method_4_code
def yX1_pass : MethodName := ⟨RX1, "pass", "(IZ)V"⟩
abbrev cX1_isMeal : ByteArray := prog_3_method_5_code
def yX1_isMeal : MethodName := ⟨RX1, "isMeal", "(II)Z"⟩
abbrev cX1_strainBehind : ByteArray := prog_3_method_6_code
def yX1_strainBehind : MethodName := ⟨RX1, "strainBehind", "(LWallPatience$Sitter;I)I"⟩
abbrev cX1_filmOnto : ByteArray := prog_3_method_7_code
def yX1_filmOnto : MethodName := ⟨RX1, "filmOnto", "(LWallPatience$Sheet;ILWallPatience$Sitter;I)V"⟩
abbrev cX1_sittingBehind : ByteArray := prog_3_method_8_code
def yX1_sittingBehind : MethodName := ⟨RX1, "sittingBehind", "(LWallPatience$Wall;I)I"⟩
abbrev cX1_hoursSat : ByteArray := prog_3_method_9_code
def yX1_hoursSat : MethodName := ⟨RX1, "hoursSat", "(LWallPatience$Sitter;II)I"⟩
abbrev cX1_outlasts : ByteArray := prog_3_method_10_code
def yX1_outlasts : MethodName := ⟨RX1, "outlasts", "(LWallPatience$Sitter;LWallPatience$Sitter;)I"⟩
abbrev cX1_bestMeals : ByteArray := prog_3_method_11_code
def yX1_bestMeals : MethodName := ⟨RX1, "bestMeals", "(LWallPatience$Sitter;I)I"⟩
abbrev cX1_findMeals : ByteArray := prog_3_method_12_code
def yX1_findMeals : MethodName := ⟨RX1, "findMeals", "(LWallPatience$Sitter;LWallPatience$Sheet;II)V"⟩
abbrev cX1_wouldShow : ByteArray := prog_3_method_13_code
def yX1_wouldShow : MethodName := ⟨RX1, "wouldShow", "(LWallPatience$Sitter;ILWallPatience$Sheet;II)Z"⟩
abbrev cX1_findTraining : ByteArray := prog_3_method_14_code
def yX1_findTraining : MethodName := ⟨RX1, "findTraining", "(LWallPatience$Sitter;I)Z"⟩
abbrev cX1_isBetter : ByteArray := prog_3_method_15_code
def yX1_isBetter : MethodName := ⟨RX1, "isBetter", "(III)Z"⟩
abbrev cX1_lineToAdd : ByteArray := prog_3_method_16_code
def yX1_lineToAdd : MethodName := ⟨RX1, "lineToAdd", "(LWallPatience$Sitter;III)I"⟩
def RX2 : String := "WallPatience$Gossip"
def TX2 : u_T := fun k => match k with
  | 0 => ("WallPatience$Gossip", "tellers", "[I", true)
  | 1 => ("WallPatience$Gossip", "hearers", "[I", true)
  | 2 => ("WallPatience$Gossip", "knowing", "[I", true)
  | _ => ("WallPatience$Gossip", "pairs", "I", false)
def tyX2 : Nat → FieldType := fun k => match k with
  | 0 => .array .int
  | 1 => .array .int
  | 2 => .array .int
  | _ => .int
theorem nmX2 : ∀ a, a < 4 → ∀ b, b < 4 → a ≠ b → (TX2 a).2.1 ≠ (TX2 b).2.1 := by decide +kernel
theorem tyX2_ok : ∀ k, k < 4 → parseFieldDescriptor (TX2 k).2.2.1 = some (tyX2 k) := by decide +kernel
abbrev cX2_init : ByteArray := prog_4_method_1_code
def yX2_init : MethodName := ⟨RX2, "<init>", "()V"⟩
abbrev cX2_hear : ByteArray := prog_4_method_2_code
def yX2_hear : MethodName := ⟨RX2, "hear", "(LWallPatience$Sheet;II)V"⟩
abbrev cX2_knowAtLast : ByteArray := prog_4_method_3_code
def yX2_knowAtLast : MethodName := ⟨RX2, "knowAtLast", "(I)I"⟩
abbrev cX2_fewestToTell : ByteArray := prog_4_method_4_code
def yX2_fewestToTell : MethodName := ⟨RX2, "fewestToTell", "()I"⟩
abbrev cX2_knownFrom : ByteArray := prog_4_method_5_code
def yX2_knownFrom : MethodName := ⟨RX2, "knownFrom", "(I)I"⟩
def RX3 : String := "WallPatience$History"
def TX3 : u_T := fun k => match k with
  | 0 => ("WallPatience$History", "kept", "[LWallPatience$Wall;", true)
  | 1 => ("WallPatience$History", "next", "I", false)
  | _ => ("WallPatience$History", "size", "I", false)
def tyX3 : Nat → FieldType := fun k => match k with
  | 0 => .array (.object "WallPatience$Wall")
  | 1 => .int
  | _ => .int
theorem nmX3 : ∀ a, a < 3 → ∀ b, b < 3 → a ≠ b → (TX3 a).2.1 ≠ (TX3 b).2.1 := by decide +kernel
theorem tyX3_ok : ∀ k, k < 3 → parseFieldDescriptor (TX3 k).2.2.1 = some (tyX3 k) := by decide +kernel
abbrev cX3_init : ByteArray := prog_5_method_1_code
def yX3_init : MethodName := ⟨RX3, "<init>", "()V"⟩
abbrev cX3_keep : ByteArray := prog_5_method_2_code
def yX3_keep : MethodName := ⟨RX3, "keep", "(LWallPatience$Wall;)V"⟩
abbrev cX3_giveBack : ByteArray := prog_5_method_3_code
def yX3_giveBack : MethodName := ⟨RX3, "giveBack", "(LWallPatience$Wall;)Z"⟩
abbrev cX3_forget : ByteArray := prog_5_method_4_code
def yX3_forget : MethodName := ⟨RX3, "forget", "()V"⟩
def RX4 : String := "WallPatience$Seconds"
def TX4 : u_T := fun k => match k with
  | 0 => ("WallPatience$Seconds", "ones", "[LWallPatience$Sitter;", true)
  | 1 => ("WallPatience$Seconds", "others", "[LWallPatience$Sitter;", true)
  | _ => ("WallPatience$Seconds", "sight", "LWallPatience$Forecast;", false)
def tyX4 : Nat → FieldType := fun k => match k with
  | 0 => .array (.object "WallPatience$Sitter")
  | 1 => .array (.object "WallPatience$Sitter")
  | _ => .object "WallPatience$Forecast"
theorem nmX4 : ∀ a, a < 3 → ∀ b, b < 3 → a ≠ b → (TX4 a).2.1 ≠ (TX4 b).2.1 := by decide +kernel
theorem tyX4_ok : ∀ k, k < 3 → parseFieldDescriptor (TX4 k).2.2.1 = some (tyX4 k) := by decide +kernel
abbrev cX4_init : ByteArray := prog_6_method_1_code
def yX4_init : MethodName := ⟨RX4, "<init>", "()V"⟩
abbrev cX4_play : ByteArray := prog_6_method_2_code
def yX4_play : MethodName := ⟨RX4, "play", "(LWallPatience$Sitter;LWallPatience$Sitter;LWallPatience$Forecast;I)I"⟩
abbrev cX4_edgeFrom : ByteArray := prog_6_method_3_code
def yX4_edgeFrom : MethodName := ⟨RX4, "edgeFrom", "(LWallPatience$Seconds;II)I"⟩
abbrev cX4_edgeAt : ByteArray := prog_6_method_4_code
def yX4_edgeAt : MethodName := ⟨RX4, "edgeAt", "(I)I"⟩
abbrev cX4_isAllowed : ByteArray := prog_6_method_5_code
def yX4_isAllowed : MethodName := ⟨RX4, "isAllowed", "(II)Z"⟩
abbrev cX4_playMove : ByteArray := prog_6_method_6_code
def yX4_playMove : MethodName := ⟨RX4, "playMove", "(II)V"⟩
def RX5 : String := "WallPatience$Sheet"
def TX5 : u_T := fun k => match k with
  | 0 => ("WallPatience$Sheet", "lane", "I", false)
  | 1 => ("WallPatience$Sheet", "size", "I", false)
  | _ => ("WallPatience$Sheet", "items", "[J", true)
def tyX5 : Nat → FieldType := fun k => match k with
  | 0 => .int
  | 1 => .int
  | _ => .array .long
theorem nmX5 : ∀ a, a < 3 → ∀ b, b < 3 → a ≠ b → (TX5 a).2.1 ≠ (TX5 b).2.1 := by decide +kernel
theorem tyX5_ok : ∀ k, k < 3 → parseFieldDescriptor (TX5 k).2.2.1 = some (tyX5 k) := by decide +kernel
abbrev cX5_init : ByteArray := prog_7_method_1_code
def yX5_init : MethodName := ⟨RX5, "<init>", "()V"⟩
abbrev cX5_isNothing : ByteArray := prog_7_method_2_code
def yX5_isNothing : MethodName := ⟨RX5, "isNothing", "()Z"⟩
abbrev cX5_becomeNothing : ByteArray := prog_7_method_3_code
def yX5_becomeNothing : MethodName := ⟨RX5, "becomeNothing", "()V"⟩
abbrev cX5_begin : ByteArray := prog_7_method_4_code
def yX5_begin : MethodName := ⟨RX5, "begin", "(II)V"⟩
abbrev cX5_holds : ByteArray := prog_7_method_5_code
def yX5_holds : MethodName := ⟨RX5, "holds", "(II)Z"⟩
abbrev cX5_put : ByteArray := prog_7_method_6_code
def yX5_put : MethodName := ⟨RX5, "put", "(IJ)V"⟩
abbrev cX5_cut : ByteArray := prog_7_method_7_code
def yX5_cut : MethodName := ⟨RX5, "cut", "(J)J"⟩
abbrev cX5_areWithin : ByteArray := prog_7_method_8_code
def yX5_areWithin : MethodName := ⟨RX5, "areWithin", "(III)Z"⟩
def RX6 : String := "WallPatience$Sitter"
def TX6 : u_T := fun k => match k with
  | 0 => ("WallPatience$Sitter", "kind", "I", false)
  | 1 => ("WallPatience$Sitter", "line", "I", false)
  | 2 => ("WallPatience$Sitter", "hunger", "I", false)
  | 3 => ("WallPatience$Sitter", "cold", "I", false)
  | 4 => ("WallPatience$Sitter", "worry", "I", false)
  | 5 => ("WallPatience$Sitter", "strain", "I", false)
  | 6 => ("WallPatience$Sitter", "crusts", "I", false)
  | 7 => ("WallPatience$Sitter", "news", "I", false)
  | 8 => ("WallPatience$Sitter", "pride", "I", false)
  | 9 => ("WallPatience$Sitter", "cloaked", "Z", false)
  | _ => ("WallPatience$Sitter", "downHour", "I", false)
def tyX6 : Nat → FieldType := fun k => match k with
  | 0 => .int
  | 1 => .int
  | 2 => .int
  | 3 => .int
  | 4 => .int
  | 5 => .int
  | 6 => .int
  | 7 => .int
  | 8 => .int
  | 9 => .boolean
  | _ => .int
theorem nmX6 : ∀ a, a < 11 → ∀ b, b < 11 → a ≠ b → (TX6 a).2.1 ≠ (TX6 b).2.1 := by decide +kernel
theorem tyX6_ok : ∀ k, k < 11 → parseFieldDescriptor (TX6 k).2.2.1 = some (tyX6 k) := by decide +kernel
abbrev cX6_init : ByteArray := prog_8_method_1_code
def yX6_init : MethodName := ⟨RX6, "<init>", "()V"⟩
abbrev cX6_takeFrom : ByteArray := prog_8_method_2_code
def yX6_takeFrom : MethodName := ⟨RX6, "takeFrom", "(LWallPatience$Sitter;)V"⟩
abbrev cX6_sitDown : ByteArray := prog_8_method_3_code
def yX6_sitDown : MethodName := ⟨RX6, "sitDown", "(I)V"⟩
abbrev cX6_sits : ByteArray := prog_8_method_4_code
def yX6_sits : MethodName := ⟨RX6, "sits", "()Z"⟩
abbrev cX6_canEat : ByteArray := prog_8_method_5_code
def yX6_canEat : MethodName := ⟨RX6, "canEat", "()Z"⟩
abbrev cX6_eatCrust : ByteArray := prog_8_method_6_code
def yX6_eatCrust : MethodName := ⟨RX6, "eatCrust", "()V"⟩
abbrev cX6_grows : ByteArray := prog_8_method_7_code
def yX6_grows : MethodName := ⟨RX6, "grows", "(IZ)I"⟩
abbrev cX6_chill : ByteArray := prog_8_method_8_code
def yX6_chill : MethodName := ⟨RX6, "chill", "(IZ)I"⟩
abbrev cX6_care : ByteArray := prog_8_method_9_code
def yX6_care : MethodName := ⟨RX6, "care", "()I"⟩
abbrev cX6_passHour : ByteArray := prog_8_method_10_code
def yX6_passHour : MethodName := ⟨RX6, "passHour", "(IZI)V"⟩
def RX7 : String := "WallPatience$Tape"
def TX7 : u_T := fun k => match k with
  | 0 => ("WallPatience$Tape", "bytes", "[I", true)
  | 1 => ("WallPatience$Tape", "length", "I", false)
  | 2 => ("WallPatience$Tape", "place", "I", false)
  | _ => ("WallPatience$Tape", "fault", "I", false)
def tyX7 : Nat → FieldType := fun k => match k with
  | 0 => .array .int
  | 1 => .int
  | 2 => .int
  | _ => .int
theorem nmX7 : ∀ a, a < 4 → ∀ b, b < 4 → a ≠ b → (TX7 a).2.1 ≠ (TX7 b).2.1 := by decide +kernel
theorem tyX7_ok : ∀ k, k < 4 → parseFieldDescriptor (TX7 k).2.2.1 = some (tyX7 k) := by decide +kernel
abbrev cX7_init : ByteArray := prog_9_method_1_code
def yX7_init : MethodName := ⟨RX7, "<init>", "()V"⟩
abbrev cX7_put : ByteArray := prog_9_method_2_code
def yX7_put : MethodName := ⟨RX7, "put", "(I)Z"⟩
abbrev cX7_readInto : ByteArray := prog_9_method_3_code
def yX7_readInto : MethodName := ⟨RX7, "readInto", "(LWallPatience$Wall;)I"⟩
abbrev cX7_readSitter : ByteArray := prog_9_method_4_code
def yX7_readSitter : MethodName := ⟨RX7, "readSitter", "(LWallPatience$Wall;)V"⟩
abbrev cX7_here : ByteArray := prog_9_method_5_code
def yX7_here : MethodName := ⟨RX7, "here", "()I"⟩
abbrev cX7_isFigure : ByteArray := prog_9_method_6_code
def yX7_isFigure : MethodName := ⟨RX7, "isFigure", "()Z"⟩
abbrev cX7_expect : ByteArray := prog_9_method_7_code
def yX7_expect : MethodName := ⟨RX7, "expect", "(I)V"⟩
abbrev cX7_readSort : ByteArray := prog_9_method_8_code
def yX7_readSort : MethodName := ⟨RX7, "readSort", "()I"⟩
abbrev cX7_readNumber : ByteArray := prog_9_method_9_code
def yX7_readNumber : MethodName := ⟨RX7, "readNumber", "(II)I"⟩
def RX8 : String := "WallPatience$Tour"
def TX8 : u_T := fun k => match k with
  | 0 => ("WallPatience$Tour", "columns", "[I", true)
  | 1 => ("WallPatience$Tour", "rows", "[I", true)
  | 2 => ("WallPatience$Tour", "walls", "I", false)
  | 3 => ("WallPatience$Tour", "shortest", "I", false)
  | _ => ("WallPatience$Tour", "firstStop", "I", false)
def tyX8 : Nat → FieldType := fun k => match k with
  | 0 => .array .int
  | 1 => .array .int
  | 2 => .int
  | 3 => .int
  | _ => .int
theorem nmX8 : ∀ a, a < 5 → ∀ b, b < 5 → a ≠ b → (TX8 a).2.1 ≠ (TX8 b).2.1 := by decide +kernel
theorem tyX8_ok : ∀ k, k < 5 → parseFieldDescriptor (TX8 k).2.2.1 = some (tyX8 k) := by decide +kernel
abbrev cX8_init : ByteArray := prog_10_method_1_code
def yX8_init : MethodName := ⟨RX8, "<init>", "()V"⟩
abbrev cX8_plan : ByteArray := prog_10_method_2_code
def yX8_plan : MethodName := ⟨RX8, "plan", "(LWallPatience$Sheet;II)V"⟩
abbrev cX8_between : ByteArray := prog_10_method_3_code
def yX8_between : MethodName := ⟨RX8, "between", "(II)I"⟩
abbrev cX8_wayFrom : ByteArray := prog_10_method_4_code
def yX8_wayFrom : MethodName := ⟨RX8, "wayFrom", "(LWallPatience$Tour;III)I"⟩
def RX9 : String := "WallPatience$Wall"
def TX9 : u_T := fun k => match k with
  | 0 => ("WallPatience$Wall", "sitters", "[LWallPatience$Sitter;", true)
  | 1 => ("WallPatience$Wall", "size", "I", false)
  | 2 => ("WallPatience$Wall", "duskHour", "I", false)
  | 3 => ("WallPatience$Wall", "toldCrusts", "I", false)
  | 4 => ("WallPatience$Wall", "hour", "I", false)
  | 5 => ("WallPatience$Wall", "sky", "I", false)
  | _ => ("WallPatience$Wall", "draw", "I", false)
def tyX9 : Nat → FieldType := fun k => match k with
  | 0 => .array (.object "WallPatience$Sitter")
  | 1 => .int
  | 2 => .int
  | 3 => .int
  | 4 => .int
  | 5 => .int
  | _ => .int
theorem nmX9 : ∀ a, a < 7 → ∀ b, b < 7 → a ≠ b → (TX9 a).2.1 ≠ (TX9 b).2.1 := by decide +kernel
theorem tyX9_ok : ∀ k, k < 7 → parseFieldDescriptor (TX9 k).2.2.1 = some (tyX9 k) := by decide +kernel
abbrev cX9_init : ByteArray := prog_11_method_1_code
def yX9_init : MethodName := ⟨RX9, "<init>", "()V"⟩
abbrev cX9_takeFrom : ByteArray := prog_11_method_2_code
def yX9_takeFrom : MethodName := ⟨RX9, "takeFrom", "(LWallPatience$Wall;)V"⟩
abbrev cX9_begin : ByteArray := prog_11_method_3_code
def yX9_begin : MethodName := ⟨RX9, "begin", "(II)V"⟩
abbrev cX9_stands : ByteArray := prog_11_method_4_code
def yX9_stands : MethodName := ⟨RX9, "stands", "()Z"⟩
abbrev cX9_has : ByteArray := prog_11_method_5_code
def yX9_has : MethodName := ⟨RX9, "has", "(I)Z"⟩
abbrev cX9_isNight : ByteArray := prog_11_method_6_code
def yX9_isNight : MethodName := ⟨RX9, "isNight", "()Z"⟩
abbrev cX9_sitting : ByteArray := prog_11_method_7_code
def yX9_sitting : MethodName := ⟨RX9, "sitting", "()I"⟩
abbrev cX9_cloaks : ByteArray := prog_11_method_8_code
def yX9_cloaks : MethodName := ⟨RX9, "cloaks", "()I"⟩
abbrev cX9_allCrusts : ByteArray := prog_11_method_9_code
def yX9_allCrusts : MethodName := ⟨RX9, "allCrusts", "()I"⟩
abbrev cX9_passHour : ByteArray := prog_11_method_10_code
def yX9_passHour : MethodName := ⟨RX9, "passHour", "()V"⟩
def RX10 : String := "WallPatience"
def TX10 : u_T := fun k => match k with
  | 0 => ("WallPatience", "tape", "LWallPatience$Tape;", true)
  | 1 => ("WallPatience", "wall", "LWallPatience$Wall;", true)
  | 2 => ("WallPatience", "draft", "LWallPatience$Wall;", true)
  | 3 => ("WallPatience", "history", "LWallPatience$History;", true)
  | 4 => ("WallPatience", "images", "[LWallPatience$Wall;", true)
  | 5 => ("WallPatience", "sheets", "[LWallPatience$Sheet;", true)
  | 6 => ("WallPatience", "forecast", "LWallPatience$Forecast;", true)
  | 7 => ("WallPatience", "chances", "LWallPatience$Chances;", true)
  | 8 => ("WallPatience", "seconds", "LWallPatience$Seconds;", true)
  | 9 => ("WallPatience", "tour", "LWallPatience$Tour;", true)
  | _ => ("WallPatience", "gossip", "LWallPatience$Gossip;", true)
def tyX10 : Nat → FieldType := fun k => match k with
  | 0 => .object "WallPatience$Tape"
  | 1 => .object "WallPatience$Wall"
  | 2 => .object "WallPatience$Wall"
  | 3 => .object "WallPatience$History"
  | 4 => .array (.object "WallPatience$Wall")
  | 5 => .array (.object "WallPatience$Sheet")
  | 6 => .object "WallPatience$Forecast"
  | 7 => .object "WallPatience$Chances"
  | 8 => .object "WallPatience$Seconds"
  | 9 => .object "WallPatience$Tour"
  | _ => .object "WallPatience$Gossip"
theorem nmX10 : ∀ a, a < 11 → ∀ b, b < 11 → a ≠ b → (TX10 a).2.1 ≠ (TX10 b).2.1 := by decide +kernel
theorem tyX10_ok : ∀ k, k < 11 → parseFieldDescriptor (TX10 k).2.2.1 = some (tyX10 k) := by decide +kernel
abbrev cX10_init : ByteArray := prog_1_method_1_code
def yX10_init : MethodName := ⟨RX10, "<init>", "()V"⟩
abbrev cX10_feed : ByteArray := prog_1_method_2_code
def yX10_feed : MethodName := ⟨RX10, "feed", "(I)I"⟩
abbrev cX10_wall : ByteArray := prog_1_method_3_code
def yX10_wall : MethodName := ⟨RX10, "wall", "()I"⟩
abbrev cX10_sitter : ByteArray := prog_1_method_4_code
def yX10_sitter : MethodName := ⟨RX10, "sitter", "(II)I"⟩
abbrev cX10_growth : ByteArray := prog_1_method_5_code
def yX10_growth : MethodName := ⟨RX10, "growth", "(II)I"⟩
abbrev cX10_as : ByteArray := prog_1_method_6_code
def yX10_as : MethodName := ⟨RX10, "as", "(II)I"⟩
abbrev cX10_hours : ByteArray := prog_1_method_7_code
def yX10_hours : MethodName := ⟨RX10, "hours", "(I)I"⟩
abbrev cX10_crust : ByteArray := prog_1_method_8_code
def yX10_crust : MethodName := ⟨RX10, "crust", "(I)I"⟩
abbrev cX10_news : ByteArray := prog_1_method_9_code
def yX10_news : MethodName := ⟨RX10, "news", "(II)I"⟩
abbrev cX10_praise : ByteArray := prog_1_method_10_code
def yX10_praise : MethodName := ⟨RX10, "praise", "(I)I"⟩
abbrev cX10_cloak : ByteArray := prog_1_method_11_code
def yX10_cloak : MethodName := ⟨RX10, "cloak", "(II)I"⟩
abbrev cX10_heir : ByteArray := prog_1_method_12_code
def yX10_heir : MethodName := ⟨RX10, "heir", "(I)I"⟩
abbrev cX10_undo : ByteArray := prog_1_method_13_code
def yX10_undo : MethodName := ⟨RX10, "undo", "()I"⟩
abbrev cX10_seed : ByteArray := prog_1_method_14_code
def yX10_seed : MethodName := ⟨RX10, "seed", "(I)I"⟩
abbrev cX10_image : ByteArray := prog_1_method_15_code
def yX10_image : MethodName := ⟨RX10, "image", "(I)I"⟩
abbrev cX10_restore : ByteArray := prog_1_method_16_code
def yX10_restore : MethodName := ⟨RX10, "restore", "(I)I"⟩
abbrev cX10_strain : ByteArray := prog_1_method_17_code
def yX10_strain : MethodName := ⟨RX10, "strain", "(II)I"⟩
abbrev cX10_down : ByteArray := prog_1_method_18_code
def yX10_down : MethodName := ⟨RX10, "down", "(I)I"⟩
abbrev cX10_duel : ByteArray := prog_1_method_19_code
def yX10_duel : MethodName := ⟨RX10, "duel", "(II)I"⟩
abbrev cX10_honour : ByteArray := prog_1_method_20_code
def yX10_honour : MethodName := ⟨RX10, "honour", "(I)I"⟩
abbrev cX10_eat : ByteArray := prog_1_method_21_code
def yX10_eat : MethodName := ⟨RX10, "eat", "(III)I"⟩
abbrev cX10_train : ByteArray := prog_1_method_22_code
def yX10_train : MethodName := ⟨RX10, "train", "(III)I"⟩
abbrev cX10_dusk : ByteArray := prog_1_method_23_code
def yX10_dusk : MethodName := ⟨RX10, "dusk", "(I)I"⟩
abbrev cX10_odds : ByteArray := prog_1_method_24_code
def yX10_odds : MethodName := ⟨RX10, "odds", "(IIIII)J"⟩
abbrev cX10_challenge : ByteArray := prog_1_method_25_code
def yX10_challenge : MethodName := ⟨RX10, "challenge", "(III)I"⟩
abbrev cX10_game : ByteArray := prog_1_method_26_code
def yX10_game : MethodName := ⟨RX10, "game", "(III)I"⟩
abbrev cX10_sheet : ByteArray := prog_1_method_27_code
def yX10_sheet : MethodName := ⟨RX10, "sheet", "(III)I"⟩
abbrev cX10_drop : ByteArray := prog_1_method_28_code
def yX10_drop : MethodName := ⟨RX10, "drop", "(I)I"⟩
abbrev cX10_item : ByteArray := prog_1_method_29_code
def yX10_item : MethodName := ⟨RX10, "item", "(IIIJ)J"⟩
abbrev cX10_copy : ByteArray := prog_1_method_30_code
def yX10_copy : MethodName := ⟨RX10, "copy", "(IIIII)I"⟩
abbrev cX10_film : ByteArray := prog_1_method_31_code
def yX10_film : MethodName := ⟨RX10, "film", "(IIIII)I"⟩
abbrev cX10_round : ByteArray := prog_1_method_32_code
def yX10_round : MethodName := ⟨RX10, "round", "(IIIII)I"⟩
abbrev cX10_goesOn : ByteArray := prog_1_method_33_code
def yX10_goesOn : MethodName := ⟨RX10, "goesOn", "(IIIII)I"⟩
abbrev cX10_told : ByteArray := prog_1_method_34_code
def yX10_told : MethodName := ⟨RX10, "told", "(IIIII)I"⟩
abbrev cX10_ate : ByteArray := prog_1_method_35_code
def yX10_ate : MethodName := ⟨RX10, "ate", "(IIIIII)I"⟩
abbrev cX10_count : ByteArray := prog_1_method_36_code
def yX10_count : MethodName := ⟨RX10, "count", "(I)I"⟩
abbrev cX10_within : ByteArray := prog_1_method_37_code
def yX10_within : MethodName := ⟨RX10, "within", "(III)Z"⟩
abbrev cX10_isUnder : ByteArray := prog_1_method_38_code
def yX10_isUnder : MethodName := ⟨RX10, "isUnder", "(II)Z"⟩
abbrev cX10_isDark : ByteArray := prog_1_method_39_code
def yX10_isDark : MethodName := ⟨RX10, "isDark", "(II)Z"⟩
abbrev cX10_drawAfter : ByteArray := prog_1_method_40_code
def yX10_drawAfter : MethodName := ⟨RX10, "drawAfter", "(I)I"⟩
abbrev cX10_refusesOne : ByteArray := prog_1_method_41_code
def yX10_refusesOne : MethodName := ⟨RX10, "refusesOne", "(I)I"⟩
abbrev cX10_refusesTwo : ByteArray := prog_1_method_42_code
def yX10_refusesTwo : MethodName := ⟨RX10, "refusesTwo", "(II)I"⟩
abbrev cX10_refusesRow : ByteArray := prog_1_method_43_code
def yX10_refusesRow : MethodName := ⟨RX10, "refusesRow", "(IIII)I"⟩
abbrev cX10_refusesPairs : ByteArray := prog_1_method_44_code
def yX10_refusesPairs : MethodName := ⟨RX10, "refusesPairs", "(IIIII)I"⟩
def RX11 : String := "WallPatienceModel"
def TX11 : u_T := fun k => match k with
  | 0 => ("WallPatienceModel", "w", "[I", true)
  | 1 => ("WallPatienceModel", "isKept", "[Z", true)
  | 2 => ("WallPatienceModel", "undoes", "I", false)
  | 3 => ("WallPatienceModel", "items", "[J", true)
  | 4 => ("WallPatienceModel", "sheetLane", "[I", true)
  | 5 => ("WallPatienceModel", "sheetSize", "[I", true)
  | 6 => ("WallPatienceModel", "tape", "[I", true)
  | 7 => ("WallPatienceModel", "taped", "I", false)
  | 8 => ("WallPatienceModel", "at", "I", false)
  | 9 => ("WallPatienceModel", "number", "I", false)
  | 10 => ("WallPatienceModel", "faultAt", "I", false)
  | 11 => ("WallPatienceModel", "skies", "[I", true)
  | 12 => ("WallPatienceModel", "oddsUp", "J", false)
  | 13 => ("WallPatienceModel", "oddsAll", "J", false)
  | 14 => ("WallPatienceModel", "edges", "[I", true)
  | 15 => ("WallPatienceModel", "held", "[J", true)
  | _ => ("WallPatienceModel", "ways", "[I", true)
def tyX11 : Nat → FieldType := fun k => match k with
  | 0 => .array .int
  | 1 => .array .boolean
  | 2 => .int
  | 3 => .array .long
  | 4 => .array .int
  | 5 => .array .int
  | 6 => .array .int
  | 7 => .int
  | 8 => .int
  | 9 => .int
  | 10 => .int
  | 11 => .array .int
  | 12 => .long
  | 13 => .long
  | 14 => .array .int
  | 15 => .array .long
  | _ => .array .int
theorem nmX11 : ∀ a, a < 17 → ∀ b, b < 17 → a ≠ b → (TX11 a).2.1 ≠ (TX11 b).2.1 := by decide +kernel
theorem tyX11_ok : ∀ k, k < 17 → parseFieldDescriptor (TX11 k).2.2.1 = some (tyX11 k) := by decide +kernel
abbrev cX11_init : ByteArray := prog_13_method_1_code
def yX11_init : MethodName := ⟨RX11, "<init>", "()V"⟩
abbrev cX11_in : ByteArray := prog_13_method_3_code
def yX11_in : MethodName := ⟨RX11, "in", "(JJJ)Z"⟩
abbrev cX11_has : ByteArray := prog_13_method_4_code
def yX11_has : MethodName := ⟨RX11, "has", "(II)Z"⟩
abbrev cX11_ones : ByteArray := prog_13_method_5_code
def yX11_ones : MethodName := ⟨RX11, "ones", "(I)I"⟩
abbrev cX11_copyRow : ByteArray := prog_13_method_6_code
def yX11_copyRow : MethodName := ⟨RX11, "copyRow", "(II)V"⟩
abbrev cX11_isSitter : ByteArray := prog_13_method_7_code
def yX11_isSitter : MethodName := ⟨RX11, "isSitter", "(I)Z"⟩
abbrev cX11_isDown : ByteArray := prog_13_method_8_code
def yX11_isDown : MethodName := ⟨RX11, "isDown", "(II)Z"⟩
abbrev cX11_feed : ByteArray := prog_13_method_9_code
def yX11_feed : MethodName := ⟨RX11, "feed", "(I)I"⟩
abbrev cX11_byteAt : ByteArray := prog_13_method_10_code
def yX11_byteAt : MethodName := ⟨RX11, "byteAt", "(I)I"⟩
abbrev cX11_fails : ByteArray := prog_13_method_11_code
def yX11_fails : MethodName := ⟨RX11, "fails", "(I)Z"⟩
abbrev cX11_takes : ByteArray := prog_13_method_12_code
def yX11_takes : MethodName := ⟨RX11, "takes", "(I)Z"⟩
abbrev cX11_takesNumber : ByteArray := prog_13_method_13_code
def yX11_takesNumber : MethodName := ⟨RX11, "takesNumber", "(III)Z"⟩
abbrev cX11_kindBy : ByteArray := prog_13_method_14_code
def yX11_kindBy : MethodName := ⟨RX11, "kindBy", "(I)I"⟩
abbrev cX11_takesSitter : ByteArray := prog_13_method_15_code
def yX11_takesSitter : MethodName := ⟨RX11, "takesSitter", "()Z"⟩
abbrev cX11_takesWall : ByteArray := prog_13_method_16_code
def yX11_takesWall : MethodName := ⟨RX11, "takesWall", "()Z"⟩
abbrev cX11_wall : ByteArray := prog_13_method_17_code
def yX11_wall : MethodName := ⟨RX11, "wall", "()I"⟩
abbrev cX11_isNight : ByteArray := prog_13_method_18_code
def yX11_isNight : MethodName := ⟨RX11, "isNight", "(I)Z"⟩
abbrev cX11_growthIn : ByteArray := prog_13_method_19_code
def yX11_growthIn : MethodName := ⟨RX11, "growthIn", "(III)I"⟩
abbrev cX11_passesBy : ByteArray := prog_13_method_20_code
def yX11_passesBy : MethodName := ⟨RX11, "passesBy", "(II)V"⟩
abbrev cX11_passes : ByteArray := prog_13_method_21_code
def yX11_passes : MethodName := ⟨RX11, "passes", "(I)V"⟩
abbrev cX11_eats : ByteArray := prog_13_method_22_code
def yX11_eats : MethodName := ⟨RX11, "eats", "(II)V"⟩
abbrev cX11_sittingIn : ByteArray := prog_13_method_23_code
def yX11_sittingIn : MethodName := ⟨RX11, "sittingIn", "(I)I"⟩
abbrev cX11_sitter : ByteArray := prog_13_method_24_code
def yX11_sitter : MethodName := ⟨RX11, "sitter", "(II)I"⟩
abbrev cX11_growth : ByteArray := prog_13_method_25_code
def yX11_growth : MethodName := ⟨RX11, "growth", "(II)I"⟩
abbrev cX11_as : ByteArray := prog_13_method_26_code
def yX11_as : MethodName := ⟨RX11, "as", "(II)I"⟩
abbrev cX11_minds : ByteArray := prog_13_method_27_code
def yX11_minds : MethodName := ⟨RX11, "minds", "()V"⟩
abbrev cX11_hours : ByteArray := prog_13_method_28_code
def yX11_hours : MethodName := ⟨RX11, "hours", "(I)I"⟩
abbrev cX11_crust : ByteArray := prog_13_method_29_code
def yX11_crust : MethodName := ⟨RX11, "crust", "(I)I"⟩
abbrev cX11_news : ByteArray := prog_13_method_30_code
def yX11_news : MethodName := ⟨RX11, "news", "(II)I"⟩
abbrev cX11_praise : ByteArray := prog_13_method_31_code
def yX11_praise : MethodName := ⟨RX11, "praise", "(I)I"⟩
abbrev cX11_cloak : ByteArray := prog_13_method_32_code
def yX11_cloak : MethodName := ⟨RX11, "cloak", "(II)I"⟩
abbrev cX11_heir : ByteArray := prog_13_method_33_code
def yX11_heir : MethodName := ⟨RX11, "heir", "(I)I"⟩
abbrev cX11_undo : ByteArray := prog_13_method_34_code
def yX11_undo : MethodName := ⟨RX11, "undo", "()I"⟩
abbrev cX11_seed : ByteArray := prog_13_method_35_code
def yX11_seed : MethodName := ⟨RX11, "seed", "(I)I"⟩
abbrev cX11_image : ByteArray := prog_13_method_36_code
def yX11_image : MethodName := ⟨RX11, "image", "(I)I"⟩
abbrev cX11_restore : ByteArray := prog_13_method_37_code
def yX11_restore : MethodName := ⟨RX11, "restore", "(I)I"⟩
abbrev cX11_passesMany : ByteArray := prog_13_method_38_code
def yX11_passesMany : MethodName := ⟨RX11, "passesMany", "(I)V"⟩
abbrev cX11_strain : ByteArray := prog_13_method_39_code
def yX11_strain : MethodName := ⟨RX11, "strain", "(II)I"⟩
abbrev cX11_downIn : ByteArray := prog_13_method_40_code
def yX11_downIn : MethodName := ⟨RX11, "downIn", "(I)I"⟩
abbrev cX11_triesSixty : ByteArray := prog_13_method_41_code
def yX11_triesSixty : MethodName := ⟨RX11, "triesSixty", "()V"⟩
abbrev cX11_down : ByteArray := prog_13_method_42_code
def yX11_down : MethodName := ⟨RX11, "down", "(I)I"⟩
abbrev cX11_areTwo : ByteArray := prog_13_method_43_code
def yX11_areTwo : MethodName := ⟨RX11, "areTwo", "(II)Z"⟩
abbrev cX11_duel : ByteArray := prog_13_method_44_code
def yX11_duel : MethodName := ⟨RX11, "duel", "(II)I"⟩
abbrev cX11_honour : ByteArray := prog_13_method_45_code
def yX11_honour : MethodName := ⟨RX11, "honour", "(I)I"⟩
abbrev cX11_sitsBy : ByteArray := prog_13_method_46_code
def yX11_sitsBy : MethodName := ⟨RX11, "sitsBy", "(III)I"⟩
abbrev cX11_eat : ByteArray := prog_13_method_47_code
def yX11_eat : MethodName := ⟨RX11, "eat", "(III)I"⟩
abbrev cX11_train : ByteArray := prog_13_method_48_code
def yX11_train : MethodName := ⟨RX11, "train", "(III)I"⟩
abbrev cX11_isEnough : ByteArray := prog_13_method_49_code
def yX11_isEnough : MethodName := ⟨RX11, "isEnough", "(IIIII)Z"⟩
abbrev cX11_dusk : ByteArray := prog_13_method_50_code
def yX11_dusk : MethodName := ⟨RX11, "dusk", "(I)I"⟩
abbrev cX11_findOdds : ByteArray := prog_13_method_51_code
def yX11_findOdds : MethodName := ⟨RX11, "findOdds", "(IIII)V"⟩
abbrev cX11_isSpan : ByteArray := prog_13_method_52_code
def yX11_isSpan : MethodName := ⟨RX11, "isSpan", "(II)Z"⟩
abbrev cX11_odds : ByteArray := prog_13_method_53_code
def yX11_odds : MethodName := ⟨RX11, "odds", "(IIIII)J"⟩
abbrev cX11_challenge : ByteArray := prog_13_method_54_code
def yX11_challenge : MethodName := ⟨RX11, "challenge", "(III)I"⟩
abbrev cX11_turns : ByteArray := prog_13_method_55_code
def yX11_turns : MethodName := ⟨RX11, "turns", "(III)V"⟩
abbrev cX11_edgeNow : ByteArray := prog_13_method_56_code
def yX11_edgeNow : MethodName := ⟨RX11, "edgeNow", "(II)I"⟩
abbrev cX11_game : ByteArray := prog_13_method_57_code
def yX11_game : MethodName := ⟨RX11, "game", "(III)I"⟩
abbrev cX11_isSheet : ByteArray := prog_13_method_58_code
def yX11_isSheet : MethodName := ⟨RX11, "isSheet", "(I)Z"⟩
abbrev cX11_sheet : ByteArray := prog_13_method_59_code
def yX11_sheet : MethodName := ⟨RX11, "sheet", "(III)I"⟩
abbrev cX11_drop : ByteArray := prog_13_method_60_code
def yX11_drop : MethodName := ⟨RX11, "drop", "(I)I"⟩
abbrev cX11_against : ByteArray := prog_13_method_61_code
def yX11_against : MethodName := ⟨RX11, "against", "(IIII)I"⟩
abbrev cX11_isLane : ByteArray := prog_13_method_62_code
def yX11_isLane : MethodName := ⟨RX11, "isLane", "(II)Z"⟩
abbrev cX11_cut : ByteArray := prog_13_method_63_code
def yX11_cut : MethodName := ⟨RX11, "cut", "(IJ)J"⟩
abbrev cX11_item : ByteArray := prog_13_method_64_code
def yX11_item : MethodName := ⟨RX11, "item", "(IIIJ)J"⟩
abbrev cX11_copy : ByteArray := prog_13_method_65_code
def yX11_copy : MethodName := ⟨RX11, "copy", "(IIIII)I"⟩
abbrev cX11_film : ByteArray := prog_13_method_66_code
def yX11_film : MethodName := ⟨RX11, "film", "(IIIII)I"⟩
abbrev cX11_areWithin : ByteArray := prog_13_method_67_code
def yX11_areWithin : MethodName := ⟨RX11, "areWithin", "(III)Z"⟩
abbrev cX11_off : ByteArray := prog_13_method_68_code
def yX11_off : MethodName := ⟨RX11, "off", "(JJ)I"⟩
abbrev cX11_wayOf : ByteArray := prog_13_method_69_code
def yX11_wayOf : MethodName := ⟨RX11, "wayOf", "(III)I"⟩
abbrev cX11_layWays : ByteArray := prog_13_method_70_code
def yX11_layWays : MethodName := ⟨RX11, "layWays", "(II)V"⟩
abbrev cX11_round : ByteArray := prog_13_method_71_code
def yX11_round : MethodName := ⟨RX11, "round", "(IIIII)I"⟩
abbrev cX11_knowBy : ByteArray := prog_13_method_72_code
def yX11_knowBy : MethodName := ⟨RX11, "knowBy", "(III)I"⟩
abbrev cX11_goesOn : ByteArray := prog_13_method_73_code
def yX11_goesOn : MethodName := ⟨RX11, "goesOn", "(IIIII)I"⟩
abbrev cX11_told : ByteArray := prog_13_method_74_code
def yX11_told : MethodName := ⟨RX11, "told", "(IIIII)I"⟩
abbrev cX11_ate : ByteArray := prog_13_method_75_code
def yX11_ate : MethodName := ⟨RX11, "ate", "(IIIIII)I"⟩
abbrev cX11_crustsOfAll : ByteArray := prog_13_method_76_code
def yX11_crustsOfAll : MethodName := ⟨RX11, "crustsOfAll", "()I"⟩
abbrev cX11_count : ByteArray := prog_13_method_77_code
def yX11_count : MethodName := ⟨RX11, "count", "(I)I"⟩
def RJ6 : String := "java/lang/Integer"
def TJ6 : u_T := fun k => match k with
  | _ => ("", "", "", false)
def tyJ6 : Nat → FieldType := fun k => match k with
  | _ => .int
theorem nmJ6 : ∀ a, a < 0 → ∀ b, b < 0 → a ≠ b → (TJ6 a).2.1 ≠ (TJ6 b).2.1 := by decide +kernel
theorem tyJ6_ok : ∀ k, k < 0 → parseFieldDescriptor (TJ6 k).2.2.1 = some (tyJ6 k) := by decide +kernel
abbrev cJ6_compare_7cf53 : ByteArray := prog_14_method_40_code
def yJ6_compare_7cf53 : MethodName := ⟨RJ6, "compare", "(II)I"⟩
abbrev cJ6_bitCount_0f7a4 : ByteArray := prog_14_method_49_code
def yJ6_bitCount_0f7a4 : MethodName := ⟨RJ6, "bitCount", "(I)I"⟩
def RJ9 : String := "java/lang/Math"
def TJ9 : u_T := fun k => match k with
  | _ => ("", "", "", false)
def tyJ9 : Nat → FieldType := fun k => match k with
  | _ => .int
theorem nmJ9 : ∀ a, a < 0 → ∀ b, b < 0 → a ≠ b → (TJ9 a).2.1 ≠ (TJ9 b).2.1 := by decide +kernel
theorem tyJ9_ok : ∀ k, k < 0 → parseFieldDescriptor (TJ9 k).2.2.1 = some (tyJ9 k) := by decide +kernel
abbrev cJ9_abs_0f7a4 : ByteArray := prog_15_method_59_code
def yJ9_abs_0f7a4 : MethodName := ⟨RJ9, "abs", "(I)I"⟩
abbrev cJ9_max_7cf53 : ByteArray := prog_15_method_65_code
def yJ9_max_7cf53 : MethodName := ⟨RJ9, "max", "(II)I"⟩
abbrev cJ9_min_7cf53 : ByteArray := prog_15_method_69_code
def yJ9_min_7cf53 : MethodName := ⟨RJ9, "min", "(II)I"⟩
def RJ10 : String := "java/lang/System"
def TJ10 : u_T := fun k => match k with
  | _ => ("", "", "", false)
def tyJ10 : Nat → FieldType := fun k => match k with
  | _ => .int
theorem nmJ10 : ∀ a, a < 0 → ∀ b, b < 0 → a ≠ b → (TJ10 a).2.1 ≠ (TJ10 b).2.1 := by decide +kernel
theorem tyJ10_ok : ∀ k, k < 0 → parseFieldDescriptor (TJ10 k).2.2.1 = some (tyJ10 k) := by decide +kernel
def RL : String := "WallPatienceLaw"
abbrev cL_law : ByteArray := code
def yL_law : MethodName := ⟨RL, "law", "([I)Z"⟩
abbrev vwCl : List vw_C := [(RX0, TX0, 7), (RX1, TX1, 6), (RX2, TX2, 4), (RX3, TX3, 3), (RX4, TX4, 3), (RX5, TX5, 3), (RX6, TX6, 11), (RX7, TX7, 4), (RX8, TX8, 5), (RX9, TX9, 7), (RX10, TX10, 11), (RX11, TX11, 17)]
end
section
theorem dX0_init_0 : decode cX0_init 0 = .ok (.aload_n 0, 1) := by decide +kernel
theorem dX0_init_1 : decode cX0_init 1 = .ok (.invokespecial 3, 3) := by decide +kernel
theorem dX0_init_4 : decode cX0_init 4 = .ok (.aload_n 0, 1) := by decide +kernel
theorem dX0_init_5 : decode cX0_init 5 = .ok (.bipush 10, 2) := by decide +kernel
theorem dX0_init_7 : decode cX0_init 7 = .ok (.newarray .boolean, 2) := by decide +kernel
theorem dX0_init_9 : decode cX0_init 9 = .ok (.putfield 9, 3) := by decide +kernel
theorem dX0_init_12 : decode cX0_init 12 = .ok (.aload_n 0, 1) := by decide +kernel
theorem dX0_init_13 : decode cX0_init 13 = .ok (.iconst 2, 1) := by decide +kernel
theorem dX0_init_14 : decode cX0_init 14 = .ok (.bipush 10, 2) := by decide +kernel
theorem dX0_init_16 : decode cX0_init 16 = .ok (.multianewarray 15 2, 4) := by decide +kernel
theorem dX0_init_20 : decode cX0_init 20 = .ok (.putfield 17, 3) := by decide +kernel
theorem dX0_init_23 : decode cX0_init 23 = .ok (.aload_n 0, 1) := by decide +kernel
theorem dX0_init_24 : decode cX0_init 24 = .ok (.iconst 2, 1) := by decide +kernel
theorem dX0_init_25 : decode cX0_init 25 = .ok (.bipush 10, 2) := by decide +kernel
theorem dX0_init_27 : decode cX0_init 27 = .ok (.multianewarray 15 2, 4) := by decide +kernel
theorem dX0_init_31 : decode cX0_init 31 = .ok (.putfield 20, 3) := by decide +kernel
theorem dX0_init_34 : decode cX0_init 34 = .ok (.return_, 1) := by decide +kernel
theorem dX0_weigh_0 : decode cX0_weigh 0 = .ok (.aload_n 0, 1) := by decide +kernel
theorem dX0_weigh_1 : decode cX0_weigh 1 = .ok (.iload_n 2, 1) := by decide +kernel
theorem dX0_weigh_2 : decode cX0_weigh 2 = .ok (.bipush 10, 2) := by decide +kernel
theorem dX0_weigh_4 : decode cX0_weigh 4 = .ok (.invokestatic 23, 3) := by decide +kernel
theorem dX0_weigh_7 : decode cX0_weigh 7 = .ok (.putfield 29, 3) := by decide +kernel
theorem dX0_weigh_10 : decode cX0_weigh 10 = .ok (.aload_n 0, 1) := by decide +kernel
theorem dX0_weigh_11 : decode cX0_weigh 11 = .ok (.iload_n 3, 1) := by decide +kernel
theorem dX0_weigh_12 : decode cX0_weigh 12 = .ok (.putfield 33, 3) := by decide +kernel
theorem dX0_weigh_15 : decode cX0_weigh 15 = .ok (.iconst 0, 1) := by decide +kernel
theorem dX0_weigh_16 : decode cX0_weigh 16 = .ok (.istore 4, 2) := by decide +kernel
theorem dX0_weigh_18 : decode cX0_weigh 18 = .ok (.iload 4, 2) := by decide +kernel
theorem dX0_weigh_20 : decode cX0_weigh 20 = .ok (.aload_n 0, 1) := by decide +kernel
theorem dX0_weigh_21 : decode cX0_weigh 21 = .ok (.getfield 29, 3) := by decide +kernel
theorem dX0_weigh_24 : decode cX0_weigh 24 = .ok (.if_icmp .ge 30, 3) := by decide +kernel
theorem dX0_weigh_27 : decode cX0_weigh 27 = .ok (.aload_n 0, 1) := by decide +kernel
theorem dX0_weigh_28 : decode cX0_weigh 28 = .ok (.getfield 9, 3) := by decide +kernel
theorem dX0_weigh_31 : decode cX0_weigh 31 = .ok (.iload 4, 2) := by decide +kernel
theorem dX0_weigh_33 : decode cX0_weigh 33 = .ok (.aload_n 1, 1) := by decide +kernel
theorem dX0_weigh_34 : decode cX0_weigh 34 = .ok (.getfield 36, 3) := by decide +kernel
theorem dX0_weigh_37 : decode cX0_weigh 37 = .ok (.iload 4, 2) := by decide +kernel
theorem dX0_weigh_39 : decode cX0_weigh 39 = .ok (.iadd, 1) := by decide +kernel
theorem dX0_weigh_40 : decode cX0_weigh 40 = .ok (.aload_n 1, 1) := by decide +kernel
theorem dX0_weigh_41 : decode cX0_weigh 41 = .ok (.getfield 41, 3) := by decide +kernel
theorem dX0_weigh_44 : decode cX0_weigh 44 = .ok (.invokestatic 44, 3) := by decide +kernel
theorem dX0_weigh_47 : decode cX0_weigh 47 = .ok (.bastore, 1) := by decide +kernel
theorem dX0_weigh_48 : decode cX0_weigh 48 = .ok (.iinc 4 1, 3) := by decide +kernel
theorem dX0_weigh_51 : decode cX0_weigh 51 = .ok (.goto (-33), 3) := by decide +kernel
theorem dX0_weigh_54 : decode cX0_weigh 54 = .ok (.return_, 1) := by decide +kernel
theorem dX0_waysToOutlast_0 : decode cX0_waysToOutlast 0 = .ok (.iconst 0, 1) := by decide +kernel
theorem dX0_waysToOutlast_1 : decode cX0_waysToOutlast 1 = .ok (.istore_n 3, 1) := by decide +kernel
theorem dX0_waysToOutlast_2 : decode cX0_waysToOutlast 2 = .ok (.iload_n 3, 1) := by decide +kernel
theorem dX0_waysToOutlast_3 : decode cX0_waysToOutlast 3 = .ok (.aload_n 0, 1) := by decide +kernel
theorem dX0_waysToOutlast_4 : decode cX0_waysToOutlast 4 = .ok (.getfield 29, 3) := by decide +kernel
theorem dX0_waysToOutlast_7 : decode cX0_waysToOutlast 7 = .ok (.if_icmp .ge 85, 3) := by decide +kernel
theorem dX0_waysToOutlast_10 : decode cX0_waysToOutlast 10 = .ok (.aload_n 0, 1) := by decide +kernel
theorem dX0_waysToOutlast_11 : decode cX0_waysToOutlast 11 = .ok (.getfield 17, 3) := by decide +kernel
theorem dX0_waysToOutlast_14 : decode cX0_waysToOutlast 14 = .ok (.iconst 0, 1) := by decide +kernel
theorem dX0_waysToOutlast_15 : decode cX0_waysToOutlast 15 = .ok (.aaload, 1) := by decide +kernel
theorem dX0_waysToOutlast_16 : decode cX0_waysToOutlast 16 = .ok (.iload_n 3, 1) := by decide +kernel
theorem dX0_waysToOutlast_17 : decode cX0_waysToOutlast 17 = .ok (.aload_n 1, 1) := by decide +kernel
theorem dX0_waysToOutlast_18 : decode cX0_waysToOutlast 18 = .ok (.iconst 0, 1) := by decide +kernel
theorem dX0_waysToOutlast_19 : decode cX0_waysToOutlast 19 = .ok (.aload_n 0, 1) := by decide +kernel
theorem dX0_waysToOutlast_20 : decode cX0_waysToOutlast 20 = .ok (.getfield 9, 3) := by decide +kernel
theorem dX0_waysToOutlast_23 : decode cX0_waysToOutlast 23 = .ok (.iload_n 3, 1) := by decide +kernel
theorem dX0_waysToOutlast_24 : decode cX0_waysToOutlast 24 = .ok (.baload, 1) := by decide +kernel
theorem dX0_waysToOutlast_25 : decode cX0_waysToOutlast 25 = .ok (.invokevirtual 48, 3) := by decide +kernel
theorem dX0_waysToOutlast_28 : decode cX0_waysToOutlast 28 = .ok (.iastore, 1) := by decide +kernel
theorem dX0_waysToOutlast_29 : decode cX0_waysToOutlast 29 = .ok (.aload_n 0, 1) := by decide +kernel
theorem dX0_waysToOutlast_30 : decode cX0_waysToOutlast 30 = .ok (.getfield 17, 3) := by decide +kernel
theorem dX0_waysToOutlast_33 : decode cX0_waysToOutlast 33 = .ok (.iconst 1, 1) := by decide +kernel
theorem dX0_waysToOutlast_34 : decode cX0_waysToOutlast 34 = .ok (.aaload, 1) := by decide +kernel
theorem dX0_waysToOutlast_35 : decode cX0_waysToOutlast 35 = .ok (.iload_n 3, 1) := by decide +kernel
theorem dX0_waysToOutlast_36 : decode cX0_waysToOutlast 36 = .ok (.aload_n 1, 1) := by decide +kernel
theorem dX0_waysToOutlast_37 : decode cX0_waysToOutlast 37 = .ok (.iconst 1, 1) := by decide +kernel
theorem dX0_waysToOutlast_38 : decode cX0_waysToOutlast 38 = .ok (.aload_n 0, 1) := by decide +kernel
theorem dX0_waysToOutlast_39 : decode cX0_waysToOutlast 39 = .ok (.getfield 9, 3) := by decide +kernel
theorem dX0_waysToOutlast_42 : decode cX0_waysToOutlast 42 = .ok (.iload_n 3, 1) := by decide +kernel
theorem dX0_waysToOutlast_43 : decode cX0_waysToOutlast 43 = .ok (.baload, 1) := by decide +kernel
theorem dX0_waysToOutlast_44 : decode cX0_waysToOutlast 44 = .ok (.invokevirtual 48, 3) := by decide +kernel
theorem dX0_waysToOutlast_47 : decode cX0_waysToOutlast 47 = .ok (.iastore, 1) := by decide +kernel
theorem dX0_waysToOutlast_48 : decode cX0_waysToOutlast 48 = .ok (.aload_n 0, 1) := by decide +kernel
theorem dX0_waysToOutlast_49 : decode cX0_waysToOutlast 49 = .ok (.getfield 20, 3) := by decide +kernel
theorem dX0_waysToOutlast_52 : decode cX0_waysToOutlast 52 = .ok (.iconst 0, 1) := by decide +kernel
theorem dX0_waysToOutlast_53 : decode cX0_waysToOutlast 53 = .ok (.aaload, 1) := by decide +kernel
theorem dX0_waysToOutlast_54 : decode cX0_waysToOutlast 54 = .ok (.iload_n 3, 1) := by decide +kernel
theorem dX0_waysToOutlast_55 : decode cX0_waysToOutlast 55 = .ok (.aload_n 2, 1) := by decide +kernel
theorem dX0_waysToOutlast_56 : decode cX0_waysToOutlast 56 = .ok (.iconst 0, 1) := by decide +kernel
theorem dX0_waysToOutlast_57 : decode cX0_waysToOutlast 57 = .ok (.aload_n 0, 1) := by decide +kernel
theorem dX0_waysToOutlast_58 : decode cX0_waysToOutlast 58 = .ok (.getfield 9, 3) := by decide +kernel
theorem dX0_waysToOutlast_61 : decode cX0_waysToOutlast 61 = .ok (.iload_n 3, 1) := by decide +kernel
theorem dX0_waysToOutlast_62 : decode cX0_waysToOutlast 62 = .ok (.baload, 1) := by decide +kernel
theorem dX0_waysToOutlast_63 : decode cX0_waysToOutlast 63 = .ok (.invokevirtual 48, 3) := by decide +kernel
theorem dX0_waysToOutlast_66 : decode cX0_waysToOutlast 66 = .ok (.iastore, 1) := by decide +kernel
theorem dX0_waysToOutlast_67 : decode cX0_waysToOutlast 67 = .ok (.aload_n 0, 1) := by decide +kernel
theorem dX0_waysToOutlast_68 : decode cX0_waysToOutlast 68 = .ok (.getfield 20, 3) := by decide +kernel
theorem dX0_waysToOutlast_71 : decode cX0_waysToOutlast 71 = .ok (.iconst 1, 1) := by decide +kernel
theorem dX0_waysToOutlast_72 : decode cX0_waysToOutlast 72 = .ok (.aaload, 1) := by decide +kernel
theorem dX0_waysToOutlast_73 : decode cX0_waysToOutlast 73 = .ok (.iload_n 3, 1) := by decide +kernel
theorem dX0_waysToOutlast_74 : decode cX0_waysToOutlast 74 = .ok (.aload_n 2, 1) := by decide +kernel
theorem dX0_waysToOutlast_75 : decode cX0_waysToOutlast 75 = .ok (.iconst 1, 1) := by decide +kernel
theorem dX0_waysToOutlast_76 : decode cX0_waysToOutlast 76 = .ok (.aload_n 0, 1) := by decide +kernel
theorem dX0_waysToOutlast_77 : decode cX0_waysToOutlast 77 = .ok (.getfield 9, 3) := by decide +kernel
theorem dX0_waysToOutlast_80 : decode cX0_waysToOutlast 80 = .ok (.iload_n 3, 1) := by decide +kernel
theorem dX0_waysToOutlast_81 : decode cX0_waysToOutlast 81 = .ok (.baload, 1) := by decide +kernel
theorem dX0_waysToOutlast_82 : decode cX0_waysToOutlast 82 = .ok (.invokevirtual 48, 3) := by decide +kernel
theorem dX0_waysToOutlast_85 : decode cX0_waysToOutlast 85 = .ok (.iastore, 1) := by decide +kernel
theorem dX0_waysToOutlast_86 : decode cX0_waysToOutlast 86 = .ok (.iinc 3 1, 3) := by decide +kernel
theorem dX0_waysToOutlast_89 : decode cX0_waysToOutlast 89 = .ok (.goto (-87), 3) := by decide +kernel
theorem dX0_waysToOutlast_92 : decode cX0_waysToOutlast 92 = .ok (.aload_n 0, 1) := by decide +kernel
theorem dX0_waysToOutlast_93 : decode cX0_waysToOutlast 93 = .ok (.aload_n 1, 1) := by decide +kernel
theorem dX0_waysToOutlast_94 : decode cX0_waysToOutlast 94 = .ok (.getfield 54, 3) := by decide +kernel
theorem dX0_waysToOutlast_97 : decode cX0_waysToOutlast 97 = .ok (.putfield 57, 3) := by decide +kernel
theorem dX0_waysToOutlast_100 : decode cX0_waysToOutlast 100 = .ok (.aload_n 0, 1) := by decide +kernel
theorem dX0_waysToOutlast_101 : decode cX0_waysToOutlast 101 = .ok (.aload_n 2, 1) := by decide +kernel
theorem dX0_waysToOutlast_102 : decode cX0_waysToOutlast 102 = .ok (.getfield 54, 3) := by decide +kernel
theorem dX0_waysToOutlast_105 : decode cX0_waysToOutlast 105 = .ok (.putfield 60, 3) := by decide +kernel
theorem dX0_waysToOutlast_108 : decode cX0_waysToOutlast 108 = .ok (.aload_n 0, 1) := by decide +kernel
theorem dX0_waysToOutlast_109 : decode cX0_waysToOutlast 109 = .ok (.iconst 0, 1) := by decide +kernel
theorem dX0_waysToOutlast_110 : decode cX0_waysToOutlast 110 = .ok (.aload_n 1, 1) := by decide +kernel
theorem dX0_waysToOutlast_111 : decode cX0_waysToOutlast 111 = .ok (.getfield 63, 3) := by decide +kernel
theorem dX0_waysToOutlast_114 : decode cX0_waysToOutlast 114 = .ok (.aload_n 2, 1) := by decide +kernel
theorem dX0_waysToOutlast_115 : decode cX0_waysToOutlast 115 = .ok (.getfield 63, 3) := by decide +kernel
theorem dX0_waysToOutlast_118 : decode cX0_waysToOutlast 118 = .ok (.invokestatic 66, 3) := by decide +kernel
theorem dX0_waysToOutlast_121 : decode cX0_waysToOutlast 121 = .ok (.lreturn, 1) := by decide +kernel
theorem dX0_waysFrom_0 : decode cX0_waysFrom 0 = .ok (.iload_n 1, 1) := by decide +kernel
theorem dX0_waysFrom_1 : decode cX0_waysFrom 1 = .ok (.aload_n 0, 1) := by decide +kernel
theorem dX0_waysFrom_2 : decode cX0_waysFrom 2 = .ok (.getfield 29, 3) := by decide +kernel
theorem dX0_waysFrom_5 : decode cX0_waysFrom 5 = .ok (.if_icmp .lt 5, 3) := by decide +kernel
theorem dX0_waysFrom_8 : decode cX0_waysFrom 8 = .ok (.lconst 0, 1) := by decide +kernel
theorem dX0_waysFrom_9 : decode cX0_waysFrom 9 = .ok (.lreturn, 1) := by decide +kernel
theorem dX0_waysFrom_10 : decode cX0_waysFrom 10 = .ok (.lconst 0, 1) := by decide +kernel
theorem dX0_waysFrom_11 : decode cX0_waysFrom 11 = .ok (.lstore 4, 2) := by decide +kernel
theorem dX0_waysFrom_13 : decode cX0_waysFrom 13 = .ok (.iconst 0, 1) := by decide +kernel
theorem dX0_waysFrom_14 : decode cX0_waysFrom 14 = .ok (.istore 6, 2) := by decide +kernel
theorem dX0_waysFrom_16 : decode cX0_waysFrom 16 = .ok (.iload 6, 2) := by decide +kernel
theorem dX0_waysFrom_18 : decode cX0_waysFrom 18 = .ok (.iconst 2, 1) := by decide +kernel
theorem dX0_waysFrom_19 : decode cX0_waysFrom 19 = .ok (.if_icmp .ge 129, 3) := by decide +kernel
theorem dX0_waysFrom_22 : decode cX0_waysFrom 22 = .ok (.iload 6, 2) := by decide +kernel
theorem dX0_waysFrom_24 : decode cX0_waysFrom 24 = .ok (.iconst 1, 1) := by decide +kernel
theorem dX0_waysFrom_25 : decode cX0_waysFrom 25 = .ok (.if_icmp .ne 10, 3) := by decide +kernel
theorem dX0_waysFrom_28 : decode cX0_waysFrom 28 = .ok (.aload_n 0, 1) := by decide +kernel
theorem dX0_waysFrom_29 : decode cX0_waysFrom 29 = .ok (.getfield 33, 3) := by decide +kernel
theorem dX0_waysFrom_32 : decode cX0_waysFrom 32 = .ok (.goto 10, 3) := by decide +kernel
theorem dX0_waysFrom_35 : decode cX0_waysFrom 35 = .ok (.bipush 10, 2) := by decide +kernel
theorem dX0_waysFrom_37 : decode cX0_waysFrom 37 = .ok (.aload_n 0, 1) := by decide +kernel
theorem dX0_waysFrom_38 : decode cX0_waysFrom 38 = .ok (.getfield 33, 3) := by decide +kernel
theorem dX0_waysFrom_41 : decode cX0_waysFrom 41 = .ok (.isub, 1) := by decide +kernel
theorem dX0_waysFrom_42 : decode cX0_waysFrom 42 = .ok (.istore 7, 2) := by decide +kernel
theorem dX0_waysFrom_44 : decode cX0_waysFrom 44 = .ok (.iload_n 2, 1) := by decide +kernel
theorem dX0_waysFrom_45 : decode cX0_waysFrom 45 = .ok (.aload_n 0, 1) := by decide +kernel
theorem dX0_waysFrom_46 : decode cX0_waysFrom 46 = .ok (.getfield 17, 3) := by decide +kernel
theorem dX0_waysFrom_49 : decode cX0_waysFrom 49 = .ok (.iload 6, 2) := by decide +kernel
theorem dX0_waysFrom_51 : decode cX0_waysFrom 51 = .ok (.aaload, 1) := by decide +kernel
theorem dX0_waysFrom_52 : decode cX0_waysFrom 52 = .ok (.iload_n 1, 1) := by decide +kernel
theorem dX0_waysFrom_53 : decode cX0_waysFrom 53 = .ok (.iaload, 1) := by decide +kernel
theorem dX0_waysFrom_54 : decode cX0_waysFrom 54 = .ok (.iadd, 1) := by decide +kernel
theorem dX0_waysFrom_55 : decode cX0_waysFrom 55 = .ok (.istore 8, 2) := by decide +kernel
theorem dX0_waysFrom_57 : decode cX0_waysFrom 57 = .ok (.iload_n 3, 1) := by decide +kernel
theorem dX0_waysFrom_58 : decode cX0_waysFrom 58 = .ok (.aload_n 0, 1) := by decide +kernel
theorem dX0_waysFrom_59 : decode cX0_waysFrom 59 = .ok (.getfield 20, 3) := by decide +kernel
theorem dX0_waysFrom_62 : decode cX0_waysFrom 62 = .ok (.iload 6, 2) := by decide +kernel
theorem dX0_waysFrom_64 : decode cX0_waysFrom 64 = .ok (.aaload, 1) := by decide +kernel
theorem dX0_waysFrom_65 : decode cX0_waysFrom 65 = .ok (.iload_n 1, 1) := by decide +kernel
theorem dX0_waysFrom_66 : decode cX0_waysFrom 66 = .ok (.iaload, 1) := by decide +kernel
theorem dX0_waysFrom_67 : decode cX0_waysFrom 67 = .ok (.iadd, 1) := by decide +kernel
theorem dX0_waysFrom_68 : decode cX0_waysFrom 68 = .ok (.istore 9, 2) := by decide +kernel
theorem dX0_waysFrom_70 : decode cX0_waysFrom 70 = .ok (.iload 7, 2) := by decide +kernel
theorem dX0_waysFrom_72 : decode cX0_waysFrom 72 = .ok (.ifCond .eq 70, 3) := by decide +kernel
theorem dX0_waysFrom_75 : decode cX0_waysFrom 75 = .ok (.iload 8, 2) := by decide +kernel
theorem dX0_waysFrom_77 : decode cX0_waysFrom 77 = .ok (.aload_n 0, 1) := by decide +kernel
theorem dX0_waysFrom_78 : decode cX0_waysFrom 78 = .ok (.getfield 57, 3) := by decide +kernel
theorem dX0_waysFrom_81 : decode cX0_waysFrom 81 = .ok (.if_icmp .lt 6, 3) := by decide +kernel
theorem dX0_waysFrom_84 : decode cX0_waysFrom 84 = .ok (.goto 58, 3) := by decide +kernel
theorem dX0_waysFrom_87 : decode cX0_waysFrom 87 = .ok (.iload 9, 2) := by decide +kernel
theorem dX0_waysFrom_89 : decode cX0_waysFrom 89 = .ok (.aload_n 0, 1) := by decide +kernel
theorem dX0_waysFrom_90 : decode cX0_waysFrom 90 = .ok (.getfield 60, 3) := by decide +kernel
theorem dX0_waysFrom_93 : decode cX0_waysFrom 93 = .ok (.if_icmp .lt 7, 3) := by decide +kernel
theorem dX0_waysFrom_96 : decode cX0_waysFrom 96 = .ok (.iconst 1, 1) := by decide +kernel
theorem dX0_waysFrom_97 : decode cX0_waysFrom 97 = .ok (.goto 4, 3) := by decide +kernel
theorem dX0_waysFrom_100 : decode cX0_waysFrom 100 = .ok (.iconst 0, 1) := by decide +kernel
theorem dX0_waysFrom_101 : decode cX0_waysFrom 101 = .ok (.istore 10, 2) := by decide +kernel
theorem dX0_waysFrom_103 : decode cX0_waysFrom 103 = .ok (.lload 4, 2) := by decide +kernel
theorem dX0_waysFrom_105 : decode cX0_waysFrom 105 = .ok (.iload 7, 2) := by decide +kernel
theorem dX0_waysFrom_107 : decode cX0_waysFrom 107 = .ok (.i2l, 1) := by decide +kernel
theorem dX0_waysFrom_108 : decode cX0_waysFrom 108 = .ok (.iload 10, 2) := by decide +kernel
theorem dX0_waysFrom_110 : decode cX0_waysFrom 110 = .ok (.ifCond .eq 17, 3) := by decide +kernel
theorem dX0_waysFrom_113 : decode cX0_waysFrom 113 = .ok (.aload_n 0, 1) := by decide +kernel
theorem dX0_waysFrom_114 : decode cX0_waysFrom 114 = .ok (.getfield 29, 3) := by decide +kernel
theorem dX0_waysFrom_117 : decode cX0_waysFrom 117 = .ok (.iload_n 1, 1) := by decide +kernel
theorem dX0_waysFrom_118 : decode cX0_waysFrom 118 = .ok (.isub, 1) := by decide +kernel
theorem dX0_waysFrom_119 : decode cX0_waysFrom 119 = .ok (.iconst 1, 1) := by decide +kernel
theorem dX0_waysFrom_120 : decode cX0_waysFrom 120 = .ok (.isub, 1) := by decide +kernel
theorem dX0_waysFrom_121 : decode cX0_waysFrom 121 = .ok (.invokestatic 70, 3) := by decide +kernel
theorem dX0_waysFrom_124 : decode cX0_waysFrom 124 = .ok (.goto 14, 3) := by decide +kernel
theorem dX0_waysFrom_127 : decode cX0_waysFrom 127 = .ok (.aload_n 0, 1) := by decide +kernel
theorem dX0_waysFrom_128 : decode cX0_waysFrom 128 = .ok (.iload_n 1, 1) := by decide +kernel
theorem dX0_waysFrom_129 : decode cX0_waysFrom 129 = .ok (.iconst 1, 1) := by decide +kernel
theorem dX0_waysFrom_130 : decode cX0_waysFrom 130 = .ok (.iadd, 1) := by decide +kernel
theorem dX0_waysFrom_131 : decode cX0_waysFrom 131 = .ok (.iload 8, 2) := by decide +kernel
theorem dX0_waysFrom_133 : decode cX0_waysFrom 133 = .ok (.iload 9, 2) := by decide +kernel
theorem dX0_waysFrom_135 : decode cX0_waysFrom 135 = .ok (.invokestatic 66, 3) := by decide +kernel
theorem dX0_waysFrom_138 : decode cX0_waysFrom 138 = .ok (.lmul, 1) := by decide +kernel
theorem dX0_waysFrom_139 : decode cX0_waysFrom 139 = .ok (.ladd, 1) := by decide +kernel
theorem dX0_waysFrom_140 : decode cX0_waysFrom 140 = .ok (.lstore 4, 2) := by decide +kernel
theorem dX0_waysFrom_142 : decode cX0_waysFrom 142 = .ok (.iinc 6 1, 3) := by decide +kernel
theorem dX0_waysFrom_145 : decode cX0_waysFrom 145 = .ok (.goto (-129), 3) := by decide +kernel
theorem dX0_waysFrom_148 : decode cX0_waysFrom 148 = .ok (.lload 4, 2) := by decide +kernel
theorem dX0_waysFrom_150 : decode cX0_waysFrom 150 = .ok (.lreturn, 1) := by decide +kernel
theorem dX0_tensTo_0 : decode cX0_tensTo 0 = .ok (.lconst 1, 1) := by decide +kernel
theorem dX0_tensTo_1 : decode cX0_tensTo 1 = .ok (.lstore_n 1, 1) := by decide +kernel
theorem dX0_tensTo_2 : decode cX0_tensTo 2 = .ok (.iconst 0, 1) := by decide +kernel
theorem dX0_tensTo_3 : decode cX0_tensTo 3 = .ok (.istore_n 3, 1) := by decide +kernel
theorem dX0_tensTo_4 : decode cX0_tensTo 4 = .ok (.iload_n 3, 1) := by decide +kernel
theorem dX0_tensTo_5 : decode cX0_tensTo 5 = .ok (.iload_n 0, 1) := by decide +kernel
theorem dX0_tensTo_6 : decode cX0_tensTo 6 = .ok (.if_icmp .ge 15, 3) := by decide +kernel
theorem dX0_tensTo_9 : decode cX0_tensTo 9 = .ok (.lload_n 1, 1) := by decide +kernel
theorem dX0_tensTo_10 : decode cX0_tensTo 10 = .ok (.ldc2_w 74, 3) := by decide +kernel
theorem dX0_tensTo_13 : decode cX0_tensTo 13 = .ok (.lmul, 1) := by decide +kernel
theorem dX0_tensTo_14 : decode cX0_tensTo 14 = .ok (.lstore_n 1, 1) := by decide +kernel
theorem dX0_tensTo_15 : decode cX0_tensTo 15 = .ok (.iinc 3 1, 3) := by decide +kernel
theorem dX0_tensTo_18 : decode cX0_tensTo 18 = .ok (.goto (-14), 3) := by decide +kernel
theorem dX0_tensTo_21 : decode cX0_tensTo 21 = .ok (.lload_n 1, 1) := by decide +kernel
theorem dX0_tensTo_22 : decode cX0_tensTo 22 = .ok (.lreturn, 1) := by decide +kernel
theorem dX0_lowest_0 : decode cX0_lowest 0 = .ok (.lload_n 1, 1) := by decide +kernel
theorem dX0_lowest_1 : decode cX0_lowest 1 = .ok (.lstore 4, 2) := by decide +kernel
theorem dX0_lowest_3 : decode cX0_lowest 3 = .ok (.aload_n 0, 1) := by decide +kernel
theorem dX0_lowest_4 : decode cX0_lowest 4 = .ok (.getfield 29, 3) := by decide +kernel
theorem dX0_lowest_7 : decode cX0_lowest 7 = .ok (.invokestatic 70, 3) := by decide +kernel
theorem dX0_lowest_10 : decode cX0_lowest 10 = .ok (.lstore 6, 2) := by decide +kernel
theorem dX0_lowest_12 : decode cX0_lowest 12 = .ok (.iconst 0, 1) := by decide +kernel
theorem dX0_lowest_13 : decode cX0_lowest 13 = .ok (.istore 8, 2) := by decide +kernel
theorem dX0_lowest_15 : decode cX0_lowest 15 = .ok (.iload 8, 2) := by decide +kernel
theorem dX0_lowest_17 : decode cX0_lowest 17 = .ok (.aload_n 0, 1) := by decide +kernel
theorem dX0_lowest_18 : decode cX0_lowest 18 = .ok (.getfield 29, 3) := by decide +kernel
theorem dX0_lowest_21 : decode cX0_lowest 21 = .ok (.if_icmp .ge 85, 3) := by decide +kernel
theorem dX0_lowest_24 : decode cX0_lowest 24 = .ok (.lload 4, 2) := by decide +kernel
theorem dX0_lowest_26 : decode cX0_lowest 26 = .ok (.ldc2_w 76, 3) := by decide +kernel
theorem dX0_lowest_29 : decode cX0_lowest 29 = .ok (.lrem, 1) := by decide +kernel
theorem dX0_lowest_30 : decode cX0_lowest 30 = .ok (.lconst 0, 1) := by decide +kernel
theorem dX0_lowest_31 : decode cX0_lowest 31 = .ok (.lcmp, 1) := by decide +kernel
theorem dX0_lowest_32 : decode cX0_lowest 32 = .ok (.ifCond .ne 30, 3) := by decide +kernel
theorem dX0_lowest_35 : decode cX0_lowest 35 = .ok (.lload 6, 2) := by decide +kernel
theorem dX0_lowest_37 : decode cX0_lowest 37 = .ok (.ldc2_w 76, 3) := by decide +kernel
theorem dX0_lowest_40 : decode cX0_lowest 40 = .ok (.lrem, 1) := by decide +kernel
theorem dX0_lowest_41 : decode cX0_lowest 41 = .ok (.lconst 0, 1) := by decide +kernel
theorem dX0_lowest_42 : decode cX0_lowest 42 = .ok (.lcmp, 1) := by decide +kernel
theorem dX0_lowest_43 : decode cX0_lowest 43 = .ok (.ifCond .ne 19, 3) := by decide +kernel
theorem dX0_lowest_46 : decode cX0_lowest 46 = .ok (.lload 4, 2) := by decide +kernel
theorem dX0_lowest_48 : decode cX0_lowest 48 = .ok (.ldc2_w 76, 3) := by decide +kernel
theorem dX0_lowest_51 : decode cX0_lowest 51 = .ok (.ldiv, 1) := by decide +kernel
theorem dX0_lowest_52 : decode cX0_lowest 52 = .ok (.lstore 4, 2) := by decide +kernel
theorem dX0_lowest_54 : decode cX0_lowest 54 = .ok (.lload 6, 2) := by decide +kernel
theorem dX0_lowest_56 : decode cX0_lowest 56 = .ok (.ldc2_w 76, 3) := by decide +kernel
theorem dX0_lowest_59 : decode cX0_lowest 59 = .ok (.ldiv, 1) := by decide +kernel
theorem dX0_lowest_60 : decode cX0_lowest 60 = .ok (.lstore 6, 2) := by decide +kernel
theorem dX0_lowest_62 : decode cX0_lowest 62 = .ok (.lload 4, 2) := by decide +kernel
theorem dX0_lowest_64 : decode cX0_lowest 64 = .ok (.ldc2_w 78, 3) := by decide +kernel
theorem dX0_lowest_67 : decode cX0_lowest 67 = .ok (.lrem, 1) := by decide +kernel
theorem dX0_lowest_68 : decode cX0_lowest 68 = .ok (.lconst 0, 1) := by decide +kernel
theorem dX0_lowest_69 : decode cX0_lowest 69 = .ok (.lcmp, 1) := by decide +kernel
theorem dX0_lowest_70 : decode cX0_lowest 70 = .ok (.ifCond .ne 30, 3) := by decide +kernel
theorem dX0_lowest_73 : decode cX0_lowest 73 = .ok (.lload 6, 2) := by decide +kernel
theorem dX0_lowest_75 : decode cX0_lowest 75 = .ok (.ldc2_w 78, 3) := by decide +kernel
theorem dX0_lowest_78 : decode cX0_lowest 78 = .ok (.lrem, 1) := by decide +kernel
theorem dX0_lowest_79 : decode cX0_lowest 79 = .ok (.lconst 0, 1) := by decide +kernel
theorem dX0_lowest_80 : decode cX0_lowest 80 = .ok (.lcmp, 1) := by decide +kernel
theorem dX0_lowest_81 : decode cX0_lowest 81 = .ok (.ifCond .ne 19, 3) := by decide +kernel
theorem dX0_lowest_84 : decode cX0_lowest 84 = .ok (.lload 4, 2) := by decide +kernel
theorem dX0_lowest_86 : decode cX0_lowest 86 = .ok (.ldc2_w 78, 3) := by decide +kernel
theorem dX0_lowest_89 : decode cX0_lowest 89 = .ok (.ldiv, 1) := by decide +kernel
theorem dX0_lowest_90 : decode cX0_lowest 90 = .ok (.lstore 4, 2) := by decide +kernel
theorem dX0_lowest_92 : decode cX0_lowest 92 = .ok (.lload 6, 2) := by decide +kernel
theorem dX0_lowest_94 : decode cX0_lowest 94 = .ok (.ldc2_w 78, 3) := by decide +kernel
theorem dX0_lowest_97 : decode cX0_lowest 97 = .ok (.ldiv, 1) := by decide +kernel
theorem dX0_lowest_98 : decode cX0_lowest 98 = .ok (.lstore 6, 2) := by decide +kernel
theorem dX0_lowest_100 : decode cX0_lowest 100 = .ok (.iinc 8 1, 3) := by decide +kernel
theorem dX0_lowest_103 : decode cX0_lowest 103 = .ok (.goto (-88), 3) := by decide +kernel
theorem dX0_lowest_106 : decode cX0_lowest 106 = .ok (.iload_n 3, 1) := by decide +kernel
theorem dX0_lowest_107 : decode cX0_lowest 107 = .ok (.ifCond .ne 8, 3) := by decide +kernel
theorem dX0_lowest_110 : decode cX0_lowest 110 = .ok (.lload 4, 2) := by decide +kernel
theorem dX0_lowest_112 : decode cX0_lowest 112 = .ok (.goto 5, 3) := by decide +kernel
theorem dX0_lowest_115 : decode cX0_lowest 115 = .ok (.lload 6, 2) := by decide +kernel
theorem dX0_lowest_117 : decode cX0_lowest 117 = .ok (.lreturn, 1) := by decide +kernel
theorem dX1_init_0 : decode cX1_init 0 = .ok (.aload_n 0, 1) := by decide +kernel
theorem dX1_init_1 : decode cX1_init 1 = .ok (.invokespecial 3, 3) := by decide +kernel
theorem dX1_init_4 : decode cX1_init 4 = .ok (.aload_n 0, 1) := by decide +kernel
theorem dX1_init_5 : decode cX1_init 5 = .ok (.bipush 60, 2) := by decide +kernel
theorem dX1_init_7 : decode cX1_init 7 = .ok (.newarray .int, 2) := by decide +kernel
theorem dX1_init_9 : decode cX1_init 9 = .ok (.putfield 9, 3) := by decide +kernel
theorem dX1_init_12 : decode cX1_init 12 = .ok (.aload_n 0, 1) := by decide +kernel
theorem dX1_init_13 : decode cX1_init 13 = .ok (.bipush 60, 2) := by decide +kernel
theorem dX1_init_15 : decode cX1_init 15 = .ok (.newarray .boolean, 2) := by decide +kernel
theorem dX1_init_17 : decode cX1_init 17 = .ok (.putfield 15, 3) := by decide +kernel
theorem dX1_init_20 : decode cX1_init 20 = .ok (.aload_n 0, 1) := by decide +kernel
theorem dX1_init_21 : decode cX1_init 21 = .ok (.iconst 4, 1) := by decide +kernel
theorem dX1_init_22 : decode cX1_init 22 = .ok (.newarray .int, 2) := by decide +kernel
theorem dX1_init_24 : decode cX1_init 24 = .ok (.putfield 19, 3) := by decide +kernel
theorem dX1_init_27 : decode cX1_init 27 = .ok (.aload_n 0, 1) := by decide +kernel
theorem dX1_init_28 : decode cX1_init 28 = .ok (.new 22, 3) := by decide +kernel
theorem dX1_init_31 : decode cX1_init 31 = .ok (.dup, 1) := by decide +kernel
theorem dX1_init_32 : decode cX1_init 32 = .ok (.invokespecial 24, 3) := by decide +kernel
theorem dX1_init_35 : decode cX1_init 35 = .ok (.putfield 25, 3) := by decide +kernel
theorem dX1_init_38 : decode cX1_init 38 = .ok (.return_, 1) := by decide +kernel
theorem dX1_look_0 : decode cX1_look 0 = .ok (.aload_n 1, 1) := by decide +kernel
theorem dX1_look_1 : decode cX1_look 1 = .ok (.getfield 29, 3) := by decide +kernel
theorem dX1_look_4 : decode cX1_look 4 = .ok (.istore_n 2, 1) := by decide +kernel
theorem dX1_look_5 : decode cX1_look 5 = .ok (.iconst 0, 1) := by decide +kernel
theorem dX1_look_6 : decode cX1_look 6 = .ok (.istore_n 3, 1) := by decide +kernel
theorem dX1_look_7 : decode cX1_look 7 = .ok (.iload_n 3, 1) := by decide +kernel
theorem dX1_look_8 : decode cX1_look 8 = .ok (.bipush 60, 2) := by decide +kernel
theorem dX1_look_10 : decode cX1_look 10 = .ok (.if_icmp .ge 23, 3) := by decide +kernel
theorem dX1_look_13 : decode cX1_look 13 = .ok (.iload_n 2, 1) := by decide +kernel
theorem dX1_look_14 : decode cX1_look 14 = .ok (.invokestatic 35, 3) := by decide +kernel
theorem dX1_look_17 : decode cX1_look 17 = .ok (.istore_n 2, 1) := by decide +kernel
theorem dX1_look_18 : decode cX1_look 18 = .ok (.aload_n 0, 1) := by decide +kernel
theorem dX1_look_19 : decode cX1_look 19 = .ok (.getfield 9, 3) := by decide +kernel
theorem dX1_look_22 : decode cX1_look 22 = .ok (.iload_n 3, 1) := by decide +kernel
theorem dX1_look_23 : decode cX1_look 23 = .ok (.iload_n 2, 1) := by decide +kernel
theorem dX1_look_24 : decode cX1_look 24 = .ok (.iconst 3, 1) := by decide +kernel
theorem dX1_look_25 : decode cX1_look 25 = .ok (.irem, 1) := by decide +kernel
theorem dX1_look_26 : decode cX1_look 26 = .ok (.iastore, 1) := by decide +kernel
theorem dX1_look_27 : decode cX1_look 27 = .ok (.iinc 3 1, 3) := by decide +kernel
theorem dX1_look_30 : decode cX1_look 30 = .ok (.goto (-23), 3) := by decide +kernel
theorem dX1_look_33 : decode cX1_look 33 = .ok (.aload_n 0, 1) := by decide +kernel
theorem dX1_look_34 : decode cX1_look 34 = .ok (.aload_n 1, 1) := by decide +kernel
theorem dX1_look_35 : decode cX1_look 35 = .ok (.getfield 39, 3) := by decide +kernel
theorem dX1_look_38 : decode cX1_look 38 = .ok (.aload_n 1, 1) := by decide +kernel
theorem dX1_look_39 : decode cX1_look 39 = .ok (.getfield 42, 3) := by decide +kernel
theorem dX1_look_42 : decode cX1_look 42 = .ok (.invokevirtual 45, 3) := by decide +kernel
theorem dX1_look_45 : decode cX1_look 45 = .ok (.return_, 1) := by decide +kernel
theorem dX1_setNights_0 : decode cX1_setNights 0 = .ok (.iconst 0, 1) := by decide +kernel
theorem dX1_setNights_1 : decode cX1_setNights 1 = .ok (.istore_n 3, 1) := by decide +kernel
theorem dX1_setNights_2 : decode cX1_setNights 2 = .ok (.iload_n 3, 1) := by decide +kernel
theorem dX1_setNights_3 : decode cX1_setNights 3 = .ok (.bipush 60, 2) := by decide +kernel
theorem dX1_setNights_5 : decode cX1_setNights 5 = .ok (.if_icmp .ge 22, 3) := by decide +kernel
theorem dX1_setNights_8 : decode cX1_setNights 8 = .ok (.aload_n 0, 1) := by decide +kernel
theorem dX1_setNights_9 : decode cX1_setNights 9 = .ok (.getfield 15, 3) := by decide +kernel
theorem dX1_setNights_12 : decode cX1_setNights 12 = .ok (.iload_n 3, 1) := by decide +kernel
theorem dX1_setNights_13 : decode cX1_setNights 13 = .ok (.iload_n 1, 1) := by decide +kernel
theorem dX1_setNights_14 : decode cX1_setNights 14 = .ok (.iload_n 3, 1) := by decide +kernel
theorem dX1_setNights_15 : decode cX1_setNights 15 = .ok (.iadd, 1) := by decide +kernel
theorem dX1_setNights_16 : decode cX1_setNights 16 = .ok (.iload_n 2, 1) := by decide +kernel
theorem dX1_setNights_17 : decode cX1_setNights 17 = .ok (.invokestatic 49, 3) := by decide +kernel
theorem dX1_setNights_20 : decode cX1_setNights 20 = .ok (.bastore, 1) := by decide +kernel
theorem dX1_setNights_21 : decode cX1_setNights 21 = .ok (.iinc 3 1, 3) := by decide +kernel
theorem dX1_setNights_24 : decode cX1_setNights 24 = .ok (.goto (-22), 3) := by decide +kernel
theorem dX1_setNights_27 : decode cX1_setNights 27 = .ok (.return_, 1) := by decide +kernel
theorem dX1_pass_0 : decode cX1_pass 0 = .ok (.iload_n 1, 1) := by decide +kernel
theorem dX1_pass_1 : decode cX1_pass 1 = .ok (.iconst 0, 1) := by decide +kernel
theorem dX1_pass_2 : decode cX1_pass 2 = .ok (.bipush 59, 2) := by decide +kernel
theorem dX1_pass_4 : decode cX1_pass 4 = .ok (.invokestatic 53, 3) := by decide +kernel
theorem dX1_pass_7 : decode cX1_pass 7 = .ok (.ifCond .ne 4, 3) := by decide +kernel
theorem dX1_pass_10 : decode cX1_pass 10 = .ok (.return_, 1) := by decide +kernel
theorem dX1_pass_11 : decode cX1_pass 11 = .ok (.iload_n 2, 1) := by decide +kernel
theorem dX1_pass_12 : decode cX1_pass 12 = .ok (.ifCond .eq 10, 3) := by decide +kernel
theorem dX1_pass_15 : decode cX1_pass 15 = .ok (.aload_n 0, 1) := by decide +kernel
theorem dX1_pass_16 : decode cX1_pass 16 = .ok (.getfield 25, 3) := by decide +kernel
theorem dX1_pass_19 : decode cX1_pass 19 = .ok (.invokevirtual 57, 3) := by decide +kernel
theorem dX1_pass_22 : decode cX1_pass 22 = .ok (.aload_n 0, 1) := by decide +kernel
theorem dX1_pass_23 : decode cX1_pass 23 = .ok (.getfield 25, 3) := by decide +kernel
theorem dX1_pass_26 : decode cX1_pass 26 = .ok (.aload_n 0, 1) := by decide +kernel
theorem dX1_pass_27 : decode cX1_pass 27 = .ok (.getfield 9, 3) := by decide +kernel
theorem dX1_pass_30 : decode cX1_pass 30 = .ok (.iload_n 1, 1) := by decide +kernel
theorem dX1_pass_31 : decode cX1_pass 31 = .ok (.iaload, 1) := by decide +kernel
theorem dX1_pass_32 : decode cX1_pass 32 = .ok (.aload_n 0, 1) := by decide +kernel
theorem dX1_pass_33 : decode cX1_pass 33 = .ok (.getfield 15, 3) := by decide +kernel
theorem dX1_pass_36 : decode cX1_pass 36 = .ok (.iload_n 1, 1) := by decide +kernel
theorem dX1_pass_37 : decode cX1_pass 37 = .ok (.baload, 1) := by decide +kernel
theorem dX1_pass_38 : decode cX1_pass 38 = .ok (.iload_n 1, 1) := by decide +kernel
theorem dX1_pass_39 : decode cX1_pass 39 = .ok (.invokevirtual 60, 3) := by decide +kernel
theorem dX1_pass_42 : decode cX1_pass 42 = .ok (.return_, 1) := by decide +kernel
theorem dX1_isMeal_0 : decode cX1_isMeal 0 = .ok (.iload_n 0, 1) := by decide +kernel
theorem dX1_isMeal_1 : decode cX1_isMeal 1 = .ok (.bipush 8, 2) := by decide +kernel
theorem dX1_isMeal_3 : decode cX1_isMeal 3 = .ok (.if_icmp .ge 16, 3) := by decide +kernel
theorem dX1_isMeal_6 : decode cX1_isMeal 6 = .ok (.iload_n 1, 1) := by decide +kernel
theorem dX1_isMeal_7 : decode cX1_isMeal 7 = .ok (.iload_n 0, 1) := by decide +kernel
theorem dX1_isMeal_8 : decode cX1_isMeal 8 = .ok (.ishr, 1) := by decide +kernel
theorem dX1_isMeal_9 : decode cX1_isMeal 9 = .ok (.iconst 1, 1) := by decide +kernel
theorem dX1_isMeal_10 : decode cX1_isMeal 10 = .ok (.iand, 1) := by decide +kernel
theorem dX1_isMeal_11 : decode cX1_isMeal 11 = .ok (.iconst 1, 1) := by decide +kernel
theorem dX1_isMeal_12 : decode cX1_isMeal 12 = .ok (.if_icmp .ne 7, 3) := by decide +kernel
theorem dX1_isMeal_15 : decode cX1_isMeal 15 = .ok (.iconst 1, 1) := by decide +kernel
theorem dX1_isMeal_16 : decode cX1_isMeal 16 = .ok (.goto 4, 3) := by decide +kernel
theorem dX1_isMeal_19 : decode cX1_isMeal 19 = .ok (.iconst 0, 1) := by decide +kernel
theorem dX1_isMeal_20 : decode cX1_isMeal 20 = .ok (.ireturn, 1) := by decide +kernel
theorem dX1_strainBehind_0 : decode cX1_strainBehind 0 = .ok (.aload_n 0, 1) := by decide +kernel
theorem dX1_strainBehind_1 : decode cX1_strainBehind 1 = .ok (.getfield 25, 3) := by decide +kernel
theorem dX1_strainBehind_4 : decode cX1_strainBehind 4 = .ok (.aload_n 1, 1) := by decide +kernel
theorem dX1_strainBehind_5 : decode cX1_strainBehind 5 = .ok (.invokevirtual 64, 3) := by decide +kernel
theorem dX1_strainBehind_8 : decode cX1_strainBehind 8 = .ok (.iconst 0, 1) := by decide +kernel
theorem dX1_strainBehind_9 : decode cX1_strainBehind 9 = .ok (.istore_n 3, 1) := by decide +kernel
theorem dX1_strainBehind_10 : decode cX1_strainBehind 10 = .ok (.iload_n 3, 1) := by decide +kernel
theorem dX1_strainBehind_11 : decode cX1_strainBehind 11 = .ok (.iload_n 2, 1) := by decide +kernel
theorem dX1_strainBehind_12 : decode cX1_strainBehind 12 = .ok (.if_icmp .ge 15, 3) := by decide +kernel
theorem dX1_strainBehind_15 : decode cX1_strainBehind 15 = .ok (.aload_n 0, 1) := by decide +kernel
theorem dX1_strainBehind_16 : decode cX1_strainBehind 16 = .ok (.iload_n 3, 1) := by decide +kernel
theorem dX1_strainBehind_17 : decode cX1_strainBehind 17 = .ok (.iconst 0, 1) := by decide +kernel
theorem dX1_strainBehind_18 : decode cX1_strainBehind 18 = .ok (.invokevirtual 68, 3) := by decide +kernel
theorem dX1_strainBehind_21 : decode cX1_strainBehind 21 = .ok (.iinc 3 1, 3) := by decide +kernel
theorem dX1_strainBehind_24 : decode cX1_strainBehind 24 = .ok (.goto (-14), 3) := by decide +kernel
theorem dX1_strainBehind_27 : decode cX1_strainBehind 27 = .ok (.aload_n 0, 1) := by decide +kernel
theorem dX1_strainBehind_28 : decode cX1_strainBehind 28 = .ok (.getfield 25, 3) := by decide +kernel
theorem dX1_strainBehind_31 : decode cX1_strainBehind 31 = .ok (.getfield 72, 3) := by decide +kernel
theorem dX1_strainBehind_34 : decode cX1_strainBehind 34 = .ok (.ireturn, 1) := by decide +kernel
theorem dX1_filmOnto_0 : decode cX1_filmOnto 0 = .ok (.aload_n 0, 1) := by decide +kernel
theorem dX1_filmOnto_1 : decode cX1_filmOnto 1 = .ok (.getfield 25, 3) := by decide +kernel
theorem dX1_filmOnto_4 : decode cX1_filmOnto 4 = .ok (.aload_n 3, 1) := by decide +kernel
theorem dX1_filmOnto_5 : decode cX1_filmOnto 5 = .ok (.invokevirtual 64, 3) := by decide +kernel
theorem dX1_filmOnto_8 : decode cX1_filmOnto 8 = .ok (.iconst 0, 1) := by decide +kernel
theorem dX1_filmOnto_9 : decode cX1_filmOnto 9 = .ok (.istore 5, 2) := by decide +kernel
theorem dX1_filmOnto_11 : decode cX1_filmOnto 11 = .ok (.iload 5, 2) := by decide +kernel
theorem dX1_filmOnto_13 : decode cX1_filmOnto 13 = .ok (.iload 4, 2) := by decide +kernel
theorem dX1_filmOnto_15 : decode cX1_filmOnto 15 = .ok (.if_icmp .ge 32, 3) := by decide +kernel
theorem dX1_filmOnto_18 : decode cX1_filmOnto 18 = .ok (.aload_n 0, 1) := by decide +kernel
theorem dX1_filmOnto_19 : decode cX1_filmOnto 19 = .ok (.iload 5, 2) := by decide +kernel
theorem dX1_filmOnto_21 : decode cX1_filmOnto 21 = .ok (.iconst 0, 1) := by decide +kernel
theorem dX1_filmOnto_22 : decode cX1_filmOnto 22 = .ok (.invokevirtual 68, 3) := by decide +kernel
theorem dX1_filmOnto_25 : decode cX1_filmOnto 25 = .ok (.aload_n 1, 1) := by decide +kernel
theorem dX1_filmOnto_26 : decode cX1_filmOnto 26 = .ok (.iload_n 2, 1) := by decide +kernel
theorem dX1_filmOnto_27 : decode cX1_filmOnto 27 = .ok (.iload 5, 2) := by decide +kernel
theorem dX1_filmOnto_29 : decode cX1_filmOnto 29 = .ok (.iadd, 1) := by decide +kernel
theorem dX1_filmOnto_30 : decode cX1_filmOnto 30 = .ok (.aload_n 0, 1) := by decide +kernel
theorem dX1_filmOnto_31 : decode cX1_filmOnto 31 = .ok (.getfield 25, 3) := by decide +kernel
theorem dX1_filmOnto_34 : decode cX1_filmOnto 34 = .ok (.getfield 72, 3) := by decide +kernel
theorem dX1_filmOnto_37 : decode cX1_filmOnto 37 = .ok (.i2l, 1) := by decide +kernel
theorem dX1_filmOnto_38 : decode cX1_filmOnto 38 = .ok (.invokevirtual 75, 3) := by decide +kernel
theorem dX1_filmOnto_41 : decode cX1_filmOnto 41 = .ok (.iinc 5 1, 3) := by decide +kernel
theorem dX1_filmOnto_44 : decode cX1_filmOnto 44 = .ok (.goto (-33), 3) := by decide +kernel
theorem dX1_filmOnto_47 : decode cX1_filmOnto 47 = .ok (.return_, 1) := by decide +kernel
theorem dX1_sittingBehind_0 : decode cX1_sittingBehind 0 = .ok (.iconst 0, 1) := by decide +kernel
theorem dX1_sittingBehind_1 : decode cX1_sittingBehind 1 = .ok (.istore_n 3, 1) := by decide +kernel
theorem dX1_sittingBehind_2 : decode cX1_sittingBehind 2 = .ok (.iconst 0, 1) := by decide +kernel
theorem dX1_sittingBehind_3 : decode cX1_sittingBehind 3 = .ok (.istore 4, 2) := by decide +kernel
theorem dX1_sittingBehind_5 : decode cX1_sittingBehind 5 = .ok (.iload 4, 2) := by decide +kernel
theorem dX1_sittingBehind_7 : decode cX1_sittingBehind 7 = .ok (.aload_n 1, 1) := by decide +kernel
theorem dX1_sittingBehind_8 : decode cX1_sittingBehind 8 = .ok (.getfield 81, 3) := by decide +kernel
theorem dX1_sittingBehind_11 : decode cX1_sittingBehind 11 = .ok (.if_icmp .ge 35, 3) := by decide +kernel
theorem dX1_sittingBehind_14 : decode cX1_sittingBehind 14 = .ok (.aload_n 0, 1) := by decide +kernel
theorem dX1_sittingBehind_15 : decode cX1_sittingBehind 15 = .ok (.aload_n 1, 1) := by decide +kernel
theorem dX1_sittingBehind_16 : decode cX1_sittingBehind 16 = .ok (.getfield 84, 3) := by decide +kernel
theorem dX1_sittingBehind_19 : decode cX1_sittingBehind 19 = .ok (.iload 4, 2) := by decide +kernel
theorem dX1_sittingBehind_21 : decode cX1_sittingBehind 21 = .ok (.aaload, 1) := by decide +kernel
theorem dX1_sittingBehind_22 : decode cX1_sittingBehind 22 = .ok (.iload_n 2, 1) := by decide +kernel
theorem dX1_sittingBehind_23 : decode cX1_sittingBehind 23 = .ok (.invokevirtual 88, 3) := by decide +kernel
theorem dX1_sittingBehind_26 : decode cX1_sittingBehind 26 = .ok (.pop, 1) := by decide +kernel
theorem dX1_sittingBehind_27 : decode cX1_sittingBehind 27 = .ok (.aload_n 0, 1) := by decide +kernel
theorem dX1_sittingBehind_28 : decode cX1_sittingBehind 28 = .ok (.getfield 25, 3) := by decide +kernel
theorem dX1_sittingBehind_31 : decode cX1_sittingBehind 31 = .ok (.invokevirtual 92, 3) := by decide +kernel
theorem dX1_sittingBehind_34 : decode cX1_sittingBehind 34 = .ok (.ifCond .eq 6, 3) := by decide +kernel
theorem dX1_sittingBehind_37 : decode cX1_sittingBehind 37 = .ok (.iinc 3 1, 3) := by decide +kernel
theorem dX1_sittingBehind_40 : decode cX1_sittingBehind 40 = .ok (.iinc 4 1, 3) := by decide +kernel
theorem dX1_sittingBehind_43 : decode cX1_sittingBehind 43 = .ok (.goto (-38), 3) := by decide +kernel
theorem dX1_sittingBehind_46 : decode cX1_sittingBehind 46 = .ok (.iload_n 3, 1) := by decide +kernel
theorem dX1_sittingBehind_47 : decode cX1_sittingBehind 47 = .ok (.ireturn, 1) := by decide +kernel
theorem dX1_hoursSat_0 : decode cX1_hoursSat 0 = .ok (.aload_n 0, 1) := by decide +kernel
theorem dX1_hoursSat_1 : decode cX1_hoursSat 1 = .ok (.getfield 25, 3) := by decide +kernel
theorem dX1_hoursSat_4 : decode cX1_hoursSat 4 = .ok (.aload_n 1, 1) := by decide +kernel
theorem dX1_hoursSat_5 : decode cX1_hoursSat 5 = .ok (.invokevirtual 64, 3) := by decide +kernel
theorem dX1_hoursSat_8 : decode cX1_hoursSat 8 = .ok (.iconst 0, 1) := by decide +kernel
theorem dX1_hoursSat_9 : decode cX1_hoursSat 9 = .ok (.istore 4, 2) := by decide +kernel
theorem dX1_hoursSat_11 : decode cX1_hoursSat 11 = .ok (.iload 4, 2) := by decide +kernel
theorem dX1_hoursSat_13 : decode cX1_hoursSat 13 = .ok (.iload_n 2, 1) := by decide +kernel
theorem dX1_hoursSat_14 : decode cX1_hoursSat 14 = .ok (.if_icmp .ge 31, 3) := by decide +kernel
theorem dX1_hoursSat_17 : decode cX1_hoursSat 17 = .ok (.aload_n 0, 1) := by decide +kernel
theorem dX1_hoursSat_18 : decode cX1_hoursSat 18 = .ok (.getfield 25, 3) := by decide +kernel
theorem dX1_hoursSat_21 : decode cX1_hoursSat 21 = .ok (.invokevirtual 92, 3) := by decide +kernel
theorem dX1_hoursSat_24 : decode cX1_hoursSat 24 = .ok (.ifCond .eq 21, 3) := by decide +kernel
theorem dX1_hoursSat_27 : decode cX1_hoursSat 27 = .ok (.aload_n 0, 1) := by decide +kernel
theorem dX1_hoursSat_28 : decode cX1_hoursSat 28 = .ok (.iload 4, 2) := by decide +kernel
theorem dX1_hoursSat_30 : decode cX1_hoursSat 30 = .ok (.iload 4, 2) := by decide +kernel
theorem dX1_hoursSat_32 : decode cX1_hoursSat 32 = .ok (.iload_n 3, 1) := by decide +kernel
theorem dX1_hoursSat_33 : decode cX1_hoursSat 33 = .ok (.invokestatic 96, 3) := by decide +kernel
theorem dX1_hoursSat_36 : decode cX1_hoursSat 36 = .ok (.invokevirtual 68, 3) := by decide +kernel
theorem dX1_hoursSat_39 : decode cX1_hoursSat 39 = .ok (.iinc 4 1, 3) := by decide +kernel
theorem dX1_hoursSat_42 : decode cX1_hoursSat 42 = .ok (.goto (-31), 3) := by decide +kernel
theorem dX1_hoursSat_45 : decode cX1_hoursSat 45 = .ok (.aload_n 0, 1) := by decide +kernel
theorem dX1_hoursSat_46 : decode cX1_hoursSat 46 = .ok (.getfield 25, 3) := by decide +kernel
theorem dX1_hoursSat_49 : decode cX1_hoursSat 49 = .ok (.invokevirtual 92, 3) := by decide +kernel
theorem dX1_hoursSat_52 : decode cX1_hoursSat 52 = .ok (.ifCond .eq 7, 3) := by decide +kernel
theorem dX1_hoursSat_55 : decode cX1_hoursSat 55 = .ok (.iload_n 2, 1) := by decide +kernel
theorem dX1_hoursSat_56 : decode cX1_hoursSat 56 = .ok (.goto 10, 3) := by decide +kernel
theorem dX1_hoursSat_59 : decode cX1_hoursSat 59 = .ok (.aload_n 0, 1) := by decide +kernel
theorem dX1_hoursSat_60 : decode cX1_hoursSat 60 = .ok (.getfield 25, 3) := by decide +kernel
theorem dX1_hoursSat_63 : decode cX1_hoursSat 63 = .ok (.getfield 99, 3) := by decide +kernel
theorem dX1_hoursSat_66 : decode cX1_hoursSat 66 = .ok (.ireturn, 1) := by decide +kernel
theorem dX1_outlasts_0 : decode cX1_outlasts 0 = .ok (.aload_n 0, 1) := by decide +kernel
theorem dX1_outlasts_1 : decode cX1_outlasts 1 = .ok (.aload_n 1, 1) := by decide +kernel
theorem dX1_outlasts_2 : decode cX1_outlasts 2 = .ok (.bipush 60, 2) := by decide +kernel
theorem dX1_outlasts_4 : decode cX1_outlasts 4 = .ok (.iconst 0, 1) := by decide +kernel
theorem dX1_outlasts_5 : decode cX1_outlasts 5 = .ok (.invokevirtual 102, 3) := by decide +kernel
theorem dX1_outlasts_8 : decode cX1_outlasts 8 = .ok (.aload_n 0, 1) := by decide +kernel
theorem dX1_outlasts_9 : decode cX1_outlasts 9 = .ok (.aload_n 2, 1) := by decide +kernel
theorem dX1_outlasts_10 : decode cX1_outlasts 10 = .ok (.bipush 60, 2) := by decide +kernel
theorem dX1_outlasts_12 : decode cX1_outlasts 12 = .ok (.iconst 0, 1) := by decide +kernel
theorem dX1_outlasts_13 : decode cX1_outlasts 13 = .ok (.invokevirtual 102, 3) := by decide +kernel
theorem dX1_outlasts_16 : decode cX1_outlasts 16 = .ok (.invokestatic 106, 3) := by decide +kernel
theorem dX1_outlasts_19 : decode cX1_outlasts 19 = .ok (.ireturn, 1) := by decide +kernel
theorem dX1_bestMeals_0 : decode cX1_bestMeals 0 = .ok (.iconst 0, 1) := by decide +kernel
theorem dX1_bestMeals_1 : decode cX1_bestMeals 1 = .ok (.istore_n 3, 1) := by decide +kernel
theorem dX1_bestMeals_2 : decode cX1_bestMeals 2 = .ok (.aload_n 0, 1) := by decide +kernel
theorem dX1_bestMeals_3 : decode cX1_bestMeals 3 = .ok (.aload_n 1, 1) := by decide +kernel
theorem dX1_bestMeals_4 : decode cX1_bestMeals 4 = .ok (.iload_n 2, 1) := by decide +kernel
theorem dX1_bestMeals_5 : decode cX1_bestMeals 5 = .ok (.iconst 0, 1) := by decide +kernel
theorem dX1_bestMeals_6 : decode cX1_bestMeals 6 = .ok (.invokevirtual 102, 3) := by decide +kernel
theorem dX1_bestMeals_9 : decode cX1_bestMeals 9 = .ok (.istore 4, 2) := by decide +kernel
theorem dX1_bestMeals_11 : decode cX1_bestMeals 11 = .ok (.iconst 1, 1) := by decide +kernel
theorem dX1_bestMeals_12 : decode cX1_bestMeals 12 = .ok (.istore 5, 2) := by decide +kernel
theorem dX1_bestMeals_14 : decode cX1_bestMeals 14 = .ok (.iload 5, 2) := by decide +kernel
theorem dX1_bestMeals_16 : decode cX1_bestMeals 16 = .ok (.iconst 1, 1) := by decide +kernel
theorem dX1_bestMeals_17 : decode cX1_bestMeals 17 = .ok (.iload_n 2, 1) := by decide +kernel
theorem dX1_bestMeals_18 : decode cX1_bestMeals 18 = .ok (.ishl, 1) := by decide +kernel
theorem dX1_bestMeals_19 : decode cX1_bestMeals 19 = .ok (.if_icmp .ge 79, 3) := by decide +kernel
theorem dX1_bestMeals_22 : decode cX1_bestMeals 22 = .ok (.iload 5, 2) := by decide +kernel
theorem dX1_bestMeals_24 : decode cX1_bestMeals 24 = .ok (.invokestatic 112, 3) := by decide +kernel
theorem dX1_bestMeals_27 : decode cX1_bestMeals 27 = .ok (.aload_n 1, 1) := by decide +kernel
theorem dX1_bestMeals_28 : decode cX1_bestMeals 28 = .ok (.getfield 115, 3) := by decide +kernel
theorem dX1_bestMeals_31 : decode cX1_bestMeals 31 = .ok (.if_icmp .le 6, 3) := by decide +kernel
theorem dX1_bestMeals_34 : decode cX1_bestMeals 34 = .ok (.goto 58, 3) := by decide +kernel
theorem dX1_bestMeals_37 : decode cX1_bestMeals 37 = .ok (.aload_n 0, 1) := by decide +kernel
theorem dX1_bestMeals_38 : decode cX1_bestMeals 38 = .ok (.aload_n 1, 1) := by decide +kernel
theorem dX1_bestMeals_39 : decode cX1_bestMeals 39 = .ok (.iload_n 2, 1) := by decide +kernel
theorem dX1_bestMeals_40 : decode cX1_bestMeals 40 = .ok (.iload 5, 2) := by decide +kernel
theorem dX1_bestMeals_42 : decode cX1_bestMeals 42 = .ok (.invokevirtual 102, 3) := by decide +kernel
theorem dX1_bestMeals_45 : decode cX1_bestMeals 45 = .ok (.istore 6, 2) := by decide +kernel
theorem dX1_bestMeals_47 : decode cX1_bestMeals 47 = .ok (.iload 5, 2) := by decide +kernel
theorem dX1_bestMeals_49 : decode cX1_bestMeals 49 = .ok (.invokestatic 112, 3) := by decide +kernel
theorem dX1_bestMeals_52 : decode cX1_bestMeals 52 = .ok (.iload_n 3, 1) := by decide +kernel
theorem dX1_bestMeals_53 : decode cX1_bestMeals 53 = .ok (.invokestatic 112, 3) := by decide +kernel
theorem dX1_bestMeals_56 : decode cX1_bestMeals 56 = .ok (.if_icmp .ge 7, 3) := by decide +kernel
theorem dX1_bestMeals_59 : decode cX1_bestMeals 59 = .ok (.iconst 1, 1) := by decide +kernel
theorem dX1_bestMeals_60 : decode cX1_bestMeals 60 = .ok (.goto 4, 3) := by decide +kernel
theorem dX1_bestMeals_63 : decode cX1_bestMeals 63 = .ok (.iconst 0, 1) := by decide +kernel
theorem dX1_bestMeals_64 : decode cX1_bestMeals 64 = .ok (.istore 7, 2) := by decide +kernel
theorem dX1_bestMeals_66 : decode cX1_bestMeals 66 = .ok (.iload 6, 2) := by decide +kernel
theorem dX1_bestMeals_68 : decode cX1_bestMeals 68 = .ok (.iload 4, 2) := by decide +kernel
theorem dX1_bestMeals_70 : decode cX1_bestMeals 70 = .ok (.if_icmp .gt 15, 3) := by decide +kernel
theorem dX1_bestMeals_73 : decode cX1_bestMeals 73 = .ok (.iload 6, 2) := by decide +kernel
theorem dX1_bestMeals_75 : decode cX1_bestMeals 75 = .ok (.iload 4, 2) := by decide +kernel
theorem dX1_bestMeals_77 : decode cX1_bestMeals 77 = .ok (.if_icmp .ne 15, 3) := by decide +kernel
theorem dX1_bestMeals_80 : decode cX1_bestMeals 80 = .ok (.iload 7, 2) := by decide +kernel
theorem dX1_bestMeals_82 : decode cX1_bestMeals 82 = .ok (.ifCond .eq 10, 3) := by decide +kernel
theorem dX1_bestMeals_85 : decode cX1_bestMeals 85 = .ok (.iload 6, 2) := by decide +kernel
theorem dX1_bestMeals_87 : decode cX1_bestMeals 87 = .ok (.istore 4, 2) := by decide +kernel
theorem dX1_bestMeals_89 : decode cX1_bestMeals 89 = .ok (.iload 5, 2) := by decide +kernel
theorem dX1_bestMeals_91 : decode cX1_bestMeals 91 = .ok (.istore_n 3, 1) := by decide +kernel
theorem dX1_bestMeals_92 : decode cX1_bestMeals 92 = .ok (.iinc 5 1, 3) := by decide +kernel
theorem dX1_bestMeals_95 : decode cX1_bestMeals 95 = .ok (.goto (-81), 3) := by decide +kernel
theorem dX1_bestMeals_98 : decode cX1_bestMeals 98 = .ok (.iload_n 3, 1) := by decide +kernel
theorem dX1_bestMeals_99 : decode cX1_bestMeals 99 = .ok (.ireturn, 1) := by decide +kernel
theorem dX1_findMeals_0 : decode cX1_findMeals 0 = .ok (.aload_n 0, 1) := by decide +kernel
theorem dX1_findMeals_1 : decode cX1_findMeals 1 = .ok (.iconst 0, 1) := by decide +kernel
theorem dX1_findMeals_2 : decode cX1_findMeals 2 = .ok (.putfield 118, 3) := by decide +kernel
theorem dX1_findMeals_5 : decode cX1_findMeals 5 = .ok (.aload_n 0, 1) := by decide +kernel
theorem dX1_findMeals_6 : decode cX1_findMeals 6 = .ok (.bipush (-4), 2) := by decide +kernel
theorem dX1_findMeals_8 : decode cX1_findMeals 8 = .ok (.putfield 121, 3) := by decide +kernel
theorem dX1_findMeals_11 : decode cX1_findMeals 11 = .ok (.iconst 0, 1) := by decide +kernel
theorem dX1_findMeals_12 : decode cX1_findMeals 12 = .ok (.istore 5, 2) := by decide +kernel
theorem dX1_findMeals_14 : decode cX1_findMeals 14 = .ok (.iload 5, 2) := by decide +kernel
theorem dX1_findMeals_16 : decode cX1_findMeals 16 = .ok (.iconst 1, 1) := by decide +kernel
theorem dX1_findMeals_17 : decode cX1_findMeals 17 = .ok (.iload 4, 2) := by decide +kernel
theorem dX1_findMeals_19 : decode cX1_findMeals 19 = .ok (.ishl, 1) := by decide +kernel
theorem dX1_findMeals_20 : decode cX1_findMeals 20 = .ok (.if_icmp .ge 61, 3) := by decide +kernel
theorem dX1_findMeals_23 : decode cX1_findMeals 23 = .ok (.iload 5, 2) := by decide +kernel
theorem dX1_findMeals_25 : decode cX1_findMeals 25 = .ok (.invokestatic 112, 3) := by decide +kernel
theorem dX1_findMeals_28 : decode cX1_findMeals 28 = .ok (.aload_n 1, 1) := by decide +kernel
theorem dX1_findMeals_29 : decode cX1_findMeals 29 = .ok (.getfield 115, 3) := by decide +kernel
theorem dX1_findMeals_32 : decode cX1_findMeals 32 = .ok (.if_icmp .gt 43, 3) := by decide +kernel
theorem dX1_findMeals_35 : decode cX1_findMeals 35 = .ok (.aload_n 0, 1) := by decide +kernel
theorem dX1_findMeals_36 : decode cX1_findMeals 36 = .ok (.aload_n 1, 1) := by decide +kernel
theorem dX1_findMeals_37 : decode cX1_findMeals 37 = .ok (.iload 5, 2) := by decide +kernel
theorem dX1_findMeals_39 : decode cX1_findMeals 39 = .ok (.aload_n 2, 1) := by decide +kernel
theorem dX1_findMeals_40 : decode cX1_findMeals 40 = .ok (.iload_n 3, 1) := by decide +kernel
theorem dX1_findMeals_41 : decode cX1_findMeals 41 = .ok (.iload 4, 2) := by decide +kernel
theorem dX1_findMeals_43 : decode cX1_findMeals 43 = .ok (.invokevirtual 124, 3) := by decide +kernel
theorem dX1_findMeals_46 : decode cX1_findMeals 46 = .ok (.ifCond .ne 6, 3) := by decide +kernel
theorem dX1_findMeals_49 : decode cX1_findMeals 49 = .ok (.goto 26, 3) := by decide +kernel
theorem dX1_findMeals_52 : decode cX1_findMeals 52 = .ok (.aload_n 0, 1) := by decide +kernel
theorem dX1_findMeals_53 : decode cX1_findMeals 53 = .ok (.getfield 118, 3) := by decide +kernel
theorem dX1_findMeals_56 : decode cX1_findMeals 56 = .ok (.ifCond .ne 9, 3) := by decide +kernel
theorem dX1_findMeals_59 : decode cX1_findMeals 59 = .ok (.aload_n 0, 1) := by decide +kernel
theorem dX1_findMeals_60 : decode cX1_findMeals 60 = .ok (.iload 5, 2) := by decide +kernel
theorem dX1_findMeals_62 : decode cX1_findMeals 62 = .ok (.putfield 121, 3) := by decide +kernel
theorem dX1_findMeals_65 : decode cX1_findMeals 65 = .ok (.aload_n 0, 1) := by decide +kernel
theorem dX1_findMeals_66 : decode cX1_findMeals 66 = .ok (.dup, 1) := by decide +kernel
theorem dX1_findMeals_67 : decode cX1_findMeals 67 = .ok (.getfield 118, 3) := by decide +kernel
theorem dX1_findMeals_70 : decode cX1_findMeals 70 = .ok (.iconst 1, 1) := by decide +kernel
theorem dX1_findMeals_71 : decode cX1_findMeals 71 = .ok (.iadd, 1) := by decide +kernel
theorem dX1_findMeals_72 : decode cX1_findMeals 72 = .ok (.putfield 118, 3) := by decide +kernel
theorem dX1_findMeals_75 : decode cX1_findMeals 75 = .ok (.iinc 5 1, 3) := by decide +kernel
theorem dX1_findMeals_78 : decode cX1_findMeals 78 = .ok (.goto (-64), 3) := by decide +kernel
theorem dX1_findMeals_81 : decode cX1_findMeals 81 = .ok (.return_, 1) := by decide +kernel
theorem dX1_wouldShow_0 : decode cX1_wouldShow 0 = .ok (.aload_n 3, 1) := by decide +kernel
theorem dX1_wouldShow_1 : decode cX1_wouldShow 1 = .ok (.iload 4, 2) := by decide +kernel
theorem dX1_wouldShow_3 : decode cX1_wouldShow 3 = .ok (.iload 5, 2) := by decide +kernel
theorem dX1_wouldShow_5 : decode cX1_wouldShow 5 = .ok (.invokevirtual 128, 3) := by decide +kernel
theorem dX1_wouldShow_8 : decode cX1_wouldShow 8 = .ok (.ifCond .ne 5, 3) := by decide +kernel
theorem dX1_wouldShow_11 : decode cX1_wouldShow 11 = .ok (.iconst 0, 1) := by decide +kernel
theorem dX1_wouldShow_12 : decode cX1_wouldShow 12 = .ok (.ireturn, 1) := by decide +kernel
theorem dX1_wouldShow_13 : decode cX1_wouldShow 13 = .ok (.aload_n 0, 1) := by decide +kernel
theorem dX1_wouldShow_14 : decode cX1_wouldShow 14 = .ok (.getfield 25, 3) := by decide +kernel
theorem dX1_wouldShow_17 : decode cX1_wouldShow 17 = .ok (.aload_n 1, 1) := by decide +kernel
theorem dX1_wouldShow_18 : decode cX1_wouldShow 18 = .ok (.invokevirtual 64, 3) := by decide +kernel
theorem dX1_wouldShow_21 : decode cX1_wouldShow 21 = .ok (.iconst 0, 1) := by decide +kernel
theorem dX1_wouldShow_22 : decode cX1_wouldShow 22 = .ok (.istore 6, 2) := by decide +kernel
theorem dX1_wouldShow_24 : decode cX1_wouldShow 24 = .ok (.iload 6, 2) := by decide +kernel
theorem dX1_wouldShow_26 : decode cX1_wouldShow 26 = .ok (.iload 5, 2) := by decide +kernel
theorem dX1_wouldShow_28 : decode cX1_wouldShow 28 = .ok (.if_icmp .ge 45, 3) := by decide +kernel
theorem dX1_wouldShow_31 : decode cX1_wouldShow 31 = .ok (.aload_n 0, 1) := by decide +kernel
theorem dX1_wouldShow_32 : decode cX1_wouldShow 32 = .ok (.iload 6, 2) := by decide +kernel
theorem dX1_wouldShow_34 : decode cX1_wouldShow 34 = .ok (.iload 6, 2) := by decide +kernel
theorem dX1_wouldShow_36 : decode cX1_wouldShow 36 = .ok (.iload_n 2, 1) := by decide +kernel
theorem dX1_wouldShow_37 : decode cX1_wouldShow 37 = .ok (.invokestatic 96, 3) := by decide +kernel
theorem dX1_wouldShow_40 : decode cX1_wouldShow 40 = .ok (.invokevirtual 68, 3) := by decide +kernel
theorem dX1_wouldShow_43 : decode cX1_wouldShow 43 = .ok (.aload_n 3, 1) := by decide +kernel
theorem dX1_wouldShow_44 : decode cX1_wouldShow 44 = .ok (.getfield 131, 3) := by decide +kernel
theorem dX1_wouldShow_47 : decode cX1_wouldShow 47 = .ok (.iload 4, 2) := by decide +kernel
theorem dX1_wouldShow_49 : decode cX1_wouldShow 49 = .ok (.iload 6, 2) := by decide +kernel
theorem dX1_wouldShow_51 : decode cX1_wouldShow 51 = .ok (.iadd, 1) := by decide +kernel
theorem dX1_wouldShow_52 : decode cX1_wouldShow 52 = .ok (.laload, 1) := by decide +kernel
theorem dX1_wouldShow_53 : decode cX1_wouldShow 53 = .ok (.aload_n 0, 1) := by decide +kernel
theorem dX1_wouldShow_54 : decode cX1_wouldShow 54 = .ok (.getfield 25, 3) := by decide +kernel
theorem dX1_wouldShow_57 : decode cX1_wouldShow 57 = .ok (.getfield 72, 3) := by decide +kernel
theorem dX1_wouldShow_60 : decode cX1_wouldShow 60 = .ok (.i2l, 1) := by decide +kernel
theorem dX1_wouldShow_61 : decode cX1_wouldShow 61 = .ok (.lcmp, 1) := by decide +kernel
theorem dX1_wouldShow_62 : decode cX1_wouldShow 62 = .ok (.ifCond .eq 5, 3) := by decide +kernel
theorem dX1_wouldShow_65 : decode cX1_wouldShow 65 = .ok (.iconst 0, 1) := by decide +kernel
theorem dX1_wouldShow_66 : decode cX1_wouldShow 66 = .ok (.ireturn, 1) := by decide +kernel
theorem dX1_wouldShow_67 : decode cX1_wouldShow 67 = .ok (.iinc 6 1, 3) := by decide +kernel
theorem dX1_wouldShow_70 : decode cX1_wouldShow 70 = .ok (.goto (-46), 3) := by decide +kernel
theorem dX1_wouldShow_73 : decode cX1_wouldShow 73 = .ok (.iconst 1, 1) := by decide +kernel
theorem dX1_wouldShow_74 : decode cX1_wouldShow 74 = .ok (.ireturn, 1) := by decide +kernel
theorem dX1_findTraining_0 : decode cX1_findTraining 0 = .ok (.iconst 0, 1) := by decide +kernel
theorem dX1_findTraining_1 : decode cX1_findTraining 1 = .ok (.istore_n 3, 1) := by decide +kernel
theorem dX1_findTraining_2 : decode cX1_findTraining 2 = .ok (.bipush 20, 2) := by decide +kernel
theorem dX1_findTraining_4 : decode cX1_findTraining 4 = .ok (.bipush 99, 2) := by decide +kernel
theorem dX1_findTraining_6 : decode cX1_findTraining 6 = .ok (.aload_n 1, 1) := by decide +kernel
theorem dX1_findTraining_7 : decode cX1_findTraining 7 = .ok (.getfield 135, 3) := by decide +kernel
theorem dX1_findTraining_10 : decode cX1_findTraining 10 = .ok (.isub, 1) := by decide +kernel
theorem dX1_findTraining_11 : decode cX1_findTraining 11 = .ok (.invokestatic 138, 3) := by decide +kernel
theorem dX1_findTraining_14 : decode cX1_findTraining 14 = .ok (.istore 4, 2) := by decide +kernel
theorem dX1_findTraining_16 : decode cX1_findTraining 16 = .ok (.iconst 0, 1) := by decide +kernel
theorem dX1_findTraining_17 : decode cX1_findTraining 17 = .ok (.istore 5, 2) := by decide +kernel
theorem dX1_findTraining_19 : decode cX1_findTraining 19 = .ok (.iload 5, 2) := by decide +kernel
theorem dX1_findTraining_21 : decode cX1_findTraining 21 = .ok (.aload_n 1, 1) := by decide +kernel
theorem dX1_findTraining_22 : decode cX1_findTraining 22 = .ok (.getfield 143, 3) := by decide +kernel
theorem dX1_findTraining_25 : decode cX1_findTraining 25 = .ok (.if_icmp .gt 113, 3) := by decide +kernel
theorem dX1_findTraining_28 : decode cX1_findTraining 28 = .ok (.iconst 0, 1) := by decide +kernel
theorem dX1_findTraining_29 : decode cX1_findTraining 29 = .ok (.istore 6, 2) := by decide +kernel
theorem dX1_findTraining_31 : decode cX1_findTraining 31 = .ok (.iload 6, 2) := by decide +kernel
theorem dX1_findTraining_33 : decode cX1_findTraining 33 = .ok (.aload_n 1, 1) := by decide +kernel
theorem dX1_findTraining_34 : decode cX1_findTraining 34 = .ok (.getfield 146, 3) := by decide +kernel
theorem dX1_findTraining_37 : decode cX1_findTraining 37 = .ok (.if_icmp .gt 95, 3) := by decide +kernel
theorem dX1_findTraining_40 : decode cX1_findTraining 40 = .ok (.aload_n 0, 1) := by decide +kernel
theorem dX1_findTraining_41 : decode cX1_findTraining 41 = .ok (.aload_n 1, 1) := by decide +kernel
theorem dX1_findTraining_42 : decode cX1_findTraining 42 = .ok (.iload_n 2, 1) := by decide +kernel
theorem dX1_findTraining_43 : decode cX1_findTraining 43 = .ok (.iload 5, 2) := by decide +kernel
theorem dX1_findTraining_45 : decode cX1_findTraining 45 = .ok (.iload 6, 2) := by decide +kernel
theorem dX1_findTraining_47 : decode cX1_findTraining 47 = .ok (.invokevirtual 149, 3) := by decide +kernel
theorem dX1_findTraining_50 : decode cX1_findTraining 50 = .ok (.istore 7, 2) := by decide +kernel
theorem dX1_findTraining_52 : decode cX1_findTraining 52 = .ok (.iconst 2, 1) := by decide +kernel
theorem dX1_findTraining_53 : decode cX1_findTraining 53 = .ok (.iload 7, 2) := by decide +kernel
theorem dX1_findTraining_55 : decode cX1_findTraining 55 = .ok (.imul, 1) := by decide +kernel
theorem dX1_findTraining_56 : decode cX1_findTraining 56 = .ok (.iconst 5, 1) := by decide +kernel
theorem dX1_findTraining_57 : decode cX1_findTraining 57 = .ok (.iload 5, 2) := by decide +kernel
theorem dX1_findTraining_59 : decode cX1_findTraining 59 = .ok (.imul, 1) := by decide +kernel
theorem dX1_findTraining_60 : decode cX1_findTraining 60 = .ok (.iadd, 1) := by decide +kernel
theorem dX1_findTraining_61 : decode cX1_findTraining 61 = .ok (.iconst 3, 1) := by decide +kernel
theorem dX1_findTraining_62 : decode cX1_findTraining 62 = .ok (.iload 6, 2) := by decide +kernel
theorem dX1_findTraining_64 : decode cX1_findTraining 64 = .ok (.imul, 1) := by decide +kernel
theorem dX1_findTraining_65 : decode cX1_findTraining 65 = .ok (.iadd, 1) := by decide +kernel
theorem dX1_findTraining_66 : decode cX1_findTraining 66 = .ok (.istore 8, 2) := by decide +kernel
theorem dX1_findTraining_68 : decode cX1_findTraining 68 = .ok (.iload 7, 2) := by decide +kernel
theorem dX1_findTraining_70 : decode cX1_findTraining 70 = .ok (.iload 4, 2) := by decide +kernel
theorem dX1_findTraining_72 : decode cX1_findTraining 72 = .ok (.if_icmp .gt 54, 3) := by decide +kernel
theorem dX1_findTraining_75 : decode cX1_findTraining 75 = .ok (.iload_n 3, 1) := by decide +kernel
theorem dX1_findTraining_76 : decode cX1_findTraining 76 = .ok (.ifCond .eq 16, 3) := by decide +kernel
theorem dX1_findTraining_79 : decode cX1_findTraining 79 = .ok (.aload_n 0, 1) := by decide +kernel
theorem dX1_findTraining_80 : decode cX1_findTraining 80 = .ok (.iload 8, 2) := by decide +kernel
theorem dX1_findTraining_82 : decode cX1_findTraining 82 = .ok (.iload 7, 2) := by decide +kernel
theorem dX1_findTraining_84 : decode cX1_findTraining 84 = .ok (.iload 5, 2) := by decide +kernel
theorem dX1_findTraining_86 : decode cX1_findTraining 86 = .ok (.invokevirtual 153, 3) := by decide +kernel
theorem dX1_findTraining_89 : decode cX1_findTraining 89 = .ok (.ifCond .eq 37, 3) := by decide +kernel
theorem dX1_findTraining_92 : decode cX1_findTraining 92 = .ok (.iconst 1, 1) := by decide +kernel
theorem dX1_findTraining_93 : decode cX1_findTraining 93 = .ok (.istore_n 3, 1) := by decide +kernel
theorem dX1_findTraining_94 : decode cX1_findTraining 94 = .ok (.aload_n 0, 1) := by decide +kernel
theorem dX1_findTraining_95 : decode cX1_findTraining 95 = .ok (.getfield 19, 3) := by decide +kernel
theorem dX1_findTraining_98 : decode cX1_findTraining 98 = .ok (.iconst 0, 1) := by decide +kernel
theorem dX1_findTraining_99 : decode cX1_findTraining 99 = .ok (.iload 8, 2) := by decide +kernel
theorem dX1_findTraining_101 : decode cX1_findTraining 101 = .ok (.iastore, 1) := by decide +kernel
theorem dX1_findTraining_102 : decode cX1_findTraining 102 = .ok (.aload_n 0, 1) := by decide +kernel
theorem dX1_findTraining_103 : decode cX1_findTraining 103 = .ok (.getfield 19, 3) := by decide +kernel
theorem dX1_findTraining_106 : decode cX1_findTraining 106 = .ok (.iconst 1, 1) := by decide +kernel
theorem dX1_findTraining_107 : decode cX1_findTraining 107 = .ok (.iload 7, 2) := by decide +kernel
theorem dX1_findTraining_109 : decode cX1_findTraining 109 = .ok (.iastore, 1) := by decide +kernel
theorem dX1_findTraining_110 : decode cX1_findTraining 110 = .ok (.aload_n 0, 1) := by decide +kernel
theorem dX1_findTraining_111 : decode cX1_findTraining 111 = .ok (.getfield 19, 3) := by decide +kernel
theorem dX1_findTraining_114 : decode cX1_findTraining 114 = .ok (.iconst 2, 1) := by decide +kernel
theorem dX1_findTraining_115 : decode cX1_findTraining 115 = .ok (.iload 5, 2) := by decide +kernel
theorem dX1_findTraining_117 : decode cX1_findTraining 117 = .ok (.iastore, 1) := by decide +kernel
theorem dX1_findTraining_118 : decode cX1_findTraining 118 = .ok (.aload_n 0, 1) := by decide +kernel
theorem dX1_findTraining_119 : decode cX1_findTraining 119 = .ok (.getfield 19, 3) := by decide +kernel
theorem dX1_findTraining_122 : decode cX1_findTraining 122 = .ok (.iconst 3, 1) := by decide +kernel
theorem dX1_findTraining_123 : decode cX1_findTraining 123 = .ok (.iload 6, 2) := by decide +kernel
theorem dX1_findTraining_125 : decode cX1_findTraining 125 = .ok (.iastore, 1) := by decide +kernel
theorem dX1_findTraining_126 : decode cX1_findTraining 126 = .ok (.iinc 6 1, 3) := by decide +kernel
theorem dX1_findTraining_129 : decode cX1_findTraining 129 = .ok (.goto (-98), 3) := by decide +kernel
theorem dX1_findTraining_132 : decode cX1_findTraining 132 = .ok (.iinc 5 1, 3) := by decide +kernel
theorem dX1_findTraining_135 : decode cX1_findTraining 135 = .ok (.goto (-116), 3) := by decide +kernel
theorem dX1_findTraining_138 : decode cX1_findTraining 138 = .ok (.iload_n 3, 1) := by decide +kernel
theorem dX1_findTraining_139 : decode cX1_findTraining 139 = .ok (.ireturn, 1) := by decide +kernel
theorem dX1_isBetter_0 : decode cX1_isBetter 0 = .ok (.iload_n 1, 1) := by decide +kernel
theorem dX1_isBetter_1 : decode cX1_isBetter 1 = .ok (.aload_n 0, 1) := by decide +kernel
theorem dX1_isBetter_2 : decode cX1_isBetter 2 = .ok (.getfield 19, 3) := by decide +kernel
theorem dX1_isBetter_5 : decode cX1_isBetter 5 = .ok (.iconst 0, 1) := by decide +kernel
theorem dX1_isBetter_6 : decode cX1_isBetter 6 = .ok (.iaload, 1) := by decide +kernel
theorem dX1_isBetter_7 : decode cX1_isBetter 7 = .ok (.if_icmp .eq 19, 3) := by decide +kernel
theorem dX1_isBetter_10 : decode cX1_isBetter 10 = .ok (.iload_n 1, 1) := by decide +kernel
theorem dX1_isBetter_11 : decode cX1_isBetter 11 = .ok (.aload_n 0, 1) := by decide +kernel
theorem dX1_isBetter_12 : decode cX1_isBetter 12 = .ok (.getfield 19, 3) := by decide +kernel
theorem dX1_isBetter_15 : decode cX1_isBetter 15 = .ok (.iconst 0, 1) := by decide +kernel
theorem dX1_isBetter_16 : decode cX1_isBetter 16 = .ok (.iaload, 1) := by decide +kernel
theorem dX1_isBetter_17 : decode cX1_isBetter 17 = .ok (.if_icmp .ge 7, 3) := by decide +kernel
theorem dX1_isBetter_20 : decode cX1_isBetter 20 = .ok (.iconst 1, 1) := by decide +kernel
theorem dX1_isBetter_21 : decode cX1_isBetter 21 = .ok (.goto 4, 3) := by decide +kernel
theorem dX1_isBetter_24 : decode cX1_isBetter 24 = .ok (.iconst 0, 1) := by decide +kernel
theorem dX1_isBetter_25 : decode cX1_isBetter 25 = .ok (.ireturn, 1) := by decide +kernel
theorem dX1_isBetter_26 : decode cX1_isBetter 26 = .ok (.iload_n 2, 1) := by decide +kernel
theorem dX1_isBetter_27 : decode cX1_isBetter 27 = .ok (.aload_n 0, 1) := by decide +kernel
theorem dX1_isBetter_28 : decode cX1_isBetter 28 = .ok (.getfield 19, 3) := by decide +kernel
theorem dX1_isBetter_31 : decode cX1_isBetter 31 = .ok (.iconst 1, 1) := by decide +kernel
theorem dX1_isBetter_32 : decode cX1_isBetter 32 = .ok (.iaload, 1) := by decide +kernel
theorem dX1_isBetter_33 : decode cX1_isBetter 33 = .ok (.if_icmp .eq 21, 3) := by decide +kernel
theorem dX1_isBetter_36 : decode cX1_isBetter 36 = .ok (.iload_n 2, 1) := by decide +kernel
theorem dX1_isBetter_37 : decode cX1_isBetter 37 = .ok (.aload_n 0, 1) := by decide +kernel
theorem dX1_isBetter_38 : decode cX1_isBetter 38 = .ok (.getfield 19, 3) := by decide +kernel
theorem dX1_isBetter_41 : decode cX1_isBetter 41 = .ok (.iconst 1, 1) := by decide +kernel
theorem dX1_isBetter_42 : decode cX1_isBetter 42 = .ok (.iaload, 1) := by decide +kernel
theorem dX1_isBetter_43 : decode cX1_isBetter 43 = .ok (.if_icmp .ge 7, 3) := by decide +kernel
theorem dX1_isBetter_46 : decode cX1_isBetter 46 = .ok (.iconst 1, 1) := by decide +kernel
theorem dX1_isBetter_47 : decode cX1_isBetter 47 = .ok (.goto 22, 3) := by decide +kernel
theorem dX1_isBetter_50 : decode cX1_isBetter 50 = .ok (.iconst 0, 1) := by decide +kernel
theorem dX1_isBetter_51 : decode cX1_isBetter 51 = .ok (.goto 18, 3) := by decide +kernel
theorem dX1_isBetter_54 : decode cX1_isBetter 54 = .ok (.iload_n 3, 1) := by decide +kernel
theorem dX1_isBetter_55 : decode cX1_isBetter 55 = .ok (.aload_n 0, 1) := by decide +kernel
theorem dX1_isBetter_56 : decode cX1_isBetter 56 = .ok (.getfield 19, 3) := by decide +kernel
theorem dX1_isBetter_59 : decode cX1_isBetter 59 = .ok (.iconst 2, 1) := by decide +kernel
theorem dX1_isBetter_60 : decode cX1_isBetter 60 = .ok (.iaload, 1) := by decide +kernel
theorem dX1_isBetter_61 : decode cX1_isBetter 61 = .ok (.if_icmp .ge 7, 3) := by decide +kernel
theorem dX1_isBetter_64 : decode cX1_isBetter 64 = .ok (.iconst 1, 1) := by decide +kernel
theorem dX1_isBetter_65 : decode cX1_isBetter 65 = .ok (.goto 4, 3) := by decide +kernel
theorem dX1_isBetter_68 : decode cX1_isBetter 68 = .ok (.iconst 0, 1) := by decide +kernel
theorem dX1_isBetter_69 : decode cX1_isBetter 69 = .ok (.ireturn, 1) := by decide +kernel
theorem dX1_lineToAdd_0 : decode cX1_lineToAdd 0 = .ok (.aload_n 0, 1) := by decide +kernel
theorem dX1_lineToAdd_1 : decode cX1_lineToAdd 1 = .ok (.getfield 25, 3) := by decide +kernel
theorem dX1_lineToAdd_4 : decode cX1_lineToAdd 4 = .ok (.aload_n 1, 1) := by decide +kernel
theorem dX1_lineToAdd_5 : decode cX1_lineToAdd 5 = .ok (.invokevirtual 64, 3) := by decide +kernel
theorem dX1_lineToAdd_8 : decode cX1_lineToAdd 8 = .ok (.aload_n 0, 1) := by decide +kernel
theorem dX1_lineToAdd_9 : decode cX1_lineToAdd 9 = .ok (.getfield 25, 3) := by decide +kernel
theorem dX1_lineToAdd_12 : decode cX1_lineToAdd 12 = .ok (.sipush 1000, 3) := by decide +kernel
theorem dX1_lineToAdd_15 : decode cX1_lineToAdd 15 = .ok (.putfield 135, 3) := by decide +kernel
theorem dX1_lineToAdd_18 : decode cX1_lineToAdd 18 = .ok (.aload_n 0, 1) := by decide +kernel
theorem dX1_lineToAdd_19 : decode cX1_lineToAdd 19 = .ok (.getfield 25, 3) := by decide +kernel
theorem dX1_lineToAdd_22 : decode cX1_lineToAdd 22 = .ok (.dup, 1) := by decide +kernel
theorem dX1_lineToAdd_23 : decode cX1_lineToAdd 23 = .ok (.getfield 143, 3) := by decide +kernel
theorem dX1_lineToAdd_26 : decode cX1_lineToAdd 26 = .ok (.iload_n 3, 1) := by decide +kernel
theorem dX1_lineToAdd_27 : decode cX1_lineToAdd 27 = .ok (.isub, 1) := by decide +kernel
theorem dX1_lineToAdd_28 : decode cX1_lineToAdd 28 = .ok (.putfield 143, 3) := by decide +kernel
theorem dX1_lineToAdd_31 : decode cX1_lineToAdd 31 = .ok (.aload_n 0, 1) := by decide +kernel
theorem dX1_lineToAdd_32 : decode cX1_lineToAdd 32 = .ok (.getfield 25, 3) := by decide +kernel
theorem dX1_lineToAdd_35 : decode cX1_lineToAdd 35 = .ok (.dup, 1) := by decide +kernel
theorem dX1_lineToAdd_36 : decode cX1_lineToAdd 36 = .ok (.getfield 146, 3) := by decide +kernel
theorem dX1_lineToAdd_39 : decode cX1_lineToAdd 39 = .ok (.iload 4, 2) := by decide +kernel
theorem dX1_lineToAdd_41 : decode cX1_lineToAdd 41 = .ok (.isub, 1) := by decide +kernel
theorem dX1_lineToAdd_42 : decode cX1_lineToAdd 42 = .ok (.putfield 146, 3) := by decide +kernel
theorem dX1_lineToAdd_45 : decode cX1_lineToAdd 45 = .ok (.iconst 0, 1) := by decide +kernel
theorem dX1_lineToAdd_46 : decode cX1_lineToAdd 46 = .ok (.istore 5, 2) := by decide +kernel
theorem dX1_lineToAdd_48 : decode cX1_lineToAdd 48 = .ok (.iload 5, 2) := by decide +kernel
theorem dX1_lineToAdd_50 : decode cX1_lineToAdd 50 = .ok (.iload_n 2, 1) := by decide +kernel
theorem dX1_lineToAdd_51 : decode cX1_lineToAdd 51 = .ok (.if_icmp .ge 16, 3) := by decide +kernel
theorem dX1_lineToAdd_54 : decode cX1_lineToAdd 54 = .ok (.aload_n 0, 1) := by decide +kernel
theorem dX1_lineToAdd_55 : decode cX1_lineToAdd 55 = .ok (.iload 5, 2) := by decide +kernel
theorem dX1_lineToAdd_57 : decode cX1_lineToAdd 57 = .ok (.iconst 0, 1) := by decide +kernel
theorem dX1_lineToAdd_58 : decode cX1_lineToAdd 58 = .ok (.invokevirtual 68, 3) := by decide +kernel
theorem dX1_lineToAdd_61 : decode cX1_lineToAdd 61 = .ok (.iinc 5 1, 3) := by decide +kernel
theorem dX1_lineToAdd_64 : decode cX1_lineToAdd 64 = .ok (.goto (-16), 3) := by decide +kernel
theorem dX1_lineToAdd_67 : decode cX1_lineToAdd 67 = .ok (.iconst 0, 1) := by decide +kernel
theorem dX1_lineToAdd_68 : decode cX1_lineToAdd 68 = .ok (.aload_n 0, 1) := by decide +kernel
theorem dX1_lineToAdd_69 : decode cX1_lineToAdd 69 = .ok (.getfield 25, 3) := by decide +kernel
theorem dX1_lineToAdd_72 : decode cX1_lineToAdd 72 = .ok (.getfield 72, 3) := by decide +kernel
theorem dX1_lineToAdd_75 : decode cX1_lineToAdd 75 = .ok (.iconst 1, 1) := by decide +kernel
theorem dX1_lineToAdd_76 : decode cX1_lineToAdd 76 = .ok (.iadd, 1) := by decide +kernel
theorem dX1_lineToAdd_77 : decode cX1_lineToAdd 77 = .ok (.aload_n 1, 1) := by decide +kernel
theorem dX1_lineToAdd_78 : decode cX1_lineToAdd 78 = .ok (.getfield 135, 3) := by decide +kernel
theorem dX1_lineToAdd_81 : decode cX1_lineToAdd 81 = .ok (.isub, 1) := by decide +kernel
theorem dX1_lineToAdd_82 : decode cX1_lineToAdd 82 = .ok (.invokestatic 156, 3) := by decide +kernel
theorem dX1_lineToAdd_85 : decode cX1_lineToAdd 85 = .ok (.ireturn, 1) := by decide +kernel
theorem dX2_init_0 : decode cX2_init 0 = .ok (.aload_n 0, 1) := by decide +kernel
theorem dX2_init_1 : decode cX2_init 1 = .ok (.invokespecial 3, 3) := by decide +kernel
theorem dX2_init_4 : decode cX2_init 4 = .ok (.aload_n 0, 1) := by decide +kernel
theorem dX2_init_5 : decode cX2_init 5 = .ok (.bipush 12, 2) := by decide +kernel
theorem dX2_init_7 : decode cX2_init 7 = .ok (.newarray .int, 2) := by decide +kernel
theorem dX2_init_9 : decode cX2_init 9 = .ok (.putfield 9, 3) := by decide +kernel
theorem dX2_init_12 : decode cX2_init 12 = .ok (.aload_n 0, 1) := by decide +kernel
theorem dX2_init_13 : decode cX2_init 13 = .ok (.bipush 12, 2) := by decide +kernel
theorem dX2_init_15 : decode cX2_init 15 = .ok (.newarray .int, 2) := by decide +kernel
theorem dX2_init_17 : decode cX2_init 17 = .ok (.putfield 15, 3) := by decide +kernel
theorem dX2_init_20 : decode cX2_init 20 = .ok (.aload_n 0, 1) := by decide +kernel
theorem dX2_init_21 : decode cX2_init 21 = .ok (.bipush 8, 2) := by decide +kernel
theorem dX2_init_23 : decode cX2_init 23 = .ok (.newarray .int, 2) := by decide +kernel
theorem dX2_init_25 : decode cX2_init 25 = .ok (.putfield 18, 3) := by decide +kernel
theorem dX2_init_28 : decode cX2_init 28 = .ok (.return_, 1) := by decide +kernel
theorem dX2_hear_0 : decode cX2_hear 0 = .ok (.aload_n 0, 1) := by decide +kernel
theorem dX2_hear_1 : decode cX2_hear 1 = .ok (.iconst 0, 1) := by decide +kernel
theorem dX2_hear_2 : decode cX2_hear 2 = .ok (.putfield 21, 3) := by decide +kernel
theorem dX2_hear_5 : decode cX2_hear 5 = .ok (.iconst 0, 1) := by decide +kernel
theorem dX2_hear_6 : decode cX2_hear 6 = .ok (.istore 4, 2) := by decide +kernel
theorem dX2_hear_8 : decode cX2_hear 8 = .ok (.iload 4, 2) := by decide +kernel
theorem dX2_hear_10 : decode cX2_hear 10 = .ok (.iload_n 3, 1) := by decide +kernel
theorem dX2_hear_11 : decode cX2_hear 11 = .ok (.if_icmp .ge 80, 3) := by decide +kernel
theorem dX2_hear_14 : decode cX2_hear 14 = .ok (.iload 4, 2) := by decide +kernel
theorem dX2_hear_16 : decode cX2_hear 16 = .ok (.bipush 12, 2) := by decide +kernel
theorem dX2_hear_18 : decode cX2_hear 18 = .ok (.if_icmp .ge 73, 3) := by decide +kernel
theorem dX2_hear_21 : decode cX2_hear 21 = .ok (.aload_n 1, 1) := by decide +kernel
theorem dX2_hear_22 : decode cX2_hear 22 = .ok (.iload_n 2, 1) := by decide +kernel
theorem dX2_hear_23 : decode cX2_hear 23 = .ok (.iconst 2, 1) := by decide +kernel
theorem dX2_hear_24 : decode cX2_hear 24 = .ok (.iload 4, 2) := by decide +kernel
theorem dX2_hear_26 : decode cX2_hear 26 = .ok (.imul, 1) := by decide +kernel
theorem dX2_hear_27 : decode cX2_hear 27 = .ok (.iconst 2, 1) := by decide +kernel
theorem dX2_hear_28 : decode cX2_hear 28 = .ok (.iadd, 1) := by decide +kernel
theorem dX2_hear_29 : decode cX2_hear 29 = .ok (.invokevirtual 25, 3) := by decide +kernel
theorem dX2_hear_32 : decode cX2_hear 32 = .ok (.ifCond .eq 59, 3) := by decide +kernel
theorem dX2_hear_35 : decode cX2_hear 35 = .ok (.aload_n 0, 1) := by decide +kernel
theorem dX2_hear_36 : decode cX2_hear 36 = .ok (.getfield 9, 3) := by decide +kernel
theorem dX2_hear_39 : decode cX2_hear 39 = .ok (.iload 4, 2) := by decide +kernel
theorem dX2_hear_41 : decode cX2_hear 41 = .ok (.aload_n 1, 1) := by decide +kernel
theorem dX2_hear_42 : decode cX2_hear 42 = .ok (.getfield 31, 3) := by decide +kernel
theorem dX2_hear_45 : decode cX2_hear 45 = .ok (.iload_n 2, 1) := by decide +kernel
theorem dX2_hear_46 : decode cX2_hear 46 = .ok (.iconst 2, 1) := by decide +kernel
theorem dX2_hear_47 : decode cX2_hear 47 = .ok (.iload 4, 2) := by decide +kernel
theorem dX2_hear_49 : decode cX2_hear 49 = .ok (.imul, 1) := by decide +kernel
theorem dX2_hear_50 : decode cX2_hear 50 = .ok (.iadd, 1) := by decide +kernel
theorem dX2_hear_51 : decode cX2_hear 51 = .ok (.laload, 1) := by decide +kernel
theorem dX2_hear_52 : decode cX2_hear 52 = .ok (.l2i, 1) := by decide +kernel
theorem dX2_hear_53 : decode cX2_hear 53 = .ok (.iastore, 1) := by decide +kernel
theorem dX2_hear_54 : decode cX2_hear 54 = .ok (.aload_n 0, 1) := by decide +kernel
theorem dX2_hear_55 : decode cX2_hear 55 = .ok (.getfield 15, 3) := by decide +kernel
theorem dX2_hear_58 : decode cX2_hear 58 = .ok (.iload 4, 2) := by decide +kernel
theorem dX2_hear_60 : decode cX2_hear 60 = .ok (.aload_n 1, 1) := by decide +kernel
theorem dX2_hear_61 : decode cX2_hear 61 = .ok (.getfield 31, 3) := by decide +kernel
theorem dX2_hear_64 : decode cX2_hear 64 = .ok (.iload_n 2, 1) := by decide +kernel
theorem dX2_hear_65 : decode cX2_hear 65 = .ok (.iconst 2, 1) := by decide +kernel
theorem dX2_hear_66 : decode cX2_hear 66 = .ok (.iload 4, 2) := by decide +kernel
theorem dX2_hear_68 : decode cX2_hear 68 = .ok (.imul, 1) := by decide +kernel
theorem dX2_hear_69 : decode cX2_hear 69 = .ok (.iadd, 1) := by decide +kernel
theorem dX2_hear_70 : decode cX2_hear 70 = .ok (.iconst 1, 1) := by decide +kernel
theorem dX2_hear_71 : decode cX2_hear 71 = .ok (.iadd, 1) := by decide +kernel
theorem dX2_hear_72 : decode cX2_hear 72 = .ok (.laload, 1) := by decide +kernel
theorem dX2_hear_73 : decode cX2_hear 73 = .ok (.l2i, 1) := by decide +kernel
theorem dX2_hear_74 : decode cX2_hear 74 = .ok (.iastore, 1) := by decide +kernel
theorem dX2_hear_75 : decode cX2_hear 75 = .ok (.aload_n 0, 1) := by decide +kernel
theorem dX2_hear_76 : decode cX2_hear 76 = .ok (.dup, 1) := by decide +kernel
theorem dX2_hear_77 : decode cX2_hear 77 = .ok (.getfield 21, 3) := by decide +kernel
theorem dX2_hear_80 : decode cX2_hear 80 = .ok (.iconst 1, 1) := by decide +kernel
theorem dX2_hear_81 : decode cX2_hear 81 = .ok (.iadd, 1) := by decide +kernel
theorem dX2_hear_82 : decode cX2_hear 82 = .ok (.putfield 21, 3) := by decide +kernel
theorem dX2_hear_85 : decode cX2_hear 85 = .ok (.iinc 4 1, 3) := by decide +kernel
theorem dX2_hear_88 : decode cX2_hear 88 = .ok (.goto (-80), 3) := by decide +kernel
theorem dX2_hear_91 : decode cX2_hear 91 = .ok (.return_, 1) := by decide +kernel
theorem dX2_knowAtLast_0 : decode cX2_knowAtLast 0 = .ok (.iload_n 1, 1) := by decide +kernel
theorem dX2_knowAtLast_1 : decode cX2_knowAtLast 1 = .ok (.istore_n 2, 1) := by decide +kernel
theorem dX2_knowAtLast_2 : decode cX2_knowAtLast 2 = .ok (.iconst 0, 1) := by decide +kernel
theorem dX2_knowAtLast_3 : decode cX2_knowAtLast 3 = .ok (.istore_n 3, 1) := by decide +kernel
theorem dX2_knowAtLast_4 : decode cX2_knowAtLast 4 = .ok (.iload_n 3, 1) := by decide +kernel
theorem dX2_knowAtLast_5 : decode cX2_knowAtLast 5 = .ok (.bipush 8, 2) := by decide +kernel
theorem dX2_knowAtLast_7 : decode cX2_knowAtLast 7 = .ok (.if_icmp .ge 54, 3) := by decide +kernel
theorem dX2_knowAtLast_10 : decode cX2_knowAtLast 10 = .ok (.iconst 0, 1) := by decide +kernel
theorem dX2_knowAtLast_11 : decode cX2_knowAtLast 11 = .ok (.istore 4, 2) := by decide +kernel
theorem dX2_knowAtLast_13 : decode cX2_knowAtLast 13 = .ok (.iload 4, 2) := by decide +kernel
theorem dX2_knowAtLast_15 : decode cX2_knowAtLast 15 = .ok (.aload_n 0, 1) := by decide +kernel
theorem dX2_knowAtLast_16 : decode cX2_knowAtLast 16 = .ok (.getfield 21, 3) := by decide +kernel
theorem dX2_knowAtLast_19 : decode cX2_knowAtLast 19 = .ok (.if_icmp .ge 36, 3) := by decide +kernel
theorem dX2_knowAtLast_22 : decode cX2_knowAtLast 22 = .ok (.iload_n 2, 1) := by decide +kernel
theorem dX2_knowAtLast_23 : decode cX2_knowAtLast 23 = .ok (.aload_n 0, 1) := by decide +kernel
theorem dX2_knowAtLast_24 : decode cX2_knowAtLast 24 = .ok (.getfield 9, 3) := by decide +kernel
theorem dX2_knowAtLast_27 : decode cX2_knowAtLast 27 = .ok (.iload 4, 2) := by decide +kernel
theorem dX2_knowAtLast_29 : decode cX2_knowAtLast 29 = .ok (.iaload, 1) := by decide +kernel
theorem dX2_knowAtLast_30 : decode cX2_knowAtLast 30 = .ok (.ishr, 1) := by decide +kernel
theorem dX2_knowAtLast_31 : decode cX2_knowAtLast 31 = .ok (.iconst 1, 1) := by decide +kernel
theorem dX2_knowAtLast_32 : decode cX2_knowAtLast 32 = .ok (.iand, 1) := by decide +kernel
theorem dX2_knowAtLast_33 : decode cX2_knowAtLast 33 = .ok (.iconst 1, 1) := by decide +kernel
theorem dX2_knowAtLast_34 : decode cX2_knowAtLast 34 = .ok (.if_icmp .ne 15, 3) := by decide +kernel
theorem dX2_knowAtLast_37 : decode cX2_knowAtLast 37 = .ok (.iload_n 2, 1) := by decide +kernel
theorem dX2_knowAtLast_38 : decode cX2_knowAtLast 38 = .ok (.iconst 1, 1) := by decide +kernel
theorem dX2_knowAtLast_39 : decode cX2_knowAtLast 39 = .ok (.aload_n 0, 1) := by decide +kernel
theorem dX2_knowAtLast_40 : decode cX2_knowAtLast 40 = .ok (.getfield 15, 3) := by decide +kernel
theorem dX2_knowAtLast_43 : decode cX2_knowAtLast 43 = .ok (.iload 4, 2) := by decide +kernel
theorem dX2_knowAtLast_45 : decode cX2_knowAtLast 45 = .ok (.iaload, 1) := by decide +kernel
theorem dX2_knowAtLast_46 : decode cX2_knowAtLast 46 = .ok (.ishl, 1) := by decide +kernel
theorem dX2_knowAtLast_47 : decode cX2_knowAtLast 47 = .ok (.ior, 1) := by decide +kernel
theorem dX2_knowAtLast_48 : decode cX2_knowAtLast 48 = .ok (.istore_n 2, 1) := by decide +kernel
theorem dX2_knowAtLast_49 : decode cX2_knowAtLast 49 = .ok (.iinc 4 1, 3) := by decide +kernel
theorem dX2_knowAtLast_52 : decode cX2_knowAtLast 52 = .ok (.goto (-39), 3) := by decide +kernel
theorem dX2_knowAtLast_55 : decode cX2_knowAtLast 55 = .ok (.iinc 3 1, 3) := by decide +kernel
theorem dX2_knowAtLast_58 : decode cX2_knowAtLast 58 = .ok (.goto (-54), 3) := by decide +kernel
theorem dX2_knowAtLast_61 : decode cX2_knowAtLast 61 = .ok (.iload_n 2, 1) := by decide +kernel
theorem dX2_knowAtLast_62 : decode cX2_knowAtLast 62 = .ok (.ireturn, 1) := by decide +kernel
theorem dX2_fewestToTell_0 : decode cX2_fewestToTell 0 = .ok (.iconst 0, 1) := by decide +kernel
theorem dX2_fewestToTell_1 : decode cX2_fewestToTell 1 = .ok (.istore_n 1, 1) := by decide +kernel
theorem dX2_fewestToTell_2 : decode cX2_fewestToTell 2 = .ok (.iload_n 1, 1) := by decide +kernel
theorem dX2_fewestToTell_3 : decode cX2_fewestToTell 3 = .ok (.bipush 8, 2) := by decide +kernel
theorem dX2_fewestToTell_5 : decode cX2_fewestToTell 5 = .ok (.if_icmp .ge 22, 3) := by decide +kernel
theorem dX2_fewestToTell_8 : decode cX2_fewestToTell 8 = .ok (.aload_n 0, 1) := by decide +kernel
theorem dX2_fewestToTell_9 : decode cX2_fewestToTell 9 = .ok (.getfield 18, 3) := by decide +kernel
theorem dX2_fewestToTell_12 : decode cX2_fewestToTell 12 = .ok (.iload_n 1, 1) := by decide +kernel
theorem dX2_fewestToTell_13 : decode cX2_fewestToTell 13 = .ok (.aload_n 0, 1) := by decide +kernel
theorem dX2_fewestToTell_14 : decode cX2_fewestToTell 14 = .ok (.iconst 1, 1) := by decide +kernel
theorem dX2_fewestToTell_15 : decode cX2_fewestToTell 15 = .ok (.iload_n 1, 1) := by decide +kernel
theorem dX2_fewestToTell_16 : decode cX2_fewestToTell 16 = .ok (.ishl, 1) := by decide +kernel
theorem dX2_fewestToTell_17 : decode cX2_fewestToTell 17 = .ok (.invokevirtual 35, 3) := by decide +kernel
theorem dX2_fewestToTell_20 : decode cX2_fewestToTell 20 = .ok (.iastore, 1) := by decide +kernel
theorem dX2_fewestToTell_21 : decode cX2_fewestToTell 21 = .ok (.iinc 1 1, 3) := by decide +kernel
theorem dX2_fewestToTell_24 : decode cX2_fewestToTell 24 = .ok (.goto (-22), 3) := by decide +kernel
theorem dX2_fewestToTell_27 : decode cX2_fewestToTell 27 = .ok (.sipush 255, 3) := by decide +kernel
theorem dX2_fewestToTell_30 : decode cX2_fewestToTell 30 = .ok (.istore_n 1, 1) := by decide +kernel
theorem dX2_fewestToTell_31 : decode cX2_fewestToTell 31 = .ok (.iconst 0, 1) := by decide +kernel
theorem dX2_fewestToTell_32 : decode cX2_fewestToTell 32 = .ok (.istore_n 2, 1) := by decide +kernel
theorem dX2_fewestToTell_33 : decode cX2_fewestToTell 33 = .ok (.iload_n 2, 1) := by decide +kernel
theorem dX2_fewestToTell_34 : decode cX2_fewestToTell 34 = .ok (.sipush 255, 3) := by decide +kernel
theorem dX2_fewestToTell_37 : decode cX2_fewestToTell 37 = .ok (.if_icmp .ge 43, 3) := by decide +kernel
theorem dX2_fewestToTell_40 : decode cX2_fewestToTell 40 = .ok (.iload_n 2, 1) := by decide +kernel
theorem dX2_fewestToTell_41 : decode cX2_fewestToTell 41 = .ok (.invokestatic 39, 3) := by decide +kernel
theorem dX2_fewestToTell_44 : decode cX2_fewestToTell 44 = .ok (.iload_n 1, 1) := by decide +kernel
theorem dX2_fewestToTell_45 : decode cX2_fewestToTell 45 = .ok (.invokestatic 39, 3) := by decide +kernel
theorem dX2_fewestToTell_48 : decode cX2_fewestToTell 48 = .ok (.if_icmp .ge 7, 3) := by decide +kernel
theorem dX2_fewestToTell_51 : decode cX2_fewestToTell 51 = .ok (.iconst 1, 1) := by decide +kernel
theorem dX2_fewestToTell_52 : decode cX2_fewestToTell 52 = .ok (.goto 4, 3) := by decide +kernel
theorem dX2_fewestToTell_55 : decode cX2_fewestToTell 55 = .ok (.iconst 0, 1) := by decide +kernel
theorem dX2_fewestToTell_56 : decode cX2_fewestToTell 56 = .ok (.istore_n 3, 1) := by decide +kernel
theorem dX2_fewestToTell_57 : decode cX2_fewestToTell 57 = .ok (.iload_n 3, 1) := by decide +kernel
theorem dX2_fewestToTell_58 : decode cX2_fewestToTell 58 = .ok (.ifCond .eq 16, 3) := by decide +kernel
theorem dX2_fewestToTell_61 : decode cX2_fewestToTell 61 = .ok (.aload_n 0, 1) := by decide +kernel
theorem dX2_fewestToTell_62 : decode cX2_fewestToTell 62 = .ok (.iload_n 2, 1) := by decide +kernel
theorem dX2_fewestToTell_63 : decode cX2_fewestToTell 63 = .ok (.invokevirtual 44, 3) := by decide +kernel
theorem dX2_fewestToTell_66 : decode cX2_fewestToTell 66 = .ok (.sipush 255, 3) := by decide +kernel
theorem dX2_fewestToTell_69 : decode cX2_fewestToTell 69 = .ok (.if_icmp .ne 5, 3) := by decide +kernel
theorem dX2_fewestToTell_72 : decode cX2_fewestToTell 72 = .ok (.iload_n 2, 1) := by decide +kernel
theorem dX2_fewestToTell_73 : decode cX2_fewestToTell 73 = .ok (.istore_n 1, 1) := by decide +kernel
theorem dX2_fewestToTell_74 : decode cX2_fewestToTell 74 = .ok (.iinc 2 1, 3) := by decide +kernel
theorem dX2_fewestToTell_77 : decode cX2_fewestToTell 77 = .ok (.goto (-44), 3) := by decide +kernel
theorem dX2_fewestToTell_80 : decode cX2_fewestToTell 80 = .ok (.iload_n 1, 1) := by decide +kernel
theorem dX2_fewestToTell_81 : decode cX2_fewestToTell 81 = .ok (.ireturn, 1) := by decide +kernel
theorem dX2_knownFrom_0 : decode cX2_knownFrom 0 = .ok (.iconst 0, 1) := by decide +kernel
theorem dX2_knownFrom_1 : decode cX2_knownFrom 1 = .ok (.istore_n 2, 1) := by decide +kernel
theorem dX2_knownFrom_2 : decode cX2_knownFrom 2 = .ok (.iconst 0, 1) := by decide +kernel
theorem dX2_knownFrom_3 : decode cX2_knownFrom 3 = .ok (.istore_n 3, 1) := by decide +kernel
theorem dX2_knownFrom_4 : decode cX2_knownFrom 4 = .ok (.iload_n 3, 1) := by decide +kernel
theorem dX2_knownFrom_5 : decode cX2_knownFrom 5 = .ok (.bipush 8, 2) := by decide +kernel
theorem dX2_knownFrom_7 : decode cX2_knownFrom 7 = .ok (.if_icmp .ge 27, 3) := by decide +kernel
theorem dX2_knownFrom_10 : decode cX2_knownFrom 10 = .ok (.iload_n 1, 1) := by decide +kernel
theorem dX2_knownFrom_11 : decode cX2_knownFrom 11 = .ok (.iload_n 3, 1) := by decide +kernel
theorem dX2_knownFrom_12 : decode cX2_knownFrom 12 = .ok (.ishr, 1) := by decide +kernel
theorem dX2_knownFrom_13 : decode cX2_knownFrom 13 = .ok (.iconst 1, 1) := by decide +kernel
theorem dX2_knownFrom_14 : decode cX2_knownFrom 14 = .ok (.iand, 1) := by decide +kernel
theorem dX2_knownFrom_15 : decode cX2_knownFrom 15 = .ok (.iconst 1, 1) := by decide +kernel
theorem dX2_knownFrom_16 : decode cX2_knownFrom 16 = .ok (.if_icmp .ne 12, 3) := by decide +kernel
theorem dX2_knownFrom_19 : decode cX2_knownFrom 19 = .ok (.iload_n 2, 1) := by decide +kernel
theorem dX2_knownFrom_20 : decode cX2_knownFrom 20 = .ok (.aload_n 0, 1) := by decide +kernel
theorem dX2_knownFrom_21 : decode cX2_knownFrom 21 = .ok (.getfield 18, 3) := by decide +kernel
theorem dX2_knownFrom_24 : decode cX2_knownFrom 24 = .ok (.iload_n 3, 1) := by decide +kernel
theorem dX2_knownFrom_25 : decode cX2_knownFrom 25 = .ok (.iaload, 1) := by decide +kernel
theorem dX2_knownFrom_26 : decode cX2_knownFrom 26 = .ok (.ior, 1) := by decide +kernel
theorem dX2_knownFrom_27 : decode cX2_knownFrom 27 = .ok (.istore_n 2, 1) := by decide +kernel
theorem dX2_knownFrom_28 : decode cX2_knownFrom 28 = .ok (.iinc 3 1, 3) := by decide +kernel
theorem dX2_knownFrom_31 : decode cX2_knownFrom 31 = .ok (.goto (-27), 3) := by decide +kernel
theorem dX2_knownFrom_34 : decode cX2_knownFrom 34 = .ok (.iload_n 2, 1) := by decide +kernel
theorem dX2_knownFrom_35 : decode cX2_knownFrom 35 = .ok (.ireturn, 1) := by decide +kernel
theorem dX3_init_0 : decode cX3_init 0 = .ok (.aload_n 0, 1) := by decide +kernel
theorem dX3_init_1 : decode cX3_init 1 = .ok (.invokespecial 3, 3) := by decide +kernel
theorem dX3_init_4 : decode cX3_init 4 = .ok (.aload_n 0, 1) := by decide +kernel
theorem dX3_init_5 : decode cX3_init 5 = .ok (.bipush 20, 2) := by decide +kernel
theorem dX3_init_7 : decode cX3_init 7 = .ok (.anewarray 9, 3) := by decide +kernel
theorem dX3_init_10 : decode cX3_init 10 = .ok (.putfield 11, 3) := by decide +kernel
theorem dX3_init_13 : decode cX3_init 13 = .ok (.iconst 0, 1) := by decide +kernel
theorem dX3_init_14 : decode cX3_init 14 = .ok (.istore_n 1, 1) := by decide +kernel
theorem dX3_init_15 : decode cX3_init 15 = .ok (.iload_n 1, 1) := by decide +kernel
theorem dX3_init_16 : decode cX3_init 16 = .ok (.bipush 20, 2) := by decide +kernel
theorem dX3_init_18 : decode cX3_init 18 = .ok (.if_icmp .ge 22, 3) := by decide +kernel
theorem dX3_init_21 : decode cX3_init 21 = .ok (.aload_n 0, 1) := by decide +kernel
theorem dX3_init_22 : decode cX3_init 22 = .ok (.getfield 11, 3) := by decide +kernel
theorem dX3_init_25 : decode cX3_init 25 = .ok (.iload_n 1, 1) := by decide +kernel
theorem dX3_init_26 : decode cX3_init 26 = .ok (.new 9, 3) := by decide +kernel
theorem dX3_init_29 : decode cX3_init 29 = .ok (.dup, 1) := by decide +kernel
theorem dX3_init_30 : decode cX3_init 30 = .ok (.invokespecial 17, 3) := by decide +kernel
theorem dX3_init_33 : decode cX3_init 33 = .ok (.aastore, 1) := by decide +kernel
theorem dX3_init_34 : decode cX3_init 34 = .ok (.iinc 1 1, 3) := by decide +kernel
theorem dX3_init_37 : decode cX3_init 37 = .ok (.goto (-22), 3) := by decide +kernel
theorem dX3_init_40 : decode cX3_init 40 = .ok (.return_, 1) := by decide +kernel
theorem dX3_keep_0 : decode cX3_keep 0 = .ok (.aload_n 0, 1) := by decide +kernel
theorem dX3_keep_1 : decode cX3_keep 1 = .ok (.getfield 11, 3) := by decide +kernel
theorem dX3_keep_4 : decode cX3_keep 4 = .ok (.aload_n 0, 1) := by decide +kernel
theorem dX3_keep_5 : decode cX3_keep 5 = .ok (.getfield 18, 3) := by decide +kernel
theorem dX3_keep_8 : decode cX3_keep 8 = .ok (.aaload, 1) := by decide +kernel
theorem dX3_keep_9 : decode cX3_keep 9 = .ok (.aload_n 1, 1) := by decide +kernel
theorem dX3_keep_10 : decode cX3_keep 10 = .ok (.invokevirtual 22, 3) := by decide +kernel
theorem dX3_keep_13 : decode cX3_keep 13 = .ok (.aload_n 0, 1) := by decide +kernel
theorem dX3_keep_14 : decode cX3_keep 14 = .ok (.aload_n 0, 1) := by decide +kernel
theorem dX3_keep_15 : decode cX3_keep 15 = .ok (.getfield 18, 3) := by decide +kernel
theorem dX3_keep_18 : decode cX3_keep 18 = .ok (.iconst 1, 1) := by decide +kernel
theorem dX3_keep_19 : decode cX3_keep 19 = .ok (.iadd, 1) := by decide +kernel
theorem dX3_keep_20 : decode cX3_keep 20 = .ok (.bipush 20, 2) := by decide +kernel
theorem dX3_keep_22 : decode cX3_keep 22 = .ok (.irem, 1) := by decide +kernel
theorem dX3_keep_23 : decode cX3_keep 23 = .ok (.putfield 18, 3) := by decide +kernel
theorem dX3_keep_26 : decode cX3_keep 26 = .ok (.aload_n 0, 1) := by decide +kernel
theorem dX3_keep_27 : decode cX3_keep 27 = .ok (.bipush 20, 2) := by decide +kernel
theorem dX3_keep_29 : decode cX3_keep 29 = .ok (.aload_n 0, 1) := by decide +kernel
theorem dX3_keep_30 : decode cX3_keep 30 = .ok (.getfield 26, 3) := by decide +kernel
theorem dX3_keep_33 : decode cX3_keep 33 = .ok (.iconst 1, 1) := by decide +kernel
theorem dX3_keep_34 : decode cX3_keep 34 = .ok (.iadd, 1) := by decide +kernel
theorem dX3_keep_35 : decode cX3_keep 35 = .ok (.invokestatic 29, 3) := by decide +kernel
theorem dX3_keep_38 : decode cX3_keep 38 = .ok (.putfield 26, 3) := by decide +kernel
theorem dX3_keep_41 : decode cX3_keep 41 = .ok (.return_, 1) := by decide +kernel
theorem dX3_giveBack_0 : decode cX3_giveBack 0 = .ok (.aload_n 0, 1) := by decide +kernel
theorem dX3_giveBack_1 : decode cX3_giveBack 1 = .ok (.getfield 26, 3) := by decide +kernel
theorem dX3_giveBack_4 : decode cX3_giveBack 4 = .ok (.ifCond .ne 5, 3) := by decide +kernel
theorem dX3_giveBack_7 : decode cX3_giveBack 7 = .ok (.iconst 0, 1) := by decide +kernel
theorem dX3_giveBack_8 : decode cX3_giveBack 8 = .ok (.ireturn, 1) := by decide +kernel
theorem dX3_giveBack_9 : decode cX3_giveBack 9 = .ok (.aload_n 0, 1) := by decide +kernel
theorem dX3_giveBack_10 : decode cX3_giveBack 10 = .ok (.aload_n 0, 1) := by decide +kernel
theorem dX3_giveBack_11 : decode cX3_giveBack 11 = .ok (.getfield 18, 3) := by decide +kernel
theorem dX3_giveBack_14 : decode cX3_giveBack 14 = .ok (.bipush 20, 2) := by decide +kernel
theorem dX3_giveBack_16 : decode cX3_giveBack 16 = .ok (.iadd, 1) := by decide +kernel
theorem dX3_giveBack_17 : decode cX3_giveBack 17 = .ok (.iconst 1, 1) := by decide +kernel
theorem dX3_giveBack_18 : decode cX3_giveBack 18 = .ok (.isub, 1) := by decide +kernel
theorem dX3_giveBack_19 : decode cX3_giveBack 19 = .ok (.bipush 20, 2) := by decide +kernel
theorem dX3_giveBack_21 : decode cX3_giveBack 21 = .ok (.irem, 1) := by decide +kernel
theorem dX3_giveBack_22 : decode cX3_giveBack 22 = .ok (.putfield 18, 3) := by decide +kernel
theorem dX3_giveBack_25 : decode cX3_giveBack 25 = .ok (.aload_n 0, 1) := by decide +kernel
theorem dX3_giveBack_26 : decode cX3_giveBack 26 = .ok (.dup, 1) := by decide +kernel
theorem dX3_giveBack_27 : decode cX3_giveBack 27 = .ok (.getfield 26, 3) := by decide +kernel
theorem dX3_giveBack_30 : decode cX3_giveBack 30 = .ok (.iconst 1, 1) := by decide +kernel
theorem dX3_giveBack_31 : decode cX3_giveBack 31 = .ok (.isub, 1) := by decide +kernel
theorem dX3_giveBack_32 : decode cX3_giveBack 32 = .ok (.putfield 26, 3) := by decide +kernel
theorem dX3_giveBack_35 : decode cX3_giveBack 35 = .ok (.aload_n 1, 1) := by decide +kernel
theorem dX3_giveBack_36 : decode cX3_giveBack 36 = .ok (.aload_n 0, 1) := by decide +kernel
theorem dX3_giveBack_37 : decode cX3_giveBack 37 = .ok (.getfield 11, 3) := by decide +kernel
theorem dX3_giveBack_40 : decode cX3_giveBack 40 = .ok (.aload_n 0, 1) := by decide +kernel
theorem dX3_giveBack_41 : decode cX3_giveBack 41 = .ok (.getfield 18, 3) := by decide +kernel
theorem dX3_giveBack_44 : decode cX3_giveBack 44 = .ok (.aaload, 1) := by decide +kernel
theorem dX3_giveBack_45 : decode cX3_giveBack 45 = .ok (.invokevirtual 22, 3) := by decide +kernel
theorem dX3_giveBack_48 : decode cX3_giveBack 48 = .ok (.iconst 1, 1) := by decide +kernel
theorem dX3_giveBack_49 : decode cX3_giveBack 49 = .ok (.ireturn, 1) := by decide +kernel
theorem dX3_forget_0 : decode cX3_forget 0 = .ok (.aload_n 0, 1) := by decide +kernel
theorem dX3_forget_1 : decode cX3_forget 1 = .ok (.iconst 0, 1) := by decide +kernel
theorem dX3_forget_2 : decode cX3_forget 2 = .ok (.putfield 26, 3) := by decide +kernel
theorem dX3_forget_5 : decode cX3_forget 5 = .ok (.return_, 1) := by decide +kernel
theorem dX4_init_0 : decode cX4_init 0 = .ok (.aload_n 0, 1) := by decide +kernel
theorem dX4_init_1 : decode cX4_init 1 = .ok (.invokespecial 3, 3) := by decide +kernel
theorem dX4_init_4 : decode cX4_init 4 = .ok (.aload_n 0, 1) := by decide +kernel
theorem dX4_init_5 : decode cX4_init 5 = .ok (.bipush 7, 2) := by decide +kernel
theorem dX4_init_7 : decode cX4_init 7 = .ok (.anewarray 11, 3) := by decide +kernel
theorem dX4_init_10 : decode cX4_init 10 = .ok (.putfield 13, 3) := by decide +kernel
theorem dX4_init_13 : decode cX4_init 13 = .ok (.aload_n 0, 1) := by decide +kernel
theorem dX4_init_14 : decode cX4_init 14 = .ok (.bipush 7, 2) := by decide +kernel
theorem dX4_init_16 : decode cX4_init 16 = .ok (.anewarray 11, 3) := by decide +kernel
theorem dX4_init_19 : decode cX4_init 19 = .ok (.putfield 17, 3) := by decide +kernel
theorem dX4_init_22 : decode cX4_init 22 = .ok (.iconst 0, 1) := by decide +kernel
theorem dX4_init_23 : decode cX4_init 23 = .ok (.istore_n 1, 1) := by decide +kernel
theorem dX4_init_24 : decode cX4_init 24 = .ok (.iload_n 1, 1) := by decide +kernel
theorem dX4_init_25 : decode cX4_init 25 = .ok (.bipush 7, 2) := by decide +kernel
theorem dX4_init_27 : decode cX4_init 27 = .ok (.if_icmp .ge 35, 3) := by decide +kernel
theorem dX4_init_30 : decode cX4_init 30 = .ok (.aload_n 0, 1) := by decide +kernel
theorem dX4_init_31 : decode cX4_init 31 = .ok (.getfield 13, 3) := by decide +kernel
theorem dX4_init_34 : decode cX4_init 34 = .ok (.iload_n 1, 1) := by decide +kernel
theorem dX4_init_35 : decode cX4_init 35 = .ok (.new 11, 3) := by decide +kernel
theorem dX4_init_38 : decode cX4_init 38 = .ok (.dup, 1) := by decide +kernel
theorem dX4_init_39 : decode cX4_init 39 = .ok (.invokespecial 20, 3) := by decide +kernel
theorem dX4_init_42 : decode cX4_init 42 = .ok (.aastore, 1) := by decide +kernel
theorem dX4_init_43 : decode cX4_init 43 = .ok (.aload_n 0, 1) := by decide +kernel
theorem dX4_init_44 : decode cX4_init 44 = .ok (.getfield 17, 3) := by decide +kernel
theorem dX4_init_47 : decode cX4_init 47 = .ok (.iload_n 1, 1) := by decide +kernel
theorem dX4_init_48 : decode cX4_init 48 = .ok (.new 11, 3) := by decide +kernel
theorem dX4_init_51 : decode cX4_init 51 = .ok (.dup, 1) := by decide +kernel
theorem dX4_init_52 : decode cX4_init 52 = .ok (.invokespecial 20, 3) := by decide +kernel
theorem dX4_init_55 : decode cX4_init 55 = .ok (.aastore, 1) := by decide +kernel
theorem dX4_init_56 : decode cX4_init 56 = .ok (.iinc 1 1, 3) := by decide +kernel
theorem dX4_init_59 : decode cX4_init 59 = .ok (.goto (-35), 3) := by decide +kernel
theorem dX4_init_62 : decode cX4_init 62 = .ok (.return_, 1) := by decide +kernel
theorem dX4_play_0 : decode cX4_play 0 = .ok (.aload_n 0, 1) := by decide +kernel
theorem dX4_play_1 : decode cX4_play 1 = .ok (.aload_n 3, 1) := by decide +kernel
theorem dX4_play_2 : decode cX4_play 2 = .ok (.putfield 21, 3) := by decide +kernel
theorem dX4_play_5 : decode cX4_play 5 = .ok (.aload_n 0, 1) := by decide +kernel
theorem dX4_play_6 : decode cX4_play 6 = .ok (.getfield 13, 3) := by decide +kernel
theorem dX4_play_9 : decode cX4_play 9 = .ok (.iconst 0, 1) := by decide +kernel
theorem dX4_play_10 : decode cX4_play 10 = .ok (.aaload, 1) := by decide +kernel
theorem dX4_play_11 : decode cX4_play 11 = .ok (.aload_n 1, 1) := by decide +kernel
theorem dX4_play_12 : decode cX4_play 12 = .ok (.invokevirtual 25, 3) := by decide +kernel
theorem dX4_play_15 : decode cX4_play 15 = .ok (.aload_n 0, 1) := by decide +kernel
theorem dX4_play_16 : decode cX4_play 16 = .ok (.getfield 17, 3) := by decide +kernel
theorem dX4_play_19 : decode cX4_play 19 = .ok (.iconst 0, 1) := by decide +kernel
theorem dX4_play_20 : decode cX4_play 20 = .ok (.aaload, 1) := by decide +kernel
theorem dX4_play_21 : decode cX4_play 21 = .ok (.aload_n 2, 1) := by decide +kernel
theorem dX4_play_22 : decode cX4_play 22 = .ok (.invokevirtual 25, 3) := by decide +kernel
theorem dX4_play_25 : decode cX4_play 25 = .ok (.aload_n 0, 1) := by decide +kernel
theorem dX4_play_26 : decode cX4_play 26 = .ok (.iconst 0, 1) := by decide +kernel
theorem dX4_play_27 : decode cX4_play 27 = .ok (.iconst 2, 1) := by decide +kernel
theorem dX4_play_28 : decode cX4_play 28 = .ok (.iload 4, 2) := by decide +kernel
theorem dX4_play_30 : decode cX4_play 30 = .ok (.imul, 1) := by decide +kernel
theorem dX4_play_31 : decode cX4_play 31 = .ok (.bipush 6, 2) := by decide +kernel
theorem dX4_play_33 : decode cX4_play 33 = .ok (.invokestatic 29, 3) := by decide +kernel
theorem dX4_play_36 : decode cX4_play 36 = .ok (.invokestatic 35, 3) := by decide +kernel
theorem dX4_play_39 : decode cX4_play 39 = .ok (.ireturn, 1) := by decide +kernel
theorem dX4_edgeFrom_0 : decode cX4_edgeFrom 0 = .ok (.iload_n 1, 1) := by decide +kernel
theorem dX4_edgeFrom_1 : decode cX4_edgeFrom 1 = .ok (.iload_n 2, 1) := by decide +kernel
theorem dX4_edgeFrom_2 : decode cX4_edgeFrom 2 = .ok (.if_icmp .lt 9, 3) := by decide +kernel
theorem dX4_edgeFrom_5 : decode cX4_edgeFrom 5 = .ok (.aload_n 0, 1) := by decide +kernel
theorem dX4_edgeFrom_6 : decode cX4_edgeFrom 6 = .ok (.iload_n 1, 1) := by decide +kernel
theorem dX4_edgeFrom_7 : decode cX4_edgeFrom 7 = .ok (.invokevirtual 39, 3) := by decide +kernel
theorem dX4_edgeFrom_10 : decode cX4_edgeFrom 10 = .ok (.ireturn, 1) := by decide +kernel
theorem dX4_edgeFrom_11 : decode cX4_edgeFrom 11 = .ok (.iload_n 1, 1) := by decide +kernel
theorem dX4_edgeFrom_12 : decode cX4_edgeFrom 12 = .ok (.iconst 2, 1) := by decide +kernel
theorem dX4_edgeFrom_13 : decode cX4_edgeFrom 13 = .ok (.irem, 1) := by decide +kernel
theorem dX4_edgeFrom_14 : decode cX4_edgeFrom 14 = .ok (.ifCond .ne 7, 3) := by decide +kernel
theorem dX4_edgeFrom_17 : decode cX4_edgeFrom 17 = .ok (.iconst 1, 1) := by decide +kernel
theorem dX4_edgeFrom_18 : decode cX4_edgeFrom 18 = .ok (.goto 4, 3) := by decide +kernel
theorem dX4_edgeFrom_21 : decode cX4_edgeFrom 21 = .ok (.iconst 0, 1) := by decide +kernel
theorem dX4_edgeFrom_22 : decode cX4_edgeFrom 22 = .ok (.istore_n 3, 1) := by decide +kernel
theorem dX4_edgeFrom_23 : decode cX4_edgeFrom 23 = .ok (.iload_n 3, 1) := by decide +kernel
theorem dX4_edgeFrom_24 : decode cX4_edgeFrom 24 = .ok (.ifCond .eq 8, 3) := by decide +kernel
theorem dX4_edgeFrom_27 : decode cX4_edgeFrom 27 = .ok (.ldc 43, 2) := by decide +kernel
theorem dX4_edgeFrom_29 : decode cX4_edgeFrom 29 = .ok (.goto 5, 3) := by decide +kernel
theorem dX4_edgeFrom_32 : decode cX4_edgeFrom 32 = .ok (.ldc 44, 2) := by decide +kernel
theorem dX4_edgeFrom_34 : decode cX4_edgeFrom 34 = .ok (.istore 4, 2) := by decide +kernel
theorem dX4_edgeFrom_36 : decode cX4_edgeFrom 36 = .ok (.iconst 0, 1) := by decide +kernel
theorem dX4_edgeFrom_37 : decode cX4_edgeFrom 37 = .ok (.istore 5, 2) := by decide +kernel
theorem dX4_edgeFrom_39 : decode cX4_edgeFrom 39 = .ok (.iload 5, 2) := by decide +kernel
theorem dX4_edgeFrom_41 : decode cX4_edgeFrom 41 = .ok (.iconst 3, 1) := by decide +kernel
theorem dX4_edgeFrom_42 : decode cX4_edgeFrom 42 = .ok (.if_icmp .ge 62, 3) := by decide +kernel
theorem dX4_edgeFrom_45 : decode cX4_edgeFrom 45 = .ok (.aload_n 0, 1) := by decide +kernel
theorem dX4_edgeFrom_46 : decode cX4_edgeFrom 46 = .ok (.iload_n 1, 1) := by decide +kernel
theorem dX4_edgeFrom_47 : decode cX4_edgeFrom 47 = .ok (.iload 5, 2) := by decide +kernel
theorem dX4_edgeFrom_49 : decode cX4_edgeFrom 49 = .ok (.invokevirtual 45, 3) := by decide +kernel
theorem dX4_edgeFrom_52 : decode cX4_edgeFrom 52 = .ok (.ifCond .ne 6, 3) := by decide +kernel
theorem dX4_edgeFrom_55 : decode cX4_edgeFrom 55 = .ok (.goto 43, 3) := by decide +kernel
theorem dX4_edgeFrom_58 : decode cX4_edgeFrom 58 = .ok (.aload_n 0, 1) := by decide +kernel
theorem dX4_edgeFrom_59 : decode cX4_edgeFrom 59 = .ok (.iload_n 1, 1) := by decide +kernel
theorem dX4_edgeFrom_60 : decode cX4_edgeFrom 60 = .ok (.iload 5, 2) := by decide +kernel
theorem dX4_edgeFrom_62 : decode cX4_edgeFrom 62 = .ok (.invokevirtual 49, 3) := by decide +kernel
theorem dX4_edgeFrom_65 : decode cX4_edgeFrom 65 = .ok (.aload_n 0, 1) := by decide +kernel
theorem dX4_edgeFrom_66 : decode cX4_edgeFrom 66 = .ok (.iload_n 1, 1) := by decide +kernel
theorem dX4_edgeFrom_67 : decode cX4_edgeFrom 67 = .ok (.iconst 1, 1) := by decide +kernel
theorem dX4_edgeFrom_68 : decode cX4_edgeFrom 68 = .ok (.iadd, 1) := by decide +kernel
theorem dX4_edgeFrom_69 : decode cX4_edgeFrom 69 = .ok (.iload_n 2, 1) := by decide +kernel
theorem dX4_edgeFrom_70 : decode cX4_edgeFrom 70 = .ok (.invokestatic 35, 3) := by decide +kernel
theorem dX4_edgeFrom_73 : decode cX4_edgeFrom 73 = .ok (.istore 6, 2) := by decide +kernel
theorem dX4_edgeFrom_75 : decode cX4_edgeFrom 75 = .ok (.iload_n 3, 1) := by decide +kernel
theorem dX4_edgeFrom_76 : decode cX4_edgeFrom 76 = .ok (.ifCond .eq 13, 3) := by decide +kernel
theorem dX4_edgeFrom_79 : decode cX4_edgeFrom 79 = .ok (.iload 4, 2) := by decide +kernel
theorem dX4_edgeFrom_81 : decode cX4_edgeFrom 81 = .ok (.iload 6, 2) := by decide +kernel
theorem dX4_edgeFrom_83 : decode cX4_edgeFrom 83 = .ok (.invokestatic 53, 3) := by decide +kernel
theorem dX4_edgeFrom_86 : decode cX4_edgeFrom 86 = .ok (.goto 10, 3) := by decide +kernel
theorem dX4_edgeFrom_89 : decode cX4_edgeFrom 89 = .ok (.iload 4, 2) := by decide +kernel
theorem dX4_edgeFrom_91 : decode cX4_edgeFrom 91 = .ok (.iload 6, 2) := by decide +kernel
theorem dX4_edgeFrom_93 : decode cX4_edgeFrom 93 = .ok (.invokestatic 29, 3) := by decide +kernel
theorem dX4_edgeFrom_96 : decode cX4_edgeFrom 96 = .ok (.istore 4, 2) := by decide +kernel
theorem dX4_edgeFrom_98 : decode cX4_edgeFrom 98 = .ok (.iinc 5 1, 3) := by decide +kernel
theorem dX4_edgeFrom_101 : decode cX4_edgeFrom 101 = .ok (.goto (-62), 3) := by decide +kernel
theorem dX4_edgeFrom_104 : decode cX4_edgeFrom 104 = .ok (.iload 4, 2) := by decide +kernel
theorem dX4_edgeFrom_106 : decode cX4_edgeFrom 106 = .ok (.ireturn, 1) := by decide +kernel
theorem dX4_edgeAt_0 : decode cX4_edgeAt 0 = .ok (.iload_n 1, 1) := by decide +kernel
theorem dX4_edgeAt_1 : decode cX4_edgeAt 1 = .ok (.iconst 0, 1) := by decide +kernel
theorem dX4_edgeAt_2 : decode cX4_edgeAt 2 = .ok (.bipush 6, 2) := by decide +kernel
theorem dX4_edgeAt_4 : decode cX4_edgeAt 4 = .ok (.invokestatic 56, 3) := by decide +kernel
theorem dX4_edgeAt_7 : decode cX4_edgeAt 7 = .ok (.ifCond .ne 5, 3) := by decide +kernel
theorem dX4_edgeAt_10 : decode cX4_edgeAt 10 = .ok (.iconst 0, 1) := by decide +kernel
theorem dX4_edgeAt_11 : decode cX4_edgeAt 11 = .ok (.ireturn, 1) := by decide +kernel
theorem dX4_edgeAt_12 : decode cX4_edgeAt 12 = .ok (.aload_n 0, 1) := by decide +kernel
theorem dX4_edgeAt_13 : decode cX4_edgeAt 13 = .ok (.getfield 13, 3) := by decide +kernel
theorem dX4_edgeAt_16 : decode cX4_edgeAt 16 = .ok (.iload_n 1, 1) := by decide +kernel
theorem dX4_edgeAt_17 : decode cX4_edgeAt 17 = .ok (.aaload, 1) := by decide +kernel
theorem dX4_edgeAt_18 : decode cX4_edgeAt 18 = .ok (.astore_n 2, 1) := by decide +kernel
theorem dX4_edgeAt_19 : decode cX4_edgeAt 19 = .ok (.aload_n 0, 1) := by decide +kernel
theorem dX4_edgeAt_20 : decode cX4_edgeAt 20 = .ok (.getfield 17, 3) := by decide +kernel
theorem dX4_edgeAt_23 : decode cX4_edgeAt 23 = .ok (.iload_n 1, 1) := by decide +kernel
theorem dX4_edgeAt_24 : decode cX4_edgeAt 24 = .ok (.aaload, 1) := by decide +kernel
theorem dX4_edgeAt_25 : decode cX4_edgeAt 25 = .ok (.astore_n 3, 1) := by decide +kernel
theorem dX4_edgeAt_26 : decode cX4_edgeAt 26 = .ok (.aload_n 2, 1) := by decide +kernel
theorem dX4_edgeAt_27 : decode cX4_edgeAt 27 = .ok (.getfield 60, 3) := by decide +kernel
theorem dX4_edgeAt_30 : decode cX4_edgeAt 30 = .ok (.aload_n 2, 1) := by decide +kernel
theorem dX4_edgeAt_31 : decode cX4_edgeAt 31 = .ok (.getfield 64, 3) := by decide +kernel
theorem dX4_edgeAt_34 : decode cX4_edgeAt 34 = .ok (.isub, 1) := by decide +kernel
theorem dX4_edgeAt_35 : decode cX4_edgeAt 35 = .ok (.aload_n 3, 1) := by decide +kernel
theorem dX4_edgeAt_36 : decode cX4_edgeAt 36 = .ok (.getfield 60, 3) := by decide +kernel
theorem dX4_edgeAt_39 : decode cX4_edgeAt 39 = .ok (.aload_n 3, 1) := by decide +kernel
theorem dX4_edgeAt_40 : decode cX4_edgeAt 40 = .ok (.getfield 64, 3) := by decide +kernel
theorem dX4_edgeAt_43 : decode cX4_edgeAt 43 = .ok (.isub, 1) := by decide +kernel
theorem dX4_edgeAt_44 : decode cX4_edgeAt 44 = .ok (.isub, 1) := by decide +kernel
theorem dX4_edgeAt_45 : decode cX4_edgeAt 45 = .ok (.ireturn, 1) := by decide +kernel
theorem dX4_isAllowed_0 : decode cX4_isAllowed 0 = .ok (.iload_n 1, 1) := by decide +kernel
theorem dX4_isAllowed_1 : decode cX4_isAllowed 1 = .ok (.iconst 0, 1) := by decide +kernel
theorem dX4_isAllowed_2 : decode cX4_isAllowed 2 = .ok (.iconst 5, 1) := by decide +kernel
theorem dX4_isAllowed_3 : decode cX4_isAllowed 3 = .ok (.invokestatic 56, 3) := by decide +kernel
theorem dX4_isAllowed_6 : decode cX4_isAllowed 6 = .ok (.ifCond .ne 5, 3) := by decide +kernel
theorem dX4_isAllowed_9 : decode cX4_isAllowed 9 = .ok (.iconst 0, 1) := by decide +kernel
theorem dX4_isAllowed_10 : decode cX4_isAllowed 10 = .ok (.ireturn, 1) := by decide +kernel
theorem dX4_isAllowed_11 : decode cX4_isAllowed 11 = .ok (.iload_n 1, 1) := by decide +kernel
theorem dX4_isAllowed_12 : decode cX4_isAllowed 12 = .ok (.iconst 2, 1) := by decide +kernel
theorem dX4_isAllowed_13 : decode cX4_isAllowed 13 = .ok (.irem, 1) := by decide +kernel
theorem dX4_isAllowed_14 : decode cX4_isAllowed 14 = .ok (.ifCond .ne 7, 3) := by decide +kernel
theorem dX4_isAllowed_17 : decode cX4_isAllowed 17 = .ok (.iconst 1, 1) := by decide +kernel
theorem dX4_isAllowed_18 : decode cX4_isAllowed 18 = .ok (.goto 4, 3) := by decide +kernel
theorem dX4_isAllowed_21 : decode cX4_isAllowed 21 = .ok (.iconst 0, 1) := by decide +kernel
theorem dX4_isAllowed_22 : decode cX4_isAllowed 22 = .ok (.istore_n 3, 1) := by decide +kernel
theorem dX4_isAllowed_23 : decode cX4_isAllowed 23 = .ok (.iload_n 3, 1) := by decide +kernel
theorem dX4_isAllowed_24 : decode cX4_isAllowed 24 = .ok (.ifCond .eq 12, 3) := by decide +kernel
theorem dX4_isAllowed_27 : decode cX4_isAllowed 27 = .ok (.aload_n 0, 1) := by decide +kernel
theorem dX4_isAllowed_28 : decode cX4_isAllowed 28 = .ok (.getfield 13, 3) := by decide +kernel
theorem dX4_isAllowed_31 : decode cX4_isAllowed 31 = .ok (.iload_n 1, 1) := by decide +kernel
theorem dX4_isAllowed_32 : decode cX4_isAllowed 32 = .ok (.aaload, 1) := by decide +kernel
theorem dX4_isAllowed_33 : decode cX4_isAllowed 33 = .ok (.goto 9, 3) := by decide +kernel
theorem dX4_isAllowed_36 : decode cX4_isAllowed 36 = .ok (.aload_n 0, 1) := by decide +kernel
theorem dX4_isAllowed_37 : decode cX4_isAllowed 37 = .ok (.getfield 17, 3) := by decide +kernel
theorem dX4_isAllowed_40 : decode cX4_isAllowed 40 = .ok (.iload_n 1, 1) := by decide +kernel
theorem dX4_isAllowed_41 : decode cX4_isAllowed 41 = .ok (.aaload, 1) := by decide +kernel
theorem dX4_isAllowed_42 : decode cX4_isAllowed 42 = .ok (.astore 4, 2) := by decide +kernel
theorem dX4_isAllowed_44 : decode cX4_isAllowed 44 = .ok (.iload_n 3, 1) := by decide +kernel
theorem dX4_isAllowed_45 : decode cX4_isAllowed 45 = .ok (.ifCond .eq 12, 3) := by decide +kernel
theorem dX4_isAllowed_48 : decode cX4_isAllowed 48 = .ok (.aload_n 0, 1) := by decide +kernel
theorem dX4_isAllowed_49 : decode cX4_isAllowed 49 = .ok (.getfield 17, 3) := by decide +kernel
theorem dX4_isAllowed_52 : decode cX4_isAllowed 52 = .ok (.iload_n 1, 1) := by decide +kernel
theorem dX4_isAllowed_53 : decode cX4_isAllowed 53 = .ok (.aaload, 1) := by decide +kernel
theorem dX4_isAllowed_54 : decode cX4_isAllowed 54 = .ok (.goto 9, 3) := by decide +kernel
theorem dX4_isAllowed_57 : decode cX4_isAllowed 57 = .ok (.aload_n 0, 1) := by decide +kernel
theorem dX4_isAllowed_58 : decode cX4_isAllowed 58 = .ok (.getfield 13, 3) := by decide +kernel
theorem dX4_isAllowed_61 : decode cX4_isAllowed 61 = .ok (.iload_n 1, 1) := by decide +kernel
theorem dX4_isAllowed_62 : decode cX4_isAllowed 62 = .ok (.aaload, 1) := by decide +kernel
theorem dX4_isAllowed_63 : decode cX4_isAllowed 63 = .ok (.astore 5, 2) := by decide +kernel
theorem dX4_isAllowed_65 : decode cX4_isAllowed 65 = .ok (.iload_n 2, 1) := by decide +kernel
theorem dX4_isAllowed_66 : decode cX4_isAllowed 66 = .ok (.iconst 1, 1) := by decide +kernel
theorem dX4_isAllowed_67 : decode cX4_isAllowed 67 = .ok (.if_icmp .ne 9, 3) := by decide +kernel
theorem dX4_isAllowed_70 : decode cX4_isAllowed 70 = .ok (.aload 4, 2) := by decide +kernel
theorem dX4_isAllowed_72 : decode cX4_isAllowed 72 = .ok (.invokevirtual 67, 3) := by decide +kernel
theorem dX4_isAllowed_75 : decode cX4_isAllowed 75 = .ok (.ireturn, 1) := by decide +kernel
theorem dX4_isAllowed_76 : decode cX4_isAllowed 76 = .ok (.iload_n 2, 1) := by decide +kernel
theorem dX4_isAllowed_77 : decode cX4_isAllowed 77 = .ok (.iconst 2, 1) := by decide +kernel
theorem dX4_isAllowed_78 : decode cX4_isAllowed 78 = .ok (.if_icmp .ne 11, 3) := by decide +kernel
theorem dX4_isAllowed_81 : decode cX4_isAllowed 81 = .ok (.aload 5, 2) := by decide +kernel
theorem dX4_isAllowed_83 : decode cX4_isAllowed 83 = .ok (.invokevirtual 71, 3) := by decide +kernel
theorem dX4_isAllowed_86 : decode cX4_isAllowed 86 = .ok (.ifCond .eq 7, 3) := by decide +kernel
theorem dX4_isAllowed_89 : decode cX4_isAllowed 89 = .ok (.iconst 1, 1) := by decide +kernel
theorem dX4_isAllowed_90 : decode cX4_isAllowed 90 = .ok (.goto 4, 3) := by decide +kernel
theorem dX4_isAllowed_93 : decode cX4_isAllowed 93 = .ok (.iconst 0, 1) := by decide +kernel
theorem dX4_isAllowed_94 : decode cX4_isAllowed 94 = .ok (.ireturn, 1) := by decide +kernel
theorem dX4_playMove_0 : decode cX4_playMove 0 = .ok (.iload_n 1, 1) := by decide +kernel
theorem dX4_playMove_1 : decode cX4_playMove 1 = .ok (.iconst 0, 1) := by decide +kernel
theorem dX4_playMove_2 : decode cX4_playMove 2 = .ok (.iconst 5, 1) := by decide +kernel
theorem dX4_playMove_3 : decode cX4_playMove 3 = .ok (.invokestatic 56, 3) := by decide +kernel
theorem dX4_playMove_6 : decode cX4_playMove 6 = .ok (.ifCond .ne 4, 3) := by decide +kernel
theorem dX4_playMove_9 : decode cX4_playMove 9 = .ok (.return_, 1) := by decide +kernel
theorem dX4_playMove_10 : decode cX4_playMove 10 = .ok (.aload_n 0, 1) := by decide +kernel
theorem dX4_playMove_11 : decode cX4_playMove 11 = .ok (.getfield 13, 3) := by decide +kernel
theorem dX4_playMove_14 : decode cX4_playMove 14 = .ok (.iload_n 1, 1) := by decide +kernel
theorem dX4_playMove_15 : decode cX4_playMove 15 = .ok (.iconst 1, 1) := by decide +kernel
theorem dX4_playMove_16 : decode cX4_playMove 16 = .ok (.iadd, 1) := by decide +kernel
theorem dX4_playMove_17 : decode cX4_playMove 17 = .ok (.aaload, 1) := by decide +kernel
theorem dX4_playMove_18 : decode cX4_playMove 18 = .ok (.astore_n 3, 1) := by decide +kernel
theorem dX4_playMove_19 : decode cX4_playMove 19 = .ok (.aload_n 0, 1) := by decide +kernel
theorem dX4_playMove_20 : decode cX4_playMove 20 = .ok (.getfield 17, 3) := by decide +kernel
theorem dX4_playMove_23 : decode cX4_playMove 23 = .ok (.iload_n 1, 1) := by decide +kernel
theorem dX4_playMove_24 : decode cX4_playMove 24 = .ok (.iconst 1, 1) := by decide +kernel
theorem dX4_playMove_25 : decode cX4_playMove 25 = .ok (.iadd, 1) := by decide +kernel
theorem dX4_playMove_26 : decode cX4_playMove 26 = .ok (.aaload, 1) := by decide +kernel
theorem dX4_playMove_27 : decode cX4_playMove 27 = .ok (.astore 4, 2) := by decide +kernel
theorem dX4_playMove_29 : decode cX4_playMove 29 = .ok (.aload_n 3, 1) := by decide +kernel
theorem dX4_playMove_30 : decode cX4_playMove 30 = .ok (.aload_n 0, 1) := by decide +kernel
theorem dX4_playMove_31 : decode cX4_playMove 31 = .ok (.getfield 13, 3) := by decide +kernel
theorem dX4_playMove_34 : decode cX4_playMove 34 = .ok (.iload_n 1, 1) := by decide +kernel
theorem dX4_playMove_35 : decode cX4_playMove 35 = .ok (.aaload, 1) := by decide +kernel
theorem dX4_playMove_36 : decode cX4_playMove 36 = .ok (.invokevirtual 25, 3) := by decide +kernel
theorem dX4_playMove_39 : decode cX4_playMove 39 = .ok (.aload 4, 2) := by decide +kernel
theorem dX4_playMove_41 : decode cX4_playMove 41 = .ok (.aload_n 0, 1) := by decide +kernel
theorem dX4_playMove_42 : decode cX4_playMove 42 = .ok (.getfield 17, 3) := by decide +kernel
theorem dX4_playMove_45 : decode cX4_playMove 45 = .ok (.iload_n 1, 1) := by decide +kernel
theorem dX4_playMove_46 : decode cX4_playMove 46 = .ok (.aaload, 1) := by decide +kernel
theorem dX4_playMove_47 : decode cX4_playMove 47 = .ok (.invokevirtual 25, 3) := by decide +kernel
theorem dX4_playMove_50 : decode cX4_playMove 50 = .ok (.iload_n 1, 1) := by decide +kernel
theorem dX4_playMove_51 : decode cX4_playMove 51 = .ok (.iconst 2, 1) := by decide +kernel
theorem dX4_playMove_52 : decode cX4_playMove 52 = .ok (.irem, 1) := by decide +kernel
theorem dX4_playMove_53 : decode cX4_playMove 53 = .ok (.ifCond .ne 7, 3) := by decide +kernel
theorem dX4_playMove_56 : decode cX4_playMove 56 = .ok (.iconst 1, 1) := by decide +kernel
theorem dX4_playMove_57 : decode cX4_playMove 57 = .ok (.goto 4, 3) := by decide +kernel
theorem dX4_playMove_60 : decode cX4_playMove 60 = .ok (.iconst 0, 1) := by decide +kernel
theorem dX4_playMove_61 : decode cX4_playMove 61 = .ok (.istore 5, 2) := by decide +kernel
theorem dX4_playMove_63 : decode cX4_playMove 63 = .ok (.iload_n 2, 1) := by decide +kernel
theorem dX4_playMove_64 : decode cX4_playMove 64 = .ok (.iconst 1, 1) := by decide +kernel
theorem dX4_playMove_65 : decode cX4_playMove 65 = .ok (.if_icmp .ne 17, 3) := by decide +kernel
theorem dX4_playMove_68 : decode cX4_playMove 68 = .ok (.iload 5, 2) := by decide +kernel
theorem dX4_playMove_70 : decode cX4_playMove 70 = .ok (.ifCond .eq 7, 3) := by decide +kernel
theorem dX4_playMove_73 : decode cX4_playMove 73 = .ok (.aload_n 3, 1) := by decide +kernel
theorem dX4_playMove_74 : decode cX4_playMove 74 = .ok (.goto 5, 3) := by decide +kernel
theorem dX4_playMove_77 : decode cX4_playMove 77 = .ok (.aload 4, 2) := by decide +kernel
theorem dX4_playMove_79 : decode cX4_playMove 79 = .ok (.invokevirtual 74, 3) := by decide +kernel
theorem dX4_playMove_82 : decode cX4_playMove 82 = .ok (.iload_n 2, 1) := by decide +kernel
theorem dX4_playMove_83 : decode cX4_playMove 83 = .ok (.iconst 2, 1) := by decide +kernel
theorem dX4_playMove_84 : decode cX4_playMove 84 = .ok (.if_icmp .ne 18, 3) := by decide +kernel
theorem dX4_playMove_87 : decode cX4_playMove 87 = .ok (.iload 5, 2) := by decide +kernel
theorem dX4_playMove_89 : decode cX4_playMove 89 = .ok (.ifCond .eq 8, 3) := by decide +kernel
theorem dX4_playMove_92 : decode cX4_playMove 92 = .ok (.aload 4, 2) := by decide +kernel
theorem dX4_playMove_94 : decode cX4_playMove 94 = .ok (.goto 4, 3) := by decide +kernel
theorem dX4_playMove_97 : decode cX4_playMove 97 = .ok (.aload_n 3, 1) := by decide +kernel
theorem dX4_playMove_98 : decode cX4_playMove 98 = .ok (.iconst 2, 1) := by decide +kernel
theorem dX4_playMove_99 : decode cX4_playMove 99 = .ok (.putfield 77, 3) := by decide +kernel
theorem dX4_playMove_102 : decode cX4_playMove 102 = .ok (.iload 5, 2) := by decide +kernel
theorem dX4_playMove_104 : decode cX4_playMove 104 = .ok (.ifCond .ne 68, 3) := by decide +kernel
theorem dX4_playMove_107 : decode cX4_playMove 107 = .ok (.aload_n 0, 1) := by decide +kernel
theorem dX4_playMove_108 : decode cX4_playMove 108 = .ok (.getfield 21, 3) := by decide +kernel
theorem dX4_playMove_111 : decode cX4_playMove 111 = .ok (.ifnull 61, 3) := by decide +kernel
theorem dX4_playMove_114 : decode cX4_playMove 114 = .ok (.iload_n 1, 1) := by decide +kernel
theorem dX4_playMove_115 : decode cX4_playMove 115 = .ok (.iconst 2, 1) := by decide +kernel
theorem dX4_playMove_116 : decode cX4_playMove 116 = .ok (.idiv, 1) := by decide +kernel
theorem dX4_playMove_117 : decode cX4_playMove 117 = .ok (.istore 6, 2) := by decide +kernel
theorem dX4_playMove_119 : decode cX4_playMove 119 = .ok (.aload_n 3, 1) := by decide +kernel
theorem dX4_playMove_120 : decode cX4_playMove 120 = .ok (.aload_n 0, 1) := by decide +kernel
theorem dX4_playMove_121 : decode cX4_playMove 121 = .ok (.getfield 21, 3) := by decide +kernel
theorem dX4_playMove_124 : decode cX4_playMove 124 = .ok (.getfield 80, 3) := by decide +kernel
theorem dX4_playMove_127 : decode cX4_playMove 127 = .ok (.iload 6, 2) := by decide +kernel
theorem dX4_playMove_129 : decode cX4_playMove 129 = .ok (.iaload, 1) := by decide +kernel
theorem dX4_playMove_130 : decode cX4_playMove 130 = .ok (.aload_n 0, 1) := by decide +kernel
theorem dX4_playMove_131 : decode cX4_playMove 131 = .ok (.getfield 21, 3) := by decide +kernel
theorem dX4_playMove_134 : decode cX4_playMove 134 = .ok (.getfield 86, 3) := by decide +kernel
theorem dX4_playMove_137 : decode cX4_playMove 137 = .ok (.iload 6, 2) := by decide +kernel
theorem dX4_playMove_139 : decode cX4_playMove 139 = .ok (.baload, 1) := by decide +kernel
theorem dX4_playMove_140 : decode cX4_playMove 140 = .ok (.iload 6, 2) := by decide +kernel
theorem dX4_playMove_142 : decode cX4_playMove 142 = .ok (.invokevirtual 90, 3) := by decide +kernel
theorem dX4_playMove_145 : decode cX4_playMove 145 = .ok (.aload 4, 2) := by decide +kernel
theorem dX4_playMove_147 : decode cX4_playMove 147 = .ok (.aload_n 0, 1) := by decide +kernel
theorem dX4_playMove_148 : decode cX4_playMove 148 = .ok (.getfield 21, 3) := by decide +kernel
theorem dX4_playMove_151 : decode cX4_playMove 151 = .ok (.getfield 80, 3) := by decide +kernel
theorem dX4_playMove_154 : decode cX4_playMove 154 = .ok (.iload 6, 2) := by decide +kernel
theorem dX4_playMove_156 : decode cX4_playMove 156 = .ok (.iaload, 1) := by decide +kernel
theorem dX4_playMove_157 : decode cX4_playMove 157 = .ok (.aload_n 0, 1) := by decide +kernel
theorem dX4_playMove_158 : decode cX4_playMove 158 = .ok (.getfield 21, 3) := by decide +kernel
theorem dX4_playMove_161 : decode cX4_playMove 161 = .ok (.getfield 86, 3) := by decide +kernel
theorem dX4_playMove_164 : decode cX4_playMove 164 = .ok (.iload 6, 2) := by decide +kernel
theorem dX4_playMove_166 : decode cX4_playMove 166 = .ok (.baload, 1) := by decide +kernel
theorem dX4_playMove_167 : decode cX4_playMove 167 = .ok (.iload 6, 2) := by decide +kernel
theorem dX4_playMove_169 : decode cX4_playMove 169 = .ok (.invokevirtual 90, 3) := by decide +kernel
theorem dX4_playMove_172 : decode cX4_playMove 172 = .ok (.return_, 1) := by decide +kernel
theorem dX5_init_0 : decode cX5_init 0 = .ok (.aload_n 0, 1) := by decide +kernel
theorem dX5_init_1 : decode cX5_init 1 = .ok (.invokespecial 3, 3) := by decide +kernel
theorem dX5_init_4 : decode cX5_init 4 = .ok (.aload_n 0, 1) := by decide +kernel
theorem dX5_init_5 : decode cX5_init 5 = .ok (.iconst (-1), 1) := by decide +kernel
theorem dX5_init_6 : decode cX5_init 6 = .ok (.putfield 11, 3) := by decide +kernel
theorem dX5_init_9 : decode cX5_init 9 = .ok (.aload_n 0, 1) := by decide +kernel
theorem dX5_init_10 : decode cX5_init 10 = .ok (.bipush 24, 2) := by decide +kernel
theorem dX5_init_12 : decode cX5_init 12 = .ok (.newarray .long, 2) := by decide +kernel
theorem dX5_init_14 : decode cX5_init 14 = .ok (.putfield 15, 3) := by decide +kernel
theorem dX5_init_17 : decode cX5_init 17 = .ok (.return_, 1) := by decide +kernel
theorem dX5_isNothing_0 : decode cX5_isNothing 0 = .ok (.aload_n 0, 1) := by decide +kernel
theorem dX5_isNothing_1 : decode cX5_isNothing 1 = .ok (.getfield 11, 3) := by decide +kernel
theorem dX5_isNothing_4 : decode cX5_isNothing 4 = .ok (.iconst (-1), 1) := by decide +kernel
theorem dX5_isNothing_5 : decode cX5_isNothing 5 = .ok (.if_icmp .ne 7, 3) := by decide +kernel
theorem dX5_isNothing_8 : decode cX5_isNothing 8 = .ok (.iconst 1, 1) := by decide +kernel
theorem dX5_isNothing_9 : decode cX5_isNothing 9 = .ok (.goto 4, 3) := by decide +kernel
theorem dX5_isNothing_12 : decode cX5_isNothing 12 = .ok (.iconst 0, 1) := by decide +kernel
theorem dX5_isNothing_13 : decode cX5_isNothing 13 = .ok (.ireturn, 1) := by decide +kernel
theorem dX5_becomeNothing_0 : decode cX5_becomeNothing 0 = .ok (.aload_n 0, 1) := by decide +kernel
theorem dX5_becomeNothing_1 : decode cX5_becomeNothing 1 = .ok (.iconst (-1), 1) := by decide +kernel
theorem dX5_becomeNothing_2 : decode cX5_becomeNothing 2 = .ok (.putfield 11, 3) := by decide +kernel
theorem dX5_becomeNothing_5 : decode cX5_becomeNothing 5 = .ok (.aload_n 0, 1) := by decide +kernel
theorem dX5_becomeNothing_6 : decode cX5_becomeNothing 6 = .ok (.iconst 0, 1) := by decide +kernel
theorem dX5_becomeNothing_7 : decode cX5_becomeNothing 7 = .ok (.putfield 19, 3) := by decide +kernel
theorem dX5_becomeNothing_10 : decode cX5_becomeNothing 10 = .ok (.return_, 1) := by decide +kernel
theorem dX5_begin_0 : decode cX5_begin 0 = .ok (.aload_n 0, 1) := by decide +kernel
theorem dX5_begin_1 : decode cX5_begin 1 = .ok (.iload_n 1, 1) := by decide +kernel
theorem dX5_begin_2 : decode cX5_begin 2 = .ok (.putfield 11, 3) := by decide +kernel
theorem dX5_begin_5 : decode cX5_begin 5 = .ok (.aload_n 0, 1) := by decide +kernel
theorem dX5_begin_6 : decode cX5_begin 6 = .ok (.iload_n 2, 1) := by decide +kernel
theorem dX5_begin_7 : decode cX5_begin 7 = .ok (.putfield 19, 3) := by decide +kernel
theorem dX5_begin_10 : decode cX5_begin 10 = .ok (.iconst 0, 1) := by decide +kernel
theorem dX5_begin_11 : decode cX5_begin 11 = .ok (.istore_n 3, 1) := by decide +kernel
theorem dX5_begin_12 : decode cX5_begin 12 = .ok (.iload_n 3, 1) := by decide +kernel
theorem dX5_begin_13 : decode cX5_begin 13 = .ok (.bipush 24, 2) := by decide +kernel
theorem dX5_begin_15 : decode cX5_begin 15 = .ok (.if_icmp .ge 16, 3) := by decide +kernel
theorem dX5_begin_18 : decode cX5_begin 18 = .ok (.aload_n 0, 1) := by decide +kernel
theorem dX5_begin_19 : decode cX5_begin 19 = .ok (.getfield 15, 3) := by decide +kernel
theorem dX5_begin_22 : decode cX5_begin 22 = .ok (.iload_n 3, 1) := by decide +kernel
theorem dX5_begin_23 : decode cX5_begin 23 = .ok (.lconst 0, 1) := by decide +kernel
theorem dX5_begin_24 : decode cX5_begin 24 = .ok (.lastore, 1) := by decide +kernel
theorem dX5_begin_25 : decode cX5_begin 25 = .ok (.iinc 3 1, 3) := by decide +kernel
theorem dX5_begin_28 : decode cX5_begin 28 = .ok (.goto (-16), 3) := by decide +kernel
theorem dX5_begin_31 : decode cX5_begin 31 = .ok (.return_, 1) := by decide +kernel
theorem dX5_holds_0 : decode cX5_holds 0 = .ok (.iload_n 1, 1) := by decide +kernel
theorem dX5_holds_1 : decode cX5_holds 1 = .ok (.ifCond .lt 29, 3) := by decide +kernel
theorem dX5_holds_4 : decode cX5_holds 4 = .ok (.iload_n 2, 1) := by decide +kernel
theorem dX5_holds_5 : decode cX5_holds 5 = .ok (.ifCond .lt 25, 3) := by decide +kernel
theorem dX5_holds_8 : decode cX5_holds 8 = .ok (.iload_n 1, 1) := by decide +kernel
theorem dX5_holds_9 : decode cX5_holds 9 = .ok (.aload_n 0, 1) := by decide +kernel
theorem dX5_holds_10 : decode cX5_holds 10 = .ok (.getfield 19, 3) := by decide +kernel
theorem dX5_holds_13 : decode cX5_holds 13 = .ok (.if_icmp .gt 17, 3) := by decide +kernel
theorem dX5_holds_16 : decode cX5_holds 16 = .ok (.iload_n 2, 1) := by decide +kernel
theorem dX5_holds_17 : decode cX5_holds 17 = .ok (.aload_n 0, 1) := by decide +kernel
theorem dX5_holds_18 : decode cX5_holds 18 = .ok (.getfield 19, 3) := by decide +kernel
theorem dX5_holds_21 : decode cX5_holds 21 = .ok (.iload_n 1, 1) := by decide +kernel
theorem dX5_holds_22 : decode cX5_holds 22 = .ok (.isub, 1) := by decide +kernel
theorem dX5_holds_23 : decode cX5_holds 23 = .ok (.if_icmp .gt 7, 3) := by decide +kernel
theorem dX5_holds_26 : decode cX5_holds 26 = .ok (.iconst 1, 1) := by decide +kernel
theorem dX5_holds_27 : decode cX5_holds 27 = .ok (.goto 4, 3) := by decide +kernel
theorem dX5_holds_30 : decode cX5_holds 30 = .ok (.iconst 0, 1) := by decide +kernel
theorem dX5_holds_31 : decode cX5_holds 31 = .ok (.ireturn, 1) := by decide +kernel
theorem dX5_put_0 : decode cX5_put 0 = .ok (.aload_n 0, 1) := by decide +kernel
theorem dX5_put_1 : decode cX5_put 1 = .ok (.iload_n 1, 1) := by decide +kernel
theorem dX5_put_2 : decode cX5_put 2 = .ok (.iconst 1, 1) := by decide +kernel
theorem dX5_put_3 : decode cX5_put 3 = .ok (.invokevirtual 22, 3) := by decide +kernel
theorem dX5_put_6 : decode cX5_put 6 = .ok (.ifCond .eq 14, 3) := by decide +kernel
theorem dX5_put_9 : decode cX5_put 9 = .ok (.aload_n 0, 1) := by decide +kernel
theorem dX5_put_10 : decode cX5_put 10 = .ok (.getfield 15, 3) := by decide +kernel
theorem dX5_put_13 : decode cX5_put 13 = .ok (.iload_n 1, 1) := by decide +kernel
theorem dX5_put_14 : decode cX5_put 14 = .ok (.aload_n 0, 1) := by decide +kernel
theorem dX5_put_15 : decode cX5_put 15 = .ok (.lload_n 2, 1) := by decide +kernel
theorem dX5_put_16 : decode cX5_put 16 = .ok (.invokevirtual 26, 3) := by decide +kernel
theorem dX5_put_19 : decode cX5_put 19 = .ok (.lastore, 1) := by decide +kernel
theorem dX5_put_20 : decode cX5_put 20 = .ok (.return_, 1) := by decide +kernel
theorem dX5_cut_0 : decode cX5_cut 0 = .ok (.aload_n 0, 1) := by decide +kernel
theorem dX5_cut_1 : decode cX5_cut 1 = .ok (.getfield 11, 3) := by decide +kernel
theorem dX5_cut_4 : decode cX5_cut 4 = .ok (.tableswitch 42 0 2 #[28, 33, 38], 28) := by decide +kernel
theorem dX5_cut_32 : decode cX5_cut 32 = .ok (.lload_n 1, 1) := by decide +kernel
theorem dX5_cut_33 : decode cX5_cut 33 = .ok (.l2i, 1) := by decide +kernel
theorem dX5_cut_34 : decode cX5_cut 34 = .ok (.i2b, 1) := by decide +kernel
theorem dX5_cut_35 : decode cX5_cut 35 = .ok (.i2l, 1) := by decide +kernel
theorem dX5_cut_36 : decode cX5_cut 36 = .ok (.lreturn, 1) := by decide +kernel
theorem dX5_cut_37 : decode cX5_cut 37 = .ok (.lload_n 1, 1) := by decide +kernel
theorem dX5_cut_38 : decode cX5_cut 38 = .ok (.l2i, 1) := by decide +kernel
theorem dX5_cut_39 : decode cX5_cut 39 = .ok (.i2s, 1) := by decide +kernel
theorem dX5_cut_40 : decode cX5_cut 40 = .ok (.i2l, 1) := by decide +kernel
theorem dX5_cut_41 : decode cX5_cut 41 = .ok (.lreturn, 1) := by decide +kernel
theorem dX5_cut_42 : decode cX5_cut 42 = .ok (.lload_n 1, 1) := by decide +kernel
theorem dX5_cut_43 : decode cX5_cut 43 = .ok (.l2i, 1) := by decide +kernel
theorem dX5_cut_44 : decode cX5_cut 44 = .ok (.i2l, 1) := by decide +kernel
theorem dX5_cut_45 : decode cX5_cut 45 = .ok (.lreturn, 1) := by decide +kernel
theorem dX5_cut_46 : decode cX5_cut 46 = .ok (.lload_n 1, 1) := by decide +kernel
theorem dX5_cut_47 : decode cX5_cut 47 = .ok (.lreturn, 1) := by decide +kernel
theorem dX5_areWithin_0 : decode cX5_areWithin 0 = .ok (.aload_n 0, 1) := by decide +kernel
theorem dX5_areWithin_1 : decode cX5_areWithin 1 = .ok (.iload_n 1, 1) := by decide +kernel
theorem dX5_areWithin_2 : decode cX5_areWithin 2 = .ok (.iload_n 2, 1) := by decide +kernel
theorem dX5_areWithin_3 : decode cX5_areWithin 3 = .ok (.invokevirtual 22, 3) := by decide +kernel
theorem dX5_areWithin_6 : decode cX5_areWithin 6 = .ok (.ifCond .ne 5, 3) := by decide +kernel
theorem dX5_areWithin_9 : decode cX5_areWithin 9 = .ok (.iconst 0, 1) := by decide +kernel
theorem dX5_areWithin_10 : decode cX5_areWithin 10 = .ok (.ireturn, 1) := by decide +kernel
theorem dX5_areWithin_11 : decode cX5_areWithin 11 = .ok (.iload_n 1, 1) := by decide +kernel
theorem dX5_areWithin_12 : decode cX5_areWithin 12 = .ok (.istore 4, 2) := by decide +kernel
theorem dX5_areWithin_14 : decode cX5_areWithin 14 = .ok (.iload 4, 2) := by decide +kernel
theorem dX5_areWithin_16 : decode cX5_areWithin 16 = .ok (.iload_n 1, 1) := by decide +kernel
theorem dX5_areWithin_17 : decode cX5_areWithin 17 = .ok (.iload_n 2, 1) := by decide +kernel
theorem dX5_areWithin_18 : decode cX5_areWithin 18 = .ok (.iadd, 1) := by decide +kernel
theorem dX5_areWithin_19 : decode cX5_areWithin 19 = .ok (.if_icmp .ge 36, 3) := by decide +kernel
theorem dX5_areWithin_22 : decode cX5_areWithin 22 = .ok (.aload_n 0, 1) := by decide +kernel
theorem dX5_areWithin_23 : decode cX5_areWithin 23 = .ok (.getfield 15, 3) := by decide +kernel
theorem dX5_areWithin_26 : decode cX5_areWithin 26 = .ok (.iload 4, 2) := by decide +kernel
theorem dX5_areWithin_28 : decode cX5_areWithin 28 = .ok (.laload, 1) := by decide +kernel
theorem dX5_areWithin_29 : decode cX5_areWithin 29 = .ok (.lconst 0, 1) := by decide +kernel
theorem dX5_areWithin_30 : decode cX5_areWithin 30 = .ok (.lcmp, 1) := by decide +kernel
theorem dX5_areWithin_31 : decode cX5_areWithin 31 = .ok (.ifCond .lt 16, 3) := by decide +kernel
theorem dX5_areWithin_34 : decode cX5_areWithin 34 = .ok (.aload_n 0, 1) := by decide +kernel
theorem dX5_areWithin_35 : decode cX5_areWithin 35 = .ok (.getfield 15, 3) := by decide +kernel
theorem dX5_areWithin_38 : decode cX5_areWithin 38 = .ok (.iload 4, 2) := by decide +kernel
theorem dX5_areWithin_40 : decode cX5_areWithin 40 = .ok (.laload, 1) := by decide +kernel
theorem dX5_areWithin_41 : decode cX5_areWithin 41 = .ok (.iload_n 3, 1) := by decide +kernel
theorem dX5_areWithin_42 : decode cX5_areWithin 42 = .ok (.i2l, 1) := by decide +kernel
theorem dX5_areWithin_43 : decode cX5_areWithin 43 = .ok (.lcmp, 1) := by decide +kernel
theorem dX5_areWithin_44 : decode cX5_areWithin 44 = .ok (.ifCond .le 5, 3) := by decide +kernel
theorem dX5_areWithin_47 : decode cX5_areWithin 47 = .ok (.iconst 0, 1) := by decide +kernel
theorem dX5_areWithin_48 : decode cX5_areWithin 48 = .ok (.ireturn, 1) := by decide +kernel
theorem dX5_areWithin_49 : decode cX5_areWithin 49 = .ok (.iinc 4 1, 3) := by decide +kernel
theorem dX5_areWithin_52 : decode cX5_areWithin 52 = .ok (.goto (-38), 3) := by decide +kernel
theorem dX5_areWithin_55 : decode cX5_areWithin 55 = .ok (.iconst 1, 1) := by decide +kernel
theorem dX5_areWithin_56 : decode cX5_areWithin 56 = .ok (.ireturn, 1) := by decide +kernel
theorem dX6_init_0 : decode cX6_init 0 = .ok (.aload_n 0, 1) := by decide +kernel
theorem dX6_init_1 : decode cX6_init 1 = .ok (.invokespecial 3, 3) := by decide +kernel
theorem dX6_init_4 : decode cX6_init 4 = .ok (.aload_n 0, 1) := by decide +kernel
theorem dX6_init_5 : decode cX6_init 5 = .ok (.bipush (-4), 2) := by decide +kernel
theorem dX6_init_7 : decode cX6_init 7 = .ok (.putfield 9, 3) := by decide +kernel
theorem dX6_init_10 : decode cX6_init 10 = .ok (.return_, 1) := by decide +kernel
theorem dX6_takeFrom_0 : decode cX6_takeFrom 0 = .ok (.aload_n 0, 1) := by decide +kernel
theorem dX6_takeFrom_1 : decode cX6_takeFrom 1 = .ok (.aload_n 1, 1) := by decide +kernel
theorem dX6_takeFrom_2 : decode cX6_takeFrom 2 = .ok (.getfield 15, 3) := by decide +kernel
theorem dX6_takeFrom_5 : decode cX6_takeFrom 5 = .ok (.putfield 15, 3) := by decide +kernel
theorem dX6_takeFrom_8 : decode cX6_takeFrom 8 = .ok (.aload_n 0, 1) := by decide +kernel
theorem dX6_takeFrom_9 : decode cX6_takeFrom 9 = .ok (.aload_n 1, 1) := by decide +kernel
theorem dX6_takeFrom_10 : decode cX6_takeFrom 10 = .ok (.getfield 18, 3) := by decide +kernel
theorem dX6_takeFrom_13 : decode cX6_takeFrom 13 = .ok (.putfield 18, 3) := by decide +kernel
theorem dX6_takeFrom_16 : decode cX6_takeFrom 16 = .ok (.aload_n 0, 1) := by decide +kernel
theorem dX6_takeFrom_17 : decode cX6_takeFrom 17 = .ok (.aload_n 1, 1) := by decide +kernel
theorem dX6_takeFrom_18 : decode cX6_takeFrom 18 = .ok (.getfield 21, 3) := by decide +kernel
theorem dX6_takeFrom_21 : decode cX6_takeFrom 21 = .ok (.putfield 21, 3) := by decide +kernel
theorem dX6_takeFrom_24 : decode cX6_takeFrom 24 = .ok (.aload_n 0, 1) := by decide +kernel
theorem dX6_takeFrom_25 : decode cX6_takeFrom 25 = .ok (.aload_n 1, 1) := by decide +kernel
theorem dX6_takeFrom_26 : decode cX6_takeFrom 26 = .ok (.getfield 24, 3) := by decide +kernel
theorem dX6_takeFrom_29 : decode cX6_takeFrom 29 = .ok (.putfield 24, 3) := by decide +kernel
theorem dX6_takeFrom_32 : decode cX6_takeFrom 32 = .ok (.aload_n 0, 1) := by decide +kernel
theorem dX6_takeFrom_33 : decode cX6_takeFrom 33 = .ok (.aload_n 1, 1) := by decide +kernel
theorem dX6_takeFrom_34 : decode cX6_takeFrom 34 = .ok (.getfield 27, 3) := by decide +kernel
theorem dX6_takeFrom_37 : decode cX6_takeFrom 37 = .ok (.putfield 27, 3) := by decide +kernel
theorem dX6_takeFrom_40 : decode cX6_takeFrom 40 = .ok (.aload_n 0, 1) := by decide +kernel
theorem dX6_takeFrom_41 : decode cX6_takeFrom 41 = .ok (.aload_n 1, 1) := by decide +kernel
theorem dX6_takeFrom_42 : decode cX6_takeFrom 42 = .ok (.getfield 30, 3) := by decide +kernel
theorem dX6_takeFrom_45 : decode cX6_takeFrom 45 = .ok (.putfield 30, 3) := by decide +kernel
theorem dX6_takeFrom_48 : decode cX6_takeFrom 48 = .ok (.aload_n 0, 1) := by decide +kernel
theorem dX6_takeFrom_49 : decode cX6_takeFrom 49 = .ok (.aload_n 1, 1) := by decide +kernel
theorem dX6_takeFrom_50 : decode cX6_takeFrom 50 = .ok (.getfield 33, 3) := by decide +kernel
theorem dX6_takeFrom_53 : decode cX6_takeFrom 53 = .ok (.putfield 33, 3) := by decide +kernel
theorem dX6_takeFrom_56 : decode cX6_takeFrom 56 = .ok (.aload_n 0, 1) := by decide +kernel
theorem dX6_takeFrom_57 : decode cX6_takeFrom 57 = .ok (.aload_n 1, 1) := by decide +kernel
theorem dX6_takeFrom_58 : decode cX6_takeFrom 58 = .ok (.getfield 36, 3) := by decide +kernel
theorem dX6_takeFrom_61 : decode cX6_takeFrom 61 = .ok (.putfield 36, 3) := by decide +kernel
theorem dX6_takeFrom_64 : decode cX6_takeFrom 64 = .ok (.aload_n 0, 1) := by decide +kernel
theorem dX6_takeFrom_65 : decode cX6_takeFrom 65 = .ok (.aload_n 1, 1) := by decide +kernel
theorem dX6_takeFrom_66 : decode cX6_takeFrom 66 = .ok (.getfield 39, 3) := by decide +kernel
theorem dX6_takeFrom_69 : decode cX6_takeFrom 69 = .ok (.putfield 39, 3) := by decide +kernel
theorem dX6_takeFrom_72 : decode cX6_takeFrom 72 = .ok (.aload_n 0, 1) := by decide +kernel
theorem dX6_takeFrom_73 : decode cX6_takeFrom 73 = .ok (.aload_n 1, 1) := by decide +kernel
theorem dX6_takeFrom_74 : decode cX6_takeFrom 74 = .ok (.getfield 42, 3) := by decide +kernel
theorem dX6_takeFrom_77 : decode cX6_takeFrom 77 = .ok (.putfield 42, 3) := by decide +kernel
theorem dX6_takeFrom_80 : decode cX6_takeFrom 80 = .ok (.aload_n 0, 1) := by decide +kernel
theorem dX6_takeFrom_81 : decode cX6_takeFrom 81 = .ok (.aload_n 1, 1) := by decide +kernel
theorem dX6_takeFrom_82 : decode cX6_takeFrom 82 = .ok (.getfield 9, 3) := by decide +kernel
theorem dX6_takeFrom_85 : decode cX6_takeFrom 85 = .ok (.putfield 9, 3) := by decide +kernel
theorem dX6_takeFrom_88 : decode cX6_takeFrom 88 = .ok (.return_, 1) := by decide +kernel
theorem dX6_sitDown_0 : decode cX6_sitDown 0 = .ok (.aload_n 0, 1) := by decide +kernel
theorem dX6_sitDown_1 : decode cX6_sitDown 1 = .ok (.iconst 0, 1) := by decide +kernel
theorem dX6_sitDown_2 : decode cX6_sitDown 2 = .ok (.putfield 30, 3) := by decide +kernel
theorem dX6_sitDown_5 : decode cX6_sitDown 5 = .ok (.aload_n 0, 1) := by decide +kernel
theorem dX6_sitDown_6 : decode cX6_sitDown 6 = .ok (.iload_n 1, 1) := by decide +kernel
theorem dX6_sitDown_7 : decode cX6_sitDown 7 = .ok (.putfield 33, 3) := by decide +kernel
theorem dX6_sitDown_10 : decode cX6_sitDown 10 = .ok (.aload_n 0, 1) := by decide +kernel
theorem dX6_sitDown_11 : decode cX6_sitDown 11 = .ok (.iconst 0, 1) := by decide +kernel
theorem dX6_sitDown_12 : decode cX6_sitDown 12 = .ok (.putfield 36, 3) := by decide +kernel
theorem dX6_sitDown_15 : decode cX6_sitDown 15 = .ok (.aload_n 0, 1) := by decide +kernel
theorem dX6_sitDown_16 : decode cX6_sitDown 16 = .ok (.iconst 0, 1) := by decide +kernel
theorem dX6_sitDown_17 : decode cX6_sitDown 17 = .ok (.putfield 39, 3) := by decide +kernel
theorem dX6_sitDown_20 : decode cX6_sitDown 20 = .ok (.aload_n 0, 1) := by decide +kernel
theorem dX6_sitDown_21 : decode cX6_sitDown 21 = .ok (.iconst 0, 1) := by decide +kernel
theorem dX6_sitDown_22 : decode cX6_sitDown 22 = .ok (.putfield 42, 3) := by decide +kernel
theorem dX6_sitDown_25 : decode cX6_sitDown 25 = .ok (.aload_n 0, 1) := by decide +kernel
theorem dX6_sitDown_26 : decode cX6_sitDown 26 = .ok (.bipush (-4), 2) := by decide +kernel
theorem dX6_sitDown_28 : decode cX6_sitDown 28 = .ok (.putfield 9, 3) := by decide +kernel
theorem dX6_sitDown_31 : decode cX6_sitDown 31 = .ok (.return_, 1) := by decide +kernel
theorem dX6_sits_0 : decode cX6_sits 0 = .ok (.aload_n 0, 1) := by decide +kernel
theorem dX6_sits_1 : decode cX6_sits 1 = .ok (.getfield 9, 3) := by decide +kernel
theorem dX6_sits_4 : decode cX6_sits 4 = .ok (.bipush (-4), 2) := by decide +kernel
theorem dX6_sits_6 : decode cX6_sits 6 = .ok (.if_icmp .ne 7, 3) := by decide +kernel
theorem dX6_sits_9 : decode cX6_sits 9 = .ok (.iconst 1, 1) := by decide +kernel
theorem dX6_sits_10 : decode cX6_sits 10 = .ok (.goto 4, 3) := by decide +kernel
theorem dX6_sits_13 : decode cX6_sits 13 = .ok (.iconst 0, 1) := by decide +kernel
theorem dX6_sits_14 : decode cX6_sits 14 = .ok (.ireturn, 1) := by decide +kernel
theorem dX6_canEat_0 : decode cX6_canEat 0 = .ok (.aload_n 0, 1) := by decide +kernel
theorem dX6_canEat_1 : decode cX6_canEat 1 = .ok (.invokevirtual 46, 3) := by decide +kernel
theorem dX6_canEat_4 : decode cX6_canEat 4 = .ok (.ifCond .eq 14, 3) := by decide +kernel
theorem dX6_canEat_7 : decode cX6_canEat 7 = .ok (.aload_n 0, 1) := by decide +kernel
theorem dX6_canEat_8 : decode cX6_canEat 8 = .ok (.getfield 33, 3) := by decide +kernel
theorem dX6_canEat_11 : decode cX6_canEat 11 = .ok (.ifCond .le 7, 3) := by decide +kernel
theorem dX6_canEat_14 : decode cX6_canEat 14 = .ok (.iconst 1, 1) := by decide +kernel
theorem dX6_canEat_15 : decode cX6_canEat 15 = .ok (.goto 4, 3) := by decide +kernel
theorem dX6_canEat_18 : decode cX6_canEat 18 = .ok (.iconst 0, 1) := by decide +kernel
theorem dX6_canEat_19 : decode cX6_canEat 19 = .ok (.ireturn, 1) := by decide +kernel
theorem dX6_eatCrust_0 : decode cX6_eatCrust 0 = .ok (.aload_n 0, 1) := by decide +kernel
theorem dX6_eatCrust_1 : decode cX6_eatCrust 1 = .ok (.invokevirtual 50, 3) := by decide +kernel
theorem dX6_eatCrust_4 : decode cX6_eatCrust 4 = .ok (.ifCond .eq 28, 3) := by decide +kernel
theorem dX6_eatCrust_7 : decode cX6_eatCrust 7 = .ok (.aload_n 0, 1) := by decide +kernel
theorem dX6_eatCrust_8 : decode cX6_eatCrust 8 = .ok (.dup, 1) := by decide +kernel
theorem dX6_eatCrust_9 : decode cX6_eatCrust 9 = .ok (.getfield 33, 3) := by decide +kernel
theorem dX6_eatCrust_12 : decode cX6_eatCrust 12 = .ok (.iconst 1, 1) := by decide +kernel
theorem dX6_eatCrust_13 : decode cX6_eatCrust 13 = .ok (.isub, 1) := by decide +kernel
theorem dX6_eatCrust_14 : decode cX6_eatCrust 14 = .ok (.putfield 33, 3) := by decide +kernel
theorem dX6_eatCrust_17 : decode cX6_eatCrust 17 = .ok (.aload_n 0, 1) := by decide +kernel
theorem dX6_eatCrust_18 : decode cX6_eatCrust 18 = .ok (.iconst 0, 1) := by decide +kernel
theorem dX6_eatCrust_19 : decode cX6_eatCrust 19 = .ok (.aload_n 0, 1) := by decide +kernel
theorem dX6_eatCrust_20 : decode cX6_eatCrust 20 = .ok (.getfield 30, 3) := by decide +kernel
theorem dX6_eatCrust_23 : decode cX6_eatCrust 23 = .ok (.bipush 6, 2) := by decide +kernel
theorem dX6_eatCrust_25 : decode cX6_eatCrust 25 = .ok (.isub, 1) := by decide +kernel
theorem dX6_eatCrust_26 : decode cX6_eatCrust 26 = .ok (.invokestatic 53, 3) := by decide +kernel
theorem dX6_eatCrust_29 : decode cX6_eatCrust 29 = .ok (.putfield 30, 3) := by decide +kernel
theorem dX6_eatCrust_32 : decode cX6_eatCrust 32 = .ok (.return_, 1) := by decide +kernel
theorem dX6_grows_0 : decode cX6_grows 0 = .ok (.aload_n 0, 1) := by decide +kernel
theorem dX6_grows_1 : decode cX6_grows 1 = .ok (.getfield 15, 3) := by decide +kernel
theorem dX6_grows_4 : decode cX6_grows 4 = .ok (.iconst 4, 1) := by decide +kernel
theorem dX6_grows_5 : decode cX6_grows 5 = .ok (.if_icmp .eq 11, 3) := by decide +kernel
theorem dX6_grows_8 : decode cX6_grows 8 = .ok (.aload_n 0, 1) := by decide +kernel
theorem dX6_grows_9 : decode cX6_grows 9 = .ok (.getfield 15, 3) := by decide +kernel
theorem dX6_grows_12 : decode cX6_grows 12 = .ok (.iconst 5, 1) := by decide +kernel
theorem dX6_grows_13 : decode cX6_grows 13 = .ok (.if_icmp .ne 12, 3) := by decide +kernel
theorem dX6_grows_16 : decode cX6_grows 16 = .ok (.aload_n 0, 1) := by decide +kernel
theorem dX6_grows_17 : decode cX6_grows 17 = .ok (.getfield 21, 3) := by decide +kernel
theorem dX6_grows_20 : decode cX6_grows 20 = .ok (.iconst 1, 1) := by decide +kernel
theorem dX6_grows_21 : decode cX6_grows 21 = .ok (.iadd, 1) := by decide +kernel
theorem dX6_grows_22 : decode cX6_grows 22 = .ok (.goto 7, 3) := by decide +kernel
theorem dX6_grows_25 : decode cX6_grows 25 = .ok (.aload_n 0, 1) := by decide +kernel
theorem dX6_grows_26 : decode cX6_grows 26 = .ok (.getfield 21, 3) := by decide +kernel
theorem dX6_grows_29 : decode cX6_grows 29 = .ok (.istore_n 3, 1) := by decide +kernel
theorem dX6_grows_30 : decode cX6_grows 30 = .ok (.aload_n 0, 1) := by decide +kernel
theorem dX6_grows_31 : decode cX6_grows 31 = .ok (.getfield 15, 3) := by decide +kernel
theorem dX6_grows_34 : decode cX6_grows 34 = .ok (.iconst 2, 1) := by decide +kernel
theorem dX6_grows_35 : decode cX6_grows 35 = .ok (.if_icmp .ne 12, 3) := by decide +kernel
theorem dX6_grows_38 : decode cX6_grows 38 = .ok (.iconst 2, 1) := by decide +kernel
theorem dX6_grows_39 : decode cX6_grows 39 = .ok (.aload_n 0, 1) := by decide +kernel
theorem dX6_grows_40 : decode cX6_grows 40 = .ok (.getfield 39, 3) := by decide +kernel
theorem dX6_grows_43 : decode cX6_grows 43 = .ok (.imul, 1) := by decide +kernel
theorem dX6_grows_44 : decode cX6_grows 44 = .ok (.goto 7, 3) := by decide +kernel
theorem dX6_grows_47 : decode cX6_grows 47 = .ok (.aload_n 0, 1) := by decide +kernel
theorem dX6_grows_48 : decode cX6_grows 48 = .ok (.getfield 39, 3) := by decide +kernel
theorem dX6_grows_51 : decode cX6_grows 51 = .ok (.istore 4, 2) := by decide +kernel
theorem dX6_grows_53 : decode cX6_grows 53 = .ok (.iconst 0, 1) := by decide +kernel
theorem dX6_grows_54 : decode cX6_grows 54 = .ok (.iload_n 3, 1) := by decide +kernel
theorem dX6_grows_55 : decode cX6_grows 55 = .ok (.aload_n 0, 1) := by decide +kernel
theorem dX6_grows_56 : decode cX6_grows 56 = .ok (.iload_n 1, 1) := by decide +kernel
theorem dX6_grows_57 : decode cX6_grows 57 = .ok (.iload_n 2, 1) := by decide +kernel
theorem dX6_grows_58 : decode cX6_grows 58 = .ok (.invokevirtual 59, 3) := by decide +kernel
theorem dX6_grows_61 : decode cX6_grows 61 = .ok (.iadd, 1) := by decide +kernel
theorem dX6_grows_62 : decode cX6_grows 62 = .ok (.aload_n 0, 1) := by decide +kernel
theorem dX6_grows_63 : decode cX6_grows 63 = .ok (.invokevirtual 63, 3) := by decide +kernel
theorem dX6_grows_66 : decode cX6_grows 66 = .ok (.iadd, 1) := by decide +kernel
theorem dX6_grows_67 : decode cX6_grows 67 = .ok (.iload 4, 2) := by decide +kernel
theorem dX6_grows_69 : decode cX6_grows 69 = .ok (.isub, 1) := by decide +kernel
theorem dX6_grows_70 : decode cX6_grows 70 = .ok (.invokestatic 53, 3) := by decide +kernel
theorem dX6_grows_73 : decode cX6_grows 73 = .ok (.istore 5, 2) := by decide +kernel
theorem dX6_grows_75 : decode cX6_grows 75 = .ok (.aload_n 0, 1) := by decide +kernel
theorem dX6_grows_76 : decode cX6_grows 76 = .ok (.getfield 15, 3) := by decide +kernel
theorem dX6_grows_79 : decode cX6_grows 79 = .ok (.iconst 5, 1) := by decide +kernel
theorem dX6_grows_80 : decode cX6_grows 80 = .ok (.if_icmp .ne 14, 3) := by decide +kernel
theorem dX6_grows_83 : decode cX6_grows 83 = .ok (.iload_n 2, 1) := by decide +kernel
theorem dX6_grows_84 : decode cX6_grows 84 = .ok (.ifCond .eq 10, 3) := by decide +kernel
theorem dX6_grows_87 : decode cX6_grows 87 = .ok (.iload 5, 2) := by decide +kernel
theorem dX6_grows_89 : decode cX6_grows 89 = .ok (.iconst 2, 1) := by decide +kernel
theorem dX6_grows_90 : decode cX6_grows 90 = .ok (.idiv, 1) := by decide +kernel
theorem dX6_grows_91 : decode cX6_grows 91 = .ok (.goto 5, 3) := by decide +kernel
theorem dX6_grows_94 : decode cX6_grows 94 = .ok (.iload 5, 2) := by decide +kernel
theorem dX6_grows_96 : decode cX6_grows 96 = .ok (.ireturn, 1) := by decide +kernel
theorem dX6_chill_0 : decode cX6_chill 0 = .ok (.iload_n 1, 1) := by decide +kernel
theorem dX6_chill_1 : decode cX6_chill 1 = .ok (.iconst 1, 1) := by decide +kernel
theorem dX6_chill_2 : decode cX6_chill 2 = .ok (.if_icmp .ne 10, 3) := by decide +kernel
theorem dX6_chill_5 : decode cX6_chill 5 = .ok (.aload_n 0, 1) := by decide +kernel
theorem dX6_chill_6 : decode cX6_chill 6 = .ok (.getfield 24, 3) := by decide +kernel
theorem dX6_chill_9 : decode cX6_chill 9 = .ok (.goto 4, 3) := by decide +kernel
theorem dX6_chill_12 : decode cX6_chill 12 = .ok (.iconst 0, 1) := by decide +kernel
theorem dX6_chill_13 : decode cX6_chill 13 = .ok (.iload_n 2, 1) := by decide +kernel
theorem dX6_chill_14 : decode cX6_chill 14 = .ok (.ifCond .eq 10, 3) := by decide +kernel
theorem dX6_chill_17 : decode cX6_chill 17 = .ok (.aload_n 0, 1) := by decide +kernel
theorem dX6_chill_18 : decode cX6_chill 18 = .ok (.getfield 24, 3) := by decide +kernel
theorem dX6_chill_21 : decode cX6_chill 21 = .ok (.goto 4, 3) := by decide +kernel
theorem dX6_chill_24 : decode cX6_chill 24 = .ok (.iconst 0, 1) := by decide +kernel
theorem dX6_chill_25 : decode cX6_chill 25 = .ok (.iadd, 1) := by decide +kernel
theorem dX6_chill_26 : decode cX6_chill 26 = .ok (.istore_n 3, 1) := by decide +kernel
theorem dX6_chill_27 : decode cX6_chill 27 = .ok (.aload_n 0, 1) := by decide +kernel
theorem dX6_chill_28 : decode cX6_chill 28 = .ok (.getfield 42, 3) := by decide +kernel
theorem dX6_chill_31 : decode cX6_chill 31 = .ok (.ifCond .eq 9, 3) := by decide +kernel
theorem dX6_chill_34 : decode cX6_chill 34 = .ok (.iload_n 3, 1) := by decide +kernel
theorem dX6_chill_35 : decode cX6_chill 35 = .ok (.iconst 2, 1) := by decide +kernel
theorem dX6_chill_36 : decode cX6_chill 36 = .ok (.idiv, 1) := by decide +kernel
theorem dX6_chill_37 : decode cX6_chill 37 = .ok (.goto 4, 3) := by decide +kernel
theorem dX6_chill_40 : decode cX6_chill 40 = .ok (.iload_n 3, 1) := by decide +kernel
theorem dX6_chill_41 : decode cX6_chill 41 = .ok (.ireturn, 1) := by decide +kernel
theorem dX6_care_0 : decode cX6_care 0 = .ok (.aload_n 0, 1) := by decide +kernel
theorem dX6_care_1 : decode cX6_care 1 = .ok (.getfield 36, 3) := by decide +kernel
theorem dX6_care_4 : decode cX6_care 4 = .ok (.iconst 1, 1) := by decide +kernel
theorem dX6_care_5 : decode cX6_care 5 = .ok (.if_icmp .ne 5, 3) := by decide +kernel
theorem dX6_care_8 : decode cX6_care 8 = .ok (.iconst 0, 1) := by decide +kernel
theorem dX6_care_9 : decode cX6_care 9 = .ok (.ireturn, 1) := by decide +kernel
theorem dX6_care_10 : decode cX6_care 10 = .ok (.aload_n 0, 1) := by decide +kernel
theorem dX6_care_11 : decode cX6_care 11 = .ok (.getfield 36, 3) := by decide +kernel
theorem dX6_care_14 : decode cX6_care 14 = .ok (.iconst 2, 1) := by decide +kernel
theorem dX6_care_15 : decode cX6_care 15 = .ok (.if_icmp .ne 10, 3) := by decide +kernel
theorem dX6_care_18 : decode cX6_care 18 = .ok (.aload_n 0, 1) := by decide +kernel
theorem dX6_care_19 : decode cX6_care 19 = .ok (.getfield 27, 3) := by decide +kernel
theorem dX6_care_22 : decode cX6_care 22 = .ok (.goto 9, 3) := by decide +kernel
theorem dX6_care_25 : decode cX6_care 25 = .ok (.aload_n 0, 1) := by decide +kernel
theorem dX6_care_26 : decode cX6_care 26 = .ok (.getfield 27, 3) := by decide +kernel
theorem dX6_care_29 : decode cX6_care 29 = .ok (.iconst 2, 1) := by decide +kernel
theorem dX6_care_30 : decode cX6_care 30 = .ok (.idiv, 1) := by decide +kernel
theorem dX6_care_31 : decode cX6_care 31 = .ok (.istore_n 1, 1) := by decide +kernel
theorem dX6_care_32 : decode cX6_care 32 = .ok (.aload_n 0, 1) := by decide +kernel
theorem dX6_care_33 : decode cX6_care 33 = .ok (.getfield 15, 3) := by decide +kernel
theorem dX6_care_36 : decode cX6_care 36 = .ok (.iconst 3, 1) := by decide +kernel
theorem dX6_care_37 : decode cX6_care 37 = .ok (.if_icmp .ne 9, 3) := by decide +kernel
theorem dX6_care_40 : decode cX6_care 40 = .ok (.iconst 2, 1) := by decide +kernel
theorem dX6_care_41 : decode cX6_care 41 = .ok (.iload_n 1, 1) := by decide +kernel
theorem dX6_care_42 : decode cX6_care 42 = .ok (.imul, 1) := by decide +kernel
theorem dX6_care_43 : decode cX6_care 43 = .ok (.goto 4, 3) := by decide +kernel
theorem dX6_care_46 : decode cX6_care 46 = .ok (.iload_n 1, 1) := by decide +kernel
theorem dX6_care_47 : decode cX6_care 47 = .ok (.ireturn, 1) := by decide +kernel
theorem dX6_passHour_0 : decode cX6_passHour 0 = .ok (.aload_n 0, 1) := by decide +kernel
theorem dX6_passHour_1 : decode cX6_passHour 1 = .ok (.invokevirtual 46, 3) := by decide +kernel
theorem dX6_passHour_4 : decode cX6_passHour 4 = .ok (.ifCond .ne 4, 3) := by decide +kernel
theorem dX6_passHour_7 : decode cX6_passHour 7 = .ok (.return_, 1) := by decide +kernel
theorem dX6_passHour_8 : decode cX6_passHour 8 = .ok (.aload_n 0, 1) := by decide +kernel
theorem dX6_passHour_9 : decode cX6_passHour 9 = .ok (.sipush 999, 3) := by decide +kernel
theorem dX6_passHour_12 : decode cX6_passHour 12 = .ok (.aload_n 0, 1) := by decide +kernel
theorem dX6_passHour_13 : decode cX6_passHour 13 = .ok (.getfield 30, 3) := by decide +kernel
theorem dX6_passHour_16 : decode cX6_passHour 16 = .ok (.aload_n 0, 1) := by decide +kernel
theorem dX6_passHour_17 : decode cX6_passHour 17 = .ok (.iload_n 1, 1) := by decide +kernel
theorem dX6_passHour_18 : decode cX6_passHour 18 = .ok (.iload_n 2, 1) := by decide +kernel
theorem dX6_passHour_19 : decode cX6_passHour 19 = .ok (.invokevirtual 67, 3) := by decide +kernel
theorem dX6_passHour_22 : decode cX6_passHour 22 = .ok (.iadd, 1) := by decide +kernel
theorem dX6_passHour_23 : decode cX6_passHour 23 = .ok (.invokestatic 70, 3) := by decide +kernel
theorem dX6_passHour_26 : decode cX6_passHour 26 = .ok (.putfield 30, 3) := by decide +kernel
theorem dX6_passHour_29 : decode cX6_passHour 29 = .ok (.aload_n 0, 1) := by decide +kernel
theorem dX6_passHour_30 : decode cX6_passHour 30 = .ok (.getfield 30, 3) := by decide +kernel
theorem dX6_passHour_33 : decode cX6_passHour 33 = .ok (.aload_n 0, 1) := by decide +kernel
theorem dX6_passHour_34 : decode cX6_passHour 34 = .ok (.getfield 18, 3) := by decide +kernel
theorem dX6_passHour_37 : decode cX6_passHour 37 = .ok (.if_icmp .lt 8, 3) := by decide +kernel
theorem dX6_passHour_40 : decode cX6_passHour 40 = .ok (.aload_n 0, 1) := by decide +kernel
theorem dX6_passHour_41 : decode cX6_passHour 41 = .ok (.iload_n 3, 1) := by decide +kernel
theorem dX6_passHour_42 : decode cX6_passHour 42 = .ok (.putfield 9, 3) := by decide +kernel
theorem dX6_passHour_45 : decode cX6_passHour 45 = .ok (.return_, 1) := by decide +kernel
theorem dX7_init_0 : decode cX7_init 0 = .ok (.aload_n 0, 1) := by decide +kernel
theorem dX7_init_1 : decode cX7_init 1 = .ok (.invokespecial 3, 3) := by decide +kernel
theorem dX7_init_4 : decode cX7_init 4 = .ok (.aload_n 0, 1) := by decide +kernel
theorem dX7_init_5 : decode cX7_init 5 = .ok (.bipush 90, 2) := by decide +kernel
theorem dX7_init_7 : decode cX7_init 7 = .ok (.newarray .int, 2) := by decide +kernel
theorem dX7_init_9 : decode cX7_init 9 = .ok (.putfield 9, 3) := by decide +kernel
theorem dX7_init_12 : decode cX7_init 12 = .ok (.return_, 1) := by decide +kernel
theorem dX7_put_0 : decode cX7_put 0 = .ok (.aload_n 0, 1) := by decide +kernel
theorem dX7_put_1 : decode cX7_put 1 = .ok (.getfield 15, 3) := by decide +kernel
theorem dX7_put_4 : decode cX7_put 4 = .ok (.bipush 90, 2) := by decide +kernel
theorem dX7_put_6 : decode cX7_put 6 = .ok (.if_icmp .lt 5, 3) := by decide +kernel
theorem dX7_put_9 : decode cX7_put 9 = .ok (.iconst 0, 1) := by decide +kernel
theorem dX7_put_10 : decode cX7_put 10 = .ok (.ireturn, 1) := by decide +kernel
theorem dX7_put_11 : decode cX7_put 11 = .ok (.aload_n 0, 1) := by decide +kernel
theorem dX7_put_12 : decode cX7_put 12 = .ok (.getfield 9, 3) := by decide +kernel
theorem dX7_put_15 : decode cX7_put 15 = .ok (.aload_n 0, 1) := by decide +kernel
theorem dX7_put_16 : decode cX7_put 16 = .ok (.getfield 15, 3) := by decide +kernel
theorem dX7_put_19 : decode cX7_put 19 = .ok (.iload_n 1, 1) := by decide +kernel
theorem dX7_put_20 : decode cX7_put 20 = .ok (.iastore, 1) := by decide +kernel
theorem dX7_put_21 : decode cX7_put 21 = .ok (.aload_n 0, 1) := by decide +kernel
theorem dX7_put_22 : decode cX7_put 22 = .ok (.dup, 1) := by decide +kernel
theorem dX7_put_23 : decode cX7_put 23 = .ok (.getfield 15, 3) := by decide +kernel
theorem dX7_put_26 : decode cX7_put 26 = .ok (.iconst 1, 1) := by decide +kernel
theorem dX7_put_27 : decode cX7_put 27 = .ok (.iadd, 1) := by decide +kernel
theorem dX7_put_28 : decode cX7_put 28 = .ok (.putfield 15, 3) := by decide +kernel
theorem dX7_put_31 : decode cX7_put 31 = .ok (.iconst 1, 1) := by decide +kernel
theorem dX7_put_32 : decode cX7_put 32 = .ok (.ireturn, 1) := by decide +kernel
theorem dX7_readInto_0 : decode cX7_readInto 0 = .ok (.aload_n 0, 1) := by decide +kernel
theorem dX7_readInto_1 : decode cX7_readInto 1 = .ok (.iconst 0, 1) := by decide +kernel
theorem dX7_readInto_2 : decode cX7_readInto 2 = .ok (.putfield 19, 3) := by decide +kernel
theorem dX7_readInto_5 : decode cX7_readInto 5 = .ok (.aload_n 0, 1) := by decide +kernel
theorem dX7_readInto_6 : decode cX7_readInto 6 = .ok (.iconst (-1), 1) := by decide +kernel
theorem dX7_readInto_7 : decode cX7_readInto 7 = .ok (.putfield 22, 3) := by decide +kernel
theorem dX7_readInto_10 : decode cX7_readInto 10 = .ok (.aload_n 0, 1) := by decide +kernel
theorem dX7_readInto_11 : decode cX7_readInto 11 = .ok (.bipush 119, 2) := by decide +kernel
theorem dX7_readInto_13 : decode cX7_readInto 13 = .ok (.invokevirtual 25, 3) := by decide +kernel
theorem dX7_readInto_16 : decode cX7_readInto 16 = .ok (.aload_n 0, 1) := by decide +kernel
theorem dX7_readInto_17 : decode cX7_readInto 17 = .ok (.iconst 1, 1) := by decide +kernel
theorem dX7_readInto_18 : decode cX7_readInto 18 = .ok (.bipush 24, 2) := by decide +kernel
theorem dX7_readInto_20 : decode cX7_readInto 20 = .ok (.invokevirtual 29, 3) := by decide +kernel
theorem dX7_readInto_23 : decode cX7_readInto 23 = .ok (.istore_n 2, 1) := by decide +kernel
theorem dX7_readInto_24 : decode cX7_readInto 24 = .ok (.aload_n 0, 1) := by decide +kernel
theorem dX7_readInto_25 : decode cX7_readInto 25 = .ok (.bipush 44, 2) := by decide +kernel
theorem dX7_readInto_27 : decode cX7_readInto 27 = .ok (.invokevirtual 25, 3) := by decide +kernel
theorem dX7_readInto_30 : decode cX7_readInto 30 = .ok (.aload_n 0, 1) := by decide +kernel
theorem dX7_readInto_31 : decode cX7_readInto 31 = .ok (.iconst 0, 1) := by decide +kernel
theorem dX7_readInto_32 : decode cX7_readInto 32 = .ok (.bipush 9, 2) := by decide +kernel
theorem dX7_readInto_34 : decode cX7_readInto 34 = .ok (.invokevirtual 29, 3) := by decide +kernel
theorem dX7_readInto_37 : decode cX7_readInto 37 = .ok (.istore_n 3, 1) := by decide +kernel
theorem dX7_readInto_38 : decode cX7_readInto 38 = .ok (.aload_n 0, 1) := by decide +kernel
theorem dX7_readInto_39 : decode cX7_readInto 39 = .ok (.bipush 59, 2) := by decide +kernel
theorem dX7_readInto_41 : decode cX7_readInto 41 = .ok (.invokevirtual 25, 3) := by decide +kernel
theorem dX7_readInto_44 : decode cX7_readInto 44 = .ok (.aload_n 1, 1) := by decide +kernel
theorem dX7_readInto_45 : decode cX7_readInto 45 = .ok (.iload_n 2, 1) := by decide +kernel
theorem dX7_readInto_46 : decode cX7_readInto 46 = .ok (.iload_n 3, 1) := by decide +kernel
theorem dX7_readInto_47 : decode cX7_readInto 47 = .ok (.invokevirtual 33, 3) := by decide +kernel
theorem dX7_readInto_50 : decode cX7_readInto 50 = .ok (.aload_n 0, 1) := by decide +kernel
theorem dX7_readInto_51 : decode cX7_readInto 51 = .ok (.aload_n 1, 1) := by decide +kernel
theorem dX7_readInto_52 : decode cX7_readInto 52 = .ok (.invokevirtual 39, 3) := by decide +kernel
theorem dX7_readInto_55 : decode cX7_readInto 55 = .ok (.iconst 1, 1) := by decide +kernel
theorem dX7_readInto_56 : decode cX7_readInto 56 = .ok (.istore 4, 2) := by decide +kernel
theorem dX7_readInto_58 : decode cX7_readInto 58 = .ok (.iload 4, 2) := by decide +kernel
theorem dX7_readInto_60 : decode cX7_readInto 60 = .ok (.bipush 6, 2) := by decide +kernel
theorem dX7_readInto_62 : decode cX7_readInto 62 = .ok (.if_icmp .ge 25, 3) := by decide +kernel
theorem dX7_readInto_65 : decode cX7_readInto 65 = .ok (.aload_n 0, 1) := by decide +kernel
theorem dX7_readInto_66 : decode cX7_readInto 66 = .ok (.getfield 19, 3) := by decide +kernel
theorem dX7_readInto_69 : decode cX7_readInto 69 = .ok (.aload_n 0, 1) := by decide +kernel
theorem dX7_readInto_70 : decode cX7_readInto 70 = .ok (.getfield 15, 3) := by decide +kernel
theorem dX7_readInto_73 : decode cX7_readInto 73 = .ok (.if_icmp .ge 14, 3) := by decide +kernel
theorem dX7_readInto_76 : decode cX7_readInto 76 = .ok (.aload_n 0, 1) := by decide +kernel
theorem dX7_readInto_77 : decode cX7_readInto 77 = .ok (.aload_n 1, 1) := by decide +kernel
theorem dX7_readInto_78 : decode cX7_readInto 78 = .ok (.invokevirtual 39, 3) := by decide +kernel
theorem dX7_readInto_81 : decode cX7_readInto 81 = .ok (.iinc 4 1, 3) := by decide +kernel
theorem dX7_readInto_84 : decode cX7_readInto 84 = .ok (.goto (-26), 3) := by decide +kernel
theorem dX7_readInto_87 : decode cX7_readInto 87 = .ok (.aload_n 0, 1) := by decide +kernel
theorem dX7_readInto_88 : decode cX7_readInto 88 = .ok (.getfield 22, 3) := by decide +kernel
theorem dX7_readInto_91 : decode cX7_readInto 91 = .ok (.iconst (-1), 1) := by decide +kernel
theorem dX7_readInto_92 : decode cX7_readInto 92 = .ok (.if_icmp .ne 22, 3) := by decide +kernel
theorem dX7_readInto_95 : decode cX7_readInto 95 = .ok (.aload_n 0, 1) := by decide +kernel
theorem dX7_readInto_96 : decode cX7_readInto 96 = .ok (.getfield 19, 3) := by decide +kernel
theorem dX7_readInto_99 : decode cX7_readInto 99 = .ok (.aload_n 0, 1) := by decide +kernel
theorem dX7_readInto_100 : decode cX7_readInto 100 = .ok (.getfield 15, 3) := by decide +kernel
theorem dX7_readInto_103 : decode cX7_readInto 103 = .ok (.if_icmp .ge 11, 3) := by decide +kernel
theorem dX7_readInto_106 : decode cX7_readInto 106 = .ok (.aload_n 0, 1) := by decide +kernel
theorem dX7_readInto_107 : decode cX7_readInto 107 = .ok (.aload_n 0, 1) := by decide +kernel
theorem dX7_readInto_108 : decode cX7_readInto 108 = .ok (.getfield 19, 3) := by decide +kernel
theorem dX7_readInto_111 : decode cX7_readInto 111 = .ok (.putfield 22, 3) := by decide +kernel
theorem dX7_readInto_114 : decode cX7_readInto 114 = .ok (.aload_n 0, 1) := by decide +kernel
theorem dX7_readInto_115 : decode cX7_readInto 115 = .ok (.getfield 22, 3) := by decide +kernel
theorem dX7_readInto_118 : decode cX7_readInto 118 = .ok (.ireturn, 1) := by decide +kernel
theorem dX7_readSitter_0 : decode cX7_readSitter 0 = .ok (.aload_n 0, 1) := by decide +kernel
theorem dX7_readSitter_1 : decode cX7_readSitter 1 = .ok (.invokevirtual 43, 3) := by decide +kernel
theorem dX7_readSitter_4 : decode cX7_readSitter 4 = .ok (.istore_n 2, 1) := by decide +kernel
theorem dX7_readSitter_5 : decode cX7_readSitter 5 = .ok (.aload_n 0, 1) := by decide +kernel
theorem dX7_readSitter_6 : decode cX7_readSitter 6 = .ok (.bipush 10, 2) := by decide +kernel
theorem dX7_readSitter_8 : decode cX7_readSitter 8 = .ok (.bipush 99, 2) := by decide +kernel
theorem dX7_readSitter_10 : decode cX7_readSitter 10 = .ok (.invokevirtual 29, 3) := by decide +kernel
theorem dX7_readSitter_13 : decode cX7_readSitter 13 = .ok (.istore_n 3, 1) := by decide +kernel
theorem dX7_readSitter_14 : decode cX7_readSitter 14 = .ok (.aload_n 0, 1) := by decide +kernel
theorem dX7_readSitter_15 : decode cX7_readSitter 15 = .ok (.bipush 44, 2) := by decide +kernel
theorem dX7_readSitter_17 : decode cX7_readSitter 17 = .ok (.invokevirtual 25, 3) := by decide +kernel
theorem dX7_readSitter_20 : decode cX7_readSitter 20 = .ok (.aload_n 0, 1) := by decide +kernel
theorem dX7_readSitter_21 : decode cX7_readSitter 21 = .ok (.iconst 0, 1) := by decide +kernel
theorem dX7_readSitter_22 : decode cX7_readSitter 22 = .ok (.bipush 9, 2) := by decide +kernel
theorem dX7_readSitter_24 : decode cX7_readSitter 24 = .ok (.invokevirtual 29, 3) := by decide +kernel
theorem dX7_readSitter_27 : decode cX7_readSitter 27 = .ok (.istore 4, 2) := by decide +kernel
theorem dX7_readSitter_29 : decode cX7_readSitter 29 = .ok (.aload_n 0, 1) := by decide +kernel
theorem dX7_readSitter_30 : decode cX7_readSitter 30 = .ok (.bipush 44, 2) := by decide +kernel
theorem dX7_readSitter_32 : decode cX7_readSitter 32 = .ok (.invokevirtual 25, 3) := by decide +kernel
theorem dX7_readSitter_35 : decode cX7_readSitter 35 = .ok (.aload_n 0, 1) := by decide +kernel
theorem dX7_readSitter_36 : decode cX7_readSitter 36 = .ok (.iconst 0, 1) := by decide +kernel
theorem dX7_readSitter_37 : decode cX7_readSitter 37 = .ok (.bipush 9, 2) := by decide +kernel
theorem dX7_readSitter_39 : decode cX7_readSitter 39 = .ok (.invokevirtual 29, 3) := by decide +kernel
theorem dX7_readSitter_42 : decode cX7_readSitter 42 = .ok (.istore 5, 2) := by decide +kernel
theorem dX7_readSitter_44 : decode cX7_readSitter 44 = .ok (.aload_n 0, 1) := by decide +kernel
theorem dX7_readSitter_45 : decode cX7_readSitter 45 = .ok (.bipush 44, 2) := by decide +kernel
theorem dX7_readSitter_47 : decode cX7_readSitter 47 = .ok (.invokevirtual 25, 3) := by decide +kernel
theorem dX7_readSitter_50 : decode cX7_readSitter 50 = .ok (.aload_n 0, 1) := by decide +kernel
theorem dX7_readSitter_51 : decode cX7_readSitter 51 = .ok (.iconst 0, 1) := by decide +kernel
theorem dX7_readSitter_52 : decode cX7_readSitter 52 = .ok (.bipush 9, 2) := by decide +kernel
theorem dX7_readSitter_54 : decode cX7_readSitter 54 = .ok (.invokevirtual 29, 3) := by decide +kernel
theorem dX7_readSitter_57 : decode cX7_readSitter 57 = .ok (.istore 6, 2) := by decide +kernel
theorem dX7_readSitter_59 : decode cX7_readSitter 59 = .ok (.aload_n 0, 1) := by decide +kernel
theorem dX7_readSitter_60 : decode cX7_readSitter 60 = .ok (.bipush 59, 2) := by decide +kernel
theorem dX7_readSitter_62 : decode cX7_readSitter 62 = .ok (.invokevirtual 25, 3) := by decide +kernel
theorem dX7_readSitter_65 : decode cX7_readSitter 65 = .ok (.aload_n 0, 1) := by decide +kernel
theorem dX7_readSitter_66 : decode cX7_readSitter 66 = .ok (.getfield 22, 3) := by decide +kernel
theorem dX7_readSitter_69 : decode cX7_readSitter 69 = .ok (.iconst (-1), 1) := by decide +kernel
theorem dX7_readSitter_70 : decode cX7_readSitter 70 = .ok (.if_icmp .ne 12, 3) := by decide +kernel
theorem dX7_readSitter_73 : decode cX7_readSitter 73 = .ok (.aload_n 1, 1) := by decide +kernel
theorem dX7_readSitter_74 : decode cX7_readSitter 74 = .ok (.getfield 47, 3) := by decide +kernel
theorem dX7_readSitter_77 : decode cX7_readSitter 77 = .ok (.bipush 6, 2) := by decide +kernel
theorem dX7_readSitter_79 : decode cX7_readSitter 79 = .ok (.if_icmp .lt 4, 3) := by decide +kernel
theorem dX7_readSitter_82 : decode cX7_readSitter 82 = .ok (.return_, 1) := by decide +kernel
theorem dX7_readSitter_83 : decode cX7_readSitter 83 = .ok (.aload_n 1, 1) := by decide +kernel
theorem dX7_readSitter_84 : decode cX7_readSitter 84 = .ok (.getfield 50, 3) := by decide +kernel
theorem dX7_readSitter_87 : decode cX7_readSitter 87 = .ok (.aload_n 1, 1) := by decide +kernel
theorem dX7_readSitter_88 : decode cX7_readSitter 88 = .ok (.getfield 47, 3) := by decide +kernel
theorem dX7_readSitter_91 : decode cX7_readSitter 91 = .ok (.aaload, 1) := by decide +kernel
theorem dX7_readSitter_92 : decode cX7_readSitter 92 = .ok (.astore 7, 2) := by decide +kernel
theorem dX7_readSitter_94 : decode cX7_readSitter 94 = .ok (.aload 7, 2) := by decide +kernel
theorem dX7_readSitter_96 : decode cX7_readSitter 96 = .ok (.iload_n 2, 1) := by decide +kernel
theorem dX7_readSitter_97 : decode cX7_readSitter 97 = .ok (.putfield 54, 3) := by decide +kernel
theorem dX7_readSitter_100 : decode cX7_readSitter 100 = .ok (.aload 7, 2) := by decide +kernel
theorem dX7_readSitter_102 : decode cX7_readSitter 102 = .ok (.iload_n 3, 1) := by decide +kernel
theorem dX7_readSitter_103 : decode cX7_readSitter 103 = .ok (.putfield 59, 3) := by decide +kernel
theorem dX7_readSitter_106 : decode cX7_readSitter 106 = .ok (.aload 7, 2) := by decide +kernel
theorem dX7_readSitter_108 : decode cX7_readSitter 108 = .ok (.iload 4, 2) := by decide +kernel
theorem dX7_readSitter_110 : decode cX7_readSitter 110 = .ok (.putfield 62, 3) := by decide +kernel
theorem dX7_readSitter_113 : decode cX7_readSitter 113 = .ok (.aload 7, 2) := by decide +kernel
theorem dX7_readSitter_115 : decode cX7_readSitter 115 = .ok (.iload 5, 2) := by decide +kernel
theorem dX7_readSitter_117 : decode cX7_readSitter 117 = .ok (.putfield 65, 3) := by decide +kernel
theorem dX7_readSitter_120 : decode cX7_readSitter 120 = .ok (.aload 7, 2) := by decide +kernel
theorem dX7_readSitter_122 : decode cX7_readSitter 122 = .ok (.iload 6, 2) := by decide +kernel
theorem dX7_readSitter_124 : decode cX7_readSitter 124 = .ok (.putfield 68, 3) := by decide +kernel
theorem dX7_readSitter_127 : decode cX7_readSitter 127 = .ok (.aload 7, 2) := by decide +kernel
theorem dX7_readSitter_129 : decode cX7_readSitter 129 = .ok (.aload_n 1, 1) := by decide +kernel
theorem dX7_readSitter_130 : decode cX7_readSitter 130 = .ok (.getfield 71, 3) := by decide +kernel
theorem dX7_readSitter_133 : decode cX7_readSitter 133 = .ok (.invokevirtual 74, 3) := by decide +kernel
theorem dX7_readSitter_136 : decode cX7_readSitter 136 = .ok (.aload_n 1, 1) := by decide +kernel
theorem dX7_readSitter_137 : decode cX7_readSitter 137 = .ok (.dup, 1) := by decide +kernel
theorem dX7_readSitter_138 : decode cX7_readSitter 138 = .ok (.getfield 47, 3) := by decide +kernel
theorem dX7_readSitter_141 : decode cX7_readSitter 141 = .ok (.iconst 1, 1) := by decide +kernel
theorem dX7_readSitter_142 : decode cX7_readSitter 142 = .ok (.iadd, 1) := by decide +kernel
theorem dX7_readSitter_143 : decode cX7_readSitter 143 = .ok (.putfield 47, 3) := by decide +kernel
theorem dX7_readSitter_146 : decode cX7_readSitter 146 = .ok (.return_, 1) := by decide +kernel
theorem dX7_here_0 : decode cX7_here 0 = .ok (.aload_n 0, 1) := by decide +kernel
theorem dX7_here_1 : decode cX7_here 1 = .ok (.getfield 19, 3) := by decide +kernel
theorem dX7_here_4 : decode cX7_here 4 = .ok (.ifCond .lt 26, 3) := by decide +kernel
theorem dX7_here_7 : decode cX7_here 7 = .ok (.aload_n 0, 1) := by decide +kernel
theorem dX7_here_8 : decode cX7_here 8 = .ok (.getfield 19, 3) := by decide +kernel
theorem dX7_here_11 : decode cX7_here 11 = .ok (.aload_n 0, 1) := by decide +kernel
theorem dX7_here_12 : decode cX7_here 12 = .ok (.getfield 15, 3) := by decide +kernel
theorem dX7_here_15 : decode cX7_here 15 = .ok (.if_icmp .ge 15, 3) := by decide +kernel
theorem dX7_here_18 : decode cX7_here 18 = .ok (.aload_n 0, 1) := by decide +kernel
theorem dX7_here_19 : decode cX7_here 19 = .ok (.getfield 9, 3) := by decide +kernel
theorem dX7_here_22 : decode cX7_here 22 = .ok (.aload_n 0, 1) := by decide +kernel
theorem dX7_here_23 : decode cX7_here 23 = .ok (.getfield 19, 3) := by decide +kernel
theorem dX7_here_26 : decode cX7_here 26 = .ok (.iaload, 1) := by decide +kernel
theorem dX7_here_27 : decode cX7_here 27 = .ok (.goto 4, 3) := by decide +kernel
theorem dX7_here_30 : decode cX7_here 30 = .ok (.iconst (-1), 1) := by decide +kernel
theorem dX7_here_31 : decode cX7_here 31 = .ok (.ireturn, 1) := by decide +kernel
theorem dX7_isFigure_0 : decode cX7_isFigure 0 = .ok (.aload_n 0, 1) := by decide +kernel
theorem dX7_isFigure_1 : decode cX7_isFigure 1 = .ok (.invokevirtual 77, 3) := by decide +kernel
theorem dX7_isFigure_4 : decode cX7_isFigure 4 = .ok (.bipush 48, 2) := by decide +kernel
theorem dX7_isFigure_6 : decode cX7_isFigure 6 = .ok (.bipush 57, 2) := by decide +kernel
theorem dX7_isFigure_8 : decode cX7_isFigure 8 = .ok (.invokestatic 80, 3) := by decide +kernel
theorem dX7_isFigure_11 : decode cX7_isFigure 11 = .ok (.ireturn, 1) := by decide +kernel
theorem dX7_expect_0 : decode cX7_expect 0 = .ok (.aload_n 0, 1) := by decide +kernel
theorem dX7_expect_1 : decode cX7_expect 1 = .ok (.getfield 22, 3) := by decide +kernel
theorem dX7_expect_4 : decode cX7_expect 4 = .ok (.iconst (-1), 1) := by decide +kernel
theorem dX7_expect_5 : decode cX7_expect 5 = .ok (.if_icmp .eq 4, 3) := by decide +kernel
theorem dX7_expect_8 : decode cX7_expect 8 = .ok (.return_, 1) := by decide +kernel
theorem dX7_expect_9 : decode cX7_expect 9 = .ok (.aload_n 0, 1) := by decide +kernel
theorem dX7_expect_10 : decode cX7_expect 10 = .ok (.invokevirtual 77, 3) := by decide +kernel
theorem dX7_expect_13 : decode cX7_expect 13 = .ok (.iload_n 1, 1) := by decide +kernel
theorem dX7_expect_14 : decode cX7_expect 14 = .ok (.if_icmp .ne 16, 3) := by decide +kernel
theorem dX7_expect_17 : decode cX7_expect 17 = .ok (.aload_n 0, 1) := by decide +kernel
theorem dX7_expect_18 : decode cX7_expect 18 = .ok (.dup, 1) := by decide +kernel
theorem dX7_expect_19 : decode cX7_expect 19 = .ok (.getfield 19, 3) := by decide +kernel
theorem dX7_expect_22 : decode cX7_expect 22 = .ok (.iconst 1, 1) := by decide +kernel
theorem dX7_expect_23 : decode cX7_expect 23 = .ok (.iadd, 1) := by decide +kernel
theorem dX7_expect_24 : decode cX7_expect 24 = .ok (.putfield 19, 3) := by decide +kernel
theorem dX7_expect_27 : decode cX7_expect 27 = .ok (.goto 11, 3) := by decide +kernel
theorem dX7_expect_30 : decode cX7_expect 30 = .ok (.aload_n 0, 1) := by decide +kernel
theorem dX7_expect_31 : decode cX7_expect 31 = .ok (.aload_n 0, 1) := by decide +kernel
theorem dX7_expect_32 : decode cX7_expect 32 = .ok (.getfield 19, 3) := by decide +kernel
theorem dX7_expect_35 : decode cX7_expect 35 = .ok (.putfield 22, 3) := by decide +kernel
theorem dX7_expect_38 : decode cX7_expect 38 = .ok (.return_, 1) := by decide +kernel
theorem dX7_readSort_0 : decode cX7_readSort 0 = .ok (.aload_n 0, 1) := by decide +kernel
theorem dX7_readSort_1 : decode cX7_readSort 1 = .ok (.getfield 22, 3) := by decide +kernel
theorem dX7_readSort_4 : decode cX7_readSort 4 = .ok (.iconst (-1), 1) := by decide +kernel
theorem dX7_readSort_5 : decode cX7_readSort 5 = .ok (.if_icmp .eq 5, 3) := by decide +kernel
theorem dX7_readSort_8 : decode cX7_readSort 8 = .ok (.iconst 0, 1) := by decide +kernel
theorem dX7_readSort_9 : decode cX7_readSort 9 = .ok (.ireturn, 1) := by decide +kernel
theorem dX7_readSort_10 : decode cX7_readSort 10 = .ok (.iconst 0, 1) := by decide +kernel
theorem dX7_readSort_11 : decode cX7_readSort 11 = .ok (.istore_n 1, 1) := by decide +kernel
theorem dX7_readSort_12 : decode cX7_readSort 12 = .ok (.iload_n 1, 1) := by decide +kernel
theorem dX7_readSort_13 : decode cX7_readSort 13 = .ok (.getstatic 84, 3) := by decide +kernel
theorem dX7_readSort_16 : decode cX7_readSort 16 = .ok (.arraylength, 1) := by decide +kernel
theorem dX7_readSort_17 : decode cX7_readSort 17 = .ok (.if_icmp .ge 35, 3) := by decide +kernel
theorem dX7_readSort_20 : decode cX7_readSort 20 = .ok (.aload_n 0, 1) := by decide +kernel
theorem dX7_readSort_21 : decode cX7_readSort 21 = .ok (.invokevirtual 77, 3) := by decide +kernel
theorem dX7_readSort_24 : decode cX7_readSort 24 = .ok (.getstatic 84, 3) := by decide +kernel
theorem dX7_readSort_27 : decode cX7_readSort 27 = .ok (.iload_n 1, 1) := by decide +kernel
theorem dX7_readSort_28 : decode cX7_readSort 28 = .ok (.caload, 1) := by decide +kernel
theorem dX7_readSort_29 : decode cX7_readSort 29 = .ok (.if_icmp .ne 17, 3) := by decide +kernel
theorem dX7_readSort_32 : decode cX7_readSort 32 = .ok (.aload_n 0, 1) := by decide +kernel
theorem dX7_readSort_33 : decode cX7_readSort 33 = .ok (.dup, 1) := by decide +kernel
theorem dX7_readSort_34 : decode cX7_readSort 34 = .ok (.getfield 19, 3) := by decide +kernel
theorem dX7_readSort_37 : decode cX7_readSort 37 = .ok (.iconst 1, 1) := by decide +kernel
theorem dX7_readSort_38 : decode cX7_readSort 38 = .ok (.iadd, 1) := by decide +kernel
theorem dX7_readSort_39 : decode cX7_readSort 39 = .ok (.putfield 19, 3) := by decide +kernel
theorem dX7_readSort_42 : decode cX7_readSort 42 = .ok (.iload_n 1, 1) := by decide +kernel
theorem dX7_readSort_43 : decode cX7_readSort 43 = .ok (.iconst 1, 1) := by decide +kernel
theorem dX7_readSort_44 : decode cX7_readSort 44 = .ok (.iadd, 1) := by decide +kernel
theorem dX7_readSort_45 : decode cX7_readSort 45 = .ok (.ireturn, 1) := by decide +kernel
theorem dX7_readSort_46 : decode cX7_readSort 46 = .ok (.iinc 1 1, 3) := by decide +kernel
theorem dX7_readSort_49 : decode cX7_readSort 49 = .ok (.goto (-37), 3) := by decide +kernel
theorem dX7_readSort_52 : decode cX7_readSort 52 = .ok (.aload_n 0, 1) := by decide +kernel
theorem dX7_readSort_53 : decode cX7_readSort 53 = .ok (.aload_n 0, 1) := by decide +kernel
theorem dX7_readSort_54 : decode cX7_readSort 54 = .ok (.getfield 19, 3) := by decide +kernel
theorem dX7_readSort_57 : decode cX7_readSort 57 = .ok (.putfield 22, 3) := by decide +kernel
theorem dX7_readSort_60 : decode cX7_readSort 60 = .ok (.iconst 0, 1) := by decide +kernel
theorem dX7_readSort_61 : decode cX7_readSort 61 = .ok (.ireturn, 1) := by decide +kernel
theorem dX7_readNumber_0 : decode cX7_readNumber 0 = .ok (.aload_n 0, 1) := by decide +kernel
theorem dX7_readNumber_1 : decode cX7_readNumber 1 = .ok (.getfield 22, 3) := by decide +kernel
theorem dX7_readNumber_4 : decode cX7_readNumber 4 = .ok (.iconst (-1), 1) := by decide +kernel
theorem dX7_readNumber_5 : decode cX7_readNumber 5 = .ok (.if_icmp .eq 5, 3) := by decide +kernel
theorem dX7_readNumber_8 : decode cX7_readNumber 8 = .ok (.iconst 0, 1) := by decide +kernel
theorem dX7_readNumber_9 : decode cX7_readNumber 9 = .ok (.ireturn, 1) := by decide +kernel
theorem dX7_readNumber_10 : decode cX7_readNumber 10 = .ok (.aload_n 0, 1) := by decide +kernel
theorem dX7_readNumber_11 : decode cX7_readNumber 11 = .ok (.getfield 19, 3) := by decide +kernel
theorem dX7_readNumber_14 : decode cX7_readNumber 14 = .ok (.istore_n 3, 1) := by decide +kernel
theorem dX7_readNumber_15 : decode cX7_readNumber 15 = .ok (.iconst 0, 1) := by decide +kernel
theorem dX7_readNumber_16 : decode cX7_readNumber 16 = .ok (.istore 4, 2) := by decide +kernel
theorem dX7_readNumber_18 : decode cX7_readNumber 18 = .ok (.iconst 0, 1) := by decide +kernel
theorem dX7_readNumber_19 : decode cX7_readNumber 19 = .ok (.istore 5, 2) := by decide +kernel
theorem dX7_readNumber_21 : decode cX7_readNumber 21 = .ok (.iload 5, 2) := by decide +kernel
theorem dX7_readNumber_23 : decode cX7_readNumber 23 = .ok (.iconst 2, 1) := by decide +kernel
theorem dX7_readNumber_24 : decode cX7_readNumber 24 = .ok (.if_icmp .ge 41, 3) := by decide +kernel
theorem dX7_readNumber_27 : decode cX7_readNumber 27 = .ok (.aload_n 0, 1) := by decide +kernel
theorem dX7_readNumber_28 : decode cX7_readNumber 28 = .ok (.invokevirtual 88, 3) := by decide +kernel
theorem dX7_readNumber_31 : decode cX7_readNumber 31 = .ok (.ifCond .eq 34, 3) := by decide +kernel
theorem dX7_readNumber_34 : decode cX7_readNumber 34 = .ok (.bipush 10, 2) := by decide +kernel
theorem dX7_readNumber_36 : decode cX7_readNumber 36 = .ok (.iload 4, 2) := by decide +kernel
theorem dX7_readNumber_38 : decode cX7_readNumber 38 = .ok (.imul, 1) := by decide +kernel
theorem dX7_readNumber_39 : decode cX7_readNumber 39 = .ok (.aload_n 0, 1) := by decide +kernel
theorem dX7_readNumber_40 : decode cX7_readNumber 40 = .ok (.invokevirtual 77, 3) := by decide +kernel
theorem dX7_readNumber_43 : decode cX7_readNumber 43 = .ok (.iadd, 1) := by decide +kernel
theorem dX7_readNumber_44 : decode cX7_readNumber 44 = .ok (.bipush 48, 2) := by decide +kernel
theorem dX7_readNumber_46 : decode cX7_readNumber 46 = .ok (.isub, 1) := by decide +kernel
theorem dX7_readNumber_47 : decode cX7_readNumber 47 = .ok (.istore 4, 2) := by decide +kernel
theorem dX7_readNumber_49 : decode cX7_readNumber 49 = .ok (.aload_n 0, 1) := by decide +kernel
theorem dX7_readNumber_50 : decode cX7_readNumber 50 = .ok (.dup, 1) := by decide +kernel
theorem dX7_readNumber_51 : decode cX7_readNumber 51 = .ok (.getfield 19, 3) := by decide +kernel
theorem dX7_readNumber_54 : decode cX7_readNumber 54 = .ok (.iconst 1, 1) := by decide +kernel
theorem dX7_readNumber_55 : decode cX7_readNumber 55 = .ok (.iadd, 1) := by decide +kernel
theorem dX7_readNumber_56 : decode cX7_readNumber 56 = .ok (.putfield 19, 3) := by decide +kernel
theorem dX7_readNumber_59 : decode cX7_readNumber 59 = .ok (.iinc 5 1, 3) := by decide +kernel
theorem dX7_readNumber_62 : decode cX7_readNumber 62 = .ok (.goto (-41), 3) := by decide +kernel
theorem dX7_readNumber_65 : decode cX7_readNumber 65 = .ok (.aload_n 0, 1) := by decide +kernel
theorem dX7_readNumber_66 : decode cX7_readNumber 66 = .ok (.getfield 19, 3) := by decide +kernel
theorem dX7_readNumber_69 : decode cX7_readNumber 69 = .ok (.iload_n 3, 1) := by decide +kernel
theorem dX7_readNumber_70 : decode cX7_readNumber 70 = .ok (.if_icmp .eq 20, 3) := by decide +kernel
theorem dX7_readNumber_73 : decode cX7_readNumber 73 = .ok (.aload_n 0, 1) := by decide +kernel
theorem dX7_readNumber_74 : decode cX7_readNumber 74 = .ok (.invokevirtual 88, 3) := by decide +kernel
theorem dX7_readNumber_77 : decode cX7_readNumber 77 = .ok (.ifCond .ne 13, 3) := by decide +kernel
theorem dX7_readNumber_80 : decode cX7_readNumber 80 = .ok (.iload 4, 2) := by decide +kernel
theorem dX7_readNumber_82 : decode cX7_readNumber 82 = .ok (.iload_n 1, 1) := by decide +kernel
theorem dX7_readNumber_83 : decode cX7_readNumber 83 = .ok (.iload_n 2, 1) := by decide +kernel
theorem dX7_readNumber_84 : decode cX7_readNumber 84 = .ok (.invokestatic 80, 3) := by decide +kernel
theorem dX7_readNumber_87 : decode cX7_readNumber 87 = .ok (.ifCond .ne 8, 3) := by decide +kernel
theorem dX7_readNumber_90 : decode cX7_readNumber 90 = .ok (.aload_n 0, 1) := by decide +kernel
theorem dX7_readNumber_91 : decode cX7_readNumber 91 = .ok (.iload_n 3, 1) := by decide +kernel
theorem dX7_readNumber_92 : decode cX7_readNumber 92 = .ok (.putfield 22, 3) := by decide +kernel
theorem dX7_readNumber_95 : decode cX7_readNumber 95 = .ok (.iload 4, 2) := by decide +kernel
theorem dX7_readNumber_97 : decode cX7_readNumber 97 = .ok (.ireturn, 1) := by decide +kernel
theorem dX8_init_0 : decode cX8_init 0 = .ok (.aload_n 0, 1) := by decide +kernel
theorem dX8_init_1 : decode cX8_init 1 = .ok (.invokespecial 3, 3) := by decide +kernel
theorem dX8_init_4 : decode cX8_init 4 = .ok (.aload_n 0, 1) := by decide +kernel
theorem dX8_init_5 : decode cX8_init 5 = .ok (.bipush 7, 2) := by decide +kernel
theorem dX8_init_7 : decode cX8_init 7 = .ok (.newarray .int, 2) := by decide +kernel
theorem dX8_init_9 : decode cX8_init 9 = .ok (.putfield 9, 3) := by decide +kernel
theorem dX8_init_12 : decode cX8_init 12 = .ok (.aload_n 0, 1) := by decide +kernel
theorem dX8_init_13 : decode cX8_init 13 = .ok (.bipush 7, 2) := by decide +kernel
theorem dX8_init_15 : decode cX8_init 15 = .ok (.newarray .int, 2) := by decide +kernel
theorem dX8_init_17 : decode cX8_init 17 = .ok (.putfield 15, 3) := by decide +kernel
theorem dX8_init_20 : decode cX8_init 20 = .ok (.return_, 1) := by decide +kernel
theorem dX8_plan_0 : decode cX8_plan 0 = .ok (.aload_n 0, 1) := by decide +kernel
theorem dX8_plan_1 : decode cX8_plan 1 = .ok (.iconst 0, 1) := by decide +kernel
theorem dX8_plan_2 : decode cX8_plan 2 = .ok (.putfield 18, 3) := by decide +kernel
theorem dX8_plan_5 : decode cX8_plan 5 = .ok (.iconst 0, 1) := by decide +kernel
theorem dX8_plan_6 : decode cX8_plan 6 = .ok (.istore 4, 2) := by decide +kernel
theorem dX8_plan_8 : decode cX8_plan 8 = .ok (.iload 4, 2) := by decide +kernel
theorem dX8_plan_10 : decode cX8_plan 10 = .ok (.iload_n 3, 1) := by decide +kernel
theorem dX8_plan_11 : decode cX8_plan 11 = .ok (.if_icmp .ge 80, 3) := by decide +kernel
theorem dX8_plan_14 : decode cX8_plan 14 = .ok (.iload 4, 2) := by decide +kernel
theorem dX8_plan_16 : decode cX8_plan 16 = .ok (.bipush 7, 2) := by decide +kernel
theorem dX8_plan_18 : decode cX8_plan 18 = .ok (.if_icmp .ge 73, 3) := by decide +kernel
theorem dX8_plan_21 : decode cX8_plan 21 = .ok (.aload_n 1, 1) := by decide +kernel
theorem dX8_plan_22 : decode cX8_plan 22 = .ok (.iload_n 2, 1) := by decide +kernel
theorem dX8_plan_23 : decode cX8_plan 23 = .ok (.iconst 2, 1) := by decide +kernel
theorem dX8_plan_24 : decode cX8_plan 24 = .ok (.iload 4, 2) := by decide +kernel
theorem dX8_plan_26 : decode cX8_plan 26 = .ok (.imul, 1) := by decide +kernel
theorem dX8_plan_27 : decode cX8_plan 27 = .ok (.iconst 2, 1) := by decide +kernel
theorem dX8_plan_28 : decode cX8_plan 28 = .ok (.iadd, 1) := by decide +kernel
theorem dX8_plan_29 : decode cX8_plan 29 = .ok (.invokevirtual 22, 3) := by decide +kernel
theorem dX8_plan_32 : decode cX8_plan 32 = .ok (.ifCond .eq 59, 3) := by decide +kernel
theorem dX8_plan_35 : decode cX8_plan 35 = .ok (.aload_n 0, 1) := by decide +kernel
theorem dX8_plan_36 : decode cX8_plan 36 = .ok (.getfield 9, 3) := by decide +kernel
theorem dX8_plan_39 : decode cX8_plan 39 = .ok (.iload 4, 2) := by decide +kernel
theorem dX8_plan_41 : decode cX8_plan 41 = .ok (.aload_n 1, 1) := by decide +kernel
theorem dX8_plan_42 : decode cX8_plan 42 = .ok (.getfield 28, 3) := by decide +kernel
theorem dX8_plan_45 : decode cX8_plan 45 = .ok (.iload_n 2, 1) := by decide +kernel
theorem dX8_plan_46 : decode cX8_plan 46 = .ok (.iconst 2, 1) := by decide +kernel
theorem dX8_plan_47 : decode cX8_plan 47 = .ok (.iload 4, 2) := by decide +kernel
theorem dX8_plan_49 : decode cX8_plan 49 = .ok (.imul, 1) := by decide +kernel
theorem dX8_plan_50 : decode cX8_plan 50 = .ok (.iadd, 1) := by decide +kernel
theorem dX8_plan_51 : decode cX8_plan 51 = .ok (.laload, 1) := by decide +kernel
theorem dX8_plan_52 : decode cX8_plan 52 = .ok (.l2i, 1) := by decide +kernel
theorem dX8_plan_53 : decode cX8_plan 53 = .ok (.iastore, 1) := by decide +kernel
theorem dX8_plan_54 : decode cX8_plan 54 = .ok (.aload_n 0, 1) := by decide +kernel
theorem dX8_plan_55 : decode cX8_plan 55 = .ok (.getfield 15, 3) := by decide +kernel
theorem dX8_plan_58 : decode cX8_plan 58 = .ok (.iload 4, 2) := by decide +kernel
theorem dX8_plan_60 : decode cX8_plan 60 = .ok (.aload_n 1, 1) := by decide +kernel
theorem dX8_plan_61 : decode cX8_plan 61 = .ok (.getfield 28, 3) := by decide +kernel
theorem dX8_plan_64 : decode cX8_plan 64 = .ok (.iload_n 2, 1) := by decide +kernel
theorem dX8_plan_65 : decode cX8_plan 65 = .ok (.iconst 2, 1) := by decide +kernel
theorem dX8_plan_66 : decode cX8_plan 66 = .ok (.iload 4, 2) := by decide +kernel
theorem dX8_plan_68 : decode cX8_plan 68 = .ok (.imul, 1) := by decide +kernel
theorem dX8_plan_69 : decode cX8_plan 69 = .ok (.iadd, 1) := by decide +kernel
theorem dX8_plan_70 : decode cX8_plan 70 = .ok (.iconst 1, 1) := by decide +kernel
theorem dX8_plan_71 : decode cX8_plan 71 = .ok (.iadd, 1) := by decide +kernel
theorem dX8_plan_72 : decode cX8_plan 72 = .ok (.laload, 1) := by decide +kernel
theorem dX8_plan_73 : decode cX8_plan 73 = .ok (.l2i, 1) := by decide +kernel
theorem dX8_plan_74 : decode cX8_plan 74 = .ok (.iastore, 1) := by decide +kernel
theorem dX8_plan_75 : decode cX8_plan 75 = .ok (.aload_n 0, 1) := by decide +kernel
theorem dX8_plan_76 : decode cX8_plan 76 = .ok (.dup, 1) := by decide +kernel
theorem dX8_plan_77 : decode cX8_plan 77 = .ok (.getfield 18, 3) := by decide +kernel
theorem dX8_plan_80 : decode cX8_plan 80 = .ok (.iconst 1, 1) := by decide +kernel
theorem dX8_plan_81 : decode cX8_plan 81 = .ok (.iadd, 1) := by decide +kernel
theorem dX8_plan_82 : decode cX8_plan 82 = .ok (.putfield 18, 3) := by decide +kernel
theorem dX8_plan_85 : decode cX8_plan 85 = .ok (.iinc 4 1, 3) := by decide +kernel
theorem dX8_plan_88 : decode cX8_plan 88 = .ok (.goto (-80), 3) := by decide +kernel
theorem dX8_plan_91 : decode cX8_plan 91 = .ok (.aload_n 0, 1) := by decide +kernel
theorem dX8_plan_92 : decode cX8_plan 92 = .ok (.ldc 32, 2) := by decide +kernel
theorem dX8_plan_94 : decode cX8_plan 94 = .ok (.putfield 33, 3) := by decide +kernel
theorem dX8_plan_97 : decode cX8_plan 97 = .ok (.aload_n 0, 1) := by decide +kernel
theorem dX8_plan_98 : decode cX8_plan 98 = .ok (.iconst 0, 1) := by decide +kernel
theorem dX8_plan_99 : decode cX8_plan 99 = .ok (.putfield 36, 3) := by decide +kernel
theorem dX8_plan_102 : decode cX8_plan 102 = .ok (.iconst 1, 1) := by decide +kernel
theorem dX8_plan_103 : decode cX8_plan 103 = .ok (.aload_n 0, 1) := by decide +kernel
theorem dX8_plan_104 : decode cX8_plan 104 = .ok (.getfield 18, 3) := by decide +kernel
theorem dX8_plan_107 : decode cX8_plan 107 = .ok (.ishl, 1) := by decide +kernel
theorem dX8_plan_108 : decode cX8_plan 108 = .ok (.iconst 2, 1) := by decide +kernel
theorem dX8_plan_109 : decode cX8_plan 109 = .ok (.isub, 1) := by decide +kernel
theorem dX8_plan_110 : decode cX8_plan 110 = .ok (.istore 4, 2) := by decide +kernel
theorem dX8_plan_112 : decode cX8_plan 112 = .ok (.iconst 1, 1) := by decide +kernel
theorem dX8_plan_113 : decode cX8_plan 113 = .ok (.istore 5, 2) := by decide +kernel
theorem dX8_plan_115 : decode cX8_plan 115 = .ok (.iload 5, 2) := by decide +kernel
theorem dX8_plan_117 : decode cX8_plan 117 = .ok (.aload_n 0, 1) := by decide +kernel
theorem dX8_plan_118 : decode cX8_plan 118 = .ok (.getfield 18, 3) := by decide +kernel
theorem dX8_plan_121 : decode cX8_plan 121 = .ok (.if_icmp .ge 56, 3) := by decide +kernel
theorem dX8_plan_124 : decode cX8_plan 124 = .ok (.aload_n 0, 1) := by decide +kernel
theorem dX8_plan_125 : decode cX8_plan 125 = .ok (.iconst 0, 1) := by decide +kernel
theorem dX8_plan_126 : decode cX8_plan 126 = .ok (.iload 5, 2) := by decide +kernel
theorem dX8_plan_128 : decode cX8_plan 128 = .ok (.invokevirtual 39, 3) := by decide +kernel
theorem dX8_plan_131 : decode cX8_plan 131 = .ok (.aload_n 0, 1) := by decide +kernel
theorem dX8_plan_132 : decode cX8_plan 132 = .ok (.iload 5, 2) := by decide +kernel
theorem dX8_plan_134 : decode cX8_plan 134 = .ok (.iload 4, 2) := by decide +kernel
theorem dX8_plan_136 : decode cX8_plan 136 = .ok (.iconst 1, 1) := by decide +kernel
theorem dX8_plan_137 : decode cX8_plan 137 = .ok (.iload 5, 2) := by decide +kernel
theorem dX8_plan_139 : decode cX8_plan 139 = .ok (.ishl, 1) := by decide +kernel
theorem dX8_plan_140 : decode cX8_plan 140 = .ok (.iconst (-1), 1) := by decide +kernel
theorem dX8_plan_141 : decode cX8_plan 141 = .ok (.ixor, 1) := by decide +kernel
theorem dX8_plan_142 : decode cX8_plan 142 = .ok (.iand, 1) := by decide +kernel
theorem dX8_plan_143 : decode cX8_plan 143 = .ok (.iconst 1, 1) := by decide +kernel
theorem dX8_plan_144 : decode cX8_plan 144 = .ok (.invokestatic 43, 3) := by decide +kernel
theorem dX8_plan_147 : decode cX8_plan 147 = .ok (.iadd, 1) := by decide +kernel
theorem dX8_plan_148 : decode cX8_plan 148 = .ok (.istore 6, 2) := by decide +kernel
theorem dX8_plan_150 : decode cX8_plan 150 = .ok (.iload 6, 2) := by decide +kernel
theorem dX8_plan_152 : decode cX8_plan 152 = .ok (.aload_n 0, 1) := by decide +kernel
theorem dX8_plan_153 : decode cX8_plan 153 = .ok (.getfield 33, 3) := by decide +kernel
theorem dX8_plan_156 : decode cX8_plan 156 = .ok (.if_icmp .ge 15, 3) := by decide +kernel
theorem dX8_plan_159 : decode cX8_plan 159 = .ok (.aload_n 0, 1) := by decide +kernel
theorem dX8_plan_160 : decode cX8_plan 160 = .ok (.iload 6, 2) := by decide +kernel
theorem dX8_plan_162 : decode cX8_plan 162 = .ok (.putfield 33, 3) := by decide +kernel
theorem dX8_plan_165 : decode cX8_plan 165 = .ok (.aload_n 0, 1) := by decide +kernel
theorem dX8_plan_166 : decode cX8_plan 166 = .ok (.iload 5, 2) := by decide +kernel
theorem dX8_plan_168 : decode cX8_plan 168 = .ok (.putfield 36, 3) := by decide +kernel
theorem dX8_plan_171 : decode cX8_plan 171 = .ok (.iinc 5 1, 3) := by decide +kernel
theorem dX8_plan_174 : decode cX8_plan 174 = .ok (.goto (-59), 3) := by decide +kernel
theorem dX8_plan_177 : decode cX8_plan 177 = .ok (.return_, 1) := by decide +kernel
theorem dX8_between_0 : decode cX8_between 0 = .ok (.aload_n 0, 1) := by decide +kernel
theorem dX8_between_1 : decode cX8_between 1 = .ok (.getfield 9, 3) := by decide +kernel
theorem dX8_between_4 : decode cX8_between 4 = .ok (.iload_n 1, 1) := by decide +kernel
theorem dX8_between_5 : decode cX8_between 5 = .ok (.iaload, 1) := by decide +kernel
theorem dX8_between_6 : decode cX8_between 6 = .ok (.aload_n 0, 1) := by decide +kernel
theorem dX8_between_7 : decode cX8_between 7 = .ok (.getfield 9, 3) := by decide +kernel
theorem dX8_between_10 : decode cX8_between 10 = .ok (.iload_n 2, 1) := by decide +kernel
theorem dX8_between_11 : decode cX8_between 11 = .ok (.iaload, 1) := by decide +kernel
theorem dX8_between_12 : decode cX8_between 12 = .ok (.isub, 1) := by decide +kernel
theorem dX8_between_13 : decode cX8_between 13 = .ok (.invokestatic 47, 3) := by decide +kernel
theorem dX8_between_16 : decode cX8_between 16 = .ok (.aload_n 0, 1) := by decide +kernel
theorem dX8_between_17 : decode cX8_between 17 = .ok (.getfield 15, 3) := by decide +kernel
theorem dX8_between_20 : decode cX8_between 20 = .ok (.iload_n 1, 1) := by decide +kernel
theorem dX8_between_21 : decode cX8_between 21 = .ok (.iaload, 1) := by decide +kernel
theorem dX8_between_22 : decode cX8_between 22 = .ok (.aload_n 0, 1) := by decide +kernel
theorem dX8_between_23 : decode cX8_between 23 = .ok (.getfield 15, 3) := by decide +kernel
theorem dX8_between_26 : decode cX8_between 26 = .ok (.iload_n 2, 1) := by decide +kernel
theorem dX8_between_27 : decode cX8_between 27 = .ok (.iaload, 1) := by decide +kernel
theorem dX8_between_28 : decode cX8_between 28 = .ok (.isub, 1) := by decide +kernel
theorem dX8_between_29 : decode cX8_between 29 = .ok (.invokestatic 47, 3) := by decide +kernel
theorem dX8_between_32 : decode cX8_between 32 = .ok (.iadd, 1) := by decide +kernel
theorem dX8_between_33 : decode cX8_between 33 = .ok (.ireturn, 1) := by decide +kernel
theorem dX8_wayFrom_0 : decode cX8_wayFrom 0 = .ok (.iload_n 2, 1) := by decide +kernel
theorem dX8_wayFrom_1 : decode cX8_wayFrom 1 = .ok (.ifCond .eq 9, 3) := by decide +kernel
theorem dX8_wayFrom_4 : decode cX8_wayFrom 4 = .ok (.iload_n 3, 1) := by decide +kernel
theorem dX8_wayFrom_5 : decode cX8_wayFrom 5 = .ok (.bipush 7, 2) := by decide +kernel
theorem dX8_wayFrom_7 : decode cX8_wayFrom 7 = .ok (.if_icmp .lt 10, 3) := by decide +kernel
theorem dX8_wayFrom_10 : decode cX8_wayFrom 10 = .ok (.aload_n 0, 1) := by decide +kernel
theorem dX8_wayFrom_11 : decode cX8_wayFrom 11 = .ok (.iload_n 1, 1) := by decide +kernel
theorem dX8_wayFrom_12 : decode cX8_wayFrom 12 = .ok (.iconst 0, 1) := by decide +kernel
theorem dX8_wayFrom_13 : decode cX8_wayFrom 13 = .ok (.invokevirtual 39, 3) := by decide +kernel
theorem dX8_wayFrom_16 : decode cX8_wayFrom 16 = .ok (.ireturn, 1) := by decide +kernel
theorem dX8_wayFrom_17 : decode cX8_wayFrom 17 = .ok (.ldc 32, 2) := by decide +kernel
theorem dX8_wayFrom_19 : decode cX8_wayFrom 19 = .ok (.istore 4, 2) := by decide +kernel
theorem dX8_wayFrom_21 : decode cX8_wayFrom 21 = .ok (.iconst 1, 1) := by decide +kernel
theorem dX8_wayFrom_22 : decode cX8_wayFrom 22 = .ok (.istore 5, 2) := by decide +kernel
theorem dX8_wayFrom_24 : decode cX8_wayFrom 24 = .ok (.iload 5, 2) := by decide +kernel
theorem dX8_wayFrom_26 : decode cX8_wayFrom 26 = .ok (.aload_n 0, 1) := by decide +kernel
theorem dX8_wayFrom_27 : decode cX8_wayFrom 27 = .ok (.getfield 18, 3) := by decide +kernel
theorem dX8_wayFrom_30 : decode cX8_wayFrom 30 = .ok (.if_icmp .ge 55, 3) := by decide +kernel
theorem dX8_wayFrom_33 : decode cX8_wayFrom 33 = .ok (.iload_n 2, 1) := by decide +kernel
theorem dX8_wayFrom_34 : decode cX8_wayFrom 34 = .ok (.iload 5, 2) := by decide +kernel
theorem dX8_wayFrom_36 : decode cX8_wayFrom 36 = .ok (.ishr, 1) := by decide +kernel
theorem dX8_wayFrom_37 : decode cX8_wayFrom 37 = .ok (.iconst 1, 1) := by decide +kernel
theorem dX8_wayFrom_38 : decode cX8_wayFrom 38 = .ok (.iand, 1) := by decide +kernel
theorem dX8_wayFrom_39 : decode cX8_wayFrom 39 = .ok (.iconst 1, 1) := by decide +kernel
theorem dX8_wayFrom_40 : decode cX8_wayFrom 40 = .ok (.if_icmp .ne 39, 3) := by decide +kernel
theorem dX8_wayFrom_43 : decode cX8_wayFrom 43 = .ok (.aload_n 0, 1) := by decide +kernel
theorem dX8_wayFrom_44 : decode cX8_wayFrom 44 = .ok (.iload_n 1, 1) := by decide +kernel
theorem dX8_wayFrom_45 : decode cX8_wayFrom 45 = .ok (.iload 5, 2) := by decide +kernel
theorem dX8_wayFrom_47 : decode cX8_wayFrom 47 = .ok (.invokevirtual 39, 3) := by decide +kernel
theorem dX8_wayFrom_50 : decode cX8_wayFrom 50 = .ok (.aload_n 0, 1) := by decide +kernel
theorem dX8_wayFrom_51 : decode cX8_wayFrom 51 = .ok (.iload 5, 2) := by decide +kernel
theorem dX8_wayFrom_53 : decode cX8_wayFrom 53 = .ok (.iload_n 2, 1) := by decide +kernel
theorem dX8_wayFrom_54 : decode cX8_wayFrom 54 = .ok (.iconst 1, 1) := by decide +kernel
theorem dX8_wayFrom_55 : decode cX8_wayFrom 55 = .ok (.iload 5, 2) := by decide +kernel
theorem dX8_wayFrom_57 : decode cX8_wayFrom 57 = .ok (.ishl, 1) := by decide +kernel
theorem dX8_wayFrom_58 : decode cX8_wayFrom 58 = .ok (.iconst (-1), 1) := by decide +kernel
theorem dX8_wayFrom_59 : decode cX8_wayFrom 59 = .ok (.ixor, 1) := by decide +kernel
theorem dX8_wayFrom_60 : decode cX8_wayFrom 60 = .ok (.iand, 1) := by decide +kernel
theorem dX8_wayFrom_61 : decode cX8_wayFrom 61 = .ok (.iload_n 3, 1) := by decide +kernel
theorem dX8_wayFrom_62 : decode cX8_wayFrom 62 = .ok (.iconst 1, 1) := by decide +kernel
theorem dX8_wayFrom_63 : decode cX8_wayFrom 63 = .ok (.iadd, 1) := by decide +kernel
theorem dX8_wayFrom_64 : decode cX8_wayFrom 64 = .ok (.invokestatic 43, 3) := by decide +kernel
theorem dX8_wayFrom_67 : decode cX8_wayFrom 67 = .ok (.iadd, 1) := by decide +kernel
theorem dX8_wayFrom_68 : decode cX8_wayFrom 68 = .ok (.istore 6, 2) := by decide +kernel
theorem dX8_wayFrom_70 : decode cX8_wayFrom 70 = .ok (.iload 4, 2) := by decide +kernel
theorem dX8_wayFrom_72 : decode cX8_wayFrom 72 = .ok (.iload 6, 2) := by decide +kernel
theorem dX8_wayFrom_74 : decode cX8_wayFrom 74 = .ok (.invokestatic 53, 3) := by decide +kernel
theorem dX8_wayFrom_77 : decode cX8_wayFrom 77 = .ok (.istore 4, 2) := by decide +kernel
theorem dX8_wayFrom_79 : decode cX8_wayFrom 79 = .ok (.iinc 5 1, 3) := by decide +kernel
theorem dX8_wayFrom_82 : decode cX8_wayFrom 82 = .ok (.goto (-58), 3) := by decide +kernel
theorem dX8_wayFrom_85 : decode cX8_wayFrom 85 = .ok (.iload 4, 2) := by decide +kernel
theorem dX8_wayFrom_87 : decode cX8_wayFrom 87 = .ok (.ireturn, 1) := by decide +kernel
theorem dX9_init_0 : decode cX9_init 0 = .ok (.aload_n 0, 1) := by decide +kernel
theorem dX9_init_1 : decode cX9_init 1 = .ok (.invokespecial 3, 3) := by decide +kernel
theorem dX9_init_4 : decode cX9_init 4 = .ok (.aload_n 0, 1) := by decide +kernel
theorem dX9_init_5 : decode cX9_init 5 = .ok (.bipush 6, 2) := by decide +kernel
theorem dX9_init_7 : decode cX9_init 7 = .ok (.anewarray 9, 3) := by decide +kernel
theorem dX9_init_10 : decode cX9_init 10 = .ok (.putfield 11, 3) := by decide +kernel
theorem dX9_init_13 : decode cX9_init 13 = .ok (.aload_n 0, 1) := by decide +kernel
theorem dX9_init_14 : decode cX9_init 14 = .ok (.iconst 1, 1) := by decide +kernel
theorem dX9_init_15 : decode cX9_init 15 = .ok (.putfield 17, 3) := by decide +kernel
theorem dX9_init_18 : decode cX9_init 18 = .ok (.iconst 0, 1) := by decide +kernel
theorem dX9_init_19 : decode cX9_init 19 = .ok (.istore_n 1, 1) := by decide +kernel
theorem dX9_init_20 : decode cX9_init 20 = .ok (.iload_n 1, 1) := by decide +kernel
theorem dX9_init_21 : decode cX9_init 21 = .ok (.bipush 6, 2) := by decide +kernel
theorem dX9_init_23 : decode cX9_init 23 = .ok (.if_icmp .ge 22, 3) := by decide +kernel
theorem dX9_init_26 : decode cX9_init 26 = .ok (.aload_n 0, 1) := by decide +kernel
theorem dX9_init_27 : decode cX9_init 27 = .ok (.getfield 11, 3) := by decide +kernel
theorem dX9_init_30 : decode cX9_init 30 = .ok (.iload_n 1, 1) := by decide +kernel
theorem dX9_init_31 : decode cX9_init 31 = .ok (.new 9, 3) := by decide +kernel
theorem dX9_init_34 : decode cX9_init 34 = .ok (.dup, 1) := by decide +kernel
theorem dX9_init_35 : decode cX9_init 35 = .ok (.invokespecial 21, 3) := by decide +kernel
theorem dX9_init_38 : decode cX9_init 38 = .ok (.aastore, 1) := by decide +kernel
theorem dX9_init_39 : decode cX9_init 39 = .ok (.iinc 1 1, 3) := by decide +kernel
theorem dX9_init_42 : decode cX9_init 42 = .ok (.goto (-22), 3) := by decide +kernel
theorem dX9_init_45 : decode cX9_init 45 = .ok (.return_, 1) := by decide +kernel
theorem dX9_takeFrom_0 : decode cX9_takeFrom 0 = .ok (.aload_n 0, 1) := by decide +kernel
theorem dX9_takeFrom_1 : decode cX9_takeFrom 1 = .ok (.aload_n 1, 1) := by decide +kernel
theorem dX9_takeFrom_2 : decode cX9_takeFrom 2 = .ok (.getfield 22, 3) := by decide +kernel
theorem dX9_takeFrom_5 : decode cX9_takeFrom 5 = .ok (.putfield 22, 3) := by decide +kernel
theorem dX9_takeFrom_8 : decode cX9_takeFrom 8 = .ok (.aload_n 0, 1) := by decide +kernel
theorem dX9_takeFrom_9 : decode cX9_takeFrom 9 = .ok (.aload_n 1, 1) := by decide +kernel
theorem dX9_takeFrom_10 : decode cX9_takeFrom 10 = .ok (.getfield 25, 3) := by decide +kernel
theorem dX9_takeFrom_13 : decode cX9_takeFrom 13 = .ok (.putfield 25, 3) := by decide +kernel
theorem dX9_takeFrom_16 : decode cX9_takeFrom 16 = .ok (.aload_n 0, 1) := by decide +kernel
theorem dX9_takeFrom_17 : decode cX9_takeFrom 17 = .ok (.aload_n 1, 1) := by decide +kernel
theorem dX9_takeFrom_18 : decode cX9_takeFrom 18 = .ok (.getfield 28, 3) := by decide +kernel
theorem dX9_takeFrom_21 : decode cX9_takeFrom 21 = .ok (.putfield 28, 3) := by decide +kernel
theorem dX9_takeFrom_24 : decode cX9_takeFrom 24 = .ok (.aload_n 0, 1) := by decide +kernel
theorem dX9_takeFrom_25 : decode cX9_takeFrom 25 = .ok (.aload_n 1, 1) := by decide +kernel
theorem dX9_takeFrom_26 : decode cX9_takeFrom 26 = .ok (.getfield 31, 3) := by decide +kernel
theorem dX9_takeFrom_29 : decode cX9_takeFrom 29 = .ok (.putfield 31, 3) := by decide +kernel
theorem dX9_takeFrom_32 : decode cX9_takeFrom 32 = .ok (.aload_n 0, 1) := by decide +kernel
theorem dX9_takeFrom_33 : decode cX9_takeFrom 33 = .ok (.aload_n 1, 1) := by decide +kernel
theorem dX9_takeFrom_34 : decode cX9_takeFrom 34 = .ok (.getfield 34, 3) := by decide +kernel
theorem dX9_takeFrom_37 : decode cX9_takeFrom 37 = .ok (.putfield 34, 3) := by decide +kernel
theorem dX9_takeFrom_40 : decode cX9_takeFrom 40 = .ok (.aload_n 0, 1) := by decide +kernel
theorem dX9_takeFrom_41 : decode cX9_takeFrom 41 = .ok (.aload_n 1, 1) := by decide +kernel
theorem dX9_takeFrom_42 : decode cX9_takeFrom 42 = .ok (.getfield 17, 3) := by decide +kernel
theorem dX9_takeFrom_45 : decode cX9_takeFrom 45 = .ok (.putfield 17, 3) := by decide +kernel
theorem dX9_takeFrom_48 : decode cX9_takeFrom 48 = .ok (.iconst 0, 1) := by decide +kernel
theorem dX9_takeFrom_49 : decode cX9_takeFrom 49 = .ok (.istore_n 2, 1) := by decide +kernel
theorem dX9_takeFrom_50 : decode cX9_takeFrom 50 = .ok (.iload_n 2, 1) := by decide +kernel
theorem dX9_takeFrom_51 : decode cX9_takeFrom 51 = .ok (.bipush 6, 2) := by decide +kernel
theorem dX9_takeFrom_53 : decode cX9_takeFrom 53 = .ok (.if_icmp .ge 24, 3) := by decide +kernel
end
section
theorem dX9_takeFrom_56 : decode cX9_takeFrom 56 = .ok (.aload_n 0, 1) := by decide +kernel
theorem dX9_takeFrom_57 : decode cX9_takeFrom 57 = .ok (.getfield 11, 3) := by decide +kernel
theorem dX9_takeFrom_60 : decode cX9_takeFrom 60 = .ok (.iload_n 2, 1) := by decide +kernel
theorem dX9_takeFrom_61 : decode cX9_takeFrom 61 = .ok (.aaload, 1) := by decide +kernel
theorem dX9_takeFrom_62 : decode cX9_takeFrom 62 = .ok (.aload_n 1, 1) := by decide +kernel
theorem dX9_takeFrom_63 : decode cX9_takeFrom 63 = .ok (.getfield 11, 3) := by decide +kernel
theorem dX9_takeFrom_66 : decode cX9_takeFrom 66 = .ok (.iload_n 2, 1) := by decide +kernel
theorem dX9_takeFrom_67 : decode cX9_takeFrom 67 = .ok (.aaload, 1) := by decide +kernel
theorem dX9_takeFrom_68 : decode cX9_takeFrom 68 = .ok (.invokevirtual 37, 3) := by decide +kernel
theorem dX9_takeFrom_71 : decode cX9_takeFrom 71 = .ok (.iinc 2 1, 3) := by decide +kernel
theorem dX9_takeFrom_74 : decode cX9_takeFrom 74 = .ok (.goto (-24), 3) := by decide +kernel
theorem dX9_takeFrom_77 : decode cX9_takeFrom 77 = .ok (.return_, 1) := by decide +kernel
theorem dX9_begin_0 : decode cX9_begin 0 = .ok (.aload_n 0, 1) := by decide +kernel
theorem dX9_begin_1 : decode cX9_begin 1 = .ok (.iconst 0, 1) := by decide +kernel
theorem dX9_begin_2 : decode cX9_begin 2 = .ok (.putfield 22, 3) := by decide +kernel
theorem dX9_begin_5 : decode cX9_begin 5 = .ok (.aload_n 0, 1) := by decide +kernel
theorem dX9_begin_6 : decode cX9_begin 6 = .ok (.iload_n 1, 1) := by decide +kernel
theorem dX9_begin_7 : decode cX9_begin 7 = .ok (.putfield 25, 3) := by decide +kernel
theorem dX9_begin_10 : decode cX9_begin 10 = .ok (.aload_n 0, 1) := by decide +kernel
theorem dX9_begin_11 : decode cX9_begin 11 = .ok (.iload_n 2, 1) := by decide +kernel
theorem dX9_begin_12 : decode cX9_begin 12 = .ok (.putfield 28, 3) := by decide +kernel
theorem dX9_begin_15 : decode cX9_begin 15 = .ok (.aload_n 0, 1) := by decide +kernel
theorem dX9_begin_16 : decode cX9_begin 16 = .ok (.iconst 0, 1) := by decide +kernel
theorem dX9_begin_17 : decode cX9_begin 17 = .ok (.putfield 31, 3) := by decide +kernel
theorem dX9_begin_20 : decode cX9_begin 20 = .ok (.aload_n 0, 1) := by decide +kernel
theorem dX9_begin_21 : decode cX9_begin 21 = .ok (.iconst 0, 1) := by decide +kernel
theorem dX9_begin_22 : decode cX9_begin 22 = .ok (.putfield 34, 3) := by decide +kernel
theorem dX9_begin_25 : decode cX9_begin 25 = .ok (.return_, 1) := by decide +kernel
theorem dX9_stands_0 : decode cX9_stands 0 = .ok (.aload_n 0, 1) := by decide +kernel
theorem dX9_stands_1 : decode cX9_stands 1 = .ok (.getfield 22, 3) := by decide +kernel
theorem dX9_stands_4 : decode cX9_stands 4 = .ok (.ifCond .le 7, 3) := by decide +kernel
theorem dX9_stands_7 : decode cX9_stands 7 = .ok (.iconst 1, 1) := by decide +kernel
theorem dX9_stands_8 : decode cX9_stands 8 = .ok (.goto 4, 3) := by decide +kernel
theorem dX9_stands_11 : decode cX9_stands 11 = .ok (.iconst 0, 1) := by decide +kernel
theorem dX9_stands_12 : decode cX9_stands 12 = .ok (.ireturn, 1) := by decide +kernel
theorem dX9_has_0 : decode cX9_has 0 = .ok (.iload_n 1, 1) := by decide +kernel
theorem dX9_has_1 : decode cX9_has 1 = .ok (.ifCond .lt 21, 3) := by decide +kernel
theorem dX9_has_4 : decode cX9_has 4 = .ok (.iload_n 1, 1) := by decide +kernel
theorem dX9_has_5 : decode cX9_has 5 = .ok (.aload_n 0, 1) := by decide +kernel
theorem dX9_has_6 : decode cX9_has 6 = .ok (.getfield 22, 3) := by decide +kernel
theorem dX9_has_9 : decode cX9_has 9 = .ok (.if_icmp .ge 13, 3) := by decide +kernel
theorem dX9_has_12 : decode cX9_has 12 = .ok (.iload_n 1, 1) := by decide +kernel
theorem dX9_has_13 : decode cX9_has 13 = .ok (.bipush 6, 2) := by decide +kernel
theorem dX9_has_15 : decode cX9_has 15 = .ok (.if_icmp .ge 7, 3) := by decide +kernel
theorem dX9_has_18 : decode cX9_has 18 = .ok (.iconst 1, 1) := by decide +kernel
theorem dX9_has_19 : decode cX9_has 19 = .ok (.goto 4, 3) := by decide +kernel
theorem dX9_has_22 : decode cX9_has 22 = .ok (.iconst 0, 1) := by decide +kernel
theorem dX9_has_23 : decode cX9_has 23 = .ok (.ireturn, 1) := by decide +kernel
theorem dX9_isNight_0 : decode cX9_isNight 0 = .ok (.aload_n 0, 1) := by decide +kernel
theorem dX9_isNight_1 : decode cX9_isNight 1 = .ok (.getfield 31, 3) := by decide +kernel
theorem dX9_isNight_4 : decode cX9_isNight 4 = .ok (.aload_n 0, 1) := by decide +kernel
theorem dX9_isNight_5 : decode cX9_isNight 5 = .ok (.getfield 25, 3) := by decide +kernel
theorem dX9_isNight_8 : decode cX9_isNight 8 = .ok (.invokestatic 41, 3) := by decide +kernel
theorem dX9_isNight_11 : decode cX9_isNight 11 = .ok (.ireturn, 1) := by decide +kernel
theorem dX9_sitting_0 : decode cX9_sitting 0 = .ok (.iconst 0, 1) := by decide +kernel
theorem dX9_sitting_1 : decode cX9_sitting 1 = .ok (.istore_n 1, 1) := by decide +kernel
theorem dX9_sitting_2 : decode cX9_sitting 2 = .ok (.iconst 0, 1) := by decide +kernel
theorem dX9_sitting_3 : decode cX9_sitting 3 = .ok (.istore_n 2, 1) := by decide +kernel
theorem dX9_sitting_4 : decode cX9_sitting 4 = .ok (.iload_n 2, 1) := by decide +kernel
theorem dX9_sitting_5 : decode cX9_sitting 5 = .ok (.aload_n 0, 1) := by decide +kernel
theorem dX9_sitting_6 : decode cX9_sitting 6 = .ok (.getfield 22, 3) := by decide +kernel
theorem dX9_sitting_9 : decode cX9_sitting 9 = .ok (.if_icmp .ge 24, 3) := by decide +kernel
theorem dX9_sitting_12 : decode cX9_sitting 12 = .ok (.aload_n 0, 1) := by decide +kernel
theorem dX9_sitting_13 : decode cX9_sitting 13 = .ok (.getfield 11, 3) := by decide +kernel
theorem dX9_sitting_16 : decode cX9_sitting 16 = .ok (.iload_n 2, 1) := by decide +kernel
theorem dX9_sitting_17 : decode cX9_sitting 17 = .ok (.aaload, 1) := by decide +kernel
theorem dX9_sitting_18 : decode cX9_sitting 18 = .ok (.invokevirtual 45, 3) := by decide +kernel
theorem dX9_sitting_21 : decode cX9_sitting 21 = .ok (.ifCond .eq 6, 3) := by decide +kernel
theorem dX9_sitting_24 : decode cX9_sitting 24 = .ok (.iinc 1 1, 3) := by decide +kernel
theorem dX9_sitting_27 : decode cX9_sitting 27 = .ok (.iinc 2 1, 3) := by decide +kernel
theorem dX9_sitting_30 : decode cX9_sitting 30 = .ok (.goto (-26), 3) := by decide +kernel
theorem dX9_sitting_33 : decode cX9_sitting 33 = .ok (.iload_n 1, 1) := by decide +kernel
theorem dX9_sitting_34 : decode cX9_sitting 34 = .ok (.ireturn, 1) := by decide +kernel
theorem dX9_cloaks_0 : decode cX9_cloaks 0 = .ok (.iconst 0, 1) := by decide +kernel
theorem dX9_cloaks_1 : decode cX9_cloaks 1 = .ok (.istore_n 1, 1) := by decide +kernel
theorem dX9_cloaks_2 : decode cX9_cloaks 2 = .ok (.iconst 0, 1) := by decide +kernel
theorem dX9_cloaks_3 : decode cX9_cloaks 3 = .ok (.istore_n 2, 1) := by decide +kernel
theorem dX9_cloaks_4 : decode cX9_cloaks 4 = .ok (.iload_n 2, 1) := by decide +kernel
theorem dX9_cloaks_5 : decode cX9_cloaks 5 = .ok (.aload_n 0, 1) := by decide +kernel
theorem dX9_cloaks_6 : decode cX9_cloaks 6 = .ok (.getfield 22, 3) := by decide +kernel
theorem dX9_cloaks_9 : decode cX9_cloaks 9 = .ok (.if_icmp .ge 24, 3) := by decide +kernel
theorem dX9_cloaks_12 : decode cX9_cloaks 12 = .ok (.aload_n 0, 1) := by decide +kernel
theorem dX9_cloaks_13 : decode cX9_cloaks 13 = .ok (.getfield 11, 3) := by decide +kernel
theorem dX9_cloaks_16 : decode cX9_cloaks 16 = .ok (.iload_n 2, 1) := by decide +kernel
theorem dX9_cloaks_17 : decode cX9_cloaks 17 = .ok (.aaload, 1) := by decide +kernel
theorem dX9_cloaks_18 : decode cX9_cloaks 18 = .ok (.getfield 49, 3) := by decide +kernel
theorem dX9_cloaks_21 : decode cX9_cloaks 21 = .ok (.ifCond .eq 6, 3) := by decide +kernel
theorem dX9_cloaks_24 : decode cX9_cloaks 24 = .ok (.iinc 1 1, 3) := by decide +kernel
theorem dX9_cloaks_27 : decode cX9_cloaks 27 = .ok (.iinc 2 1, 3) := by decide +kernel
theorem dX9_cloaks_30 : decode cX9_cloaks 30 = .ok (.goto (-26), 3) := by decide +kernel
theorem dX9_cloaks_33 : decode cX9_cloaks 33 = .ok (.iload_n 1, 1) := by decide +kernel
theorem dX9_cloaks_34 : decode cX9_cloaks 34 = .ok (.ireturn, 1) := by decide +kernel
theorem dX9_allCrusts_0 : decode cX9_allCrusts 0 = .ok (.iconst 0, 1) := by decide +kernel
theorem dX9_allCrusts_1 : decode cX9_allCrusts 1 = .ok (.istore_n 1, 1) := by decide +kernel
theorem dX9_allCrusts_2 : decode cX9_allCrusts 2 = .ok (.iconst 0, 1) := by decide +kernel
theorem dX9_allCrusts_3 : decode cX9_allCrusts 3 = .ok (.istore_n 2, 1) := by decide +kernel
theorem dX9_allCrusts_4 : decode cX9_allCrusts 4 = .ok (.iload_n 2, 1) := by decide +kernel
theorem dX9_allCrusts_5 : decode cX9_allCrusts 5 = .ok (.aload_n 0, 1) := by decide +kernel
theorem dX9_allCrusts_6 : decode cX9_allCrusts 6 = .ok (.getfield 22, 3) := by decide +kernel
theorem dX9_allCrusts_9 : decode cX9_allCrusts 9 = .ok (.if_icmp .ge 21, 3) := by decide +kernel
theorem dX9_allCrusts_12 : decode cX9_allCrusts 12 = .ok (.iload_n 1, 1) := by decide +kernel
theorem dX9_allCrusts_13 : decode cX9_allCrusts 13 = .ok (.aload_n 0, 1) := by decide +kernel
theorem dX9_allCrusts_14 : decode cX9_allCrusts 14 = .ok (.getfield 11, 3) := by decide +kernel
theorem dX9_allCrusts_17 : decode cX9_allCrusts 17 = .ok (.iload_n 2, 1) := by decide +kernel
theorem dX9_allCrusts_18 : decode cX9_allCrusts 18 = .ok (.aaload, 1) := by decide +kernel
theorem dX9_allCrusts_19 : decode cX9_allCrusts 19 = .ok (.getfield 53, 3) := by decide +kernel
theorem dX9_allCrusts_22 : decode cX9_allCrusts 22 = .ok (.iadd, 1) := by decide +kernel
theorem dX9_allCrusts_23 : decode cX9_allCrusts 23 = .ok (.istore_n 1, 1) := by decide +kernel
theorem dX9_allCrusts_24 : decode cX9_allCrusts 24 = .ok (.iinc 2 1, 3) := by decide +kernel
theorem dX9_allCrusts_27 : decode cX9_allCrusts 27 = .ok (.goto (-23), 3) := by decide +kernel
theorem dX9_allCrusts_30 : decode cX9_allCrusts 30 = .ok (.iload_n 1, 1) := by decide +kernel
theorem dX9_allCrusts_31 : decode cX9_allCrusts 31 = .ok (.ireturn, 1) := by decide +kernel
theorem dX9_passHour_0 : decode cX9_passHour 0 = .ok (.aload_n 0, 1) := by decide +kernel
theorem dX9_passHour_1 : decode cX9_passHour 1 = .ok (.aload_n 0, 1) := by decide +kernel
theorem dX9_passHour_2 : decode cX9_passHour 2 = .ok (.getfield 17, 3) := by decide +kernel
theorem dX9_passHour_5 : decode cX9_passHour 5 = .ok (.invokestatic 56, 3) := by decide +kernel
theorem dX9_passHour_8 : decode cX9_passHour 8 = .ok (.putfield 17, 3) := by decide +kernel
theorem dX9_passHour_11 : decode cX9_passHour 11 = .ok (.aload_n 0, 1) := by decide +kernel
theorem dX9_passHour_12 : decode cX9_passHour 12 = .ok (.aload_n 0, 1) := by decide +kernel
theorem dX9_passHour_13 : decode cX9_passHour 13 = .ok (.getfield 17, 3) := by decide +kernel
theorem dX9_passHour_16 : decode cX9_passHour 16 = .ok (.iconst 3, 1) := by decide +kernel
theorem dX9_passHour_17 : decode cX9_passHour 17 = .ok (.irem, 1) := by decide +kernel
theorem dX9_passHour_18 : decode cX9_passHour 18 = .ok (.putfield 34, 3) := by decide +kernel
theorem dX9_passHour_21 : decode cX9_passHour 21 = .ok (.aload_n 0, 1) := by decide +kernel
theorem dX9_passHour_22 : decode cX9_passHour 22 = .ok (.invokevirtual 60, 3) := by decide +kernel
theorem dX9_passHour_25 : decode cX9_passHour 25 = .ok (.istore_n 1, 1) := by decide +kernel
theorem dX9_passHour_26 : decode cX9_passHour 26 = .ok (.iconst 0, 1) := by decide +kernel
theorem dX9_passHour_27 : decode cX9_passHour 27 = .ok (.istore_n 2, 1) := by decide +kernel
theorem dX9_passHour_28 : decode cX9_passHour 28 = .ok (.iload_n 2, 1) := by decide +kernel
theorem dX9_passHour_29 : decode cX9_passHour 29 = .ok (.aload_n 0, 1) := by decide +kernel
theorem dX9_passHour_30 : decode cX9_passHour 30 = .ok (.getfield 22, 3) := by decide +kernel
theorem dX9_passHour_33 : decode cX9_passHour 33 = .ok (.if_icmp .ge 27, 3) := by decide +kernel
theorem dX9_passHour_36 : decode cX9_passHour 36 = .ok (.aload_n 0, 1) := by decide +kernel
theorem dX9_passHour_37 : decode cX9_passHour 37 = .ok (.getfield 11, 3) := by decide +kernel
theorem dX9_passHour_40 : decode cX9_passHour 40 = .ok (.iload_n 2, 1) := by decide +kernel
theorem dX9_passHour_41 : decode cX9_passHour 41 = .ok (.aaload, 1) := by decide +kernel
theorem dX9_passHour_42 : decode cX9_passHour 42 = .ok (.aload_n 0, 1) := by decide +kernel
theorem dX9_passHour_43 : decode cX9_passHour 43 = .ok (.getfield 34, 3) := by decide +kernel
theorem dX9_passHour_46 : decode cX9_passHour 46 = .ok (.iload_n 1, 1) := by decide +kernel
theorem dX9_passHour_47 : decode cX9_passHour 47 = .ok (.aload_n 0, 1) := by decide +kernel
theorem dX9_passHour_48 : decode cX9_passHour 48 = .ok (.getfield 31, 3) := by decide +kernel
theorem dX9_passHour_51 : decode cX9_passHour 51 = .ok (.invokevirtual 63, 3) := by decide +kernel
theorem dX9_passHour_54 : decode cX9_passHour 54 = .ok (.iinc 2 1, 3) := by decide +kernel
theorem dX9_passHour_57 : decode cX9_passHour 57 = .ok (.goto (-29), 3) := by decide +kernel
theorem dX9_passHour_60 : decode cX9_passHour 60 = .ok (.aload_n 0, 1) := by decide +kernel
theorem dX9_passHour_61 : decode cX9_passHour 61 = .ok (.dup, 1) := by decide +kernel
theorem dX9_passHour_62 : decode cX9_passHour 62 = .ok (.getfield 31, 3) := by decide +kernel
theorem dX9_passHour_65 : decode cX9_passHour 65 = .ok (.iconst 1, 1) := by decide +kernel
theorem dX9_passHour_66 : decode cX9_passHour 66 = .ok (.iadd, 1) := by decide +kernel
theorem dX9_passHour_67 : decode cX9_passHour 67 = .ok (.putfield 31, 3) := by decide +kernel
theorem dX9_passHour_70 : decode cX9_passHour 70 = .ok (.return_, 1) := by decide +kernel
theorem dX10_init_0 : decode cX10_init 0 = .ok (.aload_n 0, 1) := by decide +kernel
theorem dX10_init_1 : decode cX10_init 1 = .ok (.invokespecial 1, 3) := by decide +kernel
theorem dX10_init_4 : decode cX10_init 4 = .ok (.aload_n 0, 1) := by decide +kernel
theorem dX10_init_5 : decode cX10_init 5 = .ok (.new 7, 3) := by decide +kernel
theorem dX10_init_8 : decode cX10_init 8 = .ok (.dup, 1) := by decide +kernel
theorem dX10_init_9 : decode cX10_init 9 = .ok (.invokespecial 9, 3) := by decide +kernel
theorem dX10_init_12 : decode cX10_init 12 = .ok (.putfield 10, 3) := by decide +kernel
theorem dX10_init_15 : decode cX10_init 15 = .ok (.aload_n 0, 1) := by decide +kernel
theorem dX10_init_16 : decode cX10_init 16 = .ok (.new 16, 3) := by decide +kernel
theorem dX10_init_19 : decode cX10_init 19 = .ok (.dup, 1) := by decide +kernel
theorem dX10_init_20 : decode cX10_init 20 = .ok (.invokespecial 18, 3) := by decide +kernel
theorem dX10_init_23 : decode cX10_init 23 = .ok (.putfield 19, 3) := by decide +kernel
theorem dX10_init_26 : decode cX10_init 26 = .ok (.aload_n 0, 1) := by decide +kernel
theorem dX10_init_27 : decode cX10_init 27 = .ok (.new 16, 3) := by decide +kernel
theorem dX10_init_30 : decode cX10_init 30 = .ok (.dup, 1) := by decide +kernel
theorem dX10_init_31 : decode cX10_init 31 = .ok (.invokespecial 18, 3) := by decide +kernel
theorem dX10_init_34 : decode cX10_init 34 = .ok (.putfield 23, 3) := by decide +kernel
theorem dX10_init_37 : decode cX10_init 37 = .ok (.aload_n 0, 1) := by decide +kernel
theorem dX10_init_38 : decode cX10_init 38 = .ok (.new 26, 3) := by decide +kernel
theorem dX10_init_41 : decode cX10_init 41 = .ok (.dup, 1) := by decide +kernel
theorem dX10_init_42 : decode cX10_init 42 = .ok (.invokespecial 28, 3) := by decide +kernel
theorem dX10_init_45 : decode cX10_init 45 = .ok (.putfield 29, 3) := by decide +kernel
theorem dX10_init_48 : decode cX10_init 48 = .ok (.aload_n 0, 1) := by decide +kernel
theorem dX10_init_49 : decode cX10_init 49 = .ok (.iconst 2, 1) := by decide +kernel
theorem dX10_init_50 : decode cX10_init 50 = .ok (.anewarray 16, 3) := by decide +kernel
theorem dX10_init_53 : decode cX10_init 53 = .ok (.putfield 33, 3) := by decide +kernel
theorem dX10_init_56 : decode cX10_init 56 = .ok (.iconst 0, 1) := by decide +kernel
theorem dX10_init_57 : decode cX10_init 57 = .ok (.istore_n 1, 1) := by decide +kernel
theorem dX10_init_58 : decode cX10_init 58 = .ok (.iload_n 1, 1) := by decide +kernel
theorem dX10_init_59 : decode cX10_init 59 = .ok (.iconst 2, 1) := by decide +kernel
theorem dX10_init_60 : decode cX10_init 60 = .ok (.if_icmp .ge 22, 3) := by decide +kernel
theorem dX10_init_63 : decode cX10_init 63 = .ok (.aload_n 0, 1) := by decide +kernel
theorem dX10_init_64 : decode cX10_init 64 = .ok (.getfield 33, 3) := by decide +kernel
theorem dX10_init_67 : decode cX10_init 67 = .ok (.iload_n 1, 1) := by decide +kernel
theorem dX10_init_68 : decode cX10_init 68 = .ok (.new 16, 3) := by decide +kernel
theorem dX10_init_71 : decode cX10_init 71 = .ok (.dup, 1) := by decide +kernel
theorem dX10_init_72 : decode cX10_init 72 = .ok (.invokespecial 18, 3) := by decide +kernel
theorem dX10_init_75 : decode cX10_init 75 = .ok (.aastore, 1) := by decide +kernel
theorem dX10_init_76 : decode cX10_init 76 = .ok (.iinc 1 1, 3) := by decide +kernel
theorem dX10_init_79 : decode cX10_init 79 = .ok (.goto (-21), 3) := by decide +kernel
theorem dX10_init_82 : decode cX10_init 82 = .ok (.aload_n 0, 1) := by decide +kernel
theorem dX10_init_83 : decode cX10_init 83 = .ok (.iconst 4, 1) := by decide +kernel
theorem dX10_init_84 : decode cX10_init 84 = .ok (.anewarray 37, 3) := by decide +kernel
theorem dX10_init_87 : decode cX10_init 87 = .ok (.putfield 39, 3) := by decide +kernel
theorem dX10_init_90 : decode cX10_init 90 = .ok (.iconst 0, 1) := by decide +kernel
theorem dX10_init_91 : decode cX10_init 91 = .ok (.istore_n 1, 1) := by decide +kernel
theorem dX10_init_92 : decode cX10_init 92 = .ok (.iload_n 1, 1) := by decide +kernel
theorem dX10_init_93 : decode cX10_init 93 = .ok (.iconst 4, 1) := by decide +kernel
theorem dX10_init_94 : decode cX10_init 94 = .ok (.if_icmp .ge 22, 3) := by decide +kernel
theorem dX10_init_97 : decode cX10_init 97 = .ok (.aload_n 0, 1) := by decide +kernel
theorem dX10_init_98 : decode cX10_init 98 = .ok (.getfield 39, 3) := by decide +kernel
theorem dX10_init_101 : decode cX10_init 101 = .ok (.iload_n 1, 1) := by decide +kernel
theorem dX10_init_102 : decode cX10_init 102 = .ok (.new 37, 3) := by decide +kernel
theorem dX10_init_105 : decode cX10_init 105 = .ok (.dup, 1) := by decide +kernel
theorem dX10_init_106 : decode cX10_init 106 = .ok (.invokespecial 43, 3) := by decide +kernel
theorem dX10_init_109 : decode cX10_init 109 = .ok (.aastore, 1) := by decide +kernel
theorem dX10_init_110 : decode cX10_init 110 = .ok (.iinc 1 1, 3) := by decide +kernel
theorem dX10_init_113 : decode cX10_init 113 = .ok (.goto (-21), 3) := by decide +kernel
theorem dX10_init_116 : decode cX10_init 116 = .ok (.aload_n 0, 1) := by decide +kernel
theorem dX10_init_117 : decode cX10_init 117 = .ok (.new 44, 3) := by decide +kernel
theorem dX10_init_120 : decode cX10_init 120 = .ok (.dup, 1) := by decide +kernel
theorem dX10_init_121 : decode cX10_init 121 = .ok (.invokespecial 46, 3) := by decide +kernel
theorem dX10_init_124 : decode cX10_init 124 = .ok (.putfield 47, 3) := by decide +kernel
theorem dX10_init_127 : decode cX10_init 127 = .ok (.aload_n 0, 1) := by decide +kernel
theorem dX10_init_128 : decode cX10_init 128 = .ok (.new 51, 3) := by decide +kernel
theorem dX10_init_131 : decode cX10_init 131 = .ok (.dup, 1) := by decide +kernel
theorem dX10_init_132 : decode cX10_init 132 = .ok (.invokespecial 53, 3) := by decide +kernel
theorem dX10_init_135 : decode cX10_init 135 = .ok (.putfield 54, 3) := by decide +kernel
theorem dX10_init_138 : decode cX10_init 138 = .ok (.aload_n 0, 1) := by decide +kernel
theorem dX10_init_139 : decode cX10_init 139 = .ok (.new 58, 3) := by decide +kernel
theorem dX10_init_142 : decode cX10_init 142 = .ok (.dup, 1) := by decide +kernel
theorem dX10_init_143 : decode cX10_init 143 = .ok (.invokespecial 60, 3) := by decide +kernel
theorem dX10_init_146 : decode cX10_init 146 = .ok (.putfield 61, 3) := by decide +kernel
theorem dX10_init_149 : decode cX10_init 149 = .ok (.aload_n 0, 1) := by decide +kernel
theorem dX10_init_150 : decode cX10_init 150 = .ok (.new 65, 3) := by decide +kernel
theorem dX10_init_153 : decode cX10_init 153 = .ok (.dup, 1) := by decide +kernel
theorem dX10_init_154 : decode cX10_init 154 = .ok (.invokespecial 67, 3) := by decide +kernel
theorem dX10_init_157 : decode cX10_init 157 = .ok (.putfield 68, 3) := by decide +kernel
theorem dX10_init_160 : decode cX10_init 160 = .ok (.aload_n 0, 1) := by decide +kernel
theorem dX10_init_161 : decode cX10_init 161 = .ok (.new 72, 3) := by decide +kernel
theorem dX10_init_164 : decode cX10_init 164 = .ok (.dup, 1) := by decide +kernel
theorem dX10_init_165 : decode cX10_init 165 = .ok (.invokespecial 74, 3) := by decide +kernel
theorem dX10_init_168 : decode cX10_init 168 = .ok (.putfield 75, 3) := by decide +kernel
theorem dX10_init_171 : decode cX10_init 171 = .ok (.return_, 1) := by decide +kernel
theorem dX10_feed_0 : decode cX10_feed 0 = .ok (.iload_n 1, 1) := by decide +kernel
theorem dX10_feed_1 : decode cX10_feed 1 = .ok (.iconst 0, 1) := by decide +kernel
theorem dX10_feed_2 : decode cX10_feed 2 = .ok (.sipush 255, 3) := by decide +kernel
theorem dX10_feed_5 : decode cX10_feed 5 = .ok (.invokestatic 79, 3) := by decide +kernel
theorem dX10_feed_8 : decode cX10_feed 8 = .ok (.ifCond .ne 5, 3) := by decide +kernel
theorem dX10_feed_11 : decode cX10_feed 11 = .ok (.iconst (-1), 1) := by decide +kernel
theorem dX10_feed_12 : decode cX10_feed 12 = .ok (.ireturn, 1) := by decide +kernel
theorem dX10_feed_13 : decode cX10_feed 13 = .ok (.aload_n 0, 1) := by decide +kernel
theorem dX10_feed_14 : decode cX10_feed 14 = .ok (.getfield 10, 3) := by decide +kernel
theorem dX10_feed_17 : decode cX10_feed 17 = .ok (.iload_n 1, 1) := by decide +kernel
theorem dX10_feed_18 : decode cX10_feed 18 = .ok (.invokevirtual 83, 3) := by decide +kernel
theorem dX10_feed_21 : decode cX10_feed 21 = .ok (.ifCond .eq 13, 3) := by decide +kernel
theorem dX10_feed_24 : decode cX10_feed 24 = .ok (.aload_n 0, 1) := by decide +kernel
theorem dX10_feed_25 : decode cX10_feed 25 = .ok (.getfield 10, 3) := by decide +kernel
theorem dX10_feed_28 : decode cX10_feed 28 = .ok (.getfield 87, 3) := by decide +kernel
theorem dX10_feed_31 : decode cX10_feed 31 = .ok (.goto 5, 3) := by decide +kernel
theorem dX10_feed_34 : decode cX10_feed 34 = .ok (.bipush (-3), 2) := by decide +kernel
theorem dX10_feed_36 : decode cX10_feed 36 = .ok (.ireturn, 1) := by decide +kernel
theorem dX10_wall_0 : decode cX10_wall 0 = .ok (.aload_n 0, 1) := by decide +kernel
theorem dX10_wall_1 : decode cX10_wall 1 = .ok (.getfield 10, 3) := by decide +kernel
theorem dX10_wall_4 : decode cX10_wall 4 = .ok (.aload_n 0, 1) := by decide +kernel
theorem dX10_wall_5 : decode cX10_wall 5 = .ok (.getfield 23, 3) := by decide +kernel
theorem dX10_wall_8 : decode cX10_wall 8 = .ok (.invokevirtual 91, 3) := by decide +kernel
theorem dX10_wall_11 : decode cX10_wall 11 = .ok (.istore_n 1, 1) := by decide +kernel
theorem dX10_wall_12 : decode cX10_wall 12 = .ok (.aload_n 0, 1) := by decide +kernel
theorem dX10_wall_13 : decode cX10_wall 13 = .ok (.getfield 10, 3) := by decide +kernel
theorem dX10_wall_16 : decode cX10_wall 16 = .ok (.iconst 0, 1) := by decide +kernel
theorem dX10_wall_17 : decode cX10_wall 17 = .ok (.putfield 87, 3) := by decide +kernel
theorem dX10_wall_20 : decode cX10_wall 20 = .ok (.iload_n 1, 1) := by decide +kernel
theorem dX10_wall_21 : decode cX10_wall 21 = .ok (.iconst (-1), 1) := by decide +kernel
theorem dX10_wall_22 : decode cX10_wall 22 = .ok (.if_icmp .eq 8, 3) := by decide +kernel
theorem dX10_wall_25 : decode cX10_wall 25 = .ok (.bipush (-100), 2) := by decide +kernel
theorem dX10_wall_27 : decode cX10_wall 27 = .ok (.iload_n 1, 1) := by decide +kernel
theorem dX10_wall_28 : decode cX10_wall 28 = .ok (.isub, 1) := by decide +kernel
theorem dX10_wall_29 : decode cX10_wall 29 = .ok (.ireturn, 1) := by decide +kernel
theorem dX10_wall_30 : decode cX10_wall 30 = .ok (.aload_n 0, 1) := by decide +kernel
theorem dX10_wall_31 : decode cX10_wall 31 = .ok (.getfield 23, 3) := by decide +kernel
theorem dX10_wall_34 : decode cX10_wall 34 = .ok (.aload_n 0, 1) := by decide +kernel
theorem dX10_wall_35 : decode cX10_wall 35 = .ok (.getfield 19, 3) := by decide +kernel
theorem dX10_wall_38 : decode cX10_wall 38 = .ok (.getfield 95, 3) := by decide +kernel
theorem dX10_wall_41 : decode cX10_wall 41 = .ok (.putfield 95, 3) := by decide +kernel
theorem dX10_wall_44 : decode cX10_wall 44 = .ok (.aload_n 0, 1) := by decide +kernel
theorem dX10_wall_45 : decode cX10_wall 45 = .ok (.getfield 19, 3) := by decide +kernel
theorem dX10_wall_48 : decode cX10_wall 48 = .ok (.aload_n 0, 1) := by decide +kernel
theorem dX10_wall_49 : decode cX10_wall 49 = .ok (.getfield 23, 3) := by decide +kernel
theorem dX10_wall_52 : decode cX10_wall 52 = .ok (.invokevirtual 98, 3) := by decide +kernel
theorem dX10_wall_55 : decode cX10_wall 55 = .ok (.aload_n 0, 1) := by decide +kernel
theorem dX10_wall_56 : decode cX10_wall 56 = .ok (.getfield 29, 3) := by decide +kernel
theorem dX10_wall_59 : decode cX10_wall 59 = .ok (.invokevirtual 102, 3) := by decide +kernel
theorem dX10_wall_62 : decode cX10_wall 62 = .ok (.aload_n 0, 1) := by decide +kernel
theorem dX10_wall_63 : decode cX10_wall 63 = .ok (.getfield 19, 3) := by decide +kernel
theorem dX10_wall_66 : decode cX10_wall 66 = .ok (.getfield 105, 3) := by decide +kernel
theorem dX10_wall_69 : decode cX10_wall 69 = .ok (.ireturn, 1) := by decide +kernel
theorem dX10_sitter_0 : decode cX10_sitter 0 = .ok (.aload_n 0, 1) := by decide +kernel
theorem dX10_sitter_1 : decode cX10_sitter 1 = .ok (.getfield 19, 3) := by decide +kernel
theorem dX10_sitter_4 : decode cX10_sitter 4 = .ok (.iload_n 1, 1) := by decide +kernel
theorem dX10_sitter_5 : decode cX10_sitter 5 = .ok (.invokevirtual 108, 3) := by decide +kernel
theorem dX10_sitter_8 : decode cX10_sitter 8 = .ok (.ifCond .ne 5, 3) := by decide +kernel
theorem dX10_sitter_11 : decode cX10_sitter 11 = .ok (.iconst (-1), 1) := by decide +kernel
theorem dX10_sitter_12 : decode cX10_sitter 12 = .ok (.ireturn, 1) := by decide +kernel
theorem dX10_sitter_13 : decode cX10_sitter 13 = .ok (.aload_n 0, 1) := by decide +kernel
theorem dX10_sitter_14 : decode cX10_sitter 14 = .ok (.getfield 19, 3) := by decide +kernel
theorem dX10_sitter_17 : decode cX10_sitter 17 = .ok (.getfield 111, 3) := by decide +kernel
theorem dX10_sitter_20 : decode cX10_sitter 20 = .ok (.iload_n 1, 1) := by decide +kernel
theorem dX10_sitter_21 : decode cX10_sitter 21 = .ok (.aaload, 1) := by decide +kernel
theorem dX10_sitter_22 : decode cX10_sitter 22 = .ok (.astore_n 3, 1) := by decide +kernel
theorem dX10_sitter_23 : decode cX10_sitter 23 = .ok (.iload_n 2, 1) := by decide +kernel
theorem dX10_sitter_24 : decode cX10_sitter 24 = .ok (.tableswitch 123 0 10 #[60, 65, 70, 75, 80, 85, 90, 95, 100, 105, 118], 60) := by decide +kernel
theorem dX10_sitter_84 : decode cX10_sitter 84 = .ok (.aload_n 3, 1) := by decide +kernel
theorem dX10_sitter_85 : decode cX10_sitter 85 = .ok (.getfield 115, 3) := by decide +kernel
theorem dX10_sitter_88 : decode cX10_sitter 88 = .ok (.ireturn, 1) := by decide +kernel
theorem dX10_sitter_89 : decode cX10_sitter 89 = .ok (.aload_n 3, 1) := by decide +kernel
theorem dX10_sitter_90 : decode cX10_sitter 90 = .ok (.getfield 120, 3) := by decide +kernel
theorem dX10_sitter_93 : decode cX10_sitter 93 = .ok (.ireturn, 1) := by decide +kernel
theorem dX10_sitter_94 : decode cX10_sitter 94 = .ok (.aload_n 3, 1) := by decide +kernel
theorem dX10_sitter_95 : decode cX10_sitter 95 = .ok (.getfield 123, 3) := by decide +kernel
theorem dX10_sitter_98 : decode cX10_sitter 98 = .ok (.ireturn, 1) := by decide +kernel
theorem dX10_sitter_99 : decode cX10_sitter 99 = .ok (.aload_n 3, 1) := by decide +kernel
theorem dX10_sitter_100 : decode cX10_sitter 100 = .ok (.getfield 126, 3) := by decide +kernel
theorem dX10_sitter_103 : decode cX10_sitter 103 = .ok (.ireturn, 1) := by decide +kernel
theorem dX10_sitter_104 : decode cX10_sitter 104 = .ok (.aload_n 3, 1) := by decide +kernel
theorem dX10_sitter_105 : decode cX10_sitter 105 = .ok (.getfield 129, 3) := by decide +kernel
theorem dX10_sitter_108 : decode cX10_sitter 108 = .ok (.ireturn, 1) := by decide +kernel
theorem dX10_sitter_109 : decode cX10_sitter 109 = .ok (.aload_n 3, 1) := by decide +kernel
theorem dX10_sitter_110 : decode cX10_sitter 110 = .ok (.getfield 132, 3) := by decide +kernel
theorem dX10_sitter_113 : decode cX10_sitter 113 = .ok (.ireturn, 1) := by decide +kernel
theorem dX10_sitter_114 : decode cX10_sitter 114 = .ok (.aload_n 3, 1) := by decide +kernel
theorem dX10_sitter_115 : decode cX10_sitter 115 = .ok (.getfield 135, 3) := by decide +kernel
theorem dX10_sitter_118 : decode cX10_sitter 118 = .ok (.ireturn, 1) := by decide +kernel
theorem dX10_sitter_119 : decode cX10_sitter 119 = .ok (.aload_n 3, 1) := by decide +kernel
theorem dX10_sitter_120 : decode cX10_sitter 120 = .ok (.getfield 138, 3) := by decide +kernel
theorem dX10_sitter_123 : decode cX10_sitter 123 = .ok (.ireturn, 1) := by decide +kernel
theorem dX10_sitter_124 : decode cX10_sitter 124 = .ok (.aload_n 3, 1) := by decide +kernel
theorem dX10_sitter_125 : decode cX10_sitter 125 = .ok (.getfield 141, 3) := by decide +kernel
theorem dX10_sitter_128 : decode cX10_sitter 128 = .ok (.ireturn, 1) := by decide +kernel
theorem dX10_sitter_129 : decode cX10_sitter 129 = .ok (.aload_n 3, 1) := by decide +kernel
theorem dX10_sitter_130 : decode cX10_sitter 130 = .ok (.getfield 144, 3) := by decide +kernel
theorem dX10_sitter_133 : decode cX10_sitter 133 = .ok (.ifCond .eq 7, 3) := by decide +kernel
theorem dX10_sitter_136 : decode cX10_sitter 136 = .ok (.iconst 1, 1) := by decide +kernel
theorem dX10_sitter_137 : decode cX10_sitter 137 = .ok (.goto 4, 3) := by decide +kernel
theorem dX10_sitter_140 : decode cX10_sitter 140 = .ok (.iconst 0, 1) := by decide +kernel
theorem dX10_sitter_141 : decode cX10_sitter 141 = .ok (.ireturn, 1) := by decide +kernel
theorem dX10_sitter_142 : decode cX10_sitter 142 = .ok (.aload_n 3, 1) := by decide +kernel
theorem dX10_sitter_143 : decode cX10_sitter 143 = .ok (.getfield 148, 3) := by decide +kernel
theorem dX10_sitter_146 : decode cX10_sitter 146 = .ok (.ireturn, 1) := by decide +kernel
theorem dX10_sitter_147 : decode cX10_sitter 147 = .ok (.iconst (-1), 1) := by decide +kernel
theorem dX10_sitter_148 : decode cX10_sitter 148 = .ok (.ireturn, 1) := by decide +kernel
theorem dX10_growth_0 : decode cX10_growth 0 = .ok (.aload_n 0, 1) := by decide +kernel
theorem dX10_growth_1 : decode cX10_growth 1 = .ok (.getfield 19, 3) := by decide +kernel
theorem dX10_growth_4 : decode cX10_growth 4 = .ok (.iload_n 1, 1) := by decide +kernel
theorem dX10_growth_5 : decode cX10_growth 5 = .ok (.invokevirtual 108, 3) := by decide +kernel
theorem dX10_growth_8 : decode cX10_growth 8 = .ok (.ifCond .eq 12, 3) := by decide +kernel
theorem dX10_growth_11 : decode cX10_growth 11 = .ok (.iload_n 2, 1) := by decide +kernel
theorem dX10_growth_12 : decode cX10_growth 12 = .ok (.iconst 0, 1) := by decide +kernel
theorem dX10_growth_13 : decode cX10_growth 13 = .ok (.iconst 2, 1) := by decide +kernel
theorem dX10_growth_14 : decode cX10_growth 14 = .ok (.invokestatic 79, 3) := by decide +kernel
theorem dX10_growth_17 : decode cX10_growth 17 = .ok (.ifCond .ne 5, 3) := by decide +kernel
theorem dX10_growth_20 : decode cX10_growth 20 = .ok (.iconst (-1), 1) := by decide +kernel
theorem dX10_growth_21 : decode cX10_growth 21 = .ok (.ireturn, 1) := by decide +kernel
theorem dX10_growth_22 : decode cX10_growth 22 = .ok (.aload_n 0, 1) := by decide +kernel
theorem dX10_growth_23 : decode cX10_growth 23 = .ok (.getfield 19, 3) := by decide +kernel
theorem dX10_growth_26 : decode cX10_growth 26 = .ok (.getfield 111, 3) := by decide +kernel
theorem dX10_growth_29 : decode cX10_growth 29 = .ok (.iload_n 1, 1) := by decide +kernel
theorem dX10_growth_30 : decode cX10_growth 30 = .ok (.aaload, 1) := by decide +kernel
theorem dX10_growth_31 : decode cX10_growth 31 = .ok (.iload_n 2, 1) := by decide +kernel
theorem dX10_growth_32 : decode cX10_growth 32 = .ok (.aload_n 0, 1) := by decide +kernel
theorem dX10_growth_33 : decode cX10_growth 33 = .ok (.getfield 19, 3) := by decide +kernel
theorem dX10_growth_36 : decode cX10_growth 36 = .ok (.invokevirtual 151, 3) := by decide +kernel
theorem dX10_growth_39 : decode cX10_growth 39 = .ok (.invokevirtual 155, 3) := by decide +kernel
theorem dX10_growth_42 : decode cX10_growth 42 = .ok (.ireturn, 1) := by decide +kernel
theorem dX10_as_0 : decode cX10_as 0 = .ok (.aload_n 0, 1) := by decide +kernel
theorem dX10_as_1 : decode cX10_as 1 = .ok (.getfield 19, 3) := by decide +kernel
theorem dX10_as_4 : decode cX10_as 4 = .ok (.iload_n 1, 1) := by decide +kernel
theorem dX10_as_5 : decode cX10_as 5 = .ok (.invokevirtual 108, 3) := by decide +kernel
theorem dX10_as_8 : decode cX10_as 8 = .ok (.ifCond .eq 12, 3) := by decide +kernel
theorem dX10_as_11 : decode cX10_as 11 = .ok (.iload_n 2, 1) := by decide +kernel
theorem dX10_as_12 : decode cX10_as 12 = .ok (.iconst 0, 1) := by decide +kernel
theorem dX10_as_13 : decode cX10_as 13 = .ok (.iconst 5, 1) := by decide +kernel
theorem dX10_as_14 : decode cX10_as 14 = .ok (.invokestatic 79, 3) := by decide +kernel
theorem dX10_as_17 : decode cX10_as 17 = .ok (.ifCond .ne 5, 3) := by decide +kernel
theorem dX10_as_20 : decode cX10_as 20 = .ok (.iconst (-1), 1) := by decide +kernel
theorem dX10_as_21 : decode cX10_as 21 = .ok (.ireturn, 1) := by decide +kernel
theorem dX10_as_22 : decode cX10_as 22 = .ok (.aload_n 0, 1) := by decide +kernel
theorem dX10_as_23 : decode cX10_as 23 = .ok (.getfield 19, 3) := by decide +kernel
theorem dX10_as_26 : decode cX10_as 26 = .ok (.getfield 111, 3) := by decide +kernel
theorem dX10_as_29 : decode cX10_as 29 = .ok (.iload_n 1, 1) := by decide +kernel
theorem dX10_as_30 : decode cX10_as 30 = .ok (.aaload, 1) := by decide +kernel
theorem dX10_as_31 : decode cX10_as 31 = .ok (.getfield 115, 3) := by decide +kernel
theorem dX10_as_34 : decode cX10_as 34 = .ok (.iload_n 2, 1) := by decide +kernel
theorem dX10_as_35 : decode cX10_as 35 = .ok (.invokestatic 159, 3) := by decide +kernel
theorem dX10_as_38 : decode cX10_as 38 = .ok (.ifCond .eq 7, 3) := by decide +kernel
theorem dX10_as_41 : decode cX10_as 41 = .ok (.iload_n 1, 1) := by decide +kernel
theorem dX10_as_42 : decode cX10_as 42 = .ok (.goto 5, 3) := by decide +kernel
theorem dX10_as_45 : decode cX10_as 45 = .ok (.bipush (-12), 2) := by decide +kernel
theorem dX10_as_47 : decode cX10_as 47 = .ok (.ireturn, 1) := by decide +kernel
theorem dX10_hours_0 : decode cX10_hours 0 = .ok (.iload_n 1, 1) := by decide +kernel
theorem dX10_hours_1 : decode cX10_hours 1 = .ok (.iconst 1, 1) := by decide +kernel
theorem dX10_hours_2 : decode cX10_hours 2 = .ok (.bipush 24, 2) := by decide +kernel
theorem dX10_hours_4 : decode cX10_hours 4 = .ok (.invokestatic 79, 3) := by decide +kernel
theorem dX10_hours_7 : decode cX10_hours 7 = .ok (.ifCond .ne 5, 3) := by decide +kernel
theorem dX10_hours_10 : decode cX10_hours 10 = .ok (.iconst (-1), 1) := by decide +kernel
theorem dX10_hours_11 : decode cX10_hours 11 = .ok (.ireturn, 1) := by decide +kernel
theorem dX10_hours_12 : decode cX10_hours 12 = .ok (.aload_n 0, 1) := by decide +kernel
theorem dX10_hours_13 : decode cX10_hours 13 = .ok (.getfield 19, 3) := by decide +kernel
theorem dX10_hours_16 : decode cX10_hours 16 = .ok (.invokevirtual 163, 3) := by decide +kernel
theorem dX10_hours_19 : decode cX10_hours 19 = .ok (.ifCond .ne 6, 3) := by decide +kernel
theorem dX10_hours_22 : decode cX10_hours 22 = .ok (.bipush (-2), 2) := by decide +kernel
theorem dX10_hours_24 : decode cX10_hours 24 = .ok (.ireturn, 1) := by decide +kernel
theorem dX10_hours_25 : decode cX10_hours 25 = .ok (.aload_n 0, 1) := by decide +kernel
theorem dX10_hours_26 : decode cX10_hours 26 = .ok (.getfield 19, 3) := by decide +kernel
theorem dX10_hours_29 : decode cX10_hours 29 = .ok (.getfield 166, 3) := by decide +kernel
theorem dX10_hours_32 : decode cX10_hours 32 = .ok (.iload_n 1, 1) := by decide +kernel
theorem dX10_hours_33 : decode cX10_hours 33 = .ok (.iadd, 1) := by decide +kernel
theorem dX10_hours_34 : decode cX10_hours 34 = .ok (.sipush 9999, 3) := by decide +kernel
theorem dX10_hours_37 : decode cX10_hours 37 = .ok (.if_icmp .le 6, 3) := by decide +kernel
theorem dX10_hours_40 : decode cX10_hours 40 = .ok (.bipush (-3), 2) := by decide +kernel
theorem dX10_hours_42 : decode cX10_hours 42 = .ok (.ireturn, 1) := by decide +kernel
theorem dX10_hours_43 : decode cX10_hours 43 = .ok (.iconst 0, 1) := by decide +kernel
theorem dX10_hours_44 : decode cX10_hours 44 = .ok (.istore_n 2, 1) := by decide +kernel
theorem dX10_hours_45 : decode cX10_hours 45 = .ok (.iload_n 2, 1) := by decide +kernel
theorem dX10_hours_46 : decode cX10_hours 46 = .ok (.iload_n 1, 1) := by decide +kernel
theorem dX10_hours_47 : decode cX10_hours 47 = .ok (.if_icmp .ge 27, 3) := by decide +kernel
theorem dX10_hours_50 : decode cX10_hours 50 = .ok (.aload_n 0, 1) := by decide +kernel
theorem dX10_hours_51 : decode cX10_hours 51 = .ok (.getfield 29, 3) := by decide +kernel
theorem dX10_hours_54 : decode cX10_hours 54 = .ok (.aload_n 0, 1) := by decide +kernel
theorem dX10_hours_55 : decode cX10_hours 55 = .ok (.getfield 19, 3) := by decide +kernel
theorem dX10_hours_58 : decode cX10_hours 58 = .ok (.invokevirtual 169, 3) := by decide +kernel
theorem dX10_hours_61 : decode cX10_hours 61 = .ok (.aload_n 0, 1) := by decide +kernel
theorem dX10_hours_62 : decode cX10_hours 62 = .ok (.getfield 19, 3) := by decide +kernel
theorem dX10_hours_65 : decode cX10_hours 65 = .ok (.invokevirtual 172, 3) := by decide +kernel
theorem dX10_hours_68 : decode cX10_hours 68 = .ok (.iinc 2 1, 3) := by decide +kernel
theorem dX10_hours_71 : decode cX10_hours 71 = .ok (.goto (-26), 3) := by decide +kernel
theorem dX10_hours_74 : decode cX10_hours 74 = .ok (.aload_n 0, 1) := by decide +kernel
theorem dX10_hours_75 : decode cX10_hours 75 = .ok (.getfield 19, 3) := by decide +kernel
theorem dX10_hours_78 : decode cX10_hours 78 = .ok (.invokevirtual 175, 3) := by decide +kernel
theorem dX10_hours_81 : decode cX10_hours 81 = .ok (.ireturn, 1) := by decide +kernel
theorem dX10_crust_0 : decode cX10_crust 0 = .ok (.aload_n 0, 1) := by decide +kernel
theorem dX10_crust_1 : decode cX10_crust 1 = .ok (.getfield 19, 3) := by decide +kernel
theorem dX10_crust_4 : decode cX10_crust 4 = .ok (.iload_n 1, 1) := by decide +kernel
theorem dX10_crust_5 : decode cX10_crust 5 = .ok (.invokevirtual 108, 3) := by decide +kernel
theorem dX10_crust_8 : decode cX10_crust 8 = .ok (.ifCond .ne 5, 3) := by decide +kernel
theorem dX10_crust_11 : decode cX10_crust 11 = .ok (.iconst (-1), 1) := by decide +kernel
theorem dX10_crust_12 : decode cX10_crust 12 = .ok (.ireturn, 1) := by decide +kernel
theorem dX10_crust_13 : decode cX10_crust 13 = .ok (.aload_n 0, 1) := by decide +kernel
theorem dX10_crust_14 : decode cX10_crust 14 = .ok (.getfield 19, 3) := by decide +kernel
theorem dX10_crust_17 : decode cX10_crust 17 = .ok (.getfield 111, 3) := by decide +kernel
theorem dX10_crust_20 : decode cX10_crust 20 = .ok (.iload_n 1, 1) := by decide +kernel
theorem dX10_crust_21 : decode cX10_crust 21 = .ok (.aaload, 1) := by decide +kernel
theorem dX10_crust_22 : decode cX10_crust 22 = .ok (.astore_n 2, 1) := by decide +kernel
theorem dX10_crust_23 : decode cX10_crust 23 = .ok (.aload_n 2, 1) := by decide +kernel
theorem dX10_crust_24 : decode cX10_crust 24 = .ok (.invokevirtual 179, 3) := by decide +kernel
theorem dX10_crust_27 : decode cX10_crust 27 = .ok (.ifCond .ne 6, 3) := by decide +kernel
theorem dX10_crust_30 : decode cX10_crust 30 = .ok (.bipush (-2), 2) := by decide +kernel
theorem dX10_crust_32 : decode cX10_crust 32 = .ok (.ireturn, 1) := by decide +kernel
theorem dX10_crust_33 : decode cX10_crust 33 = .ok (.aload_n 0, 1) := by decide +kernel
theorem dX10_crust_34 : decode cX10_crust 34 = .ok (.getfield 29, 3) := by decide +kernel
theorem dX10_crust_37 : decode cX10_crust 37 = .ok (.aload_n 0, 1) := by decide +kernel
theorem dX10_crust_38 : decode cX10_crust 38 = .ok (.getfield 19, 3) := by decide +kernel
theorem dX10_crust_41 : decode cX10_crust 41 = .ok (.invokevirtual 169, 3) := by decide +kernel
theorem dX10_crust_44 : decode cX10_crust 44 = .ok (.aload_n 2, 1) := by decide +kernel
theorem dX10_crust_45 : decode cX10_crust 45 = .ok (.invokevirtual 182, 3) := by decide +kernel
theorem dX10_crust_48 : decode cX10_crust 48 = .ok (.aload_n 2, 1) := by decide +kernel
theorem dX10_crust_49 : decode cX10_crust 49 = .ok (.getfield 132, 3) := by decide +kernel
theorem dX10_crust_52 : decode cX10_crust 52 = .ok (.ireturn, 1) := by decide +kernel
theorem dX10_news_0 : decode cX10_news 0 = .ok (.aload_n 0, 1) := by decide +kernel
theorem dX10_news_1 : decode cX10_news 1 = .ok (.getfield 19, 3) := by decide +kernel
theorem dX10_news_4 : decode cX10_news 4 = .ok (.iload_n 1, 1) := by decide +kernel
theorem dX10_news_5 : decode cX10_news 5 = .ok (.invokevirtual 108, 3) := by decide +kernel
theorem dX10_news_8 : decode cX10_news 8 = .ok (.ifCond .eq 12, 3) := by decide +kernel
theorem dX10_news_11 : decode cX10_news 11 = .ok (.iload_n 2, 1) := by decide +kernel
theorem dX10_news_12 : decode cX10_news 12 = .ok (.iconst 0, 1) := by decide +kernel
theorem dX10_news_13 : decode cX10_news 13 = .ok (.iconst 2, 1) := by decide +kernel
theorem dX10_news_14 : decode cX10_news 14 = .ok (.invokestatic 79, 3) := by decide +kernel
theorem dX10_news_17 : decode cX10_news 17 = .ok (.ifCond .ne 5, 3) := by decide +kernel
theorem dX10_news_20 : decode cX10_news 20 = .ok (.iconst (-1), 1) := by decide +kernel
theorem dX10_news_21 : decode cX10_news 21 = .ok (.ireturn, 1) := by decide +kernel
theorem dX10_news_22 : decode cX10_news 22 = .ok (.aload_n 0, 1) := by decide +kernel
theorem dX10_news_23 : decode cX10_news 23 = .ok (.getfield 19, 3) := by decide +kernel
theorem dX10_news_26 : decode cX10_news 26 = .ok (.getfield 111, 3) := by decide +kernel
theorem dX10_news_29 : decode cX10_news 29 = .ok (.iload_n 1, 1) := by decide +kernel
theorem dX10_news_30 : decode cX10_news 30 = .ok (.aaload, 1) := by decide +kernel
theorem dX10_news_31 : decode cX10_news 31 = .ok (.astore_n 3, 1) := by decide +kernel
theorem dX10_news_32 : decode cX10_news 32 = .ok (.aload_n 3, 1) := by decide +kernel
theorem dX10_news_33 : decode cX10_news 33 = .ok (.invokevirtual 185, 3) := by decide +kernel
theorem dX10_news_36 : decode cX10_news 36 = .ok (.ifCond .ne 6, 3) := by decide +kernel
theorem dX10_news_39 : decode cX10_news 39 = .ok (.bipush (-2), 2) := by decide +kernel
theorem dX10_news_41 : decode cX10_news 41 = .ok (.ireturn, 1) := by decide +kernel
theorem dX10_news_42 : decode cX10_news 42 = .ok (.aload_n 0, 1) := by decide +kernel
theorem dX10_news_43 : decode cX10_news 43 = .ok (.getfield 29, 3) := by decide +kernel
theorem dX10_news_46 : decode cX10_news 46 = .ok (.aload_n 0, 1) := by decide +kernel
theorem dX10_news_47 : decode cX10_news 47 = .ok (.getfield 19, 3) := by decide +kernel
theorem dX10_news_50 : decode cX10_news 50 = .ok (.invokevirtual 169, 3) := by decide +kernel
theorem dX10_news_53 : decode cX10_news 53 = .ok (.aload_n 3, 1) := by decide +kernel
theorem dX10_news_54 : decode cX10_news 54 = .ok (.getfield 138, 3) := by decide +kernel
theorem dX10_news_57 : decode cX10_news 57 = .ok (.istore 4, 2) := by decide +kernel
theorem dX10_news_59 : decode cX10_news 59 = .ok (.aload_n 3, 1) := by decide +kernel
theorem dX10_news_60 : decode cX10_news 60 = .ok (.iload_n 2, 1) := by decide +kernel
theorem dX10_news_61 : decode cX10_news 61 = .ok (.putfield 138, 3) := by decide +kernel
theorem dX10_news_64 : decode cX10_news 64 = .ok (.iload 4, 2) := by decide +kernel
theorem dX10_news_66 : decode cX10_news 66 = .ok (.ireturn, 1) := by decide +kernel
theorem dX10_praise_0 : decode cX10_praise 0 = .ok (.aload_n 0, 1) := by decide +kernel
theorem dX10_praise_1 : decode cX10_praise 1 = .ok (.getfield 19, 3) := by decide +kernel
theorem dX10_praise_4 : decode cX10_praise 4 = .ok (.iload_n 1, 1) := by decide +kernel
theorem dX10_praise_5 : decode cX10_praise 5 = .ok (.invokevirtual 108, 3) := by decide +kernel
theorem dX10_praise_8 : decode cX10_praise 8 = .ok (.ifCond .ne 5, 3) := by decide +kernel
theorem dX10_praise_11 : decode cX10_praise 11 = .ok (.iconst (-1), 1) := by decide +kernel
theorem dX10_praise_12 : decode cX10_praise 12 = .ok (.ireturn, 1) := by decide +kernel
theorem dX10_praise_13 : decode cX10_praise 13 = .ok (.aload_n 0, 1) := by decide +kernel
theorem dX10_praise_14 : decode cX10_praise 14 = .ok (.getfield 19, 3) := by decide +kernel
theorem dX10_praise_17 : decode cX10_praise 17 = .ok (.getfield 111, 3) := by decide +kernel
theorem dX10_praise_20 : decode cX10_praise 20 = .ok (.iload_n 1, 1) := by decide +kernel
theorem dX10_praise_21 : decode cX10_praise 21 = .ok (.aaload, 1) := by decide +kernel
theorem dX10_praise_22 : decode cX10_praise 22 = .ok (.astore_n 2, 1) := by decide +kernel
theorem dX10_praise_23 : decode cX10_praise 23 = .ok (.aload_n 2, 1) := by decide +kernel
theorem dX10_praise_24 : decode cX10_praise 24 = .ok (.invokevirtual 185, 3) := by decide +kernel
theorem dX10_praise_27 : decode cX10_praise 27 = .ok (.ifCond .eq 12, 3) := by decide +kernel
theorem dX10_praise_30 : decode cX10_praise 30 = .ok (.aload_n 2, 1) := by decide +kernel
theorem dX10_praise_31 : decode cX10_praise 31 = .ok (.getfield 141, 3) := by decide +kernel
theorem dX10_praise_34 : decode cX10_praise 34 = .ok (.bipush 9, 2) := by decide +kernel
theorem dX10_praise_36 : decode cX10_praise 36 = .ok (.if_icmp .lt 6, 3) := by decide +kernel
theorem dX10_praise_39 : decode cX10_praise 39 = .ok (.bipush (-2), 2) := by decide +kernel
theorem dX10_praise_41 : decode cX10_praise 41 = .ok (.ireturn, 1) := by decide +kernel
theorem dX10_praise_42 : decode cX10_praise 42 = .ok (.aload_n 0, 1) := by decide +kernel
theorem dX10_praise_43 : decode cX10_praise 43 = .ok (.getfield 29, 3) := by decide +kernel
theorem dX10_praise_46 : decode cX10_praise 46 = .ok (.aload_n 0, 1) := by decide +kernel
theorem dX10_praise_47 : decode cX10_praise 47 = .ok (.getfield 19, 3) := by decide +kernel
theorem dX10_praise_50 : decode cX10_praise 50 = .ok (.invokevirtual 169, 3) := by decide +kernel
theorem dX10_praise_53 : decode cX10_praise 53 = .ok (.aload_n 2, 1) := by decide +kernel
theorem dX10_praise_54 : decode cX10_praise 54 = .ok (.dup, 1) := by decide +kernel
theorem dX10_praise_55 : decode cX10_praise 55 = .ok (.getfield 141, 3) := by decide +kernel
theorem dX10_praise_58 : decode cX10_praise 58 = .ok (.iconst 1, 1) := by decide +kernel
theorem dX10_praise_59 : decode cX10_praise 59 = .ok (.iadd, 1) := by decide +kernel
theorem dX10_praise_60 : decode cX10_praise 60 = .ok (.putfield 141, 3) := by decide +kernel
theorem dX10_praise_63 : decode cX10_praise 63 = .ok (.aload_n 2, 1) := by decide +kernel
theorem dX10_praise_64 : decode cX10_praise 64 = .ok (.getfield 141, 3) := by decide +kernel
theorem dX10_praise_67 : decode cX10_praise 67 = .ok (.ireturn, 1) := by decide +kernel
theorem dX10_cloak_0 : decode cX10_cloak 0 = .ok (.aload_n 0, 1) := by decide +kernel
theorem dX10_cloak_1 : decode cX10_cloak 1 = .ok (.getfield 19, 3) := by decide +kernel
theorem dX10_cloak_4 : decode cX10_cloak 4 = .ok (.iload_n 1, 1) := by decide +kernel
theorem dX10_cloak_5 : decode cX10_cloak 5 = .ok (.invokevirtual 108, 3) := by decide +kernel
theorem dX10_cloak_8 : decode cX10_cloak 8 = .ok (.ifCond .eq 12, 3) := by decide +kernel
theorem dX10_cloak_11 : decode cX10_cloak 11 = .ok (.iload_n 2, 1) := by decide +kernel
theorem dX10_cloak_12 : decode cX10_cloak 12 = .ok (.iconst 0, 1) := by decide +kernel
theorem dX10_cloak_13 : decode cX10_cloak 13 = .ok (.iconst 1, 1) := by decide +kernel
theorem dX10_cloak_14 : decode cX10_cloak 14 = .ok (.invokestatic 79, 3) := by decide +kernel
theorem dX10_cloak_17 : decode cX10_cloak 17 = .ok (.ifCond .ne 5, 3) := by decide +kernel
theorem dX10_cloak_20 : decode cX10_cloak 20 = .ok (.iconst (-1), 1) := by decide +kernel
theorem dX10_cloak_21 : decode cX10_cloak 21 = .ok (.ireturn, 1) := by decide +kernel
theorem dX10_cloak_22 : decode cX10_cloak 22 = .ok (.aload_n 0, 1) := by decide +kernel
theorem dX10_cloak_23 : decode cX10_cloak 23 = .ok (.getfield 19, 3) := by decide +kernel
theorem dX10_cloak_26 : decode cX10_cloak 26 = .ok (.getfield 111, 3) := by decide +kernel
theorem dX10_cloak_29 : decode cX10_cloak 29 = .ok (.iload_n 1, 1) := by decide +kernel
theorem dX10_cloak_30 : decode cX10_cloak 30 = .ok (.aaload, 1) := by decide +kernel
theorem dX10_cloak_31 : decode cX10_cloak 31 = .ok (.astore_n 3, 1) := by decide +kernel
theorem dX10_cloak_32 : decode cX10_cloak 32 = .ok (.iload_n 2, 1) := by decide +kernel
theorem dX10_cloak_33 : decode cX10_cloak 33 = .ok (.iconst 1, 1) := by decide +kernel
theorem dX10_cloak_34 : decode cX10_cloak 34 = .ok (.if_icmp .ne 7, 3) := by decide +kernel
theorem dX10_cloak_37 : decode cX10_cloak 37 = .ok (.iconst 1, 1) := by decide +kernel
theorem dX10_cloak_38 : decode cX10_cloak 38 = .ok (.goto 4, 3) := by decide +kernel
theorem dX10_cloak_41 : decode cX10_cloak 41 = .ok (.iconst 0, 1) := by decide +kernel
theorem dX10_cloak_42 : decode cX10_cloak 42 = .ok (.istore 4, 2) := by decide +kernel
theorem dX10_cloak_44 : decode cX10_cloak 44 = .ok (.aload_n 3, 1) := by decide +kernel
theorem dX10_cloak_45 : decode cX10_cloak 45 = .ok (.invokevirtual 185, 3) := by decide +kernel
theorem dX10_cloak_48 : decode cX10_cloak 48 = .ok (.ifCond .eq 12, 3) := by decide +kernel
theorem dX10_cloak_51 : decode cX10_cloak 51 = .ok (.aload_n 3, 1) := by decide +kernel
theorem dX10_cloak_52 : decode cX10_cloak 52 = .ok (.getfield 144, 3) := by decide +kernel
theorem dX10_cloak_55 : decode cX10_cloak 55 = .ok (.iload 4, 2) := by decide +kernel
theorem dX10_cloak_57 : decode cX10_cloak 57 = .ok (.if_icmp .ne 6, 3) := by decide +kernel
theorem dX10_cloak_60 : decode cX10_cloak 60 = .ok (.bipush (-2), 2) := by decide +kernel
theorem dX10_cloak_62 : decode cX10_cloak 62 = .ok (.ireturn, 1) := by decide +kernel
theorem dX10_cloak_63 : decode cX10_cloak 63 = .ok (.aload_n 0, 1) := by decide +kernel
theorem dX10_cloak_64 : decode cX10_cloak 64 = .ok (.getfield 29, 3) := by decide +kernel
theorem dX10_cloak_67 : decode cX10_cloak 67 = .ok (.aload_n 0, 1) := by decide +kernel
theorem dX10_cloak_68 : decode cX10_cloak 68 = .ok (.getfield 19, 3) := by decide +kernel
theorem dX10_cloak_71 : decode cX10_cloak 71 = .ok (.invokevirtual 169, 3) := by decide +kernel
theorem dX10_cloak_74 : decode cX10_cloak 74 = .ok (.aload_n 3, 1) := by decide +kernel
theorem dX10_cloak_75 : decode cX10_cloak 75 = .ok (.iload 4, 2) := by decide +kernel
theorem dX10_cloak_77 : decode cX10_cloak 77 = .ok (.putfield 144, 3) := by decide +kernel
theorem dX10_cloak_80 : decode cX10_cloak 80 = .ok (.aload_n 0, 1) := by decide +kernel
theorem dX10_cloak_81 : decode cX10_cloak 81 = .ok (.getfield 19, 3) := by decide +kernel
theorem dX10_cloak_84 : decode cX10_cloak 84 = .ok (.invokevirtual 188, 3) := by decide +kernel
theorem dX10_cloak_87 : decode cX10_cloak 87 = .ok (.ireturn, 1) := by decide +kernel
theorem dX10_heir_0 : decode cX10_heir 0 = .ok (.aload_n 0, 1) := by decide +kernel
theorem dX10_heir_1 : decode cX10_heir 1 = .ok (.getfield 19, 3) := by decide +kernel
theorem dX10_heir_4 : decode cX10_heir 4 = .ok (.iload_n 1, 1) := by decide +kernel
theorem dX10_heir_5 : decode cX10_heir 5 = .ok (.invokevirtual 108, 3) := by decide +kernel
theorem dX10_heir_8 : decode cX10_heir 8 = .ok (.ifCond .ne 5, 3) := by decide +kernel
theorem dX10_heir_11 : decode cX10_heir 11 = .ok (.iconst (-1), 1) := by decide +kernel
theorem dX10_heir_12 : decode cX10_heir 12 = .ok (.ireturn, 1) := by decide +kernel
theorem dX10_heir_13 : decode cX10_heir 13 = .ok (.aload_n 0, 1) := by decide +kernel
theorem dX10_heir_14 : decode cX10_heir 14 = .ok (.getfield 19, 3) := by decide +kernel
theorem dX10_heir_17 : decode cX10_heir 17 = .ok (.getfield 111, 3) := by decide +kernel
theorem dX10_heir_20 : decode cX10_heir 20 = .ok (.iload_n 1, 1) := by decide +kernel
theorem dX10_heir_21 : decode cX10_heir 21 = .ok (.aaload, 1) := by decide +kernel
theorem dX10_heir_22 : decode cX10_heir 22 = .ok (.astore_n 2, 1) := by decide +kernel
theorem dX10_heir_23 : decode cX10_heir 23 = .ok (.aload_n 2, 1) := by decide +kernel
theorem dX10_heir_24 : decode cX10_heir 24 = .ok (.invokevirtual 185, 3) := by decide +kernel
theorem dX10_heir_27 : decode cX10_heir 27 = .ok (.ifCond .eq 6, 3) := by decide +kernel
theorem dX10_heir_30 : decode cX10_heir 30 = .ok (.bipush (-2), 2) := by decide +kernel
theorem dX10_heir_32 : decode cX10_heir 32 = .ok (.ireturn, 1) := by decide +kernel
theorem dX10_heir_33 : decode cX10_heir 33 = .ok (.aload_n 0, 1) := by decide +kernel
theorem dX10_heir_34 : decode cX10_heir 34 = .ok (.getfield 29, 3) := by decide +kernel
theorem dX10_heir_37 : decode cX10_heir 37 = .ok (.aload_n 0, 1) := by decide +kernel
theorem dX10_heir_38 : decode cX10_heir 38 = .ok (.getfield 19, 3) := by decide +kernel
theorem dX10_heir_41 : decode cX10_heir 41 = .ok (.invokevirtual 169, 3) := by decide +kernel
theorem dX10_heir_44 : decode cX10_heir 44 = .ok (.aload_n 2, 1) := by decide +kernel
theorem dX10_heir_45 : decode cX10_heir 45 = .ok (.bipush 10, 2) := by decide +kernel
theorem dX10_heir_47 : decode cX10_heir 47 = .ok (.aload_n 2, 1) := by decide +kernel
theorem dX10_heir_48 : decode cX10_heir 48 = .ok (.getfield 120, 3) := by decide +kernel
theorem dX10_heir_51 : decode cX10_heir 51 = .ok (.iconst 2, 1) := by decide +kernel
theorem dX10_heir_52 : decode cX10_heir 52 = .ok (.isub, 1) := by decide +kernel
theorem dX10_heir_53 : decode cX10_heir 53 = .ok (.invokestatic 191, 3) := by decide +kernel
theorem dX10_heir_56 : decode cX10_heir 56 = .ok (.putfield 120, 3) := by decide +kernel
theorem dX10_heir_59 : decode cX10_heir 59 = .ok (.aload_n 2, 1) := by decide +kernel
theorem dX10_heir_60 : decode cX10_heir 60 = .ok (.aload_n 0, 1) := by decide +kernel
theorem dX10_heir_61 : decode cX10_heir 61 = .ok (.getfield 19, 3) := by decide +kernel
theorem dX10_heir_64 : decode cX10_heir 64 = .ok (.getfield 197, 3) := by decide +kernel
theorem dX10_heir_67 : decode cX10_heir 67 = .ok (.invokevirtual 200, 3) := by decide +kernel
theorem dX10_heir_70 : decode cX10_heir 70 = .ok (.aload_n 2, 1) := by decide +kernel
theorem dX10_heir_71 : decode cX10_heir 71 = .ok (.getfield 120, 3) := by decide +kernel
theorem dX10_heir_74 : decode cX10_heir 74 = .ok (.ireturn, 1) := by decide +kernel
theorem dX10_undo_0 : decode cX10_undo 0 = .ok (.aload_n 0, 1) := by decide +kernel
theorem dX10_undo_1 : decode cX10_undo 1 = .ok (.getfield 29, 3) := by decide +kernel
theorem dX10_undo_4 : decode cX10_undo 4 = .ok (.aload_n 0, 1) := by decide +kernel
theorem dX10_undo_5 : decode cX10_undo 5 = .ok (.getfield 19, 3) := by decide +kernel
theorem dX10_undo_8 : decode cX10_undo 8 = .ok (.invokevirtual 204, 3) := by decide +kernel
theorem dX10_undo_11 : decode cX10_undo 11 = .ok (.ifCond .eq 13, 3) := by decide +kernel
theorem dX10_undo_14 : decode cX10_undo 14 = .ok (.aload_n 0, 1) := by decide +kernel
theorem dX10_undo_15 : decode cX10_undo 15 = .ok (.getfield 29, 3) := by decide +kernel
theorem dX10_undo_18 : decode cX10_undo 18 = .ok (.getfield 208, 3) := by decide +kernel
theorem dX10_undo_21 : decode cX10_undo 21 = .ok (.goto 5, 3) := by decide +kernel
theorem dX10_undo_24 : decode cX10_undo 24 = .ok (.bipush (-4), 2) := by decide +kernel
theorem dX10_undo_26 : decode cX10_undo 26 = .ok (.ireturn, 1) := by decide +kernel
theorem dX10_seed_0 : decode cX10_seed 0 = .ok (.iload_n 1, 1) := by decide +kernel
theorem dX10_seed_1 : decode cX10_seed 1 = .ok (.iconst 1, 1) := by decide +kernel
theorem dX10_seed_2 : decode cX10_seed 2 = .ok (.ldc 209, 2) := by decide +kernel
theorem dX10_seed_4 : decode cX10_seed 4 = .ok (.invokestatic 79, 3) := by decide +kernel
theorem dX10_seed_7 : decode cX10_seed 7 = .ok (.ifCond .ne 5, 3) := by decide +kernel
theorem dX10_seed_10 : decode cX10_seed 10 = .ok (.iconst (-1), 1) := by decide +kernel
theorem dX10_seed_11 : decode cX10_seed 11 = .ok (.ireturn, 1) := by decide +kernel
theorem dX10_seed_12 : decode cX10_seed 12 = .ok (.aload_n 0, 1) := by decide +kernel
theorem dX10_seed_13 : decode cX10_seed 13 = .ok (.getfield 19, 3) := by decide +kernel
theorem dX10_seed_16 : decode cX10_seed 16 = .ok (.getfield 95, 3) := by decide +kernel
theorem dX10_seed_19 : decode cX10_seed 19 = .ok (.istore_n 2, 1) := by decide +kernel
theorem dX10_seed_20 : decode cX10_seed 20 = .ok (.aload_n 0, 1) := by decide +kernel
theorem dX10_seed_21 : decode cX10_seed 21 = .ok (.getfield 19, 3) := by decide +kernel
theorem dX10_seed_24 : decode cX10_seed 24 = .ok (.iload_n 1, 1) := by decide +kernel
theorem dX10_seed_25 : decode cX10_seed 25 = .ok (.putfield 95, 3) := by decide +kernel
theorem dX10_seed_28 : decode cX10_seed 28 = .ok (.iload_n 2, 1) := by decide +kernel
theorem dX10_seed_29 : decode cX10_seed 29 = .ok (.ireturn, 1) := by decide +kernel
theorem dX10_image_0 : decode cX10_image 0 = .ok (.iload_n 1, 1) := by decide +kernel
theorem dX10_image_1 : decode cX10_image 1 = .ok (.iconst 0, 1) := by decide +kernel
theorem dX10_image_2 : decode cX10_image 2 = .ok (.iconst 1, 1) := by decide +kernel
theorem dX10_image_3 : decode cX10_image 3 = .ok (.invokestatic 79, 3) := by decide +kernel
theorem dX10_image_6 : decode cX10_image 6 = .ok (.ifCond .ne 5, 3) := by decide +kernel
theorem dX10_image_9 : decode cX10_image 9 = .ok (.iconst (-1), 1) := by decide +kernel
theorem dX10_image_10 : decode cX10_image 10 = .ok (.ireturn, 1) := by decide +kernel
theorem dX10_image_11 : decode cX10_image 11 = .ok (.aload_n 0, 1) := by decide +kernel
theorem dX10_image_12 : decode cX10_image 12 = .ok (.getfield 19, 3) := by decide +kernel
theorem dX10_image_15 : decode cX10_image 15 = .ok (.invokevirtual 163, 3) := by decide +kernel
theorem dX10_image_18 : decode cX10_image 18 = .ok (.ifCond .ne 6, 3) := by decide +kernel
theorem dX10_image_21 : decode cX10_image 21 = .ok (.bipush (-2), 2) := by decide +kernel
theorem dX10_image_23 : decode cX10_image 23 = .ok (.ireturn, 1) := by decide +kernel
theorem dX10_image_24 : decode cX10_image 24 = .ok (.aload_n 0, 1) := by decide +kernel
theorem dX10_image_25 : decode cX10_image 25 = .ok (.getfield 33, 3) := by decide +kernel
theorem dX10_image_28 : decode cX10_image 28 = .ok (.iload_n 1, 1) := by decide +kernel
theorem dX10_image_29 : decode cX10_image 29 = .ok (.aaload, 1) := by decide +kernel
theorem dX10_image_30 : decode cX10_image 30 = .ok (.aload_n 0, 1) := by decide +kernel
theorem dX10_image_31 : decode cX10_image 31 = .ok (.getfield 19, 3) := by decide +kernel
theorem dX10_image_34 : decode cX10_image 34 = .ok (.invokevirtual 98, 3) := by decide +kernel
theorem dX10_image_37 : decode cX10_image 37 = .ok (.aload_n 0, 1) := by decide +kernel
theorem dX10_image_38 : decode cX10_image 38 = .ok (.getfield 19, 3) := by decide +kernel
theorem dX10_image_41 : decode cX10_image 41 = .ok (.invokevirtual 175, 3) := by decide +kernel
theorem dX10_image_44 : decode cX10_image 44 = .ok (.ireturn, 1) := by decide +kernel
theorem dX10_restore_0 : decode cX10_restore 0 = .ok (.iload_n 1, 1) := by decide +kernel
theorem dX10_restore_1 : decode cX10_restore 1 = .ok (.iconst 0, 1) := by decide +kernel
theorem dX10_restore_2 : decode cX10_restore 2 = .ok (.iconst 1, 1) := by decide +kernel
theorem dX10_restore_3 : decode cX10_restore 3 = .ok (.invokestatic 79, 3) := by decide +kernel
theorem dX10_restore_6 : decode cX10_restore 6 = .ok (.ifCond .ne 5, 3) := by decide +kernel
theorem dX10_restore_9 : decode cX10_restore 9 = .ok (.iconst (-1), 1) := by decide +kernel
theorem dX10_restore_10 : decode cX10_restore 10 = .ok (.ireturn, 1) := by decide +kernel
theorem dX10_restore_11 : decode cX10_restore 11 = .ok (.aload_n 0, 1) := by decide +kernel
theorem dX10_restore_12 : decode cX10_restore 12 = .ok (.getfield 33, 3) := by decide +kernel
theorem dX10_restore_15 : decode cX10_restore 15 = .ok (.iload_n 1, 1) := by decide +kernel
theorem dX10_restore_16 : decode cX10_restore 16 = .ok (.aaload, 1) := by decide +kernel
theorem dX10_restore_17 : decode cX10_restore 17 = .ok (.invokevirtual 163, 3) := by decide +kernel
theorem dX10_restore_20 : decode cX10_restore 20 = .ok (.ifCond .ne 6, 3) := by decide +kernel
theorem dX10_restore_23 : decode cX10_restore 23 = .ok (.bipush (-2), 2) := by decide +kernel
theorem dX10_restore_25 : decode cX10_restore 25 = .ok (.ireturn, 1) := by decide +kernel
theorem dX10_restore_26 : decode cX10_restore 26 = .ok (.aload_n 0, 1) := by decide +kernel
theorem dX10_restore_27 : decode cX10_restore 27 = .ok (.getfield 19, 3) := by decide +kernel
theorem dX10_restore_30 : decode cX10_restore 30 = .ok (.aload_n 0, 1) := by decide +kernel
theorem dX10_restore_31 : decode cX10_restore 31 = .ok (.getfield 33, 3) := by decide +kernel
theorem dX10_restore_34 : decode cX10_restore 34 = .ok (.iload_n 1, 1) := by decide +kernel
theorem dX10_restore_35 : decode cX10_restore 35 = .ok (.aaload, 1) := by decide +kernel
theorem dX10_restore_36 : decode cX10_restore 36 = .ok (.invokevirtual 98, 3) := by decide +kernel
theorem dX10_restore_39 : decode cX10_restore 39 = .ok (.aload_n 0, 1) := by decide +kernel
theorem dX10_restore_40 : decode cX10_restore 40 = .ok (.getfield 29, 3) := by decide +kernel
theorem dX10_restore_43 : decode cX10_restore 43 = .ok (.invokevirtual 102, 3) := by decide +kernel
theorem dX10_restore_46 : decode cX10_restore 46 = .ok (.aload_n 0, 1) := by decide +kernel
theorem dX10_restore_47 : decode cX10_restore 47 = .ok (.getfield 19, 3) := by decide +kernel
theorem dX10_restore_50 : decode cX10_restore 50 = .ok (.invokevirtual 175, 3) := by decide +kernel
theorem dX10_restore_53 : decode cX10_restore 53 = .ok (.ireturn, 1) := by decide +kernel
theorem dX10_strain_0 : decode cX10_strain 0 = .ok (.aload_n 0, 1) := by decide +kernel
theorem dX10_strain_1 : decode cX10_strain 1 = .ok (.getfield 19, 3) := by decide +kernel
theorem dX10_strain_4 : decode cX10_strain 4 = .ok (.iload_n 1, 1) := by decide +kernel
theorem dX10_strain_5 : decode cX10_strain 5 = .ok (.invokevirtual 108, 3) := by decide +kernel
theorem dX10_strain_8 : decode cX10_strain 8 = .ok (.ifCond .eq 13, 3) := by decide +kernel
theorem dX10_strain_11 : decode cX10_strain 11 = .ok (.iload_n 2, 1) := by decide +kernel
theorem dX10_strain_12 : decode cX10_strain 12 = .ok (.iconst 0, 1) := by decide +kernel
theorem dX10_strain_13 : decode cX10_strain 13 = .ok (.bipush 60, 2) := by decide +kernel
theorem dX10_strain_15 : decode cX10_strain 15 = .ok (.invokestatic 79, 3) := by decide +kernel
theorem dX10_strain_18 : decode cX10_strain 18 = .ok (.ifCond .ne 5, 3) := by decide +kernel
theorem dX10_strain_21 : decode cX10_strain 21 = .ok (.iconst (-1), 1) := by decide +kernel
theorem dX10_strain_22 : decode cX10_strain 22 = .ok (.ireturn, 1) := by decide +kernel
theorem dX10_strain_23 : decode cX10_strain 23 = .ok (.aload_n 0, 1) := by decide +kernel
theorem dX10_strain_24 : decode cX10_strain 24 = .ok (.getfield 47, 3) := by decide +kernel
theorem dX10_strain_27 : decode cX10_strain 27 = .ok (.aload_n 0, 1) := by decide +kernel
theorem dX10_strain_28 : decode cX10_strain 28 = .ok (.getfield 19, 3) := by decide +kernel
theorem dX10_strain_31 : decode cX10_strain 31 = .ok (.invokevirtual 210, 3) := by decide +kernel
theorem dX10_strain_34 : decode cX10_strain 34 = .ok (.aload_n 0, 1) := by decide +kernel
theorem dX10_strain_35 : decode cX10_strain 35 = .ok (.getfield 47, 3) := by decide +kernel
theorem dX10_strain_38 : decode cX10_strain 38 = .ok (.aload_n 0, 1) := by decide +kernel
theorem dX10_strain_39 : decode cX10_strain 39 = .ok (.getfield 19, 3) := by decide +kernel
theorem dX10_strain_42 : decode cX10_strain 42 = .ok (.getfield 111, 3) := by decide +kernel
theorem dX10_strain_45 : decode cX10_strain 45 = .ok (.iload_n 1, 1) := by decide +kernel
theorem dX10_strain_46 : decode cX10_strain 46 = .ok (.aaload, 1) := by decide +kernel
theorem dX10_strain_47 : decode cX10_strain 47 = .ok (.iload_n 2, 1) := by decide +kernel
theorem dX10_strain_48 : decode cX10_strain 48 = .ok (.invokevirtual 213, 3) := by decide +kernel
theorem dX10_strain_51 : decode cX10_strain 51 = .ok (.ireturn, 1) := by decide +kernel
theorem dX10_down_0 : decode cX10_down 0 = .ok (.aload_n 0, 1) := by decide +kernel
theorem dX10_down_1 : decode cX10_down 1 = .ok (.getfield 19, 3) := by decide +kernel
theorem dX10_down_4 : decode cX10_down 4 = .ok (.iload_n 1, 1) := by decide +kernel
theorem dX10_down_5 : decode cX10_down 5 = .ok (.invokevirtual 108, 3) := by decide +kernel
theorem dX10_down_8 : decode cX10_down 8 = .ok (.ifCond .ne 5, 3) := by decide +kernel
theorem dX10_down_11 : decode cX10_down 11 = .ok (.iconst (-1), 1) := by decide +kernel
theorem dX10_down_12 : decode cX10_down 12 = .ok (.ireturn, 1) := by decide +kernel
theorem dX10_down_13 : decode cX10_down 13 = .ok (.aload_n 0, 1) := by decide +kernel
theorem dX10_down_14 : decode cX10_down 14 = .ok (.getfield 19, 3) := by decide +kernel
theorem dX10_down_17 : decode cX10_down 17 = .ok (.getfield 111, 3) := by decide +kernel
theorem dX10_down_20 : decode cX10_down 20 = .ok (.iload_n 1, 1) := by decide +kernel
theorem dX10_down_21 : decode cX10_down 21 = .ok (.aaload, 1) := by decide +kernel
theorem dX10_down_22 : decode cX10_down 22 = .ok (.astore_n 2, 1) := by decide +kernel
theorem dX10_down_23 : decode cX10_down 23 = .ok (.aload_n 2, 1) := by decide +kernel
theorem dX10_down_24 : decode cX10_down 24 = .ok (.invokevirtual 185, 3) := by decide +kernel
theorem dX10_down_27 : decode cX10_down 27 = .ok (.ifCond .ne 5, 3) := by decide +kernel
theorem dX10_down_30 : decode cX10_down 30 = .ok (.iconst 0, 1) := by decide +kernel
theorem dX10_down_31 : decode cX10_down 31 = .ok (.ireturn, 1) := by decide +kernel
theorem dX10_down_32 : decode cX10_down 32 = .ok (.aload_n 0, 1) := by decide +kernel
theorem dX10_down_33 : decode cX10_down 33 = .ok (.getfield 47, 3) := by decide +kernel
theorem dX10_down_36 : decode cX10_down 36 = .ok (.aload_n 0, 1) := by decide +kernel
theorem dX10_down_37 : decode cX10_down 37 = .ok (.getfield 19, 3) := by decide +kernel
theorem dX10_down_40 : decode cX10_down 40 = .ok (.invokevirtual 210, 3) := by decide +kernel
theorem dX10_down_43 : decode cX10_down 43 = .ok (.aload_n 0, 1) := by decide +kernel
theorem dX10_down_44 : decode cX10_down 44 = .ok (.getfield 47, 3) := by decide +kernel
theorem dX10_down_47 : decode cX10_down 47 = .ok (.aload_n 2, 1) := by decide +kernel
theorem dX10_down_48 : decode cX10_down 48 = .ok (.bipush 60, 2) := by decide +kernel
theorem dX10_down_50 : decode cX10_down 50 = .ok (.iconst 0, 1) := by decide +kernel
theorem dX10_down_51 : decode cX10_down 51 = .ok (.invokevirtual 217, 3) := by decide +kernel
theorem dX10_down_54 : decode cX10_down 54 = .ok (.istore_n 3, 1) := by decide +kernel
theorem dX10_down_55 : decode cX10_down 55 = .ok (.iload_n 3, 1) := by decide +kernel
theorem dX10_down_56 : decode cX10_down 56 = .ok (.bipush 60, 2) := by decide +kernel
theorem dX10_down_58 : decode cX10_down 58 = .ok (.if_icmp .ge 9, 3) := by decide +kernel
theorem dX10_down_61 : decode cX10_down 61 = .ok (.iload_n 3, 1) := by decide +kernel
theorem dX10_down_62 : decode cX10_down 62 = .ok (.iconst 1, 1) := by decide +kernel
theorem dX10_down_63 : decode cX10_down 63 = .ok (.iadd, 1) := by decide +kernel
theorem dX10_down_64 : decode cX10_down 64 = .ok (.goto 5, 3) := by decide +kernel
theorem dX10_down_67 : decode cX10_down 67 = .ok (.bipush (-4), 2) := by decide +kernel
theorem dX10_down_69 : decode cX10_down 69 = .ok (.ireturn, 1) := by decide +kernel
theorem dX10_duel_0 : decode cX10_duel 0 = .ok (.aload_n 0, 1) := by decide +kernel
theorem dX10_duel_1 : decode cX10_duel 1 = .ok (.iload_n 1, 1) := by decide +kernel
theorem dX10_duel_2 : decode cX10_duel 2 = .ok (.iload_n 2, 1) := by decide +kernel
theorem dX10_duel_3 : decode cX10_duel 3 = .ok (.invokevirtual 221, 3) := by decide +kernel
theorem dX10_duel_6 : decode cX10_duel 6 = .ok (.istore_n 3, 1) := by decide +kernel
theorem dX10_duel_7 : decode cX10_duel 7 = .ok (.iload_n 3, 1) := by decide +kernel
theorem dX10_duel_8 : decode cX10_duel 8 = .ok (.ifCond .eq 5, 3) := by decide +kernel
theorem dX10_duel_11 : decode cX10_duel 11 = .ok (.iload_n 3, 1) := by decide +kernel
theorem dX10_duel_12 : decode cX10_duel 12 = .ok (.ireturn, 1) := by decide +kernel
theorem dX10_duel_13 : decode cX10_duel 13 = .ok (.aload_n 0, 1) := by decide +kernel
theorem dX10_duel_14 : decode cX10_duel 14 = .ok (.getfield 47, 3) := by decide +kernel
theorem dX10_duel_17 : decode cX10_duel 17 = .ok (.aload_n 0, 1) := by decide +kernel
theorem dX10_duel_18 : decode cX10_duel 18 = .ok (.getfield 19, 3) := by decide +kernel
theorem dX10_duel_21 : decode cX10_duel 21 = .ok (.invokevirtual 210, 3) := by decide +kernel
theorem dX10_duel_24 : decode cX10_duel 24 = .ok (.aload_n 0, 1) := by decide +kernel
theorem dX10_duel_25 : decode cX10_duel 25 = .ok (.getfield 47, 3) := by decide +kernel
theorem dX10_duel_28 : decode cX10_duel 28 = .ok (.aload_n 0, 1) := by decide +kernel
theorem dX10_duel_29 : decode cX10_duel 29 = .ok (.getfield 19, 3) := by decide +kernel
theorem dX10_duel_32 : decode cX10_duel 32 = .ok (.getfield 111, 3) := by decide +kernel
theorem dX10_duel_35 : decode cX10_duel 35 = .ok (.iload_n 1, 1) := by decide +kernel
theorem dX10_duel_36 : decode cX10_duel 36 = .ok (.aaload, 1) := by decide +kernel
theorem dX10_duel_37 : decode cX10_duel 37 = .ok (.aload_n 0, 1) := by decide +kernel
theorem dX10_duel_38 : decode cX10_duel 38 = .ok (.getfield 19, 3) := by decide +kernel
theorem dX10_duel_41 : decode cX10_duel 41 = .ok (.getfield 111, 3) := by decide +kernel
theorem dX10_duel_44 : decode cX10_duel 44 = .ok (.iload_n 2, 1) := by decide +kernel
theorem dX10_duel_45 : decode cX10_duel 45 = .ok (.aaload, 1) := by decide +kernel
theorem dX10_duel_46 : decode cX10_duel 46 = .ok (.invokevirtual 224, 3) := by decide +kernel
theorem dX10_duel_49 : decode cX10_duel 49 = .ok (.istore 4, 2) := by decide +kernel
theorem dX10_duel_51 : decode cX10_duel 51 = .ok (.iload 4, 2) := by decide +kernel
theorem dX10_duel_53 : decode cX10_duel 53 = .ok (.ifCond .ne 6, 3) := by decide +kernel
theorem dX10_duel_56 : decode cX10_duel 56 = .ok (.bipush (-4), 2) := by decide +kernel
theorem dX10_duel_58 : decode cX10_duel 58 = .ok (.ireturn, 1) := by decide +kernel
theorem dX10_duel_59 : decode cX10_duel 59 = .ok (.iload 4, 2) := by decide +kernel
theorem dX10_duel_61 : decode cX10_duel 61 = .ok (.ifCond .le 7, 3) := by decide +kernel
theorem dX10_duel_64 : decode cX10_duel 64 = .ok (.iload_n 1, 1) := by decide +kernel
theorem dX10_duel_65 : decode cX10_duel 65 = .ok (.goto 4, 3) := by decide +kernel
theorem dX10_duel_68 : decode cX10_duel 68 = .ok (.iload_n 2, 1) := by decide +kernel
theorem dX10_duel_69 : decode cX10_duel 69 = .ok (.ireturn, 1) := by decide +kernel
theorem dX10_honour_0 : decode cX10_honour 0 = .ok (.aload_n 0, 1) := by decide +kernel
theorem dX10_honour_1 : decode cX10_honour 1 = .ok (.iload_n 1, 1) := by decide +kernel
theorem dX10_honour_2 : decode cX10_honour 2 = .ok (.invokevirtual 228, 3) := by decide +kernel
theorem dX10_honour_5 : decode cX10_honour 5 = .ok (.istore_n 2, 1) := by decide +kernel
theorem dX10_honour_6 : decode cX10_honour 6 = .ok (.iload_n 2, 1) := by decide +kernel
theorem dX10_honour_7 : decode cX10_honour 7 = .ok (.ifCond .eq 5, 3) := by decide +kernel
theorem dX10_honour_10 : decode cX10_honour 10 = .ok (.iload_n 2, 1) := by decide +kernel
theorem dX10_honour_11 : decode cX10_honour 11 = .ok (.ireturn, 1) := by decide +kernel
theorem dX10_honour_12 : decode cX10_honour 12 = .ok (.aload_n 0, 1) := by decide +kernel
theorem dX10_honour_13 : decode cX10_honour 13 = .ok (.getfield 47, 3) := by decide +kernel
theorem dX10_honour_16 : decode cX10_honour 16 = .ok (.aload_n 0, 1) := by decide +kernel
theorem dX10_honour_17 : decode cX10_honour 17 = .ok (.getfield 19, 3) := by decide +kernel
theorem dX10_honour_20 : decode cX10_honour 20 = .ok (.invokevirtual 210, 3) := by decide +kernel
theorem dX10_honour_23 : decode cX10_honour 23 = .ok (.iconst 0, 1) := by decide +kernel
theorem dX10_honour_24 : decode cX10_honour 24 = .ok (.istore_n 3, 1) := by decide +kernel
theorem dX10_honour_25 : decode cX10_honour 25 = .ok (.iconst 0, 1) := by decide +kernel
theorem dX10_honour_26 : decode cX10_honour 26 = .ok (.istore 4, 2) := by decide +kernel
theorem dX10_honour_28 : decode cX10_honour 28 = .ok (.iload 4, 2) := by decide +kernel
theorem dX10_honour_30 : decode cX10_honour 30 = .ok (.aload_n 0, 1) := by decide +kernel
theorem dX10_honour_31 : decode cX10_honour 31 = .ok (.getfield 19, 3) := by decide +kernel
theorem dX10_honour_34 : decode cX10_honour 34 = .ok (.getfield 105, 3) := by decide +kernel
theorem dX10_honour_37 : decode cX10_honour 37 = .ok (.if_icmp .ge 60, 3) := by decide +kernel
theorem dX10_honour_40 : decode cX10_honour 40 = .ok (.iload 4, 2) := by decide +kernel
theorem dX10_honour_42 : decode cX10_honour 42 = .ok (.iload_n 1, 1) := by decide +kernel
theorem dX10_honour_43 : decode cX10_honour 43 = .ok (.if_icmp .eq 48, 3) := by decide +kernel
theorem dX10_honour_46 : decode cX10_honour 46 = .ok (.aload_n 0, 1) := by decide +kernel
theorem dX10_honour_47 : decode cX10_honour 47 = .ok (.getfield 19, 3) := by decide +kernel
theorem dX10_honour_50 : decode cX10_honour 50 = .ok (.getfield 111, 3) := by decide +kernel
theorem dX10_honour_53 : decode cX10_honour 53 = .ok (.iload 4, 2) := by decide +kernel
theorem dX10_honour_55 : decode cX10_honour 55 = .ok (.aaload, 1) := by decide +kernel
theorem dX10_honour_56 : decode cX10_honour 56 = .ok (.invokevirtual 185, 3) := by decide +kernel
theorem dX10_honour_59 : decode cX10_honour 59 = .ok (.ifCond .eq 32, 3) := by decide +kernel
theorem dX10_honour_62 : decode cX10_honour 62 = .ok (.iload_n 3, 1) := by decide +kernel
theorem dX10_honour_63 : decode cX10_honour 63 = .ok (.aload_n 0, 1) := by decide +kernel
theorem dX10_honour_64 : decode cX10_honour 64 = .ok (.getfield 47, 3) := by decide +kernel
theorem dX10_honour_67 : decode cX10_honour 67 = .ok (.aload_n 0, 1) := by decide +kernel
theorem dX10_honour_68 : decode cX10_honour 68 = .ok (.getfield 19, 3) := by decide +kernel
theorem dX10_honour_71 : decode cX10_honour 71 = .ok (.getfield 111, 3) := by decide +kernel
theorem dX10_honour_74 : decode cX10_honour 74 = .ok (.iload_n 1, 1) := by decide +kernel
theorem dX10_honour_75 : decode cX10_honour 75 = .ok (.aaload, 1) := by decide +kernel
theorem dX10_honour_76 : decode cX10_honour 76 = .ok (.aload_n 0, 1) := by decide +kernel
theorem dX10_honour_77 : decode cX10_honour 77 = .ok (.getfield 19, 3) := by decide +kernel
theorem dX10_honour_80 : decode cX10_honour 80 = .ok (.getfield 111, 3) := by decide +kernel
theorem dX10_honour_83 : decode cX10_honour 83 = .ok (.iload 4, 2) := by decide +kernel
theorem dX10_honour_85 : decode cX10_honour 85 = .ok (.aaload, 1) := by decide +kernel
theorem dX10_honour_86 : decode cX10_honour 86 = .ok (.invokevirtual 224, 3) := by decide +kernel
theorem dX10_honour_89 : decode cX10_honour 89 = .ok (.iadd, 1) := by decide +kernel
theorem dX10_honour_90 : decode cX10_honour 90 = .ok (.istore_n 3, 1) := by decide +kernel
theorem dX10_honour_91 : decode cX10_honour 91 = .ok (.iinc 4 1, 3) := by decide +kernel
theorem dX10_honour_94 : decode cX10_honour 94 = .ok (.goto (-66), 3) := by decide +kernel
theorem dX10_honour_97 : decode cX10_honour 97 = .ok (.iload_n 3, 1) := by decide +kernel
theorem dX10_honour_98 : decode cX10_honour 98 = .ok (.bipush 10, 2) := by decide +kernel
theorem dX10_honour_100 : decode cX10_honour 100 = .ok (.iadd, 1) := by decide +kernel
theorem dX10_honour_101 : decode cX10_honour 101 = .ok (.ireturn, 1) := by decide +kernel
theorem dX10_eat_0 : decode cX10_eat 0 = .ok (.iload_n 2, 1) := by decide +kernel
theorem dX10_eat_1 : decode cX10_eat 1 = .ok (.iconst 1, 1) := by decide +kernel
theorem dX10_eat_2 : decode cX10_eat 2 = .ok (.bipush 8, 2) := by decide +kernel
theorem dX10_eat_4 : decode cX10_eat 4 = .ok (.invokestatic 79, 3) := by decide +kernel
theorem dX10_eat_7 : decode cX10_eat 7 = .ok (.ifCond .eq 12, 3) := by decide +kernel
theorem dX10_eat_10 : decode cX10_eat 10 = .ok (.iload_n 3, 1) := by decide +kernel
theorem dX10_eat_11 : decode cX10_eat 11 = .ok (.iconst 0, 1) := by decide +kernel
theorem dX10_eat_12 : decode cX10_eat 12 = .ok (.iconst 1, 1) := by decide +kernel
theorem dX10_eat_13 : decode cX10_eat 13 = .ok (.invokestatic 79, 3) := by decide +kernel
theorem dX10_eat_16 : decode cX10_eat 16 = .ok (.ifCond .ne 5, 3) := by decide +kernel
theorem dX10_eat_19 : decode cX10_eat 19 = .ok (.iconst (-1), 1) := by decide +kernel
theorem dX10_eat_20 : decode cX10_eat 20 = .ok (.ireturn, 1) := by decide +kernel
theorem dX10_eat_21 : decode cX10_eat 21 = .ok (.aload_n 0, 1) := by decide +kernel
theorem dX10_eat_22 : decode cX10_eat 22 = .ok (.iload_n 1, 1) := by decide +kernel
theorem dX10_eat_23 : decode cX10_eat 23 = .ok (.invokevirtual 228, 3) := by decide +kernel
theorem dX10_eat_26 : decode cX10_eat 26 = .ok (.istore 4, 2) := by decide +kernel
theorem dX10_eat_28 : decode cX10_eat 28 = .ok (.iload 4, 2) := by decide +kernel
theorem dX10_eat_30 : decode cX10_eat 30 = .ok (.ifCond .eq 6, 3) := by decide +kernel
theorem dX10_eat_33 : decode cX10_eat 33 = .ok (.iload 4, 2) := by decide +kernel
theorem dX10_eat_35 : decode cX10_eat 35 = .ok (.ireturn, 1) := by decide +kernel
theorem dX10_eat_36 : decode cX10_eat 36 = .ok (.aload_n 0, 1) := by decide +kernel
theorem dX10_eat_37 : decode cX10_eat 37 = .ok (.getfield 47, 3) := by decide +kernel
theorem dX10_eat_40 : decode cX10_eat 40 = .ok (.aload_n 0, 1) := by decide +kernel
theorem dX10_eat_41 : decode cX10_eat 41 = .ok (.getfield 19, 3) := by decide +kernel
theorem dX10_eat_44 : decode cX10_eat 44 = .ok (.invokevirtual 210, 3) := by decide +kernel
theorem dX10_eat_47 : decode cX10_eat 47 = .ok (.aload_n 0, 1) := by decide +kernel
theorem dX10_eat_48 : decode cX10_eat 48 = .ok (.getfield 19, 3) := by decide +kernel
theorem dX10_eat_51 : decode cX10_eat 51 = .ok (.getfield 111, 3) := by decide +kernel
theorem dX10_eat_54 : decode cX10_eat 54 = .ok (.iload_n 1, 1) := by decide +kernel
theorem dX10_eat_55 : decode cX10_eat 55 = .ok (.aaload, 1) := by decide +kernel
theorem dX10_eat_56 : decode cX10_eat 56 = .ok (.astore 5, 2) := by decide +kernel
theorem dX10_eat_58 : decode cX10_eat 58 = .ok (.aload_n 0, 1) := by decide +kernel
theorem dX10_eat_59 : decode cX10_eat 59 = .ok (.getfield 47, 3) := by decide +kernel
theorem dX10_eat_62 : decode cX10_eat 62 = .ok (.aload 5, 2) := by decide +kernel
theorem dX10_eat_64 : decode cX10_eat 64 = .ok (.iload_n 2, 1) := by decide +kernel
theorem dX10_eat_65 : decode cX10_eat 65 = .ok (.invokevirtual 232, 3) := by decide +kernel
theorem dX10_eat_68 : decode cX10_eat 68 = .ok (.istore 6, 2) := by decide +kernel
theorem dX10_eat_70 : decode cX10_eat 70 = .ok (.iload_n 3, 1) := by decide +kernel
theorem dX10_eat_71 : decode cX10_eat 71 = .ok (.ifCond .ne 18, 3) := by decide +kernel
theorem dX10_eat_74 : decode cX10_eat 74 = .ok (.aload_n 0, 1) := by decide +kernel
theorem dX10_eat_75 : decode cX10_eat 75 = .ok (.getfield 47, 3) := by decide +kernel
theorem dX10_eat_78 : decode cX10_eat 78 = .ok (.aload 5, 2) := by decide +kernel
theorem dX10_eat_80 : decode cX10_eat 80 = .ok (.iload_n 2, 1) := by decide +kernel
theorem dX10_eat_81 : decode cX10_eat 81 = .ok (.iload 6, 2) := by decide +kernel
theorem dX10_eat_83 : decode cX10_eat 83 = .ok (.invokevirtual 217, 3) := by decide +kernel
theorem dX10_eat_86 : decode cX10_eat 86 = .ok (.goto 5, 3) := by decide +kernel
theorem dX10_eat_89 : decode cX10_eat 89 = .ok (.iload 6, 2) := by decide +kernel
theorem dX10_eat_91 : decode cX10_eat 91 = .ok (.ireturn, 1) := by decide +kernel
theorem dX10_train_0 : decode cX10_train 0 = .ok (.iload_n 2, 1) := by decide +kernel
theorem dX10_train_1 : decode cX10_train 1 = .ok (.iconst 1, 1) := by decide +kernel
theorem dX10_train_2 : decode cX10_train 2 = .ok (.bipush 40, 2) := by decide +kernel
theorem dX10_train_4 : decode cX10_train 4 = .ok (.invokestatic 79, 3) := by decide +kernel
theorem dX10_train_7 : decode cX10_train 7 = .ok (.ifCond .eq 12, 3) := by decide +kernel
theorem dX10_train_10 : decode cX10_train 10 = .ok (.iload_n 3, 1) := by decide +kernel
theorem dX10_train_11 : decode cX10_train 11 = .ok (.iconst 0, 1) := by decide +kernel
theorem dX10_train_12 : decode cX10_train 12 = .ok (.iconst 3, 1) := by decide +kernel
theorem dX10_train_13 : decode cX10_train 13 = .ok (.invokestatic 79, 3) := by decide +kernel
theorem dX10_train_16 : decode cX10_train 16 = .ok (.ifCond .ne 5, 3) := by decide +kernel
theorem dX10_train_19 : decode cX10_train 19 = .ok (.iconst (-1), 1) := by decide +kernel
theorem dX10_train_20 : decode cX10_train 20 = .ok (.ireturn, 1) := by decide +kernel
theorem dX10_train_21 : decode cX10_train 21 = .ok (.aload_n 0, 1) := by decide +kernel
theorem dX10_train_22 : decode cX10_train 22 = .ok (.iload_n 1, 1) := by decide +kernel
theorem dX10_train_23 : decode cX10_train 23 = .ok (.invokevirtual 228, 3) := by decide +kernel
theorem dX10_train_26 : decode cX10_train 26 = .ok (.istore 4, 2) := by decide +kernel
theorem dX10_train_28 : decode cX10_train 28 = .ok (.iload 4, 2) := by decide +kernel
theorem dX10_train_30 : decode cX10_train 30 = .ok (.ifCond .eq 6, 3) := by decide +kernel
theorem dX10_train_33 : decode cX10_train 33 = .ok (.iload 4, 2) := by decide +kernel
theorem dX10_train_35 : decode cX10_train 35 = .ok (.ireturn, 1) := by decide +kernel
theorem dX10_train_36 : decode cX10_train 36 = .ok (.aload_n 0, 1) := by decide +kernel
theorem dX10_train_37 : decode cX10_train 37 = .ok (.getfield 47, 3) := by decide +kernel
theorem dX10_train_40 : decode cX10_train 40 = .ok (.aload_n 0, 1) := by decide +kernel
theorem dX10_train_41 : decode cX10_train 41 = .ok (.getfield 19, 3) := by decide +kernel
theorem dX10_train_44 : decode cX10_train 44 = .ok (.invokevirtual 210, 3) := by decide +kernel
theorem dX10_train_47 : decode cX10_train 47 = .ok (.aload_n 0, 1) := by decide +kernel
theorem dX10_train_48 : decode cX10_train 48 = .ok (.getfield 47, 3) := by decide +kernel
theorem dX10_train_51 : decode cX10_train 51 = .ok (.aload_n 0, 1) := by decide +kernel
theorem dX10_train_52 : decode cX10_train 52 = .ok (.getfield 19, 3) := by decide +kernel
theorem dX10_train_55 : decode cX10_train 55 = .ok (.getfield 111, 3) := by decide +kernel
theorem dX10_train_58 : decode cX10_train 58 = .ok (.iload_n 1, 1) := by decide +kernel
theorem dX10_train_59 : decode cX10_train 59 = .ok (.aaload, 1) := by decide +kernel
theorem dX10_train_60 : decode cX10_train 60 = .ok (.iload_n 2, 1) := by decide +kernel
theorem dX10_train_61 : decode cX10_train 61 = .ok (.invokevirtual 235, 3) := by decide +kernel
theorem dX10_train_64 : decode cX10_train 64 = .ok (.ifCond .eq 15, 3) := by decide +kernel
theorem dX10_train_67 : decode cX10_train 67 = .ok (.aload_n 0, 1) := by decide +kernel
theorem dX10_train_68 : decode cX10_train 68 = .ok (.getfield 47, 3) := by decide +kernel
theorem dX10_train_71 : decode cX10_train 71 = .ok (.getfield 239, 3) := by decide +kernel
theorem dX10_train_74 : decode cX10_train 74 = .ok (.iload_n 3, 1) := by decide +kernel
theorem dX10_train_75 : decode cX10_train 75 = .ok (.iaload, 1) := by decide +kernel
theorem dX10_train_76 : decode cX10_train 76 = .ok (.goto 5, 3) := by decide +kernel
theorem dX10_train_79 : decode cX10_train 79 = .ok (.bipush (-4), 2) := by decide +kernel
theorem dX10_train_81 : decode cX10_train 81 = .ok (.ireturn, 1) := by decide +kernel
theorem dX10_dusk_0 : decode cX10_dusk 0 = .ok (.iload_n 1, 1) := by decide +kernel
theorem dX10_dusk_1 : decode cX10_dusk 1 = .ok (.iconst 1, 1) := by decide +kernel
theorem dX10_dusk_2 : decode cX10_dusk 2 = .ok (.bipush 40, 2) := by decide +kernel
theorem dX10_dusk_4 : decode cX10_dusk 4 = .ok (.invokestatic 79, 3) := by decide +kernel
theorem dX10_dusk_7 : decode cX10_dusk 7 = .ok (.ifCond .ne 5, 3) := by decide +kernel
theorem dX10_dusk_10 : decode cX10_dusk 10 = .ok (.iconst (-1), 1) := by decide +kernel
theorem dX10_dusk_11 : decode cX10_dusk 11 = .ok (.ireturn, 1) := by decide +kernel
theorem dX10_dusk_12 : decode cX10_dusk 12 = .ok (.aload_n 0, 1) := by decide +kernel
theorem dX10_dusk_13 : decode cX10_dusk 13 = .ok (.getfield 19, 3) := by decide +kernel
theorem dX10_dusk_16 : decode cX10_dusk 16 = .ok (.invokevirtual 163, 3) := by decide +kernel
theorem dX10_dusk_19 : decode cX10_dusk 19 = .ok (.ifCond .ne 6, 3) := by decide +kernel
theorem dX10_dusk_22 : decode cX10_dusk 22 = .ok (.bipush (-2), 2) := by decide +kernel
theorem dX10_dusk_24 : decode cX10_dusk 24 = .ok (.ireturn, 1) := by decide +kernel
theorem dX10_dusk_25 : decode cX10_dusk 25 = .ok (.aload_n 0, 1) := by decide +kernel
theorem dX10_dusk_26 : decode cX10_dusk 26 = .ok (.getfield 47, 3) := by decide +kernel
theorem dX10_dusk_29 : decode cX10_dusk 29 = .ok (.aload_n 0, 1) := by decide +kernel
theorem dX10_dusk_30 : decode cX10_dusk 30 = .ok (.getfield 19, 3) := by decide +kernel
theorem dX10_dusk_33 : decode cX10_dusk 33 = .ok (.invokevirtual 210, 3) := by decide +kernel
theorem dX10_dusk_36 : decode cX10_dusk 36 = .ok (.bipush 24, 2) := by decide +kernel
theorem dX10_dusk_38 : decode cX10_dusk 38 = .ok (.istore_n 2, 1) := by decide +kernel
theorem dX10_dusk_39 : decode cX10_dusk 39 = .ok (.iload_n 2, 1) := by decide +kernel
theorem dX10_dusk_40 : decode cX10_dusk 40 = .ok (.iconst 1, 1) := by decide +kernel
theorem dX10_dusk_41 : decode cX10_dusk 41 = .ok (.if_icmp .lt 42, 3) := by decide +kernel
theorem dX10_dusk_44 : decode cX10_dusk 44 = .ok (.aload_n 0, 1) := by decide +kernel
theorem dX10_dusk_45 : decode cX10_dusk 45 = .ok (.getfield 47, 3) := by decide +kernel
theorem dX10_dusk_48 : decode cX10_dusk 48 = .ok (.aload_n 0, 1) := by decide +kernel
theorem dX10_dusk_49 : decode cX10_dusk 49 = .ok (.getfield 19, 3) := by decide +kernel
theorem dX10_dusk_52 : decode cX10_dusk 52 = .ok (.getfield 166, 3) := by decide +kernel
theorem dX10_dusk_55 : decode cX10_dusk 55 = .ok (.iload_n 2, 1) := by decide +kernel
theorem dX10_dusk_56 : decode cX10_dusk 56 = .ok (.invokevirtual 243, 3) := by decide +kernel
theorem dX10_dusk_59 : decode cX10_dusk 59 = .ok (.aload_n 0, 1) := by decide +kernel
theorem dX10_dusk_60 : decode cX10_dusk 60 = .ok (.getfield 47, 3) := by decide +kernel
theorem dX10_dusk_63 : decode cX10_dusk 63 = .ok (.aload_n 0, 1) := by decide +kernel
theorem dX10_dusk_64 : decode cX10_dusk 64 = .ok (.getfield 19, 3) := by decide +kernel
theorem dX10_dusk_67 : decode cX10_dusk 67 = .ok (.iload_n 1, 1) := by decide +kernel
theorem dX10_dusk_68 : decode cX10_dusk 68 = .ok (.invokevirtual 247, 3) := by decide +kernel
theorem dX10_dusk_71 : decode cX10_dusk 71 = .ok (.iconst 1, 1) := by decide +kernel
theorem dX10_dusk_72 : decode cX10_dusk 72 = .ok (.if_icmp .gt 5, 3) := by decide +kernel
theorem dX10_dusk_75 : decode cX10_dusk 75 = .ok (.iload_n 2, 1) := by decide +kernel
theorem dX10_dusk_76 : decode cX10_dusk 76 = .ok (.ireturn, 1) := by decide +kernel
theorem dX10_dusk_77 : decode cX10_dusk 77 = .ok (.iinc 2 (-1), 3) := by decide +kernel
theorem dX10_dusk_80 : decode cX10_dusk 80 = .ok (.goto (-41), 3) := by decide +kernel
theorem dX10_dusk_83 : decode cX10_dusk 83 = .ok (.bipush (-4), 2) := by decide +kernel
theorem dX10_dusk_85 : decode cX10_dusk 85 = .ok (.ireturn, 1) := by decide +kernel
theorem dX10_odds_0 : decode cX10_odds 0 = .ok (.iload_n 3, 1) := by decide +kernel
theorem dX10_odds_1 : decode cX10_odds 1 = .ok (.iconst 0, 1) := by decide +kernel
theorem dX10_odds_2 : decode cX10_odds 2 = .ok (.bipush 10, 2) := by decide +kernel
theorem dX10_odds_4 : decode cX10_odds 4 = .ok (.invokestatic 79, 3) := by decide +kernel
theorem dX10_odds_7 : decode cX10_odds 7 = .ok (.ifCond .eq 24, 3) := by decide +kernel
theorem dX10_odds_10 : decode cX10_odds 10 = .ok (.iload 4, 2) := by decide +kernel
theorem dX10_odds_12 : decode cX10_odds 12 = .ok (.iconst 0, 1) := by decide +kernel
theorem dX10_odds_13 : decode cX10_odds 13 = .ok (.bipush 10, 2) := by decide +kernel
theorem dX10_odds_15 : decode cX10_odds 15 = .ok (.invokestatic 79, 3) := by decide +kernel
theorem dX10_odds_18 : decode cX10_odds 18 = .ok (.ifCond .eq 13, 3) := by decide +kernel
theorem dX10_odds_21 : decode cX10_odds 21 = .ok (.iload 5, 2) := by decide +kernel
theorem dX10_odds_23 : decode cX10_odds 23 = .ok (.iconst 0, 1) := by decide +kernel
theorem dX10_odds_24 : decode cX10_odds 24 = .ok (.iconst 1, 1) := by decide +kernel
theorem dX10_odds_25 : decode cX10_odds 25 = .ok (.invokestatic 79, 3) := by decide +kernel
theorem dX10_odds_28 : decode cX10_odds 28 = .ok (.ifCond .ne 7, 3) := by decide +kernel
theorem dX10_odds_31 : decode cX10_odds 31 = .ok (.ldc2_w 251, 3) := by decide +kernel
theorem dX10_odds_34 : decode cX10_odds 34 = .ok (.lreturn, 1) := by decide +kernel
theorem dX10_odds_35 : decode cX10_odds 35 = .ok (.aload_n 0, 1) := by decide +kernel
theorem dX10_odds_36 : decode cX10_odds 36 = .ok (.iload_n 1, 1) := by decide +kernel
theorem dX10_odds_37 : decode cX10_odds 37 = .ok (.iload_n 2, 1) := by decide +kernel
theorem dX10_odds_38 : decode cX10_odds 38 = .ok (.invokevirtual 221, 3) := by decide +kernel
theorem dX10_odds_41 : decode cX10_odds 41 = .ok (.istore 6, 2) := by decide +kernel
theorem dX10_odds_43 : decode cX10_odds 43 = .ok (.iload 6, 2) := by decide +kernel
theorem dX10_odds_45 : decode cX10_odds 45 = .ok (.ifCond .eq 7, 3) := by decide +kernel
theorem dX10_odds_48 : decode cX10_odds 48 = .ok (.iload 6, 2) := by decide +kernel
theorem dX10_odds_50 : decode cX10_odds 50 = .ok (.i2l, 1) := by decide +kernel
theorem dX10_odds_51 : decode cX10_odds 51 = .ok (.lreturn, 1) := by decide +kernel
theorem dX10_odds_52 : decode cX10_odds 52 = .ok (.aload_n 0, 1) := by decide +kernel
theorem dX10_odds_53 : decode cX10_odds 53 = .ok (.getfield 54, 3) := by decide +kernel
theorem dX10_odds_56 : decode cX10_odds 56 = .ok (.aload_n 0, 1) := by decide +kernel
theorem dX10_odds_57 : decode cX10_odds 57 = .ok (.getfield 19, 3) := by decide +kernel
theorem dX10_odds_60 : decode cX10_odds 60 = .ok (.iload_n 3, 1) := by decide +kernel
theorem dX10_odds_61 : decode cX10_odds 61 = .ok (.iload 4, 2) := by decide +kernel
theorem dX10_odds_63 : decode cX10_odds 63 = .ok (.invokevirtual 253, 3) := by decide +kernel
theorem dX10_odds_66 : decode cX10_odds 66 = .ok (.aload_n 0, 1) := by decide +kernel
theorem dX10_odds_67 : decode cX10_odds 67 = .ok (.getfield 54, 3) := by decide +kernel
theorem dX10_odds_70 : decode cX10_odds 70 = .ok (.aload_n 0, 1) := by decide +kernel
theorem dX10_odds_71 : decode cX10_odds 71 = .ok (.getfield 54, 3) := by decide +kernel
theorem dX10_odds_74 : decode cX10_odds 74 = .ok (.aload_n 0, 1) := by decide +kernel
theorem dX10_odds_75 : decode cX10_odds 75 = .ok (.getfield 19, 3) := by decide +kernel
theorem dX10_odds_78 : decode cX10_odds 78 = .ok (.getfield 111, 3) := by decide +kernel
theorem dX10_odds_81 : decode cX10_odds 81 = .ok (.iload_n 1, 1) := by decide +kernel
theorem dX10_odds_82 : decode cX10_odds 82 = .ok (.aaload, 1) := by decide +kernel
theorem dX10_odds_83 : decode cX10_odds 83 = .ok (.aload_n 0, 1) := by decide +kernel
theorem dX10_odds_84 : decode cX10_odds 84 = .ok (.getfield 19, 3) := by decide +kernel
theorem dX10_odds_87 : decode cX10_odds 87 = .ok (.getfield 111, 3) := by decide +kernel
theorem dX10_odds_90 : decode cX10_odds 90 = .ok (.iload_n 2, 1) := by decide +kernel
theorem dX10_odds_91 : decode cX10_odds 91 = .ok (.aaload, 1) := by decide +kernel
theorem dX10_odds_92 : decode cX10_odds 92 = .ok (.invokevirtual 257, 3) := by decide +kernel
theorem dX10_odds_95 : decode cX10_odds 95 = .ok (.iload 5, 2) := by decide +kernel
theorem dX10_odds_97 : decode cX10_odds 97 = .ok (.invokevirtual 261, 3) := by decide +kernel
theorem dX10_odds_100 : decode cX10_odds 100 = .ok (.lreturn, 1) := by decide +kernel
theorem dX10_challenge_0 : decode cX10_challenge 0 = .ok (.iload_n 2, 1) := by decide +kernel
theorem dX10_challenge_1 : decode cX10_challenge 1 = .ok (.iconst 0, 1) := by decide +kernel
theorem dX10_challenge_2 : decode cX10_challenge 2 = .ok (.bipush 10, 2) := by decide +kernel
theorem dX10_challenge_4 : decode cX10_challenge 4 = .ok (.invokestatic 79, 3) := by decide +kernel
theorem dX10_challenge_7 : decode cX10_challenge 7 = .ok (.ifCond .eq 13, 3) := by decide +kernel
theorem dX10_challenge_10 : decode cX10_challenge 10 = .ok (.iload_n 3, 1) := by decide +kernel
theorem dX10_challenge_11 : decode cX10_challenge 11 = .ok (.iconst 0, 1) := by decide +kernel
theorem dX10_challenge_12 : decode cX10_challenge 12 = .ok (.bipush 10, 2) := by decide +kernel
theorem dX10_challenge_14 : decode cX10_challenge 14 = .ok (.invokestatic 79, 3) := by decide +kernel
theorem dX10_challenge_17 : decode cX10_challenge 17 = .ok (.ifCond .ne 5, 3) := by decide +kernel
theorem dX10_challenge_20 : decode cX10_challenge 20 = .ok (.iconst (-1), 1) := by decide +kernel
theorem dX10_challenge_21 : decode cX10_challenge 21 = .ok (.ireturn, 1) := by decide +kernel
theorem dX10_challenge_22 : decode cX10_challenge 22 = .ok (.aload_n 0, 1) := by decide +kernel
theorem dX10_challenge_23 : decode cX10_challenge 23 = .ok (.iload_n 1, 1) := by decide +kernel
theorem dX10_challenge_24 : decode cX10_challenge 24 = .ok (.invokevirtual 228, 3) := by decide +kernel
theorem dX10_challenge_27 : decode cX10_challenge 27 = .ok (.istore 4, 2) := by decide +kernel
theorem dX10_challenge_29 : decode cX10_challenge 29 = .ok (.iload 4, 2) := by decide +kernel
theorem dX10_challenge_31 : decode cX10_challenge 31 = .ok (.ifCond .eq 6, 3) := by decide +kernel
theorem dX10_challenge_34 : decode cX10_challenge 34 = .ok (.iload 4, 2) := by decide +kernel
theorem dX10_challenge_36 : decode cX10_challenge 36 = .ok (.ireturn, 1) := by decide +kernel
theorem dX10_challenge_37 : decode cX10_challenge 37 = .ok (.aload_n 0, 1) := by decide +kernel
theorem dX10_challenge_38 : decode cX10_challenge 38 = .ok (.getfield 54, 3) := by decide +kernel
theorem dX10_challenge_41 : decode cX10_challenge 41 = .ok (.aload_n 0, 1) := by decide +kernel
theorem dX10_challenge_42 : decode cX10_challenge 42 = .ok (.getfield 19, 3) := by decide +kernel
theorem dX10_challenge_45 : decode cX10_challenge 45 = .ok (.iload_n 2, 1) := by decide +kernel
theorem dX10_challenge_46 : decode cX10_challenge 46 = .ok (.iload_n 3, 1) := by decide +kernel
theorem dX10_challenge_47 : decode cX10_challenge 47 = .ok (.invokevirtual 253, 3) := by decide +kernel
theorem dX10_challenge_50 : decode cX10_challenge 50 = .ok (.bipush (-4), 2) := by decide +kernel
theorem dX10_challenge_52 : decode cX10_challenge 52 = .ok (.istore 5, 2) := by decide +kernel
theorem dX10_challenge_54 : decode cX10_challenge 54 = .ok (.ldc2_w 251, 3) := by decide +kernel
theorem dX10_challenge_57 : decode cX10_challenge 57 = .ok (.lstore 6, 2) := by decide +kernel
theorem dX10_challenge_59 : decode cX10_challenge 59 = .ok (.iconst 0, 1) := by decide +kernel
theorem dX10_challenge_60 : decode cX10_challenge 60 = .ok (.istore 8, 2) := by decide +kernel
theorem dX10_challenge_62 : decode cX10_challenge 62 = .ok (.iload 8, 2) := by decide +kernel
theorem dX10_challenge_64 : decode cX10_challenge 64 = .ok (.aload_n 0, 1) := by decide +kernel
theorem dX10_challenge_65 : decode cX10_challenge 65 = .ok (.getfield 19, 3) := by decide +kernel
theorem dX10_challenge_68 : decode cX10_challenge 68 = .ok (.getfield 105, 3) := by decide +kernel
theorem dX10_challenge_71 : decode cX10_challenge 71 = .ok (.if_icmp .ge 78, 3) := by decide +kernel
theorem dX10_challenge_74 : decode cX10_challenge 74 = .ok (.iload 8, 2) := by decide +kernel
theorem dX10_challenge_76 : decode cX10_challenge 76 = .ok (.iload_n 1, 1) := by decide +kernel
theorem dX10_challenge_77 : decode cX10_challenge 77 = .ok (.if_icmp .eq 66, 3) := by decide +kernel
theorem dX10_challenge_80 : decode cX10_challenge 80 = .ok (.aload_n 0, 1) := by decide +kernel
theorem dX10_challenge_81 : decode cX10_challenge 81 = .ok (.getfield 19, 3) := by decide +kernel
theorem dX10_challenge_84 : decode cX10_challenge 84 = .ok (.getfield 111, 3) := by decide +kernel
theorem dX10_challenge_87 : decode cX10_challenge 87 = .ok (.iload 8, 2) := by decide +kernel
theorem dX10_challenge_89 : decode cX10_challenge 89 = .ok (.aaload, 1) := by decide +kernel
theorem dX10_challenge_90 : decode cX10_challenge 90 = .ok (.invokevirtual 185, 3) := by decide +kernel
theorem dX10_challenge_93 : decode cX10_challenge 93 = .ok (.ifCond .ne 6, 3) := by decide +kernel
theorem dX10_challenge_96 : decode cX10_challenge 96 = .ok (.goto 47, 3) := by decide +kernel
theorem dX10_challenge_99 : decode cX10_challenge 99 = .ok (.aload_n 0, 1) := by decide +kernel
theorem dX10_challenge_100 : decode cX10_challenge 100 = .ok (.getfield 54, 3) := by decide +kernel
theorem dX10_challenge_103 : decode cX10_challenge 103 = .ok (.aload_n 0, 1) := by decide +kernel
theorem dX10_challenge_104 : decode cX10_challenge 104 = .ok (.getfield 19, 3) := by decide +kernel
theorem dX10_challenge_107 : decode cX10_challenge 107 = .ok (.getfield 111, 3) := by decide +kernel
theorem dX10_challenge_110 : decode cX10_challenge 110 = .ok (.iload_n 1, 1) := by decide +kernel
theorem dX10_challenge_111 : decode cX10_challenge 111 = .ok (.aaload, 1) := by decide +kernel
theorem dX10_challenge_112 : decode cX10_challenge 112 = .ok (.aload_n 0, 1) := by decide +kernel
theorem dX10_challenge_113 : decode cX10_challenge 113 = .ok (.getfield 19, 3) := by decide +kernel
theorem dX10_challenge_116 : decode cX10_challenge 116 = .ok (.getfield 111, 3) := by decide +kernel
theorem dX10_challenge_119 : decode cX10_challenge 119 = .ok (.iload 8, 2) := by decide +kernel
theorem dX10_challenge_121 : decode cX10_challenge 121 = .ok (.aaload, 1) := by decide +kernel
theorem dX10_challenge_122 : decode cX10_challenge 122 = .ok (.invokevirtual 257, 3) := by decide +kernel
theorem dX10_challenge_125 : decode cX10_challenge 125 = .ok (.lstore 9, 2) := by decide +kernel
theorem dX10_challenge_127 : decode cX10_challenge 127 = .ok (.lload 9, 2) := by decide +kernel
theorem dX10_challenge_129 : decode cX10_challenge 129 = .ok (.lload 6, 2) := by decide +kernel
theorem dX10_challenge_131 : decode cX10_challenge 131 = .ok (.lcmp, 1) := by decide +kernel
theorem dX10_challenge_132 : decode cX10_challenge 132 = .ok (.ifCond .le 11, 3) := by decide +kernel
theorem dX10_challenge_135 : decode cX10_challenge 135 = .ok (.lload 9, 2) := by decide +kernel
theorem dX10_challenge_137 : decode cX10_challenge 137 = .ok (.lstore 6, 2) := by decide +kernel
theorem dX10_challenge_139 : decode cX10_challenge 139 = .ok (.iload 8, 2) := by decide +kernel
theorem dX10_challenge_141 : decode cX10_challenge 141 = .ok (.istore 5, 2) := by decide +kernel
theorem dX10_challenge_143 : decode cX10_challenge 143 = .ok (.iinc 8 1, 3) := by decide +kernel
theorem dX10_challenge_146 : decode cX10_challenge 146 = .ok (.goto (-84), 3) := by decide +kernel
theorem dX10_challenge_149 : decode cX10_challenge 149 = .ok (.iload 5, 2) := by decide +kernel
theorem dX10_challenge_151 : decode cX10_challenge 151 = .ok (.ireturn, 1) := by decide +kernel
theorem dX10_game_0 : decode cX10_game 0 = .ok (.iload_n 3, 1) := by decide +kernel
theorem dX10_game_1 : decode cX10_game 1 = .ok (.iconst 0, 1) := by decide +kernel
theorem dX10_game_2 : decode cX10_game 2 = .ok (.iconst 3, 1) := by decide +kernel
theorem dX10_game_3 : decode cX10_game 3 = .ok (.invokestatic 79, 3) := by decide +kernel
theorem dX10_game_6 : decode cX10_game 6 = .ok (.ifCond .ne 5, 3) := by decide +kernel
theorem dX10_game_9 : decode cX10_game 9 = .ok (.iconst (-1), 1) := by decide +kernel
theorem dX10_game_10 : decode cX10_game 10 = .ok (.ireturn, 1) := by decide +kernel
theorem dX10_game_11 : decode cX10_game 11 = .ok (.aload_n 0, 1) := by decide +kernel
theorem dX10_game_12 : decode cX10_game 12 = .ok (.iload_n 1, 1) := by decide +kernel
theorem dX10_game_13 : decode cX10_game 13 = .ok (.iload_n 2, 1) := by decide +kernel
theorem dX10_game_14 : decode cX10_game 14 = .ok (.invokevirtual 221, 3) := by decide +kernel
theorem dX10_game_17 : decode cX10_game 17 = .ok (.istore 4, 2) := by decide +kernel
theorem dX10_game_19 : decode cX10_game 19 = .ok (.iload 4, 2) := by decide +kernel
theorem dX10_game_21 : decode cX10_game 21 = .ok (.ifCond .eq 6, 3) := by decide +kernel
theorem dX10_game_24 : decode cX10_game 24 = .ok (.iload 4, 2) := by decide +kernel
theorem dX10_game_26 : decode cX10_game 26 = .ok (.ireturn, 1) := by decide +kernel
theorem dX10_game_27 : decode cX10_game 27 = .ok (.aload_n 0, 1) := by decide +kernel
theorem dX10_game_28 : decode cX10_game 28 = .ok (.getfield 47, 3) := by decide +kernel
theorem dX10_game_31 : decode cX10_game 31 = .ok (.aload_n 0, 1) := by decide +kernel
theorem dX10_game_32 : decode cX10_game 32 = .ok (.getfield 19, 3) := by decide +kernel
theorem dX10_game_35 : decode cX10_game 35 = .ok (.invokevirtual 210, 3) := by decide +kernel
theorem dX10_game_38 : decode cX10_game 38 = .ok (.aload_n 0, 1) := by decide +kernel
theorem dX10_game_39 : decode cX10_game 39 = .ok (.getfield 61, 3) := by decide +kernel
theorem dX10_game_42 : decode cX10_game 42 = .ok (.aload_n 0, 1) := by decide +kernel
theorem dX10_game_43 : decode cX10_game 43 = .ok (.getfield 19, 3) := by decide +kernel
theorem dX10_game_46 : decode cX10_game 46 = .ok (.getfield 111, 3) := by decide +kernel
theorem dX10_game_49 : decode cX10_game 49 = .ok (.iload_n 1, 1) := by decide +kernel
theorem dX10_game_50 : decode cX10_game 50 = .ok (.aaload, 1) := by decide +kernel
theorem dX10_game_51 : decode cX10_game 51 = .ok (.aload_n 0, 1) := by decide +kernel
theorem dX10_game_52 : decode cX10_game 52 = .ok (.getfield 19, 3) := by decide +kernel
theorem dX10_game_55 : decode cX10_game 55 = .ok (.getfield 111, 3) := by decide +kernel
theorem dX10_game_58 : decode cX10_game 58 = .ok (.iload_n 2, 1) := by decide +kernel
theorem dX10_game_59 : decode cX10_game 59 = .ok (.aaload, 1) := by decide +kernel
theorem dX10_game_60 : decode cX10_game 60 = .ok (.aload_n 0, 1) := by decide +kernel
theorem dX10_game_61 : decode cX10_game 61 = .ok (.getfield 47, 3) := by decide +kernel
theorem dX10_game_64 : decode cX10_game 64 = .ok (.iload_n 3, 1) := by decide +kernel
theorem dX10_game_65 : decode cX10_game 65 = .ok (.invokevirtual 265, 3) := by decide +kernel
theorem dX10_game_68 : decode cX10_game 68 = .ok (.sipush 2000, 3) := by decide +kernel
theorem dX10_game_71 : decode cX10_game 71 = .ok (.iadd, 1) := by decide +kernel
theorem dX10_game_72 : decode cX10_game 72 = .ok (.ireturn, 1) := by decide +kernel
theorem dX10_sheet_0 : decode cX10_sheet 0 = .ok (.iload_n 1, 1) := by decide +kernel
theorem dX10_sheet_1 : decode cX10_sheet 1 = .ok (.iconst 0, 1) := by decide +kernel
theorem dX10_sheet_2 : decode cX10_sheet 2 = .ok (.iconst 3, 1) := by decide +kernel
theorem dX10_sheet_3 : decode cX10_sheet 3 = .ok (.invokestatic 79, 3) := by decide +kernel
theorem dX10_sheet_6 : decode cX10_sheet 6 = .ok (.ifCond .eq 18, 3) := by decide +kernel
theorem dX10_sheet_9 : decode cX10_sheet 9 = .ok (.iload_n 2, 1) := by decide +kernel
theorem dX10_sheet_10 : decode cX10_sheet 10 = .ok (.iconst 0, 1) := by decide +kernel
theorem dX10_sheet_11 : decode cX10_sheet 11 = .ok (.iconst 3, 1) := by decide +kernel
theorem dX10_sheet_12 : decode cX10_sheet 12 = .ok (.invokestatic 79, 3) := by decide +kernel
theorem dX10_sheet_15 : decode cX10_sheet 15 = .ok (.ifCond .eq 9, 3) := by decide +kernel
theorem dX10_sheet_18 : decode cX10_sheet 18 = .ok (.iload_n 3, 1) := by decide +kernel
theorem dX10_sheet_19 : decode cX10_sheet 19 = .ok (.bipush 24, 2) := by decide +kernel
theorem dX10_sheet_21 : decode cX10_sheet 21 = .ok (.if_icmp .le 5, 3) := by decide +kernel
theorem dX10_sheet_24 : decode cX10_sheet 24 = .ok (.iconst (-1), 1) := by decide +kernel
theorem dX10_sheet_25 : decode cX10_sheet 25 = .ok (.ireturn, 1) := by decide +kernel
theorem dX10_sheet_26 : decode cX10_sheet 26 = .ok (.iload_n 3, 1) := by decide +kernel
theorem dX10_sheet_27 : decode cX10_sheet 27 = .ok (.ifCond .ge 6, 3) := by decide +kernel
theorem dX10_sheet_30 : decode cX10_sheet 30 = .ok (.bipush (-14), 2) := by decide +kernel
theorem dX10_sheet_32 : decode cX10_sheet 32 = .ok (.ireturn, 1) := by decide +kernel
theorem dX10_sheet_33 : decode cX10_sheet 33 = .ok (.aload_n 0, 1) := by decide +kernel
theorem dX10_sheet_34 : decode cX10_sheet 34 = .ok (.getfield 39, 3) := by decide +kernel
theorem dX10_sheet_37 : decode cX10_sheet 37 = .ok (.iload_n 1, 1) := by decide +kernel
theorem dX10_sheet_38 : decode cX10_sheet 38 = .ok (.aaload, 1) := by decide +kernel
theorem dX10_sheet_39 : decode cX10_sheet 39 = .ok (.iload_n 2, 1) := by decide +kernel
theorem dX10_sheet_40 : decode cX10_sheet 40 = .ok (.iload_n 3, 1) := by decide +kernel
theorem dX10_sheet_41 : decode cX10_sheet 41 = .ok (.invokevirtual 269, 3) := by decide +kernel
theorem dX10_sheet_44 : decode cX10_sheet 44 = .ok (.iload_n 3, 1) := by decide +kernel
theorem dX10_sheet_45 : decode cX10_sheet 45 = .ok (.ireturn, 1) := by decide +kernel
theorem dX10_drop_0 : decode cX10_drop 0 = .ok (.iload_n 1, 1) := by decide +kernel
theorem dX10_drop_1 : decode cX10_drop 1 = .ok (.iconst 0, 1) := by decide +kernel
theorem dX10_drop_2 : decode cX10_drop 2 = .ok (.iconst 3, 1) := by decide +kernel
theorem dX10_drop_3 : decode cX10_drop 3 = .ok (.invokestatic 79, 3) := by decide +kernel
theorem dX10_drop_6 : decode cX10_drop 6 = .ok (.ifCond .ne 5, 3) := by decide +kernel
theorem dX10_drop_9 : decode cX10_drop 9 = .ok (.iconst (-1), 1) := by decide +kernel
theorem dX10_drop_10 : decode cX10_drop 10 = .ok (.ireturn, 1) := by decide +kernel
theorem dX10_drop_11 : decode cX10_drop 11 = .ok (.aload_n 0, 1) := by decide +kernel
theorem dX10_drop_12 : decode cX10_drop 12 = .ok (.getfield 39, 3) := by decide +kernel
theorem dX10_drop_15 : decode cX10_drop 15 = .ok (.iload_n 1, 1) := by decide +kernel
theorem dX10_drop_16 : decode cX10_drop 16 = .ok (.aaload, 1) := by decide +kernel
theorem dX10_drop_17 : decode cX10_drop 17 = .ok (.astore_n 2, 1) := by decide +kernel
theorem dX10_drop_18 : decode cX10_drop 18 = .ok (.aload_n 2, 1) := by decide +kernel
theorem dX10_drop_19 : decode cX10_drop 19 = .ok (.invokevirtual 272, 3) := by decide +kernel
theorem dX10_drop_22 : decode cX10_drop 22 = .ok (.ifCond .eq 6, 3) := by decide +kernel
theorem dX10_drop_25 : decode cX10_drop 25 = .ok (.bipush (-11), 2) := by decide +kernel
theorem dX10_drop_27 : decode cX10_drop 27 = .ok (.ireturn, 1) := by decide +kernel
theorem dX10_drop_28 : decode cX10_drop 28 = .ok (.aload_n 2, 1) := by decide +kernel
theorem dX10_drop_29 : decode cX10_drop 29 = .ok (.getfield 275, 3) := by decide +kernel
theorem dX10_drop_32 : decode cX10_drop 32 = .ok (.istore_n 3, 1) := by decide +kernel
theorem dX10_drop_33 : decode cX10_drop 33 = .ok (.aload_n 2, 1) := by decide +kernel
theorem dX10_drop_34 : decode cX10_drop 34 = .ok (.invokevirtual 276, 3) := by decide +kernel
theorem dX10_drop_37 : decode cX10_drop 37 = .ok (.iload_n 3, 1) := by decide +kernel
theorem dX10_drop_38 : decode cX10_drop 38 = .ok (.ireturn, 1) := by decide +kernel
theorem dX10_item_0 : decode cX10_item 0 = .ok (.aload_n 0, 1) := by decide +kernel
theorem dX10_item_1 : decode cX10_item 1 = .ok (.iload_n 1, 1) := by decide +kernel
theorem dX10_item_2 : decode cX10_item 2 = .ok (.iload_n 2, 1) := by decide +kernel
theorem dX10_item_3 : decode cX10_item 3 = .ok (.iload_n 3, 1) := by decide +kernel
theorem dX10_item_4 : decode cX10_item 4 = .ok (.iconst 1, 1) := by decide +kernel
theorem dX10_item_5 : decode cX10_item 5 = .ok (.invokevirtual 279, 3) := by decide +kernel
theorem dX10_item_8 : decode cX10_item 8 = .ok (.istore 6, 2) := by decide +kernel
theorem dX10_item_10 : decode cX10_item 10 = .ok (.iload 6, 2) := by decide +kernel
theorem dX10_item_12 : decode cX10_item 12 = .ok (.ifCond .eq 7, 3) := by decide +kernel
theorem dX10_item_15 : decode cX10_item 15 = .ok (.iload 6, 2) := by decide +kernel
theorem dX10_item_17 : decode cX10_item 17 = .ok (.i2l, 1) := by decide +kernel
theorem dX10_item_18 : decode cX10_item 18 = .ok (.lreturn, 1) := by decide +kernel
theorem dX10_item_19 : decode cX10_item 19 = .ok (.aload_n 0, 1) := by decide +kernel
theorem dX10_item_20 : decode cX10_item 20 = .ok (.getfield 39, 3) := by decide +kernel
theorem dX10_item_23 : decode cX10_item 23 = .ok (.iload_n 1, 1) := by decide +kernel
theorem dX10_item_24 : decode cX10_item 24 = .ok (.aaload, 1) := by decide +kernel
theorem dX10_item_25 : decode cX10_item 25 = .ok (.astore 7, 2) := by decide +kernel
theorem dX10_item_27 : decode cX10_item 27 = .ok (.aload 7, 2) := by decide +kernel
theorem dX10_item_29 : decode cX10_item 29 = .ok (.iload_n 3, 1) := by decide +kernel
theorem dX10_item_30 : decode cX10_item 30 = .ok (.lload 4, 2) := by decide +kernel
theorem dX10_item_32 : decode cX10_item 32 = .ok (.invokevirtual 283, 3) := by decide +kernel
theorem dX10_item_35 : decode cX10_item 35 = .ok (.aload 7, 2) := by decide +kernel
theorem dX10_item_37 : decode cX10_item 37 = .ok (.getfield 286, 3) := by decide +kernel
theorem dX10_item_40 : decode cX10_item 40 = .ok (.iload_n 3, 1) := by decide +kernel
theorem dX10_item_41 : decode cX10_item 41 = .ok (.laload, 1) := by decide +kernel
theorem dX10_item_42 : decode cX10_item 42 = .ok (.lreturn, 1) := by decide +kernel
theorem dX10_copy_0 : decode cX10_copy 0 = .ok (.iload_n 1, 1) := by decide +kernel
theorem dX10_copy_1 : decode cX10_copy 1 = .ok (.iconst 0, 1) := by decide +kernel
theorem dX10_copy_2 : decode cX10_copy 2 = .ok (.iconst 3, 1) := by decide +kernel
theorem dX10_copy_3 : decode cX10_copy 3 = .ok (.invokestatic 79, 3) := by decide +kernel
theorem dX10_copy_6 : decode cX10_copy 6 = .ok (.ifCond .eq 12, 3) := by decide +kernel
theorem dX10_copy_9 : decode cX10_copy 9 = .ok (.iload_n 3, 1) := by decide +kernel
theorem dX10_copy_10 : decode cX10_copy 10 = .ok (.iconst 0, 1) := by decide +kernel
theorem dX10_copy_11 : decode cX10_copy 11 = .ok (.iconst 3, 1) := by decide +kernel
theorem dX10_copy_12 : decode cX10_copy 12 = .ok (.invokestatic 79, 3) := by decide +kernel
theorem dX10_copy_15 : decode cX10_copy 15 = .ok (.ifCond .ne 5, 3) := by decide +kernel
theorem dX10_copy_18 : decode cX10_copy 18 = .ok (.iconst (-1), 1) := by decide +kernel
theorem dX10_copy_19 : decode cX10_copy 19 = .ok (.ireturn, 1) := by decide +kernel
theorem dX10_copy_20 : decode cX10_copy 20 = .ok (.aload_n 0, 1) := by decide +kernel
theorem dX10_copy_21 : decode cX10_copy 21 = .ok (.getfield 39, 3) := by decide +kernel
theorem dX10_copy_24 : decode cX10_copy 24 = .ok (.iload_n 1, 1) := by decide +kernel
theorem dX10_copy_25 : decode cX10_copy 25 = .ok (.aaload, 1) := by decide +kernel
theorem dX10_copy_26 : decode cX10_copy 26 = .ok (.astore 6, 2) := by decide +kernel
theorem dX10_copy_28 : decode cX10_copy 28 = .ok (.aload_n 0, 1) := by decide +kernel
theorem dX10_copy_29 : decode cX10_copy 29 = .ok (.getfield 39, 3) := by decide +kernel
theorem dX10_copy_32 : decode cX10_copy 32 = .ok (.iload_n 3, 1) := by decide +kernel
theorem dX10_copy_33 : decode cX10_copy 33 = .ok (.aaload, 1) := by decide +kernel
theorem dX10_copy_34 : decode cX10_copy 34 = .ok (.astore 7, 2) := by decide +kernel
theorem dX10_copy_36 : decode cX10_copy 36 = .ok (.aload 6, 2) := by decide +kernel
theorem dX10_copy_38 : decode cX10_copy 38 = .ok (.invokevirtual 272, 3) := by decide +kernel
theorem dX10_copy_41 : decode cX10_copy 41 = .ok (.ifCond .ne 11, 3) := by decide +kernel
theorem dX10_copy_44 : decode cX10_copy 44 = .ok (.aload 7, 2) := by decide +kernel
theorem dX10_copy_46 : decode cX10_copy 46 = .ok (.invokevirtual 272, 3) := by decide +kernel
theorem dX10_copy_49 : decode cX10_copy 49 = .ok (.ifCond .eq 6, 3) := by decide +kernel
theorem dX10_copy_52 : decode cX10_copy 52 = .ok (.bipush (-11), 2) := by decide +kernel
theorem dX10_copy_54 : decode cX10_copy 54 = .ok (.ireturn, 1) := by decide +kernel
theorem dX10_copy_55 : decode cX10_copy 55 = .ok (.aload 6, 2) := by decide +kernel
theorem dX10_copy_57 : decode cX10_copy 57 = .ok (.getfield 290, 3) := by decide +kernel
theorem dX10_copy_60 : decode cX10_copy 60 = .ok (.aload 7, 2) := by decide +kernel
theorem dX10_copy_62 : decode cX10_copy 62 = .ok (.getfield 290, 3) := by decide +kernel
theorem dX10_copy_65 : decode cX10_copy 65 = .ok (.if_icmp .eq 6, 3) := by decide +kernel
theorem dX10_copy_68 : decode cX10_copy 68 = .ok (.bipush (-12), 2) := by decide +kernel
theorem dX10_copy_70 : decode cX10_copy 70 = .ok (.ireturn, 1) := by decide +kernel
theorem dX10_copy_71 : decode cX10_copy 71 = .ok (.aload 6, 2) := by decide +kernel
theorem dX10_copy_73 : decode cX10_copy 73 = .ok (.iload_n 2, 1) := by decide +kernel
theorem dX10_copy_74 : decode cX10_copy 74 = .ok (.iload 5, 2) := by decide +kernel
theorem dX10_copy_76 : decode cX10_copy 76 = .ok (.invokevirtual 293, 3) := by decide +kernel
theorem dX10_copy_79 : decode cX10_copy 79 = .ok (.ifCond .eq 15, 3) := by decide +kernel
theorem dX10_copy_82 : decode cX10_copy 82 = .ok (.aload 7, 2) := by decide +kernel
theorem dX10_copy_84 : decode cX10_copy 84 = .ok (.iload 4, 2) := by decide +kernel
theorem dX10_copy_86 : decode cX10_copy 86 = .ok (.iload 5, 2) := by decide +kernel
theorem dX10_copy_88 : decode cX10_copy 88 = .ok (.invokevirtual 293, 3) := by decide +kernel
theorem dX10_copy_91 : decode cX10_copy 91 = .ok (.ifCond .ne 6, 3) := by decide +kernel
theorem dX10_copy_94 : decode cX10_copy 94 = .ok (.bipush (-13), 2) := by decide +kernel
theorem dX10_copy_96 : decode cX10_copy 96 = .ok (.ireturn, 1) := by decide +kernel
theorem dX10_copy_97 : decode cX10_copy 97 = .ok (.aload 6, 2) := by decide +kernel
theorem dX10_copy_99 : decode cX10_copy 99 = .ok (.getfield 286, 3) := by decide +kernel
theorem dX10_copy_102 : decode cX10_copy 102 = .ok (.iload_n 2, 1) := by decide +kernel
theorem dX10_copy_103 : decode cX10_copy 103 = .ok (.aload 7, 2) := by decide +kernel
theorem dX10_copy_105 : decode cX10_copy 105 = .ok (.getfield 286, 3) := by decide +kernel
theorem dX10_copy_108 : decode cX10_copy 108 = .ok (.iload 4, 2) := by decide +kernel
theorem dX10_copy_110 : decode cX10_copy 110 = .ok (.iload 5, 2) := by decide +kernel
theorem dX10_copy_112 : decode cX10_copy 112 = .ok (.invokestatic 296, 3) := by decide +kernel
theorem dX10_copy_115 : decode cX10_copy 115 = .ok (.iload 5, 2) := by decide +kernel
theorem dX10_copy_117 : decode cX10_copy 117 = .ok (.ireturn, 1) := by decide +kernel
theorem dX10_film_0 : decode cX10_film 0 = .ok (.aload_n 0, 1) := by decide +kernel
theorem dX10_film_1 : decode cX10_film 1 = .ok (.getfield 19, 3) := by decide +kernel
theorem dX10_film_4 : decode cX10_film 4 = .ok (.iload_n 1, 1) := by decide +kernel
theorem dX10_film_5 : decode cX10_film 5 = .ok (.invokevirtual 108, 3) := by decide +kernel
theorem dX10_film_8 : decode cX10_film 8 = .ok (.ifCond .eq 13, 3) := by decide +kernel
theorem dX10_film_11 : decode cX10_film 11 = .ok (.iload_n 2, 1) := by decide +kernel
theorem dX10_film_12 : decode cX10_film 12 = .ok (.iconst 1, 1) := by decide +kernel
theorem dX10_film_13 : decode cX10_film 13 = .ok (.bipush 24, 2) := by decide +kernel
theorem dX10_film_15 : decode cX10_film 15 = .ok (.invokestatic 79, 3) := by decide +kernel
theorem dX10_film_18 : decode cX10_film 18 = .ok (.ifCond .ne 5, 3) := by decide +kernel
theorem dX10_film_21 : decode cX10_film 21 = .ok (.iconst (-1), 1) := by decide +kernel
theorem dX10_film_22 : decode cX10_film 22 = .ok (.ireturn, 1) := by decide +kernel
theorem dX10_film_23 : decode cX10_film 23 = .ok (.aload_n 0, 1) := by decide +kernel
theorem dX10_film_24 : decode cX10_film 24 = .ok (.iload_n 3, 1) := by decide +kernel
theorem dX10_film_25 : decode cX10_film 25 = .ok (.iload 4, 2) := by decide +kernel
theorem dX10_film_27 : decode cX10_film 27 = .ok (.iload 5, 2) := by decide +kernel
theorem dX10_film_29 : decode cX10_film 29 = .ok (.iload_n 2, 1) := by decide +kernel
theorem dX10_film_30 : decode cX10_film 30 = .ok (.invokevirtual 279, 3) := by decide +kernel
theorem dX10_film_33 : decode cX10_film 33 = .ok (.istore 6, 2) := by decide +kernel
theorem dX10_film_35 : decode cX10_film 35 = .ok (.iload 6, 2) := by decide +kernel
theorem dX10_film_37 : decode cX10_film 37 = .ok (.ifCond .eq 6, 3) := by decide +kernel
theorem dX10_film_40 : decode cX10_film 40 = .ok (.iload 6, 2) := by decide +kernel
theorem dX10_film_42 : decode cX10_film 42 = .ok (.ireturn, 1) := by decide +kernel
theorem dX10_film_43 : decode cX10_film 43 = .ok (.aload_n 0, 1) := by decide +kernel
theorem dX10_film_44 : decode cX10_film 44 = .ok (.getfield 47, 3) := by decide +kernel
theorem dX10_film_47 : decode cX10_film 47 = .ok (.aload_n 0, 1) := by decide +kernel
theorem dX10_film_48 : decode cX10_film 48 = .ok (.getfield 19, 3) := by decide +kernel
theorem dX10_film_51 : decode cX10_film 51 = .ok (.invokevirtual 210, 3) := by decide +kernel
theorem dX10_film_54 : decode cX10_film 54 = .ok (.aload_n 0, 1) := by decide +kernel
theorem dX10_film_55 : decode cX10_film 55 = .ok (.getfield 47, 3) := by decide +kernel
theorem dX10_film_58 : decode cX10_film 58 = .ok (.aload_n 0, 1) := by decide +kernel
theorem dX10_film_59 : decode cX10_film 59 = .ok (.getfield 39, 3) := by decide +kernel
theorem dX10_film_62 : decode cX10_film 62 = .ok (.iload_n 3, 1) := by decide +kernel
theorem dX10_film_63 : decode cX10_film 63 = .ok (.aaload, 1) := by decide +kernel
theorem dX10_film_64 : decode cX10_film 64 = .ok (.iload 5, 2) := by decide +kernel
theorem dX10_film_66 : decode cX10_film 66 = .ok (.aload_n 0, 1) := by decide +kernel
theorem dX10_film_67 : decode cX10_film 67 = .ok (.getfield 19, 3) := by decide +kernel
theorem dX10_film_70 : decode cX10_film 70 = .ok (.getfield 111, 3) := by decide +kernel
theorem dX10_film_73 : decode cX10_film 73 = .ok (.iload_n 1, 1) := by decide +kernel
theorem dX10_film_74 : decode cX10_film 74 = .ok (.aaload, 1) := by decide +kernel
theorem dX10_film_75 : decode cX10_film 75 = .ok (.iload_n 2, 1) := by decide +kernel
theorem dX10_film_76 : decode cX10_film 76 = .ok (.invokevirtual 302, 3) := by decide +kernel
theorem dX10_film_79 : decode cX10_film 79 = .ok (.iload_n 2, 1) := by decide +kernel
theorem dX10_film_80 : decode cX10_film 80 = .ok (.ireturn, 1) := by decide +kernel
theorem dX10_round_0 : decode cX10_round 0 = .ok (.iload 4, 2) := by decide +kernel
theorem dX10_round_2 : decode cX10_round 2 = .ok (.iconst 2, 1) := by decide +kernel
theorem dX10_round_3 : decode cX10_round 3 = .ok (.bipush 7, 2) := by decide +kernel
theorem dX10_round_5 : decode cX10_round 5 = .ok (.invokestatic 79, 3) := by decide +kernel
theorem dX10_round_8 : decode cX10_round 8 = .ok (.ifCond .eq 13, 3) := by decide +kernel
theorem dX10_round_11 : decode cX10_round 11 = .ok (.iload 5, 2) := by decide +kernel
theorem dX10_round_13 : decode cX10_round 13 = .ok (.iconst 0, 1) := by decide +kernel
theorem dX10_round_14 : decode cX10_round 14 = .ok (.iconst 1, 1) := by decide +kernel
theorem dX10_round_15 : decode cX10_round 15 = .ok (.invokestatic 79, 3) := by decide +kernel
theorem dX10_round_18 : decode cX10_round 18 = .ok (.ifCond .ne 5, 3) := by decide +kernel
theorem dX10_round_21 : decode cX10_round 21 = .ok (.iconst (-1), 1) := by decide +kernel
theorem dX10_round_22 : decode cX10_round 22 = .ok (.ireturn, 1) := by decide +kernel
theorem dX10_round_23 : decode cX10_round 23 = .ok (.aload_n 0, 1) := by decide +kernel
theorem dX10_round_24 : decode cX10_round 24 = .ok (.iload_n 1, 1) := by decide +kernel
theorem dX10_round_25 : decode cX10_round 25 = .ok (.iload_n 2, 1) := by decide +kernel
theorem dX10_round_26 : decode cX10_round 26 = .ok (.iload_n 3, 1) := by decide +kernel
theorem dX10_round_27 : decode cX10_round 27 = .ok (.iload 4, 2) := by decide +kernel
theorem dX10_round_29 : decode cX10_round 29 = .ok (.bipush 99, 2) := by decide +kernel
theorem dX10_round_31 : decode cX10_round 31 = .ok (.invokevirtual 306, 3) := by decide +kernel
theorem dX10_round_34 : decode cX10_round 34 = .ok (.istore 6, 2) := by decide +kernel
theorem dX10_round_36 : decode cX10_round 36 = .ok (.iload 6, 2) := by decide +kernel
theorem dX10_round_38 : decode cX10_round 38 = .ok (.ifCond .eq 6, 3) := by decide +kernel
theorem dX10_round_41 : decode cX10_round 41 = .ok (.iload 6, 2) := by decide +kernel
theorem dX10_round_43 : decode cX10_round 43 = .ok (.ireturn, 1) := by decide +kernel
theorem dX10_round_44 : decode cX10_round 44 = .ok (.aload_n 0, 1) := by decide +kernel
theorem dX10_round_45 : decode cX10_round 45 = .ok (.getfield 68, 3) := by decide +kernel
theorem dX10_round_48 : decode cX10_round 48 = .ok (.aload_n 0, 1) := by decide +kernel
theorem dX10_round_49 : decode cX10_round 49 = .ok (.getfield 39, 3) := by decide +kernel
theorem dX10_round_52 : decode cX10_round 52 = .ok (.iload_n 1, 1) := by decide +kernel
theorem dX10_round_53 : decode cX10_round 53 = .ok (.aaload, 1) := by decide +kernel
theorem dX10_round_54 : decode cX10_round 54 = .ok (.iload_n 3, 1) := by decide +kernel
theorem dX10_round_55 : decode cX10_round 55 = .ok (.iload 4, 2) := by decide +kernel
theorem dX10_round_57 : decode cX10_round 57 = .ok (.invokevirtual 310, 3) := by decide +kernel
theorem dX10_round_60 : decode cX10_round 60 = .ok (.iload 5, 2) := by decide +kernel
theorem dX10_round_62 : decode cX10_round 62 = .ok (.ifCond .ne 13, 3) := by decide +kernel
theorem dX10_round_65 : decode cX10_round 65 = .ok (.aload_n 0, 1) := by decide +kernel
theorem dX10_round_66 : decode cX10_round 66 = .ok (.getfield 68, 3) := by decide +kernel
theorem dX10_round_69 : decode cX10_round 69 = .ok (.getfield 314, 3) := by decide +kernel
theorem dX10_round_72 : decode cX10_round 72 = .ok (.goto 10, 3) := by decide +kernel
theorem dX10_round_75 : decode cX10_round 75 = .ok (.aload_n 0, 1) := by decide +kernel
theorem dX10_round_76 : decode cX10_round 76 = .ok (.getfield 68, 3) := by decide +kernel
theorem dX10_round_79 : decode cX10_round 79 = .ok (.getfield 317, 3) := by decide +kernel
theorem dX10_round_82 : decode cX10_round 82 = .ok (.ireturn, 1) := by decide +kernel
theorem dX10_goesOn_0 : decode cX10_goesOn 0 = .ok (.iload 4, 2) := by decide +kernel
theorem dX10_goesOn_2 : decode cX10_goesOn 2 = .ok (.iconst 0, 1) := by decide +kernel
theorem dX10_goesOn_3 : decode cX10_goesOn 3 = .ok (.bipush 12, 2) := by decide +kernel
theorem dX10_goesOn_5 : decode cX10_goesOn 5 = .ok (.invokestatic 79, 3) := by decide +kernel
theorem dX10_goesOn_8 : decode cX10_goesOn 8 = .ok (.ifCond .eq 15, 3) := by decide +kernel
theorem dX10_goesOn_11 : decode cX10_goesOn 11 = .ok (.iload 5, 2) := by decide +kernel
theorem dX10_goesOn_13 : decode cX10_goesOn 13 = .ok (.iconst 0, 1) := by decide +kernel
theorem dX10_goesOn_14 : decode cX10_goesOn 14 = .ok (.sipush 255, 3) := by decide +kernel
theorem dX10_goesOn_17 : decode cX10_goesOn 17 = .ok (.invokestatic 79, 3) := by decide +kernel
theorem dX10_goesOn_20 : decode cX10_goesOn 20 = .ok (.ifCond .ne 5, 3) := by decide +kernel
theorem dX10_goesOn_23 : decode cX10_goesOn 23 = .ok (.iconst (-1), 1) := by decide +kernel
theorem dX10_goesOn_24 : decode cX10_goesOn 24 = .ok (.ireturn, 1) := by decide +kernel
theorem dX10_goesOn_25 : decode cX10_goesOn 25 = .ok (.aload_n 0, 1) := by decide +kernel
theorem dX10_goesOn_26 : decode cX10_goesOn 26 = .ok (.iload_n 1, 1) := by decide +kernel
theorem dX10_goesOn_27 : decode cX10_goesOn 27 = .ok (.iload_n 2, 1) := by decide +kernel
theorem dX10_goesOn_28 : decode cX10_goesOn 28 = .ok (.iload_n 3, 1) := by decide +kernel
theorem dX10_goesOn_29 : decode cX10_goesOn 29 = .ok (.iload 4, 2) := by decide +kernel
theorem dX10_goesOn_31 : decode cX10_goesOn 31 = .ok (.bipush 7, 2) := by decide +kernel
theorem dX10_goesOn_33 : decode cX10_goesOn 33 = .ok (.invokevirtual 306, 3) := by decide +kernel
theorem dX10_goesOn_36 : decode cX10_goesOn 36 = .ok (.istore 6, 2) := by decide +kernel
theorem dX10_goesOn_38 : decode cX10_goesOn 38 = .ok (.iload 6, 2) := by decide +kernel
theorem dX10_goesOn_40 : decode cX10_goesOn 40 = .ok (.ifCond .eq 6, 3) := by decide +kernel
theorem dX10_goesOn_43 : decode cX10_goesOn 43 = .ok (.iload 6, 2) := by decide +kernel
theorem dX10_goesOn_45 : decode cX10_goesOn 45 = .ok (.ireturn, 1) := by decide +kernel
theorem dX10_goesOn_46 : decode cX10_goesOn 46 = .ok (.aload_n 0, 1) := by decide +kernel
theorem dX10_goesOn_47 : decode cX10_goesOn 47 = .ok (.getfield 75, 3) := by decide +kernel
theorem dX10_goesOn_50 : decode cX10_goesOn 50 = .ok (.aload_n 0, 1) := by decide +kernel
theorem dX10_goesOn_51 : decode cX10_goesOn 51 = .ok (.getfield 39, 3) := by decide +kernel
theorem dX10_goesOn_54 : decode cX10_goesOn 54 = .ok (.iload_n 1, 1) := by decide +kernel
theorem dX10_goesOn_55 : decode cX10_goesOn 55 = .ok (.aaload, 1) := by decide +kernel
theorem dX10_goesOn_56 : decode cX10_goesOn 56 = .ok (.iload_n 3, 1) := by decide +kernel
theorem dX10_goesOn_57 : decode cX10_goesOn 57 = .ok (.iload 4, 2) := by decide +kernel
theorem dX10_goesOn_59 : decode cX10_goesOn 59 = .ok (.invokevirtual 320, 3) := by decide +kernel
theorem dX10_goesOn_62 : decode cX10_goesOn 62 = .ok (.aload_n 0, 1) := by decide +kernel
theorem dX10_goesOn_63 : decode cX10_goesOn 63 = .ok (.getfield 75, 3) := by decide +kernel
theorem dX10_goesOn_66 : decode cX10_goesOn 66 = .ok (.iload 5, 2) := by decide +kernel
theorem dX10_goesOn_68 : decode cX10_goesOn 68 = .ok (.invokevirtual 323, 3) := by decide +kernel
theorem dX10_goesOn_71 : decode cX10_goesOn 71 = .ok (.ireturn, 1) := by decide +kernel
theorem dX10_told_0 : decode cX10_told 0 = .ok (.iload 4, 2) := by decide +kernel
theorem dX10_told_2 : decode cX10_told 2 = .ok (.iconst 0, 1) := by decide +kernel
theorem dX10_told_3 : decode cX10_told 3 = .ok (.bipush 12, 2) := by decide +kernel
theorem dX10_told_5 : decode cX10_told 5 = .ok (.invokestatic 79, 3) := by decide +kernel
theorem dX10_told_8 : decode cX10_told 8 = .ok (.ifCond .eq 13, 3) := by decide +kernel
theorem dX10_told_11 : decode cX10_told 11 = .ok (.iload 5, 2) := by decide +kernel
theorem dX10_told_13 : decode cX10_told 13 = .ok (.iconst 0, 1) := by decide +kernel
theorem dX10_told_14 : decode cX10_told 14 = .ok (.iconst 1, 1) := by decide +kernel
theorem dX10_told_15 : decode cX10_told 15 = .ok (.invokestatic 79, 3) := by decide +kernel
theorem dX10_told_18 : decode cX10_told 18 = .ok (.ifCond .ne 5, 3) := by decide +kernel
theorem dX10_told_21 : decode cX10_told 21 = .ok (.iconst (-1), 1) := by decide +kernel
theorem dX10_told_22 : decode cX10_told 22 = .ok (.ireturn, 1) := by decide +kernel
theorem dX10_told_23 : decode cX10_told 23 = .ok (.aload_n 0, 1) := by decide +kernel
theorem dX10_told_24 : decode cX10_told 24 = .ok (.iload_n 1, 1) := by decide +kernel
theorem dX10_told_25 : decode cX10_told 25 = .ok (.iload_n 2, 1) := by decide +kernel
theorem dX10_told_26 : decode cX10_told 26 = .ok (.iload_n 3, 1) := by decide +kernel
theorem dX10_told_27 : decode cX10_told 27 = .ok (.iload 4, 2) := by decide +kernel
theorem dX10_told_29 : decode cX10_told 29 = .ok (.bipush 7, 2) := by decide +kernel
theorem dX10_told_31 : decode cX10_told 31 = .ok (.invokevirtual 306, 3) := by decide +kernel
theorem dX10_told_34 : decode cX10_told 34 = .ok (.istore 6, 2) := by decide +kernel
theorem dX10_told_36 : decode cX10_told 36 = .ok (.iload 6, 2) := by decide +kernel
theorem dX10_told_38 : decode cX10_told 38 = .ok (.ifCond .eq 6, 3) := by decide +kernel
theorem dX10_told_41 : decode cX10_told 41 = .ok (.iload 6, 2) := by decide +kernel
theorem dX10_told_43 : decode cX10_told 43 = .ok (.ireturn, 1) := by decide +kernel
theorem dX10_told_44 : decode cX10_told 44 = .ok (.aload_n 0, 1) := by decide +kernel
theorem dX10_told_45 : decode cX10_told 45 = .ok (.getfield 75, 3) := by decide +kernel
theorem dX10_told_48 : decode cX10_told 48 = .ok (.aload_n 0, 1) := by decide +kernel
theorem dX10_told_49 : decode cX10_told 49 = .ok (.getfield 39, 3) := by decide +kernel
theorem dX10_told_52 : decode cX10_told 52 = .ok (.iload_n 1, 1) := by decide +kernel
theorem dX10_told_53 : decode cX10_told 53 = .ok (.aaload, 1) := by decide +kernel
theorem dX10_told_54 : decode cX10_told 54 = .ok (.iload_n 3, 1) := by decide +kernel
theorem dX10_told_55 : decode cX10_told 55 = .ok (.iload 4, 2) := by decide +kernel
theorem dX10_told_57 : decode cX10_told 57 = .ok (.invokevirtual 320, 3) := by decide +kernel
theorem dX10_told_60 : decode cX10_told 60 = .ok (.aload_n 0, 1) := by decide +kernel
theorem dX10_told_61 : decode cX10_told 61 = .ok (.getfield 75, 3) := by decide +kernel
theorem dX10_told_64 : decode cX10_told 64 = .ok (.invokevirtual 326, 3) := by decide +kernel
theorem dX10_told_67 : decode cX10_told 67 = .ok (.istore 7, 2) := by decide +kernel
theorem dX10_told_69 : decode cX10_told 69 = .ok (.iload 5, 2) := by decide +kernel
theorem dX10_told_71 : decode cX10_told 71 = .ok (.ifCond .ne 11, 3) := by decide +kernel
theorem dX10_told_74 : decode cX10_told 74 = .ok (.iload 7, 2) := by decide +kernel
theorem dX10_told_76 : decode cX10_told 76 = .ok (.invokestatic 329, 3) := by decide +kernel
theorem dX10_told_79 : decode cX10_told 79 = .ok (.goto 5, 3) := by decide +kernel
theorem dX10_told_82 : decode cX10_told 82 = .ok (.iload 7, 2) := by decide +kernel
theorem dX10_told_84 : decode cX10_told 84 = .ok (.ireturn, 1) := by decide +kernel
theorem dX10_ate_0 : decode cX10_ate 0 = .ok (.aload_n 0, 1) := by decide +kernel
theorem dX10_ate_1 : decode cX10_ate 1 = .ok (.getfield 19, 3) := by decide +kernel
theorem dX10_ate_4 : decode cX10_ate 4 = .ok (.iload_n 1, 1) := by decide +kernel
theorem dX10_ate_5 : decode cX10_ate 5 = .ok (.invokevirtual 108, 3) := by decide +kernel
theorem dX10_ate_8 : decode cX10_ate 8 = .ok (.ifCond .eq 24, 3) := by decide +kernel
theorem dX10_ate_11 : decode cX10_ate 11 = .ok (.iload 5, 2) := by decide +kernel
theorem dX10_ate_13 : decode cX10_ate 13 = .ok (.iconst 1, 1) := by decide +kernel
theorem dX10_ate_14 : decode cX10_ate 14 = .ok (.bipush 8, 2) := by decide +kernel
theorem dX10_ate_16 : decode cX10_ate 16 = .ok (.invokestatic 79, 3) := by decide +kernel
theorem dX10_ate_19 : decode cX10_ate 19 = .ok (.ifCond .eq 13, 3) := by decide +kernel
theorem dX10_ate_22 : decode cX10_ate 22 = .ok (.iload 6, 2) := by decide +kernel
theorem dX10_ate_24 : decode cX10_ate 24 = .ok (.iconst 0, 1) := by decide +kernel
theorem dX10_ate_25 : decode cX10_ate 25 = .ok (.iconst 1, 1) := by decide +kernel
theorem dX10_ate_26 : decode cX10_ate 26 = .ok (.invokestatic 79, 3) := by decide +kernel
theorem dX10_ate_29 : decode cX10_ate 29 = .ok (.ifCond .ne 5, 3) := by decide +kernel
theorem dX10_ate_32 : decode cX10_ate 32 = .ok (.iconst (-1), 1) := by decide +kernel
theorem dX10_ate_33 : decode cX10_ate 33 = .ok (.ireturn, 1) := by decide +kernel
theorem dX10_ate_34 : decode cX10_ate 34 = .ok (.aload_n 0, 1) := by decide +kernel
theorem dX10_ate_35 : decode cX10_ate 35 = .ok (.iload_n 2, 1) := by decide +kernel
theorem dX10_ate_36 : decode cX10_ate 36 = .ok (.iload_n 3, 1) := by decide +kernel
theorem dX10_ate_37 : decode cX10_ate 37 = .ok (.iload 4, 2) := by decide +kernel
theorem dX10_ate_39 : decode cX10_ate 39 = .ok (.iload 5, 2) := by decide +kernel
theorem dX10_ate_41 : decode cX10_ate 41 = .ok (.invokevirtual 279, 3) := by decide +kernel
theorem dX10_ate_44 : decode cX10_ate 44 = .ok (.istore 7, 2) := by decide +kernel
theorem dX10_ate_46 : decode cX10_ate 46 = .ok (.iload 7, 2) := by decide +kernel
theorem dX10_ate_48 : decode cX10_ate 48 = .ok (.ifCond .eq 6, 3) := by decide +kernel
theorem dX10_ate_51 : decode cX10_ate 51 = .ok (.iload 7, 2) := by decide +kernel
theorem dX10_ate_53 : decode cX10_ate 53 = .ok (.ireturn, 1) := by decide +kernel
theorem dX10_ate_54 : decode cX10_ate 54 = .ok (.aload_n 0, 1) := by decide +kernel
theorem dX10_ate_55 : decode cX10_ate 55 = .ok (.getfield 19, 3) := by decide +kernel
theorem dX10_ate_58 : decode cX10_ate 58 = .ok (.getfield 111, 3) := by decide +kernel
theorem dX10_ate_61 : decode cX10_ate 61 = .ok (.iload_n 1, 1) := by decide +kernel
theorem dX10_ate_62 : decode cX10_ate 62 = .ok (.aaload, 1) := by decide +kernel
theorem dX10_ate_63 : decode cX10_ate 63 = .ok (.astore 8, 2) := by decide +kernel
theorem dX10_ate_65 : decode cX10_ate 65 = .ok (.aload 8, 2) := by decide +kernel
theorem dX10_ate_67 : decode cX10_ate 67 = .ok (.invokevirtual 185, 3) := by decide +kernel
theorem dX10_ate_70 : decode cX10_ate 70 = .ok (.ifCond .ne 6, 3) := by decide +kernel
theorem dX10_ate_73 : decode cX10_ate 73 = .ok (.bipush (-2), 2) := by decide +kernel
theorem dX10_ate_75 : decode cX10_ate 75 = .ok (.ireturn, 1) := by decide +kernel
theorem dX10_ate_76 : decode cX10_ate 76 = .ok (.aload_n 0, 1) := by decide +kernel
theorem dX10_ate_77 : decode cX10_ate 77 = .ok (.getfield 47, 3) := by decide +kernel
theorem dX10_ate_80 : decode cX10_ate 80 = .ok (.aload_n 0, 1) := by decide +kernel
theorem dX10_ate_81 : decode cX10_ate 81 = .ok (.getfield 19, 3) := by decide +kernel
theorem dX10_ate_84 : decode cX10_ate 84 = .ok (.invokevirtual 210, 3) := by decide +kernel
theorem dX10_ate_87 : decode cX10_ate 87 = .ok (.aload_n 0, 1) := by decide +kernel
theorem dX10_ate_88 : decode cX10_ate 88 = .ok (.getfield 47, 3) := by decide +kernel
theorem dX10_ate_91 : decode cX10_ate 91 = .ok (.aload 8, 2) := by decide +kernel
theorem dX10_ate_93 : decode cX10_ate 93 = .ok (.aload_n 0, 1) := by decide +kernel
theorem dX10_ate_94 : decode cX10_ate 94 = .ok (.getfield 39, 3) := by decide +kernel
theorem dX10_ate_97 : decode cX10_ate 97 = .ok (.iload_n 2, 1) := by decide +kernel
theorem dX10_ate_98 : decode cX10_ate 98 = .ok (.aaload, 1) := by decide +kernel
theorem dX10_ate_99 : decode cX10_ate 99 = .ok (.iload 4, 2) := by decide +kernel
theorem dX10_ate_101 : decode cX10_ate 101 = .ok (.iload 5, 2) := by decide +kernel
theorem dX10_ate_103 : decode cX10_ate 103 = .ok (.invokevirtual 334, 3) := by decide +kernel
theorem dX10_ate_106 : decode cX10_ate 106 = .ok (.iload 6, 2) := by decide +kernel
theorem dX10_ate_108 : decode cX10_ate 108 = .ok (.ifCond .ne 13, 3) := by decide +kernel
theorem dX10_ate_111 : decode cX10_ate 111 = .ok (.aload_n 0, 1) := by decide +kernel
theorem dX10_ate_112 : decode cX10_ate 112 = .ok (.getfield 47, 3) := by decide +kernel
theorem dX10_ate_115 : decode cX10_ate 115 = .ok (.getfield 338, 3) := by decide +kernel
theorem dX10_ate_118 : decode cX10_ate 118 = .ok (.goto 10, 3) := by decide +kernel
theorem dX10_ate_121 : decode cX10_ate 121 = .ok (.aload_n 0, 1) := by decide +kernel
theorem dX10_ate_122 : decode cX10_ate 122 = .ok (.getfield 47, 3) := by decide +kernel
theorem dX10_ate_125 : decode cX10_ate 125 = .ok (.getfield 341, 3) := by decide +kernel
theorem dX10_ate_128 : decode cX10_ate 128 = .ok (.ireturn, 1) := by decide +kernel
theorem dX10_count_0 : decode cX10_count 0 = .ok (.iload_n 1, 1) := by decide +kernel
theorem dX10_count_1 : decode cX10_count 1 = .ok (.tableswitch 153 0 9 #[55, 63, 71, 79, 87, 95, 103, 111, 137, 145], 55) := by decide +kernel
theorem dX10_count_56 : decode cX10_count 56 = .ok (.aload_n 0, 1) := by decide +kernel
theorem dX10_count_57 : decode cX10_count 57 = .ok (.getfield 19, 3) := by decide +kernel
theorem dX10_count_60 : decode cX10_count 60 = .ok (.getfield 105, 3) := by decide +kernel
theorem dX10_count_63 : decode cX10_count 63 = .ok (.ireturn, 1) := by decide +kernel
theorem dX10_count_64 : decode cX10_count 64 = .ok (.aload_n 0, 1) := by decide +kernel
theorem dX10_count_65 : decode cX10_count 65 = .ok (.getfield 19, 3) := by decide +kernel
theorem dX10_count_68 : decode cX10_count 68 = .ok (.invokevirtual 175, 3) := by decide +kernel
theorem dX10_count_71 : decode cX10_count 71 = .ok (.ireturn, 1) := by decide +kernel
theorem dX10_count_72 : decode cX10_count 72 = .ok (.aload_n 0, 1) := by decide +kernel
theorem dX10_count_73 : decode cX10_count 73 = .ok (.getfield 19, 3) := by decide +kernel
theorem dX10_count_76 : decode cX10_count 76 = .ok (.getfield 166, 3) := by decide +kernel
theorem dX10_count_79 : decode cX10_count 79 = .ok (.ireturn, 1) := by decide +kernel
theorem dX10_count_80 : decode cX10_count 80 = .ok (.aload_n 0, 1) := by decide +kernel
theorem dX10_count_81 : decode cX10_count 81 = .ok (.getfield 19, 3) := by decide +kernel
theorem dX10_count_84 : decode cX10_count 84 = .ok (.getfield 344, 3) := by decide +kernel
theorem dX10_count_87 : decode cX10_count 87 = .ok (.ireturn, 1) := by decide +kernel
theorem dX10_count_88 : decode cX10_count 88 = .ok (.aload_n 0, 1) := by decide +kernel
theorem dX10_count_89 : decode cX10_count 89 = .ok (.getfield 19, 3) := by decide +kernel
theorem dX10_count_92 : decode cX10_count 92 = .ok (.getfield 197, 3) := by decide +kernel
theorem dX10_count_95 : decode cX10_count 95 = .ok (.ireturn, 1) := by decide +kernel
theorem dX10_count_96 : decode cX10_count 96 = .ok (.aload_n 0, 1) := by decide +kernel
theorem dX10_count_97 : decode cX10_count 97 = .ok (.getfield 19, 3) := by decide +kernel
theorem dX10_count_100 : decode cX10_count 100 = .ok (.invokevirtual 347, 3) := by decide +kernel
theorem dX10_count_103 : decode cX10_count 103 = .ok (.ireturn, 1) := by decide +kernel
theorem dX10_count_104 : decode cX10_count 104 = .ok (.aload_n 0, 1) := by decide +kernel
theorem dX10_count_105 : decode cX10_count 105 = .ok (.getfield 19, 3) := by decide +kernel
theorem dX10_count_108 : decode cX10_count 108 = .ok (.getfield 350, 3) := by decide +kernel
theorem dX10_count_111 : decode cX10_count 111 = .ok (.ireturn, 1) := by decide +kernel
theorem dX10_count_112 : decode cX10_count 112 = .ok (.aload_n 0, 1) := by decide +kernel
theorem dX10_count_113 : decode cX10_count 113 = .ok (.getfield 19, 3) := by decide +kernel
theorem dX10_count_116 : decode cX10_count 116 = .ok (.invokevirtual 163, 3) := by decide +kernel
theorem dX10_count_119 : decode cX10_count 119 = .ok (.ifCond .eq 17, 3) := by decide +kernel
theorem dX10_count_122 : decode cX10_count 122 = .ok (.aload_n 0, 1) := by decide +kernel
theorem dX10_count_123 : decode cX10_count 123 = .ok (.getfield 19, 3) := by decide +kernel
theorem dX10_count_126 : decode cX10_count 126 = .ok (.invokevirtual 151, 3) := by decide +kernel
theorem dX10_count_129 : decode cX10_count 129 = .ok (.ifCond .eq 7, 3) := by decide +kernel
theorem dX10_count_132 : decode cX10_count 132 = .ok (.iconst 1, 1) := by decide +kernel
theorem dX10_count_133 : decode cX10_count 133 = .ok (.goto 4, 3) := by decide +kernel
theorem dX10_count_136 : decode cX10_count 136 = .ok (.iconst 0, 1) := by decide +kernel
theorem dX10_count_137 : decode cX10_count 137 = .ok (.ireturn, 1) := by decide +kernel
theorem dX10_count_138 : decode cX10_count 138 = .ok (.aload_n 0, 1) := by decide +kernel
theorem dX10_count_139 : decode cX10_count 139 = .ok (.getfield 29, 3) := by decide +kernel
theorem dX10_count_142 : decode cX10_count 142 = .ok (.getfield 208, 3) := by decide +kernel
theorem dX10_count_145 : decode cX10_count 145 = .ok (.ireturn, 1) := by decide +kernel
theorem dX10_count_146 : decode cX10_count 146 = .ok (.aload_n 0, 1) := by decide +kernel
theorem dX10_count_147 : decode cX10_count 147 = .ok (.getfield 10, 3) := by decide +kernel
theorem dX10_count_150 : decode cX10_count 150 = .ok (.getfield 87, 3) := by decide +kernel
theorem dX10_count_153 : decode cX10_count 153 = .ok (.ireturn, 1) := by decide +kernel
theorem dX10_count_154 : decode cX10_count 154 = .ok (.iconst (-1), 1) := by decide +kernel
theorem dX10_count_155 : decode cX10_count 155 = .ok (.ireturn, 1) := by decide +kernel
theorem dX10_within_0 : decode cX10_within 0 = .ok (.iload_n 0, 1) := by decide +kernel
theorem dX10_within_1 : decode cX10_within 1 = .ok (.iload_n 1, 1) := by decide +kernel
theorem dX10_within_2 : decode cX10_within 2 = .ok (.if_icmp .lt 12, 3) := by decide +kernel
theorem dX10_within_5 : decode cX10_within 5 = .ok (.iload_n 0, 1) := by decide +kernel
theorem dX10_within_6 : decode cX10_within 6 = .ok (.iload_n 2, 1) := by decide +kernel
theorem dX10_within_7 : decode cX10_within 7 = .ok (.if_icmp .gt 7, 3) := by decide +kernel
theorem dX10_within_10 : decode cX10_within 10 = .ok (.iconst 1, 1) := by decide +kernel
theorem dX10_within_11 : decode cX10_within 11 = .ok (.goto 4, 3) := by decide +kernel
theorem dX10_within_14 : decode cX10_within 14 = .ok (.iconst 0, 1) := by decide +kernel
theorem dX10_within_15 : decode cX10_within 15 = .ok (.ireturn, 1) := by decide +kernel
theorem dX10_isUnder_0 : decode cX10_isUnder 0 = .ok (.iload_n 0, 1) := by decide +kernel
theorem dX10_isUnder_1 : decode cX10_isUnder 1 = .ok (.istore_n 2, 1) := by decide +kernel
theorem dX10_isUnder_2 : decode cX10_isUnder 2 = .ok (.iconst 0, 1) := by decide +kernel
theorem dX10_isUnder_3 : decode cX10_isUnder 3 = .ok (.istore_n 3, 1) := by decide +kernel
theorem dX10_isUnder_4 : decode cX10_isUnder 4 = .ok (.iload_n 3, 1) := by decide +kernel
theorem dX10_isUnder_5 : decode cX10_isUnder 5 = .ok (.bipush 6, 2) := by decide +kernel
theorem dX10_isUnder_7 : decode cX10_isUnder 7 = .ok (.if_icmp .ge 31, 3) := by decide +kernel
theorem dX10_isUnder_10 : decode cX10_isUnder 10 = .ok (.iload_n 2, 1) := by decide +kernel
theorem dX10_isUnder_11 : decode cX10_isUnder 11 = .ok (.iconst 0, 1) := by decide +kernel
theorem dX10_isUnder_12 : decode cX10_isUnder 12 = .ok (.iconst 5, 1) := by decide +kernel
theorem dX10_isUnder_13 : decode cX10_isUnder 13 = .ok (.invokestatic 79, 3) := by decide +kernel
theorem dX10_isUnder_16 : decode cX10_isUnder 16 = .ok (.ifCond .eq 22, 3) := by decide +kernel
theorem dX10_isUnder_19 : decode cX10_isUnder 19 = .ok (.iload_n 2, 1) := by decide +kernel
theorem dX10_isUnder_20 : decode cX10_isUnder 20 = .ok (.iload_n 1, 1) := by decide +kernel
theorem dX10_isUnder_21 : decode cX10_isUnder 21 = .ok (.if_icmp .ne 5, 3) := by decide +kernel
theorem dX10_isUnder_24 : decode cX10_isUnder 24 = .ok (.iconst 1, 1) := by decide +kernel
theorem dX10_isUnder_25 : decode cX10_isUnder 25 = .ok (.ireturn, 1) := by decide +kernel
theorem dX10_isUnder_26 : decode cX10_isUnder 26 = .ok (.getstatic 353, 3) := by decide +kernel
theorem dX10_isUnder_29 : decode cX10_isUnder 29 = .ok (.iload_n 2, 1) := by decide +kernel
theorem dX10_isUnder_30 : decode cX10_isUnder 30 = .ok (.iaload, 1) := by decide +kernel
theorem dX10_isUnder_31 : decode cX10_isUnder 31 = .ok (.istore_n 2, 1) := by decide +kernel
theorem dX10_isUnder_32 : decode cX10_isUnder 32 = .ok (.iinc 3 1, 3) := by decide +kernel
theorem dX10_isUnder_35 : decode cX10_isUnder 35 = .ok (.goto (-31), 3) := by decide +kernel
theorem dX10_isUnder_38 : decode cX10_isUnder 38 = .ok (.iconst 0, 1) := by decide +kernel
theorem dX10_isUnder_39 : decode cX10_isUnder 39 = .ok (.ireturn, 1) := by decide +kernel
theorem dX10_isDark_0 : decode cX10_isDark 0 = .ok (.iload_n 0, 1) := by decide +kernel
theorem dX10_isDark_1 : decode cX10_isDark 1 = .ok (.bipush 24, 2) := by decide +kernel
theorem dX10_isDark_3 : decode cX10_isDark 3 = .ok (.irem, 1) := by decide +kernel
theorem dX10_isDark_4 : decode cX10_isDark 4 = .ok (.iload_n 1, 1) := by decide +kernel
theorem dX10_isDark_5 : decode cX10_isDark 5 = .ok (.if_icmp .lt 7, 3) := by decide +kernel
theorem dX10_isDark_8 : decode cX10_isDark 8 = .ok (.iconst 1, 1) := by decide +kernel
theorem dX10_isDark_9 : decode cX10_isDark 9 = .ok (.goto 4, 3) := by decide +kernel
theorem dX10_isDark_12 : decode cX10_isDark 12 = .ok (.iconst 0, 1) := by decide +kernel
theorem dX10_isDark_13 : decode cX10_isDark 13 = .ok (.ireturn, 1) := by decide +kernel
theorem dX10_drawAfter_0 : decode cX10_drawAfter 0 = .ok (.ldc2_w 356, 3) := by decide +kernel
theorem dX10_drawAfter_3 : decode cX10_drawAfter 3 = .ok (.iload_n 0, 1) := by decide +kernel
theorem dX10_drawAfter_4 : decode cX10_drawAfter 4 = .ok (.i2l, 1) := by decide +kernel
theorem dX10_drawAfter_5 : decode cX10_drawAfter 5 = .ok (.lmul, 1) := by decide +kernel
theorem dX10_drawAfter_6 : decode cX10_drawAfter 6 = .ok (.ldc2_w 358, 3) := by decide +kernel
theorem dX10_drawAfter_9 : decode cX10_drawAfter 9 = .ok (.lrem, 1) := by decide +kernel
theorem dX10_drawAfter_10 : decode cX10_drawAfter 10 = .ok (.l2i, 1) := by decide +kernel
theorem dX10_drawAfter_11 : decode cX10_drawAfter 11 = .ok (.ireturn, 1) := by decide +kernel
theorem dX10_refusesOne_0 : decode cX10_refusesOne 0 = .ok (.aload_n 0, 1) := by decide +kernel
theorem dX10_refusesOne_1 : decode cX10_refusesOne 1 = .ok (.getfield 19, 3) := by decide +kernel
theorem dX10_refusesOne_4 : decode cX10_refusesOne 4 = .ok (.iload_n 1, 1) := by decide +kernel
theorem dX10_refusesOne_5 : decode cX10_refusesOne 5 = .ok (.invokevirtual 108, 3) := by decide +kernel
theorem dX10_refusesOne_8 : decode cX10_refusesOne 8 = .ok (.ifCond .ne 5, 3) := by decide +kernel
theorem dX10_refusesOne_11 : decode cX10_refusesOne 11 = .ok (.iconst (-1), 1) := by decide +kernel
theorem dX10_refusesOne_12 : decode cX10_refusesOne 12 = .ok (.ireturn, 1) := by decide +kernel
theorem dX10_refusesOne_13 : decode cX10_refusesOne 13 = .ok (.aload_n 0, 1) := by decide +kernel
theorem dX10_refusesOne_14 : decode cX10_refusesOne 14 = .ok (.getfield 19, 3) := by decide +kernel
theorem dX10_refusesOne_17 : decode cX10_refusesOne 17 = .ok (.getfield 111, 3) := by decide +kernel
theorem dX10_refusesOne_20 : decode cX10_refusesOne 20 = .ok (.iload_n 1, 1) := by decide +kernel
theorem dX10_refusesOne_21 : decode cX10_refusesOne 21 = .ok (.aaload, 1) := by decide +kernel
theorem dX10_refusesOne_22 : decode cX10_refusesOne 22 = .ok (.invokevirtual 185, 3) := by decide +kernel
theorem dX10_refusesOne_25 : decode cX10_refusesOne 25 = .ok (.ifCond .eq 7, 3) := by decide +kernel
theorem dX10_refusesOne_28 : decode cX10_refusesOne 28 = .ok (.iconst 0, 1) := by decide +kernel
theorem dX10_refusesOne_29 : decode cX10_refusesOne 29 = .ok (.goto 5, 3) := by decide +kernel
theorem dX10_refusesOne_32 : decode cX10_refusesOne 32 = .ok (.bipush (-2), 2) := by decide +kernel
theorem dX10_refusesOne_34 : decode cX10_refusesOne 34 = .ok (.ireturn, 1) := by decide +kernel
theorem dX10_refusesTwo_0 : decode cX10_refusesTwo 0 = .ok (.aload_n 0, 1) := by decide +kernel
theorem dX10_refusesTwo_1 : decode cX10_refusesTwo 1 = .ok (.getfield 19, 3) := by decide +kernel
theorem dX10_refusesTwo_4 : decode cX10_refusesTwo 4 = .ok (.iload_n 1, 1) := by decide +kernel
theorem dX10_refusesTwo_5 : decode cX10_refusesTwo 5 = .ok (.invokevirtual 108, 3) := by decide +kernel
theorem dX10_refusesTwo_8 : decode cX10_refusesTwo 8 = .ok (.ifCond .eq 19, 3) := by decide +kernel
theorem dX10_refusesTwo_11 : decode cX10_refusesTwo 11 = .ok (.aload_n 0, 1) := by decide +kernel
theorem dX10_refusesTwo_12 : decode cX10_refusesTwo 12 = .ok (.getfield 19, 3) := by decide +kernel
theorem dX10_refusesTwo_15 : decode cX10_refusesTwo 15 = .ok (.iload_n 2, 1) := by decide +kernel
theorem dX10_refusesTwo_16 : decode cX10_refusesTwo 16 = .ok (.invokevirtual 108, 3) := by decide +kernel
theorem dX10_refusesTwo_19 : decode cX10_refusesTwo 19 = .ok (.ifCond .eq 8, 3) := by decide +kernel
theorem dX10_refusesTwo_22 : decode cX10_refusesTwo 22 = .ok (.iload_n 1, 1) := by decide +kernel
theorem dX10_refusesTwo_23 : decode cX10_refusesTwo 23 = .ok (.iload_n 2, 1) := by decide +kernel
theorem dX10_refusesTwo_24 : decode cX10_refusesTwo 24 = .ok (.if_icmp .ne 5, 3) := by decide +kernel
theorem dX10_refusesTwo_27 : decode cX10_refusesTwo 27 = .ok (.iconst (-1), 1) := by decide +kernel
theorem dX10_refusesTwo_28 : decode cX10_refusesTwo 28 = .ok (.ireturn, 1) := by decide +kernel
theorem dX10_refusesTwo_29 : decode cX10_refusesTwo 29 = .ok (.aload_n 0, 1) := by decide +kernel
theorem dX10_refusesTwo_30 : decode cX10_refusesTwo 30 = .ok (.getfield 19, 3) := by decide +kernel
theorem dX10_refusesTwo_33 : decode cX10_refusesTwo 33 = .ok (.getfield 111, 3) := by decide +kernel
theorem dX10_refusesTwo_36 : decode cX10_refusesTwo 36 = .ok (.iload_n 1, 1) := by decide +kernel
theorem dX10_refusesTwo_37 : decode cX10_refusesTwo 37 = .ok (.aaload, 1) := by decide +kernel
theorem dX10_refusesTwo_38 : decode cX10_refusesTwo 38 = .ok (.invokevirtual 185, 3) := by decide +kernel
theorem dX10_refusesTwo_41 : decode cX10_refusesTwo 41 = .ok (.ifCond .eq 22, 3) := by decide +kernel
theorem dX10_refusesTwo_44 : decode cX10_refusesTwo 44 = .ok (.aload_n 0, 1) := by decide +kernel
theorem dX10_refusesTwo_45 : decode cX10_refusesTwo 45 = .ok (.getfield 19, 3) := by decide +kernel
theorem dX10_refusesTwo_48 : decode cX10_refusesTwo 48 = .ok (.getfield 111, 3) := by decide +kernel
theorem dX10_refusesTwo_51 : decode cX10_refusesTwo 51 = .ok (.iload_n 2, 1) := by decide +kernel
theorem dX10_refusesTwo_52 : decode cX10_refusesTwo 52 = .ok (.aaload, 1) := by decide +kernel
theorem dX10_refusesTwo_53 : decode cX10_refusesTwo 53 = .ok (.invokevirtual 185, 3) := by decide +kernel
theorem dX10_refusesTwo_56 : decode cX10_refusesTwo 56 = .ok (.ifCond .eq 7, 3) := by decide +kernel
theorem dX10_refusesTwo_59 : decode cX10_refusesTwo 59 = .ok (.iconst 0, 1) := by decide +kernel
theorem dX10_refusesTwo_60 : decode cX10_refusesTwo 60 = .ok (.goto 5, 3) := by decide +kernel
theorem dX10_refusesTwo_63 : decode cX10_refusesTwo 63 = .ok (.bipush (-2), 2) := by decide +kernel
theorem dX10_refusesTwo_65 : decode cX10_refusesTwo 65 = .ok (.ireturn, 1) := by decide +kernel
theorem dX10_refusesRow_0 : decode cX10_refusesRow 0 = .ok (.iload_n 1, 1) := by decide +kernel
theorem dX10_refusesRow_1 : decode cX10_refusesRow 1 = .ok (.iconst 0, 1) := by decide +kernel
theorem dX10_refusesRow_2 : decode cX10_refusesRow 2 = .ok (.iconst 3, 1) := by decide +kernel
theorem dX10_refusesRow_3 : decode cX10_refusesRow 3 = .ok (.invokestatic 79, 3) := by decide +kernel
theorem dX10_refusesRow_6 : decode cX10_refusesRow 6 = .ok (.ifCond .eq 12, 3) := by decide +kernel
theorem dX10_refusesRow_9 : decode cX10_refusesRow 9 = .ok (.iload_n 2, 1) := by decide +kernel
theorem dX10_refusesRow_10 : decode cX10_refusesRow 10 = .ok (.iconst 0, 1) := by decide +kernel
theorem dX10_refusesRow_11 : decode cX10_refusesRow 11 = .ok (.iconst 3, 1) := by decide +kernel
theorem dX10_refusesRow_12 : decode cX10_refusesRow 12 = .ok (.invokestatic 79, 3) := by decide +kernel
theorem dX10_refusesRow_15 : decode cX10_refusesRow 15 = .ok (.ifCond .ne 5, 3) := by decide +kernel
theorem dX10_refusesRow_18 : decode cX10_refusesRow 18 = .ok (.iconst (-1), 1) := by decide +kernel
theorem dX10_refusesRow_19 : decode cX10_refusesRow 19 = .ok (.ireturn, 1) := by decide +kernel
theorem dX10_refusesRow_20 : decode cX10_refusesRow 20 = .ok (.aload_n 0, 1) := by decide +kernel
theorem dX10_refusesRow_21 : decode cX10_refusesRow 21 = .ok (.getfield 39, 3) := by decide +kernel
theorem dX10_refusesRow_24 : decode cX10_refusesRow 24 = .ok (.iload_n 1, 1) := by decide +kernel
theorem dX10_refusesRow_25 : decode cX10_refusesRow 25 = .ok (.aaload, 1) := by decide +kernel
theorem dX10_refusesRow_26 : decode cX10_refusesRow 26 = .ok (.astore 5, 2) := by decide +kernel
theorem dX10_refusesRow_28 : decode cX10_refusesRow 28 = .ok (.aload 5, 2) := by decide +kernel
theorem dX10_refusesRow_30 : decode cX10_refusesRow 30 = .ok (.invokevirtual 272, 3) := by decide +kernel
theorem dX10_refusesRow_33 : decode cX10_refusesRow 33 = .ok (.ifCond .eq 6, 3) := by decide +kernel
theorem dX10_refusesRow_36 : decode cX10_refusesRow 36 = .ok (.bipush (-11), 2) := by decide +kernel
theorem dX10_refusesRow_38 : decode cX10_refusesRow 38 = .ok (.ireturn, 1) := by decide +kernel
theorem dX10_refusesRow_39 : decode cX10_refusesRow 39 = .ok (.aload 5, 2) := by decide +kernel
theorem dX10_refusesRow_41 : decode cX10_refusesRow 41 = .ok (.getfield 290, 3) := by decide +kernel
theorem dX10_refusesRow_44 : decode cX10_refusesRow 44 = .ok (.iload_n 2, 1) := by decide +kernel
theorem dX10_refusesRow_45 : decode cX10_refusesRow 45 = .ok (.if_icmp .eq 6, 3) := by decide +kernel
theorem dX10_refusesRow_48 : decode cX10_refusesRow 48 = .ok (.bipush (-12), 2) := by decide +kernel
theorem dX10_refusesRow_50 : decode cX10_refusesRow 50 = .ok (.ireturn, 1) := by decide +kernel
theorem dX10_refusesRow_51 : decode cX10_refusesRow 51 = .ok (.aload 5, 2) := by decide +kernel
theorem dX10_refusesRow_53 : decode cX10_refusesRow 53 = .ok (.iload_n 3, 1) := by decide +kernel
theorem dX10_refusesRow_54 : decode cX10_refusesRow 54 = .ok (.iload 4, 2) := by decide +kernel
theorem dX10_refusesRow_56 : decode cX10_refusesRow 56 = .ok (.invokevirtual 293, 3) := by decide +kernel
theorem dX10_refusesRow_59 : decode cX10_refusesRow 59 = .ok (.ifCond .eq 7, 3) := by decide +kernel
theorem dX10_refusesRow_62 : decode cX10_refusesRow 62 = .ok (.iconst 0, 1) := by decide +kernel
theorem dX10_refusesRow_63 : decode cX10_refusesRow 63 = .ok (.goto 5, 3) := by decide +kernel
theorem dX10_refusesRow_66 : decode cX10_refusesRow 66 = .ok (.bipush (-13), 2) := by decide +kernel
theorem dX10_refusesRow_68 : decode cX10_refusesRow 68 = .ok (.ireturn, 1) := by decide +kernel
theorem dX10_refusesPairs_0 : decode cX10_refusesPairs 0 = .ok (.aload_n 0, 1) := by decide +kernel
theorem dX10_refusesPairs_1 : decode cX10_refusesPairs 1 = .ok (.iload_n 1, 1) := by decide +kernel
theorem dX10_refusesPairs_2 : decode cX10_refusesPairs 2 = .ok (.iload_n 2, 1) := by decide +kernel
theorem dX10_refusesPairs_3 : decode cX10_refusesPairs 3 = .ok (.iload_n 3, 1) := by decide +kernel
theorem dX10_refusesPairs_4 : decode cX10_refusesPairs 4 = .ok (.iconst 2, 1) := by decide +kernel
theorem dX10_refusesPairs_5 : decode cX10_refusesPairs 5 = .ok (.iload 4, 2) := by decide +kernel
theorem dX10_refusesPairs_7 : decode cX10_refusesPairs 7 = .ok (.imul, 1) := by decide +kernel
theorem dX10_refusesPairs_8 : decode cX10_refusesPairs 8 = .ok (.invokevirtual 279, 3) := by decide +kernel
theorem dX10_refusesPairs_11 : decode cX10_refusesPairs 11 = .ok (.istore 6, 2) := by decide +kernel
theorem dX10_refusesPairs_13 : decode cX10_refusesPairs 13 = .ok (.iload 6, 2) := by decide +kernel
theorem dX10_refusesPairs_15 : decode cX10_refusesPairs 15 = .ok (.ifCond .eq 6, 3) := by decide +kernel
theorem dX10_refusesPairs_18 : decode cX10_refusesPairs 18 = .ok (.iload 6, 2) := by decide +kernel
theorem dX10_refusesPairs_20 : decode cX10_refusesPairs 20 = .ok (.ireturn, 1) := by decide +kernel
theorem dX10_refusesPairs_21 : decode cX10_refusesPairs 21 = .ok (.aload_n 0, 1) := by decide +kernel
theorem dX10_refusesPairs_22 : decode cX10_refusesPairs 22 = .ok (.getfield 39, 3) := by decide +kernel
theorem dX10_refusesPairs_25 : decode cX10_refusesPairs 25 = .ok (.iload_n 1, 1) := by decide +kernel
theorem dX10_refusesPairs_26 : decode cX10_refusesPairs 26 = .ok (.aaload, 1) := by decide +kernel
theorem dX10_refusesPairs_27 : decode cX10_refusesPairs 27 = .ok (.iload_n 3, 1) := by decide +kernel
theorem dX10_refusesPairs_28 : decode cX10_refusesPairs 28 = .ok (.iconst 2, 1) := by decide +kernel
theorem dX10_refusesPairs_29 : decode cX10_refusesPairs 29 = .ok (.iload 4, 2) := by decide +kernel
theorem dX10_refusesPairs_31 : decode cX10_refusesPairs 31 = .ok (.imul, 1) := by decide +kernel
theorem dX10_refusesPairs_32 : decode cX10_refusesPairs 32 = .ok (.iload 5, 2) := by decide +kernel
theorem dX10_refusesPairs_34 : decode cX10_refusesPairs 34 = .ok (.invokevirtual 360, 3) := by decide +kernel
theorem dX10_refusesPairs_37 : decode cX10_refusesPairs 37 = .ok (.ifCond .eq 7, 3) := by decide +kernel
theorem dX10_refusesPairs_40 : decode cX10_refusesPairs 40 = .ok (.iconst 0, 1) := by decide +kernel
theorem dX10_refusesPairs_41 : decode cX10_refusesPairs 41 = .ok (.goto 5, 3) := by decide +kernel
theorem dX10_refusesPairs_44 : decode cX10_refusesPairs 44 = .ok (.bipush (-2), 2) := by decide +kernel
theorem dX10_refusesPairs_46 : decode cX10_refusesPairs 46 = .ok (.ireturn, 1) := by decide +kernel
theorem dX11_init_0 : decode cX11_init 0 = .ok (.aload_n 0, 1) := by decide +kernel
theorem dX11_init_1 : decode cX11_init 1 = .ok (.invokespecial 1, 3) := by decide +kernel
theorem dX11_init_4 : decode cX11_init 4 = .ok (.aload_n 0, 1) := by decide +kernel
theorem dX11_init_5 : decode cX11_init 5 = .ok (.sipush 1752, 3) := by decide +kernel
theorem dX11_init_8 : decode cX11_init 8 = .ok (.newarray .int, 2) := by decide +kernel
theorem dX11_init_10 : decode cX11_init 10 = .ok (.putfield 7, 3) := by decide +kernel
theorem dX11_init_13 : decode cX11_init 13 = .ok (.aload_n 0, 1) := by decide +kernel
theorem dX11_init_14 : decode cX11_init 14 = .ok (.iconst 2, 1) := by decide +kernel
theorem dX11_init_15 : decode cX11_init 15 = .ok (.newarray .boolean, 2) := by decide +kernel
theorem dX11_init_17 : decode cX11_init 17 = .ok (.putfield 13, 3) := by decide +kernel
theorem dX11_init_20 : decode cX11_init 20 = .ok (.aload_n 0, 1) := by decide +kernel
theorem dX11_init_21 : decode cX11_init 21 = .ok (.bipush 96, 2) := by decide +kernel
theorem dX11_init_23 : decode cX11_init 23 = .ok (.newarray .long, 2) := by decide +kernel
theorem dX11_init_25 : decode cX11_init 25 = .ok (.putfield 17, 3) := by decide +kernel
theorem dX11_init_28 : decode cX11_init 28 = .ok (.aload_n 0, 1) := by decide +kernel
theorem dX11_init_29 : decode cX11_init 29 = .ok (.iconst 4, 1) := by decide +kernel
theorem dX11_init_30 : decode cX11_init 30 = .ok (.newarray .int, 2) := by decide +kernel
theorem dX11_init_32 : decode cX11_init 32 = .ok (.putfield 21, 3) := by decide +kernel
theorem dX11_init_35 : decode cX11_init 35 = .ok (.aload_n 0, 1) := by decide +kernel
theorem dX11_init_36 : decode cX11_init 36 = .ok (.iconst 4, 1) := by decide +kernel
theorem dX11_init_37 : decode cX11_init 37 = .ok (.newarray .int, 2) := by decide +kernel
theorem dX11_init_39 : decode cX11_init 39 = .ok (.putfield 24, 3) := by decide +kernel
theorem dX11_init_42 : decode cX11_init 42 = .ok (.aload_n 0, 1) := by decide +kernel
theorem dX11_init_43 : decode cX11_init 43 = .ok (.bipush 90, 2) := by decide +kernel
theorem dX11_init_45 : decode cX11_init 45 = .ok (.newarray .int, 2) := by decide +kernel
theorem dX11_init_47 : decode cX11_init 47 = .ok (.putfield 27, 3) := by decide +kernel
theorem dX11_init_50 : decode cX11_init 50 = .ok (.aload_n 0, 1) := by decide +kernel
theorem dX11_init_51 : decode cX11_init 51 = .ok (.bipush 40, 2) := by decide +kernel
theorem dX11_init_53 : decode cX11_init 53 = .ok (.newarray .int, 2) := by decide +kernel
theorem dX11_init_55 : decode cX11_init 55 = .ok (.putfield 30, 3) := by decide +kernel
theorem dX11_init_58 : decode cX11_init 58 = .ok (.aload_n 0, 1) := by decide +kernel
theorem dX11_init_59 : decode cX11_init 59 = .ok (.sipush 729, 3) := by decide +kernel
theorem dX11_init_62 : decode cX11_init 62 = .ok (.newarray .int, 2) := by decide +kernel
theorem dX11_init_64 : decode cX11_init 64 = .ok (.putfield 33, 3) := by decide +kernel
theorem dX11_init_67 : decode cX11_init 67 = .ok (.aload_n 0, 1) := by decide +kernel
theorem dX11_init_68 : decode cX11_init 68 = .ok (.bipush 24, 2) := by decide +kernel
theorem dX11_init_70 : decode cX11_init 70 = .ok (.newarray .long, 2) := by decide +kernel
theorem dX11_init_72 : decode cX11_init 72 = .ok (.putfield 36, 3) := by decide +kernel
theorem dX11_init_75 : decode cX11_init 75 = .ok (.aload_n 0, 1) := by decide +kernel
theorem dX11_init_76 : decode cX11_init 76 = .ok (.sipush 448, 3) := by decide +kernel
theorem dX11_init_79 : decode cX11_init 79 = .ok (.newarray .int, 2) := by decide +kernel
theorem dX11_init_81 : decode cX11_init 81 = .ok (.putfield 39, 3) := by decide +kernel
theorem dX11_init_84 : decode cX11_init 84 = .ok (.aload_n 0, 1) := by decide +kernel
theorem dX11_init_85 : decode cX11_init 85 = .ok (.getfield 7, 3) := by decide +kernel
theorem dX11_init_88 : decode cX11_init 88 = .ok (.bipush 6, 2) := by decide +kernel
theorem dX11_init_90 : decode cX11_init 90 = .ok (.iconst 1, 1) := by decide +kernel
theorem dX11_init_91 : decode cX11_init 91 = .ok (.iastore, 1) := by decide +kernel
theorem dX11_init_92 : decode cX11_init 92 = .ok (.iconst 0, 1) := by decide +kernel
theorem dX11_init_93 : decode cX11_init 93 = .ok (.istore_n 1, 1) := by decide +kernel
theorem dX11_init_94 : decode cX11_init 94 = .ok (.iload_n 1, 1) := by decide +kernel
theorem dX11_init_95 : decode cX11_init 95 = .ok (.iconst 4, 1) := by decide +kernel
theorem dX11_init_96 : decode cX11_init 96 = .ok (.if_icmp .ge 16, 3) := by decide +kernel
theorem dX11_init_99 : decode cX11_init 99 = .ok (.aload_n 0, 1) := by decide +kernel
theorem dX11_init_100 : decode cX11_init 100 = .ok (.getfield 24, 3) := by decide +kernel
theorem dX11_init_103 : decode cX11_init 103 = .ok (.iload_n 1, 1) := by decide +kernel
theorem dX11_init_104 : decode cX11_init 104 = .ok (.iconst (-1), 1) := by decide +kernel
theorem dX11_init_105 : decode cX11_init 105 = .ok (.iastore, 1) := by decide +kernel
theorem dX11_init_106 : decode cX11_init 106 = .ok (.iinc 1 1, 3) := by decide +kernel
theorem dX11_init_109 : decode cX11_init 109 = .ok (.goto (-15), 3) := by decide +kernel
theorem dX11_init_112 : decode cX11_init 112 = .ok (.return_, 1) := by decide +kernel
theorem dX11_in_0 : decode cX11_in 0 = .ok (.lload_n 0, 1) := by decide +kernel
theorem dX11_in_1 : decode cX11_in 1 = .ok (.lload_n 2, 1) := by decide +kernel
theorem dX11_in_2 : decode cX11_in 2 = .ok (.lcmp, 1) := by decide +kernel
theorem dX11_in_3 : decode cX11_in 3 = .ok (.ifCond .lt 14, 3) := by decide +kernel
theorem dX11_in_6 : decode cX11_in 6 = .ok (.lload_n 0, 1) := by decide +kernel
theorem dX11_in_7 : decode cX11_in 7 = .ok (.lload 4, 2) := by decide +kernel
theorem dX11_in_9 : decode cX11_in 9 = .ok (.lcmp, 1) := by decide +kernel
theorem dX11_in_10 : decode cX11_in 10 = .ok (.ifCond .gt 7, 3) := by decide +kernel
theorem dX11_in_13 : decode cX11_in 13 = .ok (.iconst 1, 1) := by decide +kernel
theorem dX11_in_14 : decode cX11_in 14 = .ok (.goto 4, 3) := by decide +kernel
theorem dX11_in_17 : decode cX11_in 17 = .ok (.iconst 0, 1) := by decide +kernel
theorem dX11_in_18 : decode cX11_in 18 = .ok (.ireturn, 1) := by decide +kernel
theorem dX11_has_0 : decode cX11_has 0 = .ok (.iload_n 0, 1) := by decide +kernel
theorem dX11_has_1 : decode cX11_has 1 = .ok (.iload_n 1, 1) := by decide +kernel
theorem dX11_has_2 : decode cX11_has 2 = .ok (.ishr, 1) := by decide +kernel
theorem dX11_has_3 : decode cX11_has 3 = .ok (.iconst 1, 1) := by decide +kernel
theorem dX11_has_4 : decode cX11_has 4 = .ok (.iand, 1) := by decide +kernel
theorem dX11_has_5 : decode cX11_has 5 = .ok (.iconst 1, 1) := by decide +kernel
theorem dX11_has_6 : decode cX11_has 6 = .ok (.if_icmp .ne 7, 3) := by decide +kernel
theorem dX11_has_9 : decode cX11_has 9 = .ok (.iconst 1, 1) := by decide +kernel
theorem dX11_has_10 : decode cX11_has 10 = .ok (.goto 4, 3) := by decide +kernel
theorem dX11_has_13 : decode cX11_has 13 = .ok (.iconst 0, 1) := by decide +kernel
theorem dX11_has_14 : decode cX11_has 14 = .ok (.ireturn, 1) := by decide +kernel
theorem dX11_ones_0 : decode cX11_ones 0 = .ok (.iconst 0, 1) := by decide +kernel
theorem dX11_ones_1 : decode cX11_ones 1 = .ok (.istore_n 1, 1) := by decide +kernel
theorem dX11_ones_2 : decode cX11_ones 2 = .ok (.iconst 0, 1) := by decide +kernel
theorem dX11_ones_3 : decode cX11_ones 3 = .ok (.istore_n 2, 1) := by decide +kernel
theorem dX11_ones_4 : decode cX11_ones 4 = .ok (.iload_n 2, 1) := by decide +kernel
theorem dX11_ones_5 : decode cX11_ones 5 = .ok (.bipush 8, 2) := by decide +kernel
theorem dX11_ones_7 : decode cX11_ones 7 = .ok (.if_icmp .ge 17, 3) := by decide +kernel
theorem dX11_ones_10 : decode cX11_ones 10 = .ok (.iload_n 1, 1) := by decide +kernel
theorem dX11_ones_11 : decode cX11_ones 11 = .ok (.iload_n 0, 1) := by decide +kernel
theorem dX11_ones_12 : decode cX11_ones 12 = .ok (.iload_n 2, 1) := by decide +kernel
theorem dX11_ones_13 : decode cX11_ones 13 = .ok (.ishr, 1) := by decide +kernel
theorem dX11_ones_14 : decode cX11_ones 14 = .ok (.iconst 1, 1) := by decide +kernel
theorem dX11_ones_15 : decode cX11_ones 15 = .ok (.iand, 1) := by decide +kernel
theorem dX11_ones_16 : decode cX11_ones 16 = .ok (.iadd, 1) := by decide +kernel
theorem dX11_ones_17 : decode cX11_ones 17 = .ok (.istore_n 1, 1) := by decide +kernel
theorem dX11_ones_18 : decode cX11_ones 18 = .ok (.iinc 2 1, 3) := by decide +kernel
theorem dX11_ones_21 : decode cX11_ones 21 = .ok (.goto (-17), 3) := by decide +kernel
theorem dX11_ones_24 : decode cX11_ones 24 = .ok (.iload_n 1, 1) := by decide +kernel
theorem dX11_ones_25 : decode cX11_ones 25 = .ok (.ireturn, 1) := by decide +kernel
theorem dX11_copyRow_0 : decode cX11_copyRow 0 = .ok (.iconst 0, 1) := by decide +kernel
theorem dX11_copyRow_1 : decode cX11_copyRow 1 = .ok (.istore_n 3, 1) := by decide +kernel
theorem dX11_copyRow_2 : decode cX11_copyRow 2 = .ok (.iload_n 3, 1) := by decide +kernel
theorem dX11_copyRow_3 : decode cX11_copyRow 3 = .ok (.bipush 73, 2) := by decide +kernel
theorem dX11_copyRow_5 : decode cX11_copyRow 5 = .ok (.if_icmp .ge 25, 3) := by decide +kernel
theorem dX11_copyRow_8 : decode cX11_copyRow 8 = .ok (.aload_n 0, 1) := by decide +kernel
theorem dX11_copyRow_9 : decode cX11_copyRow 9 = .ok (.getfield 7, 3) := by decide +kernel
theorem dX11_copyRow_12 : decode cX11_copyRow 12 = .ok (.iload_n 2, 1) := by decide +kernel
theorem dX11_copyRow_13 : decode cX11_copyRow 13 = .ok (.iload_n 3, 1) := by decide +kernel
theorem dX11_copyRow_14 : decode cX11_copyRow 14 = .ok (.iadd, 1) := by decide +kernel
theorem dX11_copyRow_15 : decode cX11_copyRow 15 = .ok (.aload_n 0, 1) := by decide +kernel
theorem dX11_copyRow_16 : decode cX11_copyRow 16 = .ok (.getfield 7, 3) := by decide +kernel
theorem dX11_copyRow_19 : decode cX11_copyRow 19 = .ok (.iload_n 1, 1) := by decide +kernel
theorem dX11_copyRow_20 : decode cX11_copyRow 20 = .ok (.iload_n 3, 1) := by decide +kernel
theorem dX11_copyRow_21 : decode cX11_copyRow 21 = .ok (.iadd, 1) := by decide +kernel
theorem dX11_copyRow_22 : decode cX11_copyRow 22 = .ok (.iaload, 1) := by decide +kernel
theorem dX11_copyRow_23 : decode cX11_copyRow 23 = .ok (.iastore, 1) := by decide +kernel
theorem dX11_copyRow_24 : decode cX11_copyRow 24 = .ok (.iinc 3 1, 3) := by decide +kernel
theorem dX11_copyRow_27 : decode cX11_copyRow 27 = .ok (.goto (-25), 3) := by decide +kernel
theorem dX11_copyRow_30 : decode cX11_copyRow 30 = .ok (.return_, 1) := by decide +kernel
theorem dX11_isSitter_0 : decode cX11_isSitter 0 = .ok (.iload_n 1, 1) := by decide +kernel
theorem dX11_isSitter_1 : decode cX11_isSitter 1 = .ok (.i2l, 1) := by decide +kernel
theorem dX11_isSitter_2 : decode cX11_isSitter 2 = .ok (.lconst 0, 1) := by decide +kernel
theorem dX11_isSitter_3 : decode cX11_isSitter 3 = .ok (.aload_n 0, 1) := by decide +kernel
theorem dX11_isSitter_4 : decode cX11_isSitter 4 = .ok (.getfield 7, 3) := by decide +kernel
theorem dX11_isSitter_7 : decode cX11_isSitter 7 = .ok (.iconst 1, 1) := by decide +kernel
theorem dX11_isSitter_8 : decode cX11_isSitter 8 = .ok (.iaload, 1) := by decide +kernel
theorem dX11_isSitter_9 : decode cX11_isSitter 9 = .ok (.iconst 1, 1) := by decide +kernel
theorem dX11_isSitter_10 : decode cX11_isSitter 10 = .ok (.isub, 1) := by decide +kernel
theorem dX11_isSitter_11 : decode cX11_isSitter 11 = .ok (.i2l, 1) := by decide +kernel
theorem dX11_isSitter_12 : decode cX11_isSitter 12 = .ok (.invokestatic 42, 3) := by decide +kernel
theorem dX11_isSitter_15 : decode cX11_isSitter 15 = .ok (.ireturn, 1) := by decide +kernel
theorem dX11_isDown_0 : decode cX11_isDown 0 = .ok (.aload_n 0, 1) := by decide +kernel
theorem dX11_isDown_1 : decode cX11_isDown 1 = .ok (.getfield 7, 3) := by decide +kernel
theorem dX11_isDown_4 : decode cX11_isDown 4 = .ok (.iload_n 1, 1) := by decide +kernel
theorem dX11_isDown_5 : decode cX11_isDown 5 = .ok (.bipush 67, 2) := by decide +kernel
theorem dX11_isDown_7 : decode cX11_isDown 7 = .ok (.iadd, 1) := by decide +kernel
theorem dX11_isDown_8 : decode cX11_isDown 8 = .ok (.iload_n 2, 1) := by decide +kernel
theorem dX11_isDown_9 : decode cX11_isDown 9 = .ok (.iadd, 1) := by decide +kernel
theorem dX11_isDown_10 : decode cX11_isDown 10 = .ok (.iaload, 1) := by decide +kernel
theorem dX11_isDown_11 : decode cX11_isDown 11 = .ok (.ifCond .lt 7, 3) := by decide +kernel
theorem dX11_isDown_14 : decode cX11_isDown 14 = .ok (.iconst 1, 1) := by decide +kernel
theorem dX11_isDown_15 : decode cX11_isDown 15 = .ok (.goto 4, 3) := by decide +kernel
theorem dX11_isDown_18 : decode cX11_isDown 18 = .ok (.iconst 0, 1) := by decide +kernel
theorem dX11_isDown_19 : decode cX11_isDown 19 = .ok (.ireturn, 1) := by decide +kernel
theorem dX11_feed_0 : decode cX11_feed 0 = .ok (.iload_n 1, 1) := by decide +kernel
theorem dX11_feed_1 : decode cX11_feed 1 = .ok (.i2l, 1) := by decide +kernel
theorem dX11_feed_2 : decode cX11_feed 2 = .ok (.lconst 0, 1) := by decide +kernel
theorem dX11_feed_3 : decode cX11_feed 3 = .ok (.ldc2_w 46, 3) := by decide +kernel
theorem dX11_feed_6 : decode cX11_feed 6 = .ok (.invokestatic 42, 3) := by decide +kernel
theorem dX11_feed_9 : decode cX11_feed 9 = .ok (.ifCond .ne 5, 3) := by decide +kernel
theorem dX11_feed_12 : decode cX11_feed 12 = .ok (.iconst (-1), 1) := by decide +kernel
theorem dX11_feed_13 : decode cX11_feed 13 = .ok (.ireturn, 1) := by decide +kernel
theorem dX11_feed_14 : decode cX11_feed 14 = .ok (.aload_n 0, 1) := by decide +kernel
theorem dX11_feed_15 : decode cX11_feed 15 = .ok (.getfield 48, 3) := by decide +kernel
theorem dX11_feed_18 : decode cX11_feed 18 = .ok (.bipush 90, 2) := by decide +kernel
theorem dX11_feed_20 : decode cX11_feed 20 = .ok (.if_icmp .ne 6, 3) := by decide +kernel
theorem dX11_feed_23 : decode cX11_feed 23 = .ok (.bipush (-3), 2) := by decide +kernel
theorem dX11_feed_25 : decode cX11_feed 25 = .ok (.ireturn, 1) := by decide +kernel
theorem dX11_feed_26 : decode cX11_feed 26 = .ok (.aload_n 0, 1) := by decide +kernel
theorem dX11_feed_27 : decode cX11_feed 27 = .ok (.getfield 27, 3) := by decide +kernel
theorem dX11_feed_30 : decode cX11_feed 30 = .ok (.aload_n 0, 1) := by decide +kernel
theorem dX11_feed_31 : decode cX11_feed 31 = .ok (.getfield 48, 3) := by decide +kernel
theorem dX11_feed_34 : decode cX11_feed 34 = .ok (.iload_n 1, 1) := by decide +kernel
theorem dX11_feed_35 : decode cX11_feed 35 = .ok (.iastore, 1) := by decide +kernel
theorem dX11_feed_36 : decode cX11_feed 36 = .ok (.aload_n 0, 1) := by decide +kernel
theorem dX11_feed_37 : decode cX11_feed 37 = .ok (.dup, 1) := by decide +kernel
theorem dX11_feed_38 : decode cX11_feed 38 = .ok (.getfield 48, 3) := by decide +kernel
theorem dX11_feed_41 : decode cX11_feed 41 = .ok (.iconst 1, 1) := by decide +kernel
theorem dX11_feed_42 : decode cX11_feed 42 = .ok (.iadd, 1) := by decide +kernel
theorem dX11_feed_43 : decode cX11_feed 43 = .ok (.putfield 48, 3) := by decide +kernel
theorem dX11_feed_46 : decode cX11_feed 46 = .ok (.aload_n 0, 1) := by decide +kernel
theorem dX11_feed_47 : decode cX11_feed 47 = .ok (.getfield 48, 3) := by decide +kernel
theorem dX11_feed_50 : decode cX11_feed 50 = .ok (.ireturn, 1) := by decide +kernel
theorem dX11_byteAt_0 : decode cX11_byteAt 0 = .ok (.iload_n 1, 1) := by decide +kernel
theorem dX11_byteAt_1 : decode cX11_byteAt 1 = .ok (.aload_n 0, 1) := by decide +kernel
theorem dX11_byteAt_2 : decode cX11_byteAt 2 = .ok (.getfield 48, 3) := by decide +kernel
theorem dX11_byteAt_5 : decode cX11_byteAt 5 = .ok (.if_icmp .ge 12, 3) := by decide +kernel
theorem dX11_byteAt_8 : decode cX11_byteAt 8 = .ok (.aload_n 0, 1) := by decide +kernel
theorem dX11_byteAt_9 : decode cX11_byteAt 9 = .ok (.getfield 27, 3) := by decide +kernel
theorem dX11_byteAt_12 : decode cX11_byteAt 12 = .ok (.iload_n 1, 1) := by decide +kernel
theorem dX11_byteAt_13 : decode cX11_byteAt 13 = .ok (.iaload, 1) := by decide +kernel
theorem dX11_byteAt_14 : decode cX11_byteAt 14 = .ok (.goto 4, 3) := by decide +kernel
theorem dX11_byteAt_17 : decode cX11_byteAt 17 = .ok (.iconst (-1), 1) := by decide +kernel
theorem dX11_byteAt_18 : decode cX11_byteAt 18 = .ok (.ireturn, 1) := by decide +kernel
theorem dX11_fails_0 : decode cX11_fails 0 = .ok (.aload_n 0, 1) := by decide +kernel
theorem dX11_fails_1 : decode cX11_fails 1 = .ok (.iload_n 1, 1) := by decide +kernel
theorem dX11_fails_2 : decode cX11_fails 2 = .ok (.putfield 52, 3) := by decide +kernel
theorem dX11_fails_5 : decode cX11_fails 5 = .ok (.iconst 0, 1) := by decide +kernel
theorem dX11_fails_6 : decode cX11_fails 6 = .ok (.ireturn, 1) := by decide +kernel
theorem dX11_takes_0 : decode cX11_takes 0 = .ok (.aload_n 0, 1) := by decide +kernel
theorem dX11_takes_1 : decode cX11_takes 1 = .ok (.aload_n 0, 1) := by decide +kernel
theorem dX11_takes_2 : decode cX11_takes 2 = .ok (.getfield 55, 3) := by decide +kernel
theorem dX11_takes_5 : decode cX11_takes 5 = .ok (.invokevirtual 58, 3) := by decide +kernel
theorem dX11_takes_8 : decode cX11_takes 8 = .ok (.iload_n 1, 1) := by decide +kernel
theorem dX11_takes_9 : decode cX11_takes 9 = .ok (.if_icmp .eq 12, 3) := by decide +kernel
theorem dX11_takes_12 : decode cX11_takes 12 = .ok (.aload_n 0, 1) := by decide +kernel
theorem dX11_takes_13 : decode cX11_takes 13 = .ok (.aload_n 0, 1) := by decide +kernel
theorem dX11_takes_14 : decode cX11_takes 14 = .ok (.getfield 55, 3) := by decide +kernel
theorem dX11_takes_17 : decode cX11_takes 17 = .ok (.invokevirtual 62, 3) := by decide +kernel
theorem dX11_takes_20 : decode cX11_takes 20 = .ok (.ireturn, 1) := by decide +kernel
theorem dX11_takes_21 : decode cX11_takes 21 = .ok (.aload_n 0, 1) := by decide +kernel
theorem dX11_takes_22 : decode cX11_takes 22 = .ok (.dup, 1) := by decide +kernel
theorem dX11_takes_23 : decode cX11_takes 23 = .ok (.getfield 55, 3) := by decide +kernel
theorem dX11_takes_26 : decode cX11_takes 26 = .ok (.iconst 1, 1) := by decide +kernel
theorem dX11_takes_27 : decode cX11_takes 27 = .ok (.iadd, 1) := by decide +kernel
theorem dX11_takes_28 : decode cX11_takes 28 = .ok (.putfield 55, 3) := by decide +kernel
theorem dX11_takes_31 : decode cX11_takes 31 = .ok (.iconst 1, 1) := by decide +kernel
theorem dX11_takes_32 : decode cX11_takes 32 = .ok (.ireturn, 1) := by decide +kernel
theorem dX11_takesNumber_0 : decode cX11_takesNumber 0 = .ok (.aload_n 0, 1) := by decide +kernel
theorem dX11_takesNumber_1 : decode cX11_takesNumber 1 = .ok (.getfield 55, 3) := by decide +kernel
theorem dX11_takesNumber_4 : decode cX11_takesNumber 4 = .ok (.istore 4, 2) := by decide +kernel
theorem dX11_takesNumber_6 : decode cX11_takesNumber 6 = .ok (.aload_n 0, 1) := by decide +kernel
theorem dX11_takesNumber_7 : decode cX11_takesNumber 7 = .ok (.iconst 0, 1) := by decide +kernel
theorem dX11_takesNumber_8 : decode cX11_takesNumber 8 = .ok (.putfield 66, 3) := by decide +kernel
theorem dX11_takesNumber_11 : decode cX11_takesNumber 11 = .ok (.aload_n 0, 1) := by decide +kernel
theorem dX11_takesNumber_12 : decode cX11_takesNumber 12 = .ok (.aload_n 0, 1) := by decide +kernel
theorem dX11_takesNumber_13 : decode cX11_takesNumber 13 = .ok (.getfield 55, 3) := by decide +kernel
theorem dX11_takesNumber_16 : decode cX11_takesNumber 16 = .ok (.invokevirtual 58, 3) := by decide +kernel
theorem dX11_takesNumber_19 : decode cX11_takesNumber 19 = .ok (.i2l, 1) := by decide +kernel
theorem dX11_takesNumber_20 : decode cX11_takesNumber 20 = .ok (.ldc2_w 69, 3) := by decide +kernel
theorem dX11_takesNumber_23 : decode cX11_takesNumber 23 = .ok (.ldc2_w 71, 3) := by decide +kernel
theorem dX11_takesNumber_26 : decode cX11_takesNumber 26 = .ok (.invokestatic 42, 3) := by decide +kernel
theorem dX11_takesNumber_29 : decode cX11_takesNumber 29 = .ok (.ifCond .eq 57, 3) := by decide +kernel
theorem dX11_takesNumber_32 : decode cX11_takesNumber 32 = .ok (.aload_n 0, 1) := by decide +kernel
theorem dX11_takesNumber_33 : decode cX11_takesNumber 33 = .ok (.aload_n 0, 1) := by decide +kernel
theorem dX11_takesNumber_34 : decode cX11_takesNumber 34 = .ok (.getfield 55, 3) := by decide +kernel
theorem dX11_takesNumber_37 : decode cX11_takesNumber 37 = .ok (.iload 4, 2) := by decide +kernel
theorem dX11_takesNumber_39 : decode cX11_takesNumber 39 = .ok (.isub, 1) := by decide +kernel
theorem dX11_takesNumber_40 : decode cX11_takesNumber 40 = .ok (.iconst 2, 1) := by decide +kernel
theorem dX11_takesNumber_41 : decode cX11_takesNumber 41 = .ok (.if_icmp .ge 25, 3) := by decide +kernel
theorem dX11_takesNumber_44 : decode cX11_takesNumber 44 = .ok (.bipush 10, 2) := by decide +kernel
theorem dX11_takesNumber_46 : decode cX11_takesNumber 46 = .ok (.aload_n 0, 1) := by decide +kernel
theorem dX11_takesNumber_47 : decode cX11_takesNumber 47 = .ok (.getfield 66, 3) := by decide +kernel
theorem dX11_takesNumber_50 : decode cX11_takesNumber 50 = .ok (.imul, 1) := by decide +kernel
theorem dX11_takesNumber_51 : decode cX11_takesNumber 51 = .ok (.aload_n 0, 1) := by decide +kernel
theorem dX11_takesNumber_52 : decode cX11_takesNumber 52 = .ok (.aload_n 0, 1) := by decide +kernel
theorem dX11_takesNumber_53 : decode cX11_takesNumber 53 = .ok (.getfield 55, 3) := by decide +kernel
theorem dX11_takesNumber_56 : decode cX11_takesNumber 56 = .ok (.invokevirtual 58, 3) := by decide +kernel
theorem dX11_takesNumber_59 : decode cX11_takesNumber 59 = .ok (.iadd, 1) := by decide +kernel
theorem dX11_takesNumber_60 : decode cX11_takesNumber 60 = .ok (.bipush 48, 2) := by decide +kernel
theorem dX11_takesNumber_62 : decode cX11_takesNumber 62 = .ok (.isub, 1) := by decide +kernel
theorem dX11_takesNumber_63 : decode cX11_takesNumber 63 = .ok (.goto 7, 3) := by decide +kernel
theorem dX11_takesNumber_66 : decode cX11_takesNumber 66 = .ok (.aload_n 0, 1) := by decide +kernel
theorem dX11_takesNumber_67 : decode cX11_takesNumber 67 = .ok (.getfield 66, 3) := by decide +kernel
theorem dX11_takesNumber_70 : decode cX11_takesNumber 70 = .ok (.putfield 66, 3) := by decide +kernel
theorem dX11_takesNumber_73 : decode cX11_takesNumber 73 = .ok (.aload_n 0, 1) := by decide +kernel
theorem dX11_takesNumber_74 : decode cX11_takesNumber 74 = .ok (.dup, 1) := by decide +kernel
theorem dX11_takesNumber_75 : decode cX11_takesNumber 75 = .ok (.getfield 55, 3) := by decide +kernel
theorem dX11_takesNumber_78 : decode cX11_takesNumber 78 = .ok (.iconst 1, 1) := by decide +kernel
theorem dX11_takesNumber_79 : decode cX11_takesNumber 79 = .ok (.iadd, 1) := by decide +kernel
theorem dX11_takesNumber_80 : decode cX11_takesNumber 80 = .ok (.putfield 55, 3) := by decide +kernel
theorem dX11_takesNumber_83 : decode cX11_takesNumber 83 = .ok (.goto (-72), 3) := by decide +kernel
theorem dX11_takesNumber_86 : decode cX11_takesNumber 86 = .ok (.aload_n 0, 1) := by decide +kernel
theorem dX11_takesNumber_87 : decode cX11_takesNumber 87 = .ok (.getfield 55, 3) := by decide +kernel
theorem dX11_takesNumber_90 : decode cX11_takesNumber 90 = .ok (.iload 4, 2) := by decide +kernel
theorem dX11_takesNumber_92 : decode cX11_takesNumber 92 = .ok (.if_icmp .eq 29, 3) := by decide +kernel
theorem dX11_takesNumber_95 : decode cX11_takesNumber 95 = .ok (.aload_n 0, 1) := by decide +kernel
theorem dX11_takesNumber_96 : decode cX11_takesNumber 96 = .ok (.getfield 55, 3) := by decide +kernel
theorem dX11_takesNumber_99 : decode cX11_takesNumber 99 = .ok (.iload 4, 2) := by decide +kernel
theorem dX11_takesNumber_101 : decode cX11_takesNumber 101 = .ok (.isub, 1) := by decide +kernel
theorem dX11_takesNumber_102 : decode cX11_takesNumber 102 = .ok (.iconst 2, 1) := by decide +kernel
theorem dX11_takesNumber_103 : decode cX11_takesNumber 103 = .ok (.if_icmp .gt 18, 3) := by decide +kernel
theorem dX11_takesNumber_106 : decode cX11_takesNumber 106 = .ok (.aload_n 0, 1) := by decide +kernel
theorem dX11_takesNumber_107 : decode cX11_takesNumber 107 = .ok (.getfield 66, 3) := by decide +kernel
theorem dX11_takesNumber_110 : decode cX11_takesNumber 110 = .ok (.i2l, 1) := by decide +kernel
theorem dX11_takesNumber_111 : decode cX11_takesNumber 111 = .ok (.iload_n 1, 1) := by decide +kernel
theorem dX11_takesNumber_112 : decode cX11_takesNumber 112 = .ok (.i2l, 1) := by decide +kernel
theorem dX11_takesNumber_113 : decode cX11_takesNumber 113 = .ok (.iload_n 2, 1) := by decide +kernel
theorem dX11_takesNumber_114 : decode cX11_takesNumber 114 = .ok (.i2l, 1) := by decide +kernel
theorem dX11_takesNumber_115 : decode cX11_takesNumber 115 = .ok (.invokestatic 42, 3) := by decide +kernel
theorem dX11_takesNumber_118 : decode cX11_takesNumber 118 = .ok (.ifCond .ne 10, 3) := by decide +kernel
theorem dX11_takesNumber_121 : decode cX11_takesNumber 121 = .ok (.aload_n 0, 1) := by decide +kernel
theorem dX11_takesNumber_122 : decode cX11_takesNumber 122 = .ok (.iload 4, 2) := by decide +kernel
theorem dX11_takesNumber_124 : decode cX11_takesNumber 124 = .ok (.invokevirtual 62, 3) := by decide +kernel
theorem dX11_takesNumber_127 : decode cX11_takesNumber 127 = .ok (.ireturn, 1) := by decide +kernel
theorem dX11_takesNumber_128 : decode cX11_takesNumber 128 = .ok (.aload_n 0, 1) := by decide +kernel
theorem dX11_takesNumber_129 : decode cX11_takesNumber 129 = .ok (.iload_n 3, 1) := by decide +kernel
theorem dX11_takesNumber_130 : decode cX11_takesNumber 130 = .ok (.invokevirtual 73, 3) := by decide +kernel
theorem dX11_takesNumber_133 : decode cX11_takesNumber 133 = .ok (.ireturn, 1) := by decide +kernel
theorem dX11_kindBy_0 : decode cX11_kindBy 0 = .ok (.iload_n 0, 1) := by decide +kernel
theorem dX11_kindBy_1 : decode cX11_kindBy 1 = .ok (.bipush 112, 2) := by decide +kernel
theorem dX11_kindBy_3 : decode cX11_kindBy 3 = .ok (.if_icmp .ne 7, 3) := by decide +kernel
theorem dX11_kindBy_6 : decode cX11_kindBy 6 = .ok (.iconst 1, 1) := by decide +kernel
theorem dX11_kindBy_7 : decode cX11_kindBy 7 = .ok (.goto 44, 3) := by decide +kernel
theorem dX11_kindBy_10 : decode cX11_kindBy 10 = .ok (.iload_n 0, 1) := by decide +kernel
theorem dX11_kindBy_11 : decode cX11_kindBy 11 = .ok (.bipush 104, 2) := by decide +kernel
theorem dX11_kindBy_13 : decode cX11_kindBy 13 = .ok (.if_icmp .ne 7, 3) := by decide +kernel
theorem dX11_kindBy_16 : decode cX11_kindBy 16 = .ok (.iconst 2, 1) := by decide +kernel
theorem dX11_kindBy_17 : decode cX11_kindBy 17 = .ok (.goto 34, 3) := by decide +kernel
theorem dX11_kindBy_20 : decode cX11_kindBy 20 = .ok (.iload_n 0, 1) := by decide +kernel
theorem dX11_kindBy_21 : decode cX11_kindBy 21 = .ok (.bipush 109, 2) := by decide +kernel
theorem dX11_kindBy_23 : decode cX11_kindBy 23 = .ok (.if_icmp .ne 7, 3) := by decide +kernel
theorem dX11_kindBy_26 : decode cX11_kindBy 26 = .ok (.iconst 3, 1) := by decide +kernel
theorem dX11_kindBy_27 : decode cX11_kindBy 27 = .ok (.goto 24, 3) := by decide +kernel
theorem dX11_kindBy_30 : decode cX11_kindBy 30 = .ok (.iload_n 0, 1) := by decide +kernel
theorem dX11_kindBy_31 : decode cX11_kindBy 31 = .ok (.bipush 121, 2) := by decide +kernel
theorem dX11_kindBy_33 : decode cX11_kindBy 33 = .ok (.if_icmp .ne 7, 3) := by decide +kernel
theorem dX11_kindBy_36 : decode cX11_kindBy 36 = .ok (.iconst 4, 1) := by decide +kernel
theorem dX11_kindBy_37 : decode cX11_kindBy 37 = .ok (.goto 14, 3) := by decide +kernel
theorem dX11_kindBy_40 : decode cX11_kindBy 40 = .ok (.iload_n 0, 1) := by decide +kernel
theorem dX11_kindBy_41 : decode cX11_kindBy 41 = .ok (.bipush 115, 2) := by decide +kernel
theorem dX11_kindBy_43 : decode cX11_kindBy 43 = .ok (.if_icmp .ne 7, 3) := by decide +kernel
theorem dX11_kindBy_46 : decode cX11_kindBy 46 = .ok (.iconst 5, 1) := by decide +kernel
theorem dX11_kindBy_47 : decode cX11_kindBy 47 = .ok (.goto 4, 3) := by decide +kernel
theorem dX11_kindBy_50 : decode cX11_kindBy 50 = .ok (.iconst 0, 1) := by decide +kernel
theorem dX11_kindBy_51 : decode cX11_kindBy 51 = .ok (.ireturn, 1) := by decide +kernel
theorem dX11_takesSitter_0 : decode cX11_takesSitter 0 = .ok (.aload_n 0, 1) := by decide +kernel
theorem dX11_takesSitter_1 : decode cX11_takesSitter 1 = .ok (.getfield 7, 3) := by decide +kernel
theorem dX11_takesSitter_4 : decode cX11_takesSitter 4 = .ok (.sipush 220, 3) := by decide +kernel
theorem dX11_takesSitter_7 : decode cX11_takesSitter 7 = .ok (.iaload, 1) := by decide +kernel
theorem dX11_takesSitter_8 : decode cX11_takesSitter 8 = .ok (.istore_n 1, 1) := by decide +kernel
theorem dX11_takesSitter_9 : decode cX11_takesSitter 9 = .ok (.aload_n 0, 1) := by decide +kernel
theorem dX11_takesSitter_10 : decode cX11_takesSitter 10 = .ok (.aload_n 0, 1) := by decide +kernel
theorem dX11_takesSitter_11 : decode cX11_takesSitter 11 = .ok (.getfield 55, 3) := by decide +kernel
theorem dX11_takesSitter_14 : decode cX11_takesSitter 14 = .ok (.invokevirtual 58, 3) := by decide +kernel
theorem dX11_takesSitter_17 : decode cX11_takesSitter 17 = .ok (.invokestatic 76, 3) := by decide +kernel
theorem dX11_takesSitter_20 : decode cX11_takesSitter 20 = .ok (.istore_n 2, 1) := by decide +kernel
theorem dX11_takesSitter_21 : decode cX11_takesSitter 21 = .ok (.iload_n 2, 1) := by decide +kernel
theorem dX11_takesSitter_22 : decode cX11_takesSitter 22 = .ok (.ifCond .eq 9, 3) := by decide +kernel
theorem dX11_takesSitter_25 : decode cX11_takesSitter 25 = .ok (.iload_n 1, 1) := by decide +kernel
theorem dX11_takesSitter_26 : decode cX11_takesSitter 26 = .ok (.bipush 6, 2) := by decide +kernel
theorem dX11_takesSitter_28 : decode cX11_takesSitter 28 = .ok (.if_icmp .ne 12, 3) := by decide +kernel
theorem dX11_takesSitter_31 : decode cX11_takesSitter 31 = .ok (.aload_n 0, 1) := by decide +kernel
theorem dX11_takesSitter_32 : decode cX11_takesSitter 32 = .ok (.aload_n 0, 1) := by decide +kernel
theorem dX11_takesSitter_33 : decode cX11_takesSitter 33 = .ok (.getfield 55, 3) := by decide +kernel
theorem dX11_takesSitter_36 : decode cX11_takesSitter 36 = .ok (.invokevirtual 62, 3) := by decide +kernel
theorem dX11_takesSitter_39 : decode cX11_takesSitter 39 = .ok (.ireturn, 1) := by decide +kernel
theorem dX11_takesSitter_40 : decode cX11_takesSitter 40 = .ok (.aload_n 0, 1) := by decide +kernel
theorem dX11_takesSitter_41 : decode cX11_takesSitter 41 = .ok (.dup, 1) := by decide +kernel
theorem dX11_takesSitter_42 : decode cX11_takesSitter 42 = .ok (.getfield 55, 3) := by decide +kernel
theorem dX11_takesSitter_45 : decode cX11_takesSitter 45 = .ok (.iconst 1, 1) := by decide +kernel
theorem dX11_takesSitter_46 : decode cX11_takesSitter 46 = .ok (.iadd, 1) := by decide +kernel
theorem dX11_takesSitter_47 : decode cX11_takesSitter 47 = .ok (.putfield 55, 3) := by decide +kernel
theorem dX11_takesSitter_50 : decode cX11_takesSitter 50 = .ok (.aload_n 0, 1) := by decide +kernel
theorem dX11_takesSitter_51 : decode cX11_takesSitter 51 = .ok (.getfield 7, 3) := by decide +kernel
theorem dX11_takesSitter_54 : decode cX11_takesSitter 54 = .ok (.sipush 226, 3) := by decide +kernel
theorem dX11_takesSitter_57 : decode cX11_takesSitter 57 = .ok (.iload_n 1, 1) := by decide +kernel
theorem dX11_takesSitter_58 : decode cX11_takesSitter 58 = .ok (.iadd, 1) := by decide +kernel
theorem dX11_takesSitter_59 : decode cX11_takesSitter 59 = .ok (.iload_n 2, 1) := by decide +kernel
theorem dX11_takesSitter_60 : decode cX11_takesSitter 60 = .ok (.iastore, 1) := by decide +kernel
theorem dX11_takesSitter_61 : decode cX11_takesSitter 61 = .ok (.aload_n 0, 1) := by decide +kernel
theorem dX11_takesSitter_62 : decode cX11_takesSitter 62 = .ok (.getfield 7, 3) := by decide +kernel
theorem dX11_takesSitter_65 : decode cX11_takesSitter 65 = .ok (.sipush 262, 3) := by decide +kernel
theorem dX11_takesSitter_68 : decode cX11_takesSitter 68 = .ok (.iload_n 1, 1) := by decide +kernel
theorem dX11_takesSitter_69 : decode cX11_takesSitter 69 = .ok (.iadd, 1) := by decide +kernel
theorem dX11_takesSitter_70 : decode cX11_takesSitter 70 = .ok (.aload_n 0, 1) := by decide +kernel
theorem dX11_takesSitter_71 : decode cX11_takesSitter 71 = .ok (.getfield 7, 3) := by decide +kernel
theorem dX11_takesSitter_74 : decode cX11_takesSitter 74 = .ok (.sipush 222, 3) := by decide +kernel
theorem dX11_takesSitter_77 : decode cX11_takesSitter 77 = .ok (.iaload, 1) := by decide +kernel
theorem dX11_takesSitter_78 : decode cX11_takesSitter 78 = .ok (.iastore, 1) := by decide +kernel
theorem dX11_takesSitter_79 : decode cX11_takesSitter 79 = .ok (.aload_n 0, 1) := by decide +kernel
theorem dX11_takesSitter_80 : decode cX11_takesSitter 80 = .ok (.getfield 7, 3) := by decide +kernel
theorem dX11_takesSitter_83 : decode cX11_takesSitter 83 = .ok (.sipush 286, 3) := by decide +kernel
theorem dX11_takesSitter_86 : decode cX11_takesSitter 86 = .ok (.iload_n 1, 1) := by decide +kernel
theorem dX11_takesSitter_87 : decode cX11_takesSitter 87 = .ok (.iadd, 1) := by decide +kernel
theorem dX11_takesSitter_88 : decode cX11_takesSitter 88 = .ok (.iconst (-1), 1) := by decide +kernel
theorem dX11_takesSitter_89 : decode cX11_takesSitter 89 = .ok (.iastore, 1) := by decide +kernel
theorem dX11_takesSitter_90 : decode cX11_takesSitter 90 = .ok (.aload_n 0, 1) := by decide +kernel
theorem dX11_takesSitter_91 : decode cX11_takesSitter 91 = .ok (.bipush 10, 2) := by decide +kernel
theorem dX11_takesSitter_93 : decode cX11_takesSitter 93 = .ok (.bipush 99, 2) := by decide +kernel
theorem dX11_takesSitter_95 : decode cX11_takesSitter 95 = .ok (.bipush 44, 2) := by decide +kernel
theorem dX11_takesSitter_97 : decode cX11_takesSitter 97 = .ok (.invokevirtual 79, 3) := by decide +kernel
theorem dX11_takesSitter_100 : decode cX11_takesSitter 100 = .ok (.ifCond .ne 5, 3) := by decide +kernel
theorem dX11_takesSitter_103 : decode cX11_takesSitter 103 = .ok (.iconst 0, 1) := by decide +kernel
theorem dX11_takesSitter_104 : decode cX11_takesSitter 104 = .ok (.ireturn, 1) := by decide +kernel
theorem dX11_takesSitter_105 : decode cX11_takesSitter 105 = .ok (.aload_n 0, 1) := by decide +kernel
theorem dX11_takesSitter_106 : decode cX11_takesSitter 106 = .ok (.getfield 7, 3) := by decide +kernel
theorem dX11_takesSitter_109 : decode cX11_takesSitter 109 = .ok (.sipush 232, 3) := by decide +kernel
theorem dX11_takesSitter_112 : decode cX11_takesSitter 112 = .ok (.iload_n 1, 1) := by decide +kernel
theorem dX11_takesSitter_113 : decode cX11_takesSitter 113 = .ok (.iadd, 1) := by decide +kernel
theorem dX11_takesSitter_114 : decode cX11_takesSitter 114 = .ok (.aload_n 0, 1) := by decide +kernel
theorem dX11_takesSitter_115 : decode cX11_takesSitter 115 = .ok (.getfield 66, 3) := by decide +kernel
theorem dX11_takesSitter_118 : decode cX11_takesSitter 118 = .ok (.iastore, 1) := by decide +kernel
theorem dX11_takesSitter_119 : decode cX11_takesSitter 119 = .ok (.aload_n 0, 1) := by decide +kernel
theorem dX11_takesSitter_120 : decode cX11_takesSitter 120 = .ok (.iconst 0, 1) := by decide +kernel
theorem dX11_takesSitter_121 : decode cX11_takesSitter 121 = .ok (.bipush 9, 2) := by decide +kernel
theorem dX11_takesSitter_123 : decode cX11_takesSitter 123 = .ok (.bipush 44, 2) := by decide +kernel
theorem dX11_takesSitter_125 : decode cX11_takesSitter 125 = .ok (.invokevirtual 79, 3) := by decide +kernel
theorem dX11_takesSitter_128 : decode cX11_takesSitter 128 = .ok (.ifCond .ne 5, 3) := by decide +kernel
theorem dX11_takesSitter_131 : decode cX11_takesSitter 131 = .ok (.iconst 0, 1) := by decide +kernel
theorem dX11_takesSitter_132 : decode cX11_takesSitter 132 = .ok (.ireturn, 1) := by decide +kernel
theorem dX11_takesSitter_133 : decode cX11_takesSitter 133 = .ok (.aload_n 0, 1) := by decide +kernel
theorem dX11_takesSitter_134 : decode cX11_takesSitter 134 = .ok (.getfield 7, 3) := by decide +kernel
theorem dX11_takesSitter_137 : decode cX11_takesSitter 137 = .ok (.sipush 238, 3) := by decide +kernel
theorem dX11_takesSitter_140 : decode cX11_takesSitter 140 = .ok (.iload_n 1, 1) := by decide +kernel
theorem dX11_takesSitter_141 : decode cX11_takesSitter 141 = .ok (.iadd, 1) := by decide +kernel
theorem dX11_takesSitter_142 : decode cX11_takesSitter 142 = .ok (.aload_n 0, 1) := by decide +kernel
theorem dX11_takesSitter_143 : decode cX11_takesSitter 143 = .ok (.getfield 66, 3) := by decide +kernel
theorem dX11_takesSitter_146 : decode cX11_takesSitter 146 = .ok (.iastore, 1) := by decide +kernel
theorem dX11_takesSitter_147 : decode cX11_takesSitter 147 = .ok (.aload_n 0, 1) := by decide +kernel
theorem dX11_takesSitter_148 : decode cX11_takesSitter 148 = .ok (.iconst 0, 1) := by decide +kernel
theorem dX11_takesSitter_149 : decode cX11_takesSitter 149 = .ok (.bipush 9, 2) := by decide +kernel
theorem dX11_takesSitter_151 : decode cX11_takesSitter 151 = .ok (.bipush 44, 2) := by decide +kernel
theorem dX11_takesSitter_153 : decode cX11_takesSitter 153 = .ok (.invokevirtual 79, 3) := by decide +kernel
theorem dX11_takesSitter_156 : decode cX11_takesSitter 156 = .ok (.ifCond .ne 5, 3) := by decide +kernel
theorem dX11_takesSitter_159 : decode cX11_takesSitter 159 = .ok (.iconst 0, 1) := by decide +kernel
theorem dX11_takesSitter_160 : decode cX11_takesSitter 160 = .ok (.ireturn, 1) := by decide +kernel
theorem dX11_takesSitter_161 : decode cX11_takesSitter 161 = .ok (.aload_n 0, 1) := by decide +kernel
theorem dX11_takesSitter_162 : decode cX11_takesSitter 162 = .ok (.getfield 7, 3) := by decide +kernel
theorem dX11_takesSitter_165 : decode cX11_takesSitter 165 = .ok (.sipush 244, 3) := by decide +kernel
theorem dX11_takesSitter_168 : decode cX11_takesSitter 168 = .ok (.iload_n 1, 1) := by decide +kernel
theorem dX11_takesSitter_169 : decode cX11_takesSitter 169 = .ok (.iadd, 1) := by decide +kernel
theorem dX11_takesSitter_170 : decode cX11_takesSitter 170 = .ok (.aload_n 0, 1) := by decide +kernel
theorem dX11_takesSitter_171 : decode cX11_takesSitter 171 = .ok (.getfield 66, 3) := by decide +kernel
theorem dX11_takesSitter_174 : decode cX11_takesSitter 174 = .ok (.iastore, 1) := by decide +kernel
theorem dX11_takesSitter_175 : decode cX11_takesSitter 175 = .ok (.aload_n 0, 1) := by decide +kernel
theorem dX11_takesSitter_176 : decode cX11_takesSitter 176 = .ok (.iconst 0, 1) := by decide +kernel
theorem dX11_takesSitter_177 : decode cX11_takesSitter 177 = .ok (.bipush 9, 2) := by decide +kernel
theorem dX11_takesSitter_179 : decode cX11_takesSitter 179 = .ok (.bipush 59, 2) := by decide +kernel
theorem dX11_takesSitter_181 : decode cX11_takesSitter 181 = .ok (.invokevirtual 79, 3) := by decide +kernel
theorem dX11_takesSitter_184 : decode cX11_takesSitter 184 = .ok (.ifCond .ne 5, 3) := by decide +kernel
theorem dX11_takesSitter_187 : decode cX11_takesSitter 187 = .ok (.iconst 0, 1) := by decide +kernel
theorem dX11_takesSitter_188 : decode cX11_takesSitter 188 = .ok (.ireturn, 1) := by decide +kernel
theorem dX11_takesSitter_189 : decode cX11_takesSitter 189 = .ok (.aload_n 0, 1) := by decide +kernel
theorem dX11_takesSitter_190 : decode cX11_takesSitter 190 = .ok (.getfield 7, 3) := by decide +kernel
theorem dX11_takesSitter_193 : decode cX11_takesSitter 193 = .ok (.sipush 250, 3) := by decide +kernel
theorem dX11_takesSitter_196 : decode cX11_takesSitter 196 = .ok (.iload_n 1, 1) := by decide +kernel
theorem dX11_takesSitter_197 : decode cX11_takesSitter 197 = .ok (.iadd, 1) := by decide +kernel
theorem dX11_takesSitter_198 : decode cX11_takesSitter 198 = .ok (.aload_n 0, 1) := by decide +kernel
theorem dX11_takesSitter_199 : decode cX11_takesSitter 199 = .ok (.getfield 66, 3) := by decide +kernel
theorem dX11_takesSitter_202 : decode cX11_takesSitter 202 = .ok (.iastore, 1) := by decide +kernel
theorem dX11_takesSitter_203 : decode cX11_takesSitter 203 = .ok (.aload_n 0, 1) := by decide +kernel
theorem dX11_takesSitter_204 : decode cX11_takesSitter 204 = .ok (.getfield 7, 3) := by decide +kernel
theorem dX11_takesSitter_207 : decode cX11_takesSitter 207 = .ok (.sipush 220, 3) := by decide +kernel
theorem dX11_takesSitter_210 : decode cX11_takesSitter 210 = .ok (.dup2, 1) := by decide +kernel
theorem dX11_takesSitter_211 : decode cX11_takesSitter 211 = .ok (.iaload, 1) := by decide +kernel
theorem dX11_takesSitter_212 : decode cX11_takesSitter 212 = .ok (.iconst 1, 1) := by decide +kernel
theorem dX11_takesSitter_213 : decode cX11_takesSitter 213 = .ok (.iadd, 1) := by decide +kernel
theorem dX11_takesSitter_214 : decode cX11_takesSitter 214 = .ok (.iastore, 1) := by decide +kernel
theorem dX11_takesSitter_215 : decode cX11_takesSitter 215 = .ok (.iconst 1, 1) := by decide +kernel
theorem dX11_takesSitter_216 : decode cX11_takesSitter 216 = .ok (.ireturn, 1) := by decide +kernel
theorem dX11_takesWall_0 : decode cX11_takesWall 0 = .ok (.aload_n 0, 1) := by decide +kernel
theorem dX11_takesWall_1 : decode cX11_takesWall 1 = .ok (.bipush 119, 2) := by decide +kernel
theorem dX11_takesWall_3 : decode cX11_takesWall 3 = .ok (.invokevirtual 73, 3) := by decide +kernel
theorem dX11_takesWall_6 : decode cX11_takesWall 6 = .ok (.ifCond .eq 15, 3) := by decide +kernel
theorem dX11_takesWall_9 : decode cX11_takesWall 9 = .ok (.aload_n 0, 1) := by decide +kernel
theorem dX11_takesWall_10 : decode cX11_takesWall 10 = .ok (.iconst 1, 1) := by decide +kernel
theorem dX11_takesWall_11 : decode cX11_takesWall 11 = .ok (.bipush 24, 2) := by decide +kernel
theorem dX11_takesWall_13 : decode cX11_takesWall 13 = .ok (.bipush 44, 2) := by decide +kernel
theorem dX11_takesWall_15 : decode cX11_takesWall 15 = .ok (.invokevirtual 79, 3) := by decide +kernel
theorem dX11_takesWall_18 : decode cX11_takesWall 18 = .ok (.ifCond .ne 5, 3) := by decide +kernel
theorem dX11_takesWall_21 : decode cX11_takesWall 21 = .ok (.iconst 0, 1) := by decide +kernel
theorem dX11_takesWall_22 : decode cX11_takesWall 22 = .ok (.ireturn, 1) := by decide +kernel
theorem dX11_takesWall_23 : decode cX11_takesWall 23 = .ok (.aload_n 0, 1) := by decide +kernel
theorem dX11_takesWall_24 : decode cX11_takesWall 24 = .ok (.getfield 7, 3) := by decide +kernel
theorem dX11_takesWall_27 : decode cX11_takesWall 27 = .ok (.sipush 221, 3) := by decide +kernel
theorem dX11_takesWall_30 : decode cX11_takesWall 30 = .ok (.aload_n 0, 1) := by decide +kernel
theorem dX11_takesWall_31 : decode cX11_takesWall 31 = .ok (.getfield 66, 3) := by decide +kernel
theorem dX11_takesWall_34 : decode cX11_takesWall 34 = .ok (.iastore, 1) := by decide +kernel
theorem dX11_takesWall_35 : decode cX11_takesWall 35 = .ok (.aload_n 0, 1) := by decide +kernel
theorem dX11_takesWall_36 : decode cX11_takesWall 36 = .ok (.iconst 0, 1) := by decide +kernel
theorem dX11_takesWall_37 : decode cX11_takesWall 37 = .ok (.bipush 9, 2) := by decide +kernel
theorem dX11_takesWall_39 : decode cX11_takesWall 39 = .ok (.bipush 59, 2) := by decide +kernel
theorem dX11_takesWall_41 : decode cX11_takesWall 41 = .ok (.invokevirtual 79, 3) := by decide +kernel
theorem dX11_takesWall_44 : decode cX11_takesWall 44 = .ok (.ifCond .ne 5, 3) := by decide +kernel
theorem dX11_takesWall_47 : decode cX11_takesWall 47 = .ok (.iconst 0, 1) := by decide +kernel
theorem dX11_takesWall_48 : decode cX11_takesWall 48 = .ok (.ireturn, 1) := by decide +kernel
theorem dX11_takesWall_49 : decode cX11_takesWall 49 = .ok (.aload_n 0, 1) := by decide +kernel
theorem dX11_takesWall_50 : decode cX11_takesWall 50 = .ok (.getfield 7, 3) := by decide +kernel
theorem dX11_takesWall_53 : decode cX11_takesWall 53 = .ok (.sipush 222, 3) := by decide +kernel
theorem dX11_takesWall_56 : decode cX11_takesWall 56 = .ok (.aload_n 0, 1) := by decide +kernel
theorem dX11_takesWall_57 : decode cX11_takesWall 57 = .ok (.getfield 66, 3) := by decide +kernel
theorem dX11_takesWall_60 : decode cX11_takesWall 60 = .ok (.iastore, 1) := by decide +kernel
theorem dX11_takesWall_61 : decode cX11_takesWall 61 = .ok (.iconst 1, 1) := by decide +kernel
theorem dX11_takesWall_62 : decode cX11_takesWall 62 = .ok (.ireturn, 1) := by decide +kernel
theorem dX11_wall_0 : decode cX11_wall 0 = .ok (.iconst 0, 1) := by decide +kernel
theorem dX11_wall_1 : decode cX11_wall 1 = .ok (.istore_n 1, 1) := by decide +kernel
theorem dX11_wall_2 : decode cX11_wall 2 = .ok (.iload_n 1, 1) := by decide +kernel
theorem dX11_wall_3 : decode cX11_wall 3 = .ok (.bipush 73, 2) := by decide +kernel
theorem dX11_wall_5 : decode cX11_wall 5 = .ok (.if_icmp .ge 20, 3) := by decide +kernel
theorem dX11_wall_8 : decode cX11_wall 8 = .ok (.aload_n 0, 1) := by decide +kernel
theorem dX11_wall_9 : decode cX11_wall 9 = .ok (.getfield 7, 3) := by decide +kernel
theorem dX11_wall_12 : decode cX11_wall 12 = .ok (.sipush 219, 3) := by decide +kernel
theorem dX11_wall_15 : decode cX11_wall 15 = .ok (.iload_n 1, 1) := by decide +kernel
theorem dX11_wall_16 : decode cX11_wall 16 = .ok (.iadd, 1) := by decide +kernel
theorem dX11_wall_17 : decode cX11_wall 17 = .ok (.iconst 0, 1) := by decide +kernel
theorem dX11_wall_18 : decode cX11_wall 18 = .ok (.iastore, 1) := by decide +kernel
theorem dX11_wall_19 : decode cX11_wall 19 = .ok (.iinc 1 1, 3) := by decide +kernel
theorem dX11_wall_22 : decode cX11_wall 22 = .ok (.goto (-20), 3) := by decide +kernel
theorem dX11_wall_25 : decode cX11_wall 25 = .ok (.aload_n 0, 1) := by decide +kernel
theorem dX11_wall_26 : decode cX11_wall 26 = .ok (.getfield 7, 3) := by decide +kernel
theorem dX11_wall_29 : decode cX11_wall 29 = .ok (.sipush 219, 3) := by decide +kernel
theorem dX11_wall_32 : decode cX11_wall 32 = .ok (.iconst 1, 1) := by decide +kernel
theorem dX11_wall_33 : decode cX11_wall 33 = .ok (.iastore, 1) := by decide +kernel
theorem dX11_wall_34 : decode cX11_wall 34 = .ok (.aload_n 0, 1) := by decide +kernel
theorem dX11_wall_35 : decode cX11_wall 35 = .ok (.getfield 7, 3) := by decide +kernel
theorem dX11_wall_38 : decode cX11_wall 38 = .ok (.sipush 225, 3) := by decide +kernel
theorem dX11_wall_41 : decode cX11_wall 41 = .ok (.aload_n 0, 1) := by decide +kernel
theorem dX11_wall_42 : decode cX11_wall 42 = .ok (.getfield 7, 3) := by decide +kernel
theorem dX11_wall_45 : decode cX11_wall 45 = .ok (.bipush 6, 2) := by decide +kernel
theorem dX11_wall_47 : decode cX11_wall 47 = .ok (.iaload, 1) := by decide +kernel
theorem dX11_wall_48 : decode cX11_wall 48 = .ok (.iastore, 1) := by decide +kernel
theorem dX11_wall_49 : decode cX11_wall 49 = .ok (.aload_n 0, 1) := by decide +kernel
theorem dX11_wall_50 : decode cX11_wall 50 = .ok (.iconst 0, 1) := by decide +kernel
theorem dX11_wall_51 : decode cX11_wall 51 = .ok (.putfield 55, 3) := by decide +kernel
theorem dX11_wall_54 : decode cX11_wall 54 = .ok (.aload_n 0, 1) := by decide +kernel
theorem dX11_wall_55 : decode cX11_wall 55 = .ok (.invokevirtual 83, 3) := by decide +kernel
theorem dX11_wall_58 : decode cX11_wall 58 = .ok (.istore_n 1, 1) := by decide +kernel
theorem dX11_wall_59 : decode cX11_wall 59 = .ok (.iload_n 1, 1) := by decide +kernel
end
section
theorem dX11_wall_60 : decode cX11_wall 60 = .ok (.ifCond .eq 33, 3) := by decide +kernel
theorem dX11_wall_63 : decode cX11_wall 63 = .ok (.aload_n 0, 1) := by decide +kernel
theorem dX11_wall_64 : decode cX11_wall 64 = .ok (.getfield 55, 3) := by decide +kernel
theorem dX11_wall_67 : decode cX11_wall 67 = .ok (.aload_n 0, 1) := by decide +kernel
theorem dX11_wall_68 : decode cX11_wall 68 = .ok (.getfield 48, 3) := by decide +kernel
theorem dX11_wall_71 : decode cX11_wall 71 = .ok (.if_icmp .lt 14, 3) := by decide +kernel
theorem dX11_wall_74 : decode cX11_wall 74 = .ok (.aload_n 0, 1) := by decide +kernel
theorem dX11_wall_75 : decode cX11_wall 75 = .ok (.getfield 7, 3) := by decide +kernel
theorem dX11_wall_78 : decode cX11_wall 78 = .ok (.sipush 220, 3) := by decide +kernel
theorem dX11_wall_81 : decode cX11_wall 81 = .ok (.iaload, 1) := by decide +kernel
theorem dX11_wall_82 : decode cX11_wall 82 = .ok (.ifCond .ne 11, 3) := by decide +kernel
theorem dX11_wall_85 : decode cX11_wall 85 = .ok (.aload_n 0, 1) := by decide +kernel
theorem dX11_wall_86 : decode cX11_wall 86 = .ok (.invokevirtual 87, 3) := by decide +kernel
theorem dX11_wall_89 : decode cX11_wall 89 = .ok (.istore_n 1, 1) := by decide +kernel
theorem dX11_wall_90 : decode cX11_wall 90 = .ok (.goto (-31), 3) := by decide +kernel
theorem dX11_wall_93 : decode cX11_wall 93 = .ok (.aload_n 0, 1) := by decide +kernel
theorem dX11_wall_94 : decode cX11_wall 94 = .ok (.iconst 0, 1) := by decide +kernel
theorem dX11_wall_95 : decode cX11_wall 95 = .ok (.putfield 48, 3) := by decide +kernel
theorem dX11_wall_98 : decode cX11_wall 98 = .ok (.iload_n 1, 1) := by decide +kernel
theorem dX11_wall_99 : decode cX11_wall 99 = .ok (.ifCond .ne 11, 3) := by decide +kernel
theorem dX11_wall_102 : decode cX11_wall 102 = .ok (.bipush (-100), 2) := by decide +kernel
theorem dX11_wall_104 : decode cX11_wall 104 = .ok (.aload_n 0, 1) := by decide +kernel
theorem dX11_wall_105 : decode cX11_wall 105 = .ok (.getfield 52, 3) := by decide +kernel
theorem dX11_wall_108 : decode cX11_wall 108 = .ok (.isub, 1) := by decide +kernel
theorem dX11_wall_109 : decode cX11_wall 109 = .ok (.ireturn, 1) := by decide +kernel
theorem dX11_wall_110 : decode cX11_wall 110 = .ok (.aload_n 0, 1) := by decide +kernel
theorem dX11_wall_111 : decode cX11_wall 111 = .ok (.sipush 219, 3) := by decide +kernel
theorem dX11_wall_114 : decode cX11_wall 114 = .ok (.iconst 0, 1) := by decide +kernel
theorem dX11_wall_115 : decode cX11_wall 115 = .ok (.invokevirtual 90, 3) := by decide +kernel
theorem dX11_wall_118 : decode cX11_wall 118 = .ok (.aload_n 0, 1) := by decide +kernel
theorem dX11_wall_119 : decode cX11_wall 119 = .ok (.iconst 0, 1) := by decide +kernel
theorem dX11_wall_120 : decode cX11_wall 120 = .ok (.putfield 94, 3) := by decide +kernel
theorem dX11_wall_123 : decode cX11_wall 123 = .ok (.aload_n 0, 1) := by decide +kernel
theorem dX11_wall_124 : decode cX11_wall 124 = .ok (.getfield 7, 3) := by decide +kernel
theorem dX11_wall_127 : decode cX11_wall 127 = .ok (.iconst 1, 1) := by decide +kernel
theorem dX11_wall_128 : decode cX11_wall 128 = .ok (.iaload, 1) := by decide +kernel
theorem dX11_wall_129 : decode cX11_wall 129 = .ok (.ireturn, 1) := by decide +kernel
theorem dX11_isNight_0 : decode cX11_isNight 0 = .ok (.aload_n 0, 1) := by decide +kernel
theorem dX11_isNight_1 : decode cX11_isNight 1 = .ok (.getfield 7, 3) := by decide +kernel
theorem dX11_isNight_4 : decode cX11_isNight 4 = .ok (.iload_n 1, 1) := by decide +kernel
theorem dX11_isNight_5 : decode cX11_isNight 5 = .ok (.iconst 4, 1) := by decide +kernel
theorem dX11_isNight_6 : decode cX11_isNight 6 = .ok (.iadd, 1) := by decide +kernel
theorem dX11_isNight_7 : decode cX11_isNight 7 = .ok (.iaload, 1) := by decide +kernel
theorem dX11_isNight_8 : decode cX11_isNight 8 = .ok (.bipush 24, 2) := by decide +kernel
theorem dX11_isNight_10 : decode cX11_isNight 10 = .ok (.irem, 1) := by decide +kernel
theorem dX11_isNight_11 : decode cX11_isNight 11 = .ok (.aload_n 0, 1) := by decide +kernel
theorem dX11_isNight_12 : decode cX11_isNight 12 = .ok (.getfield 7, 3) := by decide +kernel
theorem dX11_isNight_15 : decode cX11_isNight 15 = .ok (.iload_n 1, 1) := by decide +kernel
theorem dX11_isNight_16 : decode cX11_isNight 16 = .ok (.iconst 2, 1) := by decide +kernel
theorem dX11_isNight_17 : decode cX11_isNight 17 = .ok (.iadd, 1) := by decide +kernel
theorem dX11_isNight_18 : decode cX11_isNight 18 = .ok (.iaload, 1) := by decide +kernel
theorem dX11_isNight_19 : decode cX11_isNight 19 = .ok (.if_icmp .lt 7, 3) := by decide +kernel
theorem dX11_isNight_22 : decode cX11_isNight 22 = .ok (.iconst 1, 1) := by decide +kernel
theorem dX11_isNight_23 : decode cX11_isNight 23 = .ok (.goto 4, 3) := by decide +kernel
theorem dX11_isNight_26 : decode cX11_isNight 26 = .ok (.iconst 0, 1) := by decide +kernel
theorem dX11_isNight_27 : decode cX11_isNight 27 = .ok (.ireturn, 1) := by decide +kernel
theorem dX11_growthIn_0 : decode cX11_growthIn 0 = .ok (.aload_n 0, 1) := by decide +kernel
theorem dX11_growthIn_1 : decode cX11_growthIn 1 = .ok (.getfield 7, 3) := by decide +kernel
theorem dX11_growthIn_4 : decode cX11_growthIn 4 = .ok (.iload_n 1, 1) := by decide +kernel
theorem dX11_growthIn_5 : decode cX11_growthIn 5 = .ok (.bipush 7, 2) := by decide +kernel
theorem dX11_growthIn_7 : decode cX11_growthIn 7 = .ok (.iadd, 1) := by decide +kernel
theorem dX11_growthIn_8 : decode cX11_growthIn 8 = .ok (.iload_n 2, 1) := by decide +kernel
theorem dX11_growthIn_9 : decode cX11_growthIn 9 = .ok (.iadd, 1) := by decide +kernel
theorem dX11_growthIn_10 : decode cX11_growthIn 10 = .ok (.iaload, 1) := by decide +kernel
theorem dX11_growthIn_11 : decode cX11_growthIn 11 = .ok (.istore 4, 2) := by decide +kernel
theorem dX11_growthIn_13 : decode cX11_growthIn 13 = .ok (.aload_n 0, 1) := by decide +kernel
theorem dX11_growthIn_14 : decode cX11_growthIn 14 = .ok (.getfield 7, 3) := by decide +kernel
theorem dX11_growthIn_17 : decode cX11_growthIn 17 = .ok (.iload_n 1, 1) := by decide +kernel
theorem dX11_growthIn_18 : decode cX11_growthIn 18 = .ok (.bipush 25, 2) := by decide +kernel
theorem dX11_growthIn_20 : decode cX11_growthIn 20 = .ok (.iadd, 1) := by decide +kernel
theorem dX11_growthIn_21 : decode cX11_growthIn 21 = .ok (.iload_n 2, 1) := by decide +kernel
theorem dX11_growthIn_22 : decode cX11_growthIn 22 = .ok (.iadd, 1) := by decide +kernel
theorem dX11_growthIn_23 : decode cX11_growthIn 23 = .ok (.iaload, 1) := by decide +kernel
theorem dX11_growthIn_24 : decode cX11_growthIn 24 = .ok (.istore 5, 2) := by decide +kernel
theorem dX11_growthIn_26 : decode cX11_growthIn 26 = .ok (.iload_n 3, 1) := by decide +kernel
theorem dX11_growthIn_27 : decode cX11_growthIn 27 = .ok (.iconst 1, 1) := by decide +kernel
theorem dX11_growthIn_28 : decode cX11_growthIn 28 = .ok (.if_icmp .ne 8, 3) := by decide +kernel
theorem dX11_growthIn_31 : decode cX11_growthIn 31 = .ok (.iload 5, 2) := by decide +kernel
theorem dX11_growthIn_33 : decode cX11_growthIn 33 = .ok (.goto 4, 3) := by decide +kernel
theorem dX11_growthIn_36 : decode cX11_growthIn 36 = .ok (.iconst 0, 1) := by decide +kernel
theorem dX11_growthIn_37 : decode cX11_growthIn 37 = .ok (.aload_n 0, 1) := by decide +kernel
theorem dX11_growthIn_38 : decode cX11_growthIn 38 = .ok (.iload_n 1, 1) := by decide +kernel
theorem dX11_growthIn_39 : decode cX11_growthIn 39 = .ok (.invokevirtual 97, 3) := by decide +kernel
theorem dX11_growthIn_42 : decode cX11_growthIn 42 = .ok (.ifCond .eq 8, 3) := by decide +kernel
theorem dX11_growthIn_45 : decode cX11_growthIn 45 = .ok (.iload 5, 2) := by decide +kernel
theorem dX11_growthIn_47 : decode cX11_growthIn 47 = .ok (.goto 4, 3) := by decide +kernel
theorem dX11_growthIn_50 : decode cX11_growthIn 50 = .ok (.iconst 0, 1) := by decide +kernel
theorem dX11_growthIn_51 : decode cX11_growthIn 51 = .ok (.iadd, 1) := by decide +kernel
theorem dX11_growthIn_52 : decode cX11_growthIn 52 = .ok (.istore 6, 2) := by decide +kernel
theorem dX11_growthIn_54 : decode cX11_growthIn 54 = .ok (.aload_n 0, 1) := by decide +kernel
theorem dX11_growthIn_55 : decode cX11_growthIn 55 = .ok (.getfield 7, 3) := by decide +kernel
theorem dX11_growthIn_58 : decode cX11_growthIn 58 = .ok (.iload_n 1, 1) := by decide +kernel
theorem dX11_growthIn_59 : decode cX11_growthIn 59 = .ok (.bipush 61, 2) := by decide +kernel
theorem dX11_growthIn_61 : decode cX11_growthIn 61 = .ok (.iadd, 1) := by decide +kernel
theorem dX11_growthIn_62 : decode cX11_growthIn 62 = .ok (.iload_n 2, 1) := by decide +kernel
theorem dX11_growthIn_63 : decode cX11_growthIn 63 = .ok (.iadd, 1) := by decide +kernel
theorem dX11_growthIn_64 : decode cX11_growthIn 64 = .ok (.iaload, 1) := by decide +kernel
theorem dX11_growthIn_65 : decode cX11_growthIn 65 = .ok (.iconst 1, 1) := by decide +kernel
theorem dX11_growthIn_66 : decode cX11_growthIn 66 = .ok (.if_icmp .ne 10, 3) := by decide +kernel
theorem dX11_growthIn_69 : decode cX11_growthIn 69 = .ok (.iload 6, 2) := by decide +kernel
theorem dX11_growthIn_71 : decode cX11_growthIn 71 = .ok (.iconst 2, 1) := by decide +kernel
theorem dX11_growthIn_72 : decode cX11_growthIn 72 = .ok (.idiv, 1) := by decide +kernel
theorem dX11_growthIn_73 : decode cX11_growthIn 73 = .ok (.goto 5, 3) := by decide +kernel
theorem dX11_growthIn_76 : decode cX11_growthIn 76 = .ok (.iload 6, 2) := by decide +kernel
theorem dX11_growthIn_78 : decode cX11_growthIn 78 = .ok (.istore 6, 2) := by decide +kernel
theorem dX11_growthIn_80 : decode cX11_growthIn 80 = .ok (.aload_n 0, 1) := by decide +kernel
theorem dX11_growthIn_81 : decode cX11_growthIn 81 = .ok (.getfield 7, 3) := by decide +kernel
theorem dX11_growthIn_84 : decode cX11_growthIn 84 = .ok (.iload_n 1, 1) := by decide +kernel
theorem dX11_growthIn_85 : decode cX11_growthIn 85 = .ok (.bipush 31, 2) := by decide +kernel
theorem dX11_growthIn_87 : decode cX11_growthIn 87 = .ok (.iadd, 1) := by decide +kernel
theorem dX11_growthIn_88 : decode cX11_growthIn 88 = .ok (.iload_n 2, 1) := by decide +kernel
theorem dX11_growthIn_89 : decode cX11_growthIn 89 = .ok (.iadd, 1) := by decide +kernel
theorem dX11_growthIn_90 : decode cX11_growthIn 90 = .ok (.iaload, 1) := by decide +kernel
theorem dX11_growthIn_91 : decode cX11_growthIn 91 = .ok (.istore 7, 2) := by decide +kernel
theorem dX11_growthIn_93 : decode cX11_growthIn 93 = .ok (.aload_n 0, 1) := by decide +kernel
theorem dX11_growthIn_94 : decode cX11_growthIn 94 = .ok (.getfield 7, 3) := by decide +kernel
theorem dX11_growthIn_97 : decode cX11_growthIn 97 = .ok (.iload_n 1, 1) := by decide +kernel
theorem dX11_growthIn_98 : decode cX11_growthIn 98 = .ok (.bipush 49, 2) := by decide +kernel
theorem dX11_growthIn_100 : decode cX11_growthIn 100 = .ok (.iadd, 1) := by decide +kernel
theorem dX11_growthIn_101 : decode cX11_growthIn 101 = .ok (.iload_n 2, 1) := by decide +kernel
theorem dX11_growthIn_102 : decode cX11_growthIn 102 = .ok (.iadd, 1) := by decide +kernel
theorem dX11_growthIn_103 : decode cX11_growthIn 103 = .ok (.iaload, 1) := by decide +kernel
theorem dX11_growthIn_104 : decode cX11_growthIn 104 = .ok (.ifCond .ne 10, 3) := by decide +kernel
theorem dX11_growthIn_107 : decode cX11_growthIn 107 = .ok (.iload 7, 2) := by decide +kernel
theorem dX11_growthIn_109 : decode cX11_growthIn 109 = .ok (.iconst 2, 1) := by decide +kernel
theorem dX11_growthIn_110 : decode cX11_growthIn 110 = .ok (.idiv, 1) := by decide +kernel
theorem dX11_growthIn_111 : decode cX11_growthIn 111 = .ok (.goto 24, 3) := by decide +kernel
theorem dX11_growthIn_114 : decode cX11_growthIn 114 = .ok (.aload_n 0, 1) := by decide +kernel
theorem dX11_growthIn_115 : decode cX11_growthIn 115 = .ok (.getfield 7, 3) := by decide +kernel
theorem dX11_growthIn_118 : decode cX11_growthIn 118 = .ok (.iload_n 1, 1) := by decide +kernel
theorem dX11_growthIn_119 : decode cX11_growthIn 119 = .ok (.bipush 49, 2) := by decide +kernel
theorem dX11_growthIn_121 : decode cX11_growthIn 121 = .ok (.iadd, 1) := by decide +kernel
theorem dX11_growthIn_122 : decode cX11_growthIn 122 = .ok (.iload_n 2, 1) := by decide +kernel
theorem dX11_growthIn_123 : decode cX11_growthIn 123 = .ok (.iadd, 1) := by decide +kernel
theorem dX11_growthIn_124 : decode cX11_growthIn 124 = .ok (.iaload, 1) := by decide +kernel
theorem dX11_growthIn_125 : decode cX11_growthIn 125 = .ok (.iconst 1, 1) := by decide +kernel
theorem dX11_growthIn_126 : decode cX11_growthIn 126 = .ok (.if_icmp .ne 7, 3) := by decide +kernel
theorem dX11_growthIn_129 : decode cX11_growthIn 129 = .ok (.iconst 0, 1) := by decide +kernel
theorem dX11_growthIn_130 : decode cX11_growthIn 130 = .ok (.goto 5, 3) := by decide +kernel
theorem dX11_growthIn_133 : decode cX11_growthIn 133 = .ok (.iload 7, 2) := by decide +kernel
theorem dX11_growthIn_135 : decode cX11_growthIn 135 = .ok (.istore 8, 2) := by decide +kernel
theorem dX11_growthIn_137 : decode cX11_growthIn 137 = .ok (.iload 4, 2) := by decide +kernel
theorem dX11_growthIn_139 : decode cX11_growthIn 139 = .ok (.iconst 3, 1) := by decide +kernel
theorem dX11_growthIn_140 : decode cX11_growthIn 140 = .ok (.if_icmp .ne 10, 3) := by decide +kernel
theorem dX11_growthIn_143 : decode cX11_growthIn 143 = .ok (.iconst 2, 1) := by decide +kernel
theorem dX11_growthIn_144 : decode cX11_growthIn 144 = .ok (.iload 8, 2) := by decide +kernel
theorem dX11_growthIn_146 : decode cX11_growthIn 146 = .ok (.imul, 1) := by decide +kernel
theorem dX11_growthIn_147 : decode cX11_growthIn 147 = .ok (.goto 5, 3) := by decide +kernel
theorem dX11_growthIn_150 : decode cX11_growthIn 150 = .ok (.iload 8, 2) := by decide +kernel
theorem dX11_growthIn_152 : decode cX11_growthIn 152 = .ok (.istore 8, 2) := by decide +kernel
theorem dX11_growthIn_154 : decode cX11_growthIn 154 = .ok (.aload_n 0, 1) := by decide +kernel
theorem dX11_growthIn_155 : decode cX11_growthIn 155 = .ok (.getfield 7, 3) := by decide +kernel
theorem dX11_growthIn_158 : decode cX11_growthIn 158 = .ok (.iload_n 1, 1) := by decide +kernel
theorem dX11_growthIn_159 : decode cX11_growthIn 159 = .ok (.bipush 19, 2) := by decide +kernel
theorem dX11_growthIn_161 : decode cX11_growthIn 161 = .ok (.iadd, 1) := by decide +kernel
theorem dX11_growthIn_162 : decode cX11_growthIn 162 = .ok (.iload_n 2, 1) := by decide +kernel
theorem dX11_growthIn_163 : decode cX11_growthIn 163 = .ok (.iadd, 1) := by decide +kernel
theorem dX11_growthIn_164 : decode cX11_growthIn 164 = .ok (.iaload, 1) := by decide +kernel
theorem dX11_growthIn_165 : decode cX11_growthIn 165 = .ok (.iload 4, 2) := by decide +kernel
theorem dX11_growthIn_167 : decode cX11_growthIn 167 = .ok (.iconst 4, 1) := by decide +kernel
theorem dX11_growthIn_168 : decode cX11_growthIn 168 = .ok (.if_icmp .eq 9, 3) := by decide +kernel
theorem dX11_growthIn_171 : decode cX11_growthIn 171 = .ok (.iload 4, 2) := by decide +kernel
theorem dX11_growthIn_173 : decode cX11_growthIn 173 = .ok (.iconst 5, 1) := by decide +kernel
theorem dX11_growthIn_174 : decode cX11_growthIn 174 = .ok (.if_icmp .ne 7, 3) := by decide +kernel
theorem dX11_growthIn_177 : decode cX11_growthIn 177 = .ok (.iconst 1, 1) := by decide +kernel
theorem dX11_growthIn_178 : decode cX11_growthIn 178 = .ok (.goto 4, 3) := by decide +kernel
theorem dX11_growthIn_181 : decode cX11_growthIn 181 = .ok (.iconst 0, 1) := by decide +kernel
theorem dX11_growthIn_182 : decode cX11_growthIn 182 = .ok (.iadd, 1) := by decide +kernel
theorem dX11_growthIn_183 : decode cX11_growthIn 183 = .ok (.istore 9, 2) := by decide +kernel
theorem dX11_growthIn_185 : decode cX11_growthIn 185 = .ok (.iload 4, 2) := by decide +kernel
theorem dX11_growthIn_187 : decode cX11_growthIn 187 = .ok (.iconst 2, 1) := by decide +kernel
theorem dX11_growthIn_188 : decode cX11_growthIn 188 = .ok (.if_icmp .ne 19, 3) := by decide +kernel
theorem dX11_growthIn_191 : decode cX11_growthIn 191 = .ok (.iconst 2, 1) := by decide +kernel
theorem dX11_growthIn_192 : decode cX11_growthIn 192 = .ok (.aload_n 0, 1) := by decide +kernel
theorem dX11_growthIn_193 : decode cX11_growthIn 193 = .ok (.getfield 7, 3) := by decide +kernel
theorem dX11_growthIn_196 : decode cX11_growthIn 196 = .ok (.iload_n 1, 1) := by decide +kernel
theorem dX11_growthIn_197 : decode cX11_growthIn 197 = .ok (.bipush 55, 2) := by decide +kernel
theorem dX11_growthIn_199 : decode cX11_growthIn 199 = .ok (.iadd, 1) := by decide +kernel
theorem dX11_growthIn_200 : decode cX11_growthIn 200 = .ok (.iload_n 2, 1) := by decide +kernel
theorem dX11_growthIn_201 : decode cX11_growthIn 201 = .ok (.iadd, 1) := by decide +kernel
theorem dX11_growthIn_202 : decode cX11_growthIn 202 = .ok (.iaload, 1) := by decide +kernel
theorem dX11_growthIn_203 : decode cX11_growthIn 203 = .ok (.imul, 1) := by decide +kernel
theorem dX11_growthIn_204 : decode cX11_growthIn 204 = .ok (.goto 14, 3) := by decide +kernel
theorem dX11_growthIn_207 : decode cX11_growthIn 207 = .ok (.aload_n 0, 1) := by decide +kernel
theorem dX11_growthIn_208 : decode cX11_growthIn 208 = .ok (.getfield 7, 3) := by decide +kernel
theorem dX11_growthIn_211 : decode cX11_growthIn 211 = .ok (.iload_n 1, 1) := by decide +kernel
theorem dX11_growthIn_212 : decode cX11_growthIn 212 = .ok (.bipush 55, 2) := by decide +kernel
theorem dX11_growthIn_214 : decode cX11_growthIn 214 = .ok (.iadd, 1) := by decide +kernel
theorem dX11_growthIn_215 : decode cX11_growthIn 215 = .ok (.iload_n 2, 1) := by decide +kernel
theorem dX11_growthIn_216 : decode cX11_growthIn 216 = .ok (.iadd, 1) := by decide +kernel
theorem dX11_growthIn_217 : decode cX11_growthIn 217 = .ok (.iaload, 1) := by decide +kernel
theorem dX11_growthIn_218 : decode cX11_growthIn 218 = .ok (.istore 10, 2) := by decide +kernel
theorem dX11_growthIn_220 : decode cX11_growthIn 220 = .ok (.iload 9, 2) := by decide +kernel
theorem dX11_growthIn_222 : decode cX11_growthIn 222 = .ok (.iload 6, 2) := by decide +kernel
theorem dX11_growthIn_224 : decode cX11_growthIn 224 = .ok (.iadd, 1) := by decide +kernel
theorem dX11_growthIn_225 : decode cX11_growthIn 225 = .ok (.iload 8, 2) := by decide +kernel
theorem dX11_growthIn_227 : decode cX11_growthIn 227 = .ok (.iadd, 1) := by decide +kernel
theorem dX11_growthIn_228 : decode cX11_growthIn 228 = .ok (.iload 10, 2) := by decide +kernel
theorem dX11_growthIn_230 : decode cX11_growthIn 230 = .ok (.isub, 1) := by decide +kernel
theorem dX11_growthIn_231 : decode cX11_growthIn 231 = .ok (.istore 11, 2) := by decide +kernel
theorem dX11_growthIn_233 : decode cX11_growthIn 233 = .ok (.iload 11, 2) := by decide +kernel
theorem dX11_growthIn_235 : decode cX11_growthIn 235 = .ok (.ifCond .ge 7, 3) := by decide +kernel
theorem dX11_growthIn_238 : decode cX11_growthIn 238 = .ok (.iconst 0, 1) := by decide +kernel
theorem dX11_growthIn_239 : decode cX11_growthIn 239 = .ok (.goto 5, 3) := by decide +kernel
theorem dX11_growthIn_242 : decode cX11_growthIn 242 = .ok (.iload 11, 2) := by decide +kernel
theorem dX11_growthIn_244 : decode cX11_growthIn 244 = .ok (.istore 11, 2) := by decide +kernel
theorem dX11_growthIn_246 : decode cX11_growthIn 246 = .ok (.iload 4, 2) := by decide +kernel
theorem dX11_growthIn_248 : decode cX11_growthIn 248 = .ok (.iconst 5, 1) := by decide +kernel
theorem dX11_growthIn_249 : decode cX11_growthIn 249 = .ok (.if_icmp .ne 18, 3) := by decide +kernel
theorem dX11_growthIn_252 : decode cX11_growthIn 252 = .ok (.aload_n 0, 1) := by decide +kernel
theorem dX11_growthIn_253 : decode cX11_growthIn 253 = .ok (.iload_n 1, 1) := by decide +kernel
theorem dX11_growthIn_254 : decode cX11_growthIn 254 = .ok (.invokevirtual 97, 3) := by decide +kernel
theorem dX11_growthIn_257 : decode cX11_growthIn 257 = .ok (.ifCond .eq 10, 3) := by decide +kernel
theorem dX11_growthIn_260 : decode cX11_growthIn 260 = .ok (.iload 11, 2) := by decide +kernel
theorem dX11_growthIn_262 : decode cX11_growthIn 262 = .ok (.iconst 2, 1) := by decide +kernel
theorem dX11_growthIn_263 : decode cX11_growthIn 263 = .ok (.idiv, 1) := by decide +kernel
theorem dX11_growthIn_264 : decode cX11_growthIn 264 = .ok (.goto 5, 3) := by decide +kernel
theorem dX11_growthIn_267 : decode cX11_growthIn 267 = .ok (.iload 11, 2) := by decide +kernel
theorem dX11_growthIn_269 : decode cX11_growthIn 269 = .ok (.ireturn, 1) := by decide +kernel
theorem dX11_passesBy_0 : decode cX11_passesBy 0 = .ok (.iconst 0, 1) := by decide +kernel
theorem dX11_passesBy_1 : decode cX11_passesBy 1 = .ok (.istore_n 3, 1) := by decide +kernel
theorem dX11_passesBy_2 : decode cX11_passesBy 2 = .ok (.iload_n 3, 1) := by decide +kernel
theorem dX11_passesBy_3 : decode cX11_passesBy 3 = .ok (.aload_n 0, 1) := by decide +kernel
theorem dX11_passesBy_4 : decode cX11_passesBy 4 = .ok (.getfield 7, 3) := by decide +kernel
theorem dX11_passesBy_7 : decode cX11_passesBy 7 = .ok (.iload_n 1, 1) := by decide +kernel
theorem dX11_passesBy_8 : decode cX11_passesBy 8 = .ok (.iconst 1, 1) := by decide +kernel
theorem dX11_passesBy_9 : decode cX11_passesBy 9 = .ok (.iadd, 1) := by decide +kernel
theorem dX11_passesBy_10 : decode cX11_passesBy 10 = .ok (.iaload, 1) := by decide +kernel
theorem dX11_passesBy_11 : decode cX11_passesBy 11 = .ok (.if_icmp .ge 114, 3) := by decide +kernel
theorem dX11_passesBy_14 : decode cX11_passesBy 14 = .ok (.aload_n 0, 1) := by decide +kernel
theorem dX11_passesBy_15 : decode cX11_passesBy 15 = .ok (.iload_n 1, 1) := by decide +kernel
theorem dX11_passesBy_16 : decode cX11_passesBy 16 = .ok (.iload_n 3, 1) := by decide +kernel
theorem dX11_passesBy_17 : decode cX11_passesBy 17 = .ok (.invokevirtual 100, 3) := by decide +kernel
theorem dX11_passesBy_20 : decode cX11_passesBy 20 = .ok (.ifCond .ne 99, 3) := by decide +kernel
theorem dX11_passesBy_23 : decode cX11_passesBy 23 = .ok (.aload_n 0, 1) := by decide +kernel
theorem dX11_passesBy_24 : decode cX11_passesBy 24 = .ok (.getfield 7, 3) := by decide +kernel
theorem dX11_passesBy_27 : decode cX11_passesBy 27 = .ok (.iload_n 1, 1) := by decide +kernel
theorem dX11_passesBy_28 : decode cX11_passesBy 28 = .ok (.bipush 37, 2) := by decide +kernel
theorem dX11_passesBy_30 : decode cX11_passesBy 30 = .ok (.iadd, 1) := by decide +kernel
theorem dX11_passesBy_31 : decode cX11_passesBy 31 = .ok (.iload_n 3, 1) := by decide +kernel
theorem dX11_passesBy_32 : decode cX11_passesBy 32 = .ok (.iadd, 1) := by decide +kernel
theorem dX11_passesBy_33 : decode cX11_passesBy 33 = .ok (.iaload, 1) := by decide +kernel
theorem dX11_passesBy_34 : decode cX11_passesBy 34 = .ok (.aload_n 0, 1) := by decide +kernel
theorem dX11_passesBy_35 : decode cX11_passesBy 35 = .ok (.iload_n 1, 1) := by decide +kernel
theorem dX11_passesBy_36 : decode cX11_passesBy 36 = .ok (.iload_n 3, 1) := by decide +kernel
theorem dX11_passesBy_37 : decode cX11_passesBy 37 = .ok (.iload_n 2, 1) := by decide +kernel
theorem dX11_passesBy_38 : decode cX11_passesBy 38 = .ok (.invokevirtual 104, 3) := by decide +kernel
theorem dX11_passesBy_41 : decode cX11_passesBy 41 = .ok (.iadd, 1) := by decide +kernel
theorem dX11_passesBy_42 : decode cX11_passesBy 42 = .ok (.istore 4, 2) := by decide +kernel
theorem dX11_passesBy_44 : decode cX11_passesBy 44 = .ok (.aload_n 0, 1) := by decide +kernel
theorem dX11_passesBy_45 : decode cX11_passesBy 45 = .ok (.getfield 7, 3) := by decide +kernel
theorem dX11_passesBy_48 : decode cX11_passesBy 48 = .ok (.iload_n 1, 1) := by decide +kernel
theorem dX11_passesBy_49 : decode cX11_passesBy 49 = .ok (.bipush 37, 2) := by decide +kernel
theorem dX11_passesBy_51 : decode cX11_passesBy 51 = .ok (.iadd, 1) := by decide +kernel
theorem dX11_passesBy_52 : decode cX11_passesBy 52 = .ok (.iload_n 3, 1) := by decide +kernel
theorem dX11_passesBy_53 : decode cX11_passesBy 53 = .ok (.iadd, 1) := by decide +kernel
theorem dX11_passesBy_54 : decode cX11_passesBy 54 = .ok (.iload 4, 2) := by decide +kernel
theorem dX11_passesBy_56 : decode cX11_passesBy 56 = .ok (.sipush 999, 3) := by decide +kernel
theorem dX11_passesBy_59 : decode cX11_passesBy 59 = .ok (.if_icmp .le 9, 3) := by decide +kernel
theorem dX11_passesBy_62 : decode cX11_passesBy 62 = .ok (.sipush 999, 3) := by decide +kernel
theorem dX11_passesBy_65 : decode cX11_passesBy 65 = .ok (.goto 5, 3) := by decide +kernel
theorem dX11_passesBy_68 : decode cX11_passesBy 68 = .ok (.iload 4, 2) := by decide +kernel
theorem dX11_passesBy_70 : decode cX11_passesBy 70 = .ok (.iastore, 1) := by decide +kernel
theorem dX11_passesBy_71 : decode cX11_passesBy 71 = .ok (.aload_n 0, 1) := by decide +kernel
theorem dX11_passesBy_72 : decode cX11_passesBy 72 = .ok (.getfield 7, 3) := by decide +kernel
theorem dX11_passesBy_75 : decode cX11_passesBy 75 = .ok (.iload_n 1, 1) := by decide +kernel
theorem dX11_passesBy_76 : decode cX11_passesBy 76 = .ok (.bipush 67, 2) := by decide +kernel
theorem dX11_passesBy_78 : decode cX11_passesBy 78 = .ok (.iadd, 1) := by decide +kernel
theorem dX11_passesBy_79 : decode cX11_passesBy 79 = .ok (.iload_n 3, 1) := by decide +kernel
theorem dX11_passesBy_80 : decode cX11_passesBy 80 = .ok (.iadd, 1) := by decide +kernel
theorem dX11_passesBy_81 : decode cX11_passesBy 81 = .ok (.aload_n 0, 1) := by decide +kernel
theorem dX11_passesBy_82 : decode cX11_passesBy 82 = .ok (.getfield 7, 3) := by decide +kernel
theorem dX11_passesBy_85 : decode cX11_passesBy 85 = .ok (.iload_n 1, 1) := by decide +kernel
theorem dX11_passesBy_86 : decode cX11_passesBy 86 = .ok (.bipush 37, 2) := by decide +kernel
theorem dX11_passesBy_88 : decode cX11_passesBy 88 = .ok (.iadd, 1) := by decide +kernel
theorem dX11_passesBy_89 : decode cX11_passesBy 89 = .ok (.iload_n 3, 1) := by decide +kernel
theorem dX11_passesBy_90 : decode cX11_passesBy 90 = .ok (.iadd, 1) := by decide +kernel
theorem dX11_passesBy_91 : decode cX11_passesBy 91 = .ok (.iaload, 1) := by decide +kernel
theorem dX11_passesBy_92 : decode cX11_passesBy 92 = .ok (.aload_n 0, 1) := by decide +kernel
theorem dX11_passesBy_93 : decode cX11_passesBy 93 = .ok (.getfield 7, 3) := by decide +kernel
theorem dX11_passesBy_96 : decode cX11_passesBy 96 = .ok (.iload_n 1, 1) := by decide +kernel
theorem dX11_passesBy_97 : decode cX11_passesBy 97 = .ok (.bipush 13, 2) := by decide +kernel
theorem dX11_passesBy_99 : decode cX11_passesBy 99 = .ok (.iadd, 1) := by decide +kernel
theorem dX11_passesBy_100 : decode cX11_passesBy 100 = .ok (.iload_n 3, 1) := by decide +kernel
theorem dX11_passesBy_101 : decode cX11_passesBy 101 = .ok (.iadd, 1) := by decide +kernel
theorem dX11_passesBy_102 : decode cX11_passesBy 102 = .ok (.iaload, 1) := by decide +kernel
theorem dX11_passesBy_103 : decode cX11_passesBy 103 = .ok (.if_icmp .lt 14, 3) := by decide +kernel
theorem dX11_passesBy_106 : decode cX11_passesBy 106 = .ok (.aload_n 0, 1) := by decide +kernel
theorem dX11_passesBy_107 : decode cX11_passesBy 107 = .ok (.getfield 7, 3) := by decide +kernel
theorem dX11_passesBy_110 : decode cX11_passesBy 110 = .ok (.iload_n 1, 1) := by decide +kernel
theorem dX11_passesBy_111 : decode cX11_passesBy 111 = .ok (.iconst 4, 1) := by decide +kernel
theorem dX11_passesBy_112 : decode cX11_passesBy 112 = .ok (.iadd, 1) := by decide +kernel
theorem dX11_passesBy_113 : decode cX11_passesBy 113 = .ok (.iaload, 1) := by decide +kernel
theorem dX11_passesBy_114 : decode cX11_passesBy 114 = .ok (.goto 4, 3) := by decide +kernel
theorem dX11_passesBy_117 : decode cX11_passesBy 117 = .ok (.iconst (-1), 1) := by decide +kernel
theorem dX11_passesBy_118 : decode cX11_passesBy 118 = .ok (.iastore, 1) := by decide +kernel
theorem dX11_passesBy_119 : decode cX11_passesBy 119 = .ok (.iinc 3 1, 3) := by decide +kernel
theorem dX11_passesBy_122 : decode cX11_passesBy 122 = .ok (.goto (-120), 3) := by decide +kernel
theorem dX11_passesBy_125 : decode cX11_passesBy 125 = .ok (.aload_n 0, 1) := by decide +kernel
theorem dX11_passesBy_126 : decode cX11_passesBy 126 = .ok (.getfield 7, 3) := by decide +kernel
theorem dX11_passesBy_129 : decode cX11_passesBy 129 = .ok (.iload_n 1, 1) := by decide +kernel
theorem dX11_passesBy_130 : decode cX11_passesBy 130 = .ok (.iconst 5, 1) := by decide +kernel
theorem dX11_passesBy_131 : decode cX11_passesBy 131 = .ok (.iadd, 1) := by decide +kernel
theorem dX11_passesBy_132 : decode cX11_passesBy 132 = .ok (.iload_n 2, 1) := by decide +kernel
theorem dX11_passesBy_133 : decode cX11_passesBy 133 = .ok (.iastore, 1) := by decide +kernel
theorem dX11_passesBy_134 : decode cX11_passesBy 134 = .ok (.aload_n 0, 1) := by decide +kernel
theorem dX11_passesBy_135 : decode cX11_passesBy 135 = .ok (.getfield 7, 3) := by decide +kernel
theorem dX11_passesBy_138 : decode cX11_passesBy 138 = .ok (.iload_n 1, 1) := by decide +kernel
theorem dX11_passesBy_139 : decode cX11_passesBy 139 = .ok (.iconst 4, 1) := by decide +kernel
theorem dX11_passesBy_140 : decode cX11_passesBy 140 = .ok (.iadd, 1) := by decide +kernel
theorem dX11_passesBy_141 : decode cX11_passesBy 141 = .ok (.dup2, 1) := by decide +kernel
theorem dX11_passesBy_142 : decode cX11_passesBy 142 = .ok (.iaload, 1) := by decide +kernel
theorem dX11_passesBy_143 : decode cX11_passesBy 143 = .ok (.iconst 1, 1) := by decide +kernel
theorem dX11_passesBy_144 : decode cX11_passesBy 144 = .ok (.iadd, 1) := by decide +kernel
theorem dX11_passesBy_145 : decode cX11_passesBy 145 = .ok (.iastore, 1) := by decide +kernel
theorem dX11_passesBy_146 : decode cX11_passesBy 146 = .ok (.return_, 1) := by decide +kernel
theorem dX11_passes_0 : decode cX11_passes 0 = .ok (.aload_n 0, 1) := by decide +kernel
theorem dX11_passes_1 : decode cX11_passes 1 = .ok (.getfield 7, 3) := by decide +kernel
theorem dX11_passes_4 : decode cX11_passes 4 = .ok (.iload_n 1, 1) := by decide +kernel
theorem dX11_passes_5 : decode cX11_passes 5 = .ok (.bipush 6, 2) := by decide +kernel
theorem dX11_passes_7 : decode cX11_passes 7 = .ok (.iadd, 1) := by decide +kernel
theorem dX11_passes_8 : decode cX11_passes 8 = .ok (.aload_n 0, 1) := by decide +kernel
theorem dX11_passes_9 : decode cX11_passes 9 = .ok (.getfield 7, 3) := by decide +kernel
theorem dX11_passes_12 : decode cX11_passes 12 = .ok (.iload_n 1, 1) := by decide +kernel
theorem dX11_passes_13 : decode cX11_passes 13 = .ok (.bipush 6, 2) := by decide +kernel
theorem dX11_passes_15 : decode cX11_passes 15 = .ok (.iadd, 1) := by decide +kernel
theorem dX11_passes_16 : decode cX11_passes 16 = .ok (.iaload, 1) := by decide +kernel
theorem dX11_passes_17 : decode cX11_passes 17 = .ok (.i2l, 1) := by decide +kernel
theorem dX11_passes_18 : decode cX11_passes 18 = .ok (.ldc2_w 108, 3) := by decide +kernel
theorem dX11_passes_21 : decode cX11_passes 21 = .ok (.lmul, 1) := by decide +kernel
theorem dX11_passes_22 : decode cX11_passes 22 = .ok (.ldc2_w 110, 3) := by decide +kernel
theorem dX11_passes_25 : decode cX11_passes 25 = .ok (.lrem, 1) := by decide +kernel
theorem dX11_passes_26 : decode cX11_passes 26 = .ok (.l2i, 1) := by decide +kernel
theorem dX11_passes_27 : decode cX11_passes 27 = .ok (.iastore, 1) := by decide +kernel
theorem dX11_passes_28 : decode cX11_passes 28 = .ok (.aload_n 0, 1) := by decide +kernel
theorem dX11_passes_29 : decode cX11_passes 29 = .ok (.iload_n 1, 1) := by decide +kernel
theorem dX11_passes_30 : decode cX11_passes 30 = .ok (.aload_n 0, 1) := by decide +kernel
theorem dX11_passes_31 : decode cX11_passes 31 = .ok (.getfield 7, 3) := by decide +kernel
theorem dX11_passes_34 : decode cX11_passes 34 = .ok (.iload_n 1, 1) := by decide +kernel
theorem dX11_passes_35 : decode cX11_passes 35 = .ok (.bipush 6, 2) := by decide +kernel
theorem dX11_passes_37 : decode cX11_passes 37 = .ok (.iadd, 1) := by decide +kernel
theorem dX11_passes_38 : decode cX11_passes 38 = .ok (.iaload, 1) := by decide +kernel
theorem dX11_passes_39 : decode cX11_passes 39 = .ok (.iconst 3, 1) := by decide +kernel
theorem dX11_passes_40 : decode cX11_passes 40 = .ok (.irem, 1) := by decide +kernel
theorem dX11_passes_41 : decode cX11_passes 41 = .ok (.invokevirtual 112, 3) := by decide +kernel
theorem dX11_passes_44 : decode cX11_passes 44 = .ok (.return_, 1) := by decide +kernel
theorem dX11_eats_0 : decode cX11_eats 0 = .ok (.aload_n 0, 1) := by decide +kernel
theorem dX11_eats_1 : decode cX11_eats 1 = .ok (.iload_n 1, 1) := by decide +kernel
theorem dX11_eats_2 : decode cX11_eats 2 = .ok (.iload_n 2, 1) := by decide +kernel
theorem dX11_eats_3 : decode cX11_eats 3 = .ok (.invokevirtual 100, 3) := by decide +kernel
theorem dX11_eats_6 : decode cX11_eats 6 = .ok (.ifCond .ne 77, 3) := by decide +kernel
theorem dX11_eats_9 : decode cX11_eats 9 = .ok (.aload_n 0, 1) := by decide +kernel
theorem dX11_eats_10 : decode cX11_eats 10 = .ok (.getfield 7, 3) := by decide +kernel
theorem dX11_eats_13 : decode cX11_eats 13 = .ok (.iload_n 1, 1) := by decide +kernel
theorem dX11_eats_14 : decode cX11_eats 14 = .ok (.bipush 43, 2) := by decide +kernel
theorem dX11_eats_16 : decode cX11_eats 16 = .ok (.iadd, 1) := by decide +kernel
theorem dX11_eats_17 : decode cX11_eats 17 = .ok (.iload_n 2, 1) := by decide +kernel
theorem dX11_eats_18 : decode cX11_eats 18 = .ok (.iadd, 1) := by decide +kernel
theorem dX11_eats_19 : decode cX11_eats 19 = .ok (.iaload, 1) := by decide +kernel
theorem dX11_eats_20 : decode cX11_eats 20 = .ok (.ifCond .le 63, 3) := by decide +kernel
theorem dX11_eats_23 : decode cX11_eats 23 = .ok (.aload_n 0, 1) := by decide +kernel
theorem dX11_eats_24 : decode cX11_eats 24 = .ok (.getfield 7, 3) := by decide +kernel
theorem dX11_eats_27 : decode cX11_eats 27 = .ok (.iload_n 1, 1) := by decide +kernel
theorem dX11_eats_28 : decode cX11_eats 28 = .ok (.bipush 43, 2) := by decide +kernel
theorem dX11_eats_30 : decode cX11_eats 30 = .ok (.iadd, 1) := by decide +kernel
theorem dX11_eats_31 : decode cX11_eats 31 = .ok (.iload_n 2, 1) := by decide +kernel
theorem dX11_eats_32 : decode cX11_eats 32 = .ok (.iadd, 1) := by decide +kernel
theorem dX11_eats_33 : decode cX11_eats 33 = .ok (.dup2, 1) := by decide +kernel
theorem dX11_eats_34 : decode cX11_eats 34 = .ok (.iaload, 1) := by decide +kernel
theorem dX11_eats_35 : decode cX11_eats 35 = .ok (.iconst 1, 1) := by decide +kernel
theorem dX11_eats_36 : decode cX11_eats 36 = .ok (.isub, 1) := by decide +kernel
theorem dX11_eats_37 : decode cX11_eats 37 = .ok (.iastore, 1) := by decide +kernel
theorem dX11_eats_38 : decode cX11_eats 38 = .ok (.aload_n 0, 1) := by decide +kernel
theorem dX11_eats_39 : decode cX11_eats 39 = .ok (.getfield 7, 3) := by decide +kernel
theorem dX11_eats_42 : decode cX11_eats 42 = .ok (.iload_n 1, 1) := by decide +kernel
theorem dX11_eats_43 : decode cX11_eats 43 = .ok (.bipush 37, 2) := by decide +kernel
theorem dX11_eats_45 : decode cX11_eats 45 = .ok (.iadd, 1) := by decide +kernel
theorem dX11_eats_46 : decode cX11_eats 46 = .ok (.iload_n 2, 1) := by decide +kernel
theorem dX11_eats_47 : decode cX11_eats 47 = .ok (.iadd, 1) := by decide +kernel
theorem dX11_eats_48 : decode cX11_eats 48 = .ok (.aload_n 0, 1) := by decide +kernel
theorem dX11_eats_49 : decode cX11_eats 49 = .ok (.getfield 7, 3) := by decide +kernel
theorem dX11_eats_52 : decode cX11_eats 52 = .ok (.iload_n 1, 1) := by decide +kernel
theorem dX11_eats_53 : decode cX11_eats 53 = .ok (.bipush 37, 2) := by decide +kernel
theorem dX11_eats_55 : decode cX11_eats 55 = .ok (.iadd, 1) := by decide +kernel
theorem dX11_eats_56 : decode cX11_eats 56 = .ok (.iload_n 2, 1) := by decide +kernel
theorem dX11_eats_57 : decode cX11_eats 57 = .ok (.iadd, 1) := by decide +kernel
theorem dX11_eats_58 : decode cX11_eats 58 = .ok (.iaload, 1) := by decide +kernel
theorem dX11_eats_59 : decode cX11_eats 59 = .ok (.bipush 6, 2) := by decide +kernel
theorem dX11_eats_61 : decode cX11_eats 61 = .ok (.if_icmp .le 20, 3) := by decide +kernel
theorem dX11_eats_64 : decode cX11_eats 64 = .ok (.aload_n 0, 1) := by decide +kernel
theorem dX11_eats_65 : decode cX11_eats 65 = .ok (.getfield 7, 3) := by decide +kernel
theorem dX11_eats_68 : decode cX11_eats 68 = .ok (.iload_n 1, 1) := by decide +kernel
theorem dX11_eats_69 : decode cX11_eats 69 = .ok (.bipush 37, 2) := by decide +kernel
theorem dX11_eats_71 : decode cX11_eats 71 = .ok (.iadd, 1) := by decide +kernel
theorem dX11_eats_72 : decode cX11_eats 72 = .ok (.iload_n 2, 1) := by decide +kernel
theorem dX11_eats_73 : decode cX11_eats 73 = .ok (.iadd, 1) := by decide +kernel
theorem dX11_eats_74 : decode cX11_eats 74 = .ok (.iaload, 1) := by decide +kernel
theorem dX11_eats_75 : decode cX11_eats 75 = .ok (.bipush 6, 2) := by decide +kernel
theorem dX11_eats_77 : decode cX11_eats 77 = .ok (.isub, 1) := by decide +kernel
theorem dX11_eats_78 : decode cX11_eats 78 = .ok (.goto 4, 3) := by decide +kernel
theorem dX11_eats_81 : decode cX11_eats 81 = .ok (.iconst 0, 1) := by decide +kernel
theorem dX11_eats_82 : decode cX11_eats 82 = .ok (.iastore, 1) := by decide +kernel
theorem dX11_eats_83 : decode cX11_eats 83 = .ok (.return_, 1) := by decide +kernel
theorem dX11_sittingIn_0 : decode cX11_sittingIn 0 = .ok (.iconst 0, 1) := by decide +kernel
theorem dX11_sittingIn_1 : decode cX11_sittingIn 1 = .ok (.istore_n 2, 1) := by decide +kernel
theorem dX11_sittingIn_2 : decode cX11_sittingIn 2 = .ok (.iconst 0, 1) := by decide +kernel
theorem dX11_sittingIn_3 : decode cX11_sittingIn 3 = .ok (.istore_n 3, 1) := by decide +kernel
theorem dX11_sittingIn_4 : decode cX11_sittingIn 4 = .ok (.iload_n 3, 1) := by decide +kernel
theorem dX11_sittingIn_5 : decode cX11_sittingIn 5 = .ok (.aload_n 0, 1) := by decide +kernel
theorem dX11_sittingIn_6 : decode cX11_sittingIn 6 = .ok (.getfield 7, 3) := by decide +kernel
theorem dX11_sittingIn_9 : decode cX11_sittingIn 9 = .ok (.iload_n 1, 1) := by decide +kernel
theorem dX11_sittingIn_10 : decode cX11_sittingIn 10 = .ok (.iconst 1, 1) := by decide +kernel
theorem dX11_sittingIn_11 : decode cX11_sittingIn 11 = .ok (.iadd, 1) := by decide +kernel
theorem dX11_sittingIn_12 : decode cX11_sittingIn 12 = .ok (.iaload, 1) := by decide +kernel
theorem dX11_sittingIn_13 : decode cX11_sittingIn 13 = .ok (.if_icmp .ge 26, 3) := by decide +kernel
theorem dX11_sittingIn_16 : decode cX11_sittingIn 16 = .ok (.iload_n 2, 1) := by decide +kernel
theorem dX11_sittingIn_17 : decode cX11_sittingIn 17 = .ok (.aload_n 0, 1) := by decide +kernel
theorem dX11_sittingIn_18 : decode cX11_sittingIn 18 = .ok (.iload_n 1, 1) := by decide +kernel
theorem dX11_sittingIn_19 : decode cX11_sittingIn 19 = .ok (.iload_n 3, 1) := by decide +kernel
theorem dX11_sittingIn_20 : decode cX11_sittingIn 20 = .ok (.invokevirtual 100, 3) := by decide +kernel
theorem dX11_sittingIn_23 : decode cX11_sittingIn 23 = .ok (.ifCond .eq 7, 3) := by decide +kernel
theorem dX11_sittingIn_26 : decode cX11_sittingIn 26 = .ok (.iconst 0, 1) := by decide +kernel
theorem dX11_sittingIn_27 : decode cX11_sittingIn 27 = .ok (.goto 4, 3) := by decide +kernel
theorem dX11_sittingIn_30 : decode cX11_sittingIn 30 = .ok (.iconst 1, 1) := by decide +kernel
theorem dX11_sittingIn_31 : decode cX11_sittingIn 31 = .ok (.iadd, 1) := by decide +kernel
theorem dX11_sittingIn_32 : decode cX11_sittingIn 32 = .ok (.istore_n 2, 1) := by decide +kernel
theorem dX11_sittingIn_33 : decode cX11_sittingIn 33 = .ok (.iinc 3 1, 3) := by decide +kernel
theorem dX11_sittingIn_36 : decode cX11_sittingIn 36 = .ok (.goto (-32), 3) := by decide +kernel
theorem dX11_sittingIn_39 : decode cX11_sittingIn 39 = .ok (.iload_n 2, 1) := by decide +kernel
theorem dX11_sittingIn_40 : decode cX11_sittingIn 40 = .ok (.ireturn, 1) := by decide +kernel
theorem dX11_sitter_0 : decode cX11_sitter 0 = .ok (.aload_n 0, 1) := by decide +kernel
theorem dX11_sitter_1 : decode cX11_sitter 1 = .ok (.iload_n 1, 1) := by decide +kernel
theorem dX11_sitter_2 : decode cX11_sitter 2 = .ok (.invokevirtual 115, 3) := by decide +kernel
theorem dX11_sitter_5 : decode cX11_sitter 5 = .ok (.ifCond .eq 15, 3) := by decide +kernel
theorem dX11_sitter_8 : decode cX11_sitter 8 = .ok (.iload_n 2, 1) := by decide +kernel
theorem dX11_sitter_9 : decode cX11_sitter 9 = .ok (.i2l, 1) := by decide +kernel
theorem dX11_sitter_10 : decode cX11_sitter 10 = .ok (.lconst 0, 1) := by decide +kernel
theorem dX11_sitter_11 : decode cX11_sitter 11 = .ok (.ldc2_w 118, 3) := by decide +kernel
theorem dX11_sitter_14 : decode cX11_sitter 14 = .ok (.invokestatic 42, 3) := by decide +kernel
theorem dX11_sitter_17 : decode cX11_sitter 17 = .ok (.ifCond .ne 5, 3) := by decide +kernel
theorem dX11_sitter_20 : decode cX11_sitter 20 = .ok (.iconst (-1), 1) := by decide +kernel
theorem dX11_sitter_21 : decode cX11_sitter 21 = .ok (.ireturn, 1) := by decide +kernel
theorem dX11_sitter_22 : decode cX11_sitter 22 = .ok (.aload_n 0, 1) := by decide +kernel
theorem dX11_sitter_23 : decode cX11_sitter 23 = .ok (.getfield 7, 3) := by decide +kernel
theorem dX11_sitter_26 : decode cX11_sitter 26 = .ok (.bipush 7, 2) := by decide +kernel
theorem dX11_sitter_28 : decode cX11_sitter 28 = .ok (.bipush 6, 2) := by decide +kernel
theorem dX11_sitter_30 : decode cX11_sitter 30 = .ok (.iload_n 2, 1) := by decide +kernel
theorem dX11_sitter_31 : decode cX11_sitter 31 = .ok (.imul, 1) := by decide +kernel
theorem dX11_sitter_32 : decode cX11_sitter 32 = .ok (.iadd, 1) := by decide +kernel
theorem dX11_sitter_33 : decode cX11_sitter 33 = .ok (.iload_n 1, 1) := by decide +kernel
theorem dX11_sitter_34 : decode cX11_sitter 34 = .ok (.iadd, 1) := by decide +kernel
theorem dX11_sitter_35 : decode cX11_sitter 35 = .ok (.iaload, 1) := by decide +kernel
theorem dX11_sitter_36 : decode cX11_sitter 36 = .ok (.istore_n 3, 1) := by decide +kernel
theorem dX11_sitter_37 : decode cX11_sitter 37 = .ok (.iload_n 2, 1) := by decide +kernel
theorem dX11_sitter_38 : decode cX11_sitter 38 = .ok (.bipush 10, 2) := by decide +kernel
theorem dX11_sitter_40 : decode cX11_sitter 40 = .ok (.if_icmp .ne 12, 3) := by decide +kernel
theorem dX11_sitter_43 : decode cX11_sitter 43 = .ok (.iload_n 3, 1) := by decide +kernel
theorem dX11_sitter_44 : decode cX11_sitter 44 = .ok (.ifCond .ge 8, 3) := by decide +kernel
theorem dX11_sitter_47 : decode cX11_sitter 47 = .ok (.bipush (-4), 2) := by decide +kernel
theorem dX11_sitter_49 : decode cX11_sitter 49 = .ok (.goto 4, 3) := by decide +kernel
theorem dX11_sitter_52 : decode cX11_sitter 52 = .ok (.iload_n 3, 1) := by decide +kernel
theorem dX11_sitter_53 : decode cX11_sitter 53 = .ok (.ireturn, 1) := by decide +kernel
theorem dX11_growth_0 : decode cX11_growth 0 = .ok (.aload_n 0, 1) := by decide +kernel
theorem dX11_growth_1 : decode cX11_growth 1 = .ok (.iload_n 1, 1) := by decide +kernel
theorem dX11_growth_2 : decode cX11_growth 2 = .ok (.invokevirtual 115, 3) := by decide +kernel
theorem dX11_growth_5 : decode cX11_growth 5 = .ok (.ifCond .eq 25, 3) := by decide +kernel
theorem dX11_growth_8 : decode cX11_growth 8 = .ok (.iload_n 2, 1) := by decide +kernel
theorem dX11_growth_9 : decode cX11_growth 9 = .ok (.i2l, 1) := by decide +kernel
theorem dX11_growth_10 : decode cX11_growth 10 = .ok (.lconst 0, 1) := by decide +kernel
theorem dX11_growth_11 : decode cX11_growth 11 = .ok (.ldc2_w 120, 3) := by decide +kernel
theorem dX11_growth_14 : decode cX11_growth 14 = .ok (.invokestatic 42, 3) := by decide +kernel
theorem dX11_growth_17 : decode cX11_growth 17 = .ok (.ifCond .eq 13, 3) := by decide +kernel
theorem dX11_growth_20 : decode cX11_growth 20 = .ok (.aload_n 0, 1) := by decide +kernel
theorem dX11_growth_21 : decode cX11_growth 21 = .ok (.iconst 0, 1) := by decide +kernel
theorem dX11_growth_22 : decode cX11_growth 22 = .ok (.iload_n 1, 1) := by decide +kernel
theorem dX11_growth_23 : decode cX11_growth 23 = .ok (.iload_n 2, 1) := by decide +kernel
theorem dX11_growth_24 : decode cX11_growth 24 = .ok (.invokevirtual 104, 3) := by decide +kernel
theorem dX11_growth_27 : decode cX11_growth 27 = .ok (.goto 4, 3) := by decide +kernel
theorem dX11_growth_30 : decode cX11_growth 30 = .ok (.iconst (-1), 1) := by decide +kernel
theorem dX11_growth_31 : decode cX11_growth 31 = .ok (.ireturn, 1) := by decide +kernel
theorem dX11_as_0 : decode cX11_as 0 = .ok (.aload_n 0, 1) := by decide +kernel
theorem dX11_as_1 : decode cX11_as 1 = .ok (.iload_n 1, 1) := by decide +kernel
theorem dX11_as_2 : decode cX11_as 2 = .ok (.invokevirtual 115, 3) := by decide +kernel
theorem dX11_as_5 : decode cX11_as 5 = .ok (.ifCond .eq 15, 3) := by decide +kernel
theorem dX11_as_8 : decode cX11_as 8 = .ok (.iload_n 2, 1) := by decide +kernel
theorem dX11_as_9 : decode cX11_as 9 = .ok (.i2l, 1) := by decide +kernel
theorem dX11_as_10 : decode cX11_as 10 = .ok (.lconst 0, 1) := by decide +kernel
theorem dX11_as_11 : decode cX11_as 11 = .ok (.ldc2_w 122, 3) := by decide +kernel
theorem dX11_as_14 : decode cX11_as 14 = .ok (.invokestatic 42, 3) := by decide +kernel
theorem dX11_as_17 : decode cX11_as 17 = .ok (.ifCond .ne 5, 3) := by decide +kernel
theorem dX11_as_20 : decode cX11_as 20 = .ok (.iconst (-1), 1) := by decide +kernel
theorem dX11_as_21 : decode cX11_as 21 = .ok (.ireturn, 1) := by decide +kernel
theorem dX11_as_22 : decode cX11_as 22 = .ok (.aload_n 0, 1) := by decide +kernel
theorem dX11_as_23 : decode cX11_as 23 = .ok (.getfield 7, 3) := by decide +kernel
theorem dX11_as_26 : decode cX11_as 26 = .ok (.bipush 7, 2) := by decide +kernel
theorem dX11_as_28 : decode cX11_as 28 = .ok (.iload_n 1, 1) := by decide +kernel
theorem dX11_as_29 : decode cX11_as 29 = .ok (.iadd, 1) := by decide +kernel
theorem dX11_as_30 : decode cX11_as 30 = .ok (.iaload, 1) := by decide +kernel
theorem dX11_as_31 : decode cX11_as 31 = .ok (.istore_n 3, 1) := by decide +kernel
theorem dX11_as_32 : decode cX11_as 32 = .ok (.iload_n 2, 1) := by decide +kernel
theorem dX11_as_33 : decode cX11_as 33 = .ok (.ifCond .eq 28, 3) := by decide +kernel
theorem dX11_as_36 : decode cX11_as 36 = .ok (.iload_n 2, 1) := by decide +kernel
theorem dX11_as_37 : decode cX11_as 37 = .ok (.iload_n 3, 1) := by decide +kernel
theorem dX11_as_38 : decode cX11_as 38 = .ok (.if_icmp .eq 23, 3) := by decide +kernel
theorem dX11_as_41 : decode cX11_as 41 = .ok (.iload_n 2, 1) := by decide +kernel
theorem dX11_as_42 : decode cX11_as 42 = .ok (.iconst 1, 1) := by decide +kernel
theorem dX11_as_43 : decode cX11_as 43 = .ok (.if_icmp .ne 8, 3) := by decide +kernel
theorem dX11_as_46 : decode cX11_as 46 = .ok (.iload_n 3, 1) := by decide +kernel
theorem dX11_as_47 : decode cX11_as 47 = .ok (.iconst 4, 1) := by decide +kernel
theorem dX11_as_48 : decode cX11_as 48 = .ok (.if_icmp .lt 13, 3) := by decide +kernel
theorem dX11_as_51 : decode cX11_as 51 = .ok (.iload_n 2, 1) := by decide +kernel
theorem dX11_as_52 : decode cX11_as 52 = .ok (.iconst 4, 1) := by decide +kernel
theorem dX11_as_53 : decode cX11_as 53 = .ok (.if_icmp .ne 12, 3) := by decide +kernel
theorem dX11_as_56 : decode cX11_as 56 = .ok (.iload_n 3, 1) := by decide +kernel
theorem dX11_as_57 : decode cX11_as 57 = .ok (.iconst 5, 1) := by decide +kernel
theorem dX11_as_58 : decode cX11_as 58 = .ok (.if_icmp .ne 7, 3) := by decide +kernel
theorem dX11_as_61 : decode cX11_as 61 = .ok (.iconst 1, 1) := by decide +kernel
theorem dX11_as_62 : decode cX11_as 62 = .ok (.goto 4, 3) := by decide +kernel
theorem dX11_as_65 : decode cX11_as 65 = .ok (.iconst 0, 1) := by decide +kernel
theorem dX11_as_66 : decode cX11_as 66 = .ok (.istore 4, 2) := by decide +kernel
theorem dX11_as_68 : decode cX11_as 68 = .ok (.iload 4, 2) := by decide +kernel
theorem dX11_as_70 : decode cX11_as 70 = .ok (.ifCond .eq 7, 3) := by decide +kernel
theorem dX11_as_73 : decode cX11_as 73 = .ok (.iload_n 1, 1) := by decide +kernel
theorem dX11_as_74 : decode cX11_as 74 = .ok (.goto 5, 3) := by decide +kernel
theorem dX11_as_77 : decode cX11_as 77 = .ok (.bipush (-12), 2) := by decide +kernel
theorem dX11_as_79 : decode cX11_as 79 = .ok (.ireturn, 1) := by decide +kernel
theorem dX11_minds_0 : decode cX11_minds 0 = .ok (.aload_n 0, 1) := by decide +kernel
theorem dX11_minds_1 : decode cX11_minds 1 = .ok (.getfield 94, 3) := by decide +kernel
theorem dX11_minds_4 : decode cX11_minds 4 = .ok (.bipush 20, 2) := by decide +kernel
theorem dX11_minds_6 : decode cX11_minds 6 = .ok (.if_icmp .ne 51, 3) := by decide +kernel
theorem dX11_minds_9 : decode cX11_minds 9 = .ok (.iconst 0, 1) := by decide +kernel
theorem dX11_minds_10 : decode cX11_minds 10 = .ok (.istore_n 1, 1) := by decide +kernel
theorem dX11_minds_11 : decode cX11_minds 11 = .ok (.iload_n 1, 1) := by decide +kernel
theorem dX11_minds_12 : decode cX11_minds 12 = .ok (.sipush 1387, 3) := by decide +kernel
theorem dX11_minds_15 : decode cX11_minds 15 = .ok (.if_icmp .ge 32, 3) := by decide +kernel
theorem dX11_minds_18 : decode cX11_minds 18 = .ok (.aload_n 0, 1) := by decide +kernel
theorem dX11_minds_19 : decode cX11_minds 19 = .ok (.getfield 7, 3) := by decide +kernel
theorem dX11_minds_22 : decode cX11_minds 22 = .ok (.sipush 292, 3) := by decide +kernel
theorem dX11_minds_25 : decode cX11_minds 25 = .ok (.iload_n 1, 1) := by decide +kernel
theorem dX11_minds_26 : decode cX11_minds 26 = .ok (.iadd, 1) := by decide +kernel
theorem dX11_minds_27 : decode cX11_minds 27 = .ok (.aload_n 0, 1) := by decide +kernel
theorem dX11_minds_28 : decode cX11_minds 28 = .ok (.getfield 7, 3) := by decide +kernel
theorem dX11_minds_31 : decode cX11_minds 31 = .ok (.sipush 292, 3) := by decide +kernel
theorem dX11_minds_34 : decode cX11_minds 34 = .ok (.iload_n 1, 1) := by decide +kernel
theorem dX11_minds_35 : decode cX11_minds 35 = .ok (.iadd, 1) := by decide +kernel
theorem dX11_minds_36 : decode cX11_minds 36 = .ok (.bipush 73, 2) := by decide +kernel
theorem dX11_minds_38 : decode cX11_minds 38 = .ok (.iadd, 1) := by decide +kernel
theorem dX11_minds_39 : decode cX11_minds 39 = .ok (.iaload, 1) := by decide +kernel
theorem dX11_minds_40 : decode cX11_minds 40 = .ok (.iastore, 1) := by decide +kernel
theorem dX11_minds_41 : decode cX11_minds 41 = .ok (.iinc 1 1, 3) := by decide +kernel
theorem dX11_minds_44 : decode cX11_minds 44 = .ok (.goto (-33), 3) := by decide +kernel
theorem dX11_minds_47 : decode cX11_minds 47 = .ok (.aload_n 0, 1) := by decide +kernel
theorem dX11_minds_48 : decode cX11_minds 48 = .ok (.dup, 1) := by decide +kernel
theorem dX11_minds_49 : decode cX11_minds 49 = .ok (.getfield 94, 3) := by decide +kernel
theorem dX11_minds_52 : decode cX11_minds 52 = .ok (.iconst 1, 1) := by decide +kernel
theorem dX11_minds_53 : decode cX11_minds 53 = .ok (.isub, 1) := by decide +kernel
theorem dX11_minds_54 : decode cX11_minds 54 = .ok (.putfield 94, 3) := by decide +kernel
theorem dX11_minds_57 : decode cX11_minds 57 = .ok (.aload_n 0, 1) := by decide +kernel
theorem dX11_minds_58 : decode cX11_minds 58 = .ok (.iconst 0, 1) := by decide +kernel
theorem dX11_minds_59 : decode cX11_minds 59 = .ok (.sipush 292, 3) := by decide +kernel
theorem dX11_minds_62 : decode cX11_minds 62 = .ok (.bipush 73, 2) := by decide +kernel
theorem dX11_minds_64 : decode cX11_minds 64 = .ok (.aload_n 0, 1) := by decide +kernel
theorem dX11_minds_65 : decode cX11_minds 65 = .ok (.getfield 94, 3) := by decide +kernel
theorem dX11_minds_68 : decode cX11_minds 68 = .ok (.imul, 1) := by decide +kernel
theorem dX11_minds_69 : decode cX11_minds 69 = .ok (.iadd, 1) := by decide +kernel
theorem dX11_minds_70 : decode cX11_minds 70 = .ok (.invokevirtual 90, 3) := by decide +kernel
theorem dX11_minds_73 : decode cX11_minds 73 = .ok (.aload_n 0, 1) := by decide +kernel
theorem dX11_minds_74 : decode cX11_minds 74 = .ok (.dup, 1) := by decide +kernel
theorem dX11_minds_75 : decode cX11_minds 75 = .ok (.getfield 94, 3) := by decide +kernel
theorem dX11_minds_78 : decode cX11_minds 78 = .ok (.iconst 1, 1) := by decide +kernel
theorem dX11_minds_79 : decode cX11_minds 79 = .ok (.iadd, 1) := by decide +kernel
theorem dX11_minds_80 : decode cX11_minds 80 = .ok (.putfield 94, 3) := by decide +kernel
theorem dX11_minds_83 : decode cX11_minds 83 = .ok (.return_, 1) := by decide +kernel
theorem dX11_hours_0 : decode cX11_hours 0 = .ok (.iload_n 1, 1) := by decide +kernel
theorem dX11_hours_1 : decode cX11_hours 1 = .ok (.i2l, 1) := by decide +kernel
theorem dX11_hours_2 : decode cX11_hours 2 = .ok (.lconst 1, 1) := by decide +kernel
theorem dX11_hours_3 : decode cX11_hours 3 = .ok (.ldc2_w 124, 3) := by decide +kernel
theorem dX11_hours_6 : decode cX11_hours 6 = .ok (.invokestatic 42, 3) := by decide +kernel
theorem dX11_hours_9 : decode cX11_hours 9 = .ok (.ifCond .ne 5, 3) := by decide +kernel
theorem dX11_hours_12 : decode cX11_hours 12 = .ok (.iconst (-1), 1) := by decide +kernel
theorem dX11_hours_13 : decode cX11_hours 13 = .ok (.ireturn, 1) := by decide +kernel
theorem dX11_hours_14 : decode cX11_hours 14 = .ok (.aload_n 0, 1) := by decide +kernel
theorem dX11_hours_15 : decode cX11_hours 15 = .ok (.getfield 7, 3) := by decide +kernel
theorem dX11_hours_18 : decode cX11_hours 18 = .ok (.iconst 0, 1) := by decide +kernel
theorem dX11_hours_19 : decode cX11_hours 19 = .ok (.iaload, 1) := by decide +kernel
theorem dX11_hours_20 : decode cX11_hours 20 = .ok (.ifCond .ne 6, 3) := by decide +kernel
theorem dX11_hours_23 : decode cX11_hours 23 = .ok (.bipush (-2), 2) := by decide +kernel
theorem dX11_hours_25 : decode cX11_hours 25 = .ok (.ireturn, 1) := by decide +kernel
theorem dX11_hours_26 : decode cX11_hours 26 = .ok (.aload_n 0, 1) := by decide +kernel
theorem dX11_hours_27 : decode cX11_hours 27 = .ok (.getfield 7, 3) := by decide +kernel
theorem dX11_hours_30 : decode cX11_hours 30 = .ok (.iconst 4, 1) := by decide +kernel
theorem dX11_hours_31 : decode cX11_hours 31 = .ok (.iaload, 1) := by decide +kernel
theorem dX11_hours_32 : decode cX11_hours 32 = .ok (.iload_n 1, 1) := by decide +kernel
theorem dX11_hours_33 : decode cX11_hours 33 = .ok (.iadd, 1) := by decide +kernel
theorem dX11_hours_34 : decode cX11_hours 34 = .ok (.sipush 9999, 3) := by decide +kernel
theorem dX11_hours_37 : decode cX11_hours 37 = .ok (.if_icmp .le 6, 3) := by decide +kernel
theorem dX11_hours_40 : decode cX11_hours 40 = .ok (.bipush (-3), 2) := by decide +kernel
theorem dX11_hours_42 : decode cX11_hours 42 = .ok (.ireturn, 1) := by decide +kernel
theorem dX11_hours_43 : decode cX11_hours 43 = .ok (.iconst 0, 1) := by decide +kernel
theorem dX11_hours_44 : decode cX11_hours 44 = .ok (.istore_n 2, 1) := by decide +kernel
theorem dX11_hours_45 : decode cX11_hours 45 = .ok (.iload_n 2, 1) := by decide +kernel
theorem dX11_hours_46 : decode cX11_hours 46 = .ok (.iload_n 1, 1) := by decide +kernel
theorem dX11_hours_47 : decode cX11_hours 47 = .ok (.if_icmp .ge 18, 3) := by decide +kernel
theorem dX11_hours_50 : decode cX11_hours 50 = .ok (.aload_n 0, 1) := by decide +kernel
theorem dX11_hours_51 : decode cX11_hours 51 = .ok (.invokevirtual 126, 3) := by decide +kernel
theorem dX11_hours_54 : decode cX11_hours 54 = .ok (.aload_n 0, 1) := by decide +kernel
theorem dX11_hours_55 : decode cX11_hours 55 = .ok (.iconst 0, 1) := by decide +kernel
theorem dX11_hours_56 : decode cX11_hours 56 = .ok (.invokevirtual 129, 3) := by decide +kernel
theorem dX11_hours_59 : decode cX11_hours 59 = .ok (.iinc 2 1, 3) := by decide +kernel
theorem dX11_hours_62 : decode cX11_hours 62 = .ok (.goto (-17), 3) := by decide +kernel
theorem dX11_hours_65 : decode cX11_hours 65 = .ok (.aload_n 0, 1) := by decide +kernel
theorem dX11_hours_66 : decode cX11_hours 66 = .ok (.iconst 0, 1) := by decide +kernel
theorem dX11_hours_67 : decode cX11_hours 67 = .ok (.invokevirtual 133, 3) := by decide +kernel
theorem dX11_hours_70 : decode cX11_hours 70 = .ok (.ireturn, 1) := by decide +kernel
theorem dX11_crust_0 : decode cX11_crust 0 = .ok (.aload_n 0, 1) := by decide +kernel
theorem dX11_crust_1 : decode cX11_crust 1 = .ok (.iload_n 1, 1) := by decide +kernel
theorem dX11_crust_2 : decode cX11_crust 2 = .ok (.invokevirtual 115, 3) := by decide +kernel
theorem dX11_crust_5 : decode cX11_crust 5 = .ok (.ifCond .ne 5, 3) := by decide +kernel
theorem dX11_crust_8 : decode cX11_crust 8 = .ok (.iconst (-1), 1) := by decide +kernel
theorem dX11_crust_9 : decode cX11_crust 9 = .ok (.ireturn, 1) := by decide +kernel
theorem dX11_crust_10 : decode cX11_crust 10 = .ok (.aload_n 0, 1) := by decide +kernel
theorem dX11_crust_11 : decode cX11_crust 11 = .ok (.iconst 0, 1) := by decide +kernel
theorem dX11_crust_12 : decode cX11_crust 12 = .ok (.iload_n 1, 1) := by decide +kernel
theorem dX11_crust_13 : decode cX11_crust 13 = .ok (.invokevirtual 100, 3) := by decide +kernel
theorem dX11_crust_16 : decode cX11_crust 16 = .ok (.ifCond .ne 15, 3) := by decide +kernel
theorem dX11_crust_19 : decode cX11_crust 19 = .ok (.aload_n 0, 1) := by decide +kernel
theorem dX11_crust_20 : decode cX11_crust 20 = .ok (.getfield 7, 3) := by decide +kernel
theorem dX11_crust_23 : decode cX11_crust 23 = .ok (.bipush 43, 2) := by decide +kernel
theorem dX11_crust_25 : decode cX11_crust 25 = .ok (.iload_n 1, 1) := by decide +kernel
theorem dX11_crust_26 : decode cX11_crust 26 = .ok (.iadd, 1) := by decide +kernel
theorem dX11_crust_27 : decode cX11_crust 27 = .ok (.iaload, 1) := by decide +kernel
theorem dX11_crust_28 : decode cX11_crust 28 = .ok (.ifCond .ne 6, 3) := by decide +kernel
theorem dX11_crust_31 : decode cX11_crust 31 = .ok (.bipush (-2), 2) := by decide +kernel
theorem dX11_crust_33 : decode cX11_crust 33 = .ok (.ireturn, 1) := by decide +kernel
theorem dX11_crust_34 : decode cX11_crust 34 = .ok (.aload_n 0, 1) := by decide +kernel
theorem dX11_crust_35 : decode cX11_crust 35 = .ok (.invokevirtual 126, 3) := by decide +kernel
theorem dX11_crust_38 : decode cX11_crust 38 = .ok (.aload_n 0, 1) := by decide +kernel
theorem dX11_crust_39 : decode cX11_crust 39 = .ok (.iconst 0, 1) := by decide +kernel
theorem dX11_crust_40 : decode cX11_crust 40 = .ok (.iload_n 1, 1) := by decide +kernel
theorem dX11_crust_41 : decode cX11_crust 41 = .ok (.invokevirtual 136, 3) := by decide +kernel
theorem dX11_crust_44 : decode cX11_crust 44 = .ok (.aload_n 0, 1) := by decide +kernel
theorem dX11_crust_45 : decode cX11_crust 45 = .ok (.getfield 7, 3) := by decide +kernel
theorem dX11_crust_48 : decode cX11_crust 48 = .ok (.bipush 37, 2) := by decide +kernel
theorem dX11_crust_50 : decode cX11_crust 50 = .ok (.iload_n 1, 1) := by decide +kernel
theorem dX11_crust_51 : decode cX11_crust 51 = .ok (.iadd, 1) := by decide +kernel
theorem dX11_crust_52 : decode cX11_crust 52 = .ok (.iaload, 1) := by decide +kernel
theorem dX11_crust_53 : decode cX11_crust 53 = .ok (.ireturn, 1) := by decide +kernel
theorem dX11_news_0 : decode cX11_news 0 = .ok (.aload_n 0, 1) := by decide +kernel
theorem dX11_news_1 : decode cX11_news 1 = .ok (.iload_n 1, 1) := by decide +kernel
theorem dX11_news_2 : decode cX11_news 2 = .ok (.invokevirtual 115, 3) := by decide +kernel
theorem dX11_news_5 : decode cX11_news 5 = .ok (.ifCond .eq 15, 3) := by decide +kernel
theorem dX11_news_8 : decode cX11_news 8 = .ok (.iload_n 2, 1) := by decide +kernel
theorem dX11_news_9 : decode cX11_news 9 = .ok (.i2l, 1) := by decide +kernel
theorem dX11_news_10 : decode cX11_news 10 = .ok (.lconst 0, 1) := by decide +kernel
theorem dX11_news_11 : decode cX11_news 11 = .ok (.ldc2_w 120, 3) := by decide +kernel
theorem dX11_news_14 : decode cX11_news 14 = .ok (.invokestatic 42, 3) := by decide +kernel
theorem dX11_news_17 : decode cX11_news 17 = .ok (.ifCond .ne 5, 3) := by decide +kernel
theorem dX11_news_20 : decode cX11_news 20 = .ok (.iconst (-1), 1) := by decide +kernel
theorem dX11_news_21 : decode cX11_news 21 = .ok (.ireturn, 1) := by decide +kernel
theorem dX11_news_22 : decode cX11_news 22 = .ok (.aload_n 0, 1) := by decide +kernel
theorem dX11_news_23 : decode cX11_news 23 = .ok (.iconst 0, 1) := by decide +kernel
theorem dX11_news_24 : decode cX11_news 24 = .ok (.iload_n 1, 1) := by decide +kernel
theorem dX11_news_25 : decode cX11_news 25 = .ok (.invokevirtual 100, 3) := by decide +kernel
theorem dX11_news_28 : decode cX11_news 28 = .ok (.ifCond .eq 6, 3) := by decide +kernel
theorem dX11_news_31 : decode cX11_news 31 = .ok (.bipush (-2), 2) := by decide +kernel
theorem dX11_news_33 : decode cX11_news 33 = .ok (.ireturn, 1) := by decide +kernel
theorem dX11_news_34 : decode cX11_news 34 = .ok (.aload_n 0, 1) := by decide +kernel
theorem dX11_news_35 : decode cX11_news 35 = .ok (.invokevirtual 126, 3) := by decide +kernel
theorem dX11_news_38 : decode cX11_news 38 = .ok (.aload_n 0, 1) := by decide +kernel
theorem dX11_news_39 : decode cX11_news 39 = .ok (.getfield 7, 3) := by decide +kernel
theorem dX11_news_42 : decode cX11_news 42 = .ok (.bipush 49, 2) := by decide +kernel
theorem dX11_news_44 : decode cX11_news 44 = .ok (.iload_n 1, 1) := by decide +kernel
theorem dX11_news_45 : decode cX11_news 45 = .ok (.iadd, 1) := by decide +kernel
theorem dX11_news_46 : decode cX11_news 46 = .ok (.iaload, 1) := by decide +kernel
theorem dX11_news_47 : decode cX11_news 47 = .ok (.istore_n 3, 1) := by decide +kernel
theorem dX11_news_48 : decode cX11_news 48 = .ok (.aload_n 0, 1) := by decide +kernel
theorem dX11_news_49 : decode cX11_news 49 = .ok (.getfield 7, 3) := by decide +kernel
theorem dX11_news_52 : decode cX11_news 52 = .ok (.bipush 49, 2) := by decide +kernel
theorem dX11_news_54 : decode cX11_news 54 = .ok (.iload_n 1, 1) := by decide +kernel
theorem dX11_news_55 : decode cX11_news 55 = .ok (.iadd, 1) := by decide +kernel
theorem dX11_news_56 : decode cX11_news 56 = .ok (.iload_n 2, 1) := by decide +kernel
theorem dX11_news_57 : decode cX11_news 57 = .ok (.iastore, 1) := by decide +kernel
theorem dX11_news_58 : decode cX11_news 58 = .ok (.iload_n 3, 1) := by decide +kernel
theorem dX11_news_59 : decode cX11_news 59 = .ok (.ireturn, 1) := by decide +kernel
theorem dX11_praise_0 : decode cX11_praise 0 = .ok (.aload_n 0, 1) := by decide +kernel
theorem dX11_praise_1 : decode cX11_praise 1 = .ok (.iload_n 1, 1) := by decide +kernel
theorem dX11_praise_2 : decode cX11_praise 2 = .ok (.invokevirtual 115, 3) := by decide +kernel
theorem dX11_praise_5 : decode cX11_praise 5 = .ok (.ifCond .ne 5, 3) := by decide +kernel
theorem dX11_praise_8 : decode cX11_praise 8 = .ok (.iconst (-1), 1) := by decide +kernel
theorem dX11_praise_9 : decode cX11_praise 9 = .ok (.ireturn, 1) := by decide +kernel
theorem dX11_praise_10 : decode cX11_praise 10 = .ok (.aload_n 0, 1) := by decide +kernel
theorem dX11_praise_11 : decode cX11_praise 11 = .ok (.iconst 0, 1) := by decide +kernel
theorem dX11_praise_12 : decode cX11_praise 12 = .ok (.iload_n 1, 1) := by decide +kernel
theorem dX11_praise_13 : decode cX11_praise 13 = .ok (.invokevirtual 100, 3) := by decide +kernel
theorem dX11_praise_16 : decode cX11_praise 16 = .ok (.ifCond .ne 17, 3) := by decide +kernel
theorem dX11_praise_19 : decode cX11_praise 19 = .ok (.aload_n 0, 1) := by decide +kernel
theorem dX11_praise_20 : decode cX11_praise 20 = .ok (.getfield 7, 3) := by decide +kernel
theorem dX11_praise_23 : decode cX11_praise 23 = .ok (.bipush 55, 2) := by decide +kernel
theorem dX11_praise_25 : decode cX11_praise 25 = .ok (.iload_n 1, 1) := by decide +kernel
theorem dX11_praise_26 : decode cX11_praise 26 = .ok (.iadd, 1) := by decide +kernel
theorem dX11_praise_27 : decode cX11_praise 27 = .ok (.iaload, 1) := by decide +kernel
theorem dX11_praise_28 : decode cX11_praise 28 = .ok (.bipush 9, 2) := by decide +kernel
theorem dX11_praise_30 : decode cX11_praise 30 = .ok (.if_icmp .ne 6, 3) := by decide +kernel
theorem dX11_praise_33 : decode cX11_praise 33 = .ok (.bipush (-2), 2) := by decide +kernel
theorem dX11_praise_35 : decode cX11_praise 35 = .ok (.ireturn, 1) := by decide +kernel
theorem dX11_praise_36 : decode cX11_praise 36 = .ok (.aload_n 0, 1) := by decide +kernel
theorem dX11_praise_37 : decode cX11_praise 37 = .ok (.invokevirtual 126, 3) := by decide +kernel
theorem dX11_praise_40 : decode cX11_praise 40 = .ok (.aload_n 0, 1) := by decide +kernel
theorem dX11_praise_41 : decode cX11_praise 41 = .ok (.getfield 7, 3) := by decide +kernel
theorem dX11_praise_44 : decode cX11_praise 44 = .ok (.bipush 55, 2) := by decide +kernel
theorem dX11_praise_46 : decode cX11_praise 46 = .ok (.iload_n 1, 1) := by decide +kernel
theorem dX11_praise_47 : decode cX11_praise 47 = .ok (.iadd, 1) := by decide +kernel
theorem dX11_praise_48 : decode cX11_praise 48 = .ok (.dup2, 1) := by decide +kernel
theorem dX11_praise_49 : decode cX11_praise 49 = .ok (.iaload, 1) := by decide +kernel
theorem dX11_praise_50 : decode cX11_praise 50 = .ok (.iconst 1, 1) := by decide +kernel
theorem dX11_praise_51 : decode cX11_praise 51 = .ok (.iadd, 1) := by decide +kernel
theorem dX11_praise_52 : decode cX11_praise 52 = .ok (.iastore, 1) := by decide +kernel
theorem dX11_praise_53 : decode cX11_praise 53 = .ok (.aload_n 0, 1) := by decide +kernel
theorem dX11_praise_54 : decode cX11_praise 54 = .ok (.getfield 7, 3) := by decide +kernel
theorem dX11_praise_57 : decode cX11_praise 57 = .ok (.bipush 55, 2) := by decide +kernel
theorem dX11_praise_59 : decode cX11_praise 59 = .ok (.iload_n 1, 1) := by decide +kernel
theorem dX11_praise_60 : decode cX11_praise 60 = .ok (.iadd, 1) := by decide +kernel
theorem dX11_praise_61 : decode cX11_praise 61 = .ok (.iaload, 1) := by decide +kernel
theorem dX11_praise_62 : decode cX11_praise 62 = .ok (.ireturn, 1) := by decide +kernel
theorem dX11_cloak_0 : decode cX11_cloak 0 = .ok (.aload_n 0, 1) := by decide +kernel
theorem dX11_cloak_1 : decode cX11_cloak 1 = .ok (.iload_n 1, 1) := by decide +kernel
theorem dX11_cloak_2 : decode cX11_cloak 2 = .ok (.invokevirtual 115, 3) := by decide +kernel
theorem dX11_cloak_5 : decode cX11_cloak 5 = .ok (.ifCond .eq 13, 3) := by decide +kernel
theorem dX11_cloak_8 : decode cX11_cloak 8 = .ok (.iload_n 2, 1) := by decide +kernel
theorem dX11_cloak_9 : decode cX11_cloak 9 = .ok (.i2l, 1) := by decide +kernel
theorem dX11_cloak_10 : decode cX11_cloak 10 = .ok (.lconst 0, 1) := by decide +kernel
theorem dX11_cloak_11 : decode cX11_cloak 11 = .ok (.lconst 1, 1) := by decide +kernel
theorem dX11_cloak_12 : decode cX11_cloak 12 = .ok (.invokestatic 42, 3) := by decide +kernel
theorem dX11_cloak_15 : decode cX11_cloak 15 = .ok (.ifCond .ne 5, 3) := by decide +kernel
theorem dX11_cloak_18 : decode cX11_cloak 18 = .ok (.iconst (-1), 1) := by decide +kernel
theorem dX11_cloak_19 : decode cX11_cloak 19 = .ok (.ireturn, 1) := by decide +kernel
theorem dX11_cloak_20 : decode cX11_cloak 20 = .ok (.aload_n 0, 1) := by decide +kernel
theorem dX11_cloak_21 : decode cX11_cloak 21 = .ok (.iconst 0, 1) := by decide +kernel
theorem dX11_cloak_22 : decode cX11_cloak 22 = .ok (.iload_n 1, 1) := by decide +kernel
theorem dX11_cloak_23 : decode cX11_cloak 23 = .ok (.invokevirtual 100, 3) := by decide +kernel
theorem dX11_cloak_26 : decode cX11_cloak 26 = .ok (.ifCond .ne 16, 3) := by decide +kernel
theorem dX11_cloak_29 : decode cX11_cloak 29 = .ok (.aload_n 0, 1) := by decide +kernel
theorem dX11_cloak_30 : decode cX11_cloak 30 = .ok (.getfield 7, 3) := by decide +kernel
theorem dX11_cloak_33 : decode cX11_cloak 33 = .ok (.bipush 61, 2) := by decide +kernel
theorem dX11_cloak_35 : decode cX11_cloak 35 = .ok (.iload_n 1, 1) := by decide +kernel
theorem dX11_cloak_36 : decode cX11_cloak 36 = .ok (.iadd, 1) := by decide +kernel
theorem dX11_cloak_37 : decode cX11_cloak 37 = .ok (.iaload, 1) := by decide +kernel
theorem dX11_cloak_38 : decode cX11_cloak 38 = .ok (.iload_n 2, 1) := by decide +kernel
theorem dX11_cloak_39 : decode cX11_cloak 39 = .ok (.if_icmp .ne 6, 3) := by decide +kernel
theorem dX11_cloak_42 : decode cX11_cloak 42 = .ok (.bipush (-2), 2) := by decide +kernel
theorem dX11_cloak_44 : decode cX11_cloak 44 = .ok (.ireturn, 1) := by decide +kernel
theorem dX11_cloak_45 : decode cX11_cloak 45 = .ok (.aload_n 0, 1) := by decide +kernel
theorem dX11_cloak_46 : decode cX11_cloak 46 = .ok (.invokevirtual 126, 3) := by decide +kernel
theorem dX11_cloak_49 : decode cX11_cloak 49 = .ok (.aload_n 0, 1) := by decide +kernel
theorem dX11_cloak_50 : decode cX11_cloak 50 = .ok (.getfield 7, 3) := by decide +kernel
theorem dX11_cloak_53 : decode cX11_cloak 53 = .ok (.bipush 61, 2) := by decide +kernel
theorem dX11_cloak_55 : decode cX11_cloak 55 = .ok (.iload_n 1, 1) := by decide +kernel
theorem dX11_cloak_56 : decode cX11_cloak 56 = .ok (.iadd, 1) := by decide +kernel
theorem dX11_cloak_57 : decode cX11_cloak 57 = .ok (.iload_n 2, 1) := by decide +kernel
theorem dX11_cloak_58 : decode cX11_cloak 58 = .ok (.iastore, 1) := by decide +kernel
theorem dX11_cloak_59 : decode cX11_cloak 59 = .ok (.iconst 0, 1) := by decide +kernel
theorem dX11_cloak_60 : decode cX11_cloak 60 = .ok (.istore_n 3, 1) := by decide +kernel
theorem dX11_cloak_61 : decode cX11_cloak 61 = .ok (.iconst 0, 1) := by decide +kernel
theorem dX11_cloak_62 : decode cX11_cloak 62 = .ok (.istore 4, 2) := by decide +kernel
theorem dX11_cloak_64 : decode cX11_cloak 64 = .ok (.iload 4, 2) := by decide +kernel
theorem dX11_cloak_66 : decode cX11_cloak 66 = .ok (.aload_n 0, 1) := by decide +kernel
theorem dX11_cloak_67 : decode cX11_cloak 67 = .ok (.getfield 7, 3) := by decide +kernel
theorem dX11_cloak_70 : decode cX11_cloak 70 = .ok (.iconst 1, 1) := by decide +kernel
theorem dX11_cloak_71 : decode cX11_cloak 71 = .ok (.iaload, 1) := by decide +kernel
theorem dX11_cloak_72 : decode cX11_cloak 72 = .ok (.if_icmp .ge 22, 3) := by decide +kernel
theorem dX11_cloak_75 : decode cX11_cloak 75 = .ok (.iload_n 3, 1) := by decide +kernel
theorem dX11_cloak_76 : decode cX11_cloak 76 = .ok (.aload_n 0, 1) := by decide +kernel
theorem dX11_cloak_77 : decode cX11_cloak 77 = .ok (.getfield 7, 3) := by decide +kernel
theorem dX11_cloak_80 : decode cX11_cloak 80 = .ok (.bipush 61, 2) := by decide +kernel
theorem dX11_cloak_82 : decode cX11_cloak 82 = .ok (.iload 4, 2) := by decide +kernel
theorem dX11_cloak_84 : decode cX11_cloak 84 = .ok (.iadd, 1) := by decide +kernel
theorem dX11_cloak_85 : decode cX11_cloak 85 = .ok (.iaload, 1) := by decide +kernel
theorem dX11_cloak_86 : decode cX11_cloak 86 = .ok (.iadd, 1) := by decide +kernel
theorem dX11_cloak_87 : decode cX11_cloak 87 = .ok (.istore_n 3, 1) := by decide +kernel
theorem dX11_cloak_88 : decode cX11_cloak 88 = .ok (.iinc 4 1, 3) := by decide +kernel
theorem dX11_cloak_91 : decode cX11_cloak 91 = .ok (.goto (-27), 3) := by decide +kernel
theorem dX11_cloak_94 : decode cX11_cloak 94 = .ok (.iload_n 3, 1) := by decide +kernel
theorem dX11_cloak_95 : decode cX11_cloak 95 = .ok (.ireturn, 1) := by decide +kernel
theorem dX11_heir_0 : decode cX11_heir 0 = .ok (.aload_n 0, 1) := by decide +kernel
theorem dX11_heir_1 : decode cX11_heir 1 = .ok (.iload_n 1, 1) := by decide +kernel
theorem dX11_heir_2 : decode cX11_heir 2 = .ok (.invokevirtual 115, 3) := by decide +kernel
theorem dX11_heir_5 : decode cX11_heir 5 = .ok (.ifCond .ne 5, 3) := by decide +kernel
theorem dX11_heir_8 : decode cX11_heir 8 = .ok (.iconst (-1), 1) := by decide +kernel
theorem dX11_heir_9 : decode cX11_heir 9 = .ok (.ireturn, 1) := by decide +kernel
theorem dX11_heir_10 : decode cX11_heir 10 = .ok (.aload_n 0, 1) := by decide +kernel
theorem dX11_heir_11 : decode cX11_heir 11 = .ok (.iconst 0, 1) := by decide +kernel
theorem dX11_heir_12 : decode cX11_heir 12 = .ok (.iload_n 1, 1) := by decide +kernel
theorem dX11_heir_13 : decode cX11_heir 13 = .ok (.invokevirtual 100, 3) := by decide +kernel
theorem dX11_heir_16 : decode cX11_heir 16 = .ok (.ifCond .ne 6, 3) := by decide +kernel
theorem dX11_heir_19 : decode cX11_heir 19 = .ok (.bipush (-2), 2) := by decide +kernel
theorem dX11_heir_21 : decode cX11_heir 21 = .ok (.ireturn, 1) := by decide +kernel
theorem dX11_heir_22 : decode cX11_heir 22 = .ok (.aload_n 0, 1) := by decide +kernel
theorem dX11_heir_23 : decode cX11_heir 23 = .ok (.invokevirtual 126, 3) := by decide +kernel
theorem dX11_heir_26 : decode cX11_heir 26 = .ok (.aload_n 0, 1) := by decide +kernel
theorem dX11_heir_27 : decode cX11_heir 27 = .ok (.getfield 7, 3) := by decide +kernel
theorem dX11_heir_30 : decode cX11_heir 30 = .ok (.bipush 13, 2) := by decide +kernel
theorem dX11_heir_32 : decode cX11_heir 32 = .ok (.iload_n 1, 1) := by decide +kernel
theorem dX11_heir_33 : decode cX11_heir 33 = .ok (.iadd, 1) := by decide +kernel
theorem dX11_heir_34 : decode cX11_heir 34 = .ok (.aload_n 0, 1) := by decide +kernel
theorem dX11_heir_35 : decode cX11_heir 35 = .ok (.getfield 7, 3) := by decide +kernel
theorem dX11_heir_38 : decode cX11_heir 38 = .ok (.bipush 13, 2) := by decide +kernel
theorem dX11_heir_40 : decode cX11_heir 40 = .ok (.iload_n 1, 1) := by decide +kernel
theorem dX11_heir_41 : decode cX11_heir 41 = .ok (.iadd, 1) := by decide +kernel
theorem dX11_heir_42 : decode cX11_heir 42 = .ok (.iaload, 1) := by decide +kernel
theorem dX11_heir_43 : decode cX11_heir 43 = .ok (.bipush 12, 2) := by decide +kernel
theorem dX11_heir_45 : decode cX11_heir 45 = .ok (.if_icmp .le 17, 3) := by decide +kernel
theorem dX11_heir_48 : decode cX11_heir 48 = .ok (.aload_n 0, 1) := by decide +kernel
theorem dX11_heir_49 : decode cX11_heir 49 = .ok (.getfield 7, 3) := by decide +kernel
theorem dX11_heir_52 : decode cX11_heir 52 = .ok (.bipush 13, 2) := by decide +kernel
theorem dX11_heir_54 : decode cX11_heir 54 = .ok (.iload_n 1, 1) := by decide +kernel
theorem dX11_heir_55 : decode cX11_heir 55 = .ok (.iadd, 1) := by decide +kernel
theorem dX11_heir_56 : decode cX11_heir 56 = .ok (.iaload, 1) := by decide +kernel
theorem dX11_heir_57 : decode cX11_heir 57 = .ok (.iconst 2, 1) := by decide +kernel
theorem dX11_heir_58 : decode cX11_heir 58 = .ok (.isub, 1) := by decide +kernel
theorem dX11_heir_59 : decode cX11_heir 59 = .ok (.goto 5, 3) := by decide +kernel
theorem dX11_heir_62 : decode cX11_heir 62 = .ok (.bipush 10, 2) := by decide +kernel
theorem dX11_heir_64 : decode cX11_heir 64 = .ok (.iastore, 1) := by decide +kernel
theorem dX11_heir_65 : decode cX11_heir 65 = .ok (.aload_n 0, 1) := by decide +kernel
theorem dX11_heir_66 : decode cX11_heir 66 = .ok (.getfield 7, 3) := by decide +kernel
theorem dX11_heir_69 : decode cX11_heir 69 = .ok (.bipush 37, 2) := by decide +kernel
theorem dX11_heir_71 : decode cX11_heir 71 = .ok (.iload_n 1, 1) := by decide +kernel
theorem dX11_heir_72 : decode cX11_heir 72 = .ok (.iadd, 1) := by decide +kernel
theorem dX11_heir_73 : decode cX11_heir 73 = .ok (.iconst 0, 1) := by decide +kernel
theorem dX11_heir_74 : decode cX11_heir 74 = .ok (.iastore, 1) := by decide +kernel
theorem dX11_heir_75 : decode cX11_heir 75 = .ok (.aload_n 0, 1) := by decide +kernel
theorem dX11_heir_76 : decode cX11_heir 76 = .ok (.getfield 7, 3) := by decide +kernel
theorem dX11_heir_79 : decode cX11_heir 79 = .ok (.bipush 55, 2) := by decide +kernel
theorem dX11_heir_81 : decode cX11_heir 81 = .ok (.iload_n 1, 1) := by decide +kernel
theorem dX11_heir_82 : decode cX11_heir 82 = .ok (.iadd, 1) := by decide +kernel
theorem dX11_heir_83 : decode cX11_heir 83 = .ok (.iconst 0, 1) := by decide +kernel
theorem dX11_heir_84 : decode cX11_heir 84 = .ok (.iastore, 1) := by decide +kernel
theorem dX11_heir_85 : decode cX11_heir 85 = .ok (.aload_n 0, 1) := by decide +kernel
theorem dX11_heir_86 : decode cX11_heir 86 = .ok (.getfield 7, 3) := by decide +kernel
theorem dX11_heir_89 : decode cX11_heir 89 = .ok (.bipush 49, 2) := by decide +kernel
theorem dX11_heir_91 : decode cX11_heir 91 = .ok (.iload_n 1, 1) := by decide +kernel
theorem dX11_heir_92 : decode cX11_heir 92 = .ok (.iadd, 1) := by decide +kernel
theorem dX11_heir_93 : decode cX11_heir 93 = .ok (.iconst 0, 1) := by decide +kernel
theorem dX11_heir_94 : decode cX11_heir 94 = .ok (.iastore, 1) := by decide +kernel
theorem dX11_heir_95 : decode cX11_heir 95 = .ok (.aload_n 0, 1) := by decide +kernel
theorem dX11_heir_96 : decode cX11_heir 96 = .ok (.getfield 7, 3) := by decide +kernel
theorem dX11_heir_99 : decode cX11_heir 99 = .ok (.bipush 61, 2) := by decide +kernel
theorem dX11_heir_101 : decode cX11_heir 101 = .ok (.iload_n 1, 1) := by decide +kernel
theorem dX11_heir_102 : decode cX11_heir 102 = .ok (.iadd, 1) := by decide +kernel
theorem dX11_heir_103 : decode cX11_heir 103 = .ok (.iconst 0, 1) := by decide +kernel
theorem dX11_heir_104 : decode cX11_heir 104 = .ok (.iastore, 1) := by decide +kernel
theorem dX11_heir_105 : decode cX11_heir 105 = .ok (.aload_n 0, 1) := by decide +kernel
theorem dX11_heir_106 : decode cX11_heir 106 = .ok (.getfield 7, 3) := by decide +kernel
theorem dX11_heir_109 : decode cX11_heir 109 = .ok (.bipush 43, 2) := by decide +kernel
theorem dX11_heir_111 : decode cX11_heir 111 = .ok (.iload_n 1, 1) := by decide +kernel
theorem dX11_heir_112 : decode cX11_heir 112 = .ok (.iadd, 1) := by decide +kernel
theorem dX11_heir_113 : decode cX11_heir 113 = .ok (.aload_n 0, 1) := by decide +kernel
theorem dX11_heir_114 : decode cX11_heir 114 = .ok (.getfield 7, 3) := by decide +kernel
theorem dX11_heir_117 : decode cX11_heir 117 = .ok (.iconst 3, 1) := by decide +kernel
theorem dX11_heir_118 : decode cX11_heir 118 = .ok (.iaload, 1) := by decide +kernel
theorem dX11_heir_119 : decode cX11_heir 119 = .ok (.iastore, 1) := by decide +kernel
theorem dX11_heir_120 : decode cX11_heir 120 = .ok (.aload_n 0, 1) := by decide +kernel
theorem dX11_heir_121 : decode cX11_heir 121 = .ok (.getfield 7, 3) := by decide +kernel
theorem dX11_heir_124 : decode cX11_heir 124 = .ok (.bipush 67, 2) := by decide +kernel
theorem dX11_heir_126 : decode cX11_heir 126 = .ok (.iload_n 1, 1) := by decide +kernel
theorem dX11_heir_127 : decode cX11_heir 127 = .ok (.iadd, 1) := by decide +kernel
theorem dX11_heir_128 : decode cX11_heir 128 = .ok (.iconst (-1), 1) := by decide +kernel
theorem dX11_heir_129 : decode cX11_heir 129 = .ok (.iastore, 1) := by decide +kernel
theorem dX11_heir_130 : decode cX11_heir 130 = .ok (.aload_n 0, 1) := by decide +kernel
theorem dX11_heir_131 : decode cX11_heir 131 = .ok (.getfield 7, 3) := by decide +kernel
theorem dX11_heir_134 : decode cX11_heir 134 = .ok (.bipush 13, 2) := by decide +kernel
theorem dX11_heir_136 : decode cX11_heir 136 = .ok (.iload_n 1, 1) := by decide +kernel
theorem dX11_heir_137 : decode cX11_heir 137 = .ok (.iadd, 1) := by decide +kernel
theorem dX11_heir_138 : decode cX11_heir 138 = .ok (.iaload, 1) := by decide +kernel
theorem dX11_heir_139 : decode cX11_heir 139 = .ok (.ireturn, 1) := by decide +kernel
theorem dX11_undo_0 : decode cX11_undo 0 = .ok (.aload_n 0, 1) := by decide +kernel
theorem dX11_undo_1 : decode cX11_undo 1 = .ok (.getfield 94, 3) := by decide +kernel
theorem dX11_undo_4 : decode cX11_undo 4 = .ok (.ifCond .ne 6, 3) := by decide +kernel
theorem dX11_undo_7 : decode cX11_undo 7 = .ok (.bipush (-4), 2) := by decide +kernel
theorem dX11_undo_9 : decode cX11_undo 9 = .ok (.ireturn, 1) := by decide +kernel
theorem dX11_undo_10 : decode cX11_undo 10 = .ok (.aload_n 0, 1) := by decide +kernel
theorem dX11_undo_11 : decode cX11_undo 11 = .ok (.dup, 1) := by decide +kernel
theorem dX11_undo_12 : decode cX11_undo 12 = .ok (.getfield 94, 3) := by decide +kernel
theorem dX11_undo_15 : decode cX11_undo 15 = .ok (.iconst 1, 1) := by decide +kernel
theorem dX11_undo_16 : decode cX11_undo 16 = .ok (.isub, 1) := by decide +kernel
theorem dX11_undo_17 : decode cX11_undo 17 = .ok (.putfield 94, 3) := by decide +kernel
theorem dX11_undo_20 : decode cX11_undo 20 = .ok (.aload_n 0, 1) := by decide +kernel
theorem dX11_undo_21 : decode cX11_undo 21 = .ok (.sipush 292, 3) := by decide +kernel
theorem dX11_undo_24 : decode cX11_undo 24 = .ok (.bipush 73, 2) := by decide +kernel
theorem dX11_undo_26 : decode cX11_undo 26 = .ok (.aload_n 0, 1) := by decide +kernel
theorem dX11_undo_27 : decode cX11_undo 27 = .ok (.getfield 94, 3) := by decide +kernel
theorem dX11_undo_30 : decode cX11_undo 30 = .ok (.imul, 1) := by decide +kernel
theorem dX11_undo_31 : decode cX11_undo 31 = .ok (.iadd, 1) := by decide +kernel
theorem dX11_undo_32 : decode cX11_undo 32 = .ok (.iconst 0, 1) := by decide +kernel
theorem dX11_undo_33 : decode cX11_undo 33 = .ok (.invokevirtual 90, 3) := by decide +kernel
theorem dX11_undo_36 : decode cX11_undo 36 = .ok (.aload_n 0, 1) := by decide +kernel
theorem dX11_undo_37 : decode cX11_undo 37 = .ok (.getfield 94, 3) := by decide +kernel
theorem dX11_undo_40 : decode cX11_undo 40 = .ok (.ireturn, 1) := by decide +kernel
theorem dX11_seed_0 : decode cX11_seed 0 = .ok (.iload_n 1, 1) := by decide +kernel
theorem dX11_seed_1 : decode cX11_seed 1 = .ok (.i2l, 1) := by decide +kernel
theorem dX11_seed_2 : decode cX11_seed 2 = .ok (.lconst 1, 1) := by decide +kernel
theorem dX11_seed_3 : decode cX11_seed 3 = .ok (.ldc2_w 139, 3) := by decide +kernel
theorem dX11_seed_6 : decode cX11_seed 6 = .ok (.invokestatic 42, 3) := by decide +kernel
theorem dX11_seed_9 : decode cX11_seed 9 = .ok (.ifCond .ne 5, 3) := by decide +kernel
theorem dX11_seed_12 : decode cX11_seed 12 = .ok (.iconst (-1), 1) := by decide +kernel
theorem dX11_seed_13 : decode cX11_seed 13 = .ok (.ireturn, 1) := by decide +kernel
theorem dX11_seed_14 : decode cX11_seed 14 = .ok (.aload_n 0, 1) := by decide +kernel
theorem dX11_seed_15 : decode cX11_seed 15 = .ok (.getfield 7, 3) := by decide +kernel
theorem dX11_seed_18 : decode cX11_seed 18 = .ok (.bipush 6, 2) := by decide +kernel
theorem dX11_seed_20 : decode cX11_seed 20 = .ok (.iaload, 1) := by decide +kernel
theorem dX11_seed_21 : decode cX11_seed 21 = .ok (.istore_n 2, 1) := by decide +kernel
theorem dX11_seed_22 : decode cX11_seed 22 = .ok (.aload_n 0, 1) := by decide +kernel
theorem dX11_seed_23 : decode cX11_seed 23 = .ok (.getfield 7, 3) := by decide +kernel
theorem dX11_seed_26 : decode cX11_seed 26 = .ok (.bipush 6, 2) := by decide +kernel
theorem dX11_seed_28 : decode cX11_seed 28 = .ok (.iload_n 1, 1) := by decide +kernel
theorem dX11_seed_29 : decode cX11_seed 29 = .ok (.iastore, 1) := by decide +kernel
theorem dX11_seed_30 : decode cX11_seed 30 = .ok (.iload_n 2, 1) := by decide +kernel
theorem dX11_seed_31 : decode cX11_seed 31 = .ok (.ireturn, 1) := by decide +kernel
theorem dX11_image_0 : decode cX11_image 0 = .ok (.iload_n 1, 1) := by decide +kernel
theorem dX11_image_1 : decode cX11_image 1 = .ok (.i2l, 1) := by decide +kernel
theorem dX11_image_2 : decode cX11_image 2 = .ok (.lconst 0, 1) := by decide +kernel
theorem dX11_image_3 : decode cX11_image 3 = .ok (.lconst 1, 1) := by decide +kernel
theorem dX11_image_4 : decode cX11_image 4 = .ok (.invokestatic 42, 3) := by decide +kernel
theorem dX11_image_7 : decode cX11_image 7 = .ok (.ifCond .ne 5, 3) := by decide +kernel
theorem dX11_image_10 : decode cX11_image 10 = .ok (.iconst (-1), 1) := by decide +kernel
theorem dX11_image_11 : decode cX11_image 11 = .ok (.ireturn, 1) := by decide +kernel
theorem dX11_image_12 : decode cX11_image 12 = .ok (.aload_n 0, 1) := by decide +kernel
theorem dX11_image_13 : decode cX11_image 13 = .ok (.getfield 7, 3) := by decide +kernel
theorem dX11_image_16 : decode cX11_image 16 = .ok (.iconst 0, 1) := by decide +kernel
theorem dX11_image_17 : decode cX11_image 17 = .ok (.iaload, 1) := by decide +kernel
theorem dX11_image_18 : decode cX11_image 18 = .ok (.ifCond .ne 6, 3) := by decide +kernel
theorem dX11_image_21 : decode cX11_image 21 = .ok (.bipush (-2), 2) := by decide +kernel
theorem dX11_image_23 : decode cX11_image 23 = .ok (.ireturn, 1) := by decide +kernel
theorem dX11_image_24 : decode cX11_image 24 = .ok (.aload_n 0, 1) := by decide +kernel
theorem dX11_image_25 : decode cX11_image 25 = .ok (.iconst 0, 1) := by decide +kernel
theorem dX11_image_26 : decode cX11_image 26 = .ok (.bipush 73, 2) := by decide +kernel
theorem dX11_image_28 : decode cX11_image 28 = .ok (.iconst 1, 1) := by decide +kernel
theorem dX11_image_29 : decode cX11_image 29 = .ok (.iload_n 1, 1) := by decide +kernel
theorem dX11_image_30 : decode cX11_image 30 = .ok (.iadd, 1) := by decide +kernel
theorem dX11_image_31 : decode cX11_image 31 = .ok (.imul, 1) := by decide +kernel
theorem dX11_image_32 : decode cX11_image 32 = .ok (.invokevirtual 90, 3) := by decide +kernel
theorem dX11_image_35 : decode cX11_image 35 = .ok (.aload_n 0, 1) := by decide +kernel
theorem dX11_image_36 : decode cX11_image 36 = .ok (.getfield 13, 3) := by decide +kernel
theorem dX11_image_39 : decode cX11_image 39 = .ok (.iload_n 1, 1) := by decide +kernel
theorem dX11_image_40 : decode cX11_image 40 = .ok (.iconst 1, 1) := by decide +kernel
theorem dX11_image_41 : decode cX11_image 41 = .ok (.bastore, 1) := by decide +kernel
theorem dX11_image_42 : decode cX11_image 42 = .ok (.aload_n 0, 1) := by decide +kernel
theorem dX11_image_43 : decode cX11_image 43 = .ok (.iconst 0, 1) := by decide +kernel
theorem dX11_image_44 : decode cX11_image 44 = .ok (.invokevirtual 133, 3) := by decide +kernel
theorem dX11_image_47 : decode cX11_image 47 = .ok (.ireturn, 1) := by decide +kernel
theorem dX11_restore_0 : decode cX11_restore 0 = .ok (.iload_n 1, 1) := by decide +kernel
theorem dX11_restore_1 : decode cX11_restore 1 = .ok (.i2l, 1) := by decide +kernel
theorem dX11_restore_2 : decode cX11_restore 2 = .ok (.lconst 0, 1) := by decide +kernel
theorem dX11_restore_3 : decode cX11_restore 3 = .ok (.lconst 1, 1) := by decide +kernel
theorem dX11_restore_4 : decode cX11_restore 4 = .ok (.invokestatic 42, 3) := by decide +kernel
theorem dX11_restore_7 : decode cX11_restore 7 = .ok (.ifCond .ne 5, 3) := by decide +kernel
theorem dX11_restore_10 : decode cX11_restore 10 = .ok (.iconst (-1), 1) := by decide +kernel
theorem dX11_restore_11 : decode cX11_restore 11 = .ok (.ireturn, 1) := by decide +kernel
theorem dX11_restore_12 : decode cX11_restore 12 = .ok (.aload_n 0, 1) := by decide +kernel
theorem dX11_restore_13 : decode cX11_restore 13 = .ok (.getfield 13, 3) := by decide +kernel
theorem dX11_restore_16 : decode cX11_restore 16 = .ok (.iload_n 1, 1) := by decide +kernel
theorem dX11_restore_17 : decode cX11_restore 17 = .ok (.baload, 1) := by decide +kernel
theorem dX11_restore_18 : decode cX11_restore 18 = .ok (.ifCond .ne 6, 3) := by decide +kernel
theorem dX11_restore_21 : decode cX11_restore 21 = .ok (.bipush (-2), 2) := by decide +kernel
theorem dX11_restore_23 : decode cX11_restore 23 = .ok (.ireturn, 1) := by decide +kernel
theorem dX11_restore_24 : decode cX11_restore 24 = .ok (.aload_n 0, 1) := by decide +kernel
theorem dX11_restore_25 : decode cX11_restore 25 = .ok (.bipush 73, 2) := by decide +kernel
theorem dX11_restore_27 : decode cX11_restore 27 = .ok (.iconst 1, 1) := by decide +kernel
theorem dX11_restore_28 : decode cX11_restore 28 = .ok (.iload_n 1, 1) := by decide +kernel
theorem dX11_restore_29 : decode cX11_restore 29 = .ok (.iadd, 1) := by decide +kernel
theorem dX11_restore_30 : decode cX11_restore 30 = .ok (.imul, 1) := by decide +kernel
theorem dX11_restore_31 : decode cX11_restore 31 = .ok (.iconst 0, 1) := by decide +kernel
theorem dX11_restore_32 : decode cX11_restore 32 = .ok (.invokevirtual 90, 3) := by decide +kernel
theorem dX11_restore_35 : decode cX11_restore 35 = .ok (.aload_n 0, 1) := by decide +kernel
theorem dX11_restore_36 : decode cX11_restore 36 = .ok (.iconst 0, 1) := by decide +kernel
theorem dX11_restore_37 : decode cX11_restore 37 = .ok (.putfield 94, 3) := by decide +kernel
theorem dX11_restore_40 : decode cX11_restore 40 = .ok (.aload_n 0, 1) := by decide +kernel
theorem dX11_restore_41 : decode cX11_restore 41 = .ok (.iconst 0, 1) := by decide +kernel
theorem dX11_restore_42 : decode cX11_restore 42 = .ok (.invokevirtual 133, 3) := by decide +kernel
theorem dX11_restore_45 : decode cX11_restore 45 = .ok (.ireturn, 1) := by decide +kernel
theorem dX11_passesMany_0 : decode cX11_passesMany 0 = .ok (.iconst 0, 1) := by decide +kernel
theorem dX11_passesMany_1 : decode cX11_passesMany 1 = .ok (.istore_n 2, 1) := by decide +kernel
theorem dX11_passesMany_2 : decode cX11_passesMany 2 = .ok (.iload_n 2, 1) := by decide +kernel
theorem dX11_passesMany_3 : decode cX11_passesMany 3 = .ok (.iload_n 1, 1) := by decide +kernel
theorem dX11_passesMany_4 : decode cX11_passesMany 4 = .ok (.if_icmp .ge 16, 3) := by decide +kernel
theorem dX11_passesMany_7 : decode cX11_passesMany 7 = .ok (.aload_n 0, 1) := by decide +kernel
theorem dX11_passesMany_8 : decode cX11_passesMany 8 = .ok (.sipush 219, 3) := by decide +kernel
theorem dX11_passesMany_11 : decode cX11_passesMany 11 = .ok (.invokevirtual 129, 3) := by decide +kernel
theorem dX11_passesMany_14 : decode cX11_passesMany 14 = .ok (.iinc 2 1, 3) := by decide +kernel
theorem dX11_passesMany_17 : decode cX11_passesMany 17 = .ok (.goto (-15), 3) := by decide +kernel
theorem dX11_passesMany_20 : decode cX11_passesMany 20 = .ok (.return_, 1) := by decide +kernel
theorem dX11_strain_0 : decode cX11_strain 0 = .ok (.aload_n 0, 1) := by decide +kernel
theorem dX11_strain_1 : decode cX11_strain 1 = .ok (.iload_n 1, 1) := by decide +kernel
theorem dX11_strain_2 : decode cX11_strain 2 = .ok (.invokevirtual 115, 3) := by decide +kernel
theorem dX11_strain_5 : decode cX11_strain 5 = .ok (.ifCond .eq 15, 3) := by decide +kernel
theorem dX11_strain_8 : decode cX11_strain 8 = .ok (.iload_n 2, 1) := by decide +kernel
theorem dX11_strain_9 : decode cX11_strain 9 = .ok (.i2l, 1) := by decide +kernel
theorem dX11_strain_10 : decode cX11_strain 10 = .ok (.lconst 0, 1) := by decide +kernel
theorem dX11_strain_11 : decode cX11_strain 11 = .ok (.ldc2_w 141, 3) := by decide +kernel
theorem dX11_strain_14 : decode cX11_strain 14 = .ok (.invokestatic 42, 3) := by decide +kernel
theorem dX11_strain_17 : decode cX11_strain 17 = .ok (.ifCond .ne 5, 3) := by decide +kernel
theorem dX11_strain_20 : decode cX11_strain 20 = .ok (.iconst (-1), 1) := by decide +kernel
theorem dX11_strain_21 : decode cX11_strain 21 = .ok (.ireturn, 1) := by decide +kernel
theorem dX11_strain_22 : decode cX11_strain 22 = .ok (.aload_n 0, 1) := by decide +kernel
theorem dX11_strain_23 : decode cX11_strain 23 = .ok (.iconst 0, 1) := by decide +kernel
theorem dX11_strain_24 : decode cX11_strain 24 = .ok (.sipush 219, 3) := by decide +kernel
theorem dX11_strain_27 : decode cX11_strain 27 = .ok (.invokevirtual 90, 3) := by decide +kernel
theorem dX11_strain_30 : decode cX11_strain 30 = .ok (.aload_n 0, 1) := by decide +kernel
theorem dX11_strain_31 : decode cX11_strain 31 = .ok (.iload_n 2, 1) := by decide +kernel
theorem dX11_strain_32 : decode cX11_strain 32 = .ok (.invokevirtual 143, 3) := by decide +kernel
theorem dX11_strain_35 : decode cX11_strain 35 = .ok (.aload_n 0, 1) := by decide +kernel
theorem dX11_strain_36 : decode cX11_strain 36 = .ok (.getfield 7, 3) := by decide +kernel
theorem dX11_strain_39 : decode cX11_strain 39 = .ok (.sipush 256, 3) := by decide +kernel
theorem dX11_strain_42 : decode cX11_strain 42 = .ok (.iload_n 1, 1) := by decide +kernel
theorem dX11_strain_43 : decode cX11_strain 43 = .ok (.iadd, 1) := by decide +kernel
theorem dX11_strain_44 : decode cX11_strain 44 = .ok (.iaload, 1) := by decide +kernel
theorem dX11_strain_45 : decode cX11_strain 45 = .ok (.ireturn, 1) := by decide +kernel
theorem dX11_downIn_0 : decode cX11_downIn 0 = .ok (.aload_n 0, 1) := by decide +kernel
theorem dX11_downIn_1 : decode cX11_downIn 1 = .ok (.sipush 219, 3) := by decide +kernel
theorem dX11_downIn_4 : decode cX11_downIn 4 = .ok (.iload_n 1, 1) := by decide +kernel
theorem dX11_downIn_5 : decode cX11_downIn 5 = .ok (.invokevirtual 100, 3) := by decide +kernel
theorem dX11_downIn_8 : decode cX11_downIn 8 = .ok (.ifCond .eq 25, 3) := by decide +kernel
theorem dX11_downIn_11 : decode cX11_downIn 11 = .ok (.aload_n 0, 1) := by decide +kernel
theorem dX11_downIn_12 : decode cX11_downIn 12 = .ok (.getfield 7, 3) := by decide +kernel
theorem dX11_downIn_15 : decode cX11_downIn 15 = .ok (.sipush 286, 3) := by decide +kernel
theorem dX11_downIn_18 : decode cX11_downIn 18 = .ok (.iload_n 1, 1) := by decide +kernel
theorem dX11_downIn_19 : decode cX11_downIn 19 = .ok (.iadd, 1) := by decide +kernel
theorem dX11_downIn_20 : decode cX11_downIn 20 = .ok (.iaload, 1) := by decide +kernel
theorem dX11_downIn_21 : decode cX11_downIn 21 = .ok (.aload_n 0, 1) := by decide +kernel
theorem dX11_downIn_22 : decode cX11_downIn 22 = .ok (.getfield 7, 3) := by decide +kernel
theorem dX11_downIn_25 : decode cX11_downIn 25 = .ok (.iconst 4, 1) := by decide +kernel
theorem dX11_downIn_26 : decode cX11_downIn 26 = .ok (.iaload, 1) := by decide +kernel
theorem dX11_downIn_27 : decode cX11_downIn 27 = .ok (.isub, 1) := by decide +kernel
theorem dX11_downIn_28 : decode cX11_downIn 28 = .ok (.iconst 1, 1) := by decide +kernel
theorem dX11_downIn_29 : decode cX11_downIn 29 = .ok (.iadd, 1) := by decide +kernel
theorem dX11_downIn_30 : decode cX11_downIn 30 = .ok (.goto 5, 3) := by decide +kernel
theorem dX11_downIn_33 : decode cX11_downIn 33 = .ok (.ldc 146, 2) := by decide +kernel
theorem dX11_downIn_35 : decode cX11_downIn 35 = .ok (.ireturn, 1) := by decide +kernel
theorem dX11_triesSixty_0 : decode cX11_triesSixty 0 = .ok (.aload_n 0, 1) := by decide +kernel
theorem dX11_triesSixty_1 : decode cX11_triesSixty 1 = .ok (.iconst 0, 1) := by decide +kernel
theorem dX11_triesSixty_2 : decode cX11_triesSixty 2 = .ok (.sipush 219, 3) := by decide +kernel
theorem dX11_triesSixty_5 : decode cX11_triesSixty 5 = .ok (.invokevirtual 90, 3) := by decide +kernel
theorem dX11_triesSixty_8 : decode cX11_triesSixty 8 = .ok (.aload_n 0, 1) := by decide +kernel
theorem dX11_triesSixty_9 : decode cX11_triesSixty 9 = .ok (.bipush 60, 2) := by decide +kernel
theorem dX11_triesSixty_11 : decode cX11_triesSixty 11 = .ok (.invokevirtual 143, 3) := by decide +kernel
theorem dX11_triesSixty_14 : decode cX11_triesSixty 14 = .ok (.return_, 1) := by decide +kernel
theorem dX11_down_0 : decode cX11_down 0 = .ok (.aload_n 0, 1) := by decide +kernel
theorem dX11_down_1 : decode cX11_down 1 = .ok (.iload_n 1, 1) := by decide +kernel
theorem dX11_down_2 : decode cX11_down 2 = .ok (.invokevirtual 115, 3) := by decide +kernel
theorem dX11_down_5 : decode cX11_down 5 = .ok (.ifCond .ne 5, 3) := by decide +kernel
theorem dX11_down_8 : decode cX11_down 8 = .ok (.iconst (-1), 1) := by decide +kernel
theorem dX11_down_9 : decode cX11_down 9 = .ok (.ireturn, 1) := by decide +kernel
theorem dX11_down_10 : decode cX11_down 10 = .ok (.aload_n 0, 1) := by decide +kernel
theorem dX11_down_11 : decode cX11_down 11 = .ok (.iconst 0, 1) := by decide +kernel
theorem dX11_down_12 : decode cX11_down 12 = .ok (.iload_n 1, 1) := by decide +kernel
theorem dX11_down_13 : decode cX11_down 13 = .ok (.invokevirtual 100, 3) := by decide +kernel
theorem dX11_down_16 : decode cX11_down 16 = .ok (.ifCond .eq 5, 3) := by decide +kernel
theorem dX11_down_19 : decode cX11_down 19 = .ok (.iconst 0, 1) := by decide +kernel
theorem dX11_down_20 : decode cX11_down 20 = .ok (.ireturn, 1) := by decide +kernel
theorem dX11_down_21 : decode cX11_down 21 = .ok (.aload_n 0, 1) := by decide +kernel
theorem dX11_down_22 : decode cX11_down 22 = .ok (.invokevirtual 147, 3) := by decide +kernel
theorem dX11_down_25 : decode cX11_down 25 = .ok (.aload_n 0, 1) := by decide +kernel
theorem dX11_down_26 : decode cX11_down 26 = .ok (.iload_n 1, 1) := by decide +kernel
theorem dX11_down_27 : decode cX11_down 27 = .ok (.invokevirtual 150, 3) := by decide +kernel
theorem dX11_down_30 : decode cX11_down 30 = .ok (.ldc 146, 2) := by decide +kernel
theorem dX11_down_32 : decode cX11_down 32 = .ok (.if_icmp .ne 8, 3) := by decide +kernel
theorem dX11_down_35 : decode cX11_down 35 = .ok (.bipush (-4), 2) := by decide +kernel
theorem dX11_down_37 : decode cX11_down 37 = .ok (.goto 8, 3) := by decide +kernel
theorem dX11_down_40 : decode cX11_down 40 = .ok (.aload_n 0, 1) := by decide +kernel
theorem dX11_down_41 : decode cX11_down 41 = .ok (.iload_n 1, 1) := by decide +kernel
theorem dX11_down_42 : decode cX11_down 42 = .ok (.invokevirtual 150, 3) := by decide +kernel
theorem dX11_down_45 : decode cX11_down 45 = .ok (.ireturn, 1) := by decide +kernel
theorem dX11_areTwo_0 : decode cX11_areTwo 0 = .ok (.aload_n 0, 1) := by decide +kernel
theorem dX11_areTwo_1 : decode cX11_areTwo 1 = .ok (.iload_n 1, 1) := by decide +kernel
theorem dX11_areTwo_2 : decode cX11_areTwo 2 = .ok (.invokevirtual 115, 3) := by decide +kernel
theorem dX11_areTwo_5 : decode cX11_areTwo 5 = .ok (.ifCond .eq 20, 3) := by decide +kernel
theorem dX11_areTwo_8 : decode cX11_areTwo 8 = .ok (.aload_n 0, 1) := by decide +kernel
theorem dX11_areTwo_9 : decode cX11_areTwo 9 = .ok (.iload_n 2, 1) := by decide +kernel
theorem dX11_areTwo_10 : decode cX11_areTwo 10 = .ok (.invokevirtual 115, 3) := by decide +kernel
theorem dX11_areTwo_13 : decode cX11_areTwo 13 = .ok (.ifCond .eq 12, 3) := by decide +kernel
theorem dX11_areTwo_16 : decode cX11_areTwo 16 = .ok (.iload_n 1, 1) := by decide +kernel
theorem dX11_areTwo_17 : decode cX11_areTwo 17 = .ok (.iload_n 2, 1) := by decide +kernel
theorem dX11_areTwo_18 : decode cX11_areTwo 18 = .ok (.if_icmp .eq 7, 3) := by decide +kernel
theorem dX11_areTwo_21 : decode cX11_areTwo 21 = .ok (.iconst 1, 1) := by decide +kernel
theorem dX11_areTwo_22 : decode cX11_areTwo 22 = .ok (.goto 4, 3) := by decide +kernel
theorem dX11_areTwo_25 : decode cX11_areTwo 25 = .ok (.iconst 0, 1) := by decide +kernel
theorem dX11_areTwo_26 : decode cX11_areTwo 26 = .ok (.ireturn, 1) := by decide +kernel
theorem dX11_duel_0 : decode cX11_duel 0 = .ok (.aload_n 0, 1) := by decide +kernel
theorem dX11_duel_1 : decode cX11_duel 1 = .ok (.iload_n 1, 1) := by decide +kernel
theorem dX11_duel_2 : decode cX11_duel 2 = .ok (.iload_n 2, 1) := by decide +kernel
theorem dX11_duel_3 : decode cX11_duel 3 = .ok (.invokevirtual 153, 3) := by decide +kernel
theorem dX11_duel_6 : decode cX11_duel 6 = .ok (.ifCond .ne 5, 3) := by decide +kernel
theorem dX11_duel_9 : decode cX11_duel 9 = .ok (.iconst (-1), 1) := by decide +kernel
theorem dX11_duel_10 : decode cX11_duel 10 = .ok (.ireturn, 1) := by decide +kernel
theorem dX11_duel_11 : decode cX11_duel 11 = .ok (.aload_n 0, 1) := by decide +kernel
theorem dX11_duel_12 : decode cX11_duel 12 = .ok (.iconst 0, 1) := by decide +kernel
theorem dX11_duel_13 : decode cX11_duel 13 = .ok (.iload_n 1, 1) := by decide +kernel
theorem dX11_duel_14 : decode cX11_duel 14 = .ok (.invokevirtual 100, 3) := by decide +kernel
theorem dX11_duel_17 : decode cX11_duel 17 = .ok (.ifCond .ne 12, 3) := by decide +kernel
theorem dX11_duel_20 : decode cX11_duel 20 = .ok (.aload_n 0, 1) := by decide +kernel
theorem dX11_duel_21 : decode cX11_duel 21 = .ok (.iconst 0, 1) := by decide +kernel
theorem dX11_duel_22 : decode cX11_duel 22 = .ok (.iload_n 2, 1) := by decide +kernel
theorem dX11_duel_23 : decode cX11_duel 23 = .ok (.invokevirtual 100, 3) := by decide +kernel
theorem dX11_duel_26 : decode cX11_duel 26 = .ok (.ifCond .eq 6, 3) := by decide +kernel
theorem dX11_duel_29 : decode cX11_duel 29 = .ok (.bipush (-2), 2) := by decide +kernel
theorem dX11_duel_31 : decode cX11_duel 31 = .ok (.ireturn, 1) := by decide +kernel
theorem dX11_duel_32 : decode cX11_duel 32 = .ok (.aload_n 0, 1) := by decide +kernel
theorem dX11_duel_33 : decode cX11_duel 33 = .ok (.invokevirtual 147, 3) := by decide +kernel
theorem dX11_duel_36 : decode cX11_duel 36 = .ok (.aload_n 0, 1) := by decide +kernel
theorem dX11_duel_37 : decode cX11_duel 37 = .ok (.iload_n 1, 1) := by decide +kernel
theorem dX11_duel_38 : decode cX11_duel 38 = .ok (.invokevirtual 150, 3) := by decide +kernel
theorem dX11_duel_41 : decode cX11_duel 41 = .ok (.aload_n 0, 1) := by decide +kernel
theorem dX11_duel_42 : decode cX11_duel 42 = .ok (.iload_n 2, 1) := by decide +kernel
theorem dX11_duel_43 : decode cX11_duel 43 = .ok (.invokevirtual 150, 3) := by decide +kernel
theorem dX11_duel_46 : decode cX11_duel 46 = .ok (.if_icmp .ne 8, 3) := by decide +kernel
theorem dX11_duel_49 : decode cX11_duel 49 = .ok (.bipush (-4), 2) := by decide +kernel
theorem dX11_duel_51 : decode cX11_duel 51 = .ok (.goto 21, 3) := by decide +kernel
theorem dX11_duel_54 : decode cX11_duel 54 = .ok (.aload_n 0, 1) := by decide +kernel
theorem dX11_duel_55 : decode cX11_duel 55 = .ok (.iload_n 1, 1) := by decide +kernel
theorem dX11_duel_56 : decode cX11_duel 56 = .ok (.invokevirtual 150, 3) := by decide +kernel
theorem dX11_duel_59 : decode cX11_duel 59 = .ok (.aload_n 0, 1) := by decide +kernel
theorem dX11_duel_60 : decode cX11_duel 60 = .ok (.iload_n 2, 1) := by decide +kernel
theorem dX11_duel_61 : decode cX11_duel 61 = .ok (.invokevirtual 150, 3) := by decide +kernel
theorem dX11_duel_64 : decode cX11_duel 64 = .ok (.if_icmp .le 7, 3) := by decide +kernel
theorem dX11_duel_67 : decode cX11_duel 67 = .ok (.iload_n 1, 1) := by decide +kernel
theorem dX11_duel_68 : decode cX11_duel 68 = .ok (.goto 4, 3) := by decide +kernel
theorem dX11_duel_71 : decode cX11_duel 71 = .ok (.iload_n 2, 1) := by decide +kernel
theorem dX11_duel_72 : decode cX11_duel 72 = .ok (.ireturn, 1) := by decide +kernel
theorem dX11_honour_0 : decode cX11_honour 0 = .ok (.aload_n 0, 1) := by decide +kernel
theorem dX11_honour_1 : decode cX11_honour 1 = .ok (.iload_n 1, 1) := by decide +kernel
theorem dX11_honour_2 : decode cX11_honour 2 = .ok (.invokevirtual 115, 3) := by decide +kernel
theorem dX11_honour_5 : decode cX11_honour 5 = .ok (.ifCond .ne 5, 3) := by decide +kernel
theorem dX11_honour_8 : decode cX11_honour 8 = .ok (.iconst (-1), 1) := by decide +kernel
theorem dX11_honour_9 : decode cX11_honour 9 = .ok (.ireturn, 1) := by decide +kernel
theorem dX11_honour_10 : decode cX11_honour 10 = .ok (.aload_n 0, 1) := by decide +kernel
theorem dX11_honour_11 : decode cX11_honour 11 = .ok (.iconst 0, 1) := by decide +kernel
theorem dX11_honour_12 : decode cX11_honour 12 = .ok (.iload_n 1, 1) := by decide +kernel
theorem dX11_honour_13 : decode cX11_honour 13 = .ok (.invokevirtual 100, 3) := by decide +kernel
theorem dX11_honour_16 : decode cX11_honour 16 = .ok (.ifCond .eq 6, 3) := by decide +kernel
theorem dX11_honour_19 : decode cX11_honour 19 = .ok (.bipush (-2), 2) := by decide +kernel
theorem dX11_honour_21 : decode cX11_honour 21 = .ok (.ireturn, 1) := by decide +kernel
theorem dX11_honour_22 : decode cX11_honour 22 = .ok (.aload_n 0, 1) := by decide +kernel
theorem dX11_honour_23 : decode cX11_honour 23 = .ok (.invokevirtual 147, 3) := by decide +kernel
theorem dX11_honour_26 : decode cX11_honour 26 = .ok (.bipush 10, 2) := by decide +kernel
theorem dX11_honour_28 : decode cX11_honour 28 = .ok (.istore_n 2, 1) := by decide +kernel
theorem dX11_honour_29 : decode cX11_honour 29 = .ok (.iconst 0, 1) := by decide +kernel
theorem dX11_honour_30 : decode cX11_honour 30 = .ok (.istore_n 3, 1) := by decide +kernel
theorem dX11_honour_31 : decode cX11_honour 31 = .ok (.iload_n 3, 1) := by decide +kernel
theorem dX11_honour_32 : decode cX11_honour 32 = .ok (.aload_n 0, 1) := by decide +kernel
theorem dX11_honour_33 : decode cX11_honour 33 = .ok (.getfield 7, 3) := by decide +kernel
theorem dX11_honour_36 : decode cX11_honour 36 = .ok (.iconst 1, 1) := by decide +kernel
theorem dX11_honour_37 : decode cX11_honour 37 = .ok (.iaload, 1) := by decide +kernel
theorem dX11_honour_38 : decode cX11_honour 38 = .ok (.if_icmp .ge 56, 3) := by decide +kernel
theorem dX11_honour_41 : decode cX11_honour 41 = .ok (.aload_n 0, 1) := by decide +kernel
theorem dX11_honour_42 : decode cX11_honour 42 = .ok (.iconst 0, 1) := by decide +kernel
theorem dX11_honour_43 : decode cX11_honour 43 = .ok (.iload_n 3, 1) := by decide +kernel
theorem dX11_honour_44 : decode cX11_honour 44 = .ok (.invokevirtual 100, 3) := by decide +kernel
theorem dX11_honour_47 : decode cX11_honour 47 = .ok (.ifCond .ne 41, 3) := by decide +kernel
theorem dX11_honour_50 : decode cX11_honour 50 = .ok (.iload_n 2, 1) := by decide +kernel
theorem dX11_honour_51 : decode cX11_honour 51 = .ok (.aload_n 0, 1) := by decide +kernel
theorem dX11_honour_52 : decode cX11_honour 52 = .ok (.iload_n 1, 1) := by decide +kernel
theorem dX11_honour_53 : decode cX11_honour 53 = .ok (.invokevirtual 150, 3) := by decide +kernel
theorem dX11_honour_56 : decode cX11_honour 56 = .ok (.aload_n 0, 1) := by decide +kernel
theorem dX11_honour_57 : decode cX11_honour 57 = .ok (.iload_n 3, 1) := by decide +kernel
theorem dX11_honour_58 : decode cX11_honour 58 = .ok (.invokevirtual 150, 3) := by decide +kernel
theorem dX11_honour_61 : decode cX11_honour 61 = .ok (.if_icmp .le 7, 3) := by decide +kernel
theorem dX11_honour_64 : decode cX11_honour 64 = .ok (.iconst 1, 1) := by decide +kernel
theorem dX11_honour_65 : decode cX11_honour 65 = .ok (.goto 21, 3) := by decide +kernel
theorem dX11_honour_68 : decode cX11_honour 68 = .ok (.aload_n 0, 1) := by decide +kernel
theorem dX11_honour_69 : decode cX11_honour 69 = .ok (.iload_n 1, 1) := by decide +kernel
theorem dX11_honour_70 : decode cX11_honour 70 = .ok (.invokevirtual 150, 3) := by decide +kernel
theorem dX11_honour_73 : decode cX11_honour 73 = .ok (.aload_n 0, 1) := by decide +kernel
theorem dX11_honour_74 : decode cX11_honour 74 = .ok (.iload_n 3, 1) := by decide +kernel
theorem dX11_honour_75 : decode cX11_honour 75 = .ok (.invokevirtual 150, 3) := by decide +kernel
theorem dX11_honour_78 : decode cX11_honour 78 = .ok (.if_icmp .ge 7, 3) := by decide +kernel
theorem dX11_honour_81 : decode cX11_honour 81 = .ok (.iconst (-1), 1) := by decide +kernel
theorem dX11_honour_82 : decode cX11_honour 82 = .ok (.goto 4, 3) := by decide +kernel
theorem dX11_honour_85 : decode cX11_honour 85 = .ok (.iconst 0, 1) := by decide +kernel
theorem dX11_honour_86 : decode cX11_honour 86 = .ok (.iadd, 1) := by decide +kernel
theorem dX11_honour_87 : decode cX11_honour 87 = .ok (.istore_n 2, 1) := by decide +kernel
theorem dX11_honour_88 : decode cX11_honour 88 = .ok (.iinc 3 1, 3) := by decide +kernel
theorem dX11_honour_91 : decode cX11_honour 91 = .ok (.goto (-60), 3) := by decide +kernel
theorem dX11_honour_94 : decode cX11_honour 94 = .ok (.iload_n 2, 1) := by decide +kernel
theorem dX11_honour_95 : decode cX11_honour 95 = .ok (.ireturn, 1) := by decide +kernel
theorem dX11_sitsBy_0 : decode cX11_sitsBy 0 = .ok (.aload_n 0, 1) := by decide +kernel
theorem dX11_sitsBy_1 : decode cX11_sitsBy 1 = .ok (.iconst 0, 1) := by decide +kernel
theorem dX11_sitsBy_2 : decode cX11_sitsBy 2 = .ok (.sipush 219, 3) := by decide +kernel
theorem dX11_sitsBy_5 : decode cX11_sitsBy 5 = .ok (.invokevirtual 90, 3) := by decide +kernel
theorem dX11_sitsBy_8 : decode cX11_sitsBy 8 = .ok (.iconst 0, 1) := by decide +kernel
theorem dX11_sitsBy_9 : decode cX11_sitsBy 9 = .ok (.istore 4, 2) := by decide +kernel
theorem dX11_sitsBy_11 : decode cX11_sitsBy 11 = .ok (.iconst 0, 1) := by decide +kernel
theorem dX11_sitsBy_12 : decode cX11_sitsBy 12 = .ok (.istore 5, 2) := by decide +kernel
theorem dX11_sitsBy_14 : decode cX11_sitsBy 14 = .ok (.iload 5, 2) := by decide +kernel
theorem dX11_sitsBy_16 : decode cX11_sitsBy 16 = .ok (.iload_n 3, 1) := by decide +kernel
theorem dX11_sitsBy_17 : decode cX11_sitsBy 17 = .ok (.if_icmp .ge 54, 3) := by decide +kernel
theorem dX11_sitsBy_20 : decode cX11_sitsBy 20 = .ok (.iload_n 2, 1) := by decide +kernel
theorem dX11_sitsBy_21 : decode cX11_sitsBy 21 = .ok (.iload 5, 2) := by decide +kernel
theorem dX11_sitsBy_23 : decode cX11_sitsBy 23 = .ok (.invokestatic 156, 3) := by decide +kernel
theorem dX11_sitsBy_26 : decode cX11_sitsBy 26 = .ok (.ifCond .eq 11, 3) := by decide +kernel
theorem dX11_sitsBy_29 : decode cX11_sitsBy 29 = .ok (.aload_n 0, 1) := by decide +kernel
theorem dX11_sitsBy_30 : decode cX11_sitsBy 30 = .ok (.sipush 219, 3) := by decide +kernel
theorem dX11_sitsBy_33 : decode cX11_sitsBy 33 = .ok (.iload_n 1, 1) := by decide +kernel
theorem dX11_sitsBy_34 : decode cX11_sitsBy 34 = .ok (.invokevirtual 136, 3) := by decide +kernel
theorem dX11_sitsBy_37 : decode cX11_sitsBy 37 = .ok (.aload_n 0, 1) := by decide +kernel
theorem dX11_sitsBy_38 : decode cX11_sitsBy 38 = .ok (.sipush 219, 3) := by decide +kernel
theorem dX11_sitsBy_41 : decode cX11_sitsBy 41 = .ok (.invokevirtual 129, 3) := by decide +kernel
theorem dX11_sitsBy_44 : decode cX11_sitsBy 44 = .ok (.iload 4, 2) := by decide +kernel
theorem dX11_sitsBy_46 : decode cX11_sitsBy 46 = .ok (.aload_n 0, 1) := by decide +kernel
theorem dX11_sitsBy_47 : decode cX11_sitsBy 47 = .ok (.sipush 219, 3) := by decide +kernel
theorem dX11_sitsBy_50 : decode cX11_sitsBy 50 = .ok (.iload_n 1, 1) := by decide +kernel
theorem dX11_sitsBy_51 : decode cX11_sitsBy 51 = .ok (.invokevirtual 100, 3) := by decide +kernel
theorem dX11_sitsBy_54 : decode cX11_sitsBy 54 = .ok (.ifCond .eq 7, 3) := by decide +kernel
theorem dX11_sitsBy_57 : decode cX11_sitsBy 57 = .ok (.iconst 0, 1) := by decide +kernel
theorem dX11_sitsBy_58 : decode cX11_sitsBy 58 = .ok (.goto 4, 3) := by decide +kernel
theorem dX11_sitsBy_61 : decode cX11_sitsBy 61 = .ok (.iconst 1, 1) := by decide +kernel
theorem dX11_sitsBy_62 : decode cX11_sitsBy 62 = .ok (.iadd, 1) := by decide +kernel
theorem dX11_sitsBy_63 : decode cX11_sitsBy 63 = .ok (.istore 4, 2) := by decide +kernel
theorem dX11_sitsBy_65 : decode cX11_sitsBy 65 = .ok (.iinc 5 1, 3) := by decide +kernel
theorem dX11_sitsBy_68 : decode cX11_sitsBy 68 = .ok (.goto (-54), 3) := by decide +kernel
theorem dX11_sitsBy_71 : decode cX11_sitsBy 71 = .ok (.iload 4, 2) := by decide +kernel
theorem dX11_sitsBy_73 : decode cX11_sitsBy 73 = .ok (.ireturn, 1) := by decide +kernel
theorem dX11_eat_0 : decode cX11_eat 0 = .ok (.aload_n 0, 1) := by decide +kernel
theorem dX11_eat_1 : decode cX11_eat 1 = .ok (.iload_n 1, 1) := by decide +kernel
theorem dX11_eat_2 : decode cX11_eat 2 = .ok (.invokevirtual 115, 3) := by decide +kernel
theorem dX11_eat_5 : decode cX11_eat 5 = .ok (.ifCond .eq 25, 3) := by decide +kernel
theorem dX11_eat_8 : decode cX11_eat 8 = .ok (.iload_n 2, 1) := by decide +kernel
theorem dX11_eat_9 : decode cX11_eat 9 = .ok (.i2l, 1) := by decide +kernel
theorem dX11_eat_10 : decode cX11_eat 10 = .ok (.lconst 1, 1) := by decide +kernel
theorem dX11_eat_11 : decode cX11_eat 11 = .ok (.ldc2_w 159, 3) := by decide +kernel
theorem dX11_eat_14 : decode cX11_eat 14 = .ok (.invokestatic 42, 3) := by decide +kernel
theorem dX11_eat_17 : decode cX11_eat 17 = .ok (.ifCond .eq 13, 3) := by decide +kernel
theorem dX11_eat_20 : decode cX11_eat 20 = .ok (.iload_n 3, 1) := by decide +kernel
theorem dX11_eat_21 : decode cX11_eat 21 = .ok (.i2l, 1) := by decide +kernel
theorem dX11_eat_22 : decode cX11_eat 22 = .ok (.lconst 0, 1) := by decide +kernel
theorem dX11_eat_23 : decode cX11_eat 23 = .ok (.lconst 1, 1) := by decide +kernel
theorem dX11_eat_24 : decode cX11_eat 24 = .ok (.invokestatic 42, 3) := by decide +kernel
theorem dX11_eat_27 : decode cX11_eat 27 = .ok (.ifCond .ne 5, 3) := by decide +kernel
theorem dX11_eat_30 : decode cX11_eat 30 = .ok (.iconst (-1), 1) := by decide +kernel
theorem dX11_eat_31 : decode cX11_eat 31 = .ok (.ireturn, 1) := by decide +kernel
theorem dX11_eat_32 : decode cX11_eat 32 = .ok (.aload_n 0, 1) := by decide +kernel
theorem dX11_eat_33 : decode cX11_eat 33 = .ok (.iconst 0, 1) := by decide +kernel
theorem dX11_eat_34 : decode cX11_eat 34 = .ok (.iload_n 1, 1) := by decide +kernel
theorem dX11_eat_35 : decode cX11_eat 35 = .ok (.invokevirtual 100, 3) := by decide +kernel
theorem dX11_eat_38 : decode cX11_eat 38 = .ok (.ifCond .eq 6, 3) := by decide +kernel
theorem dX11_eat_41 : decode cX11_eat 41 = .ok (.bipush (-2), 2) := by decide +kernel
theorem dX11_eat_43 : decode cX11_eat 43 = .ok (.ireturn, 1) := by decide +kernel
theorem dX11_eat_44 : decode cX11_eat 44 = .ok (.iconst 0, 1) := by decide +kernel
theorem dX11_eat_45 : decode cX11_eat 45 = .ok (.istore 4, 2) := by decide +kernel
theorem dX11_eat_47 : decode cX11_eat 47 = .ok (.iconst (-1), 1) := by decide +kernel
theorem dX11_eat_48 : decode cX11_eat 48 = .ok (.istore 5, 2) := by decide +kernel
theorem dX11_eat_50 : decode cX11_eat 50 = .ok (.iconst 0, 1) := by decide +kernel
theorem dX11_eat_51 : decode cX11_eat 51 = .ok (.istore 6, 2) := by decide +kernel
theorem dX11_eat_53 : decode cX11_eat 53 = .ok (.iload 6, 2) := by decide +kernel
theorem dX11_eat_55 : decode cX11_eat 55 = .ok (.iconst 1, 1) := by decide +kernel
theorem dX11_eat_56 : decode cX11_eat 56 = .ok (.iload_n 2, 1) := by decide +kernel
theorem dX11_eat_57 : decode cX11_eat 57 = .ok (.ishl, 1) := by decide +kernel
theorem dX11_eat_58 : decode cX11_eat 58 = .ok (.if_icmp .ge 98, 3) := by decide +kernel
theorem dX11_eat_61 : decode cX11_eat 61 = .ok (.aload_n 0, 1) := by decide +kernel
theorem dX11_eat_62 : decode cX11_eat 62 = .ok (.iload_n 1, 1) := by decide +kernel
theorem dX11_eat_63 : decode cX11_eat 63 = .ok (.iload 6, 2) := by decide +kernel
theorem dX11_eat_65 : decode cX11_eat 65 = .ok (.iload_n 2, 1) := by decide +kernel
theorem dX11_eat_66 : decode cX11_eat 66 = .ok (.invokevirtual 161, 3) := by decide +kernel
theorem dX11_eat_69 : decode cX11_eat 69 = .ok (.istore 7, 2) := by decide +kernel
theorem dX11_eat_71 : decode cX11_eat 71 = .ok (.iload 6, 2) := by decide +kernel
theorem dX11_eat_73 : decode cX11_eat 73 = .ok (.invokestatic 164, 3) := by decide +kernel
theorem dX11_eat_76 : decode cX11_eat 76 = .ok (.aload_n 0, 1) := by decide +kernel
theorem dX11_eat_77 : decode cX11_eat 77 = .ok (.getfield 7, 3) := by decide +kernel
theorem dX11_eat_80 : decode cX11_eat 80 = .ok (.bipush 43, 2) := by decide +kernel
theorem dX11_eat_82 : decode cX11_eat 82 = .ok (.iload_n 1, 1) := by decide +kernel
theorem dX11_eat_83 : decode cX11_eat 83 = .ok (.iadd, 1) := by decide +kernel
theorem dX11_eat_84 : decode cX11_eat 84 = .ok (.iaload, 1) := by decide +kernel
theorem dX11_eat_85 : decode cX11_eat 85 = .ok (.if_icmp .gt 34, 3) := by decide +kernel
theorem dX11_eat_88 : decode cX11_eat 88 = .ok (.iload 7, 2) := by decide +kernel
theorem dX11_eat_90 : decode cX11_eat 90 = .ok (.iload 5, 2) := by decide +kernel
theorem dX11_eat_92 : decode cX11_eat 92 = .ok (.if_icmp .gt 23, 3) := by decide +kernel
theorem dX11_eat_95 : decode cX11_eat 95 = .ok (.iload 7, 2) := by decide +kernel
theorem dX11_eat_97 : decode cX11_eat 97 = .ok (.iload 5, 2) := by decide +kernel
theorem dX11_eat_99 : decode cX11_eat 99 = .ok (.if_icmp .ne 20, 3) := by decide +kernel
theorem dX11_eat_102 : decode cX11_eat 102 = .ok (.iload 6, 2) := by decide +kernel
theorem dX11_eat_104 : decode cX11_eat 104 = .ok (.invokestatic 164, 3) := by decide +kernel
theorem dX11_eat_107 : decode cX11_eat 107 = .ok (.iload 4, 2) := by decide +kernel
theorem dX11_eat_109 : decode cX11_eat 109 = .ok (.invokestatic 164, 3) := by decide +kernel
theorem dX11_eat_112 : decode cX11_eat 112 = .ok (.if_icmp .ge 7, 3) := by decide +kernel
theorem dX11_eat_115 : decode cX11_eat 115 = .ok (.iconst 1, 1) := by decide +kernel
theorem dX11_eat_116 : decode cX11_eat 116 = .ok (.goto 4, 3) := by decide +kernel
theorem dX11_eat_119 : decode cX11_eat 119 = .ok (.iconst 0, 1) := by decide +kernel
theorem dX11_eat_120 : decode cX11_eat 120 = .ok (.istore 8, 2) := by decide +kernel
theorem dX11_eat_122 : decode cX11_eat 122 = .ok (.iload 8, 2) := by decide +kernel
theorem dX11_eat_124 : decode cX11_eat 124 = .ok (.ifCond .eq 8, 3) := by decide +kernel
theorem dX11_eat_127 : decode cX11_eat 127 = .ok (.iload 6, 2) := by decide +kernel
theorem dX11_eat_129 : decode cX11_eat 129 = .ok (.goto 5, 3) := by decide +kernel
theorem dX11_eat_132 : decode cX11_eat 132 = .ok (.iload 4, 2) := by decide +kernel
theorem dX11_eat_134 : decode cX11_eat 134 = .ok (.istore 4, 2) := by decide +kernel
theorem dX11_eat_136 : decode cX11_eat 136 = .ok (.iload 8, 2) := by decide +kernel
theorem dX11_eat_138 : decode cX11_eat 138 = .ok (.ifCond .eq 8, 3) := by decide +kernel
theorem dX11_eat_141 : decode cX11_eat 141 = .ok (.iload 7, 2) := by decide +kernel
theorem dX11_eat_143 : decode cX11_eat 143 = .ok (.goto 5, 3) := by decide +kernel
theorem dX11_eat_146 : decode cX11_eat 146 = .ok (.iload 5, 2) := by decide +kernel
theorem dX11_eat_148 : decode cX11_eat 148 = .ok (.istore 5, 2) := by decide +kernel
theorem dX11_eat_150 : decode cX11_eat 150 = .ok (.iinc 6 1, 3) := by decide +kernel
theorem dX11_eat_153 : decode cX11_eat 153 = .ok (.goto (-100), 3) := by decide +kernel
theorem dX11_eat_156 : decode cX11_eat 156 = .ok (.iload_n 3, 1) := by decide +kernel
theorem dX11_eat_157 : decode cX11_eat 157 = .ok (.ifCond .ne 8, 3) := by decide +kernel
theorem dX11_eat_160 : decode cX11_eat 160 = .ok (.iload 5, 2) := by decide +kernel
theorem dX11_eat_162 : decode cX11_eat 162 = .ok (.goto 5, 3) := by decide +kernel
theorem dX11_eat_165 : decode cX11_eat 165 = .ok (.iload 4, 2) := by decide +kernel
theorem dX11_eat_167 : decode cX11_eat 167 = .ok (.ireturn, 1) := by decide +kernel
theorem dX11_train_0 : decode cX11_train 0 = .ok (.aload_n 0, 1) := by decide +kernel
theorem dX11_train_1 : decode cX11_train 1 = .ok (.iload_n 1, 1) := by decide +kernel
theorem dX11_train_2 : decode cX11_train 2 = .ok (.invokevirtual 115, 3) := by decide +kernel
theorem dX11_train_5 : decode cX11_train 5 = .ok (.ifCond .eq 27, 3) := by decide +kernel
theorem dX11_train_8 : decode cX11_train 8 = .ok (.iload_n 2, 1) := by decide +kernel
theorem dX11_train_9 : decode cX11_train 9 = .ok (.i2l, 1) := by decide +kernel
theorem dX11_train_10 : decode cX11_train 10 = .ok (.lconst 1, 1) := by decide +kernel
theorem dX11_train_11 : decode cX11_train 11 = .ok (.ldc2_w 167, 3) := by decide +kernel
theorem dX11_train_14 : decode cX11_train 14 = .ok (.invokestatic 42, 3) := by decide +kernel
theorem dX11_train_17 : decode cX11_train 17 = .ok (.ifCond .eq 15, 3) := by decide +kernel
theorem dX11_train_20 : decode cX11_train 20 = .ok (.iload_n 3, 1) := by decide +kernel
theorem dX11_train_21 : decode cX11_train 21 = .ok (.i2l, 1) := by decide +kernel
theorem dX11_train_22 : decode cX11_train 22 = .ok (.lconst 0, 1) := by decide +kernel
theorem dX11_train_23 : decode cX11_train 23 = .ok (.ldc2_w 169, 3) := by decide +kernel
theorem dX11_train_26 : decode cX11_train 26 = .ok (.invokestatic 42, 3) := by decide +kernel
theorem dX11_train_29 : decode cX11_train 29 = .ok (.ifCond .ne 5, 3) := by decide +kernel
theorem dX11_train_32 : decode cX11_train 32 = .ok (.iconst (-1), 1) := by decide +kernel
theorem dX11_train_33 : decode cX11_train 33 = .ok (.ireturn, 1) := by decide +kernel
theorem dX11_train_34 : decode cX11_train 34 = .ok (.aload_n 0, 1) := by decide +kernel
theorem dX11_train_35 : decode cX11_train 35 = .ok (.iconst 0, 1) := by decide +kernel
theorem dX11_train_36 : decode cX11_train 36 = .ok (.iload_n 1, 1) := by decide +kernel
theorem dX11_train_37 : decode cX11_train 37 = .ok (.invokevirtual 100, 3) := by decide +kernel
theorem dX11_train_40 : decode cX11_train 40 = .ok (.ifCond .eq 6, 3) := by decide +kernel
theorem dX11_train_43 : decode cX11_train 43 = .ok (.bipush (-2), 2) := by decide +kernel
theorem dX11_train_45 : decode cX11_train 45 = .ok (.ireturn, 1) := by decide +kernel
theorem dX11_train_46 : decode cX11_train 46 = .ok (.aload_n 0, 1) := by decide +kernel
theorem dX11_train_47 : decode cX11_train 47 = .ok (.iconst 0, 1) := by decide +kernel
theorem dX11_train_48 : decode cX11_train 48 = .ok (.sipush 219, 3) := by decide +kernel
theorem dX11_train_51 : decode cX11_train 51 = .ok (.invokevirtual 90, 3) := by decide +kernel
theorem dX11_train_54 : decode cX11_train 54 = .ok (.iconst 0, 1) := by decide +kernel
theorem dX11_train_55 : decode cX11_train 55 = .ok (.istore 4, 2) := by decide +kernel
theorem dX11_train_57 : decode cX11_train 57 = .ok (.iload 4, 2) := by decide +kernel
theorem dX11_train_59 : decode cX11_train 59 = .ok (.iload_n 2, 1) := by decide +kernel
theorem dX11_train_60 : decode cX11_train 60 = .ok (.if_icmp .ge 31, 3) := by decide +kernel
theorem dX11_train_63 : decode cX11_train 63 = .ok (.aload_n 0, 1) := by decide +kernel
theorem dX11_train_64 : decode cX11_train 64 = .ok (.sipush 219, 3) := by decide +kernel
theorem dX11_train_67 : decode cX11_train 67 = .ok (.invokevirtual 129, 3) := by decide +kernel
theorem dX11_train_70 : decode cX11_train 70 = .ok (.aload_n 0, 1) := by decide +kernel
theorem dX11_train_71 : decode cX11_train 71 = .ok (.getfield 30, 3) := by decide +kernel
theorem dX11_train_74 : decode cX11_train 74 = .ok (.iload 4, 2) := by decide +kernel
theorem dX11_train_76 : decode cX11_train 76 = .ok (.aload_n 0, 1) := by decide +kernel
theorem dX11_train_77 : decode cX11_train 77 = .ok (.getfield 7, 3) := by decide +kernel
theorem dX11_train_80 : decode cX11_train 80 = .ok (.sipush 224, 3) := by decide +kernel
theorem dX11_train_83 : decode cX11_train 83 = .ok (.iaload, 1) := by decide +kernel
theorem dX11_train_84 : decode cX11_train 84 = .ok (.iastore, 1) := by decide +kernel
theorem dX11_train_85 : decode cX11_train 85 = .ok (.iinc 4 1, 3) := by decide +kernel
theorem dX11_train_88 : decode cX11_train 88 = .ok (.goto (-31), 3) := by decide +kernel
theorem dX11_train_91 : decode cX11_train 91 = .ok (.ldc 146, 2) := by decide +kernel
theorem dX11_train_93 : decode cX11_train 93 = .ok (.istore 4, 2) := by decide +kernel
theorem dX11_train_95 : decode cX11_train 95 = .ok (.iconst 0, 1) := by decide +kernel
theorem dX11_train_96 : decode cX11_train 96 = .ok (.istore 5, 2) := by decide +kernel
theorem dX11_train_98 : decode cX11_train 98 = .ok (.iconst 0, 1) := by decide +kernel
theorem dX11_train_99 : decode cX11_train 99 = .ok (.istore 6, 2) := by decide +kernel
theorem dX11_train_101 : decode cX11_train 101 = .ok (.iconst 0, 1) := by decide +kernel
theorem dX11_train_102 : decode cX11_train 102 = .ok (.istore 7, 2) := by decide +kernel
theorem dX11_train_104 : decode cX11_train 104 = .ok (.iconst 0, 1) := by decide +kernel
theorem dX11_train_105 : decode cX11_train 105 = .ok (.istore 8, 2) := by decide +kernel
theorem dX11_train_107 : decode cX11_train 107 = .ok (.iload 8, 2) := by decide +kernel
theorem dX11_train_109 : decode cX11_train 109 = .ok (.bipush 20, 2) := by decide +kernel
theorem dX11_train_111 : decode cX11_train 111 = .ok (.if_icmp .gt 126, 3) := by decide +kernel
theorem dX11_train_114 : decode cX11_train 114 = .ok (.aload_n 0, 1) := by decide +kernel
theorem dX11_train_115 : decode cX11_train 115 = .ok (.getfield 7, 3) := by decide +kernel
theorem dX11_train_118 : decode cX11_train 118 = .ok (.bipush 13, 2) := by decide +kernel
theorem dX11_train_120 : decode cX11_train 120 = .ok (.iload_n 1, 1) := by decide +kernel
theorem dX11_train_121 : decode cX11_train 121 = .ok (.iadd, 1) := by decide +kernel
theorem dX11_train_122 : decode cX11_train 122 = .ok (.iaload, 1) := by decide +kernel
theorem dX11_train_123 : decode cX11_train 123 = .ok (.iload 8, 2) := by decide +kernel
theorem dX11_train_125 : decode cX11_train 125 = .ok (.iadd, 1) := by decide +kernel
theorem dX11_train_126 : decode cX11_train 126 = .ok (.bipush 99, 2) := by decide +kernel
theorem dX11_train_128 : decode cX11_train 128 = .ok (.if_icmp .gt 109, 3) := by decide +kernel
theorem dX11_train_131 : decode cX11_train 131 = .ok (.iconst 0, 1) := by decide +kernel
theorem dX11_train_132 : decode cX11_train 132 = .ok (.istore 9, 2) := by decide +kernel
theorem dX11_train_134 : decode cX11_train 134 = .ok (.iload 9, 2) := by decide +kernel
theorem dX11_train_136 : decode cX11_train 136 = .ok (.aload_n 0, 1) := by decide +kernel
theorem dX11_train_137 : decode cX11_train 137 = .ok (.getfield 7, 3) := by decide +kernel
theorem dX11_train_140 : decode cX11_train 140 = .ok (.bipush 19, 2) := by decide +kernel
theorem dX11_train_142 : decode cX11_train 142 = .ok (.iload_n 1, 1) := by decide +kernel
theorem dX11_train_143 : decode cX11_train 143 = .ok (.iadd, 1) := by decide +kernel
theorem dX11_train_144 : decode cX11_train 144 = .ok (.iaload, 1) := by decide +kernel
theorem dX11_train_145 : decode cX11_train 145 = .ok (.if_icmp .gt 86, 3) := by decide +kernel
theorem dX11_train_148 : decode cX11_train 148 = .ok (.iconst 0, 1) := by decide +kernel
theorem dX11_train_149 : decode cX11_train 149 = .ok (.istore 10, 2) := by decide +kernel
theorem dX11_train_151 : decode cX11_train 151 = .ok (.iload 10, 2) := by decide +kernel
theorem dX11_train_153 : decode cX11_train 153 = .ok (.aload_n 0, 1) := by decide +kernel
theorem dX11_train_154 : decode cX11_train 154 = .ok (.getfield 7, 3) := by decide +kernel
theorem dX11_train_157 : decode cX11_train 157 = .ok (.bipush 25, 2) := by decide +kernel
theorem dX11_train_159 : decode cX11_train 159 = .ok (.iload_n 1, 1) := by decide +kernel
theorem dX11_train_160 : decode cX11_train 160 = .ok (.iadd, 1) := by decide +kernel
theorem dX11_train_161 : decode cX11_train 161 = .ok (.iaload, 1) := by decide +kernel
theorem dX11_train_162 : decode cX11_train 162 = .ok (.if_icmp .gt 63, 3) := by decide +kernel
theorem dX11_train_165 : decode cX11_train 165 = .ok (.iconst 2, 1) := by decide +kernel
theorem dX11_train_166 : decode cX11_train 166 = .ok (.iload 8, 2) := by decide +kernel
theorem dX11_train_168 : decode cX11_train 168 = .ok (.imul, 1) := by decide +kernel
theorem dX11_train_169 : decode cX11_train 169 = .ok (.iconst 5, 1) := by decide +kernel
theorem dX11_train_170 : decode cX11_train 170 = .ok (.iload 9, 2) := by decide +kernel
theorem dX11_train_172 : decode cX11_train 172 = .ok (.imul, 1) := by decide +kernel
theorem dX11_train_173 : decode cX11_train 173 = .ok (.iadd, 1) := by decide +kernel
theorem dX11_train_174 : decode cX11_train 174 = .ok (.iconst 3, 1) := by decide +kernel
theorem dX11_train_175 : decode cX11_train 175 = .ok (.iload 10, 2) := by decide +kernel
theorem dX11_train_177 : decode cX11_train 177 = .ok (.imul, 1) := by decide +kernel
theorem dX11_train_178 : decode cX11_train 178 = .ok (.iadd, 1) := by decide +kernel
theorem dX11_train_179 : decode cX11_train 179 = .ok (.istore 11, 2) := by decide +kernel
theorem dX11_train_181 : decode cX11_train 181 = .ok (.iload 11, 2) := by decide +kernel
theorem dX11_train_183 : decode cX11_train 183 = .ok (.iload 4, 2) := by decide +kernel
theorem dX11_train_185 : decode cX11_train 185 = .ok (.if_icmp .ge 34, 3) := by decide +kernel
theorem dX11_train_188 : decode cX11_train 188 = .ok (.aload_n 0, 1) := by decide +kernel
theorem dX11_train_189 : decode cX11_train 189 = .ok (.iload_n 1, 1) := by decide +kernel
theorem dX11_train_190 : decode cX11_train 190 = .ok (.iload_n 2, 1) := by decide +kernel
theorem dX11_train_191 : decode cX11_train 191 = .ok (.iload 8, 2) := by decide +kernel
theorem dX11_train_193 : decode cX11_train 193 = .ok (.iload 9, 2) := by decide +kernel
theorem dX11_train_195 : decode cX11_train 195 = .ok (.iload 10, 2) := by decide +kernel
theorem dX11_train_197 : decode cX11_train 197 = .ok (.invokevirtual 171, 3) := by decide +kernel
theorem dX11_train_200 : decode cX11_train 200 = .ok (.ifCond .eq 19, 3) := by decide +kernel
theorem dX11_train_203 : decode cX11_train 203 = .ok (.iload 11, 2) := by decide +kernel
theorem dX11_train_205 : decode cX11_train 205 = .ok (.istore 4, 2) := by decide +kernel
theorem dX11_train_207 : decode cX11_train 207 = .ok (.iload 8, 2) := by decide +kernel
theorem dX11_train_209 : decode cX11_train 209 = .ok (.istore 5, 2) := by decide +kernel
theorem dX11_train_211 : decode cX11_train 211 = .ok (.iload 9, 2) := by decide +kernel
theorem dX11_train_213 : decode cX11_train 213 = .ok (.istore 6, 2) := by decide +kernel
theorem dX11_train_215 : decode cX11_train 215 = .ok (.iload 10, 2) := by decide +kernel
theorem dX11_train_217 : decode cX11_train 217 = .ok (.istore 7, 2) := by decide +kernel
theorem dX11_train_219 : decode cX11_train 219 = .ok (.iinc 10 1, 3) := by decide +kernel
theorem dX11_train_222 : decode cX11_train 222 = .ok (.goto (-71), 3) := by decide +kernel
theorem dX11_train_225 : decode cX11_train 225 = .ok (.iinc 9 1, 3) := by decide +kernel
theorem dX11_train_228 : decode cX11_train 228 = .ok (.goto (-94), 3) := by decide +kernel
theorem dX11_train_231 : decode cX11_train 231 = .ok (.iinc 8 1, 3) := by decide +kernel
theorem dX11_train_234 : decode cX11_train 234 = .ok (.goto (-127), 3) := by decide +kernel
theorem dX11_train_237 : decode cX11_train 237 = .ok (.iload 4, 2) := by decide +kernel
theorem dX11_train_239 : decode cX11_train 239 = .ok (.ldc 146, 2) := by decide +kernel
theorem dX11_train_241 : decode cX11_train 241 = .ok (.if_icmp .ne 8, 3) := by decide +kernel
theorem dX11_train_244 : decode cX11_train 244 = .ok (.bipush (-4), 2) := by decide +kernel
theorem dX11_train_246 : decode cX11_train 246 = .ok (.goto 34, 3) := by decide +kernel
theorem dX11_train_249 : decode cX11_train 249 = .ok (.iload_n 3, 1) := by decide +kernel
theorem dX11_train_250 : decode cX11_train 250 = .ok (.ifCond .ne 8, 3) := by decide +kernel
theorem dX11_train_253 : decode cX11_train 253 = .ok (.iload 4, 2) := by decide +kernel
theorem dX11_train_255 : decode cX11_train 255 = .ok (.goto 25, 3) := by decide +kernel
theorem dX11_train_258 : decode cX11_train 258 = .ok (.iload_n 3, 1) := by decide +kernel
theorem dX11_train_259 : decode cX11_train 259 = .ok (.iconst 1, 1) := by decide +kernel
theorem dX11_train_260 : decode cX11_train 260 = .ok (.if_icmp .ne 8, 3) := by decide +kernel
theorem dX11_train_263 : decode cX11_train 263 = .ok (.iload 5, 2) := by decide +kernel
theorem dX11_train_265 : decode cX11_train 265 = .ok (.goto 15, 3) := by decide +kernel
theorem dX11_train_268 : decode cX11_train 268 = .ok (.iload_n 3, 1) := by decide +kernel
theorem dX11_train_269 : decode cX11_train 269 = .ok (.iconst 2, 1) := by decide +kernel
theorem dX11_train_270 : decode cX11_train 270 = .ok (.if_icmp .ne 8, 3) := by decide +kernel
theorem dX11_train_273 : decode cX11_train 273 = .ok (.iload 6, 2) := by decide +kernel
theorem dX11_train_275 : decode cX11_train 275 = .ok (.goto 5, 3) := by decide +kernel
theorem dX11_train_278 : decode cX11_train 278 = .ok (.iload 7, 2) := by decide +kernel
theorem dX11_train_280 : decode cX11_train 280 = .ok (.ireturn, 1) := by decide +kernel
theorem dX11_isEnough_0 : decode cX11_isEnough 0 = .ok (.aload_n 0, 1) := by decide +kernel
theorem dX11_isEnough_1 : decode cX11_isEnough 1 = .ok (.iconst 0, 1) := by decide +kernel
theorem dX11_isEnough_2 : decode cX11_isEnough 2 = .ok (.sipush 219, 3) := by decide +kernel
theorem dX11_isEnough_5 : decode cX11_isEnough 5 = .ok (.invokevirtual 90, 3) := by decide +kernel
theorem dX11_isEnough_8 : decode cX11_isEnough 8 = .ok (.aload_n 0, 1) := by decide +kernel
theorem dX11_isEnough_9 : decode cX11_isEnough 9 = .ok (.getfield 7, 3) := by decide +kernel
theorem dX11_isEnough_12 : decode cX11_isEnough 12 = .ok (.sipush 238, 3) := by decide +kernel
theorem dX11_isEnough_15 : decode cX11_isEnough 15 = .ok (.iload_n 1, 1) := by decide +kernel
theorem dX11_isEnough_16 : decode cX11_isEnough 16 = .ok (.iadd, 1) := by decide +kernel
theorem dX11_isEnough_17 : decode cX11_isEnough 17 = .ok (.dup2, 1) := by decide +kernel
theorem dX11_isEnough_18 : decode cX11_isEnough 18 = .ok (.iaload, 1) := by decide +kernel
theorem dX11_isEnough_19 : decode cX11_isEnough 19 = .ok (.iload 4, 2) := by decide +kernel
theorem dX11_isEnough_21 : decode cX11_isEnough 21 = .ok (.isub, 1) := by decide +kernel
theorem dX11_isEnough_22 : decode cX11_isEnough 22 = .ok (.iastore, 1) := by decide +kernel
theorem dX11_isEnough_23 : decode cX11_isEnough 23 = .ok (.aload_n 0, 1) := by decide +kernel
theorem dX11_isEnough_24 : decode cX11_isEnough 24 = .ok (.getfield 7, 3) := by decide +kernel
theorem dX11_isEnough_27 : decode cX11_isEnough 27 = .ok (.sipush 244, 3) := by decide +kernel
theorem dX11_isEnough_30 : decode cX11_isEnough 30 = .ok (.iload_n 1, 1) := by decide +kernel
theorem dX11_isEnough_31 : decode cX11_isEnough 31 = .ok (.iadd, 1) := by decide +kernel
theorem dX11_isEnough_32 : decode cX11_isEnough 32 = .ok (.dup2, 1) := by decide +kernel
theorem dX11_isEnough_33 : decode cX11_isEnough 33 = .ok (.iaload, 1) := by decide +kernel
theorem dX11_isEnough_34 : decode cX11_isEnough 34 = .ok (.iload 5, 2) := by decide +kernel
theorem dX11_isEnough_36 : decode cX11_isEnough 36 = .ok (.isub, 1) := by decide +kernel
theorem dX11_isEnough_37 : decode cX11_isEnough 37 = .ok (.iastore, 1) := by decide +kernel
theorem dX11_isEnough_38 : decode cX11_isEnough 38 = .ok (.aload_n 0, 1) := by decide +kernel
theorem dX11_isEnough_39 : decode cX11_isEnough 39 = .ok (.getfield 7, 3) := by decide +kernel
theorem dX11_isEnough_42 : decode cX11_isEnough 42 = .ok (.bipush 37, 2) := by decide +kernel
theorem dX11_isEnough_44 : decode cX11_isEnough 44 = .ok (.iload_n 1, 1) := by decide +kernel
theorem dX11_isEnough_45 : decode cX11_isEnough 45 = .ok (.iadd, 1) := by decide +kernel
theorem dX11_isEnough_46 : decode cX11_isEnough 46 = .ok (.iaload, 1) := by decide +kernel
theorem dX11_isEnough_47 : decode cX11_isEnough 47 = .ok (.istore 6, 2) := by decide +kernel
theorem dX11_isEnough_49 : decode cX11_isEnough 49 = .ok (.iconst 0, 1) := by decide +kernel
theorem dX11_isEnough_50 : decode cX11_isEnough 50 = .ok (.istore 7, 2) := by decide +kernel
theorem dX11_isEnough_52 : decode cX11_isEnough 52 = .ok (.iload 7, 2) := by decide +kernel
theorem dX11_isEnough_54 : decode cX11_isEnough 54 = .ok (.iload_n 2, 1) := by decide +kernel
theorem dX11_isEnough_55 : decode cX11_isEnough 55 = .ok (.if_icmp .ge 59, 3) := by decide +kernel
theorem dX11_isEnough_58 : decode cX11_isEnough 58 = .ok (.iload 6, 2) := by decide +kernel
theorem dX11_isEnough_60 : decode cX11_isEnough 60 = .ok (.aload_n 0, 1) := by decide +kernel
theorem dX11_isEnough_61 : decode cX11_isEnough 61 = .ok (.sipush 219, 3) := by decide +kernel
theorem dX11_isEnough_64 : decode cX11_isEnough 64 = .ok (.iload_n 1, 1) := by decide +kernel
theorem dX11_isEnough_65 : decode cX11_isEnough 65 = .ok (.aload_n 0, 1) := by decide +kernel
theorem dX11_isEnough_66 : decode cX11_isEnough 66 = .ok (.getfield 30, 3) := by decide +kernel
theorem dX11_isEnough_69 : decode cX11_isEnough 69 = .ok (.iload 7, 2) := by decide +kernel
theorem dX11_isEnough_71 : decode cX11_isEnough 71 = .ok (.iaload, 1) := by decide +kernel
theorem dX11_isEnough_72 : decode cX11_isEnough 72 = .ok (.invokevirtual 104, 3) := by decide +kernel
theorem dX11_isEnough_75 : decode cX11_isEnough 75 = .ok (.iadd, 1) := by decide +kernel
theorem dX11_isEnough_76 : decode cX11_isEnough 76 = .ok (.istore 6, 2) := by decide +kernel
theorem dX11_isEnough_78 : decode cX11_isEnough 78 = .ok (.iload 6, 2) := by decide +kernel
theorem dX11_isEnough_80 : decode cX11_isEnough 80 = .ok (.aload_n 0, 1) := by decide +kernel
theorem dX11_isEnough_81 : decode cX11_isEnough 81 = .ok (.getfield 7, 3) := by decide +kernel
theorem dX11_isEnough_84 : decode cX11_isEnough 84 = .ok (.bipush 13, 2) := by decide +kernel
theorem dX11_isEnough_86 : decode cX11_isEnough 86 = .ok (.iload_n 1, 1) := by decide +kernel
theorem dX11_isEnough_87 : decode cX11_isEnough 87 = .ok (.iadd, 1) := by decide +kernel
theorem dX11_isEnough_88 : decode cX11_isEnough 88 = .ok (.iaload, 1) := by decide +kernel
theorem dX11_isEnough_89 : decode cX11_isEnough 89 = .ok (.iload_n 3, 1) := by decide +kernel
theorem dX11_isEnough_90 : decode cX11_isEnough 90 = .ok (.iadd, 1) := by decide +kernel
theorem dX11_isEnough_91 : decode cX11_isEnough 91 = .ok (.if_icmp .lt 5, 3) := by decide +kernel
theorem dX11_isEnough_94 : decode cX11_isEnough 94 = .ok (.iconst 0, 1) := by decide +kernel
theorem dX11_isEnough_95 : decode cX11_isEnough 95 = .ok (.ireturn, 1) := by decide +kernel
theorem dX11_isEnough_96 : decode cX11_isEnough 96 = .ok (.aload_n 0, 1) := by decide +kernel
theorem dX11_isEnough_97 : decode cX11_isEnough 97 = .ok (.getfield 7, 3) := by decide +kernel
theorem dX11_isEnough_100 : decode cX11_isEnough 100 = .ok (.sipush 223, 3) := by decide +kernel
theorem dX11_isEnough_103 : decode cX11_isEnough 103 = .ok (.dup2, 1) := by decide +kernel
theorem dX11_isEnough_104 : decode cX11_isEnough 104 = .ok (.iaload, 1) := by decide +kernel
theorem dX11_isEnough_105 : decode cX11_isEnough 105 = .ok (.iconst 1, 1) := by decide +kernel
theorem dX11_isEnough_106 : decode cX11_isEnough 106 = .ok (.iadd, 1) := by decide +kernel
theorem dX11_isEnough_107 : decode cX11_isEnough 107 = .ok (.iastore, 1) := by decide +kernel
theorem dX11_isEnough_108 : decode cX11_isEnough 108 = .ok (.iinc 7 1, 3) := by decide +kernel
theorem dX11_isEnough_111 : decode cX11_isEnough 111 = .ok (.goto (-59), 3) := by decide +kernel
theorem dX11_isEnough_114 : decode cX11_isEnough 114 = .ok (.iconst 1, 1) := by decide +kernel
theorem dX11_isEnough_115 : decode cX11_isEnough 115 = .ok (.ireturn, 1) := by decide +kernel
theorem dX11_dusk_0 : decode cX11_dusk 0 = .ok (.iload_n 1, 1) := by decide +kernel
theorem dX11_dusk_1 : decode cX11_dusk 1 = .ok (.i2l, 1) := by decide +kernel
theorem dX11_dusk_2 : decode cX11_dusk 2 = .ok (.lconst 1, 1) := by decide +kernel
theorem dX11_dusk_3 : decode cX11_dusk 3 = .ok (.ldc2_w 167, 3) := by decide +kernel
theorem dX11_dusk_6 : decode cX11_dusk 6 = .ok (.invokestatic 42, 3) := by decide +kernel
theorem dX11_dusk_9 : decode cX11_dusk 9 = .ok (.ifCond .ne 5, 3) := by decide +kernel
theorem dX11_dusk_12 : decode cX11_dusk 12 = .ok (.iconst (-1), 1) := by decide +kernel
theorem dX11_dusk_13 : decode cX11_dusk 13 = .ok (.ireturn, 1) := by decide +kernel
theorem dX11_dusk_14 : decode cX11_dusk 14 = .ok (.aload_n 0, 1) := by decide +kernel
theorem dX11_dusk_15 : decode cX11_dusk 15 = .ok (.getfield 7, 3) := by decide +kernel
theorem dX11_dusk_18 : decode cX11_dusk 18 = .ok (.iconst 0, 1) := by decide +kernel
theorem dX11_dusk_19 : decode cX11_dusk 19 = .ok (.iaload, 1) := by decide +kernel
theorem dX11_dusk_20 : decode cX11_dusk 20 = .ok (.ifCond .ne 6, 3) := by decide +kernel
theorem dX11_dusk_23 : decode cX11_dusk 23 = .ok (.bipush (-2), 2) := by decide +kernel
theorem dX11_dusk_25 : decode cX11_dusk 25 = .ok (.ireturn, 1) := by decide +kernel
theorem dX11_dusk_26 : decode cX11_dusk 26 = .ok (.bipush (-4), 2) := by decide +kernel
theorem dX11_dusk_28 : decode cX11_dusk 28 = .ok (.istore_n 2, 1) := by decide +kernel
theorem dX11_dusk_29 : decode cX11_dusk 29 = .ok (.iconst 1, 1) := by decide +kernel
theorem dX11_dusk_30 : decode cX11_dusk 30 = .ok (.istore_n 3, 1) := by decide +kernel
theorem dX11_dusk_31 : decode cX11_dusk 31 = .ok (.iload_n 3, 1) := by decide +kernel
theorem dX11_dusk_32 : decode cX11_dusk 32 = .ok (.bipush 24, 2) := by decide +kernel
theorem dX11_dusk_34 : decode cX11_dusk 34 = .ok (.if_icmp .gt 48, 3) := by decide +kernel
theorem dX11_dusk_37 : decode cX11_dusk 37 = .ok (.aload_n 0, 1) := by decide +kernel
theorem dX11_dusk_38 : decode cX11_dusk 38 = .ok (.iconst 0, 1) := by decide +kernel
theorem dX11_dusk_39 : decode cX11_dusk 39 = .ok (.sipush 219, 3) := by decide +kernel
theorem dX11_dusk_42 : decode cX11_dusk 42 = .ok (.invokevirtual 90, 3) := by decide +kernel
theorem dX11_dusk_45 : decode cX11_dusk 45 = .ok (.aload_n 0, 1) := by decide +kernel
theorem dX11_dusk_46 : decode cX11_dusk 46 = .ok (.getfield 7, 3) := by decide +kernel
theorem dX11_dusk_49 : decode cX11_dusk 49 = .ok (.sipush 221, 3) := by decide +kernel
theorem dX11_dusk_52 : decode cX11_dusk 52 = .ok (.iload_n 3, 1) := by decide +kernel
theorem dX11_dusk_53 : decode cX11_dusk 53 = .ok (.iastore, 1) := by decide +kernel
theorem dX11_dusk_54 : decode cX11_dusk 54 = .ok (.aload_n 0, 1) := by decide +kernel
theorem dX11_dusk_55 : decode cX11_dusk 55 = .ok (.iload_n 1, 1) := by decide +kernel
theorem dX11_dusk_56 : decode cX11_dusk 56 = .ok (.invokevirtual 143, 3) := by decide +kernel
theorem dX11_dusk_59 : decode cX11_dusk 59 = .ok (.aload_n 0, 1) := by decide +kernel
theorem dX11_dusk_60 : decode cX11_dusk 60 = .ok (.sipush 219, 3) := by decide +kernel
theorem dX11_dusk_63 : decode cX11_dusk 63 = .ok (.invokevirtual 133, 3) := by decide +kernel
theorem dX11_dusk_66 : decode cX11_dusk 66 = .ok (.iconst 1, 1) := by decide +kernel
theorem dX11_dusk_67 : decode cX11_dusk 67 = .ok (.if_icmp .gt 7, 3) := by decide +kernel
theorem dX11_dusk_70 : decode cX11_dusk 70 = .ok (.iload_n 3, 1) := by decide +kernel
theorem dX11_dusk_71 : decode cX11_dusk 71 = .ok (.goto 4, 3) := by decide +kernel
theorem dX11_dusk_74 : decode cX11_dusk 74 = .ok (.iload_n 2, 1) := by decide +kernel
theorem dX11_dusk_75 : decode cX11_dusk 75 = .ok (.istore_n 2, 1) := by decide +kernel
theorem dX11_dusk_76 : decode cX11_dusk 76 = .ok (.iinc 3 1, 3) := by decide +kernel
theorem dX11_dusk_79 : decode cX11_dusk 79 = .ok (.goto (-48), 3) := by decide +kernel
theorem dX11_dusk_82 : decode cX11_dusk 82 = .ok (.iload_n 2, 1) := by decide +kernel
theorem dX11_dusk_83 : decode cX11_dusk 83 = .ok (.ireturn, 1) := by decide +kernel
theorem dX11_findOdds_0 : decode cX11_findOdds 0 = .ok (.aload_n 0, 1) := by decide +kernel
theorem dX11_findOdds_1 : decode cX11_findOdds 1 = .ok (.lconst 0, 1) := by decide +kernel
theorem dX11_findOdds_2 : decode cX11_findOdds 2 = .ok (.putfield 175, 3) := by decide +kernel
theorem dX11_findOdds_5 : decode cX11_findOdds 5 = .ok (.aload_n 0, 1) := by decide +kernel
theorem dX11_findOdds_6 : decode cX11_findOdds 6 = .ok (.lconst 1, 1) := by decide +kernel
theorem dX11_findOdds_7 : decode cX11_findOdds 7 = .ok (.putfield 179, 3) := by decide +kernel
theorem dX11_findOdds_10 : decode cX11_findOdds 10 = .ok (.iconst 0, 1) := by decide +kernel
theorem dX11_findOdds_11 : decode cX11_findOdds 11 = .ok (.istore 5, 2) := by decide +kernel
theorem dX11_findOdds_13 : decode cX11_findOdds 13 = .ok (.iload 5, 2) := by decide +kernel
theorem dX11_findOdds_15 : decode cX11_findOdds 15 = .ok (.iload_n 3, 1) := by decide +kernel
theorem dX11_findOdds_16 : decode cX11_findOdds 16 = .ok (.if_icmp .ge 21, 3) := by decide +kernel
theorem dX11_findOdds_19 : decode cX11_findOdds 19 = .ok (.aload_n 0, 1) := by decide +kernel
theorem dX11_findOdds_20 : decode cX11_findOdds 20 = .ok (.dup, 1) := by decide +kernel
theorem dX11_findOdds_21 : decode cX11_findOdds 21 = .ok (.getfield 179, 3) := by decide +kernel
theorem dX11_findOdds_24 : decode cX11_findOdds 24 = .ok (.ldc2_w 118, 3) := by decide +kernel
theorem dX11_findOdds_27 : decode cX11_findOdds 27 = .ok (.lmul, 1) := by decide +kernel
theorem dX11_findOdds_28 : decode cX11_findOdds 28 = .ok (.putfield 179, 3) := by decide +kernel
theorem dX11_findOdds_31 : decode cX11_findOdds 31 = .ok (.iinc 5 1, 3) := by decide +kernel
theorem dX11_findOdds_34 : decode cX11_findOdds 34 = .ok (.goto (-21), 3) := by decide +kernel
theorem dX11_findOdds_37 : decode cX11_findOdds 37 = .ok (.iconst 0, 1) := by decide +kernel
theorem dX11_findOdds_38 : decode cX11_findOdds 38 = .ok (.istore 5, 2) := by decide +kernel
theorem dX11_findOdds_40 : decode cX11_findOdds 40 = .ok (.iload 5, 2) := by decide +kernel
theorem dX11_findOdds_42 : decode cX11_findOdds 42 = .ok (.iconst 1, 1) := by decide +kernel
theorem dX11_findOdds_43 : decode cX11_findOdds 43 = .ok (.iload_n 3, 1) := by decide +kernel
theorem dX11_findOdds_44 : decode cX11_findOdds 44 = .ok (.ishl, 1) := by decide +kernel
theorem dX11_findOdds_45 : decode cX11_findOdds 45 = .ok (.if_icmp .ge 122, 3) := by decide +kernel
theorem dX11_findOdds_48 : decode cX11_findOdds 48 = .ok (.lconst 1, 1) := by decide +kernel
theorem dX11_findOdds_49 : decode cX11_findOdds 49 = .ok (.lstore 6, 2) := by decide +kernel
theorem dX11_findOdds_51 : decode cX11_findOdds 51 = .ok (.aload_n 0, 1) := by decide +kernel
theorem dX11_findOdds_52 : decode cX11_findOdds 52 = .ok (.iconst 0, 1) := by decide +kernel
theorem dX11_findOdds_53 : decode cX11_findOdds 53 = .ok (.sipush 219, 3) := by decide +kernel
theorem dX11_findOdds_56 : decode cX11_findOdds 56 = .ok (.invokevirtual 90, 3) := by decide +kernel
theorem dX11_findOdds_59 : decode cX11_findOdds 59 = .ok (.iconst 0, 1) := by decide +kernel
theorem dX11_findOdds_60 : decode cX11_findOdds 60 = .ok (.istore 8, 2) := by decide +kernel
theorem dX11_findOdds_62 : decode cX11_findOdds 62 = .ok (.iload 8, 2) := by decide +kernel
theorem dX11_findOdds_64 : decode cX11_findOdds 64 = .ok (.iload_n 3, 1) := by decide +kernel
theorem dX11_findOdds_65 : decode cX11_findOdds 65 = .ok (.if_icmp .ge 58, 3) := by decide +kernel
theorem dX11_findOdds_68 : decode cX11_findOdds 68 = .ok (.lload 6, 2) := by decide +kernel
theorem dX11_findOdds_70 : decode cX11_findOdds 70 = .ok (.iload 5, 2) := by decide +kernel
theorem dX11_findOdds_72 : decode cX11_findOdds 72 = .ok (.iload 8, 2) := by decide +kernel
theorem dX11_findOdds_74 : decode cX11_findOdds 74 = .ok (.invokestatic 156, 3) := by decide +kernel
theorem dX11_findOdds_77 : decode cX11_findOdds 77 = .ok (.ifCond .eq 9, 3) := by decide +kernel
theorem dX11_findOdds_80 : decode cX11_findOdds 80 = .ok (.iload 4, 2) := by decide +kernel
theorem dX11_findOdds_82 : decode cX11_findOdds 82 = .ok (.i2l, 1) := by decide +kernel
theorem dX11_findOdds_83 : decode cX11_findOdds 83 = .ok (.goto 9, 3) := by decide +kernel
theorem dX11_findOdds_86 : decode cX11_findOdds 86 = .ok (.bipush 10, 2) := by decide +kernel
theorem dX11_findOdds_88 : decode cX11_findOdds 88 = .ok (.iload 4, 2) := by decide +kernel
theorem dX11_findOdds_90 : decode cX11_findOdds 90 = .ok (.isub, 1) := by decide +kernel
theorem dX11_findOdds_91 : decode cX11_findOdds 91 = .ok (.i2l, 1) := by decide +kernel
theorem dX11_findOdds_92 : decode cX11_findOdds 92 = .ok (.lmul, 1) := by decide +kernel
theorem dX11_findOdds_93 : decode cX11_findOdds 93 = .ok (.lstore 6, 2) := by decide +kernel
theorem dX11_findOdds_95 : decode cX11_findOdds 95 = .ok (.aload_n 0, 1) := by decide +kernel
theorem dX11_findOdds_96 : decode cX11_findOdds 96 = .ok (.sipush 219, 3) := by decide +kernel
theorem dX11_findOdds_99 : decode cX11_findOdds 99 = .ok (.iload 5, 2) := by decide +kernel
theorem dX11_findOdds_101 : decode cX11_findOdds 101 = .ok (.iload 8, 2) := by decide +kernel
theorem dX11_findOdds_103 : decode cX11_findOdds 103 = .ok (.invokestatic 156, 3) := by decide +kernel
theorem dX11_findOdds_106 : decode cX11_findOdds 106 = .ok (.ifCond .eq 7, 3) := by decide +kernel
theorem dX11_findOdds_109 : decode cX11_findOdds 109 = .ok (.iconst 1, 1) := by decide +kernel
theorem dX11_findOdds_110 : decode cX11_findOdds 110 = .ok (.goto 4, 3) := by decide +kernel
theorem dX11_findOdds_113 : decode cX11_findOdds 113 = .ok (.iconst 0, 1) := by decide +kernel
theorem dX11_findOdds_114 : decode cX11_findOdds 114 = .ok (.invokevirtual 112, 3) := by decide +kernel
theorem dX11_findOdds_117 : decode cX11_findOdds 117 = .ok (.iinc 8 1, 3) := by decide +kernel
theorem dX11_findOdds_120 : decode cX11_findOdds 120 = .ok (.goto (-58), 3) := by decide +kernel
theorem dX11_findOdds_123 : decode cX11_findOdds 123 = .ok (.aload_n 0, 1) := by decide +kernel
theorem dX11_findOdds_124 : decode cX11_findOdds 124 = .ok (.dup, 1) := by decide +kernel
theorem dX11_findOdds_125 : decode cX11_findOdds 125 = .ok (.getfield 175, 3) := by decide +kernel
theorem dX11_findOdds_128 : decode cX11_findOdds 128 = .ok (.aload_n 0, 1) := by decide +kernel
theorem dX11_findOdds_129 : decode cX11_findOdds 129 = .ok (.iload_n 2, 1) := by decide +kernel
theorem dX11_findOdds_130 : decode cX11_findOdds 130 = .ok (.invokevirtual 150, 3) := by decide +kernel
theorem dX11_findOdds_133 : decode cX11_findOdds 133 = .ok (.ldc 146, 2) := by decide +kernel
theorem dX11_findOdds_135 : decode cX11_findOdds 135 = .ok (.if_icmp .eq 21, 3) := by decide +kernel
theorem dX11_findOdds_138 : decode cX11_findOdds 138 = .ok (.aload_n 0, 1) := by decide +kernel
theorem dX11_findOdds_139 : decode cX11_findOdds 139 = .ok (.iload_n 1, 1) := by decide +kernel
theorem dX11_findOdds_140 : decode cX11_findOdds 140 = .ok (.invokevirtual 150, 3) := by decide +kernel
theorem dX11_findOdds_143 : decode cX11_findOdds 143 = .ok (.aload_n 0, 1) := by decide +kernel
theorem dX11_findOdds_144 : decode cX11_findOdds 144 = .ok (.iload_n 2, 1) := by decide +kernel
theorem dX11_findOdds_145 : decode cX11_findOdds 145 = .ok (.invokevirtual 150, 3) := by decide +kernel
theorem dX11_findOdds_148 : decode cX11_findOdds 148 = .ok (.if_icmp .le 8, 3) := by decide +kernel
theorem dX11_findOdds_151 : decode cX11_findOdds 151 = .ok (.lload 6, 2) := by decide +kernel
theorem dX11_findOdds_153 : decode cX11_findOdds 153 = .ok (.goto 4, 3) := by decide +kernel
theorem dX11_findOdds_156 : decode cX11_findOdds 156 = .ok (.lconst 0, 1) := by decide +kernel
theorem dX11_findOdds_157 : decode cX11_findOdds 157 = .ok (.ladd, 1) := by decide +kernel
theorem dX11_findOdds_158 : decode cX11_findOdds 158 = .ok (.putfield 175, 3) := by decide +kernel
theorem dX11_findOdds_161 : decode cX11_findOdds 161 = .ok (.iinc 5 1, 3) := by decide +kernel
theorem dX11_findOdds_164 : decode cX11_findOdds 164 = .ok (.goto (-124), 3) := by decide +kernel
theorem dX11_findOdds_167 : decode cX11_findOdds 167 = .ok (.return_, 1) := by decide +kernel
theorem dX11_isSpan_0 : decode cX11_isSpan 0 = .ok (.iload_n 0, 1) := by decide +kernel
theorem dX11_isSpan_1 : decode cX11_isSpan 1 = .ok (.i2l, 1) := by decide +kernel
theorem dX11_isSpan_2 : decode cX11_isSpan 2 = .ok (.lconst 0, 1) := by decide +kernel
theorem dX11_isSpan_3 : decode cX11_isSpan 3 = .ok (.ldc2_w 118, 3) := by decide +kernel
theorem dX11_isSpan_6 : decode cX11_isSpan 6 = .ok (.invokestatic 42, 3) := by decide +kernel
theorem dX11_isSpan_9 : decode cX11_isSpan 9 = .ok (.ifCond .eq 19, 3) := by decide +kernel
theorem dX11_isSpan_12 : decode cX11_isSpan 12 = .ok (.iload_n 1, 1) := by decide +kernel
theorem dX11_isSpan_13 : decode cX11_isSpan 13 = .ok (.i2l, 1) := by decide +kernel
theorem dX11_isSpan_14 : decode cX11_isSpan 14 = .ok (.lconst 0, 1) := by decide +kernel
theorem dX11_isSpan_15 : decode cX11_isSpan 15 = .ok (.ldc2_w 118, 3) := by decide +kernel
theorem dX11_isSpan_18 : decode cX11_isSpan 18 = .ok (.invokestatic 42, 3) := by decide +kernel
theorem dX11_isSpan_21 : decode cX11_isSpan 21 = .ok (.ifCond .eq 7, 3) := by decide +kernel
theorem dX11_isSpan_24 : decode cX11_isSpan 24 = .ok (.iconst 1, 1) := by decide +kernel
theorem dX11_isSpan_25 : decode cX11_isSpan 25 = .ok (.goto 4, 3) := by decide +kernel
theorem dX11_isSpan_28 : decode cX11_isSpan 28 = .ok (.iconst 0, 1) := by decide +kernel
theorem dX11_isSpan_29 : decode cX11_isSpan 29 = .ok (.ireturn, 1) := by decide +kernel
theorem dX11_odds_0 : decode cX11_odds 0 = .ok (.aload_n 0, 1) := by decide +kernel
theorem dX11_odds_1 : decode cX11_odds 1 = .ok (.iload_n 1, 1) := by decide +kernel
theorem dX11_odds_2 : decode cX11_odds 2 = .ok (.iload_n 2, 1) := by decide +kernel
theorem dX11_odds_3 : decode cX11_odds 3 = .ok (.invokevirtual 153, 3) := by decide +kernel
theorem dX11_odds_6 : decode cX11_odds 6 = .ok (.ifCond .eq 23, 3) := by decide +kernel
theorem dX11_odds_9 : decode cX11_odds 9 = .ok (.iload_n 3, 1) := by decide +kernel
theorem dX11_odds_10 : decode cX11_odds 10 = .ok (.iload 4, 2) := by decide +kernel
theorem dX11_odds_12 : decode cX11_odds 12 = .ok (.invokestatic 182, 3) := by decide +kernel
theorem dX11_odds_15 : decode cX11_odds 15 = .ok (.ifCond .eq 14, 3) := by decide +kernel
theorem dX11_odds_18 : decode cX11_odds 18 = .ok (.iload 5, 2) := by decide +kernel
theorem dX11_odds_20 : decode cX11_odds 20 = .ok (.i2l, 1) := by decide +kernel
theorem dX11_odds_21 : decode cX11_odds 21 = .ok (.lconst 0, 1) := by decide +kernel
theorem dX11_odds_22 : decode cX11_odds 22 = .ok (.lconst 1, 1) := by decide +kernel
theorem dX11_odds_23 : decode cX11_odds 23 = .ok (.invokestatic 42, 3) := by decide +kernel
theorem dX11_odds_26 : decode cX11_odds 26 = .ok (.ifCond .ne 7, 3) := by decide +kernel
theorem dX11_odds_29 : decode cX11_odds 29 = .ok (.ldc2_w 185, 3) := by decide +kernel
theorem dX11_odds_32 : decode cX11_odds 32 = .ok (.lreturn, 1) := by decide +kernel
theorem dX11_odds_33 : decode cX11_odds 33 = .ok (.aload_n 0, 1) := by decide +kernel
theorem dX11_odds_34 : decode cX11_odds 34 = .ok (.iconst 0, 1) := by decide +kernel
theorem dX11_odds_35 : decode cX11_odds 35 = .ok (.iload_n 1, 1) := by decide +kernel
theorem dX11_odds_36 : decode cX11_odds 36 = .ok (.invokevirtual 100, 3) := by decide +kernel
theorem dX11_odds_39 : decode cX11_odds 39 = .ok (.ifCond .ne 12, 3) := by decide +kernel
theorem dX11_odds_42 : decode cX11_odds 42 = .ok (.aload_n 0, 1) := by decide +kernel
theorem dX11_odds_43 : decode cX11_odds 43 = .ok (.iconst 0, 1) := by decide +kernel
theorem dX11_odds_44 : decode cX11_odds 44 = .ok (.iload_n 2, 1) := by decide +kernel
theorem dX11_odds_45 : decode cX11_odds 45 = .ok (.invokevirtual 100, 3) := by decide +kernel
theorem dX11_odds_48 : decode cX11_odds 48 = .ok (.ifCond .eq 7, 3) := by decide +kernel
theorem dX11_odds_51 : decode cX11_odds 51 = .ok (.ldc2_w 187, 3) := by decide +kernel
theorem dX11_odds_54 : decode cX11_odds 54 = .ok (.lreturn, 1) := by decide +kernel
theorem dX11_odds_55 : decode cX11_odds 55 = .ok (.aload_n 0, 1) := by decide +kernel
theorem dX11_odds_56 : decode cX11_odds 56 = .ok (.iload_n 1, 1) := by decide +kernel
theorem dX11_odds_57 : decode cX11_odds 57 = .ok (.iload_n 2, 1) := by decide +kernel
theorem dX11_odds_58 : decode cX11_odds 58 = .ok (.iload_n 3, 1) := by decide +kernel
theorem dX11_odds_59 : decode cX11_odds 59 = .ok (.iload 4, 2) := by decide +kernel
theorem dX11_odds_61 : decode cX11_odds 61 = .ok (.invokevirtual 189, 3) := by decide +kernel
theorem dX11_odds_64 : decode cX11_odds 64 = .ok (.aload_n 0, 1) := by decide +kernel
theorem dX11_odds_65 : decode cX11_odds 65 = .ok (.getfield 175, 3) := by decide +kernel
theorem dX11_odds_68 : decode cX11_odds 68 = .ok (.lstore 6, 2) := by decide +kernel
theorem dX11_odds_70 : decode cX11_odds 70 = .ok (.aload_n 0, 1) := by decide +kernel
theorem dX11_odds_71 : decode cX11_odds 71 = .ok (.getfield 179, 3) := by decide +kernel
theorem dX11_odds_74 : decode cX11_odds 74 = .ok (.lstore 8, 2) := by decide +kernel
theorem dX11_odds_76 : decode cX11_odds 76 = .ok (.lload 8, 2) := by decide +kernel
theorem dX11_odds_78 : decode cX11_odds 78 = .ok (.lconst 0, 1) := by decide +kernel
theorem dX11_odds_79 : decode cX11_odds 79 = .ok (.lcmp, 1) := by decide +kernel
theorem dX11_odds_80 : decode cX11_odds 80 = .ok (.ifCond .eq 21, 3) := by decide +kernel
theorem dX11_odds_83 : decode cX11_odds 83 = .ok (.lload 6, 2) := by decide +kernel
theorem dX11_odds_85 : decode cX11_odds 85 = .ok (.lload 8, 2) := by decide +kernel
theorem dX11_odds_87 : decode cX11_odds 87 = .ok (.lrem, 1) := by decide +kernel
theorem dX11_odds_88 : decode cX11_odds 88 = .ok (.lstore 10, 2) := by decide +kernel
theorem dX11_odds_90 : decode cX11_odds 90 = .ok (.lload 8, 2) := by decide +kernel
theorem dX11_odds_92 : decode cX11_odds 92 = .ok (.lstore 6, 2) := by decide +kernel
theorem dX11_odds_94 : decode cX11_odds 94 = .ok (.lload 10, 2) := by decide +kernel
theorem dX11_odds_96 : decode cX11_odds 96 = .ok (.lstore 8, 2) := by decide +kernel
theorem dX11_odds_98 : decode cX11_odds 98 = .ok (.goto (-22), 3) := by decide +kernel
theorem dX11_odds_101 : decode cX11_odds 101 = .ok (.iload 5, 2) := by decide +kernel
theorem dX11_odds_103 : decode cX11_odds 103 = .ok (.ifCond .ne 13, 3) := by decide +kernel
theorem dX11_odds_106 : decode cX11_odds 106 = .ok (.aload_n 0, 1) := by decide +kernel
theorem dX11_odds_107 : decode cX11_odds 107 = .ok (.getfield 175, 3) := by decide +kernel
theorem dX11_odds_110 : decode cX11_odds 110 = .ok (.lload 6, 2) := by decide +kernel
theorem dX11_odds_112 : decode cX11_odds 112 = .ok (.ldiv, 1) := by decide +kernel
theorem dX11_odds_113 : decode cX11_odds 113 = .ok (.goto 10, 3) := by decide +kernel
theorem dX11_odds_116 : decode cX11_odds 116 = .ok (.aload_n 0, 1) := by decide +kernel
theorem dX11_odds_117 : decode cX11_odds 117 = .ok (.getfield 179, 3) := by decide +kernel
theorem dX11_odds_120 : decode cX11_odds 120 = .ok (.lload 6, 2) := by decide +kernel
theorem dX11_odds_122 : decode cX11_odds 122 = .ok (.ldiv, 1) := by decide +kernel
theorem dX11_odds_123 : decode cX11_odds 123 = .ok (.lreturn, 1) := by decide +kernel
theorem dX11_challenge_0 : decode cX11_challenge 0 = .ok (.aload_n 0, 1) := by decide +kernel
theorem dX11_challenge_1 : decode cX11_challenge 1 = .ok (.iload_n 1, 1) := by decide +kernel
theorem dX11_challenge_2 : decode cX11_challenge 2 = .ok (.invokevirtual 115, 3) := by decide +kernel
theorem dX11_challenge_5 : decode cX11_challenge 5 = .ok (.ifCond .eq 11, 3) := by decide +kernel
theorem dX11_challenge_8 : decode cX11_challenge 8 = .ok (.iload_n 2, 1) := by decide +kernel
theorem dX11_challenge_9 : decode cX11_challenge 9 = .ok (.iload_n 3, 1) := by decide +kernel
theorem dX11_challenge_10 : decode cX11_challenge 10 = .ok (.invokestatic 182, 3) := by decide +kernel
theorem dX11_challenge_13 : decode cX11_challenge 13 = .ok (.ifCond .ne 5, 3) := by decide +kernel
theorem dX11_challenge_16 : decode cX11_challenge 16 = .ok (.iconst (-1), 1) := by decide +kernel
theorem dX11_challenge_17 : decode cX11_challenge 17 = .ok (.ireturn, 1) := by decide +kernel
theorem dX11_challenge_18 : decode cX11_challenge 18 = .ok (.aload_n 0, 1) := by decide +kernel
theorem dX11_challenge_19 : decode cX11_challenge 19 = .ok (.iconst 0, 1) := by decide +kernel
theorem dX11_challenge_20 : decode cX11_challenge 20 = .ok (.iload_n 1, 1) := by decide +kernel
theorem dX11_challenge_21 : decode cX11_challenge 21 = .ok (.invokevirtual 100, 3) := by decide +kernel
theorem dX11_challenge_24 : decode cX11_challenge 24 = .ok (.ifCond .eq 6, 3) := by decide +kernel
theorem dX11_challenge_27 : decode cX11_challenge 27 = .ok (.bipush (-2), 2) := by decide +kernel
theorem dX11_challenge_29 : decode cX11_challenge 29 = .ok (.ireturn, 1) := by decide +kernel
theorem dX11_challenge_30 : decode cX11_challenge 30 = .ok (.bipush (-4), 2) := by decide +kernel
theorem dX11_challenge_32 : decode cX11_challenge 32 = .ok (.istore 4, 2) := by decide +kernel
theorem dX11_challenge_34 : decode cX11_challenge 34 = .ok (.ldc2_w 185, 3) := by decide +kernel
theorem dX11_challenge_37 : decode cX11_challenge 37 = .ok (.lstore 5, 2) := by decide +kernel
theorem dX11_challenge_39 : decode cX11_challenge 39 = .ok (.iconst 0, 1) := by decide +kernel
theorem dX11_challenge_40 : decode cX11_challenge 40 = .ok (.istore 7, 2) := by decide +kernel
theorem dX11_challenge_42 : decode cX11_challenge 42 = .ok (.iload 7, 2) := by decide +kernel
theorem dX11_challenge_44 : decode cX11_challenge 44 = .ok (.aload_n 0, 1) := by decide +kernel
theorem dX11_challenge_45 : decode cX11_challenge 45 = .ok (.getfield 7, 3) := by decide +kernel
theorem dX11_challenge_48 : decode cX11_challenge 48 = .ok (.iconst 1, 1) := by decide +kernel
theorem dX11_challenge_49 : decode cX11_challenge 49 = .ok (.iaload, 1) := by decide +kernel
theorem dX11_challenge_50 : decode cX11_challenge 50 = .ok (.if_icmp .ge 74, 3) := by decide +kernel
theorem dX11_challenge_53 : decode cX11_challenge 53 = .ok (.iload 7, 2) := by decide +kernel
theorem dX11_challenge_55 : decode cX11_challenge 55 = .ok (.iload_n 1, 1) := by decide +kernel
theorem dX11_challenge_56 : decode cX11_challenge 56 = .ok (.if_icmp .eq 62, 3) := by decide +kernel
theorem dX11_challenge_59 : decode cX11_challenge 59 = .ok (.aload_n 0, 1) := by decide +kernel
theorem dX11_challenge_60 : decode cX11_challenge 60 = .ok (.iconst 0, 1) := by decide +kernel
theorem dX11_challenge_61 : decode cX11_challenge 61 = .ok (.iload 7, 2) := by decide +kernel
theorem dX11_challenge_63 : decode cX11_challenge 63 = .ok (.invokevirtual 100, 3) := by decide +kernel
theorem dX11_challenge_66 : decode cX11_challenge 66 = .ok (.ifCond .ne 52, 3) := by decide +kernel
theorem dX11_challenge_69 : decode cX11_challenge 69 = .ok (.aload_n 0, 1) := by decide +kernel
theorem dX11_challenge_70 : decode cX11_challenge 70 = .ok (.iload_n 1, 1) := by decide +kernel
theorem dX11_challenge_71 : decode cX11_challenge 71 = .ok (.iload 7, 2) := by decide +kernel
theorem dX11_challenge_73 : decode cX11_challenge 73 = .ok (.iload_n 2, 1) := by decide +kernel
theorem dX11_challenge_74 : decode cX11_challenge 74 = .ok (.iload_n 3, 1) := by decide +kernel
theorem dX11_challenge_75 : decode cX11_challenge 75 = .ok (.invokevirtual 189, 3) := by decide +kernel
theorem dX11_challenge_78 : decode cX11_challenge 78 = .ok (.aload_n 0, 1) := by decide +kernel
theorem dX11_challenge_79 : decode cX11_challenge 79 = .ok (.getfield 175, 3) := by decide +kernel
theorem dX11_challenge_82 : decode cX11_challenge 82 = .ok (.lload 5, 2) := by decide +kernel
theorem dX11_challenge_84 : decode cX11_challenge 84 = .ok (.lcmp, 1) := by decide +kernel
theorem dX11_challenge_85 : decode cX11_challenge 85 = .ok (.ifCond .le 8, 3) := by decide +kernel
theorem dX11_challenge_88 : decode cX11_challenge 88 = .ok (.iload 7, 2) := by decide +kernel
theorem dX11_challenge_90 : decode cX11_challenge 90 = .ok (.goto 5, 3) := by decide +kernel
theorem dX11_challenge_93 : decode cX11_challenge 93 = .ok (.iload 4, 2) := by decide +kernel
theorem dX11_challenge_95 : decode cX11_challenge 95 = .ok (.istore 4, 2) := by decide +kernel
theorem dX11_challenge_97 : decode cX11_challenge 97 = .ok (.aload_n 0, 1) := by decide +kernel
theorem dX11_challenge_98 : decode cX11_challenge 98 = .ok (.getfield 175, 3) := by decide +kernel
theorem dX11_challenge_101 : decode cX11_challenge 101 = .ok (.lload 5, 2) := by decide +kernel
theorem dX11_challenge_103 : decode cX11_challenge 103 = .ok (.lcmp, 1) := by decide +kernel
theorem dX11_challenge_104 : decode cX11_challenge 104 = .ok (.ifCond .le 10, 3) := by decide +kernel
theorem dX11_challenge_107 : decode cX11_challenge 107 = .ok (.aload_n 0, 1) := by decide +kernel
theorem dX11_challenge_108 : decode cX11_challenge 108 = .ok (.getfield 175, 3) := by decide +kernel
theorem dX11_challenge_111 : decode cX11_challenge 111 = .ok (.goto 5, 3) := by decide +kernel
theorem dX11_challenge_114 : decode cX11_challenge 114 = .ok (.lload 5, 2) := by decide +kernel
theorem dX11_challenge_116 : decode cX11_challenge 116 = .ok (.lstore 5, 2) := by decide +kernel
theorem dX11_challenge_118 : decode cX11_challenge 118 = .ok (.iinc 7 1, 3) := by decide +kernel
theorem dX11_challenge_121 : decode cX11_challenge 121 = .ok (.goto (-79), 3) := by decide +kernel
theorem dX11_challenge_124 : decode cX11_challenge 124 = .ok (.iload 4, 2) := by decide +kernel
theorem dX11_challenge_126 : decode cX11_challenge 126 = .ok (.ireturn, 1) := by decide +kernel
theorem dX11_turns_0 : decode cX11_turns 0 = .ok (.iload_n 3, 1) := by decide +kernel
theorem dX11_turns_1 : decode cX11_turns 1 = .ok (.iconst 1, 1) := by decide +kernel
theorem dX11_turns_2 : decode cX11_turns 2 = .ok (.if_icmp .ne 14, 3) := by decide +kernel
theorem dX11_turns_5 : decode cX11_turns 5 = .ok (.aload_n 0, 1) := by decide +kernel
theorem dX11_turns_6 : decode cX11_turns 6 = .ok (.sipush 219, 3) := by decide +kernel
theorem dX11_turns_9 : decode cX11_turns 9 = .ok (.iload_n 1, 1) := by decide +kernel
theorem dX11_turns_10 : decode cX11_turns 10 = .ok (.invokevirtual 136, 3) := by decide +kernel
theorem dX11_turns_13 : decode cX11_turns 13 = .ok (.goto 30, 3) := by decide +kernel
theorem dX11_turns_16 : decode cX11_turns 16 = .ok (.iload_n 3, 1) := by decide +kernel
theorem dX11_turns_17 : decode cX11_turns 17 = .ok (.iconst 2, 1) := by decide +kernel
theorem dX11_turns_18 : decode cX11_turns 18 = .ok (.if_icmp .ne 25, 3) := by decide +kernel
theorem dX11_turns_21 : decode cX11_turns 21 = .ok (.aload_n 0, 1) := by decide +kernel
theorem dX11_turns_22 : decode cX11_turns 22 = .ok (.sipush 219, 3) := by decide +kernel
theorem dX11_turns_25 : decode cX11_turns 25 = .ok (.iload_n 2, 1) := by decide +kernel
theorem dX11_turns_26 : decode cX11_turns 26 = .ok (.invokevirtual 100, 3) := by decide +kernel
theorem dX11_turns_29 : decode cX11_turns 29 = .ok (.ifCond .ne 14, 3) := by decide +kernel
theorem dX11_turns_32 : decode cX11_turns 32 = .ok (.aload_n 0, 1) := by decide +kernel
theorem dX11_turns_33 : decode cX11_turns 33 = .ok (.getfield 7, 3) := by decide +kernel
theorem dX11_turns_36 : decode cX11_turns 36 = .ok (.sipush 268, 3) := by decide +kernel
theorem dX11_turns_39 : decode cX11_turns 39 = .ok (.iload_n 2, 1) := by decide +kernel
theorem dX11_turns_40 : decode cX11_turns 40 = .ok (.iadd, 1) := by decide +kernel
theorem dX11_turns_41 : decode cX11_turns 41 = .ok (.iconst 2, 1) := by decide +kernel
theorem dX11_turns_42 : decode cX11_turns 42 = .ok (.iastore, 1) := by decide +kernel
theorem dX11_turns_43 : decode cX11_turns 43 = .ok (.return_, 1) := by decide +kernel
theorem dX11_edgeNow_0 : decode cX11_edgeNow 0 = .ok (.aload_n 0, 1) := by decide +kernel
theorem dX11_edgeNow_1 : decode cX11_edgeNow 1 = .ok (.getfield 7, 3) := by decide +kernel
theorem dX11_edgeNow_4 : decode cX11_edgeNow 4 = .ok (.sipush 232, 3) := by decide +kernel
theorem dX11_edgeNow_7 : decode cX11_edgeNow 7 = .ok (.iload_n 1, 1) := by decide +kernel
theorem dX11_edgeNow_8 : decode cX11_edgeNow 8 = .ok (.iadd, 1) := by decide +kernel
theorem dX11_edgeNow_9 : decode cX11_edgeNow 9 = .ok (.iaload, 1) := by decide +kernel
theorem dX11_edgeNow_10 : decode cX11_edgeNow 10 = .ok (.aload_n 0, 1) := by decide +kernel
theorem dX11_edgeNow_11 : decode cX11_edgeNow 11 = .ok (.getfield 7, 3) := by decide +kernel
theorem dX11_edgeNow_14 : decode cX11_edgeNow 14 = .ok (.sipush 256, 3) := by decide +kernel
theorem dX11_edgeNow_17 : decode cX11_edgeNow 17 = .ok (.iload_n 1, 1) := by decide +kernel
theorem dX11_edgeNow_18 : decode cX11_edgeNow 18 = .ok (.iadd, 1) := by decide +kernel
theorem dX11_edgeNow_19 : decode cX11_edgeNow 19 = .ok (.iaload, 1) := by decide +kernel
theorem dX11_edgeNow_20 : decode cX11_edgeNow 20 = .ok (.isub, 1) := by decide +kernel
theorem dX11_edgeNow_21 : decode cX11_edgeNow 21 = .ok (.aload_n 0, 1) := by decide +kernel
theorem dX11_edgeNow_22 : decode cX11_edgeNow 22 = .ok (.getfield 7, 3) := by decide +kernel
theorem dX11_edgeNow_25 : decode cX11_edgeNow 25 = .ok (.sipush 232, 3) := by decide +kernel
theorem dX11_edgeNow_28 : decode cX11_edgeNow 28 = .ok (.iload_n 2, 1) := by decide +kernel
theorem dX11_edgeNow_29 : decode cX11_edgeNow 29 = .ok (.iadd, 1) := by decide +kernel
theorem dX11_edgeNow_30 : decode cX11_edgeNow 30 = .ok (.iaload, 1) := by decide +kernel
theorem dX11_edgeNow_31 : decode cX11_edgeNow 31 = .ok (.isub, 1) := by decide +kernel
theorem dX11_edgeNow_32 : decode cX11_edgeNow 32 = .ok (.aload_n 0, 1) := by decide +kernel
theorem dX11_edgeNow_33 : decode cX11_edgeNow 33 = .ok (.getfield 7, 3) := by decide +kernel
theorem dX11_edgeNow_36 : decode cX11_edgeNow 36 = .ok (.sipush 256, 3) := by decide +kernel
theorem dX11_edgeNow_39 : decode cX11_edgeNow 39 = .ok (.iload_n 2, 1) := by decide +kernel
theorem dX11_edgeNow_40 : decode cX11_edgeNow 40 = .ok (.iadd, 1) := by decide +kernel
theorem dX11_edgeNow_41 : decode cX11_edgeNow 41 = .ok (.iaload, 1) := by decide +kernel
theorem dX11_edgeNow_42 : decode cX11_edgeNow 42 = .ok (.iadd, 1) := by decide +kernel
theorem dX11_edgeNow_43 : decode cX11_edgeNow 43 = .ok (.ireturn, 1) := by decide +kernel
theorem dX11_game_0 : decode cX11_game 0 = .ok (.aload_n 0, 1) := by decide +kernel
theorem dX11_game_1 : decode cX11_game 1 = .ok (.iload_n 1, 1) := by decide +kernel
theorem dX11_game_2 : decode cX11_game 2 = .ok (.iload_n 2, 1) := by decide +kernel
theorem dX11_game_3 : decode cX11_game 3 = .ok (.invokevirtual 153, 3) := by decide +kernel
theorem dX11_game_6 : decode cX11_game 6 = .ok (.ifCond .eq 15, 3) := by decide +kernel
theorem dX11_game_9 : decode cX11_game 9 = .ok (.iload_n 3, 1) := by decide +kernel
theorem dX11_game_10 : decode cX11_game 10 = .ok (.i2l, 1) := by decide +kernel
theorem dX11_game_11 : decode cX11_game 11 = .ok (.lconst 0, 1) := by decide +kernel
theorem dX11_game_12 : decode cX11_game 12 = .ok (.ldc2_w 169, 3) := by decide +kernel
theorem dX11_game_15 : decode cX11_game 15 = .ok (.invokestatic 42, 3) := by decide +kernel
theorem dX11_game_18 : decode cX11_game 18 = .ok (.ifCond .ne 5, 3) := by decide +kernel
theorem dX11_game_21 : decode cX11_game 21 = .ok (.iconst (-1), 1) := by decide +kernel
theorem dX11_game_22 : decode cX11_game 22 = .ok (.ireturn, 1) := by decide +kernel
theorem dX11_game_23 : decode cX11_game 23 = .ok (.aload_n 0, 1) := by decide +kernel
theorem dX11_game_24 : decode cX11_game 24 = .ok (.iconst 0, 1) := by decide +kernel
theorem dX11_game_25 : decode cX11_game 25 = .ok (.iload_n 1, 1) := by decide +kernel
theorem dX11_game_26 : decode cX11_game 26 = .ok (.invokevirtual 100, 3) := by decide +kernel
theorem dX11_game_29 : decode cX11_game 29 = .ok (.ifCond .ne 12, 3) := by decide +kernel
theorem dX11_game_32 : decode cX11_game 32 = .ok (.aload_n 0, 1) := by decide +kernel
theorem dX11_game_33 : decode cX11_game 33 = .ok (.iconst 0, 1) := by decide +kernel
theorem dX11_game_34 : decode cX11_game 34 = .ok (.iload_n 2, 1) := by decide +kernel
theorem dX11_game_35 : decode cX11_game 35 = .ok (.invokevirtual 100, 3) := by decide +kernel
theorem dX11_game_38 : decode cX11_game 38 = .ok (.ifCond .eq 6, 3) := by decide +kernel
theorem dX11_game_41 : decode cX11_game 41 = .ok (.bipush (-2), 2) := by decide +kernel
theorem dX11_game_43 : decode cX11_game 43 = .ok (.ireturn, 1) := by decide +kernel
theorem dX11_game_44 : decode cX11_game 44 = .ok (.iload_n 3, 1) := by decide +kernel
theorem dX11_game_45 : decode cX11_game 45 = .ok (.ifCond .ne 7, 3) := by decide +kernel
theorem dX11_game_48 : decode cX11_game 48 = .ok (.iconst 1, 1) := by decide +kernel
theorem dX11_game_49 : decode cX11_game 49 = .ok (.goto 26, 3) := by decide +kernel
theorem dX11_game_52 : decode cX11_game 52 = .ok (.iload_n 3, 1) := by decide +kernel
theorem dX11_game_53 : decode cX11_game 53 = .ok (.iconst 1, 1) := by decide +kernel
theorem dX11_game_54 : decode cX11_game 54 = .ok (.if_icmp .ne 8, 3) := by decide +kernel
theorem dX11_game_57 : decode cX11_game 57 = .ok (.bipush 9, 2) := by decide +kernel
theorem dX11_game_59 : decode cX11_game 59 = .ok (.goto 16, 3) := by decide +kernel
theorem dX11_game_62 : decode cX11_game 62 = .ok (.iload_n 3, 1) := by decide +kernel
theorem dX11_game_63 : decode cX11_game 63 = .ok (.iconst 2, 1) := by decide +kernel
theorem dX11_game_64 : decode cX11_game 64 = .ok (.if_icmp .ne 8, 3) := by decide +kernel
theorem dX11_game_67 : decode cX11_game 67 = .ok (.bipush 81, 2) := by decide +kernel
theorem dX11_game_69 : decode cX11_game 69 = .ok (.goto 6, 3) := by decide +kernel
theorem dX11_game_72 : decode cX11_game 72 = .ok (.sipush 729, 3) := by decide +kernel
theorem dX11_game_75 : decode cX11_game 75 = .ok (.istore 4, 2) := by decide +kernel
theorem dX11_game_77 : decode cX11_game 77 = .ok (.iconst 0, 1) := by decide +kernel
theorem dX11_game_78 : decode cX11_game 78 = .ok (.istore 5, 2) := by decide +kernel
theorem dX11_game_80 : decode cX11_game 80 = .ok (.iload 5, 2) := by decide +kernel
theorem dX11_game_82 : decode cX11_game 82 = .ok (.iload 4, 2) := by decide +kernel
theorem dX11_game_84 : decode cX11_game 84 = .ok (.if_icmp .ge 89, 3) := by decide +kernel
theorem dX11_game_87 : decode cX11_game 87 = .ok (.aload_n 0, 1) := by decide +kernel
theorem dX11_game_88 : decode cX11_game 88 = .ok (.iconst 0, 1) := by decide +kernel
theorem dX11_game_89 : decode cX11_game 89 = .ok (.sipush 219, 3) := by decide +kernel
theorem dX11_game_92 : decode cX11_game 92 = .ok (.invokevirtual 90, 3) := by decide +kernel
theorem dX11_game_95 : decode cX11_game 95 = .ok (.iload 4, 2) := by decide +kernel
theorem dX11_game_97 : decode cX11_game 97 = .ok (.bipush 9, 2) := by decide +kernel
theorem dX11_game_99 : decode cX11_game 99 = .ok (.idiv, 1) := by decide +kernel
theorem dX11_game_100 : decode cX11_game 100 = .ok (.istore 6, 2) := by decide +kernel
theorem dX11_game_102 : decode cX11_game 102 = .ok (.iload 6, 2) := by decide +kernel
theorem dX11_game_104 : decode cX11_game 104 = .ok (.ifCond .le 50, 3) := by decide +kernel
theorem dX11_game_107 : decode cX11_game 107 = .ok (.iload 5, 2) := by decide +kernel
theorem dX11_game_109 : decode cX11_game 109 = .ok (.iload 6, 2) := by decide +kernel
theorem dX11_game_111 : decode cX11_game 111 = .ok (.idiv, 1) := by decide +kernel
theorem dX11_game_112 : decode cX11_game 112 = .ok (.bipush 9, 2) := by decide +kernel
theorem dX11_game_114 : decode cX11_game 114 = .ok (.irem, 1) := by decide +kernel
theorem dX11_game_115 : decode cX11_game 115 = .ok (.istore 7, 2) := by decide +kernel
theorem dX11_game_117 : decode cX11_game 117 = .ok (.aload_n 0, 1) := by decide +kernel
theorem dX11_game_118 : decode cX11_game 118 = .ok (.iload_n 1, 1) := by decide +kernel
theorem dX11_game_119 : decode cX11_game 119 = .ok (.iload_n 2, 1) := by decide +kernel
theorem dX11_game_120 : decode cX11_game 120 = .ok (.iload 7, 2) := by decide +kernel
theorem dX11_game_122 : decode cX11_game 122 = .ok (.iconst 3, 1) := by decide +kernel
theorem dX11_game_123 : decode cX11_game 123 = .ok (.idiv, 1) := by decide +kernel
theorem dX11_game_124 : decode cX11_game 124 = .ok (.invokevirtual 193, 3) := by decide +kernel
theorem dX11_game_127 : decode cX11_game 127 = .ok (.aload_n 0, 1) := by decide +kernel
theorem dX11_game_128 : decode cX11_game 128 = .ok (.iload_n 2, 1) := by decide +kernel
theorem dX11_game_129 : decode cX11_game 129 = .ok (.iload_n 1, 1) := by decide +kernel
theorem dX11_game_130 : decode cX11_game 130 = .ok (.iload 7, 2) := by decide +kernel
theorem dX11_game_132 : decode cX11_game 132 = .ok (.iconst 3, 1) := by decide +kernel
theorem dX11_game_133 : decode cX11_game 133 = .ok (.irem, 1) := by decide +kernel
theorem dX11_game_134 : decode cX11_game 134 = .ok (.invokevirtual 193, 3) := by decide +kernel
theorem dX11_game_137 : decode cX11_game 137 = .ok (.aload_n 0, 1) := by decide +kernel
theorem dX11_game_138 : decode cX11_game 138 = .ok (.sipush 219, 3) := by decide +kernel
theorem dX11_game_141 : decode cX11_game 141 = .ok (.invokevirtual 129, 3) := by decide +kernel
theorem dX11_game_144 : decode cX11_game 144 = .ok (.iload 6, 2) := by decide +kernel
theorem dX11_game_146 : decode cX11_game 146 = .ok (.bipush 9, 2) := by decide +kernel
theorem dX11_game_148 : decode cX11_game 148 = .ok (.idiv, 1) := by decide +kernel
theorem dX11_game_149 : decode cX11_game 149 = .ok (.istore 6, 2) := by decide +kernel
theorem dX11_game_151 : decode cX11_game 151 = .ok (.goto (-49), 3) := by decide +kernel
theorem dX11_game_154 : decode cX11_game 154 = .ok (.aload_n 0, 1) := by decide +kernel
theorem dX11_game_155 : decode cX11_game 155 = .ok (.getfield 33, 3) := by decide +kernel
theorem dX11_game_158 : decode cX11_game 158 = .ok (.iload 5, 2) := by decide +kernel
theorem dX11_game_160 : decode cX11_game 160 = .ok (.aload_n 0, 1) := by decide +kernel
theorem dX11_game_161 : decode cX11_game 161 = .ok (.iload_n 1, 1) := by decide +kernel
theorem dX11_game_162 : decode cX11_game 162 = .ok (.iload_n 2, 1) := by decide +kernel
theorem dX11_game_163 : decode cX11_game 163 = .ok (.invokevirtual 197, 3) := by decide +kernel
theorem dX11_game_166 : decode cX11_game 166 = .ok (.iastore, 1) := by decide +kernel
theorem dX11_game_167 : decode cX11_game 167 = .ok (.iinc 5 1, 3) := by decide +kernel
theorem dX11_game_170 : decode cX11_game 170 = .ok (.goto (-90), 3) := by decide +kernel
theorem dX11_game_173 : decode cX11_game 173 = .ok (.iload 4, 2) := by decide +kernel
theorem dX11_game_175 : decode cX11_game 175 = .ok (.bipush 9, 2) := by decide +kernel
theorem dX11_game_177 : decode cX11_game 177 = .ok (.idiv, 1) := by decide +kernel
theorem dX11_game_178 : decode cX11_game 178 = .ok (.istore 5, 2) := by decide +kernel
theorem dX11_game_180 : decode cX11_game 180 = .ok (.iload 5, 2) := by decide +kernel
theorem dX11_game_182 : decode cX11_game 182 = .ok (.ifCond .le 128, 3) := by decide +kernel
theorem dX11_game_185 : decode cX11_game 185 = .ok (.iconst 0, 1) := by decide +kernel
theorem dX11_game_186 : decode cX11_game 186 = .ok (.istore 6, 2) := by decide +kernel
theorem dX11_game_188 : decode cX11_game 188 = .ok (.iload 6, 2) := by decide +kernel
theorem dX11_game_190 : decode cX11_game 190 = .ok (.iload 5, 2) := by decide +kernel
theorem dX11_game_192 : decode cX11_game 192 = .ok (.if_icmp .ge 108, 3) := by decide +kernel
theorem dX11_game_195 : decode cX11_game 195 = .ok (.ldc 201, 2) := by decide +kernel
theorem dX11_game_197 : decode cX11_game 197 = .ok (.istore 7, 2) := by decide +kernel
theorem dX11_game_199 : decode cX11_game 199 = .ok (.iconst 0, 1) := by decide +kernel
theorem dX11_game_200 : decode cX11_game 200 = .ok (.istore 8, 2) := by decide +kernel
theorem dX11_game_202 : decode cX11_game 202 = .ok (.iload 8, 2) := by decide +kernel
theorem dX11_game_204 : decode cX11_game 204 = .ok (.iconst 3, 1) := by decide +kernel
theorem dX11_game_205 : decode cX11_game 205 = .ok (.if_icmp .ge 80, 3) := by decide +kernel
theorem dX11_game_208 : decode cX11_game 208 = .ok (.ldc 146, 2) := by decide +kernel
theorem dX11_game_210 : decode cX11_game 210 = .ok (.istore 9, 2) := by decide +kernel
theorem dX11_game_212 : decode cX11_game 212 = .ok (.iconst 0, 1) := by decide +kernel
theorem dX11_game_213 : decode cX11_game 213 = .ok (.istore 10, 2) := by decide +kernel
theorem dX11_game_215 : decode cX11_game 215 = .ok (.iload 10, 2) := by decide +kernel
theorem dX11_game_217 : decode cX11_game 217 = .ok (.iconst 3, 1) := by decide +kernel
theorem dX11_game_218 : decode cX11_game 218 = .ok (.if_icmp .ge 45, 3) := by decide +kernel
theorem dX11_game_221 : decode cX11_game 221 = .ok (.aload_n 0, 1) := by decide +kernel
theorem dX11_game_222 : decode cX11_game 222 = .ok (.getfield 33, 3) := by decide +kernel
theorem dX11_game_225 : decode cX11_game 225 = .ok (.bipush 9, 2) := by decide +kernel
theorem dX11_game_227 : decode cX11_game 227 = .ok (.iload 6, 2) := by decide +kernel
theorem dX11_game_229 : decode cX11_game 229 = .ok (.imul, 1) := by decide +kernel
theorem dX11_game_230 : decode cX11_game 230 = .ok (.iconst 3, 1) := by decide +kernel
theorem dX11_game_231 : decode cX11_game 231 = .ok (.iload 8, 2) := by decide +kernel
theorem dX11_game_233 : decode cX11_game 233 = .ok (.imul, 1) := by decide +kernel
theorem dX11_game_234 : decode cX11_game 234 = .ok (.iadd, 1) := by decide +kernel
theorem dX11_game_235 : decode cX11_game 235 = .ok (.iload 10, 2) := by decide +kernel
theorem dX11_game_237 : decode cX11_game 237 = .ok (.iadd, 1) := by decide +kernel
theorem dX11_game_238 : decode cX11_game 238 = .ok (.iaload, 1) := by decide +kernel
theorem dX11_game_239 : decode cX11_game 239 = .ok (.istore 11, 2) := by decide +kernel
theorem dX11_game_241 : decode cX11_game 241 = .ok (.iload 11, 2) := by decide +kernel
theorem dX11_game_243 : decode cX11_game 243 = .ok (.iload 9, 2) := by decide +kernel
theorem dX11_game_245 : decode cX11_game 245 = .ok (.if_icmp .ge 8, 3) := by decide +kernel
theorem dX11_game_248 : decode cX11_game 248 = .ok (.iload 11, 2) := by decide +kernel
theorem dX11_game_250 : decode cX11_game 250 = .ok (.goto 5, 3) := by decide +kernel
theorem dX11_game_253 : decode cX11_game 253 = .ok (.iload 9, 2) := by decide +kernel
theorem dX11_game_255 : decode cX11_game 255 = .ok (.istore 9, 2) := by decide +kernel
theorem dX11_game_257 : decode cX11_game 257 = .ok (.iinc 10 1, 3) := by decide +kernel
theorem dX11_game_260 : decode cX11_game 260 = .ok (.goto (-45), 3) := by decide +kernel
theorem dX11_game_263 : decode cX11_game 263 = .ok (.iload 9, 2) := by decide +kernel
theorem dX11_game_265 : decode cX11_game 265 = .ok (.iload 7, 2) := by decide +kernel
theorem dX11_game_267 : decode cX11_game 267 = .ok (.if_icmp .le 8, 3) := by decide +kernel
theorem dX11_game_270 : decode cX11_game 270 = .ok (.iload 9, 2) := by decide +kernel
theorem dX11_game_272 : decode cX11_game 272 = .ok (.goto 5, 3) := by decide +kernel
theorem dX11_game_275 : decode cX11_game 275 = .ok (.iload 7, 2) := by decide +kernel
theorem dX11_game_277 : decode cX11_game 277 = .ok (.istore 7, 2) := by decide +kernel
theorem dX11_game_279 : decode cX11_game 279 = .ok (.iinc 8 1, 3) := by decide +kernel
theorem dX11_game_282 : decode cX11_game 282 = .ok (.goto (-80), 3) := by decide +kernel
theorem dX11_game_285 : decode cX11_game 285 = .ok (.aload_n 0, 1) := by decide +kernel
theorem dX11_game_286 : decode cX11_game 286 = .ok (.getfield 33, 3) := by decide +kernel
theorem dX11_game_289 : decode cX11_game 289 = .ok (.iload 6, 2) := by decide +kernel
theorem dX11_game_291 : decode cX11_game 291 = .ok (.iload 7, 2) := by decide +kernel
theorem dX11_game_293 : decode cX11_game 293 = .ok (.iastore, 1) := by decide +kernel
theorem dX11_game_294 : decode cX11_game 294 = .ok (.iinc 6 1, 3) := by decide +kernel
theorem dX11_game_297 : decode cX11_game 297 = .ok (.goto (-109), 3) := by decide +kernel
theorem dX11_game_300 : decode cX11_game 300 = .ok (.iload 5, 2) := by decide +kernel
theorem dX11_game_302 : decode cX11_game 302 = .ok (.bipush 9, 2) := by decide +kernel
theorem dX11_game_304 : decode cX11_game 304 = .ok (.idiv, 1) := by decide +kernel
theorem dX11_game_305 : decode cX11_game 305 = .ok (.istore 5, 2) := by decide +kernel
theorem dX11_game_307 : decode cX11_game 307 = .ok (.goto (-127), 3) := by decide +kernel
theorem dX11_game_310 : decode cX11_game 310 = .ok (.aload_n 0, 1) := by decide +kernel
theorem dX11_game_311 : decode cX11_game 311 = .ok (.getfield 33, 3) := by decide +kernel
theorem dX11_game_314 : decode cX11_game 314 = .ok (.iconst 0, 1) := by decide +kernel
theorem dX11_game_315 : decode cX11_game 315 = .ok (.iaload, 1) := by decide +kernel
theorem dX11_game_316 : decode cX11_game 316 = .ok (.sipush 2000, 3) := by decide +kernel
theorem dX11_game_319 : decode cX11_game 319 = .ok (.iadd, 1) := by decide +kernel
theorem dX11_game_320 : decode cX11_game 320 = .ok (.ireturn, 1) := by decide +kernel
theorem dX11_isSheet_0 : decode cX11_isSheet 0 = .ok (.iload_n 0, 1) := by decide +kernel
theorem dX11_isSheet_1 : decode cX11_isSheet 1 = .ok (.i2l, 1) := by decide +kernel
theorem dX11_isSheet_2 : decode cX11_isSheet 2 = .ok (.lconst 0, 1) := by decide +kernel
theorem dX11_isSheet_3 : decode cX11_isSheet 3 = .ok (.ldc2_w 169, 3) := by decide +kernel
theorem dX11_isSheet_6 : decode cX11_isSheet 6 = .ok (.invokestatic 42, 3) := by decide +kernel
theorem dX11_isSheet_9 : decode cX11_isSheet 9 = .ok (.ireturn, 1) := by decide +kernel
theorem dX11_sheet_0 : decode cX11_sheet 0 = .ok (.iload_n 1, 1) := by decide +kernel
theorem dX11_sheet_1 : decode cX11_sheet 1 = .ok (.invokestatic 202, 3) := by decide +kernel
theorem dX11_sheet_4 : decode cX11_sheet 4 = .ok (.ifCond .eq 21, 3) := by decide +kernel
theorem dX11_sheet_7 : decode cX11_sheet 7 = .ok (.iload_n 2, 1) := by decide +kernel
theorem dX11_sheet_8 : decode cX11_sheet 8 = .ok (.i2l, 1) := by decide +kernel
theorem dX11_sheet_9 : decode cX11_sheet 9 = .ok (.lconst 0, 1) := by decide +kernel
theorem dX11_sheet_10 : decode cX11_sheet 10 = .ok (.ldc2_w 169, 3) := by decide +kernel
theorem dX11_sheet_13 : decode cX11_sheet 13 = .ok (.invokestatic 42, 3) := by decide +kernel
theorem dX11_sheet_16 : decode cX11_sheet 16 = .ok (.ifCond .eq 9, 3) := by decide +kernel
theorem dX11_sheet_19 : decode cX11_sheet 19 = .ok (.iload_n 3, 1) := by decide +kernel
theorem dX11_sheet_20 : decode cX11_sheet 20 = .ok (.bipush 24, 2) := by decide +kernel
theorem dX11_sheet_22 : decode cX11_sheet 22 = .ok (.if_icmp .le 5, 3) := by decide +kernel
theorem dX11_sheet_25 : decode cX11_sheet 25 = .ok (.iconst (-1), 1) := by decide +kernel
theorem dX11_sheet_26 : decode cX11_sheet 26 = .ok (.ireturn, 1) := by decide +kernel
theorem dX11_sheet_27 : decode cX11_sheet 27 = .ok (.iload_n 3, 1) := by decide +kernel
theorem dX11_sheet_28 : decode cX11_sheet 28 = .ok (.ifCond .ge 6, 3) := by decide +kernel
theorem dX11_sheet_31 : decode cX11_sheet 31 = .ok (.bipush (-14), 2) := by decide +kernel
theorem dX11_sheet_33 : decode cX11_sheet 33 = .ok (.ireturn, 1) := by decide +kernel
theorem dX11_sheet_34 : decode cX11_sheet 34 = .ok (.aload_n 0, 1) := by decide +kernel
theorem dX11_sheet_35 : decode cX11_sheet 35 = .ok (.getfield 21, 3) := by decide +kernel
theorem dX11_sheet_38 : decode cX11_sheet 38 = .ok (.iload_n 1, 1) := by decide +kernel
theorem dX11_sheet_39 : decode cX11_sheet 39 = .ok (.iload_n 2, 1) := by decide +kernel
theorem dX11_sheet_40 : decode cX11_sheet 40 = .ok (.iastore, 1) := by decide +kernel
theorem dX11_sheet_41 : decode cX11_sheet 41 = .ok (.aload_n 0, 1) := by decide +kernel
theorem dX11_sheet_42 : decode cX11_sheet 42 = .ok (.getfield 24, 3) := by decide +kernel
theorem dX11_sheet_45 : decode cX11_sheet 45 = .ok (.iload_n 1, 1) := by decide +kernel
theorem dX11_sheet_46 : decode cX11_sheet 46 = .ok (.iload_n 3, 1) := by decide +kernel
theorem dX11_sheet_47 : decode cX11_sheet 47 = .ok (.iastore, 1) := by decide +kernel
theorem dX11_sheet_48 : decode cX11_sheet 48 = .ok (.iconst 0, 1) := by decide +kernel
theorem dX11_sheet_49 : decode cX11_sheet 49 = .ok (.istore 4, 2) := by decide +kernel
theorem dX11_sheet_51 : decode cX11_sheet 51 = .ok (.iload 4, 2) := by decide +kernel
theorem dX11_sheet_53 : decode cX11_sheet 53 = .ok (.bipush 24, 2) := by decide +kernel
theorem dX11_sheet_55 : decode cX11_sheet 55 = .ok (.if_icmp .ge 22, 3) := by decide +kernel
theorem dX11_sheet_58 : decode cX11_sheet 58 = .ok (.aload_n 0, 1) := by decide +kernel
theorem dX11_sheet_59 : decode cX11_sheet 59 = .ok (.getfield 17, 3) := by decide +kernel
theorem dX11_sheet_62 : decode cX11_sheet 62 = .ok (.bipush 24, 2) := by decide +kernel
theorem dX11_sheet_64 : decode cX11_sheet 64 = .ok (.iload_n 1, 1) := by decide +kernel
theorem dX11_sheet_65 : decode cX11_sheet 65 = .ok (.imul, 1) := by decide +kernel
theorem dX11_sheet_66 : decode cX11_sheet 66 = .ok (.iload 4, 2) := by decide +kernel
theorem dX11_sheet_68 : decode cX11_sheet 68 = .ok (.iadd, 1) := by decide +kernel
theorem dX11_sheet_69 : decode cX11_sheet 69 = .ok (.lconst 0, 1) := by decide +kernel
theorem dX11_sheet_70 : decode cX11_sheet 70 = .ok (.lastore, 1) := by decide +kernel
theorem dX11_sheet_71 : decode cX11_sheet 71 = .ok (.iinc 4 1, 3) := by decide +kernel
theorem dX11_sheet_74 : decode cX11_sheet 74 = .ok (.goto (-23), 3) := by decide +kernel
theorem dX11_sheet_77 : decode cX11_sheet 77 = .ok (.iload_n 3, 1) := by decide +kernel
theorem dX11_sheet_78 : decode cX11_sheet 78 = .ok (.ireturn, 1) := by decide +kernel
theorem dX11_drop_0 : decode cX11_drop 0 = .ok (.iload_n 1, 1) := by decide +kernel
theorem dX11_drop_1 : decode cX11_drop 1 = .ok (.invokestatic 202, 3) := by decide +kernel
theorem dX11_drop_4 : decode cX11_drop 4 = .ok (.ifCond .ne 5, 3) := by decide +kernel
theorem dX11_drop_7 : decode cX11_drop 7 = .ok (.iconst (-1), 1) := by decide +kernel
theorem dX11_drop_8 : decode cX11_drop 8 = .ok (.ireturn, 1) := by decide +kernel
theorem dX11_drop_9 : decode cX11_drop 9 = .ok (.aload_n 0, 1) := by decide +kernel
theorem dX11_drop_10 : decode cX11_drop 10 = .ok (.getfield 24, 3) := by decide +kernel
theorem dX11_drop_13 : decode cX11_drop 13 = .ok (.iload_n 1, 1) := by decide +kernel
theorem dX11_drop_14 : decode cX11_drop 14 = .ok (.iaload, 1) := by decide +kernel
theorem dX11_drop_15 : decode cX11_drop 15 = .ok (.ifCond .ge 6, 3) := by decide +kernel
theorem dX11_drop_18 : decode cX11_drop 18 = .ok (.bipush (-11), 2) := by decide +kernel
theorem dX11_drop_20 : decode cX11_drop 20 = .ok (.ireturn, 1) := by decide +kernel
theorem dX11_drop_21 : decode cX11_drop 21 = .ok (.aload_n 0, 1) := by decide +kernel
theorem dX11_drop_22 : decode cX11_drop 22 = .ok (.getfield 24, 3) := by decide +kernel
theorem dX11_drop_25 : decode cX11_drop 25 = .ok (.iload_n 1, 1) := by decide +kernel
theorem dX11_drop_26 : decode cX11_drop 26 = .ok (.iaload, 1) := by decide +kernel
theorem dX11_drop_27 : decode cX11_drop 27 = .ok (.istore_n 2, 1) := by decide +kernel
theorem dX11_drop_28 : decode cX11_drop 28 = .ok (.aload_n 0, 1) := by decide +kernel
theorem dX11_drop_29 : decode cX11_drop 29 = .ok (.getfield 24, 3) := by decide +kernel
theorem dX11_drop_32 : decode cX11_drop 32 = .ok (.iload_n 1, 1) := by decide +kernel
theorem dX11_drop_33 : decode cX11_drop 33 = .ok (.iconst (-1), 1) := by decide +kernel
theorem dX11_drop_34 : decode cX11_drop 34 = .ok (.iastore, 1) := by decide +kernel
theorem dX11_drop_35 : decode cX11_drop 35 = .ok (.iload_n 2, 1) := by decide +kernel
theorem dX11_drop_36 : decode cX11_drop 36 = .ok (.ireturn, 1) := by decide +kernel
theorem dX11_against_0 : decode cX11_against 0 = .ok (.aload_n 0, 1) := by decide +kernel
theorem dX11_against_1 : decode cX11_against 1 = .ok (.getfield 24, 3) := by decide +kernel
theorem dX11_against_4 : decode cX11_against 4 = .ok (.iload_n 1, 1) := by decide +kernel
theorem dX11_against_5 : decode cX11_against 5 = .ok (.iaload, 1) := by decide +kernel
theorem dX11_against_6 : decode cX11_against 6 = .ok (.ifCond .ge 6, 3) := by decide +kernel
theorem dX11_against_9 : decode cX11_against 9 = .ok (.bipush (-11), 2) := by decide +kernel
theorem dX11_against_11 : decode cX11_against 11 = .ok (.ireturn, 1) := by decide +kernel
theorem dX11_against_12 : decode cX11_against 12 = .ok (.aload_n 0, 1) := by decide +kernel
theorem dX11_against_13 : decode cX11_against 13 = .ok (.getfield 21, 3) := by decide +kernel
theorem dX11_against_16 : decode cX11_against 16 = .ok (.iload_n 1, 1) := by decide +kernel
theorem dX11_against_17 : decode cX11_against 17 = .ok (.iaload, 1) := by decide +kernel
theorem dX11_against_18 : decode cX11_against 18 = .ok (.iload_n 2, 1) := by decide +kernel
theorem dX11_against_19 : decode cX11_against 19 = .ok (.if_icmp .eq 6, 3) := by decide +kernel
theorem dX11_against_22 : decode cX11_against 22 = .ok (.bipush (-12), 2) := by decide +kernel
theorem dX11_against_24 : decode cX11_against 24 = .ok (.ireturn, 1) := by decide +kernel
theorem dX11_against_25 : decode cX11_against 25 = .ok (.iload_n 3, 1) := by decide +kernel
theorem dX11_against_26 : decode cX11_against 26 = .ok (.ifCond .lt 25, 3) := by decide +kernel
theorem dX11_against_29 : decode cX11_against 29 = .ok (.iload 4, 2) := by decide +kernel
theorem dX11_against_31 : decode cX11_against 31 = .ok (.ifCond .lt 20, 3) := by decide +kernel
theorem dX11_against_34 : decode cX11_against 34 = .ok (.iload_n 3, 1) := by decide +kernel
theorem dX11_against_35 : decode cX11_against 35 = .ok (.i2l, 1) := by decide +kernel
theorem dX11_against_36 : decode cX11_against 36 = .ok (.iload 4, 2) := by decide +kernel
theorem dX11_against_38 : decode cX11_against 38 = .ok (.i2l, 1) := by decide +kernel
theorem dX11_against_39 : decode cX11_against 39 = .ok (.ladd, 1) := by decide +kernel
theorem dX11_against_40 : decode cX11_against 40 = .ok (.aload_n 0, 1) := by decide +kernel
theorem dX11_against_41 : decode cX11_against 41 = .ok (.getfield 24, 3) := by decide +kernel
theorem dX11_against_44 : decode cX11_against 44 = .ok (.iload_n 1, 1) := by decide +kernel
theorem dX11_against_45 : decode cX11_against 45 = .ok (.iaload, 1) := by decide +kernel
theorem dX11_against_46 : decode cX11_against 46 = .ok (.i2l, 1) := by decide +kernel
theorem dX11_against_47 : decode cX11_against 47 = .ok (.lcmp, 1) := by decide +kernel
theorem dX11_against_48 : decode cX11_against 48 = .ok (.ifCond .le 8, 3) := by decide +kernel
theorem dX11_against_51 : decode cX11_against 51 = .ok (.bipush (-13), 2) := by decide +kernel
theorem dX11_against_53 : decode cX11_against 53 = .ok (.goto 4, 3) := by decide +kernel
theorem dX11_against_56 : decode cX11_against 56 = .ok (.iconst 0, 1) := by decide +kernel
theorem dX11_against_57 : decode cX11_against 57 = .ok (.ireturn, 1) := by decide +kernel
theorem dX11_isLane_0 : decode cX11_isLane 0 = .ok (.iload_n 0, 1) := by decide +kernel
theorem dX11_isLane_1 : decode cX11_isLane 1 = .ok (.invokestatic 202, 3) := by decide +kernel
theorem dX11_isLane_4 : decode cX11_isLane 4 = .ok (.ifCond .eq 19, 3) := by decide +kernel
theorem dX11_isLane_7 : decode cX11_isLane 7 = .ok (.iload_n 1, 1) := by decide +kernel
theorem dX11_isLane_8 : decode cX11_isLane 8 = .ok (.i2l, 1) := by decide +kernel
theorem dX11_isLane_9 : decode cX11_isLane 9 = .ok (.lconst 0, 1) := by decide +kernel
theorem dX11_isLane_10 : decode cX11_isLane 10 = .ok (.ldc2_w 169, 3) := by decide +kernel
theorem dX11_isLane_13 : decode cX11_isLane 13 = .ok (.invokestatic 42, 3) := by decide +kernel
theorem dX11_isLane_16 : decode cX11_isLane 16 = .ok (.ifCond .eq 7, 3) := by decide +kernel
theorem dX11_isLane_19 : decode cX11_isLane 19 = .ok (.iconst 1, 1) := by decide +kernel
theorem dX11_isLane_20 : decode cX11_isLane 20 = .ok (.goto 4, 3) := by decide +kernel
theorem dX11_isLane_23 : decode cX11_isLane 23 = .ok (.iconst 0, 1) := by decide +kernel
theorem dX11_isLane_24 : decode cX11_isLane 24 = .ok (.ireturn, 1) := by decide +kernel
theorem dX11_cut_0 : decode cX11_cut 0 = .ok (.iload_n 0, 1) := by decide +kernel
theorem dX11_cut_1 : decode cX11_cut 1 = .ok (.ifCond .ne 10, 3) := by decide +kernel
theorem dX11_cut_4 : decode cX11_cut 4 = .ok (.lload_n 1, 1) := by decide +kernel
theorem dX11_cut_5 : decode cX11_cut 5 = .ok (.l2i, 1) := by decide +kernel
theorem dX11_cut_6 : decode cX11_cut 6 = .ok (.i2b, 1) := by decide +kernel
theorem dX11_cut_7 : decode cX11_cut 7 = .ok (.i2l, 1) := by decide +kernel
theorem dX11_cut_8 : decode cX11_cut 8 = .ok (.goto 27, 3) := by decide +kernel
theorem dX11_cut_11 : decode cX11_cut 11 = .ok (.iload_n 0, 1) := by decide +kernel
theorem dX11_cut_12 : decode cX11_cut 12 = .ok (.iconst 1, 1) := by decide +kernel
theorem dX11_cut_13 : decode cX11_cut 13 = .ok (.if_icmp .ne 10, 3) := by decide +kernel
theorem dX11_cut_16 : decode cX11_cut 16 = .ok (.lload_n 1, 1) := by decide +kernel
theorem dX11_cut_17 : decode cX11_cut 17 = .ok (.l2i, 1) := by decide +kernel
theorem dX11_cut_18 : decode cX11_cut 18 = .ok (.i2s, 1) := by decide +kernel
theorem dX11_cut_19 : decode cX11_cut 19 = .ok (.i2l, 1) := by decide +kernel
theorem dX11_cut_20 : decode cX11_cut 20 = .ok (.goto 15, 3) := by decide +kernel
theorem dX11_cut_23 : decode cX11_cut 23 = .ok (.iload_n 0, 1) := by decide +kernel
theorem dX11_cut_24 : decode cX11_cut 24 = .ok (.iconst 2, 1) := by decide +kernel
theorem dX11_cut_25 : decode cX11_cut 25 = .ok (.if_icmp .ne 9, 3) := by decide +kernel
theorem dX11_cut_28 : decode cX11_cut 28 = .ok (.lload_n 1, 1) := by decide +kernel
theorem dX11_cut_29 : decode cX11_cut 29 = .ok (.l2i, 1) := by decide +kernel
theorem dX11_cut_30 : decode cX11_cut 30 = .ok (.i2l, 1) := by decide +kernel
theorem dX11_cut_31 : decode cX11_cut 31 = .ok (.goto 4, 3) := by decide +kernel
theorem dX11_cut_34 : decode cX11_cut 34 = .ok (.lload_n 1, 1) := by decide +kernel
theorem dX11_cut_35 : decode cX11_cut 35 = .ok (.lreturn, 1) := by decide +kernel
theorem dX11_item_0 : decode cX11_item 0 = .ok (.iload_n 1, 1) := by decide +kernel
theorem dX11_item_1 : decode cX11_item 1 = .ok (.iload_n 2, 1) := by decide +kernel
theorem dX11_item_2 : decode cX11_item 2 = .ok (.invokestatic 205, 3) := by decide +kernel
theorem dX11_item_5 : decode cX11_item 5 = .ok (.ifCond .ne 7, 3) := by decide +kernel
theorem dX11_item_8 : decode cX11_item 8 = .ok (.ldc2_w 185, 3) := by decide +kernel
theorem dX11_item_11 : decode cX11_item 11 = .ok (.lreturn, 1) := by decide +kernel
theorem dX11_item_12 : decode cX11_item 12 = .ok (.aload_n 0, 1) := by decide +kernel
theorem dX11_item_13 : decode cX11_item 13 = .ok (.iload_n 1, 1) := by decide +kernel
theorem dX11_item_14 : decode cX11_item 14 = .ok (.iload_n 2, 1) := by decide +kernel
theorem dX11_item_15 : decode cX11_item 15 = .ok (.iload_n 3, 1) := by decide +kernel
theorem dX11_item_16 : decode cX11_item 16 = .ok (.iconst 1, 1) := by decide +kernel
theorem dX11_item_17 : decode cX11_item 17 = .ok (.invokevirtual 208, 3) := by decide +kernel
theorem dX11_item_20 : decode cX11_item 20 = .ok (.istore 6, 2) := by decide +kernel
theorem dX11_item_22 : decode cX11_item 22 = .ok (.iload 6, 2) := by decide +kernel
theorem dX11_item_24 : decode cX11_item 24 = .ok (.ifCond .ge 7, 3) := by decide +kernel
theorem dX11_item_27 : decode cX11_item 27 = .ok (.iload 6, 2) := by decide +kernel
theorem dX11_item_29 : decode cX11_item 29 = .ok (.i2l, 1) := by decide +kernel
theorem dX11_item_30 : decode cX11_item 30 = .ok (.lreturn, 1) := by decide +kernel
theorem dX11_item_31 : decode cX11_item 31 = .ok (.aload_n 0, 1) := by decide +kernel
theorem dX11_item_32 : decode cX11_item 32 = .ok (.getfield 17, 3) := by decide +kernel
theorem dX11_item_35 : decode cX11_item 35 = .ok (.bipush 24, 2) := by decide +kernel
theorem dX11_item_37 : decode cX11_item 37 = .ok (.iload_n 1, 1) := by decide +kernel
theorem dX11_item_38 : decode cX11_item 38 = .ok (.imul, 1) := by decide +kernel
theorem dX11_item_39 : decode cX11_item 39 = .ok (.iload_n 3, 1) := by decide +kernel
theorem dX11_item_40 : decode cX11_item 40 = .ok (.iadd, 1) := by decide +kernel
theorem dX11_item_41 : decode cX11_item 41 = .ok (.iload_n 2, 1) := by decide +kernel
theorem dX11_item_42 : decode cX11_item 42 = .ok (.lload 4, 2) := by decide +kernel
theorem dX11_item_44 : decode cX11_item 44 = .ok (.invokestatic 212, 3) := by decide +kernel
theorem dX11_item_47 : decode cX11_item 47 = .ok (.lastore, 1) := by decide +kernel
theorem dX11_item_48 : decode cX11_item 48 = .ok (.aload_n 0, 1) := by decide +kernel
theorem dX11_item_49 : decode cX11_item 49 = .ok (.getfield 17, 3) := by decide +kernel
theorem dX11_item_52 : decode cX11_item 52 = .ok (.bipush 24, 2) := by decide +kernel
theorem dX11_item_54 : decode cX11_item 54 = .ok (.iload_n 1, 1) := by decide +kernel
theorem dX11_item_55 : decode cX11_item 55 = .ok (.imul, 1) := by decide +kernel
theorem dX11_item_56 : decode cX11_item 56 = .ok (.iload_n 3, 1) := by decide +kernel
theorem dX11_item_57 : decode cX11_item 57 = .ok (.iadd, 1) := by decide +kernel
theorem dX11_item_58 : decode cX11_item 58 = .ok (.laload, 1) := by decide +kernel
theorem dX11_item_59 : decode cX11_item 59 = .ok (.lreturn, 1) := by decide +kernel
theorem dX11_copy_0 : decode cX11_copy 0 = .ok (.iload_n 1, 1) := by decide +kernel
theorem dX11_copy_1 : decode cX11_copy 1 = .ok (.invokestatic 202, 3) := by decide +kernel
theorem dX11_copy_4 : decode cX11_copy 4 = .ok (.ifCond .eq 10, 3) := by decide +kernel
theorem dX11_copy_7 : decode cX11_copy 7 = .ok (.iload_n 3, 1) := by decide +kernel
theorem dX11_copy_8 : decode cX11_copy 8 = .ok (.invokestatic 202, 3) := by decide +kernel
theorem dX11_copy_11 : decode cX11_copy 11 = .ok (.ifCond .ne 5, 3) := by decide +kernel
theorem dX11_copy_14 : decode cX11_copy 14 = .ok (.iconst (-1), 1) := by decide +kernel
theorem dX11_copy_15 : decode cX11_copy 15 = .ok (.ireturn, 1) := by decide +kernel
theorem dX11_copy_16 : decode cX11_copy 16 = .ok (.aload_n 0, 1) := by decide +kernel
theorem dX11_copy_17 : decode cX11_copy 17 = .ok (.getfield 24, 3) := by decide +kernel
theorem dX11_copy_20 : decode cX11_copy 20 = .ok (.iload_n 1, 1) := by decide +kernel
theorem dX11_copy_21 : decode cX11_copy 21 = .ok (.iaload, 1) := by decide +kernel
theorem dX11_copy_22 : decode cX11_copy 22 = .ok (.ifCond .lt 12, 3) := by decide +kernel
theorem dX11_copy_25 : decode cX11_copy 25 = .ok (.aload_n 0, 1) := by decide +kernel
theorem dX11_copy_26 : decode cX11_copy 26 = .ok (.getfield 24, 3) := by decide +kernel
theorem dX11_copy_29 : decode cX11_copy 29 = .ok (.iload_n 3, 1) := by decide +kernel
theorem dX11_copy_30 : decode cX11_copy 30 = .ok (.iaload, 1) := by decide +kernel
theorem dX11_copy_31 : decode cX11_copy 31 = .ok (.ifCond .ge 6, 3) := by decide +kernel
theorem dX11_copy_34 : decode cX11_copy 34 = .ok (.bipush (-11), 2) := by decide +kernel
theorem dX11_copy_36 : decode cX11_copy 36 = .ok (.ireturn, 1) := by decide +kernel
theorem dX11_copy_37 : decode cX11_copy 37 = .ok (.aload_n 0, 1) := by decide +kernel
theorem dX11_copy_38 : decode cX11_copy 38 = .ok (.getfield 21, 3) := by decide +kernel
theorem dX11_copy_41 : decode cX11_copy 41 = .ok (.iload_n 1, 1) := by decide +kernel
theorem dX11_copy_42 : decode cX11_copy 42 = .ok (.iaload, 1) := by decide +kernel
theorem dX11_copy_43 : decode cX11_copy 43 = .ok (.aload_n 0, 1) := by decide +kernel
theorem dX11_copy_44 : decode cX11_copy 44 = .ok (.getfield 21, 3) := by decide +kernel
theorem dX11_copy_47 : decode cX11_copy 47 = .ok (.iload_n 3, 1) := by decide +kernel
theorem dX11_copy_48 : decode cX11_copy 48 = .ok (.iaload, 1) := by decide +kernel
theorem dX11_copy_49 : decode cX11_copy 49 = .ok (.if_icmp .eq 6, 3) := by decide +kernel
theorem dX11_copy_52 : decode cX11_copy 52 = .ok (.bipush (-12), 2) := by decide +kernel
theorem dX11_copy_54 : decode cX11_copy 54 = .ok (.ireturn, 1) := by decide +kernel
theorem dX11_copy_55 : decode cX11_copy 55 = .ok (.aload_n 0, 1) := by decide +kernel
theorem dX11_copy_56 : decode cX11_copy 56 = .ok (.iload_n 1, 1) := by decide +kernel
theorem dX11_copy_57 : decode cX11_copy 57 = .ok (.aload_n 0, 1) := by decide +kernel
theorem dX11_copy_58 : decode cX11_copy 58 = .ok (.getfield 21, 3) := by decide +kernel
theorem dX11_copy_61 : decode cX11_copy 61 = .ok (.iload_n 1, 1) := by decide +kernel
theorem dX11_copy_62 : decode cX11_copy 62 = .ok (.iaload, 1) := by decide +kernel
end
section
theorem dX11_copy_63 : decode cX11_copy 63 = .ok (.iload_n 2, 1) := by decide +kernel
theorem dX11_copy_64 : decode cX11_copy 64 = .ok (.iload 5, 2) := by decide +kernel
theorem dX11_copy_66 : decode cX11_copy 66 = .ok (.invokevirtual 208, 3) := by decide +kernel
theorem dX11_copy_69 : decode cX11_copy 69 = .ok (.ifCond .lt 21, 3) := by decide +kernel
theorem dX11_copy_72 : decode cX11_copy 72 = .ok (.aload_n 0, 1) := by decide +kernel
theorem dX11_copy_73 : decode cX11_copy 73 = .ok (.iload_n 3, 1) := by decide +kernel
theorem dX11_copy_74 : decode cX11_copy 74 = .ok (.aload_n 0, 1) := by decide +kernel
theorem dX11_copy_75 : decode cX11_copy 75 = .ok (.getfield 21, 3) := by decide +kernel
theorem dX11_copy_78 : decode cX11_copy 78 = .ok (.iload_n 3, 1) := by decide +kernel
theorem dX11_copy_79 : decode cX11_copy 79 = .ok (.iaload, 1) := by decide +kernel
theorem dX11_copy_80 : decode cX11_copy 80 = .ok (.iload 4, 2) := by decide +kernel
theorem dX11_copy_82 : decode cX11_copy 82 = .ok (.iload 5, 2) := by decide +kernel
theorem dX11_copy_84 : decode cX11_copy 84 = .ok (.invokevirtual 208, 3) := by decide +kernel
theorem dX11_copy_87 : decode cX11_copy 87 = .ok (.ifCond .ge 6, 3) := by decide +kernel
theorem dX11_copy_90 : decode cX11_copy 90 = .ok (.bipush (-13), 2) := by decide +kernel
theorem dX11_copy_92 : decode cX11_copy 92 = .ok (.ireturn, 1) := by decide +kernel
theorem dX11_copy_93 : decode cX11_copy 93 = .ok (.iconst 0, 1) := by decide +kernel
theorem dX11_copy_94 : decode cX11_copy 94 = .ok (.istore 6, 2) := by decide +kernel
theorem dX11_copy_96 : decode cX11_copy 96 = .ok (.iload 6, 2) := by decide +kernel
theorem dX11_copy_98 : decode cX11_copy 98 = .ok (.iload 5, 2) := by decide +kernel
theorem dX11_copy_100 : decode cX11_copy 100 = .ok (.if_icmp .ge 30, 3) := by decide +kernel
theorem dX11_copy_103 : decode cX11_copy 103 = .ok (.aload_n 0, 1) := by decide +kernel
theorem dX11_copy_104 : decode cX11_copy 104 = .ok (.getfield 36, 3) := by decide +kernel
theorem dX11_copy_107 : decode cX11_copy 107 = .ok (.iload 6, 2) := by decide +kernel
theorem dX11_copy_109 : decode cX11_copy 109 = .ok (.aload_n 0, 1) := by decide +kernel
theorem dX11_copy_110 : decode cX11_copy 110 = .ok (.getfield 17, 3) := by decide +kernel
theorem dX11_copy_113 : decode cX11_copy 113 = .ok (.bipush 24, 2) := by decide +kernel
theorem dX11_copy_115 : decode cX11_copy 115 = .ok (.iload_n 1, 1) := by decide +kernel
theorem dX11_copy_116 : decode cX11_copy 116 = .ok (.imul, 1) := by decide +kernel
theorem dX11_copy_117 : decode cX11_copy 117 = .ok (.iload_n 2, 1) := by decide +kernel
theorem dX11_copy_118 : decode cX11_copy 118 = .ok (.iadd, 1) := by decide +kernel
theorem dX11_copy_119 : decode cX11_copy 119 = .ok (.iload 6, 2) := by decide +kernel
theorem dX11_copy_121 : decode cX11_copy 121 = .ok (.iadd, 1) := by decide +kernel
theorem dX11_copy_122 : decode cX11_copy 122 = .ok (.laload, 1) := by decide +kernel
theorem dX11_copy_123 : decode cX11_copy 123 = .ok (.lastore, 1) := by decide +kernel
theorem dX11_copy_124 : decode cX11_copy 124 = .ok (.iinc 6 1, 3) := by decide +kernel
theorem dX11_copy_127 : decode cX11_copy 127 = .ok (.goto (-31), 3) := by decide +kernel
theorem dX11_copy_130 : decode cX11_copy 130 = .ok (.iconst 0, 1) := by decide +kernel
theorem dX11_copy_131 : decode cX11_copy 131 = .ok (.istore 6, 2) := by decide +kernel
theorem dX11_copy_133 : decode cX11_copy 133 = .ok (.iload 6, 2) := by decide +kernel
theorem dX11_copy_135 : decode cX11_copy 135 = .ok (.iload 5, 2) := by decide +kernel
theorem dX11_copy_137 : decode cX11_copy 137 = .ok (.if_icmp .ge 31, 3) := by decide +kernel
theorem dX11_copy_140 : decode cX11_copy 140 = .ok (.aload_n 0, 1) := by decide +kernel
theorem dX11_copy_141 : decode cX11_copy 141 = .ok (.getfield 17, 3) := by decide +kernel
theorem dX11_copy_144 : decode cX11_copy 144 = .ok (.bipush 24, 2) := by decide +kernel
theorem dX11_copy_146 : decode cX11_copy 146 = .ok (.iload_n 3, 1) := by decide +kernel
theorem dX11_copy_147 : decode cX11_copy 147 = .ok (.imul, 1) := by decide +kernel
theorem dX11_copy_148 : decode cX11_copy 148 = .ok (.iload 4, 2) := by decide +kernel
theorem dX11_copy_150 : decode cX11_copy 150 = .ok (.iadd, 1) := by decide +kernel
theorem dX11_copy_151 : decode cX11_copy 151 = .ok (.iload 6, 2) := by decide +kernel
theorem dX11_copy_153 : decode cX11_copy 153 = .ok (.iadd, 1) := by decide +kernel
theorem dX11_copy_154 : decode cX11_copy 154 = .ok (.aload_n 0, 1) := by decide +kernel
theorem dX11_copy_155 : decode cX11_copy 155 = .ok (.getfield 36, 3) := by decide +kernel
theorem dX11_copy_158 : decode cX11_copy 158 = .ok (.iload 6, 2) := by decide +kernel
theorem dX11_copy_160 : decode cX11_copy 160 = .ok (.laload, 1) := by decide +kernel
theorem dX11_copy_161 : decode cX11_copy 161 = .ok (.lastore, 1) := by decide +kernel
theorem dX11_copy_162 : decode cX11_copy 162 = .ok (.iinc 6 1, 3) := by decide +kernel
theorem dX11_copy_165 : decode cX11_copy 165 = .ok (.goto (-32), 3) := by decide +kernel
theorem dX11_copy_168 : decode cX11_copy 168 = .ok (.iload 5, 2) := by decide +kernel
theorem dX11_copy_170 : decode cX11_copy 170 = .ok (.ireturn, 1) := by decide +kernel
theorem dX11_film_0 : decode cX11_film 0 = .ok (.aload_n 0, 1) := by decide +kernel
theorem dX11_film_1 : decode cX11_film 1 = .ok (.iload_n 1, 1) := by decide +kernel
theorem dX11_film_2 : decode cX11_film 2 = .ok (.invokevirtual 115, 3) := by decide +kernel
theorem dX11_film_5 : decode cX11_film 5 = .ok (.ifCond .eq 24, 3) := by decide +kernel
theorem dX11_film_8 : decode cX11_film 8 = .ok (.iload_n 2, 1) := by decide +kernel
theorem dX11_film_9 : decode cX11_film 9 = .ok (.i2l, 1) := by decide +kernel
theorem dX11_film_10 : decode cX11_film 10 = .ok (.lconst 1, 1) := by decide +kernel
theorem dX11_film_11 : decode cX11_film 11 = .ok (.ldc2_w 124, 3) := by decide +kernel
theorem dX11_film_14 : decode cX11_film 14 = .ok (.invokestatic 42, 3) := by decide +kernel
theorem dX11_film_17 : decode cX11_film 17 = .ok (.ifCond .eq 12, 3) := by decide +kernel
theorem dX11_film_20 : decode cX11_film 20 = .ok (.iload_n 3, 1) := by decide +kernel
theorem dX11_film_21 : decode cX11_film 21 = .ok (.iload 4, 2) := by decide +kernel
theorem dX11_film_23 : decode cX11_film 23 = .ok (.invokestatic 205, 3) := by decide +kernel
theorem dX11_film_26 : decode cX11_film 26 = .ok (.ifCond .ne 5, 3) := by decide +kernel
theorem dX11_film_29 : decode cX11_film 29 = .ok (.iconst (-1), 1) := by decide +kernel
theorem dX11_film_30 : decode cX11_film 30 = .ok (.ireturn, 1) := by decide +kernel
theorem dX11_film_31 : decode cX11_film 31 = .ok (.aload_n 0, 1) := by decide +kernel
theorem dX11_film_32 : decode cX11_film 32 = .ok (.iload_n 3, 1) := by decide +kernel
theorem dX11_film_33 : decode cX11_film 33 = .ok (.iload 4, 2) := by decide +kernel
theorem dX11_film_35 : decode cX11_film 35 = .ok (.iload 5, 2) := by decide +kernel
theorem dX11_film_37 : decode cX11_film 37 = .ok (.iload_n 2, 1) := by decide +kernel
theorem dX11_film_38 : decode cX11_film 38 = .ok (.invokevirtual 208, 3) := by decide +kernel
theorem dX11_film_41 : decode cX11_film 41 = .ok (.istore 6, 2) := by decide +kernel
theorem dX11_film_43 : decode cX11_film 43 = .ok (.iload 6, 2) := by decide +kernel
theorem dX11_film_45 : decode cX11_film 45 = .ok (.ifCond .ge 6, 3) := by decide +kernel
theorem dX11_film_48 : decode cX11_film 48 = .ok (.iload 6, 2) := by decide +kernel
theorem dX11_film_50 : decode cX11_film 50 = .ok (.ireturn, 1) := by decide +kernel
theorem dX11_film_51 : decode cX11_film 51 = .ok (.aload_n 0, 1) := by decide +kernel
theorem dX11_film_52 : decode cX11_film 52 = .ok (.iconst 0, 1) := by decide +kernel
theorem dX11_film_53 : decode cX11_film 53 = .ok (.sipush 219, 3) := by decide +kernel
theorem dX11_film_56 : decode cX11_film 56 = .ok (.invokevirtual 90, 3) := by decide +kernel
theorem dX11_film_59 : decode cX11_film 59 = .ok (.iconst 0, 1) := by decide +kernel
theorem dX11_film_60 : decode cX11_film 60 = .ok (.istore 7, 2) := by decide +kernel
theorem dX11_film_62 : decode cX11_film 62 = .ok (.iload 7, 2) := by decide +kernel
theorem dX11_film_64 : decode cX11_film 64 = .ok (.iload_n 2, 1) := by decide +kernel
theorem dX11_film_65 : decode cX11_film 65 = .ok (.if_icmp .ge 47, 3) := by decide +kernel
theorem dX11_film_68 : decode cX11_film 68 = .ok (.aload_n 0, 1) := by decide +kernel
theorem dX11_film_69 : decode cX11_film 69 = .ok (.sipush 219, 3) := by decide +kernel
theorem dX11_film_72 : decode cX11_film 72 = .ok (.invokevirtual 129, 3) := by decide +kernel
theorem dX11_film_75 : decode cX11_film 75 = .ok (.aload_n 0, 1) := by decide +kernel
theorem dX11_film_76 : decode cX11_film 76 = .ok (.getfield 17, 3) := by decide +kernel
theorem dX11_film_79 : decode cX11_film 79 = .ok (.bipush 24, 2) := by decide +kernel
theorem dX11_film_81 : decode cX11_film 81 = .ok (.iload_n 3, 1) := by decide +kernel
theorem dX11_film_82 : decode cX11_film 82 = .ok (.imul, 1) := by decide +kernel
theorem dX11_film_83 : decode cX11_film 83 = .ok (.iload 5, 2) := by decide +kernel
theorem dX11_film_85 : decode cX11_film 85 = .ok (.iadd, 1) := by decide +kernel
theorem dX11_film_86 : decode cX11_film 86 = .ok (.iload 7, 2) := by decide +kernel
theorem dX11_film_88 : decode cX11_film 88 = .ok (.iadd, 1) := by decide +kernel
theorem dX11_film_89 : decode cX11_film 89 = .ok (.iload 4, 2) := by decide +kernel
theorem dX11_film_91 : decode cX11_film 91 = .ok (.aload_n 0, 1) := by decide +kernel
theorem dX11_film_92 : decode cX11_film 92 = .ok (.getfield 7, 3) := by decide +kernel
theorem dX11_film_95 : decode cX11_film 95 = .ok (.sipush 256, 3) := by decide +kernel
theorem dX11_film_98 : decode cX11_film 98 = .ok (.iload_n 1, 1) := by decide +kernel
theorem dX11_film_99 : decode cX11_film 99 = .ok (.iadd, 1) := by decide +kernel
theorem dX11_film_100 : decode cX11_film 100 = .ok (.iaload, 1) := by decide +kernel
theorem dX11_film_101 : decode cX11_film 101 = .ok (.i2l, 1) := by decide +kernel
theorem dX11_film_102 : decode cX11_film 102 = .ok (.invokestatic 212, 3) := by decide +kernel
theorem dX11_film_105 : decode cX11_film 105 = .ok (.lastore, 1) := by decide +kernel
theorem dX11_film_106 : decode cX11_film 106 = .ok (.iinc 7 1, 3) := by decide +kernel
theorem dX11_film_109 : decode cX11_film 109 = .ok (.goto (-47), 3) := by decide +kernel
theorem dX11_film_112 : decode cX11_film 112 = .ok (.iload_n 2, 1) := by decide +kernel
theorem dX11_film_113 : decode cX11_film 113 = .ok (.ireturn, 1) := by decide +kernel
theorem dX11_areWithin_0 : decode cX11_areWithin 0 = .ok (.iconst 1, 1) := by decide +kernel
theorem dX11_areWithin_1 : decode cX11_areWithin 1 = .ok (.istore 4, 2) := by decide +kernel
theorem dX11_areWithin_3 : decode cX11_areWithin 3 = .ok (.iconst 0, 1) := by decide +kernel
theorem dX11_areWithin_4 : decode cX11_areWithin 4 = .ok (.istore 5, 2) := by decide +kernel
theorem dX11_areWithin_6 : decode cX11_areWithin 6 = .ok (.iload 5, 2) := by decide +kernel
theorem dX11_areWithin_8 : decode cX11_areWithin 8 = .ok (.iload_n 2, 1) := by decide +kernel
theorem dX11_areWithin_9 : decode cX11_areWithin 9 = .ok (.if_icmp .ge 39, 3) := by decide +kernel
theorem dX11_areWithin_12 : decode cX11_areWithin 12 = .ok (.iload 4, 2) := by decide +kernel
theorem dX11_areWithin_14 : decode cX11_areWithin 14 = .ok (.ifCond .eq 25, 3) := by decide +kernel
theorem dX11_areWithin_17 : decode cX11_areWithin 17 = .ok (.aload_n 0, 1) := by decide +kernel
theorem dX11_areWithin_18 : decode cX11_areWithin 18 = .ok (.getfield 17, 3) := by decide +kernel
theorem dX11_areWithin_21 : decode cX11_areWithin 21 = .ok (.iload_n 1, 1) := by decide +kernel
theorem dX11_areWithin_22 : decode cX11_areWithin 22 = .ok (.iload 5, 2) := by decide +kernel
theorem dX11_areWithin_24 : decode cX11_areWithin 24 = .ok (.iadd, 1) := by decide +kernel
theorem dX11_areWithin_25 : decode cX11_areWithin 25 = .ok (.laload, 1) := by decide +kernel
theorem dX11_areWithin_26 : decode cX11_areWithin 26 = .ok (.lconst 0, 1) := by decide +kernel
theorem dX11_areWithin_27 : decode cX11_areWithin 27 = .ok (.iload_n 3, 1) := by decide +kernel
theorem dX11_areWithin_28 : decode cX11_areWithin 28 = .ok (.i2l, 1) := by decide +kernel
theorem dX11_areWithin_29 : decode cX11_areWithin 29 = .ok (.invokestatic 42, 3) := by decide +kernel
theorem dX11_areWithin_32 : decode cX11_areWithin 32 = .ok (.ifCond .eq 7, 3) := by decide +kernel
theorem dX11_areWithin_35 : decode cX11_areWithin 35 = .ok (.iconst 1, 1) := by decide +kernel
theorem dX11_areWithin_36 : decode cX11_areWithin 36 = .ok (.goto 4, 3) := by decide +kernel
theorem dX11_areWithin_39 : decode cX11_areWithin 39 = .ok (.iconst 0, 1) := by decide +kernel
theorem dX11_areWithin_40 : decode cX11_areWithin 40 = .ok (.istore 4, 2) := by decide +kernel
theorem dX11_areWithin_42 : decode cX11_areWithin 42 = .ok (.iinc 5 1, 3) := by decide +kernel
theorem dX11_areWithin_45 : decode cX11_areWithin 45 = .ok (.goto (-39), 3) := by decide +kernel
theorem dX11_areWithin_48 : decode cX11_areWithin 48 = .ok (.iload 4, 2) := by decide +kernel
theorem dX11_areWithin_50 : decode cX11_areWithin 50 = .ok (.ireturn, 1) := by decide +kernel
theorem dX11_off_0 : decode cX11_off 0 = .ok (.lload_n 0, 1) := by decide +kernel
theorem dX11_off_1 : decode cX11_off 1 = .ok (.lload_n 2, 1) := by decide +kernel
theorem dX11_off_2 : decode cX11_off 2 = .ok (.lcmp, 1) := by decide +kernel
theorem dX11_off_3 : decode cX11_off 3 = .ok (.ifCond .ge 9, 3) := by decide +kernel
theorem dX11_off_6 : decode cX11_off 6 = .ok (.lload_n 2, 1) := by decide +kernel
theorem dX11_off_7 : decode cX11_off 7 = .ok (.lload_n 0, 1) := by decide +kernel
theorem dX11_off_8 : decode cX11_off 8 = .ok (.lsub, 1) := by decide +kernel
theorem dX11_off_9 : decode cX11_off 9 = .ok (.goto 6, 3) := by decide +kernel
theorem dX11_off_12 : decode cX11_off 12 = .ok (.lload_n 0, 1) := by decide +kernel
theorem dX11_off_13 : decode cX11_off 13 = .ok (.lload_n 2, 1) := by decide +kernel
theorem dX11_off_14 : decode cX11_off 14 = .ok (.lsub, 1) := by decide +kernel
theorem dX11_off_15 : decode cX11_off 15 = .ok (.l2i, 1) := by decide +kernel
theorem dX11_off_16 : decode cX11_off 16 = .ok (.ireturn, 1) := by decide +kernel
theorem dX11_wayOf_0 : decode cX11_wayOf 0 = .ok (.aload_n 0, 1) := by decide +kernel
theorem dX11_wayOf_1 : decode cX11_wayOf 1 = .ok (.getfield 17, 3) := by decide +kernel
theorem dX11_wayOf_4 : decode cX11_wayOf 4 = .ok (.iload_n 1, 1) := by decide +kernel
theorem dX11_wayOf_5 : decode cX11_wayOf 5 = .ok (.iconst 2, 1) := by decide +kernel
theorem dX11_wayOf_6 : decode cX11_wayOf 6 = .ok (.iload_n 2, 1) := by decide +kernel
theorem dX11_wayOf_7 : decode cX11_wayOf 7 = .ok (.imul, 1) := by decide +kernel
theorem dX11_wayOf_8 : decode cX11_wayOf 8 = .ok (.iadd, 1) := by decide +kernel
theorem dX11_wayOf_9 : decode cX11_wayOf 9 = .ok (.laload, 1) := by decide +kernel
theorem dX11_wayOf_10 : decode cX11_wayOf 10 = .ok (.aload_n 0, 1) := by decide +kernel
theorem dX11_wayOf_11 : decode cX11_wayOf 11 = .ok (.getfield 17, 3) := by decide +kernel
theorem dX11_wayOf_14 : decode cX11_wayOf 14 = .ok (.iload_n 1, 1) := by decide +kernel
theorem dX11_wayOf_15 : decode cX11_wayOf 15 = .ok (.iconst 2, 1) := by decide +kernel
theorem dX11_wayOf_16 : decode cX11_wayOf 16 = .ok (.iload_n 3, 1) := by decide +kernel
theorem dX11_wayOf_17 : decode cX11_wayOf 17 = .ok (.imul, 1) := by decide +kernel
theorem dX11_wayOf_18 : decode cX11_wayOf 18 = .ok (.iadd, 1) := by decide +kernel
theorem dX11_wayOf_19 : decode cX11_wayOf 19 = .ok (.laload, 1) := by decide +kernel
theorem dX11_wayOf_20 : decode cX11_wayOf 20 = .ok (.invokestatic 216, 3) := by decide +kernel
theorem dX11_wayOf_23 : decode cX11_wayOf 23 = .ok (.aload_n 0, 1) := by decide +kernel
theorem dX11_wayOf_24 : decode cX11_wayOf 24 = .ok (.getfield 17, 3) := by decide +kernel
theorem dX11_wayOf_27 : decode cX11_wayOf 27 = .ok (.iload_n 1, 1) := by decide +kernel
theorem dX11_wayOf_28 : decode cX11_wayOf 28 = .ok (.iconst 2, 1) := by decide +kernel
theorem dX11_wayOf_29 : decode cX11_wayOf 29 = .ok (.iload_n 2, 1) := by decide +kernel
theorem dX11_wayOf_30 : decode cX11_wayOf 30 = .ok (.imul, 1) := by decide +kernel
theorem dX11_wayOf_31 : decode cX11_wayOf 31 = .ok (.iadd, 1) := by decide +kernel
theorem dX11_wayOf_32 : decode cX11_wayOf 32 = .ok (.iconst 1, 1) := by decide +kernel
theorem dX11_wayOf_33 : decode cX11_wayOf 33 = .ok (.iadd, 1) := by decide +kernel
theorem dX11_wayOf_34 : decode cX11_wayOf 34 = .ok (.laload, 1) := by decide +kernel
theorem dX11_wayOf_35 : decode cX11_wayOf 35 = .ok (.aload_n 0, 1) := by decide +kernel
theorem dX11_wayOf_36 : decode cX11_wayOf 36 = .ok (.getfield 17, 3) := by decide +kernel
theorem dX11_wayOf_39 : decode cX11_wayOf 39 = .ok (.iload_n 1, 1) := by decide +kernel
theorem dX11_wayOf_40 : decode cX11_wayOf 40 = .ok (.iconst 2, 1) := by decide +kernel
theorem dX11_wayOf_41 : decode cX11_wayOf 41 = .ok (.iload_n 3, 1) := by decide +kernel
theorem dX11_wayOf_42 : decode cX11_wayOf 42 = .ok (.imul, 1) := by decide +kernel
theorem dX11_wayOf_43 : decode cX11_wayOf 43 = .ok (.iadd, 1) := by decide +kernel
theorem dX11_wayOf_44 : decode cX11_wayOf 44 = .ok (.iconst 1, 1) := by decide +kernel
theorem dX11_wayOf_45 : decode cX11_wayOf 45 = .ok (.iadd, 1) := by decide +kernel
theorem dX11_wayOf_46 : decode cX11_wayOf 46 = .ok (.laload, 1) := by decide +kernel
theorem dX11_wayOf_47 : decode cX11_wayOf 47 = .ok (.invokestatic 216, 3) := by decide +kernel
theorem dX11_wayOf_50 : decode cX11_wayOf 50 = .ok (.iadd, 1) := by decide +kernel
theorem dX11_wayOf_51 : decode cX11_wayOf 51 = .ok (.ireturn, 1) := by decide +kernel
theorem dX11_layWays_0 : decode cX11_layWays 0 = .ok (.iconst 1, 1) := by decide +kernel
theorem dX11_layWays_1 : decode cX11_layWays 1 = .ok (.iload_n 2, 1) := by decide +kernel
theorem dX11_layWays_2 : decode cX11_layWays 2 = .ok (.iconst 1, 1) := by decide +kernel
theorem dX11_layWays_3 : decode cX11_layWays 3 = .ok (.isub, 1) := by decide +kernel
theorem dX11_layWays_4 : decode cX11_layWays 4 = .ok (.ishl, 1) := by decide +kernel
theorem dX11_layWays_5 : decode cX11_layWays 5 = .ok (.istore_n 3, 1) := by decide +kernel
theorem dX11_layWays_6 : decode cX11_layWays 6 = .ok (.iconst 1, 1) := by decide +kernel
theorem dX11_layWays_7 : decode cX11_layWays 7 = .ok (.istore 4, 2) := by decide +kernel
theorem dX11_layWays_9 : decode cX11_layWays 9 = .ok (.iload 4, 2) := by decide +kernel
theorem dX11_layWays_11 : decode cX11_layWays 11 = .ok (.iload_n 3, 1) := by decide +kernel
theorem dX11_layWays_12 : decode cX11_layWays 12 = .ok (.if_icmp .ge 166, 3) := by decide +kernel
theorem dX11_layWays_15 : decode cX11_layWays 15 = .ok (.iconst 1, 1) := by decide +kernel
theorem dX11_layWays_16 : decode cX11_layWays 16 = .ok (.istore 5, 2) := by decide +kernel
theorem dX11_layWays_18 : decode cX11_layWays 18 = .ok (.iload 5, 2) := by decide +kernel
theorem dX11_layWays_20 : decode cX11_layWays 20 = .ok (.iload_n 2, 1) := by decide +kernel
theorem dX11_layWays_21 : decode cX11_layWays 21 = .ok (.if_icmp .ge 151, 3) := by decide +kernel
theorem dX11_layWays_24 : decode cX11_layWays 24 = .ok (.iload 4, 2) := by decide +kernel
theorem dX11_layWays_26 : decode cX11_layWays 26 = .ok (.iconst 1, 1) := by decide +kernel
theorem dX11_layWays_27 : decode cX11_layWays 27 = .ok (.iload 5, 2) := by decide +kernel
theorem dX11_layWays_29 : decode cX11_layWays 29 = .ok (.iconst 1, 1) := by decide +kernel
theorem dX11_layWays_30 : decode cX11_layWays 30 = .ok (.isub, 1) := by decide +kernel
theorem dX11_layWays_31 : decode cX11_layWays 31 = .ok (.ishl, 1) := by decide +kernel
theorem dX11_layWays_32 : decode cX11_layWays 32 = .ok (.iconst (-1), 1) := by decide +kernel
theorem dX11_layWays_33 : decode cX11_layWays 33 = .ok (.ixor, 1) := by decide +kernel
theorem dX11_layWays_34 : decode cX11_layWays 34 = .ok (.iand, 1) := by decide +kernel
theorem dX11_layWays_35 : decode cX11_layWays 35 = .ok (.istore 6, 2) := by decide +kernel
theorem dX11_layWays_37 : decode cX11_layWays 37 = .ok (.iload 6, 2) := by decide +kernel
theorem dX11_layWays_39 : decode cX11_layWays 39 = .ok (.ifCond .ne 14, 3) := by decide +kernel
theorem dX11_layWays_42 : decode cX11_layWays 42 = .ok (.aload_n 0, 1) := by decide +kernel
theorem dX11_layWays_43 : decode cX11_layWays 43 = .ok (.iload_n 1, 1) := by decide +kernel
theorem dX11_layWays_44 : decode cX11_layWays 44 = .ok (.iconst 0, 1) := by decide +kernel
theorem dX11_layWays_45 : decode cX11_layWays 45 = .ok (.iload 5, 2) := by decide +kernel
theorem dX11_layWays_47 : decode cX11_layWays 47 = .ok (.invokevirtual 220, 3) := by decide +kernel
theorem dX11_layWays_50 : decode cX11_layWays 50 = .ok (.goto 5, 3) := by decide +kernel
theorem dX11_layWays_53 : decode cX11_layWays 53 = .ok (.ldc 146, 2) := by decide +kernel
theorem dX11_layWays_55 : decode cX11_layWays 55 = .ok (.istore 7, 2) := by decide +kernel
theorem dX11_layWays_57 : decode cX11_layWays 57 = .ok (.iconst 1, 1) := by decide +kernel
theorem dX11_layWays_58 : decode cX11_layWays 58 = .ok (.istore 8, 2) := by decide +kernel
theorem dX11_layWays_60 : decode cX11_layWays 60 = .ok (.iload 8, 2) := by decide +kernel
theorem dX11_layWays_62 : decode cX11_layWays 62 = .ok (.iload_n 2, 1) := by decide +kernel
theorem dX11_layWays_63 : decode cX11_layWays 63 = .ok (.if_icmp .ge 69, 3) := by decide +kernel
theorem dX11_layWays_66 : decode cX11_layWays 66 = .ok (.iload 6, 2) := by decide +kernel
theorem dX11_layWays_68 : decode cX11_layWays 68 = .ok (.iload 8, 2) := by decide +kernel
theorem dX11_layWays_70 : decode cX11_layWays 70 = .ok (.iconst 1, 1) := by decide +kernel
theorem dX11_layWays_71 : decode cX11_layWays 71 = .ok (.isub, 1) := by decide +kernel
theorem dX11_layWays_72 : decode cX11_layWays 72 = .ok (.invokestatic 156, 3) := by decide +kernel
theorem dX11_layWays_75 : decode cX11_layWays 75 = .ok (.ifCond .eq 31, 3) := by decide +kernel
theorem dX11_layWays_78 : decode cX11_layWays 78 = .ok (.aload_n 0, 1) := by decide +kernel
theorem dX11_layWays_79 : decode cX11_layWays 79 = .ok (.getfield 39, 3) := by decide +kernel
theorem dX11_layWays_82 : decode cX11_layWays 82 = .ok (.bipush 7, 2) := by decide +kernel
theorem dX11_layWays_84 : decode cX11_layWays 84 = .ok (.iload 6, 2) := by decide +kernel
theorem dX11_layWays_86 : decode cX11_layWays 86 = .ok (.imul, 1) := by decide +kernel
theorem dX11_layWays_87 : decode cX11_layWays 87 = .ok (.iload 8, 2) := by decide +kernel
theorem dX11_layWays_89 : decode cX11_layWays 89 = .ok (.iadd, 1) := by decide +kernel
theorem dX11_layWays_90 : decode cX11_layWays 90 = .ok (.iconst 1, 1) := by decide +kernel
theorem dX11_layWays_91 : decode cX11_layWays 91 = .ok (.isub, 1) := by decide +kernel
theorem dX11_layWays_92 : decode cX11_layWays 92 = .ok (.iaload, 1) := by decide +kernel
theorem dX11_layWays_93 : decode cX11_layWays 93 = .ok (.aload_n 0, 1) := by decide +kernel
theorem dX11_layWays_94 : decode cX11_layWays 94 = .ok (.iload_n 1, 1) := by decide +kernel
theorem dX11_layWays_95 : decode cX11_layWays 95 = .ok (.iload 8, 2) := by decide +kernel
theorem dX11_layWays_97 : decode cX11_layWays 97 = .ok (.iload 5, 2) := by decide +kernel
theorem dX11_layWays_99 : decode cX11_layWays 99 = .ok (.invokevirtual 220, 3) := by decide +kernel
theorem dX11_layWays_102 : decode cX11_layWays 102 = .ok (.iadd, 1) := by decide +kernel
theorem dX11_layWays_103 : decode cX11_layWays 103 = .ok (.goto 5, 3) := by decide +kernel
theorem dX11_layWays_106 : decode cX11_layWays 106 = .ok (.ldc 146, 2) := by decide +kernel
theorem dX11_layWays_108 : decode cX11_layWays 108 = .ok (.istore 9, 2) := by decide +kernel
theorem dX11_layWays_110 : decode cX11_layWays 110 = .ok (.iload 9, 2) := by decide +kernel
theorem dX11_layWays_112 : decode cX11_layWays 112 = .ok (.iload 7, 2) := by decide +kernel
theorem dX11_layWays_114 : decode cX11_layWays 114 = .ok (.if_icmp .ge 8, 3) := by decide +kernel
theorem dX11_layWays_117 : decode cX11_layWays 117 = .ok (.iload 9, 2) := by decide +kernel
theorem dX11_layWays_119 : decode cX11_layWays 119 = .ok (.goto 5, 3) := by decide +kernel
theorem dX11_layWays_122 : decode cX11_layWays 122 = .ok (.iload 7, 2) := by decide +kernel
theorem dX11_layWays_124 : decode cX11_layWays 124 = .ok (.istore 7, 2) := by decide +kernel
theorem dX11_layWays_126 : decode cX11_layWays 126 = .ok (.iinc 8 1, 3) := by decide +kernel
theorem dX11_layWays_129 : decode cX11_layWays 129 = .ok (.goto (-69), 3) := by decide +kernel
theorem dX11_layWays_132 : decode cX11_layWays 132 = .ok (.aload_n 0, 1) := by decide +kernel
theorem dX11_layWays_133 : decode cX11_layWays 133 = .ok (.getfield 39, 3) := by decide +kernel
theorem dX11_layWays_136 : decode cX11_layWays 136 = .ok (.bipush 7, 2) := by decide +kernel
theorem dX11_layWays_138 : decode cX11_layWays 138 = .ok (.iload 4, 2) := by decide +kernel
theorem dX11_layWays_140 : decode cX11_layWays 140 = .ok (.imul, 1) := by decide +kernel
theorem dX11_layWays_141 : decode cX11_layWays 141 = .ok (.iload 5, 2) := by decide +kernel
theorem dX11_layWays_143 : decode cX11_layWays 143 = .ok (.iadd, 1) := by decide +kernel
theorem dX11_layWays_144 : decode cX11_layWays 144 = .ok (.iconst 1, 1) := by decide +kernel
theorem dX11_layWays_145 : decode cX11_layWays 145 = .ok (.isub, 1) := by decide +kernel
theorem dX11_layWays_146 : decode cX11_layWays 146 = .ok (.iload 4, 2) := by decide +kernel
theorem dX11_layWays_148 : decode cX11_layWays 148 = .ok (.iload 5, 2) := by decide +kernel
theorem dX11_layWays_150 : decode cX11_layWays 150 = .ok (.iconst 1, 1) := by decide +kernel
theorem dX11_layWays_151 : decode cX11_layWays 151 = .ok (.isub, 1) := by decide +kernel
theorem dX11_layWays_152 : decode cX11_layWays 152 = .ok (.invokestatic 156, 3) := by decide +kernel
theorem dX11_layWays_155 : decode cX11_layWays 155 = .ok (.ifCond .eq 8, 3) := by decide +kernel
theorem dX11_layWays_158 : decode cX11_layWays 158 = .ok (.iload 7, 2) := by decide +kernel
theorem dX11_layWays_160 : decode cX11_layWays 160 = .ok (.goto 5, 3) := by decide +kernel
theorem dX11_layWays_163 : decode cX11_layWays 163 = .ok (.ldc 146, 2) := by decide +kernel
theorem dX11_layWays_165 : decode cX11_layWays 165 = .ok (.iastore, 1) := by decide +kernel
theorem dX11_layWays_166 : decode cX11_layWays 166 = .ok (.iinc 5 1, 3) := by decide +kernel
theorem dX11_layWays_169 : decode cX11_layWays 169 = .ok (.goto (-151), 3) := by decide +kernel
theorem dX11_layWays_172 : decode cX11_layWays 172 = .ok (.iinc 4 1, 3) := by decide +kernel
theorem dX11_layWays_175 : decode cX11_layWays 175 = .ok (.goto (-166), 3) := by decide +kernel
theorem dX11_layWays_178 : decode cX11_layWays 178 = .ok (.return_, 1) := by decide +kernel
theorem dX11_round_0 : decode cX11_round 0 = .ok (.iload_n 1, 1) := by decide +kernel
theorem dX11_round_1 : decode cX11_round 1 = .ok (.iload_n 2, 1) := by decide +kernel
theorem dX11_round_2 : decode cX11_round 2 = .ok (.invokestatic 205, 3) := by decide +kernel
theorem dX11_round_5 : decode cX11_round 5 = .ok (.ifCond .eq 29, 3) := by decide +kernel
theorem dX11_round_8 : decode cX11_round 8 = .ok (.iload 4, 2) := by decide +kernel
theorem dX11_round_10 : decode cX11_round 10 = .ok (.i2l, 1) := by decide +kernel
theorem dX11_round_11 : decode cX11_round 11 = .ok (.ldc2_w 120, 3) := by decide +kernel
theorem dX11_round_14 : decode cX11_round 14 = .ok (.ldc2_w 223, 3) := by decide +kernel
theorem dX11_round_17 : decode cX11_round 17 = .ok (.invokestatic 42, 3) := by decide +kernel
theorem dX11_round_20 : decode cX11_round 20 = .ok (.ifCond .eq 14, 3) := by decide +kernel
theorem dX11_round_23 : decode cX11_round 23 = .ok (.iload 5, 2) := by decide +kernel
theorem dX11_round_25 : decode cX11_round 25 = .ok (.i2l, 1) := by decide +kernel
theorem dX11_round_26 : decode cX11_round 26 = .ok (.lconst 0, 1) := by decide +kernel
theorem dX11_round_27 : decode cX11_round 27 = .ok (.lconst 1, 1) := by decide +kernel
theorem dX11_round_28 : decode cX11_round 28 = .ok (.invokestatic 42, 3) := by decide +kernel
theorem dX11_round_31 : decode cX11_round 31 = .ok (.ifCond .ne 5, 3) := by decide +kernel
theorem dX11_round_34 : decode cX11_round 34 = .ok (.iconst (-1), 1) := by decide +kernel
theorem dX11_round_35 : decode cX11_round 35 = .ok (.ireturn, 1) := by decide +kernel
theorem dX11_round_36 : decode cX11_round 36 = .ok (.aload_n 0, 1) := by decide +kernel
theorem dX11_round_37 : decode cX11_round 37 = .ok (.iload_n 1, 1) := by decide +kernel
theorem dX11_round_38 : decode cX11_round 38 = .ok (.iload_n 2, 1) := by decide +kernel
theorem dX11_round_39 : decode cX11_round 39 = .ok (.iload_n 3, 1) := by decide +kernel
theorem dX11_round_40 : decode cX11_round 40 = .ok (.iconst 2, 1) := by decide +kernel
theorem dX11_round_41 : decode cX11_round 41 = .ok (.iload 4, 2) := by decide +kernel
theorem dX11_round_43 : decode cX11_round 43 = .ok (.imul, 1) := by decide +kernel
theorem dX11_round_44 : decode cX11_round 44 = .ok (.invokevirtual 208, 3) := by decide +kernel
theorem dX11_round_47 : decode cX11_round 47 = .ok (.istore 6, 2) := by decide +kernel
theorem dX11_round_49 : decode cX11_round 49 = .ok (.iload 6, 2) := by decide +kernel
theorem dX11_round_51 : decode cX11_round 51 = .ok (.ifCond .ge 6, 3) := by decide +kernel
theorem dX11_round_54 : decode cX11_round 54 = .ok (.iload 6, 2) := by decide +kernel
theorem dX11_round_56 : decode cX11_round 56 = .ok (.ireturn, 1) := by decide +kernel
theorem dX11_round_57 : decode cX11_round 57 = .ok (.bipush 24, 2) := by decide +kernel
theorem dX11_round_59 : decode cX11_round 59 = .ok (.iload_n 1, 1) := by decide +kernel
theorem dX11_round_60 : decode cX11_round 60 = .ok (.imul, 1) := by decide +kernel
theorem dX11_round_61 : decode cX11_round 61 = .ok (.iload_n 3, 1) := by decide +kernel
theorem dX11_round_62 : decode cX11_round 62 = .ok (.iadd, 1) := by decide +kernel
theorem dX11_round_63 : decode cX11_round 63 = .ok (.istore 7, 2) := by decide +kernel
theorem dX11_round_65 : decode cX11_round 65 = .ok (.aload_n 0, 1) := by decide +kernel
theorem dX11_round_66 : decode cX11_round 66 = .ok (.iload 7, 2) := by decide +kernel
theorem dX11_round_68 : decode cX11_round 68 = .ok (.iconst 2, 1) := by decide +kernel
theorem dX11_round_69 : decode cX11_round 69 = .ok (.iload 4, 2) := by decide +kernel
theorem dX11_round_71 : decode cX11_round 71 = .ok (.imul, 1) := by decide +kernel
theorem dX11_round_72 : decode cX11_round 72 = .ok (.bipush 99, 2) := by decide +kernel
theorem dX11_round_74 : decode cX11_round 74 = .ok (.invokevirtual 225, 3) := by decide +kernel
theorem dX11_round_77 : decode cX11_round 77 = .ok (.ifCond .ne 6, 3) := by decide +kernel
theorem dX11_round_80 : decode cX11_round 80 = .ok (.bipush (-2), 2) := by decide +kernel
theorem dX11_round_82 : decode cX11_round 82 = .ok (.ireturn, 1) := by decide +kernel
theorem dX11_round_83 : decode cX11_round 83 = .ok (.aload_n 0, 1) := by decide +kernel
theorem dX11_round_84 : decode cX11_round 84 = .ok (.iload 7, 2) := by decide +kernel
theorem dX11_round_86 : decode cX11_round 86 = .ok (.iload 4, 2) := by decide +kernel
theorem dX11_round_88 : decode cX11_round 88 = .ok (.invokevirtual 228, 3) := by decide +kernel
theorem dX11_round_91 : decode cX11_round 91 = .ok (.iconst 1, 1) := by decide +kernel
theorem dX11_round_92 : decode cX11_round 92 = .ok (.iload 4, 2) := by decide +kernel
theorem dX11_round_94 : decode cX11_round 94 = .ok (.iconst 1, 1) := by decide +kernel
theorem dX11_round_95 : decode cX11_round 95 = .ok (.isub, 1) := by decide +kernel
theorem dX11_round_96 : decode cX11_round 96 = .ok (.ishl, 1) := by decide +kernel
theorem dX11_round_97 : decode cX11_round 97 = .ok (.iconst 1, 1) := by decide +kernel
theorem dX11_round_98 : decode cX11_round 98 = .ok (.isub, 1) := by decide +kernel
theorem dX11_round_99 : decode cX11_round 99 = .ok (.istore 8, 2) := by decide +kernel
theorem dX11_round_101 : decode cX11_round 101 = .ok (.ldc 146, 2) := by decide +kernel
theorem dX11_round_103 : decode cX11_round 103 = .ok (.istore 9, 2) := by decide +kernel
theorem dX11_round_105 : decode cX11_round 105 = .ok (.iconst 0, 1) := by decide +kernel
theorem dX11_round_106 : decode cX11_round 106 = .ok (.istore 10, 2) := by decide +kernel
theorem dX11_round_108 : decode cX11_round 108 = .ok (.iconst 1, 1) := by decide +kernel
theorem dX11_round_109 : decode cX11_round 109 = .ok (.istore 11, 2) := by decide +kernel
theorem dX11_round_111 : decode cX11_round 111 = .ok (.iload 11, 2) := by decide +kernel
theorem dX11_round_113 : decode cX11_round 113 = .ok (.iload 4, 2) := by decide +kernel
theorem dX11_round_115 : decode cX11_round 115 = .ok (.if_icmp .ge 68, 3) := by decide +kernel
theorem dX11_round_118 : decode cX11_round 118 = .ok (.aload_n 0, 1) := by decide +kernel
theorem dX11_round_119 : decode cX11_round 119 = .ok (.getfield 39, 3) := by decide +kernel
theorem dX11_round_122 : decode cX11_round 122 = .ok (.bipush 7, 2) := by decide +kernel
theorem dX11_round_124 : decode cX11_round 124 = .ok (.iload 8, 2) := by decide +kernel
theorem dX11_round_126 : decode cX11_round 126 = .ok (.imul, 1) := by decide +kernel
theorem dX11_round_127 : decode cX11_round 127 = .ok (.iload 11, 2) := by decide +kernel
theorem dX11_round_129 : decode cX11_round 129 = .ok (.iadd, 1) := by decide +kernel
theorem dX11_round_130 : decode cX11_round 130 = .ok (.iconst 1, 1) := by decide +kernel
theorem dX11_round_131 : decode cX11_round 131 = .ok (.isub, 1) := by decide +kernel
theorem dX11_round_132 : decode cX11_round 132 = .ok (.iaload, 1) := by decide +kernel
theorem dX11_round_133 : decode cX11_round 133 = .ok (.aload_n 0, 1) := by decide +kernel
theorem dX11_round_134 : decode cX11_round 134 = .ok (.iload 7, 2) := by decide +kernel
theorem dX11_round_136 : decode cX11_round 136 = .ok (.iload 11, 2) := by decide +kernel
theorem dX11_round_138 : decode cX11_round 138 = .ok (.iconst 0, 1) := by decide +kernel
theorem dX11_round_139 : decode cX11_round 139 = .ok (.invokevirtual 220, 3) := by decide +kernel
theorem dX11_round_142 : decode cX11_round 142 = .ok (.iadd, 1) := by decide +kernel
theorem dX11_round_143 : decode cX11_round 143 = .ok (.istore 12, 2) := by decide +kernel
theorem dX11_round_145 : decode cX11_round 145 = .ok (.iload 12, 2) := by decide +kernel
theorem dX11_round_147 : decode cX11_round 147 = .ok (.iload 9, 2) := by decide +kernel
theorem dX11_round_149 : decode cX11_round 149 = .ok (.if_icmp .ge 8, 3) := by decide +kernel
theorem dX11_round_152 : decode cX11_round 152 = .ok (.iload 11, 2) := by decide +kernel
theorem dX11_round_154 : decode cX11_round 154 = .ok (.goto 5, 3) := by decide +kernel
theorem dX11_round_157 : decode cX11_round 157 = .ok (.iload 10, 2) := by decide +kernel
theorem dX11_round_159 : decode cX11_round 159 = .ok (.istore 10, 2) := by decide +kernel
theorem dX11_round_161 : decode cX11_round 161 = .ok (.iload 12, 2) := by decide +kernel
theorem dX11_round_163 : decode cX11_round 163 = .ok (.iload 9, 2) := by decide +kernel
theorem dX11_round_165 : decode cX11_round 165 = .ok (.if_icmp .ge 8, 3) := by decide +kernel
theorem dX11_round_168 : decode cX11_round 168 = .ok (.iload 12, 2) := by decide +kernel
theorem dX11_round_170 : decode cX11_round 170 = .ok (.goto 5, 3) := by decide +kernel
theorem dX11_round_173 : decode cX11_round 173 = .ok (.iload 9, 2) := by decide +kernel
theorem dX11_round_175 : decode cX11_round 175 = .ok (.istore 9, 2) := by decide +kernel
theorem dX11_round_177 : decode cX11_round 177 = .ok (.iinc 11 1, 3) := by decide +kernel
theorem dX11_round_180 : decode cX11_round 180 = .ok (.goto (-69), 3) := by decide +kernel
theorem dX11_round_183 : decode cX11_round 183 = .ok (.iload 5, 2) := by decide +kernel
theorem dX11_round_185 : decode cX11_round 185 = .ok (.ifCond .ne 8, 3) := by decide +kernel
theorem dX11_round_188 : decode cX11_round 188 = .ok (.iload 9, 2) := by decide +kernel
theorem dX11_round_190 : decode cX11_round 190 = .ok (.goto 5, 3) := by decide +kernel
theorem dX11_round_193 : decode cX11_round 193 = .ok (.iload 10, 2) := by decide +kernel
theorem dX11_round_195 : decode cX11_round 195 = .ok (.ireturn, 1) := by decide +kernel
theorem dX11_knowBy_0 : decode cX11_knowBy 0 = .ok (.iload_n 3, 1) := by decide +kernel
theorem dX11_knowBy_1 : decode cX11_knowBy 1 = .ok (.istore 4, 2) := by decide +kernel
theorem dX11_knowBy_3 : decode cX11_knowBy 3 = .ok (.iconst 0, 1) := by decide +kernel
theorem dX11_knowBy_4 : decode cX11_knowBy 4 = .ok (.istore 5, 2) := by decide +kernel
theorem dX11_knowBy_6 : decode cX11_knowBy 6 = .ok (.iload 5, 2) := by decide +kernel
theorem dX11_knowBy_8 : decode cX11_knowBy 8 = .ok (.iload_n 2, 1) := by decide +kernel
theorem dX11_knowBy_9 : decode cX11_knowBy 9 = .ok (.if_icmp .ge 69, 3) := by decide +kernel
theorem dX11_knowBy_12 : decode cX11_knowBy 12 = .ok (.iconst 0, 1) := by decide +kernel
theorem dX11_knowBy_13 : decode cX11_knowBy 13 = .ok (.istore 6, 2) := by decide +kernel
theorem dX11_knowBy_15 : decode cX11_knowBy 15 = .ok (.iload 6, 2) := by decide +kernel
theorem dX11_knowBy_17 : decode cX11_knowBy 17 = .ok (.iload_n 2, 1) := by decide +kernel
theorem dX11_knowBy_18 : decode cX11_knowBy 18 = .ok (.if_icmp .ge 54, 3) := by decide +kernel
theorem dX11_knowBy_21 : decode cX11_knowBy 21 = .ok (.iload 4, 2) := by decide +kernel
theorem dX11_knowBy_23 : decode cX11_knowBy 23 = .ok (.iload 4, 2) := by decide +kernel
theorem dX11_knowBy_25 : decode cX11_knowBy 25 = .ok (.aload_n 0, 1) := by decide +kernel
theorem dX11_knowBy_26 : decode cX11_knowBy 26 = .ok (.getfield 17, 3) := by decide +kernel
theorem dX11_knowBy_29 : decode cX11_knowBy 29 = .ok (.iload_n 1, 1) := by decide +kernel
theorem dX11_knowBy_30 : decode cX11_knowBy 30 = .ok (.iconst 2, 1) := by decide +kernel
theorem dX11_knowBy_31 : decode cX11_knowBy 31 = .ok (.iload 6, 2) := by decide +kernel
theorem dX11_knowBy_33 : decode cX11_knowBy 33 = .ok (.imul, 1) := by decide +kernel
theorem dX11_knowBy_34 : decode cX11_knowBy 34 = .ok (.iadd, 1) := by decide +kernel
theorem dX11_knowBy_35 : decode cX11_knowBy 35 = .ok (.laload, 1) := by decide +kernel
theorem dX11_knowBy_36 : decode cX11_knowBy 36 = .ok (.l2i, 1) := by decide +kernel
theorem dX11_knowBy_37 : decode cX11_knowBy 37 = .ok (.invokestatic 156, 3) := by decide +kernel
theorem dX11_knowBy_40 : decode cX11_knowBy 40 = .ok (.ifCond .eq 22, 3) := by decide +kernel
theorem dX11_knowBy_43 : decode cX11_knowBy 43 = .ok (.iconst 1, 1) := by decide +kernel
theorem dX11_knowBy_44 : decode cX11_knowBy 44 = .ok (.aload_n 0, 1) := by decide +kernel
theorem dX11_knowBy_45 : decode cX11_knowBy 45 = .ok (.getfield 17, 3) := by decide +kernel
theorem dX11_knowBy_48 : decode cX11_knowBy 48 = .ok (.iload_n 1, 1) := by decide +kernel
theorem dX11_knowBy_49 : decode cX11_knowBy 49 = .ok (.iconst 2, 1) := by decide +kernel
theorem dX11_knowBy_50 : decode cX11_knowBy 50 = .ok (.iload 6, 2) := by decide +kernel
theorem dX11_knowBy_52 : decode cX11_knowBy 52 = .ok (.imul, 1) := by decide +kernel
theorem dX11_knowBy_53 : decode cX11_knowBy 53 = .ok (.iadd, 1) := by decide +kernel
theorem dX11_knowBy_54 : decode cX11_knowBy 54 = .ok (.iconst 1, 1) := by decide +kernel
theorem dX11_knowBy_55 : decode cX11_knowBy 55 = .ok (.iadd, 1) := by decide +kernel
theorem dX11_knowBy_56 : decode cX11_knowBy 56 = .ok (.laload, 1) := by decide +kernel
theorem dX11_knowBy_57 : decode cX11_knowBy 57 = .ok (.l2i, 1) := by decide +kernel
theorem dX11_knowBy_58 : decode cX11_knowBy 58 = .ok (.ishl, 1) := by decide +kernel
theorem dX11_knowBy_59 : decode cX11_knowBy 59 = .ok (.goto 4, 3) := by decide +kernel
theorem dX11_knowBy_62 : decode cX11_knowBy 62 = .ok (.iconst 0, 1) := by decide +kernel
theorem dX11_knowBy_63 : decode cX11_knowBy 63 = .ok (.ior, 1) := by decide +kernel
theorem dX11_knowBy_64 : decode cX11_knowBy 64 = .ok (.istore 4, 2) := by decide +kernel
theorem dX11_knowBy_66 : decode cX11_knowBy 66 = .ok (.iinc 6 1, 3) := by decide +kernel
theorem dX11_knowBy_69 : decode cX11_knowBy 69 = .ok (.goto (-54), 3) := by decide +kernel
theorem dX11_knowBy_72 : decode cX11_knowBy 72 = .ok (.iinc 5 1, 3) := by decide +kernel
theorem dX11_knowBy_75 : decode cX11_knowBy 75 = .ok (.goto (-69), 3) := by decide +kernel
theorem dX11_knowBy_78 : decode cX11_knowBy 78 = .ok (.iload 4, 2) := by decide +kernel
theorem dX11_knowBy_80 : decode cX11_knowBy 80 = .ok (.ireturn, 1) := by decide +kernel
theorem dX11_goesOn_0 : decode cX11_goesOn 0 = .ok (.iload_n 1, 1) := by decide +kernel
theorem dX11_goesOn_1 : decode cX11_goesOn 1 = .ok (.iload_n 2, 1) := by decide +kernel
theorem dX11_goesOn_2 : decode cX11_goesOn 2 = .ok (.invokestatic 205, 3) := by decide +kernel
theorem dX11_goesOn_5 : decode cX11_goesOn 5 = .ok (.ifCond .eq 29, 3) := by decide +kernel
theorem dX11_goesOn_8 : decode cX11_goesOn 8 = .ok (.iload 4, 2) := by decide +kernel
theorem dX11_goesOn_10 : decode cX11_goesOn 10 = .ok (.i2l, 1) := by decide +kernel
theorem dX11_goesOn_11 : decode cX11_goesOn 11 = .ok (.lconst 0, 1) := by decide +kernel
theorem dX11_goesOn_12 : decode cX11_goesOn 12 = .ok (.ldc2_w 231, 3) := by decide +kernel
theorem dX11_goesOn_15 : decode cX11_goesOn 15 = .ok (.invokestatic 42, 3) := by decide +kernel
theorem dX11_goesOn_18 : decode cX11_goesOn 18 = .ok (.ifCond .eq 16, 3) := by decide +kernel
theorem dX11_goesOn_21 : decode cX11_goesOn 21 = .ok (.iload 5, 2) := by decide +kernel
theorem dX11_goesOn_23 : decode cX11_goesOn 23 = .ok (.i2l, 1) := by decide +kernel
theorem dX11_goesOn_24 : decode cX11_goesOn 24 = .ok (.lconst 0, 1) := by decide +kernel
theorem dX11_goesOn_25 : decode cX11_goesOn 25 = .ok (.ldc2_w 46, 3) := by decide +kernel
theorem dX11_goesOn_28 : decode cX11_goesOn 28 = .ok (.invokestatic 42, 3) := by decide +kernel
theorem dX11_goesOn_31 : decode cX11_goesOn 31 = .ok (.ifCond .ne 5, 3) := by decide +kernel
theorem dX11_goesOn_34 : decode cX11_goesOn 34 = .ok (.iconst (-1), 1) := by decide +kernel
theorem dX11_goesOn_35 : decode cX11_goesOn 35 = .ok (.ireturn, 1) := by decide +kernel
theorem dX11_goesOn_36 : decode cX11_goesOn 36 = .ok (.aload_n 0, 1) := by decide +kernel
theorem dX11_goesOn_37 : decode cX11_goesOn 37 = .ok (.iload_n 1, 1) := by decide +kernel
theorem dX11_goesOn_38 : decode cX11_goesOn 38 = .ok (.iload_n 2, 1) := by decide +kernel
theorem dX11_goesOn_39 : decode cX11_goesOn 39 = .ok (.iload_n 3, 1) := by decide +kernel
theorem dX11_goesOn_40 : decode cX11_goesOn 40 = .ok (.iconst 2, 1) := by decide +kernel
theorem dX11_goesOn_41 : decode cX11_goesOn 41 = .ok (.iload 4, 2) := by decide +kernel
theorem dX11_goesOn_43 : decode cX11_goesOn 43 = .ok (.imul, 1) := by decide +kernel
theorem dX11_goesOn_44 : decode cX11_goesOn 44 = .ok (.invokevirtual 208, 3) := by decide +kernel
theorem dX11_goesOn_47 : decode cX11_goesOn 47 = .ok (.istore 6, 2) := by decide +kernel
theorem dX11_goesOn_49 : decode cX11_goesOn 49 = .ok (.iload 6, 2) := by decide +kernel
theorem dX11_goesOn_51 : decode cX11_goesOn 51 = .ok (.ifCond .ge 6, 3) := by decide +kernel
theorem dX11_goesOn_54 : decode cX11_goesOn 54 = .ok (.iload 6, 2) := by decide +kernel
theorem dX11_goesOn_56 : decode cX11_goesOn 56 = .ok (.ireturn, 1) := by decide +kernel
theorem dX11_goesOn_57 : decode cX11_goesOn 57 = .ok (.bipush 24, 2) := by decide +kernel
theorem dX11_goesOn_59 : decode cX11_goesOn 59 = .ok (.iload_n 1, 1) := by decide +kernel
theorem dX11_goesOn_60 : decode cX11_goesOn 60 = .ok (.imul, 1) := by decide +kernel
theorem dX11_goesOn_61 : decode cX11_goesOn 61 = .ok (.iload_n 3, 1) := by decide +kernel
theorem dX11_goesOn_62 : decode cX11_goesOn 62 = .ok (.iadd, 1) := by decide +kernel
theorem dX11_goesOn_63 : decode cX11_goesOn 63 = .ok (.istore 7, 2) := by decide +kernel
theorem dX11_goesOn_65 : decode cX11_goesOn 65 = .ok (.aload_n 0, 1) := by decide +kernel
theorem dX11_goesOn_66 : decode cX11_goesOn 66 = .ok (.iload 7, 2) := by decide +kernel
theorem dX11_goesOn_68 : decode cX11_goesOn 68 = .ok (.iconst 2, 1) := by decide +kernel
theorem dX11_goesOn_69 : decode cX11_goesOn 69 = .ok (.iload 4, 2) := by decide +kernel
theorem dX11_goesOn_71 : decode cX11_goesOn 71 = .ok (.imul, 1) := by decide +kernel
theorem dX11_goesOn_72 : decode cX11_goesOn 72 = .ok (.bipush 7, 2) := by decide +kernel
theorem dX11_goesOn_74 : decode cX11_goesOn 74 = .ok (.invokevirtual 225, 3) := by decide +kernel
theorem dX11_goesOn_77 : decode cX11_goesOn 77 = .ok (.ifCond .eq 16, 3) := by decide +kernel
theorem dX11_goesOn_80 : decode cX11_goesOn 80 = .ok (.aload_n 0, 1) := by decide +kernel
theorem dX11_goesOn_81 : decode cX11_goesOn 81 = .ok (.iload 7, 2) := by decide +kernel
theorem dX11_goesOn_83 : decode cX11_goesOn 83 = .ok (.iload 4, 2) := by decide +kernel
theorem dX11_goesOn_85 : decode cX11_goesOn 85 = .ok (.iload 5, 2) := by decide +kernel
theorem dX11_goesOn_87 : decode cX11_goesOn 87 = .ok (.invokevirtual 233, 3) := by decide +kernel
theorem dX11_goesOn_90 : decode cX11_goesOn 90 = .ok (.goto 5, 3) := by decide +kernel
theorem dX11_goesOn_93 : decode cX11_goesOn 93 = .ok (.bipush (-2), 2) := by decide +kernel
theorem dX11_goesOn_95 : decode cX11_goesOn 95 = .ok (.ireturn, 1) := by decide +kernel
theorem dX11_told_0 : decode cX11_told 0 = .ok (.iload_n 1, 1) := by decide +kernel
theorem dX11_told_1 : decode cX11_told 1 = .ok (.iload_n 2, 1) := by decide +kernel
theorem dX11_told_2 : decode cX11_told 2 = .ok (.invokestatic 205, 3) := by decide +kernel
theorem dX11_told_5 : decode cX11_told 5 = .ok (.ifCond .eq 27, 3) := by decide +kernel
theorem dX11_told_8 : decode cX11_told 8 = .ok (.iload 4, 2) := by decide +kernel
theorem dX11_told_10 : decode cX11_told 10 = .ok (.i2l, 1) := by decide +kernel
theorem dX11_told_11 : decode cX11_told 11 = .ok (.lconst 0, 1) := by decide +kernel
theorem dX11_told_12 : decode cX11_told 12 = .ok (.ldc2_w 231, 3) := by decide +kernel
theorem dX11_told_15 : decode cX11_told 15 = .ok (.invokestatic 42, 3) := by decide +kernel
theorem dX11_told_18 : decode cX11_told 18 = .ok (.ifCond .eq 14, 3) := by decide +kernel
theorem dX11_told_21 : decode cX11_told 21 = .ok (.iload 5, 2) := by decide +kernel
theorem dX11_told_23 : decode cX11_told 23 = .ok (.i2l, 1) := by decide +kernel
theorem dX11_told_24 : decode cX11_told 24 = .ok (.lconst 0, 1) := by decide +kernel
theorem dX11_told_25 : decode cX11_told 25 = .ok (.lconst 1, 1) := by decide +kernel
theorem dX11_told_26 : decode cX11_told 26 = .ok (.invokestatic 42, 3) := by decide +kernel
theorem dX11_told_29 : decode cX11_told 29 = .ok (.ifCond .ne 5, 3) := by decide +kernel
theorem dX11_told_32 : decode cX11_told 32 = .ok (.iconst (-1), 1) := by decide +kernel
theorem dX11_told_33 : decode cX11_told 33 = .ok (.ireturn, 1) := by decide +kernel
theorem dX11_told_34 : decode cX11_told 34 = .ok (.aload_n 0, 1) := by decide +kernel
theorem dX11_told_35 : decode cX11_told 35 = .ok (.iload_n 1, 1) := by decide +kernel
theorem dX11_told_36 : decode cX11_told 36 = .ok (.iload_n 2, 1) := by decide +kernel
theorem dX11_told_37 : decode cX11_told 37 = .ok (.iload_n 3, 1) := by decide +kernel
theorem dX11_told_38 : decode cX11_told 38 = .ok (.iconst 2, 1) := by decide +kernel
theorem dX11_told_39 : decode cX11_told 39 = .ok (.iload 4, 2) := by decide +kernel
theorem dX11_told_41 : decode cX11_told 41 = .ok (.imul, 1) := by decide +kernel
theorem dX11_told_42 : decode cX11_told 42 = .ok (.invokevirtual 208, 3) := by decide +kernel
theorem dX11_told_45 : decode cX11_told 45 = .ok (.istore 6, 2) := by decide +kernel
theorem dX11_told_47 : decode cX11_told 47 = .ok (.iload 6, 2) := by decide +kernel
theorem dX11_told_49 : decode cX11_told 49 = .ok (.ifCond .ge 6, 3) := by decide +kernel
theorem dX11_told_52 : decode cX11_told 52 = .ok (.iload 6, 2) := by decide +kernel
theorem dX11_told_54 : decode cX11_told 54 = .ok (.ireturn, 1) := by decide +kernel
theorem dX11_told_55 : decode cX11_told 55 = .ok (.bipush 24, 2) := by decide +kernel
theorem dX11_told_57 : decode cX11_told 57 = .ok (.iload_n 1, 1) := by decide +kernel
theorem dX11_told_58 : decode cX11_told 58 = .ok (.imul, 1) := by decide +kernel
theorem dX11_told_59 : decode cX11_told 59 = .ok (.iload_n 3, 1) := by decide +kernel
theorem dX11_told_60 : decode cX11_told 60 = .ok (.iadd, 1) := by decide +kernel
theorem dX11_told_61 : decode cX11_told 61 = .ok (.istore 7, 2) := by decide +kernel
theorem dX11_told_63 : decode cX11_told 63 = .ok (.aload_n 0, 1) := by decide +kernel
theorem dX11_told_64 : decode cX11_told 64 = .ok (.iload 7, 2) := by decide +kernel
theorem dX11_told_66 : decode cX11_told 66 = .ok (.iconst 2, 1) := by decide +kernel
theorem dX11_told_67 : decode cX11_told 67 = .ok (.iload 4, 2) := by decide +kernel
theorem dX11_told_69 : decode cX11_told 69 = .ok (.imul, 1) := by decide +kernel
theorem dX11_told_70 : decode cX11_told 70 = .ok (.bipush 7, 2) := by decide +kernel
theorem dX11_told_72 : decode cX11_told 72 = .ok (.invokevirtual 225, 3) := by decide +kernel
theorem dX11_told_75 : decode cX11_told 75 = .ok (.ifCond .ne 6, 3) := by decide +kernel
theorem dX11_told_78 : decode cX11_told 78 = .ok (.bipush (-2), 2) := by decide +kernel
theorem dX11_told_80 : decode cX11_told 80 = .ok (.ireturn, 1) := by decide +kernel
theorem dX11_told_81 : decode cX11_told 81 = .ok (.sipush 255, 3) := by decide +kernel
theorem dX11_told_84 : decode cX11_told 84 = .ok (.istore 8, 2) := by decide +kernel
theorem dX11_told_86 : decode cX11_told 86 = .ok (.sipush 254, 3) := by decide +kernel
theorem dX11_told_89 : decode cX11_told 89 = .ok (.istore 9, 2) := by decide +kernel
theorem dX11_told_91 : decode cX11_told 91 = .ok (.iload 9, 2) := by decide +kernel
theorem dX11_told_93 : decode cX11_told 93 = .ok (.ifCond .le 47, 3) := by decide +kernel
theorem dX11_told_96 : decode cX11_told 96 = .ok (.aload_n 0, 1) := by decide +kernel
theorem dX11_told_97 : decode cX11_told 97 = .ok (.iload 7, 2) := by decide +kernel
theorem dX11_told_99 : decode cX11_told 99 = .ok (.iload 4, 2) := by decide +kernel
theorem dX11_told_101 : decode cX11_told 101 = .ok (.iload 9, 2) := by decide +kernel
theorem dX11_told_103 : decode cX11_told 103 = .ok (.invokevirtual 233, 3) := by decide +kernel
theorem dX11_told_106 : decode cX11_told 106 = .ok (.sipush 255, 3) := by decide +kernel
theorem dX11_told_109 : decode cX11_told 109 = .ok (.if_icmp .ne 21, 3) := by decide +kernel
theorem dX11_told_112 : decode cX11_told 112 = .ok (.iload 9, 2) := by decide +kernel
theorem dX11_told_114 : decode cX11_told 114 = .ok (.invokestatic 164, 3) := by decide +kernel
theorem dX11_told_117 : decode cX11_told 117 = .ok (.iload 8, 2) := by decide +kernel
theorem dX11_told_119 : decode cX11_told 119 = .ok (.invokestatic 164, 3) := by decide +kernel
theorem dX11_told_122 : decode cX11_told 122 = .ok (.if_icmp .gt 8, 3) := by decide +kernel
theorem dX11_told_125 : decode cX11_told 125 = .ok (.iload 9, 2) := by decide +kernel
theorem dX11_told_127 : decode cX11_told 127 = .ok (.goto 5, 3) := by decide +kernel
theorem dX11_told_130 : decode cX11_told 130 = .ok (.iload 8, 2) := by decide +kernel
theorem dX11_told_132 : decode cX11_told 132 = .ok (.istore 8, 2) := by decide +kernel
theorem dX11_told_134 : decode cX11_told 134 = .ok (.iinc 9 (-1), 3) := by decide +kernel
theorem dX11_told_137 : decode cX11_told 137 = .ok (.goto (-46), 3) := by decide +kernel
theorem dX11_told_140 : decode cX11_told 140 = .ok (.iload 5, 2) := by decide +kernel
theorem dX11_told_142 : decode cX11_told 142 = .ok (.ifCond .ne 11, 3) := by decide +kernel
theorem dX11_told_145 : decode cX11_told 145 = .ok (.iload 8, 2) := by decide +kernel
theorem dX11_told_147 : decode cX11_told 147 = .ok (.invokestatic 164, 3) := by decide +kernel
theorem dX11_told_150 : decode cX11_told 150 = .ok (.goto 5, 3) := by decide +kernel
theorem dX11_told_153 : decode cX11_told 153 = .ok (.iload 8, 2) := by decide +kernel
theorem dX11_told_155 : decode cX11_told 155 = .ok (.ireturn, 1) := by decide +kernel
theorem dX11_ate_0 : decode cX11_ate 0 = .ok (.aload_n 0, 1) := by decide +kernel
theorem dX11_ate_1 : decode cX11_ate 1 = .ok (.iload_n 1, 1) := by decide +kernel
theorem dX11_ate_2 : decode cX11_ate 2 = .ok (.invokevirtual 115, 3) := by decide +kernel
theorem dX11_ate_5 : decode cX11_ate 5 = .ok (.ifCond .eq 35, 3) := by decide +kernel
theorem dX11_ate_8 : decode cX11_ate 8 = .ok (.iload_n 2, 1) := by decide +kernel
theorem dX11_ate_9 : decode cX11_ate 9 = .ok (.iload_n 3, 1) := by decide +kernel
theorem dX11_ate_10 : decode cX11_ate 10 = .ok (.invokestatic 205, 3) := by decide +kernel
theorem dX11_ate_13 : decode cX11_ate 13 = .ok (.ifCond .eq 27, 3) := by decide +kernel
theorem dX11_ate_16 : decode cX11_ate 16 = .ok (.iload 5, 2) := by decide +kernel
theorem dX11_ate_18 : decode cX11_ate 18 = .ok (.i2l, 1) := by decide +kernel
theorem dX11_ate_19 : decode cX11_ate 19 = .ok (.lconst 1, 1) := by decide +kernel
theorem dX11_ate_20 : decode cX11_ate 20 = .ok (.ldc2_w 159, 3) := by decide +kernel
theorem dX11_ate_23 : decode cX11_ate 23 = .ok (.invokestatic 42, 3) := by decide +kernel
theorem dX11_ate_26 : decode cX11_ate 26 = .ok (.ifCond .eq 14, 3) := by decide +kernel
theorem dX11_ate_29 : decode cX11_ate 29 = .ok (.iload 6, 2) := by decide +kernel
theorem dX11_ate_31 : decode cX11_ate 31 = .ok (.i2l, 1) := by decide +kernel
theorem dX11_ate_32 : decode cX11_ate 32 = .ok (.lconst 0, 1) := by decide +kernel
theorem dX11_ate_33 : decode cX11_ate 33 = .ok (.lconst 1, 1) := by decide +kernel
theorem dX11_ate_34 : decode cX11_ate 34 = .ok (.invokestatic 42, 3) := by decide +kernel
theorem dX11_ate_37 : decode cX11_ate 37 = .ok (.ifCond .ne 5, 3) := by decide +kernel
theorem dX11_ate_40 : decode cX11_ate 40 = .ok (.iconst (-1), 1) := by decide +kernel
theorem dX11_ate_41 : decode cX11_ate 41 = .ok (.ireturn, 1) := by decide +kernel
theorem dX11_ate_42 : decode cX11_ate 42 = .ok (.aload_n 0, 1) := by decide +kernel
theorem dX11_ate_43 : decode cX11_ate 43 = .ok (.iload_n 2, 1) := by decide +kernel
theorem dX11_ate_44 : decode cX11_ate 44 = .ok (.iload_n 3, 1) := by decide +kernel
theorem dX11_ate_45 : decode cX11_ate 45 = .ok (.iload 4, 2) := by decide +kernel
theorem dX11_ate_47 : decode cX11_ate 47 = .ok (.iload 5, 2) := by decide +kernel
theorem dX11_ate_49 : decode cX11_ate 49 = .ok (.invokevirtual 208, 3) := by decide +kernel
theorem dX11_ate_52 : decode cX11_ate 52 = .ok (.istore 7, 2) := by decide +kernel
theorem dX11_ate_54 : decode cX11_ate 54 = .ok (.iload 7, 2) := by decide +kernel
theorem dX11_ate_56 : decode cX11_ate 56 = .ok (.ifCond .ge 6, 3) := by decide +kernel
theorem dX11_ate_59 : decode cX11_ate 59 = .ok (.iload 7, 2) := by decide +kernel
theorem dX11_ate_61 : decode cX11_ate 61 = .ok (.ireturn, 1) := by decide +kernel
theorem dX11_ate_62 : decode cX11_ate 62 = .ok (.aload_n 0, 1) := by decide +kernel
theorem dX11_ate_63 : decode cX11_ate 63 = .ok (.iconst 0, 1) := by decide +kernel
theorem dX11_ate_64 : decode cX11_ate 64 = .ok (.iload_n 1, 1) := by decide +kernel
theorem dX11_ate_65 : decode cX11_ate 65 = .ok (.invokevirtual 100, 3) := by decide +kernel
theorem dX11_ate_68 : decode cX11_ate 68 = .ok (.ifCond .eq 6, 3) := by decide +kernel
theorem dX11_ate_71 : decode cX11_ate 71 = .ok (.bipush (-2), 2) := by decide +kernel
theorem dX11_ate_73 : decode cX11_ate 73 = .ok (.ireturn, 1) := by decide +kernel
theorem dX11_ate_74 : decode cX11_ate 74 = .ok (.bipush 24, 2) := by decide +kernel
theorem dX11_ate_76 : decode cX11_ate 76 = .ok (.iload_n 2, 1) := by decide +kernel
theorem dX11_ate_77 : decode cX11_ate 77 = .ok (.imul, 1) := by decide +kernel
theorem dX11_ate_78 : decode cX11_ate 78 = .ok (.iload 4, 2) := by decide +kernel
theorem dX11_ate_80 : decode cX11_ate 80 = .ok (.iadd, 1) := by decide +kernel
theorem dX11_ate_81 : decode cX11_ate 81 = .ok (.istore 8, 2) := by decide +kernel
theorem dX11_ate_83 : decode cX11_ate 83 = .ok (.iconst 0, 1) := by decide +kernel
theorem dX11_ate_84 : decode cX11_ate 84 = .ok (.istore 9, 2) := by decide +kernel
theorem dX11_ate_86 : decode cX11_ate 86 = .ok (.bipush (-4), 2) := by decide +kernel
theorem dX11_ate_88 : decode cX11_ate 88 = .ok (.istore 10, 2) := by decide +kernel
theorem dX11_ate_90 : decode cX11_ate 90 = .ok (.iconst 1, 1) := by decide +kernel
theorem dX11_ate_91 : decode cX11_ate 91 = .ok (.iload 5, 2) := by decide +kernel
theorem dX11_ate_93 : decode cX11_ate 93 = .ok (.ishl, 1) := by decide +kernel
theorem dX11_ate_94 : decode cX11_ate 94 = .ok (.iconst 1, 1) := by decide +kernel
theorem dX11_ate_95 : decode cX11_ate 95 = .ok (.isub, 1) := by decide +kernel
theorem dX11_ate_96 : decode cX11_ate 96 = .ok (.istore 11, 2) := by decide +kernel
theorem dX11_ate_98 : decode cX11_ate 98 = .ok (.iload 11, 2) := by decide +kernel
theorem dX11_ate_100 : decode cX11_ate 100 = .ok (.ifCond .lt 148, 3) := by decide +kernel
theorem dX11_ate_103 : decode cX11_ate 103 = .ok (.aload_n 0, 1) := by decide +kernel
theorem dX11_ate_104 : decode cX11_ate 104 = .ok (.iconst 0, 1) := by decide +kernel
theorem dX11_ate_105 : decode cX11_ate 105 = .ok (.sipush 219, 3) := by decide +kernel
theorem dX11_ate_108 : decode cX11_ate 108 = .ok (.invokevirtual 90, 3) := by decide +kernel
theorem dX11_ate_111 : decode cX11_ate 111 = .ok (.iload 11, 2) := by decide +kernel
theorem dX11_ate_113 : decode cX11_ate 113 = .ok (.invokestatic 164, 3) := by decide +kernel
theorem dX11_ate_116 : decode cX11_ate 116 = .ok (.aload_n 0, 1) := by decide +kernel
theorem dX11_ate_117 : decode cX11_ate 117 = .ok (.getfield 7, 3) := by decide +kernel
theorem dX11_ate_120 : decode cX11_ate 120 = .ok (.bipush 43, 2) := by decide +kernel
theorem dX11_ate_122 : decode cX11_ate 122 = .ok (.iload_n 1, 1) := by decide +kernel
theorem dX11_ate_123 : decode cX11_ate 123 = .ok (.iadd, 1) := by decide +kernel
theorem dX11_ate_124 : decode cX11_ate 124 = .ok (.iaload, 1) := by decide +kernel
theorem dX11_ate_125 : decode cX11_ate 125 = .ok (.if_icmp .gt 7, 3) := by decide +kernel
theorem dX11_ate_128 : decode cX11_ate 128 = .ok (.iconst 1, 1) := by decide +kernel
theorem dX11_ate_129 : decode cX11_ate 129 = .ok (.goto 4, 3) := by decide +kernel
theorem dX11_ate_132 : decode cX11_ate 132 = .ok (.iconst 0, 1) := by decide +kernel
theorem dX11_ate_133 : decode cX11_ate 133 = .ok (.istore 12, 2) := by decide +kernel
theorem dX11_ate_135 : decode cX11_ate 135 = .ok (.iconst 0, 1) := by decide +kernel
theorem dX11_ate_136 : decode cX11_ate 136 = .ok (.istore 13, 2) := by decide +kernel
theorem dX11_ate_138 : decode cX11_ate 138 = .ok (.iload 13, 2) := by decide +kernel
theorem dX11_ate_140 : decode cX11_ate 140 = .ok (.iload 5, 2) := by decide +kernel
theorem dX11_ate_142 : decode cX11_ate 142 = .ok (.if_icmp .ge 71, 3) := by decide +kernel
theorem dX11_ate_145 : decode cX11_ate 145 = .ok (.iload 11, 2) := by decide +kernel
theorem dX11_ate_147 : decode cX11_ate 147 = .ok (.iload 13, 2) := by decide +kernel
theorem dX11_ate_149 : decode cX11_ate 149 = .ok (.invokestatic 156, 3) := by decide +kernel
theorem dX11_ate_152 : decode cX11_ate 152 = .ok (.ifCond .eq 11, 3) := by decide +kernel
theorem dX11_ate_155 : decode cX11_ate 155 = .ok (.aload_n 0, 1) := by decide +kernel
theorem dX11_ate_156 : decode cX11_ate 156 = .ok (.sipush 219, 3) := by decide +kernel
theorem dX11_ate_159 : decode cX11_ate 159 = .ok (.iload_n 1, 1) := by decide +kernel
theorem dX11_ate_160 : decode cX11_ate 160 = .ok (.invokevirtual 136, 3) := by decide +kernel
theorem dX11_ate_163 : decode cX11_ate 163 = .ok (.aload_n 0, 1) := by decide +kernel
theorem dX11_ate_164 : decode cX11_ate 164 = .ok (.sipush 219, 3) := by decide +kernel
theorem dX11_ate_167 : decode cX11_ate 167 = .ok (.invokevirtual 129, 3) := by decide +kernel
theorem dX11_ate_170 : decode cX11_ate 170 = .ok (.iload 12, 2) := by decide +kernel
theorem dX11_ate_172 : decode cX11_ate 172 = .ok (.ifCond .eq 32, 3) := by decide +kernel
theorem dX11_ate_175 : decode cX11_ate 175 = .ok (.aload_n 0, 1) := by decide +kernel
theorem dX11_ate_176 : decode cX11_ate 176 = .ok (.getfield 7, 3) := by decide +kernel
theorem dX11_ate_179 : decode cX11_ate 179 = .ok (.sipush 256, 3) := by decide +kernel
theorem dX11_ate_182 : decode cX11_ate 182 = .ok (.iload_n 1, 1) := by decide +kernel
theorem dX11_ate_183 : decode cX11_ate 183 = .ok (.iadd, 1) := by decide +kernel
theorem dX11_ate_184 : decode cX11_ate 184 = .ok (.iaload, 1) := by decide +kernel
theorem dX11_ate_185 : decode cX11_ate 185 = .ok (.i2l, 1) := by decide +kernel
theorem dX11_ate_186 : decode cX11_ate 186 = .ok (.aload_n 0, 1) := by decide +kernel
theorem dX11_ate_187 : decode cX11_ate 187 = .ok (.getfield 17, 3) := by decide +kernel
theorem dX11_ate_190 : decode cX11_ate 190 = .ok (.iload 8, 2) := by decide +kernel
theorem dX11_ate_192 : decode cX11_ate 192 = .ok (.iload 13, 2) := by decide +kernel
theorem dX11_ate_194 : decode cX11_ate 194 = .ok (.iadd, 1) := by decide +kernel
theorem dX11_ate_195 : decode cX11_ate 195 = .ok (.laload, 1) := by decide +kernel
theorem dX11_ate_196 : decode cX11_ate 196 = .ok (.lcmp, 1) := by decide +kernel
theorem dX11_ate_197 : decode cX11_ate 197 = .ok (.ifCond .ne 7, 3) := by decide +kernel
theorem dX11_ate_200 : decode cX11_ate 200 = .ok (.iconst 1, 1) := by decide +kernel
theorem dX11_ate_201 : decode cX11_ate 201 = .ok (.goto 4, 3) := by decide +kernel
theorem dX11_ate_204 : decode cX11_ate 204 = .ok (.iconst 0, 1) := by decide +kernel
theorem dX11_ate_205 : decode cX11_ate 205 = .ok (.istore 12, 2) := by decide +kernel
theorem dX11_ate_207 : decode cX11_ate 207 = .ok (.iinc 13 1, 3) := by decide +kernel
theorem dX11_ate_210 : decode cX11_ate 210 = .ok (.goto (-72), 3) := by decide +kernel
theorem dX11_ate_213 : decode cX11_ate 213 = .ok (.iload 9, 2) := by decide +kernel
theorem dX11_ate_215 : decode cX11_ate 215 = .ok (.iload 12, 2) := by decide +kernel
theorem dX11_ate_217 : decode cX11_ate 217 = .ok (.ifCond .eq 7, 3) := by decide +kernel
theorem dX11_ate_220 : decode cX11_ate 220 = .ok (.iconst 1, 1) := by decide +kernel
theorem dX11_ate_221 : decode cX11_ate 221 = .ok (.goto 4, 3) := by decide +kernel
theorem dX11_ate_224 : decode cX11_ate 224 = .ok (.iconst 0, 1) := by decide +kernel
theorem dX11_ate_225 : decode cX11_ate 225 = .ok (.iadd, 1) := by decide +kernel
theorem dX11_ate_226 : decode cX11_ate 226 = .ok (.istore 9, 2) := by decide +kernel
theorem dX11_ate_228 : decode cX11_ate 228 = .ok (.iload 12, 2) := by decide +kernel
theorem dX11_ate_230 : decode cX11_ate 230 = .ok (.ifCond .eq 8, 3) := by decide +kernel
theorem dX11_ate_233 : decode cX11_ate 233 = .ok (.iload 11, 2) := by decide +kernel
theorem dX11_ate_235 : decode cX11_ate 235 = .ok (.goto 5, 3) := by decide +kernel
theorem dX11_ate_238 : decode cX11_ate 238 = .ok (.iload 10, 2) := by decide +kernel
theorem dX11_ate_240 : decode cX11_ate 240 = .ok (.istore 10, 2) := by decide +kernel
theorem dX11_ate_242 : decode cX11_ate 242 = .ok (.iinc 11 (-1), 3) := by decide +kernel
theorem dX11_ate_245 : decode cX11_ate 245 = .ok (.goto (-147), 3) := by decide +kernel
theorem dX11_ate_248 : decode cX11_ate 248 = .ok (.iload 6, 2) := by decide +kernel
theorem dX11_ate_250 : decode cX11_ate 250 = .ok (.ifCond .ne 8, 3) := by decide +kernel
theorem dX11_ate_253 : decode cX11_ate 253 = .ok (.iload 9, 2) := by decide +kernel
theorem dX11_ate_255 : decode cX11_ate 255 = .ok (.goto 5, 3) := by decide +kernel
theorem dX11_ate_258 : decode cX11_ate 258 = .ok (.iload 10, 2) := by decide +kernel
theorem dX11_ate_260 : decode cX11_ate 260 = .ok (.ireturn, 1) := by decide +kernel
theorem dX11_crustsOfAll_0 : decode cX11_crustsOfAll 0 = .ok (.iconst 0, 1) := by decide +kernel
theorem dX11_crustsOfAll_1 : decode cX11_crustsOfAll 1 = .ok (.istore_n 1, 1) := by decide +kernel
theorem dX11_crustsOfAll_2 : decode cX11_crustsOfAll 2 = .ok (.iconst 0, 1) := by decide +kernel
theorem dX11_crustsOfAll_3 : decode cX11_crustsOfAll 3 = .ok (.istore_n 2, 1) := by decide +kernel
theorem dX11_crustsOfAll_4 : decode cX11_crustsOfAll 4 = .ok (.iload_n 2, 1) := by decide +kernel
theorem dX11_crustsOfAll_5 : decode cX11_crustsOfAll 5 = .ok (.aload_n 0, 1) := by decide +kernel
theorem dX11_crustsOfAll_6 : decode cX11_crustsOfAll 6 = .ok (.getfield 7, 3) := by decide +kernel
theorem dX11_crustsOfAll_9 : decode cX11_crustsOfAll 9 = .ok (.iconst 1, 1) := by decide +kernel
theorem dX11_crustsOfAll_10 : decode cX11_crustsOfAll 10 = .ok (.iaload, 1) := by decide +kernel
theorem dX11_crustsOfAll_11 : decode cX11_crustsOfAll 11 = .ok (.if_icmp .ge 21, 3) := by decide +kernel
theorem dX11_crustsOfAll_14 : decode cX11_crustsOfAll 14 = .ok (.iload_n 1, 1) := by decide +kernel
theorem dX11_crustsOfAll_15 : decode cX11_crustsOfAll 15 = .ok (.aload_n 0, 1) := by decide +kernel
theorem dX11_crustsOfAll_16 : decode cX11_crustsOfAll 16 = .ok (.getfield 7, 3) := by decide +kernel
theorem dX11_crustsOfAll_19 : decode cX11_crustsOfAll 19 = .ok (.bipush 43, 2) := by decide +kernel
theorem dX11_crustsOfAll_21 : decode cX11_crustsOfAll 21 = .ok (.iload_n 2, 1) := by decide +kernel
theorem dX11_crustsOfAll_22 : decode cX11_crustsOfAll 22 = .ok (.iadd, 1) := by decide +kernel
theorem dX11_crustsOfAll_23 : decode cX11_crustsOfAll 23 = .ok (.iaload, 1) := by decide +kernel
theorem dX11_crustsOfAll_24 : decode cX11_crustsOfAll 24 = .ok (.iadd, 1) := by decide +kernel
theorem dX11_crustsOfAll_25 : decode cX11_crustsOfAll 25 = .ok (.istore_n 1, 1) := by decide +kernel
theorem dX11_crustsOfAll_26 : decode cX11_crustsOfAll 26 = .ok (.iinc 2 1, 3) := by decide +kernel
theorem dX11_crustsOfAll_29 : decode cX11_crustsOfAll 29 = .ok (.goto (-25), 3) := by decide +kernel
theorem dX11_crustsOfAll_32 : decode cX11_crustsOfAll 32 = .ok (.iload_n 1, 1) := by decide +kernel
theorem dX11_crustsOfAll_33 : decode cX11_crustsOfAll 33 = .ok (.ireturn, 1) := by decide +kernel
theorem dX11_count_0 : decode cX11_count 0 = .ok (.iload_n 1, 1) := by decide +kernel
theorem dX11_count_1 : decode cX11_count 1 = .ok (.tableswitch 135 0 9 #[55, 62, 68, 75, 82, 89, 94, 101, 125, 130], 55) := by decide +kernel
theorem dX11_count_56 : decode cX11_count 56 = .ok (.aload_n 0, 1) := by decide +kernel
theorem dX11_count_57 : decode cX11_count 57 = .ok (.getfield 7, 3) := by decide +kernel
theorem dX11_count_60 : decode cX11_count 60 = .ok (.iconst 1, 1) := by decide +kernel
theorem dX11_count_61 : decode cX11_count 61 = .ok (.iaload, 1) := by decide +kernel
theorem dX11_count_62 : decode cX11_count 62 = .ok (.ireturn, 1) := by decide +kernel
theorem dX11_count_63 : decode cX11_count 63 = .ok (.aload_n 0, 1) := by decide +kernel
theorem dX11_count_64 : decode cX11_count 64 = .ok (.iconst 0, 1) := by decide +kernel
theorem dX11_count_65 : decode cX11_count 65 = .ok (.invokevirtual 133, 3) := by decide +kernel
theorem dX11_count_68 : decode cX11_count 68 = .ok (.ireturn, 1) := by decide +kernel
theorem dX11_count_69 : decode cX11_count 69 = .ok (.aload_n 0, 1) := by decide +kernel
theorem dX11_count_70 : decode cX11_count 70 = .ok (.getfield 7, 3) := by decide +kernel
theorem dX11_count_73 : decode cX11_count 73 = .ok (.iconst 4, 1) := by decide +kernel
theorem dX11_count_74 : decode cX11_count 74 = .ok (.iaload, 1) := by decide +kernel
theorem dX11_count_75 : decode cX11_count 75 = .ok (.ireturn, 1) := by decide +kernel
theorem dX11_count_76 : decode cX11_count 76 = .ok (.aload_n 0, 1) := by decide +kernel
theorem dX11_count_77 : decode cX11_count 77 = .ok (.getfield 7, 3) := by decide +kernel
theorem dX11_count_80 : decode cX11_count 80 = .ok (.iconst 2, 1) := by decide +kernel
theorem dX11_count_81 : decode cX11_count 81 = .ok (.iaload, 1) := by decide +kernel
theorem dX11_count_82 : decode cX11_count 82 = .ok (.ireturn, 1) := by decide +kernel
theorem dX11_count_83 : decode cX11_count 83 = .ok (.aload_n 0, 1) := by decide +kernel
theorem dX11_count_84 : decode cX11_count 84 = .ok (.getfield 7, 3) := by decide +kernel
theorem dX11_count_87 : decode cX11_count 87 = .ok (.iconst 3, 1) := by decide +kernel
theorem dX11_count_88 : decode cX11_count 88 = .ok (.iaload, 1) := by decide +kernel
theorem dX11_count_89 : decode cX11_count 89 = .ok (.ireturn, 1) := by decide +kernel
theorem dX11_count_90 : decode cX11_count 90 = .ok (.aload_n 0, 1) := by decide +kernel
theorem dX11_count_91 : decode cX11_count 91 = .ok (.invokevirtual 236, 3) := by decide +kernel
theorem dX11_count_94 : decode cX11_count 94 = .ok (.ireturn, 1) := by decide +kernel
theorem dX11_count_95 : decode cX11_count 95 = .ok (.aload_n 0, 1) := by decide +kernel
theorem dX11_count_96 : decode cX11_count 96 = .ok (.getfield 7, 3) := by decide +kernel
theorem dX11_count_99 : decode cX11_count 99 = .ok (.iconst 5, 1) := by decide +kernel
theorem dX11_count_100 : decode cX11_count 100 = .ok (.iaload, 1) := by decide +kernel
theorem dX11_count_101 : decode cX11_count 101 = .ok (.ireturn, 1) := by decide +kernel
theorem dX11_count_102 : decode cX11_count 102 = .ok (.aload_n 0, 1) := by decide +kernel
theorem dX11_count_103 : decode cX11_count 103 = .ok (.getfield 7, 3) := by decide +kernel
theorem dX11_count_106 : decode cX11_count 106 = .ok (.iconst 0, 1) := by decide +kernel
theorem dX11_count_107 : decode cX11_count 107 = .ok (.iaload, 1) := by decide +kernel
theorem dX11_count_108 : decode cX11_count 108 = .ok (.iconst 1, 1) := by decide +kernel
theorem dX11_count_109 : decode cX11_count 109 = .ok (.if_icmp .ne 15, 3) := by decide +kernel
theorem dX11_count_112 : decode cX11_count 112 = .ok (.aload_n 0, 1) := by decide +kernel
theorem dX11_count_113 : decode cX11_count 113 = .ok (.iconst 0, 1) := by decide +kernel
theorem dX11_count_114 : decode cX11_count 114 = .ok (.invokevirtual 97, 3) := by decide +kernel
theorem dX11_count_117 : decode cX11_count 117 = .ok (.ifCond .eq 7, 3) := by decide +kernel
theorem dX11_count_120 : decode cX11_count 120 = .ok (.iconst 1, 1) := by decide +kernel
theorem dX11_count_121 : decode cX11_count 121 = .ok (.goto 4, 3) := by decide +kernel
theorem dX11_count_124 : decode cX11_count 124 = .ok (.iconst 0, 1) := by decide +kernel
theorem dX11_count_125 : decode cX11_count 125 = .ok (.ireturn, 1) := by decide +kernel
theorem dX11_count_126 : decode cX11_count 126 = .ok (.aload_n 0, 1) := by decide +kernel
theorem dX11_count_127 : decode cX11_count 127 = .ok (.getfield 94, 3) := by decide +kernel
theorem dX11_count_130 : decode cX11_count 130 = .ok (.ireturn, 1) := by decide +kernel
theorem dX11_count_131 : decode cX11_count 131 = .ok (.aload_n 0, 1) := by decide +kernel
theorem dX11_count_132 : decode cX11_count 132 = .ok (.getfield 48, 3) := by decide +kernel
theorem dX11_count_135 : decode cX11_count 135 = .ok (.ireturn, 1) := by decide +kernel
theorem dX11_count_136 : decode cX11_count 136 = .ok (.iconst (-1), 1) := by decide +kernel
theorem dX11_count_137 : decode cX11_count 137 = .ok (.ireturn, 1) := by decide +kernel
theorem dJ6_compare_7cf53_0 : decode cJ6_compare_7cf53 0 = .ok (.iload_n 0, 1) := by decide +kernel
theorem dJ6_compare_7cf53_1 : decode cJ6_compare_7cf53 1 = .ok (.iload_n 1, 1) := by decide +kernel
theorem dJ6_compare_7cf53_2 : decode cJ6_compare_7cf53 2 = .ok (.if_icmp .ge 7, 3) := by decide +kernel
theorem dJ6_compare_7cf53_5 : decode cJ6_compare_7cf53 5 = .ok (.iconst (-1), 1) := by decide +kernel
theorem dJ6_compare_7cf53_6 : decode cJ6_compare_7cf53 6 = .ok (.goto 13, 3) := by decide +kernel
theorem dJ6_compare_7cf53_9 : decode cJ6_compare_7cf53 9 = .ok (.iload_n 0, 1) := by decide +kernel
theorem dJ6_compare_7cf53_10 : decode cJ6_compare_7cf53 10 = .ok (.iload_n 1, 1) := by decide +kernel
theorem dJ6_compare_7cf53_11 : decode cJ6_compare_7cf53 11 = .ok (.if_icmp .ne 7, 3) := by decide +kernel
theorem dJ6_compare_7cf53_14 : decode cJ6_compare_7cf53 14 = .ok (.iconst 0, 1) := by decide +kernel
theorem dJ6_compare_7cf53_15 : decode cJ6_compare_7cf53 15 = .ok (.goto 4, 3) := by decide +kernel
theorem dJ6_compare_7cf53_18 : decode cJ6_compare_7cf53 18 = .ok (.iconst 1, 1) := by decide +kernel
theorem dJ6_compare_7cf53_19 : decode cJ6_compare_7cf53 19 = .ok (.ireturn, 1) := by decide +kernel
theorem dJ6_bitCount_0f7a4_0 : decode cJ6_bitCount_0f7a4 0 = .ok (.iload_n 0, 1) := by decide +kernel
theorem dJ6_bitCount_0f7a4_1 : decode cJ6_bitCount_0f7a4 1 = .ok (.iload_n 0, 1) := by decide +kernel
theorem dJ6_bitCount_0f7a4_2 : decode cJ6_bitCount_0f7a4 2 = .ok (.iconst 1, 1) := by decide +kernel
theorem dJ6_bitCount_0f7a4_3 : decode cJ6_bitCount_0f7a4 3 = .ok (.iushr, 1) := by decide +kernel
theorem dJ6_bitCount_0f7a4_4 : decode cJ6_bitCount_0f7a4 4 = .ok (.ldc_w 265, 3) := by decide +kernel
theorem dJ6_bitCount_0f7a4_7 : decode cJ6_bitCount_0f7a4 7 = .ok (.iand, 1) := by decide +kernel
theorem dJ6_bitCount_0f7a4_8 : decode cJ6_bitCount_0f7a4 8 = .ok (.isub, 1) := by decide +kernel
theorem dJ6_bitCount_0f7a4_9 : decode cJ6_bitCount_0f7a4 9 = .ok (.istore_n 0, 1) := by decide +kernel
theorem dJ6_bitCount_0f7a4_10 : decode cJ6_bitCount_0f7a4 10 = .ok (.iload_n 0, 1) := by decide +kernel
theorem dJ6_bitCount_0f7a4_11 : decode cJ6_bitCount_0f7a4 11 = .ok (.ldc_w 266, 3) := by decide +kernel
theorem dJ6_bitCount_0f7a4_14 : decode cJ6_bitCount_0f7a4 14 = .ok (.iand, 1) := by decide +kernel
theorem dJ6_bitCount_0f7a4_15 : decode cJ6_bitCount_0f7a4 15 = .ok (.iload_n 0, 1) := by decide +kernel
theorem dJ6_bitCount_0f7a4_16 : decode cJ6_bitCount_0f7a4 16 = .ok (.iconst 2, 1) := by decide +kernel
theorem dJ6_bitCount_0f7a4_17 : decode cJ6_bitCount_0f7a4 17 = .ok (.iushr, 1) := by decide +kernel
theorem dJ6_bitCount_0f7a4_18 : decode cJ6_bitCount_0f7a4 18 = .ok (.ldc_w 266, 3) := by decide +kernel
theorem dJ6_bitCount_0f7a4_21 : decode cJ6_bitCount_0f7a4 21 = .ok (.iand, 1) := by decide +kernel
theorem dJ6_bitCount_0f7a4_22 : decode cJ6_bitCount_0f7a4 22 = .ok (.iadd, 1) := by decide +kernel
theorem dJ6_bitCount_0f7a4_23 : decode cJ6_bitCount_0f7a4 23 = .ok (.istore_n 0, 1) := by decide +kernel
theorem dJ6_bitCount_0f7a4_24 : decode cJ6_bitCount_0f7a4 24 = .ok (.iload_n 0, 1) := by decide +kernel
theorem dJ6_bitCount_0f7a4_25 : decode cJ6_bitCount_0f7a4 25 = .ok (.iload_n 0, 1) := by decide +kernel
theorem dJ6_bitCount_0f7a4_26 : decode cJ6_bitCount_0f7a4 26 = .ok (.iconst 4, 1) := by decide +kernel
theorem dJ6_bitCount_0f7a4_27 : decode cJ6_bitCount_0f7a4 27 = .ok (.iushr, 1) := by decide +kernel
theorem dJ6_bitCount_0f7a4_28 : decode cJ6_bitCount_0f7a4 28 = .ok (.iadd, 1) := by decide +kernel
theorem dJ6_bitCount_0f7a4_29 : decode cJ6_bitCount_0f7a4 29 = .ok (.ldc_w 267, 3) := by decide +kernel
theorem dJ6_bitCount_0f7a4_32 : decode cJ6_bitCount_0f7a4 32 = .ok (.iand, 1) := by decide +kernel
theorem dJ6_bitCount_0f7a4_33 : decode cJ6_bitCount_0f7a4 33 = .ok (.istore_n 0, 1) := by decide +kernel
theorem dJ6_bitCount_0f7a4_34 : decode cJ6_bitCount_0f7a4 34 = .ok (.iload_n 0, 1) := by decide +kernel
theorem dJ6_bitCount_0f7a4_35 : decode cJ6_bitCount_0f7a4 35 = .ok (.iload_n 0, 1) := by decide +kernel
theorem dJ6_bitCount_0f7a4_36 : decode cJ6_bitCount_0f7a4 36 = .ok (.bipush 8, 2) := by decide +kernel
theorem dJ6_bitCount_0f7a4_38 : decode cJ6_bitCount_0f7a4 38 = .ok (.iushr, 1) := by decide +kernel
theorem dJ6_bitCount_0f7a4_39 : decode cJ6_bitCount_0f7a4 39 = .ok (.iadd, 1) := by decide +kernel
theorem dJ6_bitCount_0f7a4_40 : decode cJ6_bitCount_0f7a4 40 = .ok (.istore_n 0, 1) := by decide +kernel
theorem dJ6_bitCount_0f7a4_41 : decode cJ6_bitCount_0f7a4 41 = .ok (.iload_n 0, 1) := by decide +kernel
theorem dJ6_bitCount_0f7a4_42 : decode cJ6_bitCount_0f7a4 42 = .ok (.iload_n 0, 1) := by decide +kernel
theorem dJ6_bitCount_0f7a4_43 : decode cJ6_bitCount_0f7a4 43 = .ok (.bipush 16, 2) := by decide +kernel
theorem dJ6_bitCount_0f7a4_45 : decode cJ6_bitCount_0f7a4 45 = .ok (.iushr, 1) := by decide +kernel
theorem dJ6_bitCount_0f7a4_46 : decode cJ6_bitCount_0f7a4 46 = .ok (.iadd, 1) := by decide +kernel
theorem dJ6_bitCount_0f7a4_47 : decode cJ6_bitCount_0f7a4 47 = .ok (.istore_n 0, 1) := by decide +kernel
theorem dJ6_bitCount_0f7a4_48 : decode cJ6_bitCount_0f7a4 48 = .ok (.iload_n 0, 1) := by decide +kernel
theorem dJ6_bitCount_0f7a4_49 : decode cJ6_bitCount_0f7a4 49 = .ok (.bipush 63, 2) := by decide +kernel
theorem dJ6_bitCount_0f7a4_51 : decode cJ6_bitCount_0f7a4 51 = .ok (.iand, 1) := by decide +kernel
theorem dJ6_bitCount_0f7a4_52 : decode cJ6_bitCount_0f7a4 52 = .ok (.ireturn, 1) := by decide +kernel
theorem dJ9_abs_0f7a4_0 : decode cJ9_abs_0f7a4 0 = .ok (.iload_n 0, 1) := by decide +kernel
theorem dJ9_abs_0f7a4_1 : decode cJ9_abs_0f7a4 1 = .ok (.ifCond .ge 8, 3) := by decide +kernel
theorem dJ9_abs_0f7a4_4 : decode cJ9_abs_0f7a4 4 = .ok (.iload_n 0, 1) := by decide +kernel
theorem dJ9_abs_0f7a4_5 : decode cJ9_abs_0f7a4 5 = .ok (.ineg, 1) := by decide +kernel
theorem dJ9_abs_0f7a4_6 : decode cJ9_abs_0f7a4 6 = .ok (.goto 4, 3) := by decide +kernel
theorem dJ9_abs_0f7a4_9 : decode cJ9_abs_0f7a4 9 = .ok (.iload_n 0, 1) := by decide +kernel
theorem dJ9_abs_0f7a4_10 : decode cJ9_abs_0f7a4 10 = .ok (.ireturn, 1) := by decide +kernel
theorem dJ9_max_7cf53_0 : decode cJ9_max_7cf53 0 = .ok (.iload_n 0, 1) := by decide +kernel
theorem dJ9_max_7cf53_1 : decode cJ9_max_7cf53 1 = .ok (.iload_n 1, 1) := by decide +kernel
theorem dJ9_max_7cf53_2 : decode cJ9_max_7cf53 2 = .ok (.if_icmp .lt 7, 3) := by decide +kernel
theorem dJ9_max_7cf53_5 : decode cJ9_max_7cf53 5 = .ok (.iload_n 0, 1) := by decide +kernel
theorem dJ9_max_7cf53_6 : decode cJ9_max_7cf53 6 = .ok (.goto 4, 3) := by decide +kernel
theorem dJ9_max_7cf53_9 : decode cJ9_max_7cf53 9 = .ok (.iload_n 1, 1) := by decide +kernel
theorem dJ9_max_7cf53_10 : decode cJ9_max_7cf53 10 = .ok (.ireturn, 1) := by decide +kernel
theorem dJ9_min_7cf53_0 : decode cJ9_min_7cf53 0 = .ok (.iload_n 0, 1) := by decide +kernel
theorem dJ9_min_7cf53_1 : decode cJ9_min_7cf53 1 = .ok (.iload_n 1, 1) := by decide +kernel
theorem dJ9_min_7cf53_2 : decode cJ9_min_7cf53 2 = .ok (.if_icmp .gt 7, 3) := by decide +kernel
theorem dJ9_min_7cf53_5 : decode cJ9_min_7cf53 5 = .ok (.iload_n 0, 1) := by decide +kernel
theorem dJ9_min_7cf53_6 : decode cJ9_min_7cf53 6 = .ok (.goto 4, 3) := by decide +kernel
theorem dJ9_min_7cf53_9 : decode cJ9_min_7cf53 9 = .ok (.iload_n 1, 1) := by decide +kernel
theorem dJ9_min_7cf53_10 : decode cJ9_min_7cf53 10 = .ok (.ireturn, 1) := by decide +kernel
theorem dL_law_0 : decode cL_law 0 = .ok (.new 7, 3) := by decide +kernel
theorem dL_law_3 : decode cL_law 3 = .ok (.dup, 1) := by decide +kernel
theorem dL_law_4 : decode cL_law 4 = .ok (.invokespecial 9, 3) := by decide +kernel
theorem dL_law_7 : decode cL_law 7 = .ok (.astore_n 1, 1) := by decide +kernel
theorem dL_law_8 : decode cL_law 8 = .ok (.new 10, 3) := by decide +kernel
theorem dL_law_11 : decode cL_law 11 = .ok (.dup, 1) := by decide +kernel
theorem dL_law_12 : decode cL_law 12 = .ok (.invokespecial 12, 3) := by decide +kernel
theorem dL_law_15 : decode cL_law 15 = .ok (.astore_n 2, 1) := by decide +kernel
theorem dL_law_16 : decode cL_law 16 = .ok (.iconst 0, 1) := by decide +kernel
theorem dL_law_17 : decode cL_law 17 = .ok (.istore_n 3, 1) := by decide +kernel
theorem dL_law_18 : decode cL_law 18 = .ok (.iload_n 3, 1) := by decide +kernel
theorem dL_law_19 : decode cL_law 19 = .ok (.aload_n 0, 1) := by decide +kernel
theorem dL_law_20 : decode cL_law 20 = .ok (.arraylength, 1) := by decide +kernel
theorem dL_law_21 : decode cL_law 21 = .ok (.bipush 7, 2) := by decide +kernel
theorem dL_law_23 : decode cL_law 23 = .ok (.isub, 1) := by decide +kernel
theorem dL_law_24 : decode cL_law 24 = .ok (.if_icmp .gt 1479, 3) := by decide +kernel
theorem dL_law_27 : decode cL_law 27 = .ok (.aload_n 0, 1) := by decide +kernel
theorem dL_law_28 : decode cL_law 28 = .ok (.iload_n 3, 1) := by decide +kernel
theorem dL_law_29 : decode cL_law 29 = .ok (.iaload, 1) := by decide +kernel
theorem dL_law_30 : decode cL_law 30 = .ok (.bipush 63, 2) := by decide +kernel
theorem dL_law_32 : decode cL_law 32 = .ok (.iand, 1) := by decide +kernel
theorem dL_law_33 : decode cL_law 33 = .ok (.tableswitch 1464 0 34 #[155, 178, 191, 224, 257, 290, 313, 336, 369, 392, 425, 448, 461, 484, 507, 530, 563, 586, 619, 642, 685, 728, 751, 815, 858, 901, 944, 967, 1051, 1114, 1177, 1240, 1303, 1366, 1441], 155) := by decide +kernel
theorem dL_law_188 : decode cL_law 188 = .ok (.aload_n 1, 1) := by decide +kernel
theorem dL_law_189 : decode cL_law 189 = .ok (.aload_n 0, 1) := by decide +kernel
theorem dL_law_190 : decode cL_law 190 = .ok (.iload_n 3, 1) := by decide +kernel
theorem dL_law_191 : decode cL_law 191 = .ok (.iconst 1, 1) := by decide +kernel
theorem dL_law_192 : decode cL_law 192 = .ok (.iadd, 1) := by decide +kernel
theorem dL_law_193 : decode cL_law 193 = .ok (.iaload, 1) := by decide +kernel
theorem dL_law_194 : decode cL_law 194 = .ok (.invokevirtual 13, 3) := by decide +kernel
theorem dL_law_197 : decode cL_law 197 = .ok (.aload_n 2, 1) := by decide +kernel
theorem dL_law_198 : decode cL_law 198 = .ok (.aload_n 0, 1) := by decide +kernel
theorem dL_law_199 : decode cL_law 199 = .ok (.iload_n 3, 1) := by decide +kernel
theorem dL_law_200 : decode cL_law 200 = .ok (.iconst 1, 1) := by decide +kernel
theorem dL_law_201 : decode cL_law 201 = .ok (.iadd, 1) := by decide +kernel
theorem dL_law_202 : decode cL_law 202 = .ok (.iaload, 1) := by decide +kernel
theorem dL_law_203 : decode cL_law 203 = .ok (.invokevirtual 17, 3) := by decide +kernel
theorem dL_law_206 : decode cL_law 206 = .ok (.if_icmp .eq 1291, 3) := by decide +kernel
theorem dL_law_209 : decode cL_law 209 = .ok (.iconst 0, 1) := by decide +kernel
theorem dL_law_210 : decode cL_law 210 = .ok (.ireturn, 1) := by decide +kernel
theorem dL_law_211 : decode cL_law 211 = .ok (.aload_n 1, 1) := by decide +kernel
theorem dL_law_212 : decode cL_law 212 = .ok (.invokevirtual 18, 3) := by decide +kernel
theorem dL_law_215 : decode cL_law 215 = .ok (.aload_n 2, 1) := by decide +kernel
theorem dL_law_216 : decode cL_law 216 = .ok (.invokevirtual 22, 3) := by decide +kernel
theorem dL_law_219 : decode cL_law 219 = .ok (.if_icmp .eq 1278, 3) := by decide +kernel
theorem dL_law_222 : decode cL_law 222 = .ok (.iconst 0, 1) := by decide +kernel
theorem dL_law_223 : decode cL_law 223 = .ok (.ireturn, 1) := by decide +kernel
theorem dL_law_224 : decode cL_law 224 = .ok (.aload_n 1, 1) := by decide +kernel
theorem dL_law_225 : decode cL_law 225 = .ok (.aload_n 0, 1) := by decide +kernel
theorem dL_law_226 : decode cL_law 226 = .ok (.iload_n 3, 1) := by decide +kernel
theorem dL_law_227 : decode cL_law 227 = .ok (.iconst 1, 1) := by decide +kernel
theorem dL_law_228 : decode cL_law 228 = .ok (.iadd, 1) := by decide +kernel
theorem dL_law_229 : decode cL_law 229 = .ok (.iaload, 1) := by decide +kernel
theorem dL_law_230 : decode cL_law 230 = .ok (.aload_n 0, 1) := by decide +kernel
theorem dL_law_231 : decode cL_law 231 = .ok (.iload_n 3, 1) := by decide +kernel
theorem dL_law_232 : decode cL_law 232 = .ok (.iconst 2, 1) := by decide +kernel
theorem dL_law_233 : decode cL_law 233 = .ok (.iadd, 1) := by decide +kernel
theorem dL_law_234 : decode cL_law 234 = .ok (.iaload, 1) := by decide +kernel
theorem dL_law_235 : decode cL_law 235 = .ok (.invokevirtual 23, 3) := by decide +kernel
theorem dL_law_238 : decode cL_law 238 = .ok (.aload_n 2, 1) := by decide +kernel
theorem dL_law_239 : decode cL_law 239 = .ok (.aload_n 0, 1) := by decide +kernel
theorem dL_law_240 : decode cL_law 240 = .ok (.iload_n 3, 1) := by decide +kernel
theorem dL_law_241 : decode cL_law 241 = .ok (.iconst 1, 1) := by decide +kernel
theorem dL_law_242 : decode cL_law 242 = .ok (.iadd, 1) := by decide +kernel
theorem dL_law_243 : decode cL_law 243 = .ok (.iaload, 1) := by decide +kernel
theorem dL_law_244 : decode cL_law 244 = .ok (.aload_n 0, 1) := by decide +kernel
theorem dL_law_245 : decode cL_law 245 = .ok (.iload_n 3, 1) := by decide +kernel
theorem dL_law_246 : decode cL_law 246 = .ok (.iconst 2, 1) := by decide +kernel
theorem dL_law_247 : decode cL_law 247 = .ok (.iadd, 1) := by decide +kernel
theorem dL_law_248 : decode cL_law 248 = .ok (.iaload, 1) := by decide +kernel
theorem dL_law_249 : decode cL_law 249 = .ok (.invokevirtual 27, 3) := by decide +kernel
theorem dL_law_252 : decode cL_law 252 = .ok (.if_icmp .eq 1245, 3) := by decide +kernel
theorem dL_law_255 : decode cL_law 255 = .ok (.iconst 0, 1) := by decide +kernel
theorem dL_law_256 : decode cL_law 256 = .ok (.ireturn, 1) := by decide +kernel
theorem dL_law_257 : decode cL_law 257 = .ok (.aload_n 1, 1) := by decide +kernel
theorem dL_law_258 : decode cL_law 258 = .ok (.aload_n 0, 1) := by decide +kernel
theorem dL_law_259 : decode cL_law 259 = .ok (.iload_n 3, 1) := by decide +kernel
theorem dL_law_260 : decode cL_law 260 = .ok (.iconst 1, 1) := by decide +kernel
theorem dL_law_261 : decode cL_law 261 = .ok (.iadd, 1) := by decide +kernel
theorem dL_law_262 : decode cL_law 262 = .ok (.iaload, 1) := by decide +kernel
theorem dL_law_263 : decode cL_law 263 = .ok (.aload_n 0, 1) := by decide +kernel
theorem dL_law_264 : decode cL_law 264 = .ok (.iload_n 3, 1) := by decide +kernel
theorem dL_law_265 : decode cL_law 265 = .ok (.iconst 2, 1) := by decide +kernel
theorem dL_law_266 : decode cL_law 266 = .ok (.iadd, 1) := by decide +kernel
theorem dL_law_267 : decode cL_law 267 = .ok (.iaload, 1) := by decide +kernel
theorem dL_law_268 : decode cL_law 268 = .ok (.invokevirtual 28, 3) := by decide +kernel
theorem dL_law_271 : decode cL_law 271 = .ok (.aload_n 2, 1) := by decide +kernel
theorem dL_law_272 : decode cL_law 272 = .ok (.aload_n 0, 1) := by decide +kernel
theorem dL_law_273 : decode cL_law 273 = .ok (.iload_n 3, 1) := by decide +kernel
theorem dL_law_274 : decode cL_law 274 = .ok (.iconst 1, 1) := by decide +kernel
theorem dL_law_275 : decode cL_law 275 = .ok (.iadd, 1) := by decide +kernel
theorem dL_law_276 : decode cL_law 276 = .ok (.iaload, 1) := by decide +kernel
theorem dL_law_277 : decode cL_law 277 = .ok (.aload_n 0, 1) := by decide +kernel
theorem dL_law_278 : decode cL_law 278 = .ok (.iload_n 3, 1) := by decide +kernel
theorem dL_law_279 : decode cL_law 279 = .ok (.iconst 2, 1) := by decide +kernel
theorem dL_law_280 : decode cL_law 280 = .ok (.iadd, 1) := by decide +kernel
theorem dL_law_281 : decode cL_law 281 = .ok (.iaload, 1) := by decide +kernel
theorem dL_law_282 : decode cL_law 282 = .ok (.invokevirtual 31, 3) := by decide +kernel
theorem dL_law_285 : decode cL_law 285 = .ok (.if_icmp .eq 1212, 3) := by decide +kernel
theorem dL_law_288 : decode cL_law 288 = .ok (.iconst 0, 1) := by decide +kernel
theorem dL_law_289 : decode cL_law 289 = .ok (.ireturn, 1) := by decide +kernel
theorem dL_law_290 : decode cL_law 290 = .ok (.aload_n 1, 1) := by decide +kernel
theorem dL_law_291 : decode cL_law 291 = .ok (.aload_n 0, 1) := by decide +kernel
theorem dL_law_292 : decode cL_law 292 = .ok (.iload_n 3, 1) := by decide +kernel
theorem dL_law_293 : decode cL_law 293 = .ok (.iconst 1, 1) := by decide +kernel
theorem dL_law_294 : decode cL_law 294 = .ok (.iadd, 1) := by decide +kernel
theorem dL_law_295 : decode cL_law 295 = .ok (.iaload, 1) := by decide +kernel
theorem dL_law_296 : decode cL_law 296 = .ok (.aload_n 0, 1) := by decide +kernel
theorem dL_law_297 : decode cL_law 297 = .ok (.iload_n 3, 1) := by decide +kernel
theorem dL_law_298 : decode cL_law 298 = .ok (.iconst 2, 1) := by decide +kernel
theorem dL_law_299 : decode cL_law 299 = .ok (.iadd, 1) := by decide +kernel
theorem dL_law_300 : decode cL_law 300 = .ok (.iaload, 1) := by decide +kernel
theorem dL_law_301 : decode cL_law 301 = .ok (.invokevirtual 32, 3) := by decide +kernel
theorem dL_law_304 : decode cL_law 304 = .ok (.aload_n 2, 1) := by decide +kernel
theorem dL_law_305 : decode cL_law 305 = .ok (.aload_n 0, 1) := by decide +kernel
theorem dL_law_306 : decode cL_law 306 = .ok (.iload_n 3, 1) := by decide +kernel
theorem dL_law_307 : decode cL_law 307 = .ok (.iconst 1, 1) := by decide +kernel
theorem dL_law_308 : decode cL_law 308 = .ok (.iadd, 1) := by decide +kernel
theorem dL_law_309 : decode cL_law 309 = .ok (.iaload, 1) := by decide +kernel
theorem dL_law_310 : decode cL_law 310 = .ok (.aload_n 0, 1) := by decide +kernel
theorem dL_law_311 : decode cL_law 311 = .ok (.iload_n 3, 1) := by decide +kernel
theorem dL_law_312 : decode cL_law 312 = .ok (.iconst 2, 1) := by decide +kernel
theorem dL_law_313 : decode cL_law 313 = .ok (.iadd, 1) := by decide +kernel
theorem dL_law_314 : decode cL_law 314 = .ok (.iaload, 1) := by decide +kernel
theorem dL_law_315 : decode cL_law 315 = .ok (.invokevirtual 35, 3) := by decide +kernel
theorem dL_law_318 : decode cL_law 318 = .ok (.if_icmp .eq 1179, 3) := by decide +kernel
theorem dL_law_321 : decode cL_law 321 = .ok (.iconst 0, 1) := by decide +kernel
theorem dL_law_322 : decode cL_law 322 = .ok (.ireturn, 1) := by decide +kernel
theorem dL_law_323 : decode cL_law 323 = .ok (.aload_n 1, 1) := by decide +kernel
theorem dL_law_324 : decode cL_law 324 = .ok (.aload_n 0, 1) := by decide +kernel
theorem dL_law_325 : decode cL_law 325 = .ok (.iload_n 3, 1) := by decide +kernel
theorem dL_law_326 : decode cL_law 326 = .ok (.iconst 1, 1) := by decide +kernel
theorem dL_law_327 : decode cL_law 327 = .ok (.iadd, 1) := by decide +kernel
theorem dL_law_328 : decode cL_law 328 = .ok (.iaload, 1) := by decide +kernel
theorem dL_law_329 : decode cL_law 329 = .ok (.invokevirtual 36, 3) := by decide +kernel
theorem dL_law_332 : decode cL_law 332 = .ok (.aload_n 2, 1) := by decide +kernel
theorem dL_law_333 : decode cL_law 333 = .ok (.aload_n 0, 1) := by decide +kernel
theorem dL_law_334 : decode cL_law 334 = .ok (.iload_n 3, 1) := by decide +kernel
theorem dL_law_335 : decode cL_law 335 = .ok (.iconst 1, 1) := by decide +kernel
theorem dL_law_336 : decode cL_law 336 = .ok (.iadd, 1) := by decide +kernel
theorem dL_law_337 : decode cL_law 337 = .ok (.iaload, 1) := by decide +kernel
theorem dL_law_338 : decode cL_law 338 = .ok (.invokevirtual 39, 3) := by decide +kernel
theorem dL_law_341 : decode cL_law 341 = .ok (.if_icmp .eq 1156, 3) := by decide +kernel
theorem dL_law_344 : decode cL_law 344 = .ok (.iconst 0, 1) := by decide +kernel
theorem dL_law_345 : decode cL_law 345 = .ok (.ireturn, 1) := by decide +kernel
theorem dL_law_346 : decode cL_law 346 = .ok (.aload_n 1, 1) := by decide +kernel
theorem dL_law_347 : decode cL_law 347 = .ok (.aload_n 0, 1) := by decide +kernel
theorem dL_law_348 : decode cL_law 348 = .ok (.iload_n 3, 1) := by decide +kernel
theorem dL_law_349 : decode cL_law 349 = .ok (.iconst 1, 1) := by decide +kernel
theorem dL_law_350 : decode cL_law 350 = .ok (.iadd, 1) := by decide +kernel
theorem dL_law_351 : decode cL_law 351 = .ok (.iaload, 1) := by decide +kernel
theorem dL_law_352 : decode cL_law 352 = .ok (.invokevirtual 40, 3) := by decide +kernel
theorem dL_law_355 : decode cL_law 355 = .ok (.aload_n 2, 1) := by decide +kernel
theorem dL_law_356 : decode cL_law 356 = .ok (.aload_n 0, 1) := by decide +kernel
theorem dL_law_357 : decode cL_law 357 = .ok (.iload_n 3, 1) := by decide +kernel
theorem dL_law_358 : decode cL_law 358 = .ok (.iconst 1, 1) := by decide +kernel
theorem dL_law_359 : decode cL_law 359 = .ok (.iadd, 1) := by decide +kernel
theorem dL_law_360 : decode cL_law 360 = .ok (.iaload, 1) := by decide +kernel
theorem dL_law_361 : decode cL_law 361 = .ok (.invokevirtual 43, 3) := by decide +kernel
theorem dL_law_364 : decode cL_law 364 = .ok (.if_icmp .eq 1133, 3) := by decide +kernel
theorem dL_law_367 : decode cL_law 367 = .ok (.iconst 0, 1) := by decide +kernel
theorem dL_law_368 : decode cL_law 368 = .ok (.ireturn, 1) := by decide +kernel
theorem dL_law_369 : decode cL_law 369 = .ok (.aload_n 1, 1) := by decide +kernel
theorem dL_law_370 : decode cL_law 370 = .ok (.aload_n 0, 1) := by decide +kernel
theorem dL_law_371 : decode cL_law 371 = .ok (.iload_n 3, 1) := by decide +kernel
theorem dL_law_372 : decode cL_law 372 = .ok (.iconst 1, 1) := by decide +kernel
theorem dL_law_373 : decode cL_law 373 = .ok (.iadd, 1) := by decide +kernel
theorem dL_law_374 : decode cL_law 374 = .ok (.iaload, 1) := by decide +kernel
theorem dL_law_375 : decode cL_law 375 = .ok (.aload_n 0, 1) := by decide +kernel
theorem dL_law_376 : decode cL_law 376 = .ok (.iload_n 3, 1) := by decide +kernel
theorem dL_law_377 : decode cL_law 377 = .ok (.iconst 2, 1) := by decide +kernel
theorem dL_law_378 : decode cL_law 378 = .ok (.iadd, 1) := by decide +kernel
theorem dL_law_379 : decode cL_law 379 = .ok (.iaload, 1) := by decide +kernel
theorem dL_law_380 : decode cL_law 380 = .ok (.invokevirtual 44, 3) := by decide +kernel
theorem dL_law_383 : decode cL_law 383 = .ok (.aload_n 2, 1) := by decide +kernel
theorem dL_law_384 : decode cL_law 384 = .ok (.aload_n 0, 1) := by decide +kernel
theorem dL_law_385 : decode cL_law 385 = .ok (.iload_n 3, 1) := by decide +kernel
theorem dL_law_386 : decode cL_law 386 = .ok (.iconst 1, 1) := by decide +kernel
theorem dL_law_387 : decode cL_law 387 = .ok (.iadd, 1) := by decide +kernel
theorem dL_law_388 : decode cL_law 388 = .ok (.iaload, 1) := by decide +kernel
theorem dL_law_389 : decode cL_law 389 = .ok (.aload_n 0, 1) := by decide +kernel
theorem dL_law_390 : decode cL_law 390 = .ok (.iload_n 3, 1) := by decide +kernel
theorem dL_law_391 : decode cL_law 391 = .ok (.iconst 2, 1) := by decide +kernel
theorem dL_law_392 : decode cL_law 392 = .ok (.iadd, 1) := by decide +kernel
theorem dL_law_393 : decode cL_law 393 = .ok (.iaload, 1) := by decide +kernel
theorem dL_law_394 : decode cL_law 394 = .ok (.invokevirtual 47, 3) := by decide +kernel
theorem dL_law_397 : decode cL_law 397 = .ok (.if_icmp .eq 1100, 3) := by decide +kernel
theorem dL_law_400 : decode cL_law 400 = .ok (.iconst 0, 1) := by decide +kernel
theorem dL_law_401 : decode cL_law 401 = .ok (.ireturn, 1) := by decide +kernel
theorem dL_law_402 : decode cL_law 402 = .ok (.aload_n 1, 1) := by decide +kernel
theorem dL_law_403 : decode cL_law 403 = .ok (.aload_n 0, 1) := by decide +kernel
theorem dL_law_404 : decode cL_law 404 = .ok (.iload_n 3, 1) := by decide +kernel
theorem dL_law_405 : decode cL_law 405 = .ok (.iconst 1, 1) := by decide +kernel
theorem dL_law_406 : decode cL_law 406 = .ok (.iadd, 1) := by decide +kernel
theorem dL_law_407 : decode cL_law 407 = .ok (.iaload, 1) := by decide +kernel
theorem dL_law_408 : decode cL_law 408 = .ok (.invokevirtual 48, 3) := by decide +kernel
theorem dL_law_411 : decode cL_law 411 = .ok (.aload_n 2, 1) := by decide +kernel
theorem dL_law_412 : decode cL_law 412 = .ok (.aload_n 0, 1) := by decide +kernel
theorem dL_law_413 : decode cL_law 413 = .ok (.iload_n 3, 1) := by decide +kernel
theorem dL_law_414 : decode cL_law 414 = .ok (.iconst 1, 1) := by decide +kernel
theorem dL_law_415 : decode cL_law 415 = .ok (.iadd, 1) := by decide +kernel
theorem dL_law_416 : decode cL_law 416 = .ok (.iaload, 1) := by decide +kernel
theorem dL_law_417 : decode cL_law 417 = .ok (.invokevirtual 51, 3) := by decide +kernel
theorem dL_law_420 : decode cL_law 420 = .ok (.if_icmp .eq 1077, 3) := by decide +kernel
theorem dL_law_423 : decode cL_law 423 = .ok (.iconst 0, 1) := by decide +kernel
theorem dL_law_424 : decode cL_law 424 = .ok (.ireturn, 1) := by decide +kernel
theorem dL_law_425 : decode cL_law 425 = .ok (.aload_n 1, 1) := by decide +kernel
theorem dL_law_426 : decode cL_law 426 = .ok (.aload_n 0, 1) := by decide +kernel
theorem dL_law_427 : decode cL_law 427 = .ok (.iload_n 3, 1) := by decide +kernel
theorem dL_law_428 : decode cL_law 428 = .ok (.iconst 1, 1) := by decide +kernel
theorem dL_law_429 : decode cL_law 429 = .ok (.iadd, 1) := by decide +kernel
theorem dL_law_430 : decode cL_law 430 = .ok (.iaload, 1) := by decide +kernel
theorem dL_law_431 : decode cL_law 431 = .ok (.aload_n 0, 1) := by decide +kernel
theorem dL_law_432 : decode cL_law 432 = .ok (.iload_n 3, 1) := by decide +kernel
theorem dL_law_433 : decode cL_law 433 = .ok (.iconst 2, 1) := by decide +kernel
theorem dL_law_434 : decode cL_law 434 = .ok (.iadd, 1) := by decide +kernel
theorem dL_law_435 : decode cL_law 435 = .ok (.iaload, 1) := by decide +kernel
theorem dL_law_436 : decode cL_law 436 = .ok (.invokevirtual 52, 3) := by decide +kernel
theorem dL_law_439 : decode cL_law 439 = .ok (.aload_n 2, 1) := by decide +kernel
theorem dL_law_440 : decode cL_law 440 = .ok (.aload_n 0, 1) := by decide +kernel
theorem dL_law_441 : decode cL_law 441 = .ok (.iload_n 3, 1) := by decide +kernel
theorem dL_law_442 : decode cL_law 442 = .ok (.iconst 1, 1) := by decide +kernel
theorem dL_law_443 : decode cL_law 443 = .ok (.iadd, 1) := by decide +kernel
theorem dL_law_444 : decode cL_law 444 = .ok (.iaload, 1) := by decide +kernel
theorem dL_law_445 : decode cL_law 445 = .ok (.aload_n 0, 1) := by decide +kernel
theorem dL_law_446 : decode cL_law 446 = .ok (.iload_n 3, 1) := by decide +kernel
theorem dL_law_447 : decode cL_law 447 = .ok (.iconst 2, 1) := by decide +kernel
theorem dL_law_448 : decode cL_law 448 = .ok (.iadd, 1) := by decide +kernel
theorem dL_law_449 : decode cL_law 449 = .ok (.iaload, 1) := by decide +kernel
theorem dL_law_450 : decode cL_law 450 = .ok (.invokevirtual 55, 3) := by decide +kernel
theorem dL_law_453 : decode cL_law 453 = .ok (.if_icmp .eq 1044, 3) := by decide +kernel
theorem dL_law_456 : decode cL_law 456 = .ok (.iconst 0, 1) := by decide +kernel
theorem dL_law_457 : decode cL_law 457 = .ok (.ireturn, 1) := by decide +kernel
theorem dL_law_458 : decode cL_law 458 = .ok (.aload_n 1, 1) := by decide +kernel
theorem dL_law_459 : decode cL_law 459 = .ok (.aload_n 0, 1) := by decide +kernel
theorem dL_law_460 : decode cL_law 460 = .ok (.iload_n 3, 1) := by decide +kernel
theorem dL_law_461 : decode cL_law 461 = .ok (.iconst 1, 1) := by decide +kernel
theorem dL_law_462 : decode cL_law 462 = .ok (.iadd, 1) := by decide +kernel
theorem dL_law_463 : decode cL_law 463 = .ok (.iaload, 1) := by decide +kernel
theorem dL_law_464 : decode cL_law 464 = .ok (.invokevirtual 56, 3) := by decide +kernel
theorem dL_law_467 : decode cL_law 467 = .ok (.aload_n 2, 1) := by decide +kernel
theorem dL_law_468 : decode cL_law 468 = .ok (.aload_n 0, 1) := by decide +kernel
theorem dL_law_469 : decode cL_law 469 = .ok (.iload_n 3, 1) := by decide +kernel
theorem dL_law_470 : decode cL_law 470 = .ok (.iconst 1, 1) := by decide +kernel
theorem dL_law_471 : decode cL_law 471 = .ok (.iadd, 1) := by decide +kernel
theorem dL_law_472 : decode cL_law 472 = .ok (.iaload, 1) := by decide +kernel
theorem dL_law_473 : decode cL_law 473 = .ok (.invokevirtual 59, 3) := by decide +kernel
theorem dL_law_476 : decode cL_law 476 = .ok (.if_icmp .eq 1021, 3) := by decide +kernel
theorem dL_law_479 : decode cL_law 479 = .ok (.iconst 0, 1) := by decide +kernel
theorem dL_law_480 : decode cL_law 480 = .ok (.ireturn, 1) := by decide +kernel
theorem dL_law_481 : decode cL_law 481 = .ok (.aload_n 1, 1) := by decide +kernel
theorem dL_law_482 : decode cL_law 482 = .ok (.invokevirtual 60, 3) := by decide +kernel
theorem dL_law_485 : decode cL_law 485 = .ok (.aload_n 2, 1) := by decide +kernel
theorem dL_law_486 : decode cL_law 486 = .ok (.invokevirtual 63, 3) := by decide +kernel
theorem dL_law_489 : decode cL_law 489 = .ok (.if_icmp .eq 1008, 3) := by decide +kernel
theorem dL_law_492 : decode cL_law 492 = .ok (.iconst 0, 1) := by decide +kernel
theorem dL_law_493 : decode cL_law 493 = .ok (.ireturn, 1) := by decide +kernel
theorem dL_law_494 : decode cL_law 494 = .ok (.aload_n 1, 1) := by decide +kernel
theorem dL_law_495 : decode cL_law 495 = .ok (.aload_n 0, 1) := by decide +kernel
theorem dL_law_496 : decode cL_law 496 = .ok (.iload_n 3, 1) := by decide +kernel
theorem dL_law_497 : decode cL_law 497 = .ok (.iconst 1, 1) := by decide +kernel
theorem dL_law_498 : decode cL_law 498 = .ok (.iadd, 1) := by decide +kernel
theorem dL_law_499 : decode cL_law 499 = .ok (.iaload, 1) := by decide +kernel
theorem dL_law_500 : decode cL_law 500 = .ok (.invokevirtual 64, 3) := by decide +kernel
theorem dL_law_503 : decode cL_law 503 = .ok (.aload_n 2, 1) := by decide +kernel
theorem dL_law_504 : decode cL_law 504 = .ok (.aload_n 0, 1) := by decide +kernel
theorem dL_law_505 : decode cL_law 505 = .ok (.iload_n 3, 1) := by decide +kernel
theorem dL_law_506 : decode cL_law 506 = .ok (.iconst 1, 1) := by decide +kernel
theorem dL_law_507 : decode cL_law 507 = .ok (.iadd, 1) := by decide +kernel
theorem dL_law_508 : decode cL_law 508 = .ok (.iaload, 1) := by decide +kernel
theorem dL_law_509 : decode cL_law 509 = .ok (.invokevirtual 67, 3) := by decide +kernel
theorem dL_law_512 : decode cL_law 512 = .ok (.if_icmp .eq 985, 3) := by decide +kernel
theorem dL_law_515 : decode cL_law 515 = .ok (.iconst 0, 1) := by decide +kernel
theorem dL_law_516 : decode cL_law 516 = .ok (.ireturn, 1) := by decide +kernel
theorem dL_law_517 : decode cL_law 517 = .ok (.aload_n 1, 1) := by decide +kernel
theorem dL_law_518 : decode cL_law 518 = .ok (.aload_n 0, 1) := by decide +kernel
theorem dL_law_519 : decode cL_law 519 = .ok (.iload_n 3, 1) := by decide +kernel
theorem dL_law_520 : decode cL_law 520 = .ok (.iconst 1, 1) := by decide +kernel
theorem dL_law_521 : decode cL_law 521 = .ok (.iadd, 1) := by decide +kernel
theorem dL_law_522 : decode cL_law 522 = .ok (.iaload, 1) := by decide +kernel
theorem dL_law_523 : decode cL_law 523 = .ok (.invokevirtual 68, 3) := by decide +kernel
theorem dL_law_526 : decode cL_law 526 = .ok (.aload_n 2, 1) := by decide +kernel
theorem dL_law_527 : decode cL_law 527 = .ok (.aload_n 0, 1) := by decide +kernel
theorem dL_law_528 : decode cL_law 528 = .ok (.iload_n 3, 1) := by decide +kernel
theorem dL_law_529 : decode cL_law 529 = .ok (.iconst 1, 1) := by decide +kernel
theorem dL_law_530 : decode cL_law 530 = .ok (.iadd, 1) := by decide +kernel
theorem dL_law_531 : decode cL_law 531 = .ok (.iaload, 1) := by decide +kernel
theorem dL_law_532 : decode cL_law 532 = .ok (.invokevirtual 71, 3) := by decide +kernel
theorem dL_law_535 : decode cL_law 535 = .ok (.if_icmp .eq 962, 3) := by decide +kernel
theorem dL_law_538 : decode cL_law 538 = .ok (.iconst 0, 1) := by decide +kernel
theorem dL_law_539 : decode cL_law 539 = .ok (.ireturn, 1) := by decide +kernel
theorem dL_law_540 : decode cL_law 540 = .ok (.aload_n 1, 1) := by decide +kernel
theorem dL_law_541 : decode cL_law 541 = .ok (.aload_n 0, 1) := by decide +kernel
theorem dL_law_542 : decode cL_law 542 = .ok (.iload_n 3, 1) := by decide +kernel
theorem dL_law_543 : decode cL_law 543 = .ok (.iconst 1, 1) := by decide +kernel
theorem dL_law_544 : decode cL_law 544 = .ok (.iadd, 1) := by decide +kernel
theorem dL_law_545 : decode cL_law 545 = .ok (.iaload, 1) := by decide +kernel
theorem dL_law_546 : decode cL_law 546 = .ok (.invokevirtual 72, 3) := by decide +kernel
theorem dL_law_549 : decode cL_law 549 = .ok (.aload_n 2, 1) := by decide +kernel
theorem dL_law_550 : decode cL_law 550 = .ok (.aload_n 0, 1) := by decide +kernel
theorem dL_law_551 : decode cL_law 551 = .ok (.iload_n 3, 1) := by decide +kernel
theorem dL_law_552 : decode cL_law 552 = .ok (.iconst 1, 1) := by decide +kernel
theorem dL_law_553 : decode cL_law 553 = .ok (.iadd, 1) := by decide +kernel
theorem dL_law_554 : decode cL_law 554 = .ok (.iaload, 1) := by decide +kernel
theorem dL_law_555 : decode cL_law 555 = .ok (.invokevirtual 75, 3) := by decide +kernel
theorem dL_law_558 : decode cL_law 558 = .ok (.if_icmp .eq 939, 3) := by decide +kernel
theorem dL_law_561 : decode cL_law 561 = .ok (.iconst 0, 1) := by decide +kernel
theorem dL_law_562 : decode cL_law 562 = .ok (.ireturn, 1) := by decide +kernel
theorem dL_law_563 : decode cL_law 563 = .ok (.aload_n 1, 1) := by decide +kernel
theorem dL_law_564 : decode cL_law 564 = .ok (.aload_n 0, 1) := by decide +kernel
theorem dL_law_565 : decode cL_law 565 = .ok (.iload_n 3, 1) := by decide +kernel
theorem dL_law_566 : decode cL_law 566 = .ok (.iconst 1, 1) := by decide +kernel
theorem dL_law_567 : decode cL_law 567 = .ok (.iadd, 1) := by decide +kernel
theorem dL_law_568 : decode cL_law 568 = .ok (.iaload, 1) := by decide +kernel
theorem dL_law_569 : decode cL_law 569 = .ok (.aload_n 0, 1) := by decide +kernel
theorem dL_law_570 : decode cL_law 570 = .ok (.iload_n 3, 1) := by decide +kernel
theorem dL_law_571 : decode cL_law 571 = .ok (.iconst 2, 1) := by decide +kernel
theorem dL_law_572 : decode cL_law 572 = .ok (.iadd, 1) := by decide +kernel
theorem dL_law_573 : decode cL_law 573 = .ok (.iaload, 1) := by decide +kernel
theorem dL_law_574 : decode cL_law 574 = .ok (.invokevirtual 76, 3) := by decide +kernel
theorem dL_law_577 : decode cL_law 577 = .ok (.aload_n 2, 1) := by decide +kernel
theorem dL_law_578 : decode cL_law 578 = .ok (.aload_n 0, 1) := by decide +kernel
theorem dL_law_579 : decode cL_law 579 = .ok (.iload_n 3, 1) := by decide +kernel
theorem dL_law_580 : decode cL_law 580 = .ok (.iconst 1, 1) := by decide +kernel
theorem dL_law_581 : decode cL_law 581 = .ok (.iadd, 1) := by decide +kernel
theorem dL_law_582 : decode cL_law 582 = .ok (.iaload, 1) := by decide +kernel
theorem dL_law_583 : decode cL_law 583 = .ok (.aload_n 0, 1) := by decide +kernel
theorem dL_law_584 : decode cL_law 584 = .ok (.iload_n 3, 1) := by decide +kernel
theorem dL_law_585 : decode cL_law 585 = .ok (.iconst 2, 1) := by decide +kernel
theorem dL_law_586 : decode cL_law 586 = .ok (.iadd, 1) := by decide +kernel
theorem dL_law_587 : decode cL_law 587 = .ok (.iaload, 1) := by decide +kernel
theorem dL_law_588 : decode cL_law 588 = .ok (.invokevirtual 79, 3) := by decide +kernel
theorem dL_law_591 : decode cL_law 591 = .ok (.if_icmp .eq 906, 3) := by decide +kernel
theorem dL_law_594 : decode cL_law 594 = .ok (.iconst 0, 1) := by decide +kernel
theorem dL_law_595 : decode cL_law 595 = .ok (.ireturn, 1) := by decide +kernel
theorem dL_law_596 : decode cL_law 596 = .ok (.aload_n 1, 1) := by decide +kernel
theorem dL_law_597 : decode cL_law 597 = .ok (.aload_n 0, 1) := by decide +kernel
theorem dL_law_598 : decode cL_law 598 = .ok (.iload_n 3, 1) := by decide +kernel
theorem dL_law_599 : decode cL_law 599 = .ok (.iconst 1, 1) := by decide +kernel
theorem dL_law_600 : decode cL_law 600 = .ok (.iadd, 1) := by decide +kernel
theorem dL_law_601 : decode cL_law 601 = .ok (.iaload, 1) := by decide +kernel
theorem dL_law_602 : decode cL_law 602 = .ok (.invokevirtual 80, 3) := by decide +kernel
theorem dL_law_605 : decode cL_law 605 = .ok (.aload_n 2, 1) := by decide +kernel
theorem dL_law_606 : decode cL_law 606 = .ok (.aload_n 0, 1) := by decide +kernel
theorem dL_law_607 : decode cL_law 607 = .ok (.iload_n 3, 1) := by decide +kernel
theorem dL_law_608 : decode cL_law 608 = .ok (.iconst 1, 1) := by decide +kernel
theorem dL_law_609 : decode cL_law 609 = .ok (.iadd, 1) := by decide +kernel
theorem dL_law_610 : decode cL_law 610 = .ok (.iaload, 1) := by decide +kernel
theorem dL_law_611 : decode cL_law 611 = .ok (.invokevirtual 83, 3) := by decide +kernel
theorem dL_law_614 : decode cL_law 614 = .ok (.if_icmp .eq 883, 3) := by decide +kernel
theorem dL_law_617 : decode cL_law 617 = .ok (.iconst 0, 1) := by decide +kernel
theorem dL_law_618 : decode cL_law 618 = .ok (.ireturn, 1) := by decide +kernel
theorem dL_law_619 : decode cL_law 619 = .ok (.aload_n 1, 1) := by decide +kernel
theorem dL_law_620 : decode cL_law 620 = .ok (.aload_n 0, 1) := by decide +kernel
theorem dL_law_621 : decode cL_law 621 = .ok (.iload_n 3, 1) := by decide +kernel
theorem dL_law_622 : decode cL_law 622 = .ok (.iconst 1, 1) := by decide +kernel
theorem dL_law_623 : decode cL_law 623 = .ok (.iadd, 1) := by decide +kernel
theorem dL_law_624 : decode cL_law 624 = .ok (.iaload, 1) := by decide +kernel
theorem dL_law_625 : decode cL_law 625 = .ok (.aload_n 0, 1) := by decide +kernel
theorem dL_law_626 : decode cL_law 626 = .ok (.iload_n 3, 1) := by decide +kernel
theorem dL_law_627 : decode cL_law 627 = .ok (.iconst 2, 1) := by decide +kernel
theorem dL_law_628 : decode cL_law 628 = .ok (.iadd, 1) := by decide +kernel
theorem dL_law_629 : decode cL_law 629 = .ok (.iaload, 1) := by decide +kernel
theorem dL_law_630 : decode cL_law 630 = .ok (.invokevirtual 84, 3) := by decide +kernel
theorem dL_law_633 : decode cL_law 633 = .ok (.aload_n 2, 1) := by decide +kernel
theorem dL_law_634 : decode cL_law 634 = .ok (.aload_n 0, 1) := by decide +kernel
theorem dL_law_635 : decode cL_law 635 = .ok (.iload_n 3, 1) := by decide +kernel
theorem dL_law_636 : decode cL_law 636 = .ok (.iconst 1, 1) := by decide +kernel
theorem dL_law_637 : decode cL_law 637 = .ok (.iadd, 1) := by decide +kernel
theorem dL_law_638 : decode cL_law 638 = .ok (.iaload, 1) := by decide +kernel
theorem dL_law_639 : decode cL_law 639 = .ok (.aload_n 0, 1) := by decide +kernel
theorem dL_law_640 : decode cL_law 640 = .ok (.iload_n 3, 1) := by decide +kernel
theorem dL_law_641 : decode cL_law 641 = .ok (.iconst 2, 1) := by decide +kernel
theorem dL_law_642 : decode cL_law 642 = .ok (.iadd, 1) := by decide +kernel
theorem dL_law_643 : decode cL_law 643 = .ok (.iaload, 1) := by decide +kernel
theorem dL_law_644 : decode cL_law 644 = .ok (.invokevirtual 87, 3) := by decide +kernel
theorem dL_law_647 : decode cL_law 647 = .ok (.if_icmp .eq 850, 3) := by decide +kernel
theorem dL_law_650 : decode cL_law 650 = .ok (.iconst 0, 1) := by decide +kernel
theorem dL_law_651 : decode cL_law 651 = .ok (.ireturn, 1) := by decide +kernel
theorem dL_law_652 : decode cL_law 652 = .ok (.aload_n 1, 1) := by decide +kernel
theorem dL_law_653 : decode cL_law 653 = .ok (.aload_n 0, 1) := by decide +kernel
theorem dL_law_654 : decode cL_law 654 = .ok (.iload_n 3, 1) := by decide +kernel
theorem dL_law_655 : decode cL_law 655 = .ok (.iconst 1, 1) := by decide +kernel
theorem dL_law_656 : decode cL_law 656 = .ok (.iadd, 1) := by decide +kernel
theorem dL_law_657 : decode cL_law 657 = .ok (.iaload, 1) := by decide +kernel
theorem dL_law_658 : decode cL_law 658 = .ok (.invokevirtual 88, 3) := by decide +kernel
theorem dL_law_661 : decode cL_law 661 = .ok (.aload_n 2, 1) := by decide +kernel
theorem dL_law_662 : decode cL_law 662 = .ok (.aload_n 0, 1) := by decide +kernel
theorem dL_law_663 : decode cL_law 663 = .ok (.iload_n 3, 1) := by decide +kernel
theorem dL_law_664 : decode cL_law 664 = .ok (.iconst 1, 1) := by decide +kernel
theorem dL_law_665 : decode cL_law 665 = .ok (.iadd, 1) := by decide +kernel
theorem dL_law_666 : decode cL_law 666 = .ok (.iaload, 1) := by decide +kernel
theorem dL_law_667 : decode cL_law 667 = .ok (.invokevirtual 91, 3) := by decide +kernel
theorem dL_law_670 : decode cL_law 670 = .ok (.if_icmp .eq 827, 3) := by decide +kernel
theorem dL_law_673 : decode cL_law 673 = .ok (.iconst 0, 1) := by decide +kernel
theorem dL_law_674 : decode cL_law 674 = .ok (.ireturn, 1) := by decide +kernel
theorem dL_law_675 : decode cL_law 675 = .ok (.aload_n 1, 1) := by decide +kernel
theorem dL_law_676 : decode cL_law 676 = .ok (.aload_n 0, 1) := by decide +kernel
theorem dL_law_677 : decode cL_law 677 = .ok (.iload_n 3, 1) := by decide +kernel
theorem dL_law_678 : decode cL_law 678 = .ok (.iconst 1, 1) := by decide +kernel
theorem dL_law_679 : decode cL_law 679 = .ok (.iadd, 1) := by decide +kernel
theorem dL_law_680 : decode cL_law 680 = .ok (.iaload, 1) := by decide +kernel
theorem dL_law_681 : decode cL_law 681 = .ok (.aload_n 0, 1) := by decide +kernel
theorem dL_law_682 : decode cL_law 682 = .ok (.iload_n 3, 1) := by decide +kernel
theorem dL_law_683 : decode cL_law 683 = .ok (.iconst 2, 1) := by decide +kernel
theorem dL_law_684 : decode cL_law 684 = .ok (.iadd, 1) := by decide +kernel
theorem dL_law_685 : decode cL_law 685 = .ok (.iaload, 1) := by decide +kernel
theorem dL_law_686 : decode cL_law 686 = .ok (.aload_n 0, 1) := by decide +kernel
theorem dL_law_687 : decode cL_law 687 = .ok (.iload_n 3, 1) := by decide +kernel
theorem dL_law_688 : decode cL_law 688 = .ok (.iconst 3, 1) := by decide +kernel
theorem dL_law_689 : decode cL_law 689 = .ok (.iadd, 1) := by decide +kernel
theorem dL_law_690 : decode cL_law 690 = .ok (.iaload, 1) := by decide +kernel
theorem dL_law_691 : decode cL_law 691 = .ok (.invokevirtual 92, 3) := by decide +kernel
theorem dL_law_694 : decode cL_law 694 = .ok (.aload_n 2, 1) := by decide +kernel
theorem dL_law_695 : decode cL_law 695 = .ok (.aload_n 0, 1) := by decide +kernel
theorem dL_law_696 : decode cL_law 696 = .ok (.iload_n 3, 1) := by decide +kernel
theorem dL_law_697 : decode cL_law 697 = .ok (.iconst 1, 1) := by decide +kernel
theorem dL_law_698 : decode cL_law 698 = .ok (.iadd, 1) := by decide +kernel
theorem dL_law_699 : decode cL_law 699 = .ok (.iaload, 1) := by decide +kernel
theorem dL_law_700 : decode cL_law 700 = .ok (.aload_n 0, 1) := by decide +kernel
theorem dL_law_701 : decode cL_law 701 = .ok (.iload_n 3, 1) := by decide +kernel
theorem dL_law_702 : decode cL_law 702 = .ok (.iconst 2, 1) := by decide +kernel
theorem dL_law_703 : decode cL_law 703 = .ok (.iadd, 1) := by decide +kernel
theorem dL_law_704 : decode cL_law 704 = .ok (.iaload, 1) := by decide +kernel
theorem dL_law_705 : decode cL_law 705 = .ok (.aload_n 0, 1) := by decide +kernel
theorem dL_law_706 : decode cL_law 706 = .ok (.iload_n 3, 1) := by decide +kernel
theorem dL_law_707 : decode cL_law 707 = .ok (.iconst 3, 1) := by decide +kernel
theorem dL_law_708 : decode cL_law 708 = .ok (.iadd, 1) := by decide +kernel
theorem dL_law_709 : decode cL_law 709 = .ok (.iaload, 1) := by decide +kernel
theorem dL_law_710 : decode cL_law 710 = .ok (.invokevirtual 96, 3) := by decide +kernel
theorem dL_law_713 : decode cL_law 713 = .ok (.if_icmp .eq 784, 3) := by decide +kernel
theorem dL_law_716 : decode cL_law 716 = .ok (.iconst 0, 1) := by decide +kernel
theorem dL_law_717 : decode cL_law 717 = .ok (.ireturn, 1) := by decide +kernel
theorem dL_law_718 : decode cL_law 718 = .ok (.aload_n 1, 1) := by decide +kernel
theorem dL_law_719 : decode cL_law 719 = .ok (.aload_n 0, 1) := by decide +kernel
theorem dL_law_720 : decode cL_law 720 = .ok (.iload_n 3, 1) := by decide +kernel
theorem dL_law_721 : decode cL_law 721 = .ok (.iconst 1, 1) := by decide +kernel
theorem dL_law_722 : decode cL_law 722 = .ok (.iadd, 1) := by decide +kernel
theorem dL_law_723 : decode cL_law 723 = .ok (.iaload, 1) := by decide +kernel
theorem dL_law_724 : decode cL_law 724 = .ok (.aload_n 0, 1) := by decide +kernel
theorem dL_law_725 : decode cL_law 725 = .ok (.iload_n 3, 1) := by decide +kernel
theorem dL_law_726 : decode cL_law 726 = .ok (.iconst 2, 1) := by decide +kernel
theorem dL_law_727 : decode cL_law 727 = .ok (.iadd, 1) := by decide +kernel
theorem dL_law_728 : decode cL_law 728 = .ok (.iaload, 1) := by decide +kernel
theorem dL_law_729 : decode cL_law 729 = .ok (.aload_n 0, 1) := by decide +kernel
theorem dL_law_730 : decode cL_law 730 = .ok (.iload_n 3, 1) := by decide +kernel
theorem dL_law_731 : decode cL_law 731 = .ok (.iconst 3, 1) := by decide +kernel
theorem dL_law_732 : decode cL_law 732 = .ok (.iadd, 1) := by decide +kernel
theorem dL_law_733 : decode cL_law 733 = .ok (.iaload, 1) := by decide +kernel
theorem dL_law_734 : decode cL_law 734 = .ok (.invokevirtual 97, 3) := by decide +kernel
theorem dL_law_737 : decode cL_law 737 = .ok (.aload_n 2, 1) := by decide +kernel
theorem dL_law_738 : decode cL_law 738 = .ok (.aload_n 0, 1) := by decide +kernel
theorem dL_law_739 : decode cL_law 739 = .ok (.iload_n 3, 1) := by decide +kernel
theorem dL_law_740 : decode cL_law 740 = .ok (.iconst 1, 1) := by decide +kernel
theorem dL_law_741 : decode cL_law 741 = .ok (.iadd, 1) := by decide +kernel
theorem dL_law_742 : decode cL_law 742 = .ok (.iaload, 1) := by decide +kernel
theorem dL_law_743 : decode cL_law 743 = .ok (.aload_n 0, 1) := by decide +kernel
theorem dL_law_744 : decode cL_law 744 = .ok (.iload_n 3, 1) := by decide +kernel
theorem dL_law_745 : decode cL_law 745 = .ok (.iconst 2, 1) := by decide +kernel
theorem dL_law_746 : decode cL_law 746 = .ok (.iadd, 1) := by decide +kernel
theorem dL_law_747 : decode cL_law 747 = .ok (.iaload, 1) := by decide +kernel
theorem dL_law_748 : decode cL_law 748 = .ok (.aload_n 0, 1) := by decide +kernel
theorem dL_law_749 : decode cL_law 749 = .ok (.iload_n 3, 1) := by decide +kernel
theorem dL_law_750 : decode cL_law 750 = .ok (.iconst 3, 1) := by decide +kernel
theorem dL_law_751 : decode cL_law 751 = .ok (.iadd, 1) := by decide +kernel
theorem dL_law_752 : decode cL_law 752 = .ok (.iaload, 1) := by decide +kernel
theorem dL_law_753 : decode cL_law 753 = .ok (.invokevirtual 100, 3) := by decide +kernel
theorem dL_law_756 : decode cL_law 756 = .ok (.if_icmp .eq 741, 3) := by decide +kernel
theorem dL_law_759 : decode cL_law 759 = .ok (.iconst 0, 1) := by decide +kernel
theorem dL_law_760 : decode cL_law 760 = .ok (.ireturn, 1) := by decide +kernel
theorem dL_law_761 : decode cL_law 761 = .ok (.aload_n 1, 1) := by decide +kernel
theorem dL_law_762 : decode cL_law 762 = .ok (.aload_n 0, 1) := by decide +kernel
theorem dL_law_763 : decode cL_law 763 = .ok (.iload_n 3, 1) := by decide +kernel
theorem dL_law_764 : decode cL_law 764 = .ok (.iconst 1, 1) := by decide +kernel
theorem dL_law_765 : decode cL_law 765 = .ok (.iadd, 1) := by decide +kernel
theorem dL_law_766 : decode cL_law 766 = .ok (.iaload, 1) := by decide +kernel
theorem dL_law_767 : decode cL_law 767 = .ok (.invokevirtual 101, 3) := by decide +kernel
theorem dL_law_770 : decode cL_law 770 = .ok (.aload_n 2, 1) := by decide +kernel
theorem dL_law_771 : decode cL_law 771 = .ok (.aload_n 0, 1) := by decide +kernel
theorem dL_law_772 : decode cL_law 772 = .ok (.iload_n 3, 1) := by decide +kernel
theorem dL_law_773 : decode cL_law 773 = .ok (.iconst 1, 1) := by decide +kernel
theorem dL_law_774 : decode cL_law 774 = .ok (.iadd, 1) := by decide +kernel
theorem dL_law_775 : decode cL_law 775 = .ok (.iaload, 1) := by decide +kernel
theorem dL_law_776 : decode cL_law 776 = .ok (.invokevirtual 104, 3) := by decide +kernel
theorem dL_law_779 : decode cL_law 779 = .ok (.if_icmp .eq 718, 3) := by decide +kernel
theorem dL_law_782 : decode cL_law 782 = .ok (.iconst 0, 1) := by decide +kernel
theorem dL_law_783 : decode cL_law 783 = .ok (.ireturn, 1) := by decide +kernel
theorem dL_law_784 : decode cL_law 784 = .ok (.aload_n 1, 1) := by decide +kernel
theorem dL_law_785 : decode cL_law 785 = .ok (.aload_n 0, 1) := by decide +kernel
theorem dL_law_786 : decode cL_law 786 = .ok (.iload_n 3, 1) := by decide +kernel
theorem dL_law_787 : decode cL_law 787 = .ok (.iconst 1, 1) := by decide +kernel
theorem dL_law_788 : decode cL_law 788 = .ok (.iadd, 1) := by decide +kernel
theorem dL_law_789 : decode cL_law 789 = .ok (.iaload, 1) := by decide +kernel
theorem dL_law_790 : decode cL_law 790 = .ok (.aload_n 0, 1) := by decide +kernel
theorem dL_law_791 : decode cL_law 791 = .ok (.iload_n 3, 1) := by decide +kernel
theorem dL_law_792 : decode cL_law 792 = .ok (.iconst 2, 1) := by decide +kernel
theorem dL_law_793 : decode cL_law 793 = .ok (.iadd, 1) := by decide +kernel
theorem dL_law_794 : decode cL_law 794 = .ok (.iaload, 1) := by decide +kernel
theorem dL_law_795 : decode cL_law 795 = .ok (.aload_n 0, 1) := by decide +kernel
theorem dL_law_796 : decode cL_law 796 = .ok (.iload_n 3, 1) := by decide +kernel
theorem dL_law_797 : decode cL_law 797 = .ok (.iconst 3, 1) := by decide +kernel
theorem dL_law_798 : decode cL_law 798 = .ok (.iadd, 1) := by decide +kernel
theorem dL_law_799 : decode cL_law 799 = .ok (.iaload, 1) := by decide +kernel
theorem dL_law_800 : decode cL_law 800 = .ok (.aload_n 0, 1) := by decide +kernel
theorem dL_law_801 : decode cL_law 801 = .ok (.iload_n 3, 1) := by decide +kernel
theorem dL_law_802 : decode cL_law 802 = .ok (.iconst 4, 1) := by decide +kernel
theorem dL_law_803 : decode cL_law 803 = .ok (.iadd, 1) := by decide +kernel
theorem dL_law_804 : decode cL_law 804 = .ok (.iaload, 1) := by decide +kernel
theorem dL_law_805 : decode cL_law 805 = .ok (.aload_n 0, 1) := by decide +kernel
theorem dL_law_806 : decode cL_law 806 = .ok (.iload_n 3, 1) := by decide +kernel
theorem dL_law_807 : decode cL_law 807 = .ok (.iconst 5, 1) := by decide +kernel
theorem dL_law_808 : decode cL_law 808 = .ok (.iadd, 1) := by decide +kernel
theorem dL_law_809 : decode cL_law 809 = .ok (.iaload, 1) := by decide +kernel
theorem dL_law_810 : decode cL_law 810 = .ok (.invokevirtual 105, 3) := by decide +kernel
theorem dL_law_813 : decode cL_law 813 = .ok (.aload_n 2, 1) := by decide +kernel
theorem dL_law_814 : decode cL_law 814 = .ok (.aload_n 0, 1) := by decide +kernel
theorem dL_law_815 : decode cL_law 815 = .ok (.iload_n 3, 1) := by decide +kernel
theorem dL_law_816 : decode cL_law 816 = .ok (.iconst 1, 1) := by decide +kernel
theorem dL_law_817 : decode cL_law 817 = .ok (.iadd, 1) := by decide +kernel
theorem dL_law_818 : decode cL_law 818 = .ok (.iaload, 1) := by decide +kernel
theorem dL_law_819 : decode cL_law 819 = .ok (.aload_n 0, 1) := by decide +kernel
theorem dL_law_820 : decode cL_law 820 = .ok (.iload_n 3, 1) := by decide +kernel
theorem dL_law_821 : decode cL_law 821 = .ok (.iconst 2, 1) := by decide +kernel
theorem dL_law_822 : decode cL_law 822 = .ok (.iadd, 1) := by decide +kernel
theorem dL_law_823 : decode cL_law 823 = .ok (.iaload, 1) := by decide +kernel
theorem dL_law_824 : decode cL_law 824 = .ok (.aload_n 0, 1) := by decide +kernel
theorem dL_law_825 : decode cL_law 825 = .ok (.iload_n 3, 1) := by decide +kernel
theorem dL_law_826 : decode cL_law 826 = .ok (.iconst 3, 1) := by decide +kernel
theorem dL_law_827 : decode cL_law 827 = .ok (.iadd, 1) := by decide +kernel
theorem dL_law_828 : decode cL_law 828 = .ok (.iaload, 1) := by decide +kernel
theorem dL_law_829 : decode cL_law 829 = .ok (.aload_n 0, 1) := by decide +kernel
theorem dL_law_830 : decode cL_law 830 = .ok (.iload_n 3, 1) := by decide +kernel
theorem dL_law_831 : decode cL_law 831 = .ok (.iconst 4, 1) := by decide +kernel
theorem dL_law_832 : decode cL_law 832 = .ok (.iadd, 1) := by decide +kernel
theorem dL_law_833 : decode cL_law 833 = .ok (.iaload, 1) := by decide +kernel
theorem dL_law_834 : decode cL_law 834 = .ok (.aload_n 0, 1) := by decide +kernel
theorem dL_law_835 : decode cL_law 835 = .ok (.iload_n 3, 1) := by decide +kernel
theorem dL_law_836 : decode cL_law 836 = .ok (.iconst 5, 1) := by decide +kernel
theorem dL_law_837 : decode cL_law 837 = .ok (.iadd, 1) := by decide +kernel
theorem dL_law_838 : decode cL_law 838 = .ok (.iaload, 1) := by decide +kernel
theorem dL_law_839 : decode cL_law 839 = .ok (.invokevirtual 109, 3) := by decide +kernel
theorem dL_law_842 : decode cL_law 842 = .ok (.lcmp, 1) := by decide +kernel
theorem dL_law_843 : decode cL_law 843 = .ok (.ifCond .eq 654, 3) := by decide +kernel
theorem dL_law_846 : decode cL_law 846 = .ok (.iconst 0, 1) := by decide +kernel
theorem dL_law_847 : decode cL_law 847 = .ok (.ireturn, 1) := by decide +kernel
theorem dL_law_848 : decode cL_law 848 = .ok (.aload_n 1, 1) := by decide +kernel
theorem dL_law_849 : decode cL_law 849 = .ok (.aload_n 0, 1) := by decide +kernel
theorem dL_law_850 : decode cL_law 850 = .ok (.iload_n 3, 1) := by decide +kernel
theorem dL_law_851 : decode cL_law 851 = .ok (.iconst 1, 1) := by decide +kernel
theorem dL_law_852 : decode cL_law 852 = .ok (.iadd, 1) := by decide +kernel
theorem dL_law_853 : decode cL_law 853 = .ok (.iaload, 1) := by decide +kernel
theorem dL_law_854 : decode cL_law 854 = .ok (.aload_n 0, 1) := by decide +kernel
theorem dL_law_855 : decode cL_law 855 = .ok (.iload_n 3, 1) := by decide +kernel
theorem dL_law_856 : decode cL_law 856 = .ok (.iconst 2, 1) := by decide +kernel
theorem dL_law_857 : decode cL_law 857 = .ok (.iadd, 1) := by decide +kernel
theorem dL_law_858 : decode cL_law 858 = .ok (.iaload, 1) := by decide +kernel
theorem dL_law_859 : decode cL_law 859 = .ok (.aload_n 0, 1) := by decide +kernel
theorem dL_law_860 : decode cL_law 860 = .ok (.iload_n 3, 1) := by decide +kernel
theorem dL_law_861 : decode cL_law 861 = .ok (.iconst 3, 1) := by decide +kernel
theorem dL_law_862 : decode cL_law 862 = .ok (.iadd, 1) := by decide +kernel
theorem dL_law_863 : decode cL_law 863 = .ok (.iaload, 1) := by decide +kernel
theorem dL_law_864 : decode cL_law 864 = .ok (.invokevirtual 110, 3) := by decide +kernel
theorem dL_law_867 : decode cL_law 867 = .ok (.aload_n 2, 1) := by decide +kernel
theorem dL_law_868 : decode cL_law 868 = .ok (.aload_n 0, 1) := by decide +kernel
theorem dL_law_869 : decode cL_law 869 = .ok (.iload_n 3, 1) := by decide +kernel
theorem dL_law_870 : decode cL_law 870 = .ok (.iconst 1, 1) := by decide +kernel
theorem dL_law_871 : decode cL_law 871 = .ok (.iadd, 1) := by decide +kernel
theorem dL_law_872 : decode cL_law 872 = .ok (.iaload, 1) := by decide +kernel
theorem dL_law_873 : decode cL_law 873 = .ok (.aload_n 0, 1) := by decide +kernel
theorem dL_law_874 : decode cL_law 874 = .ok (.iload_n 3, 1) := by decide +kernel
theorem dL_law_875 : decode cL_law 875 = .ok (.iconst 2, 1) := by decide +kernel
theorem dL_law_876 : decode cL_law 876 = .ok (.iadd, 1) := by decide +kernel
theorem dL_law_877 : decode cL_law 877 = .ok (.iaload, 1) := by decide +kernel
theorem dL_law_878 : decode cL_law 878 = .ok (.aload_n 0, 1) := by decide +kernel
theorem dL_law_879 : decode cL_law 879 = .ok (.iload_n 3, 1) := by decide +kernel
theorem dL_law_880 : decode cL_law 880 = .ok (.iconst 3, 1) := by decide +kernel
theorem dL_law_881 : decode cL_law 881 = .ok (.iadd, 1) := by decide +kernel
theorem dL_law_882 : decode cL_law 882 = .ok (.iaload, 1) := by decide +kernel
theorem dL_law_883 : decode cL_law 883 = .ok (.invokevirtual 113, 3) := by decide +kernel
theorem dL_law_886 : decode cL_law 886 = .ok (.if_icmp .eq 611, 3) := by decide +kernel
theorem dL_law_889 : decode cL_law 889 = .ok (.iconst 0, 1) := by decide +kernel
theorem dL_law_890 : decode cL_law 890 = .ok (.ireturn, 1) := by decide +kernel
theorem dL_law_891 : decode cL_law 891 = .ok (.aload_n 1, 1) := by decide +kernel
theorem dL_law_892 : decode cL_law 892 = .ok (.aload_n 0, 1) := by decide +kernel
theorem dL_law_893 : decode cL_law 893 = .ok (.iload_n 3, 1) := by decide +kernel
theorem dL_law_894 : decode cL_law 894 = .ok (.iconst 1, 1) := by decide +kernel
theorem dL_law_895 : decode cL_law 895 = .ok (.iadd, 1) := by decide +kernel
theorem dL_law_896 : decode cL_law 896 = .ok (.iaload, 1) := by decide +kernel
theorem dL_law_897 : decode cL_law 897 = .ok (.aload_n 0, 1) := by decide +kernel
theorem dL_law_898 : decode cL_law 898 = .ok (.iload_n 3, 1) := by decide +kernel
theorem dL_law_899 : decode cL_law 899 = .ok (.iconst 2, 1) := by decide +kernel
theorem dL_law_900 : decode cL_law 900 = .ok (.iadd, 1) := by decide +kernel
theorem dL_law_901 : decode cL_law 901 = .ok (.iaload, 1) := by decide +kernel
theorem dL_law_902 : decode cL_law 902 = .ok (.aload_n 0, 1) := by decide +kernel
theorem dL_law_903 : decode cL_law 903 = .ok (.iload_n 3, 1) := by decide +kernel
theorem dL_law_904 : decode cL_law 904 = .ok (.iconst 3, 1) := by decide +kernel
theorem dL_law_905 : decode cL_law 905 = .ok (.iadd, 1) := by decide +kernel
theorem dL_law_906 : decode cL_law 906 = .ok (.iaload, 1) := by decide +kernel
theorem dL_law_907 : decode cL_law 907 = .ok (.invokevirtual 114, 3) := by decide +kernel
theorem dL_law_910 : decode cL_law 910 = .ok (.aload_n 2, 1) := by decide +kernel
theorem dL_law_911 : decode cL_law 911 = .ok (.aload_n 0, 1) := by decide +kernel
theorem dL_law_912 : decode cL_law 912 = .ok (.iload_n 3, 1) := by decide +kernel
theorem dL_law_913 : decode cL_law 913 = .ok (.iconst 1, 1) := by decide +kernel
theorem dL_law_914 : decode cL_law 914 = .ok (.iadd, 1) := by decide +kernel
theorem dL_law_915 : decode cL_law 915 = .ok (.iaload, 1) := by decide +kernel
theorem dL_law_916 : decode cL_law 916 = .ok (.aload_n 0, 1) := by decide +kernel
theorem dL_law_917 : decode cL_law 917 = .ok (.iload_n 3, 1) := by decide +kernel
theorem dL_law_918 : decode cL_law 918 = .ok (.iconst 2, 1) := by decide +kernel
theorem dL_law_919 : decode cL_law 919 = .ok (.iadd, 1) := by decide +kernel
theorem dL_law_920 : decode cL_law 920 = .ok (.iaload, 1) := by decide +kernel
theorem dL_law_921 : decode cL_law 921 = .ok (.aload_n 0, 1) := by decide +kernel
theorem dL_law_922 : decode cL_law 922 = .ok (.iload_n 3, 1) := by decide +kernel
theorem dL_law_923 : decode cL_law 923 = .ok (.iconst 3, 1) := by decide +kernel
theorem dL_law_924 : decode cL_law 924 = .ok (.iadd, 1) := by decide +kernel
theorem dL_law_925 : decode cL_law 925 = .ok (.iaload, 1) := by decide +kernel
theorem dL_law_926 : decode cL_law 926 = .ok (.invokevirtual 117, 3) := by decide +kernel
theorem dL_law_929 : decode cL_law 929 = .ok (.if_icmp .eq 568, 3) := by decide +kernel
theorem dL_law_932 : decode cL_law 932 = .ok (.iconst 0, 1) := by decide +kernel
theorem dL_law_933 : decode cL_law 933 = .ok (.ireturn, 1) := by decide +kernel
theorem dL_law_934 : decode cL_law 934 = .ok (.aload_n 1, 1) := by decide +kernel
theorem dL_law_935 : decode cL_law 935 = .ok (.aload_n 0, 1) := by decide +kernel
theorem dL_law_936 : decode cL_law 936 = .ok (.iload_n 3, 1) := by decide +kernel
theorem dL_law_937 : decode cL_law 937 = .ok (.iconst 1, 1) := by decide +kernel
theorem dL_law_938 : decode cL_law 938 = .ok (.iadd, 1) := by decide +kernel
theorem dL_law_939 : decode cL_law 939 = .ok (.iaload, 1) := by decide +kernel
theorem dL_law_940 : decode cL_law 940 = .ok (.aload_n 0, 1) := by decide +kernel
theorem dL_law_941 : decode cL_law 941 = .ok (.iload_n 3, 1) := by decide +kernel
theorem dL_law_942 : decode cL_law 942 = .ok (.iconst 2, 1) := by decide +kernel
theorem dL_law_943 : decode cL_law 943 = .ok (.iadd, 1) := by decide +kernel
theorem dL_law_944 : decode cL_law 944 = .ok (.iaload, 1) := by decide +kernel
theorem dL_law_945 : decode cL_law 945 = .ok (.aload_n 0, 1) := by decide +kernel
theorem dL_law_946 : decode cL_law 946 = .ok (.iload_n 3, 1) := by decide +kernel
theorem dL_law_947 : decode cL_law 947 = .ok (.iconst 3, 1) := by decide +kernel
theorem dL_law_948 : decode cL_law 948 = .ok (.iadd, 1) := by decide +kernel
theorem dL_law_949 : decode cL_law 949 = .ok (.iaload, 1) := by decide +kernel
theorem dL_law_950 : decode cL_law 950 = .ok (.invokevirtual 118, 3) := by decide +kernel
theorem dL_law_953 : decode cL_law 953 = .ok (.aload_n 2, 1) := by decide +kernel
theorem dL_law_954 : decode cL_law 954 = .ok (.aload_n 0, 1) := by decide +kernel
theorem dL_law_955 : decode cL_law 955 = .ok (.iload_n 3, 1) := by decide +kernel
theorem dL_law_956 : decode cL_law 956 = .ok (.iconst 1, 1) := by decide +kernel
theorem dL_law_957 : decode cL_law 957 = .ok (.iadd, 1) := by decide +kernel
theorem dL_law_958 : decode cL_law 958 = .ok (.iaload, 1) := by decide +kernel
theorem dL_law_959 : decode cL_law 959 = .ok (.aload_n 0, 1) := by decide +kernel
theorem dL_law_960 : decode cL_law 960 = .ok (.iload_n 3, 1) := by decide +kernel
theorem dL_law_961 : decode cL_law 961 = .ok (.iconst 2, 1) := by decide +kernel
theorem dL_law_962 : decode cL_law 962 = .ok (.iadd, 1) := by decide +kernel
theorem dL_law_963 : decode cL_law 963 = .ok (.iaload, 1) := by decide +kernel
theorem dL_law_964 : decode cL_law 964 = .ok (.aload_n 0, 1) := by decide +kernel
theorem dL_law_965 : decode cL_law 965 = .ok (.iload_n 3, 1) := by decide +kernel
theorem dL_law_966 : decode cL_law 966 = .ok (.iconst 3, 1) := by decide +kernel
theorem dL_law_967 : decode cL_law 967 = .ok (.iadd, 1) := by decide +kernel
theorem dL_law_968 : decode cL_law 968 = .ok (.iaload, 1) := by decide +kernel
theorem dL_law_969 : decode cL_law 969 = .ok (.invokevirtual 121, 3) := by decide +kernel
theorem dL_law_972 : decode cL_law 972 = .ok (.if_icmp .eq 525, 3) := by decide +kernel
theorem dL_law_975 : decode cL_law 975 = .ok (.iconst 0, 1) := by decide +kernel
theorem dL_law_976 : decode cL_law 976 = .ok (.ireturn, 1) := by decide +kernel
theorem dL_law_977 : decode cL_law 977 = .ok (.aload_n 1, 1) := by decide +kernel
theorem dL_law_978 : decode cL_law 978 = .ok (.aload_n 0, 1) := by decide +kernel
theorem dL_law_979 : decode cL_law 979 = .ok (.iload_n 3, 1) := by decide +kernel
theorem dL_law_980 : decode cL_law 980 = .ok (.iconst 1, 1) := by decide +kernel
theorem dL_law_981 : decode cL_law 981 = .ok (.iadd, 1) := by decide +kernel
theorem dL_law_982 : decode cL_law 982 = .ok (.iaload, 1) := by decide +kernel
theorem dL_law_983 : decode cL_law 983 = .ok (.invokevirtual 122, 3) := by decide +kernel
theorem dL_law_986 : decode cL_law 986 = .ok (.aload_n 2, 1) := by decide +kernel
theorem dL_law_987 : decode cL_law 987 = .ok (.aload_n 0, 1) := by decide +kernel
theorem dL_law_988 : decode cL_law 988 = .ok (.iload_n 3, 1) := by decide +kernel
theorem dL_law_989 : decode cL_law 989 = .ok (.iconst 1, 1) := by decide +kernel
theorem dL_law_990 : decode cL_law 990 = .ok (.iadd, 1) := by decide +kernel
theorem dL_law_991 : decode cL_law 991 = .ok (.iaload, 1) := by decide +kernel
theorem dL_law_992 : decode cL_law 992 = .ok (.invokevirtual 125, 3) := by decide +kernel
theorem dL_law_995 : decode cL_law 995 = .ok (.if_icmp .eq 502, 3) := by decide +kernel
theorem dL_law_998 : decode cL_law 998 = .ok (.iconst 0, 1) := by decide +kernel
theorem dL_law_999 : decode cL_law 999 = .ok (.ireturn, 1) := by decide +kernel
theorem dL_law_1000 : decode cL_law 1000 = .ok (.aload_n 1, 1) := by decide +kernel
theorem dL_law_1001 : decode cL_law 1001 = .ok (.aload_n 0, 1) := by decide +kernel
theorem dL_law_1002 : decode cL_law 1002 = .ok (.iload_n 3, 1) := by decide +kernel
theorem dL_law_1003 : decode cL_law 1003 = .ok (.iconst 1, 1) := by decide +kernel
theorem dL_law_1004 : decode cL_law 1004 = .ok (.iadd, 1) := by decide +kernel
theorem dL_law_1005 : decode cL_law 1005 = .ok (.iaload, 1) := by decide +kernel
theorem dL_law_1006 : decode cL_law 1006 = .ok (.aload_n 0, 1) := by decide +kernel
theorem dL_law_1007 : decode cL_law 1007 = .ok (.iload_n 3, 1) := by decide +kernel
theorem dL_law_1008 : decode cL_law 1008 = .ok (.iconst 2, 1) := by decide +kernel
theorem dL_law_1009 : decode cL_law 1009 = .ok (.iadd, 1) := by decide +kernel
theorem dL_law_1010 : decode cL_law 1010 = .ok (.iaload, 1) := by decide +kernel
theorem dL_law_1011 : decode cL_law 1011 = .ok (.aload_n 0, 1) := by decide +kernel
theorem dL_law_1012 : decode cL_law 1012 = .ok (.iload_n 3, 1) := by decide +kernel
theorem dL_law_1013 : decode cL_law 1013 = .ok (.iconst 3, 1) := by decide +kernel
theorem dL_law_1014 : decode cL_law 1014 = .ok (.iadd, 1) := by decide +kernel
theorem dL_law_1015 : decode cL_law 1015 = .ok (.iaload, 1) := by decide +kernel
theorem dL_law_1016 : decode cL_law 1016 = .ok (.aload_n 0, 1) := by decide +kernel
theorem dL_law_1017 : decode cL_law 1017 = .ok (.iload_n 3, 1) := by decide +kernel
theorem dL_law_1018 : decode cL_law 1018 = .ok (.iconst 4, 1) := by decide +kernel
theorem dL_law_1019 : decode cL_law 1019 = .ok (.iadd, 1) := by decide +kernel
theorem dL_law_1020 : decode cL_law 1020 = .ok (.iaload, 1) := by decide +kernel
theorem dL_law_1021 : decode cL_law 1021 = .ok (.i2l, 1) := by decide +kernel
theorem dL_law_1022 : decode cL_law 1022 = .ok (.bipush 32, 2) := by decide +kernel
theorem dL_law_1024 : decode cL_law 1024 = .ok (.lshl, 1) := by decide +kernel
theorem dL_law_1025 : decode cL_law 1025 = .ok (.aload_n 0, 1) := by decide +kernel
theorem dL_law_1026 : decode cL_law 1026 = .ok (.iload_n 3, 1) := by decide +kernel
theorem dL_law_1027 : decode cL_law 1027 = .ok (.iconst 5, 1) := by decide +kernel
theorem dL_law_1028 : decode cL_law 1028 = .ok (.iadd, 1) := by decide +kernel
theorem dL_law_1029 : decode cL_law 1029 = .ok (.iaload, 1) := by decide +kernel
theorem dL_law_1030 : decode cL_law 1030 = .ok (.i2l, 1) := by decide +kernel
theorem dL_law_1031 : decode cL_law 1031 = .ok (.ldc2_w 126, 3) := by decide +kernel
theorem dL_law_1034 : decode cL_law 1034 = .ok (.land, 1) := by decide +kernel
theorem dL_law_1035 : decode cL_law 1035 = .ok (.lor, 1) := by decide +kernel
theorem dL_law_1036 : decode cL_law 1036 = .ok (.invokevirtual 128, 3) := by decide +kernel
theorem dL_law_1039 : decode cL_law 1039 = .ok (.aload_n 2, 1) := by decide +kernel
theorem dL_law_1040 : decode cL_law 1040 = .ok (.aload_n 0, 1) := by decide +kernel
theorem dL_law_1041 : decode cL_law 1041 = .ok (.iload_n 3, 1) := by decide +kernel
theorem dL_law_1042 : decode cL_law 1042 = .ok (.iconst 1, 1) := by decide +kernel
theorem dL_law_1043 : decode cL_law 1043 = .ok (.iadd, 1) := by decide +kernel
theorem dL_law_1044 : decode cL_law 1044 = .ok (.iaload, 1) := by decide +kernel
theorem dL_law_1045 : decode cL_law 1045 = .ok (.aload_n 0, 1) := by decide +kernel
theorem dL_law_1046 : decode cL_law 1046 = .ok (.iload_n 3, 1) := by decide +kernel
theorem dL_law_1047 : decode cL_law 1047 = .ok (.iconst 2, 1) := by decide +kernel
theorem dL_law_1048 : decode cL_law 1048 = .ok (.iadd, 1) := by decide +kernel
theorem dL_law_1049 : decode cL_law 1049 = .ok (.iaload, 1) := by decide +kernel
theorem dL_law_1050 : decode cL_law 1050 = .ok (.aload_n 0, 1) := by decide +kernel
theorem dL_law_1051 : decode cL_law 1051 = .ok (.iload_n 3, 1) := by decide +kernel
theorem dL_law_1052 : decode cL_law 1052 = .ok (.iconst 3, 1) := by decide +kernel
theorem dL_law_1053 : decode cL_law 1053 = .ok (.iadd, 1) := by decide +kernel
theorem dL_law_1054 : decode cL_law 1054 = .ok (.iaload, 1) := by decide +kernel
theorem dL_law_1055 : decode cL_law 1055 = .ok (.aload_n 0, 1) := by decide +kernel
theorem dL_law_1056 : decode cL_law 1056 = .ok (.iload_n 3, 1) := by decide +kernel
theorem dL_law_1057 : decode cL_law 1057 = .ok (.iconst 4, 1) := by decide +kernel
theorem dL_law_1058 : decode cL_law 1058 = .ok (.iadd, 1) := by decide +kernel
theorem dL_law_1059 : decode cL_law 1059 = .ok (.iaload, 1) := by decide +kernel
theorem dL_law_1060 : decode cL_law 1060 = .ok (.i2l, 1) := by decide +kernel
theorem dL_law_1061 : decode cL_law 1061 = .ok (.bipush 32, 2) := by decide +kernel
theorem dL_law_1063 : decode cL_law 1063 = .ok (.lshl, 1) := by decide +kernel
theorem dL_law_1064 : decode cL_law 1064 = .ok (.aload_n 0, 1) := by decide +kernel
theorem dL_law_1065 : decode cL_law 1065 = .ok (.iload_n 3, 1) := by decide +kernel
theorem dL_law_1066 : decode cL_law 1066 = .ok (.iconst 5, 1) := by decide +kernel
theorem dL_law_1067 : decode cL_law 1067 = .ok (.iadd, 1) := by decide +kernel
theorem dL_law_1068 : decode cL_law 1068 = .ok (.iaload, 1) := by decide +kernel
theorem dL_law_1069 : decode cL_law 1069 = .ok (.i2l, 1) := by decide +kernel
theorem dL_law_1070 : decode cL_law 1070 = .ok (.ldc2_w 126, 3) := by decide +kernel
theorem dL_law_1073 : decode cL_law 1073 = .ok (.land, 1) := by decide +kernel
theorem dL_law_1074 : decode cL_law 1074 = .ok (.lor, 1) := by decide +kernel
theorem dL_law_1075 : decode cL_law 1075 = .ok (.invokevirtual 132, 3) := by decide +kernel
theorem dL_law_1078 : decode cL_law 1078 = .ok (.lcmp, 1) := by decide +kernel
theorem dL_law_1079 : decode cL_law 1079 = .ok (.ifCond .eq 418, 3) := by decide +kernel
theorem dL_law_1082 : decode cL_law 1082 = .ok (.iconst 0, 1) := by decide +kernel
theorem dL_law_1083 : decode cL_law 1083 = .ok (.ireturn, 1) := by decide +kernel
theorem dL_law_1084 : decode cL_law 1084 = .ok (.aload_n 1, 1) := by decide +kernel
theorem dL_law_1085 : decode cL_law 1085 = .ok (.aload_n 0, 1) := by decide +kernel
theorem dL_law_1086 : decode cL_law 1086 = .ok (.iload_n 3, 1) := by decide +kernel
theorem dL_law_1087 : decode cL_law 1087 = .ok (.iconst 1, 1) := by decide +kernel
theorem dL_law_1088 : decode cL_law 1088 = .ok (.iadd, 1) := by decide +kernel
theorem dL_law_1089 : decode cL_law 1089 = .ok (.iaload, 1) := by decide +kernel
theorem dL_law_1090 : decode cL_law 1090 = .ok (.aload_n 0, 1) := by decide +kernel
theorem dL_law_1091 : decode cL_law 1091 = .ok (.iload_n 3, 1) := by decide +kernel
theorem dL_law_1092 : decode cL_law 1092 = .ok (.iconst 2, 1) := by decide +kernel
theorem dL_law_1093 : decode cL_law 1093 = .ok (.iadd, 1) := by decide +kernel
theorem dL_law_1094 : decode cL_law 1094 = .ok (.iaload, 1) := by decide +kernel
theorem dL_law_1095 : decode cL_law 1095 = .ok (.aload_n 0, 1) := by decide +kernel
theorem dL_law_1096 : decode cL_law 1096 = .ok (.iload_n 3, 1) := by decide +kernel
theorem dL_law_1097 : decode cL_law 1097 = .ok (.iconst 3, 1) := by decide +kernel
theorem dL_law_1098 : decode cL_law 1098 = .ok (.iadd, 1) := by decide +kernel
theorem dL_law_1099 : decode cL_law 1099 = .ok (.iaload, 1) := by decide +kernel
theorem dL_law_1100 : decode cL_law 1100 = .ok (.aload_n 0, 1) := by decide +kernel
theorem dL_law_1101 : decode cL_law 1101 = .ok (.iload_n 3, 1) := by decide +kernel
theorem dL_law_1102 : decode cL_law 1102 = .ok (.iconst 4, 1) := by decide +kernel
theorem dL_law_1103 : decode cL_law 1103 = .ok (.iadd, 1) := by decide +kernel
theorem dL_law_1104 : decode cL_law 1104 = .ok (.iaload, 1) := by decide +kernel
theorem dL_law_1105 : decode cL_law 1105 = .ok (.aload_n 0, 1) := by decide +kernel
theorem dL_law_1106 : decode cL_law 1106 = .ok (.iload_n 3, 1) := by decide +kernel
theorem dL_law_1107 : decode cL_law 1107 = .ok (.iconst 5, 1) := by decide +kernel
theorem dL_law_1108 : decode cL_law 1108 = .ok (.iadd, 1) := by decide +kernel
theorem dL_law_1109 : decode cL_law 1109 = .ok (.iaload, 1) := by decide +kernel
theorem dL_law_1110 : decode cL_law 1110 = .ok (.invokevirtual 133, 3) := by decide +kernel
theorem dL_law_1113 : decode cL_law 1113 = .ok (.aload_n 2, 1) := by decide +kernel
theorem dL_law_1114 : decode cL_law 1114 = .ok (.aload_n 0, 1) := by decide +kernel
theorem dL_law_1115 : decode cL_law 1115 = .ok (.iload_n 3, 1) := by decide +kernel
theorem dL_law_1116 : decode cL_law 1116 = .ok (.iconst 1, 1) := by decide +kernel
theorem dL_law_1117 : decode cL_law 1117 = .ok (.iadd, 1) := by decide +kernel
theorem dL_law_1118 : decode cL_law 1118 = .ok (.iaload, 1) := by decide +kernel
theorem dL_law_1119 : decode cL_law 1119 = .ok (.aload_n 0, 1) := by decide +kernel
theorem dL_law_1120 : decode cL_law 1120 = .ok (.iload_n 3, 1) := by decide +kernel
theorem dL_law_1121 : decode cL_law 1121 = .ok (.iconst 2, 1) := by decide +kernel
theorem dL_law_1122 : decode cL_law 1122 = .ok (.iadd, 1) := by decide +kernel
theorem dL_law_1123 : decode cL_law 1123 = .ok (.iaload, 1) := by decide +kernel
theorem dL_law_1124 : decode cL_law 1124 = .ok (.aload_n 0, 1) := by decide +kernel
theorem dL_law_1125 : decode cL_law 1125 = .ok (.iload_n 3, 1) := by decide +kernel
theorem dL_law_1126 : decode cL_law 1126 = .ok (.iconst 3, 1) := by decide +kernel
theorem dL_law_1127 : decode cL_law 1127 = .ok (.iadd, 1) := by decide +kernel
theorem dL_law_1128 : decode cL_law 1128 = .ok (.iaload, 1) := by decide +kernel
theorem dL_law_1129 : decode cL_law 1129 = .ok (.aload_n 0, 1) := by decide +kernel
theorem dL_law_1130 : decode cL_law 1130 = .ok (.iload_n 3, 1) := by decide +kernel
theorem dL_law_1131 : decode cL_law 1131 = .ok (.iconst 4, 1) := by decide +kernel
theorem dL_law_1132 : decode cL_law 1132 = .ok (.iadd, 1) := by decide +kernel
theorem dL_law_1133 : decode cL_law 1133 = .ok (.iaload, 1) := by decide +kernel
theorem dL_law_1134 : decode cL_law 1134 = .ok (.aload_n 0, 1) := by decide +kernel
theorem dL_law_1135 : decode cL_law 1135 = .ok (.iload_n 3, 1) := by decide +kernel
theorem dL_law_1136 : decode cL_law 1136 = .ok (.iconst 5, 1) := by decide +kernel
theorem dL_law_1137 : decode cL_law 1137 = .ok (.iadd, 1) := by decide +kernel
theorem dL_law_1138 : decode cL_law 1138 = .ok (.iaload, 1) := by decide +kernel
theorem dL_law_1139 : decode cL_law 1139 = .ok (.invokevirtual 137, 3) := by decide +kernel
theorem dL_law_1142 : decode cL_law 1142 = .ok (.if_icmp .eq 355, 3) := by decide +kernel
theorem dL_law_1145 : decode cL_law 1145 = .ok (.iconst 0, 1) := by decide +kernel
theorem dL_law_1146 : decode cL_law 1146 = .ok (.ireturn, 1) := by decide +kernel
theorem dL_law_1147 : decode cL_law 1147 = .ok (.aload_n 1, 1) := by decide +kernel
theorem dL_law_1148 : decode cL_law 1148 = .ok (.aload_n 0, 1) := by decide +kernel
theorem dL_law_1149 : decode cL_law 1149 = .ok (.iload_n 3, 1) := by decide +kernel
theorem dL_law_1150 : decode cL_law 1150 = .ok (.iconst 1, 1) := by decide +kernel
theorem dL_law_1151 : decode cL_law 1151 = .ok (.iadd, 1) := by decide +kernel
theorem dL_law_1152 : decode cL_law 1152 = .ok (.iaload, 1) := by decide +kernel
theorem dL_law_1153 : decode cL_law 1153 = .ok (.aload_n 0, 1) := by decide +kernel
theorem dL_law_1154 : decode cL_law 1154 = .ok (.iload_n 3, 1) := by decide +kernel
theorem dL_law_1155 : decode cL_law 1155 = .ok (.iconst 2, 1) := by decide +kernel
theorem dL_law_1156 : decode cL_law 1156 = .ok (.iadd, 1) := by decide +kernel
theorem dL_law_1157 : decode cL_law 1157 = .ok (.iaload, 1) := by decide +kernel
theorem dL_law_1158 : decode cL_law 1158 = .ok (.aload_n 0, 1) := by decide +kernel
theorem dL_law_1159 : decode cL_law 1159 = .ok (.iload_n 3, 1) := by decide +kernel
theorem dL_law_1160 : decode cL_law 1160 = .ok (.iconst 3, 1) := by decide +kernel
theorem dL_law_1161 : decode cL_law 1161 = .ok (.iadd, 1) := by decide +kernel
theorem dL_law_1162 : decode cL_law 1162 = .ok (.iaload, 1) := by decide +kernel
theorem dL_law_1163 : decode cL_law 1163 = .ok (.aload_n 0, 1) := by decide +kernel
theorem dL_law_1164 : decode cL_law 1164 = .ok (.iload_n 3, 1) := by decide +kernel
theorem dL_law_1165 : decode cL_law 1165 = .ok (.iconst 4, 1) := by decide +kernel
theorem dL_law_1166 : decode cL_law 1166 = .ok (.iadd, 1) := by decide +kernel
theorem dL_law_1167 : decode cL_law 1167 = .ok (.iaload, 1) := by decide +kernel
theorem dL_law_1168 : decode cL_law 1168 = .ok (.aload_n 0, 1) := by decide +kernel
theorem dL_law_1169 : decode cL_law 1169 = .ok (.iload_n 3, 1) := by decide +kernel
theorem dL_law_1170 : decode cL_law 1170 = .ok (.iconst 5, 1) := by decide +kernel
theorem dL_law_1171 : decode cL_law 1171 = .ok (.iadd, 1) := by decide +kernel
theorem dL_law_1172 : decode cL_law 1172 = .ok (.iaload, 1) := by decide +kernel
theorem dL_law_1173 : decode cL_law 1173 = .ok (.invokevirtual 138, 3) := by decide +kernel
theorem dL_law_1176 : decode cL_law 1176 = .ok (.aload_n 2, 1) := by decide +kernel
theorem dL_law_1177 : decode cL_law 1177 = .ok (.aload_n 0, 1) := by decide +kernel
theorem dL_law_1178 : decode cL_law 1178 = .ok (.iload_n 3, 1) := by decide +kernel
theorem dL_law_1179 : decode cL_law 1179 = .ok (.iconst 1, 1) := by decide +kernel
theorem dL_law_1180 : decode cL_law 1180 = .ok (.iadd, 1) := by decide +kernel
theorem dL_law_1181 : decode cL_law 1181 = .ok (.iaload, 1) := by decide +kernel
theorem dL_law_1182 : decode cL_law 1182 = .ok (.aload_n 0, 1) := by decide +kernel
theorem dL_law_1183 : decode cL_law 1183 = .ok (.iload_n 3, 1) := by decide +kernel
theorem dL_law_1184 : decode cL_law 1184 = .ok (.iconst 2, 1) := by decide +kernel
theorem dL_law_1185 : decode cL_law 1185 = .ok (.iadd, 1) := by decide +kernel
theorem dL_law_1186 : decode cL_law 1186 = .ok (.iaload, 1) := by decide +kernel
theorem dL_law_1187 : decode cL_law 1187 = .ok (.aload_n 0, 1) := by decide +kernel
theorem dL_law_1188 : decode cL_law 1188 = .ok (.iload_n 3, 1) := by decide +kernel
theorem dL_law_1189 : decode cL_law 1189 = .ok (.iconst 3, 1) := by decide +kernel
theorem dL_law_1190 : decode cL_law 1190 = .ok (.iadd, 1) := by decide +kernel
theorem dL_law_1191 : decode cL_law 1191 = .ok (.iaload, 1) := by decide +kernel
theorem dL_law_1192 : decode cL_law 1192 = .ok (.aload_n 0, 1) := by decide +kernel
theorem dL_law_1193 : decode cL_law 1193 = .ok (.iload_n 3, 1) := by decide +kernel
theorem dL_law_1194 : decode cL_law 1194 = .ok (.iconst 4, 1) := by decide +kernel
theorem dL_law_1195 : decode cL_law 1195 = .ok (.iadd, 1) := by decide +kernel
theorem dL_law_1196 : decode cL_law 1196 = .ok (.iaload, 1) := by decide +kernel
theorem dL_law_1197 : decode cL_law 1197 = .ok (.aload_n 0, 1) := by decide +kernel
theorem dL_law_1198 : decode cL_law 1198 = .ok (.iload_n 3, 1) := by decide +kernel
theorem dL_law_1199 : decode cL_law 1199 = .ok (.iconst 5, 1) := by decide +kernel
theorem dL_law_1200 : decode cL_law 1200 = .ok (.iadd, 1) := by decide +kernel
theorem dL_law_1201 : decode cL_law 1201 = .ok (.iaload, 1) := by decide +kernel
theorem dL_law_1202 : decode cL_law 1202 = .ok (.invokevirtual 141, 3) := by decide +kernel
theorem dL_law_1205 : decode cL_law 1205 = .ok (.if_icmp .eq 292, 3) := by decide +kernel
theorem dL_law_1208 : decode cL_law 1208 = .ok (.iconst 0, 1) := by decide +kernel
theorem dL_law_1209 : decode cL_law 1209 = .ok (.ireturn, 1) := by decide +kernel
theorem dL_law_1210 : decode cL_law 1210 = .ok (.aload_n 1, 1) := by decide +kernel
theorem dL_law_1211 : decode cL_law 1211 = .ok (.aload_n 0, 1) := by decide +kernel
theorem dL_law_1212 : decode cL_law 1212 = .ok (.iload_n 3, 1) := by decide +kernel
theorem dL_law_1213 : decode cL_law 1213 = .ok (.iconst 1, 1) := by decide +kernel
theorem dL_law_1214 : decode cL_law 1214 = .ok (.iadd, 1) := by decide +kernel
theorem dL_law_1215 : decode cL_law 1215 = .ok (.iaload, 1) := by decide +kernel
theorem dL_law_1216 : decode cL_law 1216 = .ok (.aload_n 0, 1) := by decide +kernel
theorem dL_law_1217 : decode cL_law 1217 = .ok (.iload_n 3, 1) := by decide +kernel
theorem dL_law_1218 : decode cL_law 1218 = .ok (.iconst 2, 1) := by decide +kernel
theorem dL_law_1219 : decode cL_law 1219 = .ok (.iadd, 1) := by decide +kernel
theorem dL_law_1220 : decode cL_law 1220 = .ok (.iaload, 1) := by decide +kernel
theorem dL_law_1221 : decode cL_law 1221 = .ok (.aload_n 0, 1) := by decide +kernel
theorem dL_law_1222 : decode cL_law 1222 = .ok (.iload_n 3, 1) := by decide +kernel
theorem dL_law_1223 : decode cL_law 1223 = .ok (.iconst 3, 1) := by decide +kernel
theorem dL_law_1224 : decode cL_law 1224 = .ok (.iadd, 1) := by decide +kernel
theorem dL_law_1225 : decode cL_law 1225 = .ok (.iaload, 1) := by decide +kernel
theorem dL_law_1226 : decode cL_law 1226 = .ok (.aload_n 0, 1) := by decide +kernel
theorem dL_law_1227 : decode cL_law 1227 = .ok (.iload_n 3, 1) := by decide +kernel
theorem dL_law_1228 : decode cL_law 1228 = .ok (.iconst 4, 1) := by decide +kernel
theorem dL_law_1229 : decode cL_law 1229 = .ok (.iadd, 1) := by decide +kernel
theorem dL_law_1230 : decode cL_law 1230 = .ok (.iaload, 1) := by decide +kernel
theorem dL_law_1231 : decode cL_law 1231 = .ok (.aload_n 0, 1) := by decide +kernel
theorem dL_law_1232 : decode cL_law 1232 = .ok (.iload_n 3, 1) := by decide +kernel
theorem dL_law_1233 : decode cL_law 1233 = .ok (.iconst 5, 1) := by decide +kernel
theorem dL_law_1234 : decode cL_law 1234 = .ok (.iadd, 1) := by decide +kernel
theorem dL_law_1235 : decode cL_law 1235 = .ok (.iaload, 1) := by decide +kernel
theorem dL_law_1236 : decode cL_law 1236 = .ok (.invokevirtual 142, 3) := by decide +kernel
theorem dL_law_1239 : decode cL_law 1239 = .ok (.aload_n 2, 1) := by decide +kernel
theorem dL_law_1240 : decode cL_law 1240 = .ok (.aload_n 0, 1) := by decide +kernel
theorem dL_law_1241 : decode cL_law 1241 = .ok (.iload_n 3, 1) := by decide +kernel
theorem dL_law_1242 : decode cL_law 1242 = .ok (.iconst 1, 1) := by decide +kernel
theorem dL_law_1243 : decode cL_law 1243 = .ok (.iadd, 1) := by decide +kernel
theorem dL_law_1244 : decode cL_law 1244 = .ok (.iaload, 1) := by decide +kernel
theorem dL_law_1245 : decode cL_law 1245 = .ok (.aload_n 0, 1) := by decide +kernel
theorem dL_law_1246 : decode cL_law 1246 = .ok (.iload_n 3, 1) := by decide +kernel
theorem dL_law_1247 : decode cL_law 1247 = .ok (.iconst 2, 1) := by decide +kernel
theorem dL_law_1248 : decode cL_law 1248 = .ok (.iadd, 1) := by decide +kernel
theorem dL_law_1249 : decode cL_law 1249 = .ok (.iaload, 1) := by decide +kernel
theorem dL_law_1250 : decode cL_law 1250 = .ok (.aload_n 0, 1) := by decide +kernel
theorem dL_law_1251 : decode cL_law 1251 = .ok (.iload_n 3, 1) := by decide +kernel
theorem dL_law_1252 : decode cL_law 1252 = .ok (.iconst 3, 1) := by decide +kernel
theorem dL_law_1253 : decode cL_law 1253 = .ok (.iadd, 1) := by decide +kernel
theorem dL_law_1254 : decode cL_law 1254 = .ok (.iaload, 1) := by decide +kernel
theorem dL_law_1255 : decode cL_law 1255 = .ok (.aload_n 0, 1) := by decide +kernel
theorem dL_law_1256 : decode cL_law 1256 = .ok (.iload_n 3, 1) := by decide +kernel
theorem dL_law_1257 : decode cL_law 1257 = .ok (.iconst 4, 1) := by decide +kernel
theorem dL_law_1258 : decode cL_law 1258 = .ok (.iadd, 1) := by decide +kernel
theorem dL_law_1259 : decode cL_law 1259 = .ok (.iaload, 1) := by decide +kernel
theorem dL_law_1260 : decode cL_law 1260 = .ok (.aload_n 0, 1) := by decide +kernel
theorem dL_law_1261 : decode cL_law 1261 = .ok (.iload_n 3, 1) := by decide +kernel
theorem dL_law_1262 : decode cL_law 1262 = .ok (.iconst 5, 1) := by decide +kernel
theorem dL_law_1263 : decode cL_law 1263 = .ok (.iadd, 1) := by decide +kernel
theorem dL_law_1264 : decode cL_law 1264 = .ok (.iaload, 1) := by decide +kernel
theorem dL_law_1265 : decode cL_law 1265 = .ok (.invokevirtual 145, 3) := by decide +kernel
theorem dL_law_1268 : decode cL_law 1268 = .ok (.if_icmp .eq 229, 3) := by decide +kernel
theorem dL_law_1271 : decode cL_law 1271 = .ok (.iconst 0, 1) := by decide +kernel
theorem dL_law_1272 : decode cL_law 1272 = .ok (.ireturn, 1) := by decide +kernel
theorem dL_law_1273 : decode cL_law 1273 = .ok (.aload_n 1, 1) := by decide +kernel
theorem dL_law_1274 : decode cL_law 1274 = .ok (.aload_n 0, 1) := by decide +kernel
theorem dL_law_1275 : decode cL_law 1275 = .ok (.iload_n 3, 1) := by decide +kernel
theorem dL_law_1276 : decode cL_law 1276 = .ok (.iconst 1, 1) := by decide +kernel
theorem dL_law_1277 : decode cL_law 1277 = .ok (.iadd, 1) := by decide +kernel
theorem dL_law_1278 : decode cL_law 1278 = .ok (.iaload, 1) := by decide +kernel
theorem dL_law_1279 : decode cL_law 1279 = .ok (.aload_n 0, 1) := by decide +kernel
theorem dL_law_1280 : decode cL_law 1280 = .ok (.iload_n 3, 1) := by decide +kernel
theorem dL_law_1281 : decode cL_law 1281 = .ok (.iconst 2, 1) := by decide +kernel
theorem dL_law_1282 : decode cL_law 1282 = .ok (.iadd, 1) := by decide +kernel
theorem dL_law_1283 : decode cL_law 1283 = .ok (.iaload, 1) := by decide +kernel
theorem dL_law_1284 : decode cL_law 1284 = .ok (.aload_n 0, 1) := by decide +kernel
theorem dL_law_1285 : decode cL_law 1285 = .ok (.iload_n 3, 1) := by decide +kernel
theorem dL_law_1286 : decode cL_law 1286 = .ok (.iconst 3, 1) := by decide +kernel
theorem dL_law_1287 : decode cL_law 1287 = .ok (.iadd, 1) := by decide +kernel
theorem dL_law_1288 : decode cL_law 1288 = .ok (.iaload, 1) := by decide +kernel
theorem dL_law_1289 : decode cL_law 1289 = .ok (.aload_n 0, 1) := by decide +kernel
theorem dL_law_1290 : decode cL_law 1290 = .ok (.iload_n 3, 1) := by decide +kernel
theorem dL_law_1291 : decode cL_law 1291 = .ok (.iconst 4, 1) := by decide +kernel
theorem dL_law_1292 : decode cL_law 1292 = .ok (.iadd, 1) := by decide +kernel
theorem dL_law_1293 : decode cL_law 1293 = .ok (.iaload, 1) := by decide +kernel
theorem dL_law_1294 : decode cL_law 1294 = .ok (.aload_n 0, 1) := by decide +kernel
theorem dL_law_1295 : decode cL_law 1295 = .ok (.iload_n 3, 1) := by decide +kernel
theorem dL_law_1296 : decode cL_law 1296 = .ok (.iconst 5, 1) := by decide +kernel
theorem dL_law_1297 : decode cL_law 1297 = .ok (.iadd, 1) := by decide +kernel
theorem dL_law_1298 : decode cL_law 1298 = .ok (.iaload, 1) := by decide +kernel
theorem dL_law_1299 : decode cL_law 1299 = .ok (.invokevirtual 146, 3) := by decide +kernel
theorem dL_law_1302 : decode cL_law 1302 = .ok (.aload_n 2, 1) := by decide +kernel
theorem dL_law_1303 : decode cL_law 1303 = .ok (.aload_n 0, 1) := by decide +kernel
theorem dL_law_1304 : decode cL_law 1304 = .ok (.iload_n 3, 1) := by decide +kernel
theorem dL_law_1305 : decode cL_law 1305 = .ok (.iconst 1, 1) := by decide +kernel
theorem dL_law_1306 : decode cL_law 1306 = .ok (.iadd, 1) := by decide +kernel
theorem dL_law_1307 : decode cL_law 1307 = .ok (.iaload, 1) := by decide +kernel
theorem dL_law_1308 : decode cL_law 1308 = .ok (.aload_n 0, 1) := by decide +kernel
theorem dL_law_1309 : decode cL_law 1309 = .ok (.iload_n 3, 1) := by decide +kernel
theorem dL_law_1310 : decode cL_law 1310 = .ok (.iconst 2, 1) := by decide +kernel
theorem dL_law_1311 : decode cL_law 1311 = .ok (.iadd, 1) := by decide +kernel
theorem dL_law_1312 : decode cL_law 1312 = .ok (.iaload, 1) := by decide +kernel
theorem dL_law_1313 : decode cL_law 1313 = .ok (.aload_n 0, 1) := by decide +kernel
theorem dL_law_1314 : decode cL_law 1314 = .ok (.iload_n 3, 1) := by decide +kernel
theorem dL_law_1315 : decode cL_law 1315 = .ok (.iconst 3, 1) := by decide +kernel
theorem dL_law_1316 : decode cL_law 1316 = .ok (.iadd, 1) := by decide +kernel
theorem dL_law_1317 : decode cL_law 1317 = .ok (.iaload, 1) := by decide +kernel
theorem dL_law_1318 : decode cL_law 1318 = .ok (.aload_n 0, 1) := by decide +kernel
theorem dL_law_1319 : decode cL_law 1319 = .ok (.iload_n 3, 1) := by decide +kernel
theorem dL_law_1320 : decode cL_law 1320 = .ok (.iconst 4, 1) := by decide +kernel
theorem dL_law_1321 : decode cL_law 1321 = .ok (.iadd, 1) := by decide +kernel
theorem dL_law_1322 : decode cL_law 1322 = .ok (.iaload, 1) := by decide +kernel
theorem dL_law_1323 : decode cL_law 1323 = .ok (.aload_n 0, 1) := by decide +kernel
theorem dL_law_1324 : decode cL_law 1324 = .ok (.iload_n 3, 1) := by decide +kernel
theorem dL_law_1325 : decode cL_law 1325 = .ok (.iconst 5, 1) := by decide +kernel
theorem dL_law_1326 : decode cL_law 1326 = .ok (.iadd, 1) := by decide +kernel
theorem dL_law_1327 : decode cL_law 1327 = .ok (.iaload, 1) := by decide +kernel
theorem dL_law_1328 : decode cL_law 1328 = .ok (.invokevirtual 149, 3) := by decide +kernel
theorem dL_law_1331 : decode cL_law 1331 = .ok (.if_icmp .eq 166, 3) := by decide +kernel
theorem dL_law_1334 : decode cL_law 1334 = .ok (.iconst 0, 1) := by decide +kernel
theorem dL_law_1335 : decode cL_law 1335 = .ok (.ireturn, 1) := by decide +kernel
theorem dL_law_1336 : decode cL_law 1336 = .ok (.aload_n 1, 1) := by decide +kernel
theorem dL_law_1337 : decode cL_law 1337 = .ok (.aload_n 0, 1) := by decide +kernel
theorem dL_law_1338 : decode cL_law 1338 = .ok (.iload_n 3, 1) := by decide +kernel
theorem dL_law_1339 : decode cL_law 1339 = .ok (.iconst 1, 1) := by decide +kernel
theorem dL_law_1340 : decode cL_law 1340 = .ok (.iadd, 1) := by decide +kernel
theorem dL_law_1341 : decode cL_law 1341 = .ok (.iaload, 1) := by decide +kernel
theorem dL_law_1342 : decode cL_law 1342 = .ok (.aload_n 0, 1) := by decide +kernel
theorem dL_law_1343 : decode cL_law 1343 = .ok (.iload_n 3, 1) := by decide +kernel
theorem dL_law_1344 : decode cL_law 1344 = .ok (.iconst 2, 1) := by decide +kernel
theorem dL_law_1345 : decode cL_law 1345 = .ok (.iadd, 1) := by decide +kernel
theorem dL_law_1346 : decode cL_law 1346 = .ok (.iaload, 1) := by decide +kernel
theorem dL_law_1347 : decode cL_law 1347 = .ok (.aload_n 0, 1) := by decide +kernel
theorem dL_law_1348 : decode cL_law 1348 = .ok (.iload_n 3, 1) := by decide +kernel
theorem dL_law_1349 : decode cL_law 1349 = .ok (.iconst 3, 1) := by decide +kernel
theorem dL_law_1350 : decode cL_law 1350 = .ok (.iadd, 1) := by decide +kernel
theorem dL_law_1351 : decode cL_law 1351 = .ok (.iaload, 1) := by decide +kernel
theorem dL_law_1352 : decode cL_law 1352 = .ok (.aload_n 0, 1) := by decide +kernel
theorem dL_law_1353 : decode cL_law 1353 = .ok (.iload_n 3, 1) := by decide +kernel
theorem dL_law_1354 : decode cL_law 1354 = .ok (.iconst 4, 1) := by decide +kernel
theorem dL_law_1355 : decode cL_law 1355 = .ok (.iadd, 1) := by decide +kernel
theorem dL_law_1356 : decode cL_law 1356 = .ok (.iaload, 1) := by decide +kernel
theorem dL_law_1357 : decode cL_law 1357 = .ok (.aload_n 0, 1) := by decide +kernel
theorem dL_law_1358 : decode cL_law 1358 = .ok (.iload_n 3, 1) := by decide +kernel
theorem dL_law_1359 : decode cL_law 1359 = .ok (.iconst 5, 1) := by decide +kernel
theorem dL_law_1360 : decode cL_law 1360 = .ok (.iadd, 1) := by decide +kernel
theorem dL_law_1361 : decode cL_law 1361 = .ok (.iaload, 1) := by decide +kernel
theorem dL_law_1362 : decode cL_law 1362 = .ok (.invokevirtual 150, 3) := by decide +kernel
theorem dL_law_1365 : decode cL_law 1365 = .ok (.aload_n 2, 1) := by decide +kernel
theorem dL_law_1366 : decode cL_law 1366 = .ok (.aload_n 0, 1) := by decide +kernel
theorem dL_law_1367 : decode cL_law 1367 = .ok (.iload_n 3, 1) := by decide +kernel
theorem dL_law_1368 : decode cL_law 1368 = .ok (.iconst 1, 1) := by decide +kernel
theorem dL_law_1369 : decode cL_law 1369 = .ok (.iadd, 1) := by decide +kernel
theorem dL_law_1370 : decode cL_law 1370 = .ok (.iaload, 1) := by decide +kernel
theorem dL_law_1371 : decode cL_law 1371 = .ok (.aload_n 0, 1) := by decide +kernel
theorem dL_law_1372 : decode cL_law 1372 = .ok (.iload_n 3, 1) := by decide +kernel
theorem dL_law_1373 : decode cL_law 1373 = .ok (.iconst 2, 1) := by decide +kernel
theorem dL_law_1374 : decode cL_law 1374 = .ok (.iadd, 1) := by decide +kernel
theorem dL_law_1375 : decode cL_law 1375 = .ok (.iaload, 1) := by decide +kernel
theorem dL_law_1376 : decode cL_law 1376 = .ok (.aload_n 0, 1) := by decide +kernel
theorem dL_law_1377 : decode cL_law 1377 = .ok (.iload_n 3, 1) := by decide +kernel
theorem dL_law_1378 : decode cL_law 1378 = .ok (.iconst 3, 1) := by decide +kernel
theorem dL_law_1379 : decode cL_law 1379 = .ok (.iadd, 1) := by decide +kernel
theorem dL_law_1380 : decode cL_law 1380 = .ok (.iaload, 1) := by decide +kernel
theorem dL_law_1381 : decode cL_law 1381 = .ok (.aload_n 0, 1) := by decide +kernel
theorem dL_law_1382 : decode cL_law 1382 = .ok (.iload_n 3, 1) := by decide +kernel
theorem dL_law_1383 : decode cL_law 1383 = .ok (.iconst 4, 1) := by decide +kernel
theorem dL_law_1384 : decode cL_law 1384 = .ok (.iadd, 1) := by decide +kernel
theorem dL_law_1385 : decode cL_law 1385 = .ok (.iaload, 1) := by decide +kernel
theorem dL_law_1386 : decode cL_law 1386 = .ok (.aload_n 0, 1) := by decide +kernel
theorem dL_law_1387 : decode cL_law 1387 = .ok (.iload_n 3, 1) := by decide +kernel
theorem dL_law_1388 : decode cL_law 1388 = .ok (.iconst 5, 1) := by decide +kernel
theorem dL_law_1389 : decode cL_law 1389 = .ok (.iadd, 1) := by decide +kernel
theorem dL_law_1390 : decode cL_law 1390 = .ok (.iaload, 1) := by decide +kernel
theorem dL_law_1391 : decode cL_law 1391 = .ok (.invokevirtual 153, 3) := by decide +kernel
theorem dL_law_1394 : decode cL_law 1394 = .ok (.if_icmp .eq 103, 3) := by decide +kernel
theorem dL_law_1397 : decode cL_law 1397 = .ok (.iconst 0, 1) := by decide +kernel
theorem dL_law_1398 : decode cL_law 1398 = .ok (.ireturn, 1) := by decide +kernel
theorem dL_law_1399 : decode cL_law 1399 = .ok (.aload_n 1, 1) := by decide +kernel
theorem dL_law_1400 : decode cL_law 1400 = .ok (.aload_n 0, 1) := by decide +kernel
theorem dL_law_1401 : decode cL_law 1401 = .ok (.iload_n 3, 1) := by decide +kernel
theorem dL_law_1402 : decode cL_law 1402 = .ok (.iconst 1, 1) := by decide +kernel
theorem dL_law_1403 : decode cL_law 1403 = .ok (.iadd, 1) := by decide +kernel
theorem dL_law_1404 : decode cL_law 1404 = .ok (.iaload, 1) := by decide +kernel
theorem dL_law_1405 : decode cL_law 1405 = .ok (.aload_n 0, 1) := by decide +kernel
theorem dL_law_1406 : decode cL_law 1406 = .ok (.iload_n 3, 1) := by decide +kernel
theorem dL_law_1407 : decode cL_law 1407 = .ok (.iconst 2, 1) := by decide +kernel
theorem dL_law_1408 : decode cL_law 1408 = .ok (.iadd, 1) := by decide +kernel
theorem dL_law_1409 : decode cL_law 1409 = .ok (.iaload, 1) := by decide +kernel
theorem dL_law_1410 : decode cL_law 1410 = .ok (.aload_n 0, 1) := by decide +kernel
theorem dL_law_1411 : decode cL_law 1411 = .ok (.iload_n 3, 1) := by decide +kernel
theorem dL_law_1412 : decode cL_law 1412 = .ok (.iconst 3, 1) := by decide +kernel
theorem dL_law_1413 : decode cL_law 1413 = .ok (.iadd, 1) := by decide +kernel
theorem dL_law_1414 : decode cL_law 1414 = .ok (.iaload, 1) := by decide +kernel
theorem dL_law_1415 : decode cL_law 1415 = .ok (.aload_n 0, 1) := by decide +kernel
theorem dL_law_1416 : decode cL_law 1416 = .ok (.iload_n 3, 1) := by decide +kernel
theorem dL_law_1417 : decode cL_law 1417 = .ok (.iconst 4, 1) := by decide +kernel
theorem dL_law_1418 : decode cL_law 1418 = .ok (.iadd, 1) := by decide +kernel
theorem dL_law_1419 : decode cL_law 1419 = .ok (.iaload, 1) := by decide +kernel
theorem dL_law_1420 : decode cL_law 1420 = .ok (.aload_n 0, 1) := by decide +kernel
theorem dL_law_1421 : decode cL_law 1421 = .ok (.iload_n 3, 1) := by decide +kernel
theorem dL_law_1422 : decode cL_law 1422 = .ok (.iconst 5, 1) := by decide +kernel
theorem dL_law_1423 : decode cL_law 1423 = .ok (.iadd, 1) := by decide +kernel
theorem dL_law_1424 : decode cL_law 1424 = .ok (.iaload, 1) := by decide +kernel
theorem dL_law_1425 : decode cL_law 1425 = .ok (.aload_n 0, 1) := by decide +kernel
theorem dL_law_1426 : decode cL_law 1426 = .ok (.iload_n 3, 1) := by decide +kernel
theorem dL_law_1427 : decode cL_law 1427 = .ok (.bipush 6, 2) := by decide +kernel
theorem dL_law_1429 : decode cL_law 1429 = .ok (.iadd, 1) := by decide +kernel
theorem dL_law_1430 : decode cL_law 1430 = .ok (.iaload, 1) := by decide +kernel
theorem dL_law_1431 : decode cL_law 1431 = .ok (.invokevirtual 154, 3) := by decide +kernel
theorem dL_law_1434 : decode cL_law 1434 = .ok (.aload_n 2, 1) := by decide +kernel
theorem dL_law_1435 : decode cL_law 1435 = .ok (.aload_n 0, 1) := by decide +kernel
theorem dL_law_1436 : decode cL_law 1436 = .ok (.iload_n 3, 1) := by decide +kernel
theorem dL_law_1437 : decode cL_law 1437 = .ok (.iconst 1, 1) := by decide +kernel
theorem dL_law_1438 : decode cL_law 1438 = .ok (.iadd, 1) := by decide +kernel
theorem dL_law_1439 : decode cL_law 1439 = .ok (.iaload, 1) := by decide +kernel
theorem dL_law_1440 : decode cL_law 1440 = .ok (.aload_n 0, 1) := by decide +kernel
theorem dL_law_1441 : decode cL_law 1441 = .ok (.iload_n 3, 1) := by decide +kernel
theorem dL_law_1442 : decode cL_law 1442 = .ok (.iconst 2, 1) := by decide +kernel
theorem dL_law_1443 : decode cL_law 1443 = .ok (.iadd, 1) := by decide +kernel
theorem dL_law_1444 : decode cL_law 1444 = .ok (.iaload, 1) := by decide +kernel
theorem dL_law_1445 : decode cL_law 1445 = .ok (.aload_n 0, 1) := by decide +kernel
theorem dL_law_1446 : decode cL_law 1446 = .ok (.iload_n 3, 1) := by decide +kernel
theorem dL_law_1447 : decode cL_law 1447 = .ok (.iconst 3, 1) := by decide +kernel
theorem dL_law_1448 : decode cL_law 1448 = .ok (.iadd, 1) := by decide +kernel
theorem dL_law_1449 : decode cL_law 1449 = .ok (.iaload, 1) := by decide +kernel
theorem dL_law_1450 : decode cL_law 1450 = .ok (.aload_n 0, 1) := by decide +kernel
theorem dL_law_1451 : decode cL_law 1451 = .ok (.iload_n 3, 1) := by decide +kernel
theorem dL_law_1452 : decode cL_law 1452 = .ok (.iconst 4, 1) := by decide +kernel
theorem dL_law_1453 : decode cL_law 1453 = .ok (.iadd, 1) := by decide +kernel
theorem dL_law_1454 : decode cL_law 1454 = .ok (.iaload, 1) := by decide +kernel
theorem dL_law_1455 : decode cL_law 1455 = .ok (.aload_n 0, 1) := by decide +kernel
theorem dL_law_1456 : decode cL_law 1456 = .ok (.iload_n 3, 1) := by decide +kernel
theorem dL_law_1457 : decode cL_law 1457 = .ok (.iconst 5, 1) := by decide +kernel
theorem dL_law_1458 : decode cL_law 1458 = .ok (.iadd, 1) := by decide +kernel
theorem dL_law_1459 : decode cL_law 1459 = .ok (.iaload, 1) := by decide +kernel
theorem dL_law_1460 : decode cL_law 1460 = .ok (.aload_n 0, 1) := by decide +kernel
theorem dL_law_1461 : decode cL_law 1461 = .ok (.iload_n 3, 1) := by decide +kernel
theorem dL_law_1462 : decode cL_law 1462 = .ok (.bipush 6, 2) := by decide +kernel
theorem dL_law_1464 : decode cL_law 1464 = .ok (.iadd, 1) := by decide +kernel
theorem dL_law_1465 : decode cL_law 1465 = .ok (.iaload, 1) := by decide +kernel
theorem dL_law_1466 : decode cL_law 1466 = .ok (.invokevirtual 158, 3) := by decide +kernel
theorem dL_law_1469 : decode cL_law 1469 = .ok (.if_icmp .eq 28, 3) := by decide +kernel
theorem dL_law_1472 : decode cL_law 1472 = .ok (.iconst 0, 1) := by decide +kernel
theorem dL_law_1473 : decode cL_law 1473 = .ok (.ireturn, 1) := by decide +kernel
theorem dL_law_1474 : decode cL_law 1474 = .ok (.aload_n 1, 1) := by decide +kernel
theorem dL_law_1475 : decode cL_law 1475 = .ok (.aload_n 0, 1) := by decide +kernel
theorem dL_law_1476 : decode cL_law 1476 = .ok (.iload_n 3, 1) := by decide +kernel
theorem dL_law_1477 : decode cL_law 1477 = .ok (.iconst 1, 1) := by decide +kernel
theorem dL_law_1478 : decode cL_law 1478 = .ok (.iadd, 1) := by decide +kernel
theorem dL_law_1479 : decode cL_law 1479 = .ok (.iaload, 1) := by decide +kernel
theorem dL_law_1480 : decode cL_law 1480 = .ok (.invokevirtual 159, 3) := by decide +kernel
theorem dL_law_1483 : decode cL_law 1483 = .ok (.aload_n 2, 1) := by decide +kernel
theorem dL_law_1484 : decode cL_law 1484 = .ok (.aload_n 0, 1) := by decide +kernel
theorem dL_law_1485 : decode cL_law 1485 = .ok (.iload_n 3, 1) := by decide +kernel
theorem dL_law_1486 : decode cL_law 1486 = .ok (.iconst 1, 1) := by decide +kernel
theorem dL_law_1487 : decode cL_law 1487 = .ok (.iadd, 1) := by decide +kernel
theorem dL_law_1488 : decode cL_law 1488 = .ok (.iaload, 1) := by decide +kernel
theorem dL_law_1489 : decode cL_law 1489 = .ok (.invokevirtual 162, 3) := by decide +kernel
theorem dL_law_1492 : decode cL_law 1492 = .ok (.if_icmp .eq 5, 3) := by decide +kernel
theorem dL_law_1495 : decode cL_law 1495 = .ok (.iconst 0, 1) := by decide +kernel
theorem dL_law_1496 : decode cL_law 1496 = .ok (.ireturn, 1) := by decide +kernel
theorem dL_law_1497 : decode cL_law 1497 = .ok (.iinc 3 7, 3) := by decide +kernel
theorem dL_law_1500 : decode cL_law 1500 = .ok (.goto (-1482), 3) := by decide +kernel
theorem dL_law_1503 : decode cL_law 1503 = .ok (.iconst 1, 1) := by decide +kernel
theorem dL_law_1504 : decode cL_law 1504 = .ok (.ireturn, 1) := by decide +kernel
end
section
/-! ===== the words: all good words of the tables, one list for every method ===== -/
def gw : List Cond := lw_tbl.filter goodWord
theorem gw_mem {w : Cond} (i : Nat) (h : lw_tbl[i]? = some w) (hg : goodWord w = true) : w ∈ gw := List.mem_filter.mpr ⟨List.mem_of_getElem? h, hg⟩
theorem gw_sub {ws : List Cond} (ps : List Nat) (h : ws = ps.filterMap (fun i => lw_tbl[i]?)) (hg : ws.all goodWord = true) : ∀ w ∈ ws, w ∈ gw := by
  intro w hw
  have h1 := List.all_eq_true.mp hg w hw
  rw [h] at hw
  obtain ⟨i, -, hi⟩ := List.mem_filterMap.mp hw
  exact gw_mem i hi h1
def wU (y : MethodName) (cc : ByteArray) (n : Nat) (r : Option FieldType) : List Cond := Cond.code y cc n r :: gw
theorem good1 {w : Cond} (h : w ∈ gw) : w ∈ gw ∧ ((w.onTables && w.keeps) = true ∨ ∃ ty, w = .arrayClass ty) := ⟨h, good_of_word (List.mem_filter.mp h).2⟩
theorem good_U {y : MethodName} {cc : ByteArray} {n : Nat} {r : Option FieldType} (h : Cond.code y cc n r ∈ gw) : GoodIn gw (wU y cc n r) := fun w hw => by
  rcases List.mem_cons.mp hw with e | e
  · subst e; exact good1 h
  · exact good1 e
theorem good_V {own C : String} {idx : Nat} {y : MethodName} {cc : ByteArray} {n : Nat} {r : Option FieldType} (h1 : Cond.methodLink own idx y ∈ gw) (h2 : Cond.instanceMethod y ∈ gw) (h3 : Cond.selects C y y ∈ gw) (h4 : Cond.initialized C ∈ gw) (h : Cond.code y cc n r ∈ gw) : GoodIn gw (wsV own idx C y (wU y cc n r)) := fun w hw => by
  unfold wsV at hw
  rcases List.mem_append.mp hw with e | e
  · simp only [List.mem_cons, List.not_mem_nil, or_false] at e
    rcases e with rfl | rfl | rfl | rfl
    exacts [good1 h1, good1 h2, good1 h3, good1 h4]
  · exact good_U h w e
theorem good_S {own : String} {idx : Nat} {y : MethodName} {cc : ByteArray} {n : Nat} {r : Option FieldType} (h1 : Cond.methodLink own idx y ∈ gw) (h2 : Cond.static y ∈ gw) (h4 : Cond.initialized y.cls ∈ gw) (h : Cond.code y cc n r ∈ gw) : GoodIn gw (va_wsS own idx y (wU y cc n r)) := fun w hw => by
  unfold va_wsS at hw
  rcases List.mem_append.mp hw with e | e
  · simp only [List.mem_cons, List.not_mem_nil, or_false] at e
    rcases e with rfl | rfl | rfl
    exacts [good1 h1, good1 h2, good1 h4]
  · exact good_U h w e
def rmD (d : Nat) : Room := { frames := d, cells := 0, slots := 0, locals := 40 * d }
/-! ===== the system's cells: by numbers from the first one on; which kind each is, how long ===== -/
def wk (j : Nat) : Nat := if j % 8 = 0 then 9 else if j % 8 = 1 then 16 else 6
def kd (i : Nat) : Nat :=
  if i = 0 then 10 else if i = 1 then 7 else if i = 2 then 12 else if i < 19 then wk (i - 3) else if i = 19 then 3 else if i = 20 then 17
  else if i < 181 then wk (i - 21) else if i = 181 then 17 else if i < 198 then wk (i - 182) else if i = 198 then 15
  else if i < 207 then (if (i - 199) % 2 = 0 then 5 else 13)
  else if i = 207 then 1 else if i = 208 then 12 else if i = 209 then 14 else if i = 210 then 12 else if i = 211 then 6
  else if i = 212 then 0 else if i = 213 then 14 else if i = 214 then 18 else if i < 217 then 12 else if i = 217 then 18 else if i < 220 then 12
  else if i = 220 then 4 else if i < 223 then 16 else if i < 237 then 6
  else if i = 237 then 8 else if i < 240 then 12 else if i = 240 then 2 else if i < 244 then 12
  else if i = 244 then 11 else if i = 245 then 12 else if i = 246 then 14 else if i = 247 then 13 else if i < 253 then 12 else if i = 253 then 13 else if i = 254 then 12 else 99
def ln (i : Nat) : Nat :=
  if i = 2 then 90 else if i = 20 then 20 else if i = 181 then 2 else if i = 198 then 4
  else if i < 198 then 6 else if i < 207 then 24
  else if i = 208 then 60 else if i = 209 then 60 else if i = 210 then 4 else if i = 213 then 10 else if i = 214 then 2 else if i < 217 then 10 else if i = 217 then 2 else if i < 220 then 10
  else if i < 223 then 7 else if i < 240 then 7 else if i < 243 then 12 else if i = 243 then 8
  else if i = 245 then 1752 else if i = 246 then 2 else if i = 247 then 96 else if i < 250 then 4 else if i = 250 then 90 else if i = 251 then 40 else if i = 252 then 729 else if i = 253 then 24 else 448
theorem kd_lt {i k : Nat} (h : kd i = k) (hk : k < 99) : i < 255 := by
  apply Classical.byContradiction
  intro hn
  have : kd i = 99 := by
    unfold kd
    rw [if_neg (by omega), if_neg (by omega), if_neg (by omega), if_neg (by omega), if_neg (by omega), if_neg (by omega), if_neg (by omega), if_neg (by omega), if_neg (by omega), if_neg (by omega), if_neg (by omega), if_neg (by omega), if_neg (by omega), if_neg (by omega), if_neg (by omega), if_neg (by omega), if_neg (by omega), if_neg (by omega), if_neg (by omega), if_neg (by omega), if_neg (by omega), if_neg (by omega), if_neg (by omega), if_neg (by omega), if_neg (by omega), if_neg (by omega), if_neg (by omega), if_neg (by omega), if_neg (by omega), if_neg (by omega), if_neg (by omega), if_neg (by omega), if_neg (by omega), if_neg (by omega), if_neg (by omega), if_neg (by omega), if_neg (by omega), if_neg (by omega)]
  omega
abbrev MI : Type := Nat → Nat → Int32
abbrev ML : Type := Nat → Nat → Int64
def up2 (I : MI) (i k : Nat) (v : Int32) : MI := va_up I i (upd (I i) k v)
def uq2 (L : ML) (i k : Nat) (v : Int64) : ML := va_up L i (vp_updL (L i) k v)
/-- where the first cell lies; the classes' numbers; the arrays' classes; the two static arrays -/
abbrev Gp : Type := Nat × va_G × (Nat → ClassId) × Nat × Nat
def AA (g : Gp) : Nat → Prop := fun q => g.1 ≤ q
abbrev rfa (h : Nat → Nat) : (Nat → Int32) ⊕ (Nat → Int64) ⊕ (Nat → UInt32) ⊕ (Nat → UInt64) ⊕ (Nat → Option Nat) := .inr (.inr (.inr (.inr (fun j => some (h j)))))
def EE (g : Gp) (i : Nat) (f : Nat → Int32) (r : Nat → Int64) : va_E :=
  if kd i = 0 then .inr (0, [.ref (g.1 + 213), .ref (g.1 + 214), .ref (g.1 + 217), .int (f 3), .int (f 4), .int (f 5), .int (f 6)])
  else if kd i = 1 then .inr (1, [.ref (g.1 + 208), .ref (g.1 + 209), .ref (g.1 + 210), .int (f 3), .int (f 4), .ref (g.1 + 211)])
  else if kd i = 2 then .inr (2, [.ref (g.1 + 241), .ref (g.1 + 242), .ref (g.1 + 243), .int (f 3)])
  else if kd i = 3 then .inr (3, [.ref (g.1 + 20), .int (f 1), .int (f 2)])
  else if kd i = 4 then .inr (4, [.ref (g.1 + 221), .ref (g.1 + 222), va_rf (if f 2 = 0 then none else some (g.1 + 207))])
  else if kd i = 5 then .inr (5, [.int (f 0), .int (f 1), .ref (g.1 + (i + 1))])
  else if kd i = 6 then .inr (6, [.int (f 0), .int (f 1), .int (f 2), .int (f 3), .int (f 4), .int (f 5), .int (f 6), .int (f 7), .int (f 8), .int (f 9), .int (f 10)])
  else if kd i = 7 then .inr (7, [.ref (g.1 + 2), .int (f 1), .int (f 2), .int (f 3)])
  else if kd i = 8 then .inr (8, [.ref (g.1 + 238), .ref (g.1 + 239), .int (f 2), .int (f 3), .int (f 4)])
  else if kd i = 9 then .inr (9, [.ref (g.1 + (i + 1)), .int (f 1), .int (f 2), .int (f 3), .int (f 4), .int (f 5), .int (f 6)])
  else if kd i = 10 then .inr (10, [.ref (g.1 + 1), .ref (g.1 + 3), .ref (g.1 + 11), .ref (g.1 + 19), .ref (g.1 + 181), .ref (g.1 + 198), .ref (g.1 + 207), .ref (g.1 + 212), .ref (g.1 + 220), .ref (g.1 + 237), .ref (g.1 + 240)])
  else if kd i = 11 then .inr (11, [.ref (g.1 + 245), .ref (g.1 + 246), .int (f 2), .ref (g.1 + 247), .ref (g.1 + 248), .ref (g.1 + 249), .ref (g.1 + 250), .int (f 7), .int (f 8), .int (f 9), .int (f 10), .ref (g.1 + 251), .long (r 12), .long (r 13), .ref (g.1 + 252), .ref (g.1 + 253), .ref (g.1 + 254)])
  else if kd i = 12 then .inl (g.2.2.1 0, ln i, .inl f)
  else if kd i = 13 then .inl (g.2.2.1 1, ln i, .inr (.inl r))
  else if kd i = 14 then .inl (g.2.2.1 2, ln i, .inl f)
  else if kd i = 15 then .inl (g.2.2.1 3, ln i, rfa (fun j => g.1 + (199 + 2 * j)))
  else if kd i = 16 then .inl (g.2.2.1 4, ln i, rfa (fun j => g.1 + (if i = 221 then 223 + 2 * j else if i = 222 then 224 + 2 * j else i + 1 + j)))
  else if kd i = 17 then .inl (g.2.2.1 5, ln i, rfa (fun j => g.1 + (if i = 20 then 21 + 8 * j else 182 + 8 * j)))
  else .inl (g.2.2.1 6, ln i, rfa (fun j => g.1 + (i + 1 + j)))
theorem EE_0 {g : Gp} {i : Nat} {f : Nat → Int32} {r : Nat → Int64} (h : kd i = 0) : EE g i f r = .inr (0, [.ref (g.1 + 213), .ref (g.1 + 214), .ref (g.1 + 217), .int (f 3), .int (f 4), .int (f 5), .int (f 6)]) := by simp [EE, h]
theorem EE_1 {g : Gp} {i : Nat} {f : Nat → Int32} {r : Nat → Int64} (h : kd i = 1) : EE g i f r = .inr (1, [.ref (g.1 + 208), .ref (g.1 + 209), .ref (g.1 + 210), .int (f 3), .int (f 4), .ref (g.1 + 211)]) := by simp [EE, h]
theorem EE_2 {g : Gp} {i : Nat} {f : Nat → Int32} {r : Nat → Int64} (h : kd i = 2) : EE g i f r = .inr (2, [.ref (g.1 + 241), .ref (g.1 + 242), .ref (g.1 + 243), .int (f 3)]) := by simp [EE, h]
theorem EE_3 {g : Gp} {i : Nat} {f : Nat → Int32} {r : Nat → Int64} (h : kd i = 3) : EE g i f r = .inr (3, [.ref (g.1 + 20), .int (f 1), .int (f 2)]) := by simp [EE, h]
theorem EE_4 {g : Gp} {i : Nat} {f : Nat → Int32} {r : Nat → Int64} (h : kd i = 4) : EE g i f r = .inr (4, [.ref (g.1 + 221), .ref (g.1 + 222), va_rf (if f 2 = 0 then none else some (g.1 + 207))]) := by simp [EE, h]
theorem EE_5 {g : Gp} {i : Nat} {f : Nat → Int32} {r : Nat → Int64} (h : kd i = 5) : EE g i f r = .inr (5, [.int (f 0), .int (f 1), .ref (g.1 + (i + 1))]) := by simp [EE, h]
theorem EE_6 {g : Gp} {i : Nat} {f : Nat → Int32} {r : Nat → Int64} (h : kd i = 6) : EE g i f r = .inr (6, [.int (f 0), .int (f 1), .int (f 2), .int (f 3), .int (f 4), .int (f 5), .int (f 6), .int (f 7), .int (f 8), .int (f 9), .int (f 10)]) := by simp [EE, h]
theorem EE_7 {g : Gp} {i : Nat} {f : Nat → Int32} {r : Nat → Int64} (h : kd i = 7) : EE g i f r = .inr (7, [.ref (g.1 + 2), .int (f 1), .int (f 2), .int (f 3)]) := by simp [EE, h]
theorem EE_8 {g : Gp} {i : Nat} {f : Nat → Int32} {r : Nat → Int64} (h : kd i = 8) : EE g i f r = .inr (8, [.ref (g.1 + 238), .ref (g.1 + 239), .int (f 2), .int (f 3), .int (f 4)]) := by simp [EE, h]
theorem EE_9 {g : Gp} {i : Nat} {f : Nat → Int32} {r : Nat → Int64} (h : kd i = 9) : EE g i f r = .inr (9, [.ref (g.1 + (i + 1)), .int (f 1), .int (f 2), .int (f 3), .int (f 4), .int (f 5), .int (f 6)]) := by simp [EE, h]
theorem EE_10 {g : Gp} {i : Nat} {f : Nat → Int32} {r : Nat → Int64} (h : kd i = 10) : EE g i f r = .inr (10, [.ref (g.1 + 1), .ref (g.1 + 3), .ref (g.1 + 11), .ref (g.1 + 19), .ref (g.1 + 181), .ref (g.1 + 198), .ref (g.1 + 207), .ref (g.1 + 212), .ref (g.1 + 220), .ref (g.1 + 237), .ref (g.1 + 240)]) := by simp [EE, h]
theorem EE_11 {g : Gp} {i : Nat} {f : Nat → Int32} {r : Nat → Int64} (h : kd i = 11) : EE g i f r = .inr (11, [.ref (g.1 + 245), .ref (g.1 + 246), .int (f 2), .ref (g.1 + 247), .ref (g.1 + 248), .ref (g.1 + 249), .ref (g.1 + 250), .int (f 7), .int (f 8), .int (f 9), .int (f 10), .ref (g.1 + 251), .long (r 12), .long (r 13), .ref (g.1 + 252), .ref (g.1 + 253), .ref (g.1 + 254)]) := by simp [EE, h]
theorem EE_12 {g : Gp} {i : Nat} {f : Nat → Int32} {r : Nat → Int64} (h : kd i = 12) : EE g i f r = .inl (g.2.2.1 0, ln i, .inl f) := by simp [EE, h]
theorem EE_13 {g : Gp} {i : Nat} {f : Nat → Int32} {r : Nat → Int64} (h : kd i = 13) : EE g i f r = .inl (g.2.2.1 1, ln i, .inr (.inl r)) := by simp [EE, h]
theorem EE_14 {g : Gp} {i : Nat} {f : Nat → Int32} {r : Nat → Int64} (h : kd i = 14) : EE g i f r = .inl (g.2.2.1 2, ln i, .inl f) := by simp [EE, h]
theorem EE_15 {g : Gp} {i : Nat} {f : Nat → Int32} {r : Nat → Int64} (h : kd i = 15) : EE g i f r = .inl (g.2.2.1 3, ln i, rfa (fun j => g.1 + (199 + 2 * j))) := by simp [EE, h]
theorem EE_16 {g : Gp} {i : Nat} {f : Nat → Int32} {r : Nat → Int64} (h : kd i = 16) : EE g i f r = .inl (g.2.2.1 4, ln i, rfa (fun j => g.1 + (if i = 221 then 223 + 2 * j else if i = 222 then 224 + 2 * j else i + 1 + j))) := by simp [EE, h]
theorem EE_17 {g : Gp} {i : Nat} {f : Nat → Int32} {r : Nat → Int64} (h : kd i = 17) : EE g i f r = .inl (g.2.2.1 5, ln i, rfa (fun j => g.1 + (if i = 20 then 21 + 8 * j else 182 + 8 * j))) := by simp [EE, h]
theorem EE_18 {g : Gp} {i : Nat} {f : Nat → Int32} {r : Nat → Int64} (h : kd i = 18) : EE g i f r = .inl (g.2.2.1 6, ln i, rfa (fun j => g.1 + (i + 1 + j))) := by simp [EE, h]
def wl (g : Gp) (I : MI) (L : ML) : va_W := (List.range 255).map (fun i => (g.1 + i, EE g i (I i) (L i)))
theorem wl_get {g : Gp} {I : MI} {L : ML} {i : Nat} (h : i < 255) : (wl g I L)[i]? = some (g.1 + i, EE g i (I i) (L i)) := by
  unfold wl
  rw [List.getElem?_map, List.getElem?_range h]
  rfl
theorem wl_at {g : Gp} {I : MI} {L : ML} {k : Nat} {q : Nat × va_E} (h : (wl g I L)[k]? = some q) : k < 255 ∧ q = (g.1 + k, EE g k (I k) (L k)) := by
  have hl : k < 255 := by
    have := (List.getElem?_eq_some_iff.mp h).1
    simpa [wl] using this
  rw [wl_get hl] at h
  exact ⟨hl, (Option.some.inj h).symm⟩
theorem wl_D {g : Gp} {I : MI} {L : ML} : va_D (AA g) (wl g I L) := by
  refine ⟨fun i j p q hi hj hpq => ?_, fun k q hk => ?_⟩
  · obtain ⟨-, rfl⟩ := wl_at hi
    obtain ⟨-, rfl⟩ := wl_at hj
    exact Nat.add_left_cancel hpq
  · obtain ⟨-, rfl⟩ := wl_at hk
    exact Nat.le_add_right _ _
theorem wl_setI {g : Gp} {I : MI} {L : ML} {i : Nat} {f : Nat → Int32} {e : va_E} (h : i < 255) (he : EE g i f (L i) = e) : (wl g I L).set i (g.1 + i, e) = wl g (va_up I i f) L := by
  subst he
  apply List.ext_getElem?
  intro k
  by_cases hk : k < 255
  · by_cases e : k = i
    · subst e
      rw [List.getElem?_set_self (by simpa [wl] using hk), wl_get hk]
      simp [va_up]
    · rw [List.getElem?_set_ne (fun z => e z.symm), wl_get hk, wl_get hk]
      simp [va_up, e]
  · rw [List.getElem?_eq_none (by simp [wl]; omega), List.getElem?_eq_none (by simp [wl]; omega)]
theorem wl_setL {g : Gp} {I : MI} {L : ML} {i : Nat} {f : Nat → Int64} {e : va_E} (h : i < 255) (he : EE g i (I i) f = e) : (wl g I L).set i (g.1 + i, e) = wl g I (va_up L i f) := by
  subst he
  apply List.ext_getElem?
  intro k
  by_cases hk : k < 255
  · by_cases e : k = i
    · subst e
      rw [List.getElem?_set_self (by simpa [wl] using hk), wl_get hk]
      simp [va_up]
    · rw [List.getElem?_set_ne (fun z => e z.symm), wl_get hk, wl_get hk]
      simp [va_up, e]
  · rw [List.getElem?_eq_none (by simp [wl]; omega), List.getElem?_eq_none (by simp [wl]; omega)]
def Wd (g : Gp) (I : MI) (L : ML) (H : Heap) : Prop := va_P g.2.1 vwCl (wl g I L) H
/-! ===== what is known of the tables at any state of the run ===== -/
def nwl : List Cond := [.methodLinkNest RX10 9 yX7_init RX10, .methodLinkNest RX9 21 yX6_init RX10, .methodLinkNest RX10 43 yX5_init RX10, .methodLinkNest RX10 46 yX1_init RX10, .methodLinkNest RX1 24 yX6_init RX10, .methodLinkNest RX10 53 yX0_init RX10, .methodLinkNest RX4 20 yX6_init RX10, .methodLinkNest RX10 67 yX8_init RX10, .methodLinkNest RX10 74 yX2_init RX10, .methodLinkNest RX7 80 yX10_within RX10, .methodLinkNest RX9 41 yX10_isDark RX10, .methodLinkNest RX9 56 yX10_drawAfter RX10, .methodLinkNest RX1 35 yX10_drawAfter RX10, .methodLinkNest RX1 49 yX10_isDark RX10, .methodLinkNest RX1 53 yX10_within RX10, .methodLinkNest RX0 44 yX10_isDark RX10, .methodLinkNest RX4 56 yX10_within RX10]
def isMN : Cond → Bool
  | .methodLinkNest _ _ _ _ => true
  | _ => false
abbrev fnw : Cond := .fieldLinkNest RX7 84 RX10 "SORTS" "[C" RX10
abbrev tys (g : Gp) : List (ClassId × FieldType) := [(g.2.2.1 0, .int), (g.2.2.1 1, .long), (g.2.2.1 2, .boolean), (g.2.2.1 3, .object RX5), (g.2.2.1 4, .object RX6), (g.2.2.1 5, .object RX9), (g.2.2.1 6, .array .int)]
def Kn (g : Gp) (U : State) : Prop := va_K g.2.1 vwCl (tys g) U ∧ (∀ w ∈ nwl, va_Nw w U) ∧ va_Nw fnw U
def koF (j : Nat) : Int32 := if j = 0 then -1 else if j = 1 then 0 else if j = 2 then 1 else if j = 3 then 1 else if j = 4 then 0 else 4
def soF (j : Nat) : Int32 := if j = 0 then 112 else if j = 1 then 104 else if j = 2 then 109 else if j = 3 then 121 else 115
def Sx (g : Gp) (U : State) (H : Heap) : Prop := va_Z RX10 "KIND_OVER" "[I" (.ref g.2.2.2.1) (AA g) U H ∧ va_T .int g.2.2.2.1 6 (fun j => .int (koF j)) (AA g) U H ∧ va_Z RX10 "SORTS" "[C" (.ref g.2.2.2.2) (AA g) U H ∧ va_T .char g.2.2.2.2 5 (fun j => .int (soF j)) (AA g) U H
theorem Kn.warm {g : Gp} {s U : State} (hW : s.WarmedH U.vm) (h : Kn g s) : Kn g U := by
  refine ⟨va_K.moved hW.alike h.1, fun w hw => ?_, va_Nw.warmF hW h.2.2⟩
  have h2 := h.2.1 w hw
  have h3 : isMN w = true := (List.all_eq_true.mp (by decide +kernel : nwl.all isMN = true)) w hw
  match w, h2, h3 with
  | .methodLinkNest _ _ _ _, h2, _ => exact va_Nw.warmM hW h2
theorem Kn.same {g : Gp} {s U : State} (hv : s.vm = U.vm) (h : Kn g s) : Kn g U := by
  refine ⟨va_K.moved (by rw [hv]; exact Vm.Alike.refl U.vm) h.1, fun w hw => ?_, va_Nw.same rfl hv h.2.2⟩
  have h2 := h.2.1 w hw
  have h3 : isMN w = true := (List.all_eq_true.mp (by decide +kernel : nwl.all isMN = true)) w hw
  match w, h2, h3 with
  | .methodLinkNest _ _ _ _, h2, _ => exact va_Nw.same rfl hv h2
theorem Sx.moved {g : Gp} {u U : State} {H : Heap} (hvm : u.vm.Alike U.vm) (h : Sx g u H) : Sx g U H := ⟨h.1.moved hvm, h.2.1.moved hvm, h.2.2.1.moved hvm, h.2.2.2.moved hvm⟩
theorem Sx.kept {g : Gp} {U : State} {H H1 : Heap} (h : Sx g U H) (hq : ∀ a : Nat, a < H.size → ¬ AA g a → H1[a]? = H[a]?) : Sx g U H1 := ⟨h.1.kept hq, h.2.1.kept hq, h.2.2.1.kept hq, h.2.2.2.kept hq⟩
def Pre (g : Gp) (I : MI) (L : ML) (U : State) : Prop := Wd g I L U.heap ∧ Kn g U ∧ Sx g U U.heap
def Cx (g : Gp) (p : Program) (s : State) (m : MethodId) (args : Array Value) (c : Code) (own : String) (cc : ByteArray) (nL : Nat) : Prop := CallFix p m c cc nL s args gw own ∧ Kn g s ∧ Sx g s s.heap
def Ws (g : Gp) (s : State) (I : MI) (L : ML) (H : Heap) (locs : List Loc) : Prop := Wd g I L H ∧ va_S (AA g) s.heap H locs
/-! ===== the contracts' forms ===== -/
def MetI (g : Gp) (l : Launch) (y : MethodName) (cc : ByteArray) (n : Nat) (rt : FieldType) (d : Nat) (av : List Value) (I : MI) (L : ML) (r : Int32) (I' : MI) (L' : ML) : Prop :=
  Met l y (wU y cc n (some rt)) (rmD d) (va_Pc av (Pre g I L)) (va_Qi (fun r' (u : MI × ML) => r' = r ∧ u = (I', L')) (fun u t => Wd g u.1 u.2 t.heap) (AA g)) 0 0 (AA g)
def MetL (g : Gp) (l : Launch) (y : MethodName) (cc : ByteArray) (n : Nat) (d : Nat) (av : List Value) (I : MI) (L : ML) (r : Int64) (I' : MI) (L' : ML) : Prop :=
  Met l y (wU y cc n (some .long)) (rmD d) (va_Pc av (Pre g I L)) (va_Ql (fun r' (u : MI × ML) => r' = r ∧ u = (I', L')) (fun u t => Wd g u.1 u.2 t.heap) (AA g)) 0 0 (AA g)
def MetV (g : Gp) (l : Launch) (y : MethodName) (cc : ByteArray) (n : Nat) (d : Nat) (av : List Value) (I : MI) (L : ML) (I' : MI) (L' : ML) : Prop :=
  Met l y (wU y cc n none) (rmD d) (va_Pc av (Pre g I L)) (va_Qv (fun (u : MI × ML) => u = (I', L')) (fun u t => Wd g u.1 u.2 t.heap) (AA g)) 0 0 (AA g)
theorem pre_blind {g : Gp} {av : List Value} {I : MI} {L : ML} : FrameBlind (va_Pc av (Pre g I L)) := fun a U f mk q => ⟨q.1, q.2.1, q.2.2.1.same rfl, q.2.2.2.moved (Vm.Alike.refl U.vm)⟩
theorem pre_at {g : Gp} {av : List Value} {I : MI} {L : ML} {p : Program} {s : State} {m : MethodId} {args : Array Value} {c : Code} {own : String} {cc : ByteArray} {nL : Nat} {H : Heap} {locs : List Loc} (C : Cx g p s m args c own cc nL) (hW : Ws g s I L H locs) : ∀ U : State, U.heap = H → s.WarmedH U.vm → va_Pc av (Pre g I L) av.toArray U := fun U hU hV =>
  ⟨rfl, by rw [hU]; exact hW.1, C.2.1.warm hV, by rw [hU]; exact (C.2.2.moved hV.alike).kept (fun a h1 h2 => hW.2.2.1 a h1 h2)⟩
end
