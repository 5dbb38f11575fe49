section
-- ===== PART A: goes FIRST, ahead of the names: the tables' words, and 'selects' of the private methods out of them =====
/-- a private method of a class that the tables say can be made, by its rows of tables_1 -/
def lw_okq (q : MethodName × Nat) : Prop := (q.1.cls ≠ "java/lang/invoke/MethodHandle" ∧ q.1.cls ≠ "java/lang/invoke/VarHandle") ∧ Cond.instantiable q.1.cls q.2 ∈ tables_1 ∧ Cond.privateMethod q.1 ∈ tables_1 ∧ Cond.instanceMethod q.1 ∈ tables_1
theorem lw_p0 : lw_okq (⟨"TurnField$Tape", "readNumber", "(II)I"⟩, 5) := ⟨⟨by decide +kernel, by decide +kernel⟩, List.mem_of_getElem? (i := 123) (by decide +kernel), List.mem_of_getElem? (i := 417) (by decide +kernel), List.mem_of_getElem? (i := 418) (by decide +kernel)⟩
theorem lw_p1 : lw_okq (⟨"TurnField$Tape", "skipBlanks", "()V"⟩, 5) := ⟨⟨by decide +kernel, by decide +kernel⟩, List.mem_of_getElem? (i := 123) (by decide +kernel), List.mem_of_getElem? (i := 421) (by decide +kernel), List.mem_of_getElem? (i := 422) (by decide +kernel)⟩
theorem lw_p2 : lw_okq (⟨"TurnField$Tape", "isBetween", "(CC)Z"⟩, 5) := ⟨⟨by decide +kernel, by decide +kernel⟩, List.mem_of_getElem? (i := 123) (by decide +kernel), List.mem_of_getElem? (i := 425) (by decide +kernel), List.mem_of_getElem? (i := 426) (by decide +kernel)⟩
theorem lw_p3 : lw_okq (⟨"TurnField$Tape", "blame", "(II)V"⟩, 5) := ⟨⟨by decide +kernel, by decide +kernel⟩, List.mem_of_getElem? (i := 123) (by decide +kernel), List.mem_of_getElem? (i := 432) (by decide +kernel), List.mem_of_getElem? (i := 433) (by decide +kernel)⟩
theorem lw_p4 : lw_okq (⟨"TurnField$Tape", "readKind", "()I"⟩, 5) := ⟨⟨by decide +kernel, by decide +kernel⟩, List.mem_of_getElem? (i := 123) (by decide +kernel), List.mem_of_getElem? (i := 436) (by decide +kernel), List.mem_of_getElem? (i := 437) (by decide +kernel)⟩
theorem lw_p5 : lw_okq (⟨"TurnField$Tape", "readWord", "()V"⟩, 5) := ⟨⟨by decide +kernel, by decide +kernel⟩, List.mem_of_getElem? (i := 123) (by decide +kernel), List.mem_of_getElem? (i := 440) (by decide +kernel), List.mem_of_getElem? (i := 441) (by decide +kernel)⟩
theorem lw_p6 : lw_okq (⟨"TurnField$Tape", "isWord", "(ILjava/lang/String;)Z"⟩, 5) := ⟨⟨by decide +kernel, by decide +kernel⟩, List.mem_of_getElem? (i := 123) (by decide +kernel), List.mem_of_getElem? (i := 445) (by decide +kernel), List.mem_of_getElem? (i := 446) (by decide +kernel)⟩
theorem lw_p7 : lw_okq (⟨"TurnField$Tape", "readHeads", "()V"⟩, 5) := ⟨⟨by decide +kernel, by decide +kernel⟩, List.mem_of_getElem? (i := 123) (by decide +kernel), List.mem_of_getElem? (i := 500) (by decide +kernel), List.mem_of_getElem? (i := 501) (by decide +kernel)⟩
theorem lw_p8 : lw_okq (⟨"TurnField$Rule", "weigh", "(I)V"⟩, 6) := ⟨⟨by decide +kernel, by decide +kernel⟩, List.mem_of_getElem? (i := 156) (by decide +kernel), List.mem_of_getElem? (i := 556) (by decide +kernel), List.mem_of_getElem? (i := 557) (by decide +kernel)⟩
theorem lw_p9 : lw_okq (⟨"TurnField$Rule", "areNear", "(I)Z"⟩, 6) := ⟨⟨by decide +kernel, by decide +kernel⟩, List.mem_of_getElem? (i := 156) (by decide +kernel), List.mem_of_getElem? (i := 570) (by decide +kernel), List.mem_of_getElem? (i := 571) (by decide +kernel)⟩
theorem lw_p10 : lw_okq (⟨"TurnField$Rule", "leastUnmet", "()I"⟩, 6) := ⟨⟨by decide +kernel, by decide +kernel⟩, List.mem_of_getElem? (i := 156) (by decide +kernel), List.mem_of_getElem? (i := 574) (by decide +kernel), List.mem_of_getElem? (i := 575) (by decide +kernel)⟩
theorem lw_p11 : lw_okq (⟨"TurnField$Play", "joinEffects", "()V"⟩, 7) := ⟨⟨by decide +kernel, by decide +kernel⟩, List.mem_of_getElem? (i := 150) (by decide +kernel), List.mem_of_getElem? (i := 604) (by decide +kernel), List.mem_of_getElem? (i := 605) (by decide +kernel)⟩
theorem lw_p12 : lw_okq (⟨"TurnField", "played", "(II)I"⟩, 10) := ⟨⟨by decide +kernel, by decide +kernel⟩, List.mem_of_getElem? (i := 22) (by decide +kernel), List.mem_of_getElem? (i := 629) (by decide +kernel), List.mem_of_getElem? (i := 630) (by decide +kernel)⟩
theorem lw_p13 : lw_okq (⟨"TurnField$Play", "findAt", "(IIII)Z"⟩, 7) := ⟨⟨by decide +kernel, by decide +kernel⟩, List.mem_of_getElem? (i := 150) (by decide +kernel), List.mem_of_getElem? (i := 653) (by decide +kernel), List.mem_of_getElem? (i := 654) (by decide +kernel)⟩
theorem lw_p14 : lw_okq (⟨"TurnField$Past", "newest", "()I"⟩, 3) := ⟨⟨by decide +kernel, by decide +kernel⟩, List.mem_of_getElem? (i := 103) (by decide +kernel), List.mem_of_getElem? (i := 693) (by decide +kernel), List.mem_of_getElem? (i := 694) (by decide +kernel)⟩
theorem lw_p15 : lw_okq (⟨"TurnField", "hasShelf", "(I)Z"⟩, 10) := ⟨⟨by decide +kernel, by decide +kernel⟩, List.mem_of_getElem? (i := 22) (by decide +kernel), List.mem_of_getElem? (i := 701) (by decide +kernel), List.mem_of_getElem? (i := 702) (by decide +kernel)⟩
def lw_privs_1 : List (MethodName × Nat) := [(⟨"TurnField$Tape", "readNumber", "(II)I"⟩, 5), (⟨"TurnField$Tape", "skipBlanks", "()V"⟩, 5), (⟨"TurnField$Tape", "isBetween", "(CC)Z"⟩, 5), (⟨"TurnField$Tape", "blame", "(II)V"⟩, 5), (⟨"TurnField$Tape", "readKind", "()I"⟩, 5), (⟨"TurnField$Tape", "readWord", "()V"⟩, 5), (⟨"TurnField$Tape", "isWord", "(ILjava/lang/String;)Z"⟩, 5), (⟨"TurnField$Tape", "readHeads", "()V"⟩, 5), (⟨"TurnField$Rule", "weigh", "(I)V"⟩, 6), (⟨"TurnField$Rule", "areNear", "(I)Z"⟩, 6), (⟨"TurnField$Rule", "leastUnmet", "()I"⟩, 6), (⟨"TurnField$Play", "joinEffects", "()V"⟩, 7), (⟨"TurnField", "played", "(II)I"⟩, 10), (⟨"TurnField$Play", "findAt", "(IIII)Z"⟩, 7), (⟨"TurnField$Past", "newest", "()I"⟩, 3), (⟨"TurnField", "hasShelf", "(I)Z"⟩, 10)]
theorem lw_r1 : ∀ q ∈ lw_privs_1, lw_okq q := List.forall_mem_cons.mpr ⟨lw_p0, List.forall_mem_cons.mpr ⟨lw_p1, List.forall_mem_cons.mpr ⟨lw_p2, List.forall_mem_cons.mpr ⟨lw_p3, List.forall_mem_cons.mpr ⟨lw_p4, List.forall_mem_cons.mpr ⟨lw_p5, List.forall_mem_cons.mpr ⟨lw_p6, List.forall_mem_cons.mpr ⟨lw_p7, List.forall_mem_cons.mpr ⟨lw_p8, List.forall_mem_cons.mpr ⟨lw_p9, List.forall_mem_cons.mpr ⟨lw_p10, List.forall_mem_cons.mpr ⟨lw_p11, List.forall_mem_cons.mpr ⟨lw_p12, List.forall_mem_cons.mpr ⟨lw_p13, List.forall_mem_cons.mpr ⟨lw_p14, List.forall_mem_cons.mpr ⟨lw_p15, fun _ h => absurd h List.not_mem_nil⟩⟩⟩⟩⟩⟩⟩⟩⟩⟩⟩⟩⟩⟩⟩⟩
theorem lw_p16 : lw_okq (⟨"TurnField$Steps", "load", "(LTurnField$Position;)V"⟩, 4) := ⟨⟨by decide +kernel, by decide +kernel⟩, List.mem_of_getElem? (i := 260) (by decide +kernel), List.mem_of_getElem? (i := 754) (by decide +kernel), List.mem_of_getElem? (i := 755) (by decide +kernel)⟩
theorem lw_p17 : lw_okq (⟨"TurnField$Steps", "reduce", "(III)V"⟩, 4) := ⟨⟨by decide +kernel, by decide +kernel⟩, List.mem_of_getElem? (i := 260) (by decide +kernel), List.mem_of_getElem? (i := 759) (by decide +kernel), List.mem_of_getElem? (i := 760) (by decide +kernel)⟩
theorem lw_p18 : lw_okq (⟨"TurnField$Steps", "firstWith", "(II)I"⟩, 4) := ⟨⟨by decide +kernel, by decide +kernel⟩, List.mem_of_getElem? (i := 260) (by decide +kernel), List.mem_of_getElem? (i := 763) (by decide +kernel), List.mem_of_getElem? (i := 764) (by decide +kernel)⟩
theorem lw_p19 : lw_okq (⟨"TurnField$Steps", "swap", "(III)V"⟩, 4) := ⟨⟨by decide +kernel, by decide +kernel⟩, List.mem_of_getElem? (i := 260) (by decide +kernel), List.mem_of_getElem? (i := 767) (by decide +kernel), List.mem_of_getElem? (i := 768) (by decide +kernel)⟩
theorem lw_p20 : lw_okq (⟨"TurnField$Steps", "lead", "(II)V"⟩, 4) := ⟨⟨by decide +kernel, by decide +kernel⟩, List.mem_of_getElem? (i := 260) (by decide +kernel), List.mem_of_getElem? (i := 771) (by decide +kernel), List.mem_of_getElem? (i := 772) (by decide +kernel)⟩
theorem lw_p21 : lw_okq (⟨"TurnField$Steps", "clearOthers", "(III)V"⟩, 4) := ⟨⟨by decide +kernel, by decide +kernel⟩, List.mem_of_getElem? (i := 260) (by decide +kernel), List.mem_of_getElem? (i := 777) (by decide +kernel), List.mem_of_getElem? (i := 778) (by decide +kernel)⟩
theorem lw_p22 : lw_okq (⟨"TurnField$Polynomials", "raiseImage", "(I)V"⟩, 15) := ⟨⟨by decide +kernel, by decide +kernel⟩, List.mem_of_getElem? (i := 281) (by decide +kernel), List.mem_of_getElem? (i := 837) (by decide +kernel), List.mem_of_getElem? (i := 838) (by decide +kernel)⟩
theorem lw_p23 : lw_okq (⟨"TurnField$Polynomials", "sumTraces", "(JI)V"⟩, 15) := ⟨⟨by decide +kernel, by decide +kernel⟩, List.mem_of_getElem? (i := 281) (by decide +kernel), List.mem_of_getElem? (i := 851) (by decide +kernel), List.mem_of_getElem? (i := 852) (by decide +kernel)⟩
theorem lw_p24 : lw_okq (⟨"TurnField$Polynomials", "splitParts", "()V"⟩, 15) := ⟨⟨by decide +kernel, by decide +kernel⟩, List.mem_of_getElem? (i := 281) (by decide +kernel), List.mem_of_getElem? (i := 855) (by decide +kernel), List.mem_of_getElem? (i := 856) (by decide +kernel)⟩
theorem lw_p25 : lw_okq (⟨"TurnField$Polynomials", "readResults", "()V"⟩, 15) := ⟨⟨by decide +kernel, by decide +kernel⟩, List.mem_of_getElem? (i := 281) (by decide +kernel), List.mem_of_getElem? (i := 859) (by decide +kernel), List.mem_of_getElem? (i := 860) (by decide +kernel)⟩
theorem lw_p26 : lw_okq (⟨"TurnField$Polynomials", "insertResult", "(I)V"⟩, 15) := ⟨⟨by decide +kernel, by decide +kernel⟩, List.mem_of_getElem? (i := 281) (by decide +kernel), List.mem_of_getElem? (i := 863) (by decide +kernel), List.mem_of_getElem? (i := 864) (by decide +kernel)⟩
theorem lw_p27 : lw_okq (⟨"TurnField$Curve", "fit", "([JII)V"⟩, 6) := ⟨⟨by decide +kernel, by decide +kernel⟩, List.mem_of_getElem? (i := 336) (by decide +kernel), List.mem_of_getElem? (i := 893) (by decide +kernel), List.mem_of_getElem? (i := 894) (by decide +kernel)⟩
theorem lw_p28 : lw_okq (⟨"TurnField$Curve", "setPoint", "(I[JI)V"⟩, 6) := ⟨⟨by decide +kernel, by decide +kernel⟩, List.mem_of_getElem? (i := 336) (by decide +kernel), List.mem_of_getElem? (i := 897) (by decide +kernel), List.mem_of_getElem? (i := 898) (by decide +kernel)⟩
theorem lw_p29 : lw_okq (⟨"TurnField$Curve", "differ", "(I)V"⟩, 6) := ⟨⟨by decide +kernel, by decide +kernel⟩, List.mem_of_getElem? (i := 336) (by decide +kernel), List.mem_of_getElem? (i := 901) (by decide +kernel), List.mem_of_getElem? (i := 902) (by decide +kernel)⟩
theorem lw_p30 : lw_okq (⟨"TurnField$Curve", "agreement", "([J)I"⟩, 6) := ⟨⟨by decide +kernel, by decide +kernel⟩, List.mem_of_getElem? (i := 336) (by decide +kernel), List.mem_of_getElem? (i := 908) (by decide +kernel), List.mem_of_getElem? (i := 909) (by decide +kernel)⟩
theorem lw_p31 : lw_okq (⟨"TurnField$Span", "clear", "()V"⟩, 2) := ⟨⟨by decide +kernel, by decide +kernel⟩, List.mem_of_getElem? (i := 247) (by decide +kernel), List.mem_of_getElem? (i := 1014) (by decide +kernel), List.mem_of_getElem? (i := 1015) (by decide +kernel)⟩
def lw_privs_2 : List (MethodName × Nat) := [(⟨"TurnField$Steps", "load", "(LTurnField$Position;)V"⟩, 4), (⟨"TurnField$Steps", "reduce", "(III)V"⟩, 4), (⟨"TurnField$Steps", "firstWith", "(II)I"⟩, 4), (⟨"TurnField$Steps", "swap", "(III)V"⟩, 4), (⟨"TurnField$Steps", "lead", "(II)V"⟩, 4), (⟨"TurnField$Steps", "clearOthers", "(III)V"⟩, 4), (⟨"TurnField$Polynomials", "raiseImage", "(I)V"⟩, 15), (⟨"TurnField$Polynomials", "sumTraces", "(JI)V"⟩, 15), (⟨"TurnField$Polynomials", "splitParts", "()V"⟩, 15), (⟨"TurnField$Polynomials", "readResults", "()V"⟩, 15), (⟨"TurnField$Polynomials", "insertResult", "(I)V"⟩, 15), (⟨"TurnField$Curve", "fit", "([JII)V"⟩, 6), (⟨"TurnField$Curve", "setPoint", "(I[JI)V"⟩, 6), (⟨"TurnField$Curve", "differ", "(I)V"⟩, 6), (⟨"TurnField$Curve", "agreement", "([J)I"⟩, 6), (⟨"TurnField$Span", "clear", "()V"⟩, 2)]
theorem lw_r2 : ∀ q ∈ lw_privs_2, lw_okq q := List.forall_mem_cons.mpr ⟨lw_p16, List.forall_mem_cons.mpr ⟨lw_p17, List.forall_mem_cons.mpr ⟨lw_p18, List.forall_mem_cons.mpr ⟨lw_p19, List.forall_mem_cons.mpr ⟨lw_p20, List.forall_mem_cons.mpr ⟨lw_p21, List.forall_mem_cons.mpr ⟨lw_p22, List.forall_mem_cons.mpr ⟨lw_p23, List.forall_mem_cons.mpr ⟨lw_p24, List.forall_mem_cons.mpr ⟨lw_p25, List.forall_mem_cons.mpr ⟨lw_p26, List.forall_mem_cons.mpr ⟨lw_p27, List.forall_mem_cons.mpr ⟨lw_p28, List.forall_mem_cons.mpr ⟨lw_p29, List.forall_mem_cons.mpr ⟨lw_p30, List.forall_mem_cons.mpr ⟨lw_p31, fun _ h => absurd h List.not_mem_nil⟩⟩⟩⟩⟩⟩⟩⟩⟩⟩⟩⟩⟩⟩⟩⟩
theorem lw_p32 : lw_okq (⟨"TurnField$Span", "add", "(JJ)V"⟩, 2) := ⟨⟨by decide +kernel, by decide +kernel⟩, List.mem_of_getElem? (i := 247) (by decide +kernel), List.mem_of_getElem? (i := 1019) (by decide +kernel), List.mem_of_getElem? (i := 1020) (by decide +kernel)⟩
theorem lw_p33 : lw_okq (⟨"TurnField$Span", "tagOf", "(J)J"⟩, 2) := ⟨⟨by decide +kernel, by decide +kernel⟩, List.mem_of_getElem? (i := 247) (by decide +kernel), List.mem_of_getElem? (i := 1024) (by decide +kernel), List.mem_of_getElem? (i := 1025) (by decide +kernel)⟩
theorem lw_p34 : lw_okq (⟨"TurnField$Lengths", "listMoves", "(LTurnField$Play;)V"⟩, 10) := ⟨⟨by decide +kernel, by decide +kernel⟩, List.mem_of_getElem? (i := 207) (by decide +kernel), List.mem_of_getElem? (i := 1084) (by decide +kernel), List.mem_of_getElem? (i := 1085) (by decide +kernel)⟩
theorem lw_p35 : lw_okq (⟨"TurnField$Lengths", "listMovesAt", "(IILTurnField$Play;)V"⟩, 10) := ⟨⟨by decide +kernel, by decide +kernel⟩, List.mem_of_getElem? (i := 207) (by decide +kernel), List.mem_of_getElem? (i := 1088) (by decide +kernel), List.mem_of_getElem? (i := 1089) (by decide +kernel)⟩
theorem lw_p36 : lw_okq (⟨"TurnField$Lengths", "packed", "(J)I"⟩, 10) := ⟨⟨by decide +kernel, by decide +kernel⟩, List.mem_of_getElem? (i := 207) (by decide +kernel), List.mem_of_getElem? (i := 1094) (by decide +kernel), List.mem_of_getElem? (i := 1095) (by decide +kernel)⟩
theorem lw_p37 : lw_okq (⟨"TurnField$Lengths", "measure", "()V"⟩, 10) := ⟨⟨by decide +kernel, by decide +kernel⟩, List.mem_of_getElem? (i := 207) (by decide +kernel), List.mem_of_getElem? (i := 1099) (by decide +kernel), List.mem_of_getElem? (i := 1100) (by decide +kernel)⟩
theorem lw_p38 : lw_okq (⟨"TurnField$Lengths", "measured", "(I)I"⟩, 10) := ⟨⟨by decide +kernel, by decide +kernel⟩, List.mem_of_getElem? (i := 207) (by decide +kernel), List.mem_of_getElem? (i := 1103) (by decide +kernel), List.mem_of_getElem? (i := 1104) (by decide +kernel)⟩
theorem lw_p39 : lw_okq (⟨"TurnFieldModel", "laysTwos", "()V"⟩, 44) := ⟨⟨by decide +kernel, by decide +kernel⟩, List.mem_of_getElem? (i := 1173) (by decide +kernel), List.mem_of_getElem? (i := 1188) (by decide +kernel), List.mem_of_getElem? (i := 1189) (by decide +kernel)⟩
theorem lw_p40 : lw_okq (⟨"TurnFieldModel", "twoByTwo", "(II)J"⟩, 44) := ⟨⟨by decide +kernel, by decide +kernel⟩, List.mem_of_getElem? (i := 1173) (by decide +kernel), List.mem_of_getElem? (i := 1192) (by decide +kernel), List.mem_of_getElem? (i := 1193) (by decide +kernel)⟩
theorem lw_p41 : lw_okq (⟨"TurnFieldModel", "byTwo", "(IJ)J"⟩, 44) := ⟨⟨by decide +kernel, by decide +kernel⟩, List.mem_of_getElem? (i := 1173) (by decide +kernel), List.mem_of_getElem? (i := 1199) (by decide +kernel), List.mem_of_getElem? (i := 1200) (by decide +kernel)⟩
theorem lw_p42 : lw_okq (⟨"TurnFieldModel", "product", "(JJ)J"⟩, 44) := ⟨⟨by decide +kernel, by decide +kernel⟩, List.mem_of_getElem? (i := 1173) (by decide +kernel), List.mem_of_getElem? (i := 1341) (by decide +kernel), List.mem_of_getElem? (i := 1342) (by decide +kernel)⟩
theorem lw_p43 : lw_okq (⟨"TurnFieldModel", "inverseOf", "(J)J"⟩, 44) := ⟨⟨by decide +kernel, by decide +kernel⟩, List.mem_of_getElem? (i := 1173) (by decide +kernel), List.mem_of_getElem? (i := 1349) (by decide +kernel), List.mem_of_getElem? (i := 1350) (by decide +kernel)⟩
theorem lw_p44 : lw_okq (⟨"TurnFieldModel", "powerOf", "(JJ)J"⟩, 44) := ⟨⟨by decide +kernel, by decide +kernel⟩, List.mem_of_getElem? (i := 1173) (by decide +kernel), List.mem_of_getElem? (i := 1360) (by decide +kernel), List.mem_of_getElem? (i := 1361) (by decide +kernel)⟩
theorem lw_p45 : lw_okq (⟨"TurnFieldModel", "square", "(J)J"⟩, 44) := ⟨⟨by decide +kernel, by decide +kernel⟩, List.mem_of_getElem? (i := 1173) (by decide +kernel), List.mem_of_getElem? (i := 1364) (by decide +kernel), List.mem_of_getElem? (i := 1365) (by decide +kernel)⟩
theorem lw_p46 : lw_okq (⟨"TurnFieldModel", "rootOf", "(J)J"⟩, 44) := ⟨⟨by decide +kernel, by decide +kernel⟩, List.mem_of_getElem? (i := 1173) (by decide +kernel), List.mem_of_getElem? (i := 1372) (by decide +kernel), List.mem_of_getElem? (i := 1373) (by decide +kernel)⟩
theorem lw_p47 : lw_okq (⟨"TurnFieldModel", "madeOf", "(I)J"⟩, 44) := ⟨⟨by decide +kernel, by decide +kernel⟩, List.mem_of_getElem? (i := 1173) (by decide +kernel), List.mem_of_getElem? (i := 1384) (by decide +kernel), List.mem_of_getElem? (i := 1385) (by decide +kernel)⟩
def lw_privs_3 : List (MethodName × Nat) := [(⟨"TurnField$Span", "add", "(JJ)V"⟩, 2), (⟨"TurnField$Span", "tagOf", "(J)J"⟩, 2), (⟨"TurnField$Lengths", "listMoves", "(LTurnField$Play;)V"⟩, 10), (⟨"TurnField$Lengths", "listMovesAt", "(IILTurnField$Play;)V"⟩, 10), (⟨"TurnField$Lengths", "packed", "(J)I"⟩, 10), (⟨"TurnField$Lengths", "measure", "()V"⟩, 10), (⟨"TurnField$Lengths", "measured", "(I)I"⟩, 10), (⟨"TurnFieldModel", "laysTwos", "()V"⟩, 44), (⟨"TurnFieldModel", "twoByTwo", "(II)J"⟩, 44), (⟨"TurnFieldModel", "byTwo", "(IJ)J"⟩, 44), (⟨"TurnFieldModel", "product", "(JJ)J"⟩, 44), (⟨"TurnFieldModel", "inverseOf", "(J)J"⟩, 44), (⟨"TurnFieldModel", "powerOf", "(JJ)J"⟩, 44), (⟨"TurnFieldModel", "square", "(J)J"⟩, 44), (⟨"TurnFieldModel", "rootOf", "(J)J"⟩, 44), (⟨"TurnFieldModel", "madeOf", "(I)J"⟩, 44)]
theorem lw_r3 : ∀ q ∈ lw_privs_3, lw_okq q := List.forall_mem_cons.mpr ⟨lw_p32, List.forall_mem_cons.mpr ⟨lw_p33, List.forall_mem_cons.mpr ⟨lw_p34, List.forall_mem_cons.mpr ⟨lw_p35, List.forall_mem_cons.mpr ⟨lw_p36, List.forall_mem_cons.mpr ⟨lw_p37, List.forall_mem_cons.mpr ⟨lw_p38, List.forall_mem_cons.mpr ⟨lw_p39, List.forall_mem_cons.mpr ⟨lw_p40, List.forall_mem_cons.mpr ⟨lw_p41, List.forall_mem_cons.mpr ⟨lw_p42, List.forall_mem_cons.mpr ⟨lw_p43, List.forall_mem_cons.mpr ⟨lw_p44, List.forall_mem_cons.mpr ⟨lw_p45, List.forall_mem_cons.mpr ⟨lw_p46, List.forall_mem_cons.mpr ⟨lw_p47, fun _ h => absurd h List.not_mem_nil⟩⟩⟩⟩⟩⟩⟩⟩⟩⟩⟩⟩⟩⟩⟩⟩
theorem lw_p48 : lw_okq (⟨"TurnFieldModel", "degreeOf", "(J)I"⟩, 44) := ⟨⟨by decide +kernel, by decide +kernel⟩, List.mem_of_getElem? (i := 1173) (by decide +kernel), List.mem_of_getElem? (i := 1395) (by decide +kernel), List.mem_of_getElem? (i := 1396) (by decide +kernel)⟩
theorem lw_p49 : lw_okq (⟨"TurnFieldModel", "halfOf", "(J)J"⟩, 44) := ⟨⟨by decide +kernel, by decide +kernel⟩, List.mem_of_getElem? (i := 1173) (by decide +kernel), List.mem_of_getElem? (i := 1415) (by decide +kernel), List.mem_of_getElem? (i := 1416) (by decide +kernel)⟩
theorem lw_p50 : lw_okq (⟨"TurnFieldModel", "laysHalves", "()V"⟩, 44) := ⟨⟨by decide +kernel, by decide +kernel⟩, List.mem_of_getElem? (i := 1173) (by decide +kernel), List.mem_of_getElem? (i := 1419) (by decide +kernel), List.mem_of_getElem? (i := 1420) (by decide +kernel)⟩
theorem lw_p51 : lw_okq (⟨"TurnFieldModel", "laysBy", "(J)V"⟩, 44) := ⟨⟨by decide +kernel, by decide +kernel⟩, List.mem_of_getElem? (i := 1173) (by decide +kernel), List.mem_of_getElem? (i := 1438) (by decide +kernel), List.mem_of_getElem? (i := 1439) (by decide +kernel)⟩
theorem lw_p52 : lw_okq (⟨"TurnFieldModel", "by", "(J)J"⟩, 44) := ⟨⟨by decide +kernel, by decide +kernel⟩, List.mem_of_getElem? (i := 1173) (by decide +kernel), List.mem_of_getElem? (i := 1442) (by decide +kernel), List.mem_of_getElem? (i := 1443) (by decide +kernel)⟩
theorem lw_p53 : lw_okq (⟨"TurnFieldModel", "placeOf", "(I)J"⟩, 44) := ⟨⟨by decide +kernel, by decide +kernel⟩, List.mem_of_getElem? (i := 1173) (by decide +kernel), List.mem_of_getElem? (i := 1451) (by decide +kernel), List.mem_of_getElem? (i := 1452) (by decide +kernel)⟩
theorem lw_p54 : lw_okq (⟨"TurnFieldModel", "polynomialAt", "(J)J"⟩, 44) := ⟨⟨by decide +kernel, by decide +kernel⟩, List.mem_of_getElem? (i := 1173) (by decide +kernel), List.mem_of_getElem? (i := 1459) (by decide +kernel), List.mem_of_getElem? (i := 1460) (by decide +kernel)⟩
theorem lw_p55 : lw_okq (⟨"TurnFieldModel", "throughAt", "(J)J"⟩, 44) := ⟨⟨by decide +kernel, by decide +kernel⟩, List.mem_of_getElem? (i := 1173) (by decide +kernel), List.mem_of_getElem? (i := 1463) (by decide +kernel), List.mem_of_getElem? (i := 1464) (by decide +kernel)⟩
theorem lw_p56 : lw_okq (⟨"TurnFieldModel", "isRoot", "(J)Z"⟩, 44) := ⟨⟨by decide +kernel, by decide +kernel⟩, List.mem_of_getElem? (i := 1173) (by decide +kernel), List.mem_of_getElem? (i := 1472) (by decide +kernel), List.mem_of_getElem? (i := 1473) (by decide +kernel)⟩
theorem lw_p57 : lw_okq (⟨"TurnFieldModel", "laysCommon", "()V"⟩, 44) := ⟨⟨by decide +kernel, by decide +kernel⟩, List.mem_of_getElem? (i := 1173) (by decide +kernel), List.mem_of_getElem? (i := 1480) (by decide +kernel), List.mem_of_getElem? (i := 1481) (by decide +kernel)⟩
theorem lw_p58 : lw_okq (⟨"TurnFieldModel", "leaves", "([J[J)V"⟩, 44) := ⟨⟨by decide +kernel, by decide +kernel⟩, List.mem_of_getElem? (i := 1173) (by decide +kernel), List.mem_of_getElem? (i := 1487) (by decide +kernel), List.mem_of_getElem? (i := 1488) (by decide +kernel)⟩
theorem lw_p59 : lw_okq (⟨"TurnFieldModel", "laysMended", "()Z"⟩, 44) := ⟨⟨by decide +kernel, by decide +kernel⟩, List.mem_of_getElem? (i := 1173) (by decide +kernel), List.mem_of_getElem? (i := 1495) (by decide +kernel), List.mem_of_getElem? (i := 1496) (by decide +kernel)⟩
theorem lw_p60 : lw_okq (⟨"TurnFieldModel", "findsMended", "()Z"⟩, 44) := ⟨⟨by decide +kernel, by decide +kernel⟩, List.mem_of_getElem? (i := 1173) (by decide +kernel), List.mem_of_getElem? (i := 1499) (by decide +kernel), List.mem_of_getElem? (i := 1500) (by decide +kernel)⟩
theorem lw_p61 : lw_okq (⟨"TurnFieldModel", "agreesBy", "(I)I"⟩, 44) := ⟨⟨by decide +kernel, by decide +kernel⟩, List.mem_of_getElem? (i := 1173) (by decide +kernel), List.mem_of_getElem? (i := 1506) (by decide +kernel), List.mem_of_getElem? (i := 1507) (by decide +kernel)⟩
theorem lw_p62 : lw_okq (⟨"TurnFieldModel", "bySet", "(IJ)J"⟩, 44) := ⟨⟨by decide +kernel, by decide +kernel⟩, List.mem_of_getElem? (i := 1173) (by decide +kernel), List.mem_of_getElem? (i := 1510) (by decide +kernel), List.mem_of_getElem? (i := 1511) (by decide +kernel)⟩
theorem lw_p63 : lw_okq (⟨"TurnFieldModel", "addsBase", "(I)V"⟩, 44) := ⟨⟨by decide +kernel, by decide +kernel⟩, List.mem_of_getElem? (i := 1173) (by decide +kernel), List.mem_of_getElem? (i := 1514) (by decide +kernel), List.mem_of_getElem? (i := 1515) (by decide +kernel)⟩
def lw_privs_4 : List (MethodName × Nat) := [(⟨"TurnFieldModel", "degreeOf", "(J)I"⟩, 44), (⟨"TurnFieldModel", "halfOf", "(J)J"⟩, 44), (⟨"TurnFieldModel", "laysHalves", "()V"⟩, 44), (⟨"TurnFieldModel", "laysBy", "(J)V"⟩, 44), (⟨"TurnFieldModel", "by", "(J)J"⟩, 44), (⟨"TurnFieldModel", "placeOf", "(I)J"⟩, 44), (⟨"TurnFieldModel", "polynomialAt", "(J)J"⟩, 44), (⟨"TurnFieldModel", "throughAt", "(J)J"⟩, 44), (⟨"TurnFieldModel", "isRoot", "(J)Z"⟩, 44), (⟨"TurnFieldModel", "laysCommon", "()V"⟩, 44), (⟨"TurnFieldModel", "leaves", "([J[J)V"⟩, 44), (⟨"TurnFieldModel", "laysMended", "()Z"⟩, 44), (⟨"TurnFieldModel", "findsMended", "()Z"⟩, 44), (⟨"TurnFieldModel", "agreesBy", "(I)I"⟩, 44), (⟨"TurnFieldModel", "bySet", "(IJ)J"⟩, 44), (⟨"TurnFieldModel", "addsBase", "(I)V"⟩, 44)]
theorem lw_r4 : ∀ q ∈ lw_privs_4, lw_okq q := List.forall_mem_cons.mpr ⟨lw_p48, List.forall_mem_cons.mpr ⟨lw_p49, List.forall_mem_cons.mpr ⟨lw_p50, List.forall_mem_cons.mpr ⟨lw_p51, List.forall_mem_cons.mpr ⟨lw_p52, List.forall_mem_cons.mpr ⟨lw_p53, List.forall_mem_cons.mpr ⟨lw_p54, List.forall_mem_cons.mpr ⟨lw_p55, List.forall_mem_cons.mpr ⟨lw_p56, List.forall_mem_cons.mpr ⟨lw_p57, List.forall_mem_cons.mpr ⟨lw_p58, List.forall_mem_cons.mpr ⟨lw_p59, List.forall_mem_cons.mpr ⟨lw_p60, List.forall_mem_cons.mpr ⟨lw_p61, List.forall_mem_cons.mpr ⟨lw_p62, List.forall_mem_cons.mpr ⟨lw_p63, fun _ h => absurd h List.not_mem_nil⟩⟩⟩⟩⟩⟩⟩⟩⟩⟩⟩⟩⟩⟩⟩⟩
theorem lw_p64 : lw_okq (⟨"TurnFieldModel", "isFull", "(JI)Z"⟩, 44) := ⟨⟨by decide +kernel, by decide +kernel⟩, List.mem_of_getElem? (i := 1173) (by decide +kernel), List.mem_of_getElem? (i := 1534) (by decide +kernel), List.mem_of_getElem? (i := 1535) (by decide +kernel)⟩
theorem lw_p65 : lw_okq (⟨"TurnFieldModel", "isEntry", "(II)Z"⟩, 44) := ⟨⟨by decide +kernel, by decide +kernel⟩, List.mem_of_getElem? (i := 1173) (by decide +kernel), List.mem_of_getElem? (i := 1542) (by decide +kernel), List.mem_of_getElem? (i := 1543) (by decide +kernel)⟩
theorem lw_p66 : lw_okq (⟨"TurnFieldModel", "entryOf", "(II)J"⟩, 44) := ⟨⟨by decide +kernel, by decide +kernel⟩, List.mem_of_getElem? (i := 1173) (by decide +kernel), List.mem_of_getElem? (i := 1546) (by decide +kernel), List.mem_of_getElem? (i := 1547) (by decide +kernel)⟩
theorem lw_p67 : lw_okq (⟨"TurnFieldModel", "laysStepForm", "()V"⟩, 44) := ⟨⟨by decide +kernel, by decide +kernel⟩, List.mem_of_getElem? (i := 1173) (by decide +kernel), List.mem_of_getElem? (i := 1550) (by decide +kernel), List.mem_of_getElem? (i := 1551) (by decide +kernel)⟩
theorem lw_p68 : lw_okq (⟨"TurnFieldModel", "laysForm", "()V"⟩, 44) := ⟨⟨by decide +kernel, by decide +kernel⟩, List.mem_of_getElem? (i := 1173) (by decide +kernel), List.mem_of_getElem? (i := 1554) (by decide +kernel), List.mem_of_getElem? (i := 1555) (by decide +kernel)⟩
theorem lw_p69 : lw_okq (⟨"TurnFieldModel", "clears", "(I)V"⟩, 44) := ⟨⟨by decide +kernel, by decide +kernel⟩, List.mem_of_getElem? (i := 1173) (by decide +kernel), List.mem_of_getElem? (i := 1561) (by decide +kernel), List.mem_of_getElem? (i := 1562) (by decide +kernel)⟩
theorem lw_p70 : lw_okq (⟨"TurnFieldModel", "swaps", "(II)V"⟩, 44) := ⟨⟨by decide +kernel, by decide +kernel⟩, List.mem_of_getElem? (i := 1173) (by decide +kernel), List.mem_of_getElem? (i := 1565) (by decide +kernel), List.mem_of_getElem? (i := 1566) (by decide +kernel)⟩
theorem lw_p71 : lw_okq (⟨"TurnFieldModel", "divides", "(IJ)V"⟩, 44) := ⟨⟨by decide +kernel, by decide +kernel⟩, List.mem_of_getElem? (i := 1173) (by decide +kernel), List.mem_of_getElem? (i := 1569) (by decide +kernel), List.mem_of_getElem? (i := 1570) (by decide +kernel)⟩
theorem lw_p72 : lw_okq (⟨"TurnFieldModel", "adds", "(IIJ)V"⟩, 44) := ⟨⟨by decide +kernel, by decide +kernel⟩, List.mem_of_getElem? (i := 1173) (by decide +kernel), List.mem_of_getElem? (i := 1573) (by decide +kernel), List.mem_of_getElem? (i := 1574) (by decide +kernel)⟩
theorem lw_p73 : lw_okq (⟨"TurnFieldModel", "isSolved", "()Z"⟩, 44) := ⟨⟨by decide +kernel, by decide +kernel⟩, List.mem_of_getElem? (i := 1173) (by decide +kernel), List.mem_of_getElem? (i := 1585) (by decide +kernel), List.mem_of_getElem? (i := 1586) (by decide +kernel)⟩
theorem lw_p74 : lw_okq (⟨"TurnFieldModel", "heads", "()I"⟩, 44) := ⟨⟨by decide +kernel, by decide +kernel⟩, List.mem_of_getElem? (i := 1173) (by decide +kernel), List.mem_of_getElem? (i := 1604) (by decide +kernel), List.mem_of_getElem? (i := 1605) (by decide +kernel)⟩
theorem lw_p75 : lw_okq (⟨"TurnFieldModel", "keepsAct", "()V"⟩, 44) := ⟨⟨by decide +kernel, by decide +kernel⟩, List.mem_of_getElem? (i := 1173) (by decide +kernel), List.mem_of_getElem? (i := 1612) (by decide +kernel), List.mem_of_getElem? (i := 1613) (by decide +kernel)⟩
theorem lw_p76 : lw_okq (⟨"TurnFieldModel", "reckoned", "(JJI)J"⟩, 44) := ⟨⟨by decide +kernel, by decide +kernel⟩, List.mem_of_getElem? (i := 1173) (by decide +kernel), List.mem_of_getElem? (i := 1624) (by decide +kernel), List.mem_of_getElem? (i := 1625) (by decide +kernel)⟩
theorem lw_p77 : lw_okq (⟨"TurnFieldModel", "keptEntry", "(III)J"⟩, 44) := ⟨⟨by decide +kernel, by decide +kernel⟩, List.mem_of_getElem? (i := 1173) (by decide +kernel), List.mem_of_getElem? (i := 1640) (by decide +kernel), List.mem_of_getElem? (i := 1641) (by decide +kernel)⟩
theorem lw_p78 : lw_okq (⟨"TurnFieldModel", "readsText", "()Z"⟩, 44) := ⟨⟨by decide +kernel, by decide +kernel⟩, List.mem_of_getElem? (i := 1173) (by decide +kernel), List.mem_of_getElem? (i := 1660) (by decide +kernel), List.mem_of_getElem? (i := 1661) (by decide +kernel)⟩
theorem lw_p79 : lw_okq (⟨"TurnFieldModel", "readsSide", "(I)Z"⟩, 44) := ⟨⟨by decide +kernel, by decide +kernel⟩, List.mem_of_getElem? (i := 1173) (by decide +kernel), List.mem_of_getElem? (i := 1664) (by decide +kernel), List.mem_of_getElem? (i := 1665) (by decide +kernel)⟩
def lw_privs_5 : List (MethodName × Nat) := [(⟨"TurnFieldModel", "isFull", "(JI)Z"⟩, 44), (⟨"TurnFieldModel", "isEntry", "(II)Z"⟩, 44), (⟨"TurnFieldModel", "entryOf", "(II)J"⟩, 44), (⟨"TurnFieldModel", "laysStepForm", "()V"⟩, 44), (⟨"TurnFieldModel", "laysForm", "()V"⟩, 44), (⟨"TurnFieldModel", "clears", "(I)V"⟩, 44), (⟨"TurnFieldModel", "swaps", "(II)V"⟩, 44), (⟨"TurnFieldModel", "divides", "(IJ)V"⟩, 44), (⟨"TurnFieldModel", "adds", "(IIJ)V"⟩, 44), (⟨"TurnFieldModel", "isSolved", "()Z"⟩, 44), (⟨"TurnFieldModel", "heads", "()I"⟩, 44), (⟨"TurnFieldModel", "keepsAct", "()V"⟩, 44), (⟨"TurnFieldModel", "reckoned", "(JJI)J"⟩, 44), (⟨"TurnFieldModel", "keptEntry", "(III)J"⟩, 44), (⟨"TurnFieldModel", "readsText", "()Z"⟩, 44), (⟨"TurnFieldModel", "readsSide", "(I)Z"⟩, 44)]
theorem lw_r5 : ∀ q ∈ lw_privs_5, lw_okq q := List.forall_mem_cons.mpr ⟨lw_p64, List.forall_mem_cons.mpr ⟨lw_p65, List.forall_mem_cons.mpr ⟨lw_p66, List.forall_mem_cons.mpr ⟨lw_p67, List.forall_mem_cons.mpr ⟨lw_p68, List.forall_mem_cons.mpr ⟨lw_p69, List.forall_mem_cons.mpr ⟨lw_p70, List.forall_mem_cons.mpr ⟨lw_p71, List.forall_mem_cons.mpr ⟨lw_p72, List.forall_mem_cons.mpr ⟨lw_p73, List.forall_mem_cons.mpr ⟨lw_p74, List.forall_mem_cons.mpr ⟨lw_p75, List.forall_mem_cons.mpr ⟨lw_p76, List.forall_mem_cons.mpr ⟨lw_p77, List.forall_mem_cons.mpr ⟨lw_p78, List.forall_mem_cons.mpr ⟨lw_p79, fun _ h => absurd h List.not_mem_nil⟩⟩⟩⟩⟩⟩⟩⟩⟩⟩⟩⟩⟩⟩⟩⟩
theorem lw_p80 : lw_okq (⟨"TurnFieldModel", "readsNumber", "(II)Z"⟩, 44) := ⟨⟨by decide +kernel, by decide +kernel⟩, List.mem_of_getElem? (i := 1173) (by decide +kernel), List.mem_of_getElem? (i := 1668) (by decide +kernel), List.mem_of_getElem? (i := 1669) (by decide +kernel)⟩
theorem lw_p81 : lw_okq (⟨"TurnFieldModel", "next", "()I"⟩, 44) := ⟨⟨by decide +kernel, by decide +kernel⟩, List.mem_of_getElem? (i := 1173) (by decide +kernel), List.mem_of_getElem? (i := 1672) (by decide +kernel), List.mem_of_getElem? (i := 1673) (by decide +kernel)⟩
theorem lw_p82 : lw_okq (⟨"TurnFieldModel", "byteAt", "(I)I"⟩, 44) := ⟨⟨by decide +kernel, by decide +kernel⟩, List.mem_of_getElem? (i := 1173) (by decide +kernel), List.mem_of_getElem? (i := 1676) (by decide +kernel), List.mem_of_getElem? (i := 1677) (by decide +kernel)⟩
theorem lw_p83 : lw_okq (⟨"TurnFieldModel", "fails", "(II)Z"⟩, 44) := ⟨⟨by decide +kernel, by decide +kernel⟩, List.mem_of_getElem? (i := 1173) (by decide +kernel), List.mem_of_getElem? (i := 1682) (by decide +kernel), List.mem_of_getElem? (i := 1683) (by decide +kernel)⟩
theorem lw_p84 : lw_okq (⟨"TurnFieldModel", "kindHere", "()I"⟩, 44) := ⟨⟨by decide +kernel, by decide +kernel⟩, List.mem_of_getElem? (i := 1173) (by decide +kernel), List.mem_of_getElem? (i := 1686) (by decide +kernel), List.mem_of_getElem? (i := 1687) (by decide +kernel)⟩
theorem lw_p85 : lw_okq (⟨"TurnFieldModel", "takesWord", "(Ljava/lang/String;)Z"⟩, 44) := ⟨⟨by decide +kernel, by decide +kernel⟩, List.mem_of_getElem? (i := 1173) (by decide +kernel), List.mem_of_getElem? (i := 1691) (by decide +kernel), List.mem_of_getElem? (i := 1692) (by decide +kernel)⟩
theorem lw_p86 : lw_okq (⟨"TurnFieldModel", "maySet", "(II)Z"⟩, 44) := ⟨⟨by decide +kernel, by decide +kernel⟩, List.mem_of_getElem? (i := 1173) (by decide +kernel), List.mem_of_getElem? (i := 1708) (by decide +kernel), List.mem_of_getElem? (i := 1709) (by decide +kernel)⟩
theorem lw_p87 : lw_okq (⟨"TurnFieldModel", "laysWorth", "(II)V"⟩, 44) := ⟨⟨by decide +kernel, by decide +kernel⟩, List.mem_of_getElem? (i := 1173) (by decide +kernel), List.mem_of_getElem? (i := 1725) (by decide +kernel), List.mem_of_getElem? (i := 1726) (by decide +kernel)⟩
theorem lw_p88 : lw_okq (⟨"TurnFieldModel", "sumOf", "(II)I"⟩, 44) := ⟨⟨by decide +kernel, by decide +kernel⟩, List.mem_of_getElem? (i := 1173) (by decide +kernel), List.mem_of_getElem? (i := 1729) (by decide +kernel), List.mem_of_getElem? (i := 1730) (by decide +kernel)⟩
theorem lw_p89 : lw_okq (⟨"TurnFieldModel", "leastNot", "(I)I"⟩, 44) := ⟨⟨by decide +kernel, by decide +kernel⟩, List.mem_of_getElem? (i := 1173) (by decide +kernel), List.mem_of_getElem? (i := 1733) (by decide +kernel), List.mem_of_getElem? (i := 1734) (by decide +kernel)⟩
theorem lw_p90 : lw_okq (⟨"TurnFieldModel", "isCell", "(II)Z"⟩, 44) := ⟨⟨by decide +kernel, by decide +kernel⟩, List.mem_of_getElem? (i := 1173) (by decide +kernel), List.mem_of_getElem? (i := 1741) (by decide +kernel), List.mem_of_getElem? (i := 1742) (by decide +kernel)⟩
theorem lw_p91 : lw_okq (⟨"TurnFieldModel", "manyOf", "(I)I"⟩, 44) := ⟨⟨by decide +kernel, by decide +kernel⟩, List.mem_of_getElem? (i := 1173) (by decide +kernel), List.mem_of_getElem? (i := 1745) (by decide +kernel), List.mem_of_getElem? (i := 1746) (by decide +kernel)⟩
theorem lw_p92 : lw_okq (⟨"TurnFieldModel", "laysWorths", "(I)V"⟩, 44) := ⟨⟨by decide +kernel, by decide +kernel⟩, List.mem_of_getElem? (i := 1173) (by decide +kernel), List.mem_of_getElem? (i := 1749) (by decide +kernel), List.mem_of_getElem? (i := 1750) (by decide +kernel)⟩
theorem lw_p93 : lw_okq (⟨"TurnFieldModel", "worthOf", "(II)I"⟩, 44) := ⟨⟨by decide +kernel, by decide +kernel⟩, List.mem_of_getElem? (i := 1173) (by decide +kernel), List.mem_of_getElem? (i := 1753) (by decide +kernel), List.mem_of_getElem? (i := 1754) (by decide +kernel)⟩
theorem lw_p94 : lw_okq (⟨"TurnFieldModel", "excludedOf", "(II)I"⟩, 44) := ⟨⟨by decide +kernel, by decide +kernel⟩, List.mem_of_getElem? (i := 1173) (by decide +kernel), List.mem_of_getElem? (i := 1757) (by decide +kernel), List.mem_of_getElem? (i := 1758) (by decide +kernel)⟩
theorem lw_p95 : lw_okq (⟨"TurnFieldModel", "laysExcluded", "(II)V"⟩, 44) := ⟨⟨by decide +kernel, by decide +kernel⟩, List.mem_of_getElem? (i := 1173) (by decide +kernel), List.mem_of_getElem? (i := 1761) (by decide +kernel), List.mem_of_getElem? (i := 1762) (by decide +kernel)⟩
def lw_privs_6 : List (MethodName × Nat) := [(⟨"TurnFieldModel", "readsNumber", "(II)Z"⟩, 44), (⟨"TurnFieldModel", "next", "()I"⟩, 44), (⟨"TurnFieldModel", "byteAt", "(I)I"⟩, 44), (⟨"TurnFieldModel", "fails", "(II)Z"⟩, 44), (⟨"TurnFieldModel", "kindHere", "()I"⟩, 44), (⟨"TurnFieldModel", "takesWord", "(Ljava/lang/String;)Z"⟩, 44), (⟨"TurnFieldModel", "maySet", "(II)Z"⟩, 44), (⟨"TurnFieldModel", "laysWorth", "(II)V"⟩, 44), (⟨"TurnFieldModel", "sumOf", "(II)I"⟩, 44), (⟨"TurnFieldModel", "leastNot", "(I)I"⟩, 44), (⟨"TurnFieldModel", "isCell", "(II)Z"⟩, 44), (⟨"TurnFieldModel", "manyOf", "(I)I"⟩, 44), (⟨"TurnFieldModel", "laysWorths", "(I)V"⟩, 44), (⟨"TurnFieldModel", "worthOf", "(II)I"⟩, 44), (⟨"TurnFieldModel", "excludedOf", "(II)I"⟩, 44), (⟨"TurnFieldModel", "laysExcluded", "(II)V"⟩, 44)]
theorem lw_r6 : ∀ q ∈ lw_privs_6, lw_okq q := List.forall_mem_cons.mpr ⟨lw_p80, List.forall_mem_cons.mpr ⟨lw_p81, List.forall_mem_cons.mpr ⟨lw_p82, List.forall_mem_cons.mpr ⟨lw_p83, List.forall_mem_cons.mpr ⟨lw_p84, List.forall_mem_cons.mpr ⟨lw_p85, List.forall_mem_cons.mpr ⟨lw_p86, List.forall_mem_cons.mpr ⟨lw_p87, List.forall_mem_cons.mpr ⟨lw_p88, List.forall_mem_cons.mpr ⟨lw_p89, List.forall_mem_cons.mpr ⟨lw_p90, List.forall_mem_cons.mpr ⟨lw_p91, List.forall_mem_cons.mpr ⟨lw_p92, List.forall_mem_cons.mpr ⟨lw_p93, List.forall_mem_cons.mpr ⟨lw_p94, List.forall_mem_cons.mpr ⟨lw_p95, fun _ h => absurd h List.not_mem_nil⟩⟩⟩⟩⟩⟩⟩⟩⟩⟩⟩⟩⟩⟩⟩⟩
theorem lw_p96 : lw_okq (⟨"TurnFieldModel", "sumExcluded", "(J)I"⟩, 44) := ⟨⟨by decide +kernel, by decide +kernel⟩, List.mem_of_getElem? (i := 1173) (by decide +kernel), List.mem_of_getElem? (i := 1771) (by decide +kernel), List.mem_of_getElem? (i := 1772) (by decide +kernel)⟩
theorem lw_p97 : lw_okq (⟨"TurnFieldModel", "laysCells", "()V"⟩, 44) := ⟨⟨by decide +kernel, by decide +kernel⟩, List.mem_of_getElem? (i := 1173) (by decide +kernel), List.mem_of_getElem? (i := 1779) (by decide +kernel), List.mem_of_getElem? (i := 1780) (by decide +kernel)⟩
theorem lw_p98 : lw_okq (⟨"TurnFieldModel", "worthOfAll", "(J)I"⟩, 44) := ⟨⟨by decide +kernel, by decide +kernel⟩, List.mem_of_getElem? (i := 1173) (by decide +kernel), List.mem_of_getElem? (i := 1783) (by decide +kernel), List.mem_of_getElem? (i := 1784) (by decide +kernel)⟩
theorem lw_p99 : lw_okq (⟨"TurnFieldModel", "isMove", "(II)Z"⟩, 44) := ⟨⟨by decide +kernel, by decide +kernel⟩, List.mem_of_getElem? (i := 1173) (by decide +kernel), List.mem_of_getElem? (i := 1795) (by decide +kernel), List.mem_of_getElem? (i := 1796) (by decide +kernel)⟩
theorem lw_p100 : lw_okq (⟨"TurnFieldModel", "finds", "(ZI)Z"⟩, 44) := ⟨⟨by decide +kernel, by decide +kernel⟩, List.mem_of_getElem? (i := 1173) (by decide +kernel), List.mem_of_getElem? (i := 1803) (by decide +kernel), List.mem_of_getElem? (i := 1804) (by decide +kernel)⟩
theorem lw_p101 : lw_okq (⟨"TurnFieldModel", "findsOf", "(IIZI)Z"⟩, 44) := ⟨⟨by decide +kernel, by decide +kernel⟩, List.mem_of_getElem? (i := 1173) (by decide +kernel), List.mem_of_getElem? (i := 1807) (by decide +kernel), List.mem_of_getElem? (i := 1808) (by decide +kernel)⟩
theorem lw_p102 : lw_okq (⟨"TurnFieldModel", "laysMoves", "()V"⟩, 44) := ⟨⟨by decide +kernel, by decide +kernel⟩, List.mem_of_getElem? (i := 1173) (by decide +kernel), List.mem_of_getElem? (i := 1823) (by decide +kernel), List.mem_of_getElem? (i := 1824) (by decide +kernel)⟩
theorem lw_p103 : lw_okq (⟨"TurnFieldModel", "close", "(J)I"⟩, 44) := ⟨⟨by decide +kernel, by decide +kernel⟩, List.mem_of_getElem? (i := 1173) (by decide +kernel), List.mem_of_getElem? (i := 1827) (by decide +kernel), List.mem_of_getElem? (i := 1828) (by decide +kernel)⟩
theorem lw_p104 : lw_okq (⟨"TurnFieldModel", "laysGame", "(I)V"⟩, 44) := ⟨⟨by decide +kernel, by decide +kernel⟩, List.mem_of_getElem? (i := 1173) (by decide +kernel), List.mem_of_getElem? (i := 1831) (by decide +kernel), List.mem_of_getElem? (i := 1832) (by decide +kernel)⟩
theorem lw_p105 : lw_okq (⟨"TurnFieldModel", "spread", "(I)J"⟩, 44) := ⟨⟨by decide +kernel, by decide +kernel⟩, List.mem_of_getElem? (i := 1173) (by decide +kernel), List.mem_of_getElem? (i := 1839) (by decide +kernel), List.mem_of_getElem? (i := 1840) (by decide +kernel)⟩
theorem lw_p106 : lw_okq (⟨"TurnFieldModel", "keptSet", "()I"⟩, 44) := ⟨⟨by decide +kernel, by decide +kernel⟩, List.mem_of_getElem? (i := 1173) (by decide +kernel), List.mem_of_getElem? (i := 1847) (by decide +kernel), List.mem_of_getElem? (i := 1848) (by decide +kernel)⟩
theorem lw_p107 : lw_okq (⟨"TurnFieldModel", "sidesWithHeads", "(Z)I"⟩, 44) := ⟨⟨by decide +kernel, by decide +kernel⟩, List.mem_of_getElem? (i := 1173) (by decide +kernel), List.mem_of_getElem? (i := 1851) (by decide +kernel), List.mem_of_getElem? (i := 1852) (by decide +kernel)⟩
def lw_privs_7 : List (MethodName × Nat) := [(⟨"TurnFieldModel", "sumExcluded", "(J)I"⟩, 44), (⟨"TurnFieldModel", "laysCells", "()V"⟩, 44), (⟨"TurnFieldModel", "worthOfAll", "(J)I"⟩, 44), (⟨"TurnFieldModel", "isMove", "(II)Z"⟩, 44), (⟨"TurnFieldModel", "finds", "(ZI)Z"⟩, 44), (⟨"TurnFieldModel", "findsOf", "(IIZI)Z"⟩, 44), (⟨"TurnFieldModel", "laysMoves", "()V"⟩, 44), (⟨"TurnFieldModel", "close", "(J)I"⟩, 44), (⟨"TurnFieldModel", "laysGame", "(I)V"⟩, 44), (⟨"TurnFieldModel", "spread", "(I)J"⟩, 44), (⟨"TurnFieldModel", "keptSet", "()I"⟩, 44), (⟨"TurnFieldModel", "sidesWithHeads", "(Z)I"⟩, 44)]
theorem lw_r7 : ∀ q ∈ lw_privs_7, lw_okq q := List.forall_mem_cons.mpr ⟨lw_p96, List.forall_mem_cons.mpr ⟨lw_p97, List.forall_mem_cons.mpr ⟨lw_p98, List.forall_mem_cons.mpr ⟨lw_p99, List.forall_mem_cons.mpr ⟨lw_p100, List.forall_mem_cons.mpr ⟨lw_p101, List.forall_mem_cons.mpr ⟨lw_p102, List.forall_mem_cons.mpr ⟨lw_p103, List.forall_mem_cons.mpr ⟨lw_p104, List.forall_mem_cons.mpr ⟨lw_p105, List.forall_mem_cons.mpr ⟨lw_p106, List.forall_mem_cons.mpr ⟨lw_p107, fun _ h => absurd h List.not_mem_nil⟩⟩⟩⟩⟩⟩⟩⟩⟩⟩⟩⟩
def lw_privs : List (MethodName × Nat) := lw_privs_1 ++ (lw_privs_2 ++ (lw_privs_3 ++ (lw_privs_4 ++ (lw_privs_5 ++ (lw_privs_6 ++ (lw_privs_7))))))
def lw_tbl : List Cond := k2_sels lw_privs ++ tables_1
theorem lw_privs_ok : ∀ q ∈ lw_privs, lw_okq q := by
  show ∀ q ∈ lw_privs_1 ++ (lw_privs_2 ++ (lw_privs_3 ++ (lw_privs_4 ++ (lw_privs_5 ++ (lw_privs_6 ++ (lw_privs_7)))))), lw_okq q
  exact List.forall_mem_append.mpr ⟨lw_r1, List.forall_mem_append.mpr ⟨lw_r2, List.forall_mem_append.mpr ⟨lw_r3, List.forall_mem_append.mpr ⟨lw_r4, List.forall_mem_append.mpr ⟨lw_r5, List.forall_mem_append.mpr ⟨lw_r6, lw_r7⟩⟩⟩⟩⟩⟩
-- ===== end of PART A; then your names; then what follows =====
end
section
/-! classes, methods, instructions of this claim, as data; printed by wip/whole/gen2.py -/
def pt_T0 : u_T := fun k => match k with
  | 0 => ("TurnField$Curve", "points", "[J", true)
  | 1 => ("TurnField$Curve", "steps", "[J", true)
  | 2 => ("TurnField$Curve", "cubic", "[J", true)
  | 3 => ("TurnField$Curve", "knownPlaces", "[J", true)
  | 4 => ("TurnField$Curve", "known", "Z", false)
  | _ => ("TurnField$Curve", "agreeing", "I", false)
def pt_t0 : Nat → FieldType := fun k => match k with
  | 0 => .array (.long)
  | 1 => .array (.long)
  | 2 => .array (.long)
  | 3 => .array (.long)
  | 4 => .boolean
  | _ => .int
def pt_T1 : u_T := fun k => match k with
  | 0 => ("TurnField$Lengths", "lengths", "[I", true)
  | 1 => ("TurnField$Lengths", "turned", "[I", true)
  | 2 => ("TurnField$Lengths", "starts", "[I", true)
  | 3 => ("TurnField$Lengths", "tunedTo", "I", false)
  | 4 => ("TurnField$Lengths", "rows", "I", false)
  | 5 => ("TurnField$Lengths", "columns", "I", false)
  | 6 => ("TurnField$Lengths", "listed", "I", false)
  | 7 => ("TurnField$Lengths", "lost", "I", false)
  | 8 => ("TurnField$Lengths", "greatest", "I", false)
  | _ => ("TurnField$Lengths", "firstGreatest", "I", false)
def pt_t1 : Nat → FieldType := fun k => match k with
  | 0 => .array (.int)
  | 1 => .array (.int)
  | 2 => .array (.int)
  | 3 => .int
  | 4 => .int
  | 5 => .int
  | 6 => .int
  | 7 => .int
  | 8 => .int
  | _ => .int
def pt_T2 : u_T := fun k => match k with
  | 0 => ("TurnField$Past", "ring", "[LTurnField$Position;", true)
  | 1 => ("TurnField$Past", "next", "I", false)
  | _ => ("TurnField$Past", "depth", "I", false)
def pt_t2 : Nat → FieldType := fun k => match k with
  | 0 => .array (.object "TurnField$Position")
  | 1 => .int
  | _ => .int
def pt_T3 : u_T := fun k => match k with
  | 0 => ("TurnField$Play", "rowRule", "LTurnField$Rule;", true)
  | 1 => ("TurnField$Play", "columnRule", "LTurnField$Rule;", true)
  | 2 => ("TurnField$Play", "effects", "[I", true)
  | 3 => ("TurnField$Play", "tunedTo", "I", false)
  | 4 => ("TurnField$Play", "foundRows", "I", false)
  | 5 => ("TurnField$Play", "foundColumns", "I", false)
  | _ => ("TurnField$Play", "passed", "I", false)
def pt_t3 : Nat → FieldType := fun k => match k with
  | 0 => .object "TurnField$Rule"
  | 1 => .object "TurnField$Rule"
  | 2 => .array (.int)
  | 3 => .int
  | 4 => .int
  | 5 => .int
  | _ => .int
def pt_T4 : u_T := fun k => match k with
  | 0 => ("TurnField$Polynomials", "firstHalf", "[J", true)
  | 1 => ("TurnField$Polynomials", "secondHalf", "[J", true)
  | 2 => ("TurnField$Polynomials", "spareHalf", "[J", true)
  | 3 => ("TurnField$Polynomials", "f", "[J", true)
  | 4 => ("TurnField$Polynomials", "image", "[J", true)
  | 5 => ("TurnField$Polynomials", "sum", "[J", true)
  | 6 => ("TurnField$Polynomials", "spare", "[J", true)
  | 7 => ("TurnField$Polynomials", "quotient", "[J", true)
  | 8 => ("TurnField$Polynomials", "images", "[[J", true)
  | 9 => ("TurnField$Polynomials", "parts", "[[J", true)
  | 10 => ("TurnField$Polynomials", "results", "[I", true)
  | 11 => ("TurnField$Polynomials", "knownPlaces", "[J", true)
  | 12 => ("TurnField$Polynomials", "knownLevel", "I", false)
  | 13 => ("TurnField$Polynomials", "partCount", "I", false)
  | _ => ("TurnField$Polynomials", "found", "I", false)
def pt_t4 : Nat → FieldType := fun k => match k with
  | 0 => .array (.long)
  | 1 => .array (.long)
  | 2 => .array (.long)
  | 3 => .array (.long)
  | 4 => .array (.long)
  | 5 => .array (.long)
  | 6 => .array (.long)
  | 7 => .array (.long)
  | 8 => .array (.array (.long))
  | 9 => .array (.array (.long))
  | 10 => .array (.int)
  | 11 => .array (.long)
  | 12 => .int
  | 13 => .int
  | _ => .int
def pt_T5 : u_T := fun k => match k with
  | 0 => ("TurnField$Position", "rows", "I", false)
  | 1 => ("TurnField$Position", "columns", "I", false)
  | 2 => ("TurnField$Position", "rowKind", "I", false)
  | 3 => ("TurnField$Position", "columnKind", "I", false)
  | 4 => ("TurnField$Position", "rowLimit", "I", false)
  | 5 => ("TurnField$Position", "columnLimit", "I", false)
  | 6 => ("TurnField$Position", "heads", "J", false)
  | 7 => ("TurnField$Position", "places", "[J", true)
  | 8 => ("TurnField$Position", "gridRows", "I", false)
  | 9 => ("TurnField$Position", "gridColumns", "I", false)
  | 10 => ("TurnField$Position", "entries", "[J", true)
  | _ => ("TurnField$Position", "kept", "Z", false)
def pt_t5 : Nat → FieldType := fun k => match k with
  | 0 => .int
  | 1 => .int
  | 2 => .int
  | 3 => .int
  | 4 => .int
  | 5 => .int
  | 6 => .long
  | 7 => .array (.long)
  | 8 => .int
  | 9 => .int
  | 10 => .array (.long)
  | _ => .boolean
def pt_T6 : u_T := fun k => match k with
  | 0 => ("TurnField$Rule", "worths", "[I", true)
  | 1 => ("TurnField$Rule", "setCounts", "[I", true)
  | 2 => ("TurnField$Rule", "sums", "[I", true)
  | 3 => ("TurnField$Rule", "met", "[J", true)
  | 4 => ("TurnField$Rule", "kind", "I", false)
  | _ => ("TurnField$Rule", "limit", "I", false)
def pt_t6 : Nat → FieldType := fun k => match k with
  | 0 => .array (.int)
  | 1 => .array (.int)
  | 2 => .array (.int)
  | 3 => .array (.long)
  | 4 => .int
  | _ => .int
def pt_T7 : u_T := fun k => match k with
  | 0 => ("TurnField$Span", "vectors", "[J", true)
  | _ => ("TurnField$Span", "tags", "[J", true)
def pt_t7 : Nat → FieldType := fun k => match k with
  | 0 => .array (.long)
  | _ => .array (.long)
def pt_T8 : u_T := fun k => match k with
  | 0 => ("TurnField$Steps", "cells", "[J", true)
  | 1 => ("TurnField$Steps", "leads", "[I", true)
  | 2 => ("TurnField$Steps", "rank", "I", false)
  | _ => ("TurnField$Steps", "pivots", "J", false)
def pt_t8 : Nat → FieldType := fun k => match k with
  | 0 => .array (.long)
  | 1 => .array (.int)
  | 2 => .int
  | _ => .long
def pt_T9 : u_T := fun k => match k with
  | 0 => ("TurnField$Tape", "bytes", "[B", true)
  | 1 => ("TurnField$Tape", "draft", "LTurnField$Position;", true)
  | 2 => ("TurnField$Tape", "length", "I", false)
  | 3 => ("TurnField$Tape", "spot", "I", false)
  | _ => ("TurnField$Tape", "fault", "I", false)
def pt_t9 : Nat → FieldType := fun k => match k with
  | 0 => .array (.byte)
  | 1 => .object "TurnField$Position"
  | 2 => .int
  | 3 => .int
  | _ => .int
def pt_T10 : u_T := fun k => match k with
  | 0 => ("TurnField", "now", "LTurnField$Position;", true)
  | 1 => ("TurnField", "past", "LTurnField$Past;", true)
  | 2 => ("TurnField", "shelves", "[LTurnField$Position;", true)
  | 3 => ("TurnField", "tape", "LTurnField$Tape;", true)
  | 4 => ("TurnField", "finder", "LTurnField$Play;", true)
  | 5 => ("TurnField", "lengths", "LTurnField$Lengths;", true)
  | 6 => ("TurnField", "span", "LTurnField$Span;", true)
  | 7 => ("TurnField", "steps", "LTurnField$Steps;", true)
  | 8 => ("TurnField", "polynomials", "LTurnField$Polynomials;", true)
  | _ => ("TurnField", "curve", "LTurnField$Curve;", true)
def pt_t10 : Nat → FieldType := fun k => match k with
  | 0 => .object "TurnField$Position"
  | 1 => .object "TurnField$Past"
  | 2 => .array (.object "TurnField$Position")
  | 3 => .object "TurnField$Tape"
  | 4 => .object "TurnField$Play"
  | 5 => .object "TurnField$Lengths"
  | 6 => .object "TurnField$Span"
  | 7 => .object "TurnField$Steps"
  | 8 => .object "TurnField$Polynomials"
  | _ => .object "TurnField$Curve"
def pt_T11 : u_T := fun k => match k with
  | 0 => ("TurnFieldModel", "now", "[J", true)
  | 1 => ("TurnFieldModel", "was", "[J", true)
  | 2 => ("TurnFieldModel", "undone", "I", false)
  | 3 => ("TurnFieldModel", "kept", "[J", true)
  | 4 => ("TurnFieldModel", "isKept", "[Z", true)
  | 5 => ("TurnFieldModel", "twos", "[J", true)
  | 6 => ("TurnFieldModel", "primes", "[J", true)
  | 7 => ("TurnFieldModel", "made", "[J", true)
  | 8 => ("TurnFieldModel", "comes", "[J", true)
  | 9 => ("TurnFieldModel", "from", "[J", true)
  | 10 => ("TurnFieldModel", "byBits", "[J", true)
  | 11 => ("TurnFieldModel", "one", "[J", true)
  | 12 => ("TurnFieldModel", "two", "[J", true)
  | 13 => ("TurnFieldModel", "agreed", "I", false)
  | 14 => ("TurnFieldModel", "fromSet", "I", false)
  | 15 => ("TurnFieldModel", "mending", "[J", true)
  | 16 => ("TurnFieldModel", "base", "[J", true)
  | 17 => ("TurnFieldModel", "rows", "I", false)
  | 18 => ("TurnFieldModel", "columns", "I", false)
  | 19 => ("TurnFieldModel", "form", "[J", true)
  | 20 => ("TurnFieldModel", "firstAt", "[I", true)
  | 21 => ("TurnFieldModel", "rank", "I", false)
  | 22 => ("TurnFieldModel", "divided", "J", false)
  | 23 => ("TurnFieldModel", "tape", "[B", true)
  | 24 => ("TurnFieldModel", "taped", "I", false)
  | 25 => ("TurnFieldModel", "at", "I", false)
  | 26 => ("TurnFieldModel", "wrong", "I", false)
  | 27 => ("TurnFieldModel", "number", "I", false)
  | 28 => ("TurnFieldModel", "toldMany", "[I", true)
  | 29 => ("TurnFieldModel", "toldKind", "[I", true)
  | 30 => ("TurnFieldModel", "toldMost", "[I", true)
  | 31 => ("TurnFieldModel", "toldHeads", "J", false)
  | 32 => ("TurnFieldModel", "worths", "[I", true)
  | 33 => ("TurnFieldModel", "isMet", "[Z", true)
  | 34 => ("TurnFieldModel", "excluded", "[I", true)
  | 35 => ("TurnFieldModel", "cells", "[I", true)
  | 36 => ("TurnFieldModel", "foundRows", "I", false)
  | 37 => ("TurnFieldModel", "foundColumns", "I", false)
  | 38 => ("TurnFieldModel", "foundWorth", "I", false)
  | 39 => ("TurnFieldModel", "passed", "I", false)
  | 40 => ("TurnFieldModel", "wins", "[Z", true)
  | 41 => ("TurnFieldModel", "lasts", "[I", true)
  | 42 => ("TurnFieldModel", "movesFrom", "[I", true)
  | _ => ("TurnFieldModel", "turns", "[I", true)
def pt_t11 : Nat → FieldType := fun k => match k with
  | 0 => .array (.long)
  | 1 => .array (.long)
  | 2 => .int
  | 3 => .array (.long)
  | 4 => .array (.boolean)
  | 5 => .array (.long)
  | 6 => .array (.long)
  | 7 => .array (.long)
  | 8 => .array (.long)
  | 9 => .array (.long)
  | 10 => .array (.long)
  | 11 => .array (.long)
  | 12 => .array (.long)
  | 13 => .int
  | 14 => .int
  | 15 => .array (.long)
  | 16 => .array (.long)
  | 17 => .int
  | 18 => .int
  | 19 => .array (.long)
  | 20 => .array (.int)
  | 21 => .int
  | 22 => .long
  | 23 => .array (.byte)
  | 24 => .int
  | 25 => .int
  | 26 => .int
  | 27 => .int
  | 28 => .array (.int)
  | 29 => .array (.int)
  | 30 => .array (.int)
  | 31 => .long
  | 32 => .array (.int)
  | 33 => .array (.boolean)
  | 34 => .array (.int)
  | 35 => .array (.int)
  | 36 => .int
  | 37 => .int
  | 38 => .int
  | 39 => .int
  | 40 => .array (.boolean)
  | 41 => .array (.int)
  | 42 => .array (.int)
  | _ => .array (.int)
abbrev pt_cl : List vw_C := [("TurnField$Curve", pt_T0, 6), ("TurnField$Lengths", pt_T1, 10), ("TurnField$Past", pt_T2, 3), ("TurnField$Play", pt_T3, 7), ("TurnField$Polynomials", pt_T4, 15), ("TurnField$Position", pt_T5, 12), ("TurnField$Rule", pt_T6, 6), ("TurnField$Span", pt_T7, 2), ("TurnField$Steps", pt_T8, 4), ("TurnField$Tape", pt_T9, 5), ("TurnField", pt_T10, 10), ("TurnFieldModel", pt_T11, 44)]
def pt_ldc : List Value := [.long (63), .long (-9223372036854775808), .int (1000000), .ref 1000014, .ref 1000010, .ref 1000011, .ref 1000012, .ref 1000013, .long (-1), .long (2), .long (-2), .int (1073741824), .long (3), .long (5), .long (17), .long (257), .long (641), .long (65537), .long (6700417), .int (65536), .long (6), .long (7), .long (4), .long (48), .long (57), .long (97), .long (122), .long (11), .int (1431655765), .int (858993459), .int (252645135), .long (6148914691236517205), .long (3689348814741910323), .long (1085102592571150095), .long (4294967295)]
abbrev pm_I : Type := Nat × Instr × Nat × Nat × Nat × Nat
abbrev pm_M : Type := MethodName × ByteArray × Nat × Option FieldType × Bool × List Nat × List pm_I
noncomputable def cd_Cu_init : List pm_I := [(0, .aload_n 0, 1, 0, 0, 0), (1, .invokespecial 1, 4, 1000, 1, 448), (4, .aload_n 0, 5, 0, 0, 0), (5, .bipush 8, 7, 0, 0, 0), (7, .newarray .long, 9, 1, 0, 0), (9, .putfield 7, 12, 0, 0, 449), (12, .aload_n 0, 13, 0, 0, 0), (13, .bipush 8, 15, 0, 0, 0), (15, .newarray .long, 17, 1, 0, 0), (17, .putfield 13, 20, 0, 1, 450), (20, .aload_n 0, 21, 0, 0, 0), (21, .iconst 4, 22, 0, 0, 0), (22, .newarray .long, 24, 1, 0, 0), (24, .putfield 16, 27, 0, 2, 451), (27, .aload_n 0, 28, 0, 0, 0), (28, .bipush 8, 30, 0, 0, 0), (30, .newarray .long, 32, 1, 0, 0), (32, .putfield 19, 35, 0, 3, 452), (35, .aload_n 0, 36, 0, 0, 0), (36, .iconst 0, 37, 0, 0, 0), (37, .putfield 22, 40, 0, 4, 453), (40, .aload_n 0, 41, 0, 0, 0), (41, .iconst 0, 42, 0, 0, 0), (42, .putfield 26, 45, 0, 5, 454), (45, .return_, 46, 0, 0, 0)]
noncomputable abbrev md_Cu_init : pm_M := (⟨"TurnField$Curve", "<init>", "()V"⟩, prog_2_method_1_code, 1, none, true, [2, 447, 119, 446, 0], cd_Cu_init)
noncomputable def cd_Cu_through : List pm_I := [(0, .iconst 0, 1, 0, 0, 0), (1, .istore 4, 3, 0, 0, 0), (3, .iload 4, 5, 0, 0, 0), (5, .aload_n 0, 6, 0, 0, 0), (6, .getfield 7, 9, 0, 0, 449), (9, .arraylength, 10, 0, 0, 0), (10, .if_icmp .ge 30, 13, 40, 0, 0), (13, .aload_n 0, 14, 0, 0, 0), (14, .getfield 7, 17, 0, 0, 449), (17, .iload 4, 19, 0, 0, 0), (19, .iload 4, 21, 0, 0, 0), (21, .i2l, 22, 0, 0, 0), (22, .lastore, 23, 0, 0, 0), (23, .aload_n 0, 24, 0, 0, 0), (24, .getfield 13, 27, 0, 1, 450), (27, .iload 4, 29, 0, 0, 0), (29, .aload_n 1, 30, 0, 0, 0), (30, .iload 4, 32, 0, 0, 0), (32, .laload, 33, 0, 0, 0), (33, .lastore, 34, 0, 0, 0), (34, .iinc 4 1, 37, 0, 0, 0), (37, .goto (-34), 40, 3, 0, 0), (40, .aload_n 0, 41, 0, 0, 0), (41, .bipush 8, 43, 0, 0, 0), (43, .invokevirtual 30, 46, 2, 2, 1008), (46, .lconst 0, 47, 0, 0, 0), (47, .lstore 4, 49, 0, 0, 0), (49, .bipush 7, 51, 0, 0, 0), (51, .istore 6, 53, 0, 0, 0), (53, .iload 6, 55, 0, 0, 0), (55, .ifCond .lt 33, 58, 88, 0, 0), (58, .lload 4, 60, 0, 0, 0), (60, .lload_n 2, 61, 0, 0, 0), (61, .aload_n 0, 62, 0, 0, 0), (62, .getfield 7, 65, 0, 0, 449), (65, .iload 6, 67, 0, 0, 0), (67, .laload, 68, 0, 0, 0), (68, .lxor, 69, 0, 0, 0), (69, .invokestatic 34, 72, 22, 2, 1013), (72, .aload_n 0, 73, 0, 0, 0), (73, .getfield 13, 76, 0, 1, 450), (76, .iload 6, 78, 0, 0, 0), (78, .laload, 79, 0, 0, 0), (79, .lxor, 80, 0, 0, 0), (80, .lstore 4, 82, 0, 0, 0), (82, .iinc 6 (-1), 85, 0, 0, 0), (85, .goto (-32), 88, 53, 0, 0), (88, .lload 4, 90, 0, 0, 0), (90, .lreturn, 91, 0, 0, 0)]
noncomputable abbrev md_Cu_through : pm_M := (⟨"TurnField$Curve", "through", "([JJ)J"⟩, prog_2_method_2_code, 7, (some .long), false, [0, 1057, 119, 1055, 1056], cd_Cu_through)
noncomputable def cd_Cu_differ : List pm_I := [(0, .iconst 1, 1, 0, 0, 0), (1, .istore_n 2, 2, 0, 0, 0), (2, .iload_n 2, 3, 0, 0, 0), (3, .iload_n 1, 4, 0, 0, 0), (4, .if_icmp .ge 70, 7, 74, 0, 0), (7, .iload_n 1, 8, 0, 0, 0), (8, .iconst 1, 9, 0, 0, 0), (9, .isub, 10, 0, 0, 0), (10, .istore_n 3, 11, 0, 0, 0), (11, .iload_n 3, 12, 0, 0, 0), (12, .iload_n 2, 13, 0, 0, 0), (13, .if_icmp .lt 55, 16, 68, 0, 0), (16, .aload_n 0, 17, 0, 0, 0), (17, .getfield 7, 20, 0, 0, 449), (20, .iload_n 3, 21, 0, 0, 0), (21, .laload, 22, 0, 0, 0), (22, .aload_n 0, 23, 0, 0, 0), (23, .getfield 7, 26, 0, 0, 449), (26, .iload_n 3, 27, 0, 0, 0), (27, .iload_n 2, 28, 0, 0, 0), (28, .isub, 29, 0, 0, 0), (29, .laload, 30, 0, 0, 0), (30, .lxor, 31, 0, 0, 0), (31, .invokestatic 40, 34, 28, 1, 1012), (34, .lstore 4, 36, 0, 0, 0), (36, .aload_n 0, 37, 0, 0, 0), (37, .getfield 13, 40, 0, 1, 450), (40, .iload_n 3, 41, 0, 0, 0), (41, .aload_n 0, 42, 0, 0, 0), (42, .getfield 13, 45, 0, 1, 450), (45, .iload_n 3, 46, 0, 0, 0), (46, .laload, 47, 0, 0, 0), (47, .aload_n 0, 48, 0, 0, 0), (48, .getfield 13, 51, 0, 1, 450), (51, .iload_n 3, 52, 0, 0, 0), (52, .iconst 1, 53, 0, 0, 0), (53, .isub, 54, 0, 0, 0), (54, .laload, 55, 0, 0, 0), (55, .lxor, 56, 0, 0, 0), (56, .lload 4, 58, 0, 0, 0), (58, .invokestatic 34, 61, 22, 2, 1013), (61, .lastore, 62, 0, 0, 0), (62, .iinc 3 (-1), 65, 0, 0, 0), (65, .goto (-54), 68, 11, 0, 0), (68, .iinc 2 1, 71, 0, 0, 0), (71, .goto (-69), 74, 2, 0, 0), (74, .return_, 75, 0, 0, 0)]
noncomputable abbrev md_Cu_differ : pm_M := (⟨"TurnField$Curve", "differ", "(I)V"⟩, prog_2_method_3_code, 6, none, false, [0, 1011, 119, 1010, 29], cd_Cu_differ)
noncomputable def cd_Cu_mend : List pm_I := [(0, .aload_n 0, 1, 0, 0, 0), (1, .getfield 22, 4, 0, 4, 453), (4, .ifCond .eq 15, 7, 19, 0, 0), (7, .aload_n 1, 8, 0, 0, 0), (8, .aload_n 0, 9, 0, 0, 0), (9, .getfield 19, 12, 0, 3, 452), (12, .invokestatic 44, 15, 65, 2, 998), (15, .ifCond .eq 4, 18, 19, 0, 0), (18, .return_, 19, 0, 0, 0), (19, .aload_n 0, 20, 0, 0, 0), (20, .iconst 1, 21, 0, 0, 0), (21, .putfield 22, 24, 0, 4, 453), (24, .aload_n 1, 25, 0, 0, 0), (25, .aload_n 0, 26, 0, 0, 0), (26, .getfield 19, 29, 0, 3, 452), (29, .invokestatic 50, 32, 64, 2, 999), (32, .iconst 0, 33, 0, 0, 0), (33, .istore_n 2, 34, 0, 0, 0), (34, .iload_n 2, 35, 0, 0, 0), (35, .iconst 4, 36, 0, 0, 0), (36, .if_icmp .ge 48, 39, 84, 0, 0), (39, .iload_n 2, 40, 0, 0, 0), (40, .iconst 1, 41, 0, 0, 0), (41, .iadd, 42, 0, 0, 0), (42, .istore_n 3, 43, 0, 0, 0), (43, .iload_n 3, 44, 0, 0, 0), (44, .iconst 4, 45, 0, 0, 0), (45, .if_icmp .ge 33, 48, 78, 0, 0), (48, .aload_n 0, 49, 0, 0, 0), (49, .aload_n 1, 50, 0, 0, 0), (50, .iload_n 2, 51, 0, 0, 0), (51, .iload_n 3, 52, 0, 0, 0), (52, .invokevirtual 54, 55, 4, 4, 1000), (55, .aload_n 0, 56, 0, 0, 0), (56, .aload_n 0, 57, 0, 0, 0), (57, .aload_n 1, 58, 0, 0, 0), (58, .invokevirtual 58, 61, 6, 2, 1015), (61, .putfield 26, 64, 0, 5, 454), (64, .aload_n 0, 65, 0, 0, 0), (65, .invokevirtual 62, 68, 7, 1, 1022), (68, .ifCond .eq 4, 71, 72, 0, 0), (71, .return_, 72, 0, 0, 0), (72, .iinc 3 1, 75, 0, 0, 0), (75, .goto (-32), 78, 43, 0, 0), (78, .iinc 2 1, 81, 0, 0, 0), (81, .goto (-47), 84, 34, 0, 0), (84, .aload_n 0, 85, 0, 0, 0), (85, .iconst 0, 86, 0, 0, 0), (86, .putfield 26, 89, 0, 5, 454), (89, .aload_n 0, 90, 0, 0, 0), (90, .getfield 16, 93, 0, 2, 451), (93, .invokestatic 66, 96, 63, 1, 1014), (96, .return_, 97, 0, 0, 0)]
noncomputable abbrev md_Cu_mend : pm_M := (⟨"TurnField$Curve", "mend", "([J)V"⟩, prog_2_method_4_code, 4, none, false, [0, 997, 119, 995, 996], cd_Cu_mend)
noncomputable def cd_Cu_fit : List pm_I := [(0, .iconst 0, 1, 0, 0, 0), (1, .istore 4, 3, 0, 0, 0), (3, .iload 4, 5, 0, 0, 0), (5, .iconst 2, 6, 0, 0, 0), (6, .if_icmp .ge 37, 9, 43, 0, 0), (9, .aload_n 0, 10, 0, 0, 0), (10, .iload 4, 12, 0, 0, 0), (12, .aload_n 1, 13, 0, 0, 0), (13, .iconst 2, 14, 0, 0, 0), (14, .iload_n 2, 15, 0, 0, 0), (15, .imul, 16, 0, 0, 0), (16, .iload 4, 18, 0, 0, 0), (18, .iadd, 19, 0, 0, 0), (19, .invokevirtual 70, 22, 5, 4, 1004), (22, .aload_n 0, 23, 0, 0, 0), (23, .iconst 2, 24, 0, 0, 0), (24, .iload 4, 26, 0, 0, 0), (26, .iadd, 27, 0, 0, 0), (27, .aload_n 1, 28, 0, 0, 0), (28, .iconst 2, 29, 0, 0, 0), (29, .iload_n 3, 30, 0, 0, 0), (30, .imul, 31, 0, 0, 0), (31, .iload 4, 33, 0, 0, 0), (33, .iadd, 34, 0, 0, 0), (34, .invokevirtual 70, 37, 5, 4, 1004), (37, .iinc 4 1, 40, 0, 0, 0), (40, .goto (-37), 43, 3, 0, 0), (43, .aload_n 0, 44, 0, 0, 0), (44, .iconst 4, 45, 0, 0, 0), (45, .invokevirtual 30, 48, 2, 2, 1008), (48, .aload_n 0, 49, 0, 0, 0), (49, .getfield 16, 52, 0, 2, 451), (52, .invokestatic 66, 55, 63, 1, 1014), (55, .iconst 3, 56, 0, 0, 0), (56, .istore 4, 58, 0, 0, 0), (58, .iload 4, 60, 0, 0, 0), (60, .ifCond .lt 87, 63, 147, 0, 0), (63, .iconst 3, 64, 0, 0, 0), (64, .istore 5, 66, 0, 0, 0), (66, .iload 5, 68, 0, 0, 0), (68, .ifCond .le 43, 71, 111, 0, 0), (71, .aload_n 0, 72, 0, 0, 0), (72, .getfield 16, 75, 0, 2, 451), (75, .iload 5, 77, 0, 0, 0), (77, .aload_n 0, 78, 0, 0, 0), (78, .getfield 16, 81, 0, 2, 451), (81, .iload 5, 83, 0, 0, 0), (83, .iconst 1, 84, 0, 0, 0), (84, .isub, 85, 0, 0, 0), (85, .laload, 86, 0, 0, 0), (86, .aload_n 0, 87, 0, 0, 0), (87, .getfield 16, 90, 0, 2, 451), (90, .iload 5, 92, 0, 0, 0), (92, .laload, 93, 0, 0, 0), (93, .aload_n 0, 94, 0, 0, 0), (94, .getfield 7, 97, 0, 0, 449), (97, .iload 4, 99, 0, 0, 0), (99, .laload, 100, 0, 0, 0), (100, .invokestatic 34, 103, 22, 2, 1013), (103, .lxor, 104, 0, 0, 0), (104, .lastore, 105, 0, 0, 0), (105, .iinc 5 (-1), 108, 0, 0, 0), (108, .goto (-42), 111, 66, 0, 0), (111, .aload_n 0, 112, 0, 0, 0), (112, .getfield 16, 115, 0, 2, 451), (115, .iconst 0, 116, 0, 0, 0), (116, .aload_n 0, 117, 0, 0, 0), (117, .getfield 16, 120, 0, 2, 451), (120, .iconst 0, 121, 0, 0, 0), (121, .laload, 122, 0, 0, 0), (122, .aload_n 0, 123, 0, 0, 0), (123, .getfield 7, 126, 0, 0, 449), (126, .iload 4, 128, 0, 0, 0), (128, .laload, 129, 0, 0, 0), (129, .invokestatic 34, 132, 22, 2, 1013), (132, .aload_n 0, 133, 0, 0, 0), (133, .getfield 13, 136, 0, 1, 450), (136, .iload 4, 138, 0, 0, 0), (138, .laload, 139, 0, 0, 0), (139, .lxor, 140, 0, 0, 0), (140, .lastore, 141, 0, 0, 0), (141, .iinc 4 (-1), 144, 0, 0, 0), (144, .goto (-86), 147, 58, 0, 0), (147, .return_, 148, 0, 0, 0)]
noncomputable abbrev md_Cu_fit : pm_M := (⟨"TurnField$Curve", "fit", "([JII)V"⟩, prog_2_method_5_code, 6, none, false, [0, 1003, 119, 1002, 27], cd_Cu_fit)
noncomputable def cd_Cu_setPoint : List pm_I := [(0, .aload_n 0, 1, 0, 0, 0), (1, .getfield 7, 4, 0, 0, 449), (4, .iload_n 1, 5, 0, 0, 0), (5, .iload_n 3, 6, 0, 0, 0), (6, .i2l, 7, 0, 0, 0), (7, .lastore, 8, 0, 0, 0), (8, .aload_n 0, 9, 0, 0, 0), (9, .getfield 13, 12, 0, 1, 450), (12, .iload_n 1, 13, 0, 0, 0), (13, .aload_n 2, 14, 0, 0, 0), (14, .iload_n 3, 15, 0, 0, 0), (15, .laload, 16, 0, 0, 0), (16, .lastore, 17, 0, 0, 0), (17, .return_, 18, 0, 0, 0)]
noncomputable abbrev md_Cu_setPoint : pm_M := (⟨"TurnField$Curve", "setPoint", "(I[JI)V"⟩, prog_2_method_6_code, 4, none, false, [0, 1007, 119, 1006, 28], cd_Cu_setPoint)
noncomputable def cd_Cu_agreement : List pm_I := [(0, .iconst 0, 1, 0, 0, 0), (1, .istore_n 2, 2, 0, 0, 0), (2, .iconst 0, 3, 0, 0, 0), (3, .istore_n 3, 4, 0, 0, 0), (4, .iload_n 3, 5, 0, 0, 0), (5, .aload_n 1, 6, 0, 0, 0), (6, .arraylength, 7, 0, 0, 0), (7, .if_icmp .ge 35, 10, 42, 0, 0), (10, .iload_n 2, 11, 0, 0, 0), (11, .aload_n 0, 12, 0, 0, 0), (12, .getfield 16, 15, 0, 2, 451), (15, .iload_n 3, 16, 0, 0, 0), (16, .i2l, 17, 0, 0, 0), (17, .invokestatic 74, 20, 62, 2, 1019), (20, .aload_n 1, 21, 0, 0, 0), (21, .iload_n 3, 22, 0, 0, 0), (22, .laload, 23, 0, 0, 0), (23, .lcmp, 24, 0, 0, 0), (24, .ifCond .ne 9, 27, 33, 0, 0), (27, .iconst 1, 28, 0, 0, 0), (28, .iload_n 3, 29, 0, 0, 0), (29, .ishl, 30, 0, 0, 0), (30, .goto 4, 33, 34, 0, 0), (33, .iconst 0, 34, 0, 0, 0), (34, .ior, 35, 0, 0, 0), (35, .istore_n 2, 36, 0, 0, 0), (36, .iinc 3 1, 39, 0, 0, 0), (39, .goto (-35), 42, 4, 0, 0), (42, .iload_n 2, 43, 0, 0, 0), (43, .ireturn, 44, 0, 0, 0)]
noncomputable abbrev md_Cu_agreement : pm_M := (⟨"TurnField$Curve", "agreement", "([J)I"⟩, prog_2_method_7_code, 4, (some .int), false, [0, 1018, 119, 1017, 30], cd_Cu_agreement)
noncomputable def cd_Cu_isMended : List pm_I := [(0, .aload_n 0, 1, 0, 0, 0), (1, .getfield 26, 4, 0, 5, 454), (4, .invokestatic 78, 7, 318, 1, 1026), (7, .bipush 6, 9, 0, 0, 0), (9, .if_icmp .lt 7, 12, 16, 0, 0), (12, .iconst 1, 13, 0, 0, 0), (13, .goto 4, 16, 17, 0, 0), (16, .iconst 0, 17, 0, 0, 0), (17, .ireturn, 18, 0, 0, 0)]
noncomputable abbrev md_Cu_isMended : pm_M := (⟨"TurnField$Curve", "isMended", "()Z"⟩, prog_2_method_8_code, 1, (some .boolean), false, [0, 1025, 119, 1023, 1024], cd_Cu_isMended)
noncomputable def cd_Cu_coefficient : List pm_I := [(0, .iload_n 1, 1, 0, 0, 0), (1, .ifCond .lt 21, 4, 22, 0, 0), (4, .iload_n 1, 5, 0, 0, 0), (5, .aload_n 0, 6, 0, 0, 0), (6, .getfield 16, 9, 0, 2, 451), (9, .arraylength, 10, 0, 0, 0), (10, .if_icmp .ge 12, 13, 22, 0, 0), (13, .aload_n 0, 14, 0, 0, 0), (14, .getfield 16, 17, 0, 2, 451), (17, .iload_n 1, 18, 0, 0, 0), (18, .laload, 19, 0, 0, 0), (19, .goto 4, 22, 23, 0, 0), (22, .lconst 0, 23, 0, 0, 0), (23, .lreturn, 24, 0, 0, 0)]
noncomputable abbrev md_Cu_coefficient : pm_M := (⟨"TurnField$Curve", "coefficient", "(I)J"⟩, prog_2_method_9_code, 2, (some .long), false, [0, 1030, 119, 1028, 1029], cd_Cu_coefficient)
noncomputable def cd_Cu_mendedValue : List pm_I := [(0, .aload_n 0, 1, 0, 0, 0), (1, .getfield 16, 4, 0, 2, 451), (4, .lload_n 1, 5, 0, 0, 0), (5, .invokestatic 74, 8, 62, 2, 1019), (8, .lreturn, 9, 0, 0, 0)]
noncomputable abbrev md_Cu_mendedValue : pm_M := (⟨"TurnField$Curve", "mendedValue", "(J)J"⟩, prog_2_method_10_code, 3, (some .long), false, [0, 1038, 119, 1036, 1037], cd_Cu_mendedValue)
noncomputable def cd_Le_init : List pm_I := [(0, .aload_n 0, 1, 0, 0, 0), (1, .invokespecial 1, 4, 1000, 1, 319), (4, .aload_n 0, 5, 0, 0, 0), (5, .sipush 4096, 8, 0, 0, 0), (8, .newarray .int, 10, 0, 0, 0), (10, .putfield 9, 13, 1, 0, 320), (13, .aload_n 0, 14, 0, 0, 0), (14, .sipush 256, 17, 0, 0, 0), (17, .newarray .int, 19, 0, 0, 0), (19, .putfield 13, 22, 1, 1, 321), (22, .aload_n 0, 23, 0, 0, 0), (23, .bipush 13, 25, 0, 0, 0), (25, .newarray .int, 27, 0, 0, 0), (27, .putfield 16, 30, 1, 2, 322), (30, .aload_n 0, 31, 0, 0, 0), (31, .iconst (-1), 32, 0, 0, 0), (32, .putfield 19, 35, 1, 3, 323), (35, .aload_n 0, 36, 0, 0, 0), (36, .iconst 0, 37, 0, 0, 0), (37, .putfield 23, 40, 1, 4, 324), (40, .aload_n 0, 41, 0, 0, 0), (41, .iconst 0, 42, 0, 0, 0), (42, .putfield 26, 45, 1, 5, 325), (45, .aload_n 0, 46, 0, 0, 0), (46, .iconst 0, 47, 0, 0, 0), (47, .putfield 29, 50, 1, 6, 326), (50, .aload_n 0, 51, 0, 0, 0), (51, .iconst 0, 52, 0, 0, 0), (52, .putfield 32, 55, 1, 7, 327), (55, .aload_n 0, 56, 0, 0, 0), (56, .iconst 0, 57, 0, 0, 0), (57, .putfield 35, 60, 1, 8, 329), (60, .aload_n 0, 61, 0, 0, 0), (61, .iconst 0, 62, 0, 0, 0), (62, .putfield 38, 65, 1, 9, 331), (65, .return_, 66, 0, 0, 0)]
noncomputable abbrev md_Le_init : pm_M := (⟨"TurnField$Lengths", "<init>", "()V"⟩, prog_3_method_1_code, 1, none, true, [2, 318, 115, 317, 0], cd_Le_init)
noncomputable def cd_Le_canHold : List pm_I := [(0, .aload_n 0, 1, 0, 0, 0), (1, .getfield 41, 4, 5, 0, 144), (4, .aload_n 0, 5, 0, 0, 0), (5, .getfield 44, 8, 5, 1, 149), (8, .imul, 9, 0, 0, 0), (9, .bipush 12, 11, 0, 0, 0), (11, .if_icmp .gt 7, 14, 18, 0, 0), (14, .iconst 1, 15, 0, 0, 0), (15, .goto 4, 18, 19, 0, 0), (18, .iconst 0, 19, 0, 0, 0), (19, .ireturn, 20, 0, 0, 0)]
noncomputable abbrev md_Le_canHold : pm_M := (⟨"TurnField$Lengths", "canHold", "(LTurnField$Position;)Z"⟩, prog_3_method_2_code, 1, (some .boolean), false, [1, 1182, 115, 1181, 0], cd_Le_canHold)
noncomputable def cd_Le_tune : List pm_I := [(0, .aload_n 1, 1, 0, 0, 0), (1, .invokevirtual 45, 4, 90, 1, 1188), (4, .istore_n 3, 5, 0, 0, 0), (5, .aload_n 0, 6, 0, 0, 0), (6, .getfield 19, 9, 1, 3, 323), (9, .iload_n 3, 10, 0, 0, 0), (10, .if_icmp .eq 10, 13, 20, 0, 0), (13, .aload_n 1, 14, 0, 0, 0), (14, .invokestatic 49, 17, 11, 1, 1189), (17, .ifCond .ne 4, 20, 21, 0, 0), (20, .return_, 21, 0, 0, 0), (21, .aload_n 0, 22, 0, 0, 0), (22, .iload_n 3, 23, 0, 0, 0), (23, .putfield 19, 26, 1, 3, 323), (26, .aload_n 0, 27, 0, 0, 0), (27, .aload_n 1, 28, 0, 0, 0), (28, .getfield 41, 31, 5, 0, 144), (31, .putfield 23, 34, 1, 4, 324), (34, .aload_n 0, 35, 0, 0, 0), (35, .aload_n 1, 36, 0, 0, 0), (36, .getfield 44, 39, 5, 1, 149), (39, .putfield 26, 42, 1, 5, 325), (42, .aload_n 2, 43, 0, 0, 0), (43, .aload_n 1, 44, 0, 0, 0), (44, .invokevirtual 53, 47, 49, 2, 1190), (47, .aload_n 0, 48, 0, 0, 0), (48, .aload_n 2, 49, 0, 0, 0), (49, .invokevirtual 59, 52, 13, 2, 1191), (52, .aload_n 0, 53, 0, 0, 0), (53, .invokevirtual 63, 56, 15, 1, 1206), (56, .return_, 57, 0, 0, 0)]
noncomputable abbrev md_Le_tune : pm_M := (⟨"TurnField$Lengths", "tune", "(LTurnField$Position;LTurnField$Play;)V"⟩, prog_3_method_3_code, 4, none, false, [0, 1187, 115, 1185, 1186], cd_Le_tune)
noncomputable def cd_Le_listMoves : List pm_I := [(0, .aload_n 0, 1, 0, 0, 0), (1, .iconst 0, 2, 0, 0, 0), (2, .putfield 29, 5, 1, 6, 326), (5, .iconst 0, 6, 0, 0, 0), (6, .istore_n 2, 7, 0, 0, 0), (7, .iconst 0, 8, 0, 0, 0), (8, .istore_n 3, 9, 0, 0, 0), (9, .iload_n 3, 10, 0, 0, 0), (10, .aload_n 0, 11, 0, 0, 0), (11, .getfield 23, 14, 1, 4, 324), (14, .if_icmp .ge 52, 17, 66, 0, 0), (17, .iconst 0, 18, 0, 0, 0), (18, .istore 4, 20, 0, 0, 0), (20, .iload 4, 22, 0, 0, 0), (22, .aload_n 0, 23, 0, 0, 0), (23, .getfield 26, 26, 1, 5, 325), (26, .if_icmp .ge 34, 29, 60, 0, 0), (29, .aload_n 0, 30, 0, 0, 0), (30, .getfield 16, 33, 1, 2, 322), (33, .iload_n 2, 34, 0, 0, 0), (34, .aload_n 0, 35, 0, 0, 0), (35, .getfield 29, 38, 1, 6, 326), (38, .iastore, 39, 0, 0, 0), (39, .aload_n 0, 40, 0, 0, 0), (40, .iconst 1, 41, 0, 0, 0), (41, .iload_n 3, 42, 0, 0, 0), (42, .ishl, 43, 0, 0, 0), (43, .iconst 1, 44, 0, 0, 0), (44, .iload 4, 46, 0, 0, 0), (46, .ishl, 47, 0, 0, 0), (47, .aload_n 1, 48, 0, 0, 0), (48, .invokevirtual 66, 51, 14, 4, 1195), (51, .iinc 2 1, 54, 0, 0, 0), (54, .iinc 4 1, 57, 0, 0, 0), (57, .goto (-37), 60, 20, 0, 0), (60, .iinc 3 1, 63, 0, 0, 0), (63, .goto (-54), 66, 9, 0, 0), (66, .aload_n 0, 67, 0, 0, 0), (67, .getfield 16, 70, 1, 2, 322), (70, .iload_n 2, 71, 0, 0, 0), (71, .aload_n 0, 72, 0, 0, 0), (72, .getfield 29, 75, 1, 6, 326), (75, .iastore, 76, 0, 0, 0), (76, .return_, 77, 0, 0, 0)]
noncomputable abbrev md_Le_listMoves : pm_M := (⟨"TurnField$Lengths", "listMoves", "(LTurnField$Play;)V"⟩, prog_3_method_4_code, 5, none, false, [0, 1194, 115, 1193, 34], cd_Le_listMoves)
noncomputable def cd_Le_listMovesAt : List pm_I := [(0, .iload_n 1, 1, 0, 0, 0), (1, .istore 4, 3, 0, 0, 0), (3, .iload 4, 5, 0, 0, 0), (5, .iload_n 1, 6, 0, 0, 0), (6, .iconst 1, 7, 0, 0, 0), (7, .ishl, 8, 0, 0, 0), (8, .if_icmp .ge 79, 11, 87, 0, 0), (11, .iload_n 2, 12, 0, 0, 0), (12, .istore 5, 14, 0, 0, 0), (14, .iload 5, 16, 0, 0, 0), (16, .iload_n 2, 17, 0, 0, 0), (17, .iconst 1, 18, 0, 0, 0), (18, .ishl, 19, 0, 0, 0), (19, .if_icmp .ge 62, 22, 81, 0, 0), (22, .aload_n 0, 23, 0, 0, 0), (23, .getfield 29, 26, 1, 6, 326), (26, .aload_n 0, 27, 0, 0, 0), (27, .getfield 13, 30, 1, 1, 321), (30, .arraylength, 31, 0, 0, 0), (31, .if_icmp .ge 44, 34, 75, 0, 0), (34, .aload_n 3, 35, 0, 0, 0), (35, .iload 4, 37, 0, 0, 0), (37, .iload 5, 39, 0, 0, 0), (39, .invokevirtual 70, 42, 55, 3, 1199), (42, .ifCond .eq 33, 45, 75, 0, 0), (45, .aload_n 0, 46, 0, 0, 0), (46, .getfield 13, 49, 1, 1, 321), (49, .aload_n 0, 50, 0, 0, 0), (50, .getfield 29, 53, 1, 6, 326), (53, .aload_n 0, 54, 0, 0, 0), (54, .iload 4, 56, 0, 0, 0), (56, .iload 5, 58, 0, 0, 0), (58, .invokestatic 74, 61, 84, 2, 1200), (61, .invokevirtual 78, 64, 17, 2, 1201), (64, .iastore, 65, 0, 0, 0), (65, .aload_n 0, 66, 0, 0, 0), (66, .dup, 67, 0, 0, 0), (67, .getfield 29, 70, 1, 6, 326), (70, .iconst 1, 71, 0, 0, 0), (71, .iadd, 72, 0, 0, 0), (72, .putfield 29, 75, 1, 6, 326), (75, .iinc 5 1, 78, 0, 0, 0), (78, .goto (-64), 81, 14, 0, 0), (81, .iinc 4 1, 84, 0, 0, 0), (84, .goto (-81), 87, 3, 0, 0), (87, .return_, 88, 0, 0, 0)]
noncomputable abbrev md_Le_listMovesAt : pm_M := (⟨"TurnField$Lengths", "listMovesAt", "(IILTurnField$Play;)V"⟩, prog_3_method_5_code, 6, none, false, [0, 1198, 115, 1197, 35], cd_Le_listMovesAt)
noncomputable def cd_Le_measure : List pm_I := [(0, .aload_n 0, 1, 0, 0, 0), (1, .iconst 0, 2, 0, 0, 0), (2, .putfield 32, 5, 1, 7, 327), (5, .aload_n 0, 6, 0, 0, 0), (6, .iconst 0, 7, 0, 0, 0), (7, .putfield 35, 10, 1, 8, 329), (10, .aload_n 0, 11, 0, 0, 0), (11, .iconst 0, 12, 0, 0, 0), (12, .putfield 38, 15, 1, 9, 331), (15, .iconst 0, 16, 0, 0, 0), (16, .istore_n 1, 17, 0, 0, 0), (17, .iload_n 1, 18, 0, 0, 0), (18, .iconst 1, 19, 0, 0, 0), (19, .aload_n 0, 20, 0, 0, 0), (20, .getfield 23, 23, 1, 4, 324), (23, .aload_n 0, 24, 0, 0, 0), (24, .getfield 26, 27, 1, 5, 325), (27, .imul, 28, 0, 0, 0), (28, .ishl, 29, 0, 0, 0), (29, .if_icmp .ge 54, 32, 83, 0, 0), (32, .aload_n 0, 33, 0, 0, 0), (33, .iload_n 1, 34, 0, 0, 0), (34, .invokevirtual 82, 37, 16, 2, 1210), (37, .istore_n 2, 38, 0, 0, 0), (38, .aload_n 0, 39, 0, 0, 0), (39, .getfield 9, 42, 1, 0, 320), (42, .iload_n 1, 43, 0, 0, 0), (43, .iload_n 2, 44, 0, 0, 0), (44, .iastore, 45, 0, 0, 0), (45, .aload_n 0, 46, 0, 0, 0), (46, .dup, 47, 0, 0, 0), (47, .getfield 32, 50, 1, 7, 327), (50, .iconst 1, 51, 0, 0, 0), (51, .iload_n 2, 52, 0, 0, 0), (52, .iconst 1, 53, 0, 0, 0), (53, .iand, 54, 0, 0, 0), (54, .isub, 55, 0, 0, 0), (55, .iadd, 56, 0, 0, 0), (56, .putfield 32, 59, 1, 7, 327), (59, .iload_n 2, 60, 0, 0, 0), (60, .aload_n 0, 61, 0, 0, 0), (61, .getfield 35, 64, 1, 8, 329), (64, .if_icmp .le 13, 67, 77, 0, 0), (67, .aload_n 0, 68, 0, 0, 0), (68, .iload_n 2, 69, 0, 0, 0), (69, .putfield 35, 72, 1, 8, 329), (72, .aload_n 0, 73, 0, 0, 0), (73, .iload_n 1, 74, 0, 0, 0), (74, .putfield 38, 77, 1, 9, 331), (77, .iinc 1 1, 80, 0, 0, 0), (80, .goto (-63), 83, 17, 0, 0), (83, .return_, 84, 0, 0, 0)]
noncomputable abbrev md_Le_measure : pm_M := (⟨"TurnField$Lengths", "measure", "()V"⟩, prog_3_method_6_code, 3, none, false, [0, 1209, 115, 1208, 37], cd_Le_measure)
noncomputable def cd_Le_measured : List pm_I := [(0, .iconst 0, 1, 0, 0, 0), (1, .istore_n 2, 2, 0, 0, 0), (2, .iconst 0, 3, 0, 0, 0), (3, .istore_n 3, 4, 0, 0, 0), (4, .iconst 0, 5, 0, 0, 0), (5, .istore 4, 7, 0, 0, 0), (7, .iload 4, 9, 0, 0, 0), (9, .aload_n 0, 10, 0, 0, 0), (10, .getfield 23, 13, 1, 4, 324), (13, .aload_n 0, 14, 0, 0, 0), (14, .getfield 26, 17, 1, 5, 325), (17, .imul, 18, 0, 0, 0), (18, .if_icmp .ge 98, 21, 116, 0, 0), (21, .aload_n 0, 22, 0, 0, 0), (22, .getfield 16, 25, 1, 2, 322), (25, .iload 4, 27, 0, 0, 0), (27, .iaload, 28, 0, 0, 0), (28, .istore 5, 30, 0, 0, 0), (30, .iload_n 1, 31, 0, 0, 0), (31, .iload 4, 33, 0, 0, 0), (33, .ishr, 34, 0, 0, 0), (34, .iconst 1, 35, 0, 0, 0), (35, .iand, 36, 0, 0, 0), (36, .ifCond .eq 74, 39, 110, 0, 0), (39, .iload 5, 41, 0, 0, 0), (41, .aload_n 0, 42, 0, 0, 0), (42, .getfield 16, 45, 1, 2, 322), (45, .iload 4, 47, 0, 0, 0), (47, .iconst 1, 48, 0, 0, 0), (48, .iadd, 49, 0, 0, 0), (49, .iaload, 50, 0, 0, 0), (50, .if_icmp .ge 60, 53, 110, 0, 0), (53, .iconst 1, 54, 0, 0, 0), (54, .aload_n 0, 55, 0, 0, 0), (55, .getfield 9, 58, 1, 0, 320), (58, .iload_n 1, 59, 0, 0, 0), (59, .aload_n 0, 60, 0, 0, 0), (60, .getfield 13, 63, 1, 1, 321), (63, .iload 5, 65, 0, 0, 0), (65, .iaload, 66, 0, 0, 0), (66, .ixor, 67, 0, 0, 0), (67, .iaload, 68, 0, 0, 0), (68, .iadd, 69, 0, 0, 0), (69, .istore 6, 71, 0, 0, 0), (71, .iload 6, 73, 0, 0, 0), (73, .iconst 1, 74, 0, 0, 0), (74, .iand, 75, 0, 0, 0), (75, .ifCond .ne 13, 78, 88, 0, 0), (78, .iload_n 3, 79, 0, 0, 0), (79, .iload 6, 81, 0, 0, 0), (81, .invokestatic 86, 84, 1001, 2, 1214), (84, .istore_n 3, 85, 0, 0, 0), (85, .goto 19, 88, 104, 0, 0), (88, .iload_n 2, 89, 0, 0, 0), (89, .ifCond .ne 8, 92, 97, 0, 0), (92, .iload 6, 94, 0, 0, 0), (94, .goto 9, 97, 103, 0, 0), (97, .iload_n 2, 98, 0, 0, 0), (98, .iload 6, 100, 0, 0, 0), (100, .invokestatic 92, 103, 1002, 2, 1217), (103, .istore_n 2, 104, 0, 0, 0), (104, .iinc 5 1, 107, 0, 0, 0), (107, .goto (-77), 110, 30, 0, 0), (110, .iinc 4 1, 113, 0, 0, 0), (113, .goto (-106), 116, 7, 0, 0), (116, .iload_n 2, 117, 0, 0, 0), (117, .ifCond .le 7, 120, 124, 0, 0), (120, .iload_n 2, 121, 0, 0, 0), (121, .goto 4, 124, 125, 0, 0), (124, .iload_n 3, 125, 0, 0, 0), (125, .ireturn, 126, 0, 0, 0)]
noncomputable abbrev md_Le_measured : pm_M := (⟨"TurnField$Lengths", "measured", "(I)I"⟩, prog_3_method_7_code, 7, (some .int), false, [0, 1213, 115, 1212, 38], cd_Le_measured)
noncomputable def cd_Le_packed : List pm_I := [(0, .iconst 0, 1, 0, 0, 0), (1, .istore_n 3, 2, 0, 0, 0), (2, .iconst 0, 3, 0, 0, 0), (3, .istore 4, 5, 0, 0, 0), (5, .iload 4, 7, 0, 0, 0), (7, .aload_n 0, 8, 0, 0, 0), (8, .getfield 23, 11, 1, 4, 324), (11, .if_icmp .ge 32, 14, 43, 0, 0), (14, .iload_n 3, 15, 0, 0, 0), (15, .lload_n 1, 16, 0, 0, 0), (16, .bipush 6, 18, 0, 0, 0), (18, .iload 4, 20, 0, 0, 0), (20, .imul, 21, 0, 0, 0), (21, .lushr, 22, 0, 0, 0), (22, .ldc2_w 95, 25, 0, 0, 1205), (25, .land, 26, 0, 0, 0), (26, .l2i, 27, 0, 0, 0), (27, .aload_n 0, 28, 0, 0, 0), (28, .getfield 26, 31, 1, 5, 325), (31, .iload 4, 33, 0, 0, 0), (33, .imul, 34, 0, 0, 0), (34, .ishl, 35, 0, 0, 0), (35, .ior, 36, 0, 0, 0), (36, .istore_n 3, 37, 0, 0, 0), (37, .iinc 4 1, 40, 0, 0, 0), (40, .goto (-35), 43, 5, 0, 0), (43, .iload_n 3, 44, 0, 0, 0), (44, .ireturn, 45, 0, 0, 0)]
noncomputable abbrev md_Le_packed : pm_M := (⟨"TurnField$Lengths", "packed", "(J)I"⟩, prog_3_method_8_code, 5, (some .int), false, [0, 1204, 115, 1203, 36], cd_Le_packed)
noncomputable def cd_Le_spread : List pm_I := [(0, .lconst 0, 1, 0, 0, 0), (1, .lstore_n 2, 2, 0, 0, 0), (2, .iconst 0, 3, 0, 0, 0), (3, .istore 4, 5, 0, 0, 0), (5, .iload 4, 7, 0, 0, 0), (7, .aload_n 0, 8, 0, 0, 0), (8, .getfield 23, 11, 1, 4, 324), (11, .if_icmp .ge 41, 14, 52, 0, 0), (14, .iload_n 1, 15, 0, 0, 0), (15, .aload_n 0, 16, 0, 0, 0), (16, .getfield 26, 19, 1, 5, 325), (19, .iload 4, 21, 0, 0, 0), (21, .imul, 22, 0, 0, 0), (22, .ishr, 23, 0, 0, 0), (23, .iconst 1, 24, 0, 0, 0), (24, .aload_n 0, 25, 0, 0, 0), (25, .getfield 26, 28, 1, 5, 325), (28, .ishl, 29, 0, 0, 0), (29, .iconst 1, 30, 0, 0, 0), (30, .isub, 31, 0, 0, 0), (31, .iand, 32, 0, 0, 0), (32, .i2l, 33, 0, 0, 0), (33, .lstore 5, 35, 0, 0, 0), (35, .lload_n 2, 36, 0, 0, 0), (36, .lload 5, 38, 0, 0, 0), (38, .bipush 6, 40, 0, 0, 0), (40, .iload 4, 42, 0, 0, 0), (42, .imul, 43, 0, 0, 0), (43, .lshl, 44, 0, 0, 0), (44, .lor, 45, 0, 0, 0), (45, .lstore_n 2, 46, 0, 0, 0), (46, .iinc 4 1, 49, 0, 0, 0), (49, .goto (-44), 52, 5, 0, 0), (52, .lload_n 2, 53, 0, 0, 0), (53, .lreturn, 54, 0, 0, 0)]
noncomputable abbrev md_Le_spread : pm_M := (⟨"TurnField$Lengths", "spread", "(I)J"⟩, prog_3_method_9_code, 7, (some .long), false, [0, 1221, 115, 1219, 1220], cd_Le_spread)
noncomputable def cd_Le_lengthOf : List pm_I := [(0, .aload_n 0, 1, 0, 0, 0), (1, .getfield 9, 4, 1, 0, 320), (4, .aload_n 0, 5, 0, 0, 0), (5, .aload_n 1, 6, 0, 0, 0), (6, .getfield 97, 9, 5, 6, 172), (9, .invokevirtual 78, 12, 17, 2, 1201), (12, .aload_n 0, 13, 0, 0, 0), (13, .getfield 9, 16, 1, 0, 320), (16, .arraylength, 17, 0, 0, 0), (17, .iconst 1, 18, 0, 0, 0), (18, .isub, 19, 0, 0, 0), (19, .iand, 20, 0, 0, 0), (20, .iaload, 21, 0, 0, 0), (21, .ireturn, 22, 0, 0, 0)]
noncomputable abbrev md_Le_lengthOf : pm_M := (⟨"TurnField$Lengths", "lengthOf", "(LTurnField$Position;)I"⟩, prog_3_method_10_code, 2, (some .int), false, [0, 1229, 115, 1227, 1228], cd_Le_lengthOf)
noncomputable def cd_Nu_below : List pm_I := [(0, .lload_n 0, 1, 0, 0, 0), (1, .ldc2_w 11, 4, 1, 0, 699), (4, .lxor, 5, 0, 0, 0), (5, .lload_n 2, 6, 0, 0, 0), (6, .ldc2_w 11, 9, 1, 0, 699), (9, .lxor, 10, 0, 0, 0), (10, .lcmp, 11, 0, 0, 0), (11, .ifCond .ge 7, 14, 18, 0, 0), (14, .iconst 1, 15, 0, 0, 0), (15, .goto 4, 18, 19, 0, 0), (18, .iconst 0, 19, 0, 0, 0), (19, .ireturn, 20, 0, 0, 0)]
noncomputable abbrev md_Nu_below : pm_M := (⟨"TurnField$Numbers", "below", "(JJ)Z"⟩, prog_4_method_2_code, 4, (some .boolean), false, [1, 698, 128, 697, 0], cd_Nu_below)
noncomputable def cd_Nu_levelOf : List pm_I := [(0, .iconst 0, 1, 0, 0, 0), (1, .istore_n 2, 2, 0, 0, 0), (2, .iload_n 2, 3, 0, 0, 0), (3, .bipush 6, 5, 0, 0, 0), (5, .if_icmp .ge 21, 8, 26, 0, 0), (8, .lload_n 0, 9, 0, 0, 0), (9, .iconst 1, 10, 0, 0, 0), (10, .iload_n 2, 11, 0, 0, 0), (11, .ishl, 12, 0, 0, 0), (12, .lushr, 13, 0, 0, 0), (13, .lconst 0, 14, 0, 0, 0), (14, .lcmp, 15, 0, 0, 0), (15, .ifCond .ne 5, 18, 20, 0, 0), (18, .iload_n 2, 19, 0, 0, 0), (19, .ireturn, 20, 0, 0, 0), (20, .iinc 2 1, 23, 0, 0, 0), (23, .goto (-21), 26, 2, 0, 0), (26, .bipush 6, 28, 0, 0, 0), (28, .ireturn, 29, 0, 0, 0)]
noncomputable abbrev md_Nu_levelOf : pm_M := (⟨"TurnField$Numbers", "levelOf", "(J)I"⟩, prog_4_method_3_code, 3, (some .int), false, [1, 1107, 128, 1106, 0], cd_Nu_levelOf)
noncomputable def cd_Nu_product : List pm_I := [(0, .lload_n 0, 1, 0, 0, 0), (1, .lload_n 2, 2, 0, 0, 0), (2, .invokestatic 13, 5, 20, 2, 696), (5, .ifCond .eq 13, 8, 18, 0, 0), (8, .lload_n 2, 9, 0, 0, 0), (9, .lload_n 0, 10, 0, 0, 0), (10, .bipush 6, 12, 0, 0, 0), (12, .invokestatic 17, 15, 23, 3, 700), (15, .goto 10, 18, 25, 0, 0), (18, .lload_n 0, 19, 0, 0, 0), (19, .lload_n 2, 20, 0, 0, 0), (20, .bipush 6, 22, 0, 0, 0), (22, .invokestatic 17, 25, 23, 3, 700), (25, .lreturn, 26, 0, 0, 0)]
noncomputable abbrev md_Nu_product : pm_M := (⟨"TurnField$Numbers", "product", "(JJ)J"⟩, prog_4_method_4_code, 4, (some .long), false, [1, 695, 128, 694, 0], cd_Nu_product)
noncomputable def cd_Nu_sharedOut : List pm_I := [(0, .lload_n 2, 1, 0, 0, 0), (1, .lconst 0, 2, 0, 0, 0), (2, .lcmp, 3, 0, 0, 0), (3, .ifCond .ne 5, 6, 8, 0, 0), (6, .lconst 0, 7, 0, 0, 0), (7, .lreturn, 8, 0, 0, 0), (8, .lload_n 2, 9, 0, 0, 0), (9, .lconst 1, 10, 0, 0, 0), (10, .lcmp, 11, 0, 0, 0), (11, .ifCond .eq 8, 14, 19, 0, 0), (14, .iload 4, 16, 0, 0, 0), (16, .ifCond .gt 5, 19, 21, 0, 0), (19, .lload_n 0, 20, 0, 0, 0), (20, .lreturn, 21, 0, 0, 0), (21, .iconst 1, 22, 0, 0, 0), (22, .iload 4, 24, 0, 0, 0), (24, .iconst 1, 25, 0, 0, 0), (25, .isub, 26, 0, 0, 0), (26, .ishl, 27, 0, 0, 0), (27, .istore 5, 29, 0, 0, 0), (29, .lload_n 2, 30, 0, 0, 0), (30, .iload 5, 32, 0, 0, 0), (32, .lushr, 33, 0, 0, 0), (33, .lstore 6, 35, 0, 0, 0), (35, .lload 6, 37, 0, 0, 0), (37, .lconst 0, 38, 0, 0, 0), (38, .lcmp, 39, 0, 0, 0), (39, .ifCond .ne 13, 42, 52, 0, 0), (42, .lload_n 0, 43, 0, 0, 0), (43, .lload_n 2, 44, 0, 0, 0), (44, .iload 4, 46, 0, 0, 0), (46, .iconst 1, 47, 0, 0, 0), (47, .isub, 48, 0, 0, 0), (48, .invokestatic 17, 51, 23, 3, 700), (51, .lreturn, 52, 0, 0, 0), (52, .lload_n 2, 53, 0, 0, 0), (53, .getstatic 21, 56, 0, 0, 703), (56, .iload 4, 58, 0, 0, 0), (58, .iconst 1, 59, 0, 0, 0), (59, .isub, 60, 0, 0, 0), (60, .laload, 61, 0, 0, 0), (61, .land, 62, 0, 0, 0), (62, .lstore 8, 64, 0, 0, 0), (64, .lload_n 0, 65, 0, 0, 0), (65, .lload 8, 67, 0, 0, 0), (67, .iload 4, 69, 0, 0, 0), (69, .iconst 1, 70, 0, 0, 0), (70, .isub, 71, 0, 0, 0), (71, .invokestatic 17, 74, 23, 3, 700), (74, .lload_n 0, 75, 0, 0, 0), (75, .lload 6, 77, 0, 0, 0), (77, .iload 4, 79, 0, 0, 0), (79, .iconst 1, 80, 0, 0, 0), (80, .isub, 81, 0, 0, 0), (81, .invokestatic 17, 84, 23, 3, 700), (84, .iload 4, 86, 0, 0, 0), (86, .iconst 1, 87, 0, 0, 0), (87, .isub, 88, 0, 0, 0), (88, .invokestatic 25, 91, 24, 2, 705), (91, .lxor, 92, 0, 0, 0), (92, .lreturn, 93, 0, 0, 0)]
noncomputable abbrev md_Nu_sharedOut : pm_M := (⟨"TurnField$Numbers", "sharedOut", "(JJI)J"⟩, prog_4_method_5_code, 10, (some .long), false, [1, 702, 128, 701, 0], cd_Nu_sharedOut)
noncomputable def cd_Nu_lifted : List pm_I := [(0, .lload_n 0, 1, 0, 0, 0), (1, .lconst 0, 2, 0, 0, 0), (2, .lcmp, 3, 0, 0, 0), (3, .ifCond .eq 12, 6, 15, 0, 0), (6, .iload_n 2, 7, 0, 0, 0), (7, .ifCond .lt 8, 10, 15, 0, 0), (10, .iload_n 2, 11, 0, 0, 0), (11, .iconst 5, 12, 0, 0, 0), (12, .if_icmp .le 5, 15, 17, 0, 0), (15, .lload_n 0, 16, 0, 0, 0), (16, .lreturn, 17, 0, 0, 0), (17, .lload_n 0, 18, 0, 0, 0), (18, .iconst 1, 19, 0, 0, 0), (19, .iload_n 2, 20, 0, 0, 0), (20, .ishl, 21, 0, 0, 0), (21, .lushr, 22, 0, 0, 0), (22, .getstatic 21, 25, 0, 0, 703), (25, .iload_n 2, 26, 0, 0, 0), (26, .laload, 27, 0, 0, 0), (27, .land, 28, 0, 0, 0), (28, .lstore_n 3, 29, 0, 0, 0), (29, .lload_n 0, 30, 0, 0, 0), (30, .getstatic 21, 33, 0, 0, 703), (33, .iload_n 2, 34, 0, 0, 0), (34, .laload, 35, 0, 0, 0), (35, .land, 36, 0, 0, 0), (36, .lstore 5, 38, 0, 0, 0), (38, .lload_n 3, 39, 0, 0, 0), (39, .lload 5, 41, 0, 0, 0), (41, .lxor, 42, 0, 0, 0), (42, .iconst 1, 43, 0, 0, 0), (43, .iload_n 2, 44, 0, 0, 0), (44, .ishl, 45, 0, 0, 0), (45, .lshl, 46, 0, 0, 0), (46, .lload_n 3, 47, 0, 0, 0), (47, .iload_n 2, 48, 0, 0, 0), (48, .invokestatic 29, 51, 25, 2, 708), (51, .lxor, 52, 0, 0, 0), (52, .lreturn, 53, 0, 0, 0)]
noncomputable abbrev md_Nu_lifted : pm_M := (⟨"TurnField$Numbers", "lifted", "(JI)J"⟩, prog_4_method_6_code, 7, (some .long), false, [1, 707, 128, 706, 0], cd_Nu_lifted)
noncomputable def cd_Nu_toppedBy : List pm_I := [(0, .lload_n 0, 1, 0, 0, 0), (1, .lstore_n 3, 2, 0, 0, 0), (2, .iconst 0, 3, 0, 0, 0), (3, .istore 5, 5, 0, 0, 0), (5, .iload 5, 7, 0, 0, 0), (7, .iload_n 2, 8, 0, 0, 0), (8, .if_icmp .ge 16, 11, 24, 0, 0), (11, .lload_n 3, 12, 0, 0, 0), (12, .iload 5, 14, 0, 0, 0), (14, .invokestatic 25, 17, 24, 2, 705), (17, .lstore_n 3, 18, 0, 0, 0), (18, .iinc 5 1, 21, 0, 0, 0), (21, .goto (-16), 24, 5, 0, 0), (24, .lload_n 3, 25, 0, 0, 0), (25, .lreturn, 26, 0, 0, 0)]
noncomputable abbrev md_Nu_toppedBy : pm_M := (⟨"TurnField$Numbers", "toppedBy", "(JI)J"⟩, prog_4_method_7_code, 6, (some .long), false, [1, 710, 128, 709, 0], cd_Nu_toppedBy)
noncomputable def cd_Nu_square : List pm_I := [(0, .lload_n 0, 1, 0, 0, 0), (1, .lstore_n 2, 2, 0, 0, 0), (2, .iconst 0, 3, 0, 0, 0), (3, .istore 4, 5, 0, 0, 0), (5, .iload 4, 7, 0, 0, 0), (7, .bipush 6, 9, 0, 0, 0), (9, .if_icmp .ge 30, 12, 39, 0, 0), (12, .lload_n 2, 13, 0, 0, 0), (13, .lload_n 2, 14, 0, 0, 0), (14, .iconst 1, 15, 0, 0, 0), (15, .iload 4, 17, 0, 0, 0), (17, .ishl, 18, 0, 0, 0), (18, .lushr, 19, 0, 0, 0), (19, .getstatic 21, 22, 0, 0, 703), (22, .iload 4, 24, 0, 0, 0), (24, .laload, 25, 0, 0, 0), (25, .land, 26, 0, 0, 0), (26, .iload 4, 28, 0, 0, 0), (28, .invokestatic 29, 31, 25, 2, 708), (31, .lxor, 32, 0, 0, 0), (32, .lstore_n 2, 33, 0, 0, 0), (33, .iinc 4 1, 36, 0, 0, 0), (36, .goto (-31), 39, 5, 0, 0), (39, .lload_n 2, 40, 0, 0, 0), (40, .lreturn, 41, 0, 0, 0)]
noncomputable abbrev md_Nu_square : pm_M := (⟨"TurnField$Numbers", "square", "(J)J"⟩, prog_4_method_8_code, 5, (some .long), false, [1, 785, 128, 784, 0], cd_Nu_square)
noncomputable def cd_Nu_rootOf : List pm_I := [(0, .lload_n 0, 1, 0, 0, 0), (1, .lstore_n 2, 2, 0, 0, 0), (2, .iconst 5, 3, 0, 0, 0), (3, .istore 4, 5, 0, 0, 0), (5, .iload 4, 7, 0, 0, 0), (7, .ifCond .lt 30, 10, 37, 0, 0), (10, .lload_n 2, 11, 0, 0, 0), (11, .lload_n 2, 12, 0, 0, 0), (12, .iconst 1, 13, 0, 0, 0), (13, .iload 4, 15, 0, 0, 0), (15, .ishl, 16, 0, 0, 0), (16, .lushr, 17, 0, 0, 0), (17, .getstatic 21, 20, 0, 0, 703), (20, .iload 4, 22, 0, 0, 0), (22, .laload, 23, 0, 0, 0), (23, .land, 24, 0, 0, 0), (24, .iload 4, 26, 0, 0, 0), (26, .invokestatic 29, 29, 25, 2, 708), (29, .lxor, 30, 0, 0, 0), (30, .lstore_n 2, 31, 0, 0, 0), (31, .iinc 4 (-1), 34, 0, 0, 0), (34, .goto (-29), 37, 5, 0, 0), (37, .lload_n 2, 38, 0, 0, 0), (38, .lreturn, 39, 0, 0, 0)]
noncomputable abbrev md_Nu_rootOf : pm_M := (⟨"TurnField$Numbers", "rootOf", "(J)J"⟩, prog_4_method_9_code, 5, (some .long), false, [1, 788, 128, 787, 0], cd_Nu_rootOf)
noncomputable def cd_Nu_inverted : List pm_I := [(0, .lconst 1, 1, 0, 0, 0), (1, .lstore_n 2, 2, 0, 0, 0), (2, .lload_n 0, 3, 0, 0, 0), (3, .lstore 4, 5, 0, 0, 0), (5, .iconst 5, 6, 0, 0, 0), (6, .istore 6, 8, 0, 0, 0), (8, .iload 6, 10, 0, 0, 0), (10, .ifCond .lt 69, 13, 79, 0, 0), (13, .lload 4, 15, 0, 0, 0), (15, .iconst 1, 16, 0, 0, 0), (16, .iload 6, 18, 0, 0, 0), (18, .ishl, 19, 0, 0, 0), (19, .lushr, 20, 0, 0, 0), (20, .lstore 7, 22, 0, 0, 0), (22, .lload 7, 24, 0, 0, 0), (24, .lconst 0, 25, 0, 0, 0), (25, .lcmp, 26, 0, 0, 0), (26, .ifCond .eq 47, 29, 73, 0, 0), (29, .lload 4, 31, 0, 0, 0), (31, .getstatic 21, 34, 0, 0, 703), (34, .iload 6, 36, 0, 0, 0), (36, .laload, 37, 0, 0, 0), (37, .land, 38, 0, 0, 0), (38, .lstore 9, 40, 0, 0, 0), (40, .lload_n 2, 41, 0, 0, 0), (41, .lload 4, 43, 0, 0, 0), (43, .lload 7, 45, 0, 0, 0), (45, .lxor, 46, 0, 0, 0), (46, .invokestatic 32, 49, 22, 2, 782), (49, .lstore_n 2, 50, 0, 0, 0), (50, .lload 9, 52, 0, 0, 0), (52, .lload 9, 54, 0, 0, 0), (54, .lload 7, 56, 0, 0, 0), (56, .lxor, 57, 0, 0, 0), (57, .invokestatic 32, 60, 22, 2, 782), (60, .lload 7, 62, 0, 0, 0), (62, .invokestatic 36, 65, 26, 1, 783), (65, .iload 6, 67, 0, 0, 0), (67, .invokestatic 29, 70, 25, 2, 708), (70, .lxor, 71, 0, 0, 0), (71, .lstore 4, 73, 0, 0, 0), (73, .iinc 6 (-1), 76, 0, 0, 0), (76, .goto (-68), 79, 8, 0, 0), (79, .lload 4, 81, 0, 0, 0), (81, .lconst 0, 82, 0, 0, 0), (82, .lcmp, 83, 0, 0, 0), (83, .ifCond .ne 7, 86, 90, 0, 0), (86, .lconst 0, 87, 0, 0, 0), (87, .goto 4, 90, 91, 0, 0), (90, .lload_n 2, 91, 0, 0, 0), (91, .lreturn, 92, 0, 0, 0)]
noncomputable abbrev md_Nu_inverted : pm_M := (⟨"TurnField$Numbers", "inverted", "(J)J"⟩, prog_4_method_10_code, 11, (some .long), false, [1, 781, 128, 780, 0], cd_Nu_inverted)
noncomputable def cd_Nu_hasHalf : List pm_I := [(0, .lload_n 0, 1, 0, 0, 0), (1, .lconst 0, 2, 0, 0, 0), (2, .lcmp, 3, 0, 0, 0), (3, .ifCond .lt 7, 6, 10, 0, 0), (6, .iconst 1, 7, 0, 0, 0), (7, .goto 4, 10, 11, 0, 0), (10, .iconst 0, 11, 0, 0, 0), (11, .ireturn, 12, 0, 0, 0)]
noncomputable abbrev md_Nu_hasHalf : pm_M := (⟨"TurnField$Numbers", "hasHalf", "(J)Z"⟩, prog_4_method_11_code, 2, (some .boolean), false, [1, 1148, 128, 1147, 0], cd_Nu_hasHalf)
noncomputable def cd_Nu_halved : List pm_I := [(0, .lload_n 0, 1, 0, 0, 0), (1, .bipush 6, 3, 0, 0, 0), (3, .invokestatic 40, 6, 31, 2, 1152), (6, .lreturn, 7, 0, 0, 0)]
noncomputable abbrev md_Nu_halved : pm_M := (⟨"TurnField$Numbers", "halved", "(J)J"⟩, prog_4_method_12_code, 2, (some .long), false, [1, 1151, 128, 1150, 0], cd_Nu_halved)
noncomputable def cd_Nu_halvedIn : List pm_I := [(0, .lload_n 0, 1, 0, 0, 0), (1, .lconst 0, 2, 0, 0, 0), (2, .lcmp, 3, 0, 0, 0), (3, .ifCond .eq 13, 6, 16, 0, 0), (6, .iload_n 2, 7, 0, 0, 0), (7, .ifCond .le 9, 10, 16, 0, 0), (10, .iload_n 2, 11, 0, 0, 0), (11, .bipush 6, 13, 0, 0, 0), (13, .if_icmp .le 5, 16, 18, 0, 0), (16, .lconst 0, 17, 0, 0, 0), (17, .lreturn, 18, 0, 0, 0), (18, .iconst 1, 19, 0, 0, 0), (19, .iload_n 2, 20, 0, 0, 0), (20, .iconst 1, 21, 0, 0, 0), (21, .isub, 22, 0, 0, 0), (22, .ishl, 23, 0, 0, 0), (23, .istore_n 3, 24, 0, 0, 0), (24, .lload_n 0, 25, 0, 0, 0), (25, .iload_n 3, 26, 0, 0, 0), (26, .lushr, 27, 0, 0, 0), (27, .lstore 4, 29, 0, 0, 0), (29, .lload 4, 31, 0, 0, 0), (31, .iload_n 2, 32, 0, 0, 0), (32, .iconst 1, 33, 0, 0, 0), (33, .isub, 34, 0, 0, 0), (34, .invokestatic 40, 37, 31, 2, 1152), (37, .lstore 6, 39, 0, 0, 0), (39, .lload_n 0, 40, 0, 0, 0), (40, .getstatic 21, 43, 0, 0, 703), (43, .iload_n 2, 44, 0, 0, 0), (44, .iconst 1, 45, 0, 0, 0), (45, .isub, 46, 0, 0, 0), (46, .laload, 47, 0, 0, 0), (47, .land, 48, 0, 0, 0), (48, .lload 6, 50, 0, 0, 0), (50, .lload 4, 52, 0, 0, 0), (52, .lxor, 53, 0, 0, 0), (53, .iload_n 2, 54, 0, 0, 0), (54, .iconst 1, 55, 0, 0, 0), (55, .isub, 56, 0, 0, 0), (56, .invokestatic 29, 59, 25, 2, 708), (59, .lxor, 60, 0, 0, 0), (60, .lstore 8, 62, 0, 0, 0), (62, .lload 8, 64, 0, 0, 0), (64, .iload_n 3, 65, 0, 0, 0), (65, .iconst 1, 66, 0, 0, 0), (66, .isub, 67, 0, 0, 0), (67, .lushr, 68, 0, 0, 0), (68, .lconst 1, 69, 0, 0, 0), (69, .land, 70, 0, 0, 0), (70, .lconst 0, 71, 0, 0, 0), (71, .lcmp, 72, 0, 0, 0), (72, .ifCond .eq 19, 75, 91, 0, 0), (75, .lload 6, 77, 0, 0, 0), (77, .lconst 1, 78, 0, 0, 0), (78, .lxor, 79, 0, 0, 0), (79, .lstore 6, 81, 0, 0, 0), (81, .lload 8, 83, 0, 0, 0), (83, .lconst 1, 84, 0, 0, 0), (84, .iload_n 3, 85, 0, 0, 0), (85, .iconst 1, 86, 0, 0, 0), (86, .isub, 87, 0, 0, 0), (87, .lshl, 88, 0, 0, 0), (88, .lxor, 89, 0, 0, 0), (89, .lstore 8, 91, 0, 0, 0), (91, .lload 6, 93, 0, 0, 0), (93, .iload_n 3, 94, 0, 0, 0), (94, .lshl, 95, 0, 0, 0), (95, .lload 8, 97, 0, 0, 0), (97, .iload_n 2, 98, 0, 0, 0), (98, .iconst 1, 99, 0, 0, 0), (99, .isub, 100, 0, 0, 0), (100, .invokestatic 40, 103, 31, 2, 1152), (103, .lor, 104, 0, 0, 0), (104, .lreturn, 105, 0, 0, 0)]
noncomputable abbrev md_Nu_halvedIn : pm_M := (⟨"TurnField$Numbers", "halvedIn", "(JI)J"⟩, prog_4_method_13_code, 10, (some .long), false, [1, 1154, 128, 1153, 0], cd_Nu_halvedIn)
noncomputable def cd_Nu_traceOf : List pm_I := [(0, .lload_n 0, 1, 0, 0, 0), (1, .iconst 1, 2, 0, 0, 0), (2, .iload_n 2, 3, 0, 0, 0), (3, .ishl, 4, 0, 0, 0), (4, .iconst 1, 5, 0, 0, 0), (5, .isub, 6, 0, 0, 0), (6, .lushr, 7, 0, 0, 0), (7, .lconst 1, 8, 0, 0, 0), (8, .land, 9, 0, 0, 0), (9, .l2i, 10, 0, 0, 0), (10, .ireturn, 11, 0, 0, 0)]
noncomputable abbrev md_Nu_traceOf : pm_M := (⟨"TurnField$Numbers", "traceOf", "(JI)I"⟩, prog_4_method_14_code, 3, (some .int), false, [1, 1141, 128, 1140, 0], cd_Nu_traceOf)
noncomputable def cd_Nu_raisedTo : List pm_I := [(0, .lconst 1, 1, 0, 0, 0), (1, .lstore 4, 3, 0, 0, 0), (3, .bipush 63, 5, 0, 0, 0), (5, .istore 6, 7, 0, 0, 0), (7, .iload 6, 9, 0, 0, 0), (9, .ifCond .lt 42, 12, 51, 0, 0), (12, .lload 4, 14, 0, 0, 0), (14, .lconst 1, 15, 0, 0, 0), (15, .lcmp, 16, 0, 0, 0), (16, .ifCond .eq 10, 19, 26, 0, 0), (19, .lload 4, 21, 0, 0, 0), (21, .invokestatic 36, 24, 26, 1, 783), (24, .lstore 4, 26, 0, 0, 0), (26, .lload_n 2, 27, 0, 0, 0), (27, .iload 6, 29, 0, 0, 0), (29, .lushr, 30, 0, 0, 0), (30, .lconst 1, 31, 0, 0, 0), (31, .land, 32, 0, 0, 0), (32, .lconst 0, 33, 0, 0, 0), (33, .lcmp, 34, 0, 0, 0), (34, .ifCond .eq 11, 37, 45, 0, 0), (37, .lload 4, 39, 0, 0, 0), (39, .lload_n 0, 40, 0, 0, 0), (40, .invokestatic 32, 43, 22, 2, 782), (43, .lstore 4, 45, 0, 0, 0), (45, .iinc 6 (-1), 48, 0, 0, 0), (48, .goto (-41), 51, 7, 0, 0), (51, .lload 4, 53, 0, 0, 0), (53, .lreturn, 54, 0, 0, 0)]
noncomputable abbrev md_Nu_raisedTo : pm_M := (⟨"TurnField$Numbers", "raisedTo", "(JJ)J"⟩, prog_4_method_15_code, 7, (some .long), false, [1, 791, 128, 790, 0], cd_Nu_raisedTo)
noncomputable def cd_Nu_primesIn : List pm_I := [(0, .iload_n 0, 1, 0, 0, 0), (1, .bipush 6, 3, 0, 0, 0), (3, .if_icmp .ge 7, 6, 10, 0, 0), (6, .iload_n 0, 7, 0, 0, 0), (7, .goto 7, 10, 14, 0, 0), (10, .getstatic 43, 13, 1, 0, 1073), (13, .arraylength, 14, 0, 0, 0), (14, .ireturn, 15, 0, 0, 0)]
noncomputable abbrev md_Nu_primesIn : pm_M := (⟨"TurnField$Numbers", "primesIn", "(I)I"⟩, prog_4_method_16_code, 1, (some .int), false, [1, 1072, 128, 1071, 0], cd_Nu_primesIn)
noncomputable def cd_Nu_powerWithout : List pm_I := [(0, .lload_n 0, 1, 0, 0, 0), (1, .lstore 4, 3, 0, 0, 0), (3, .iconst 0, 4, 0, 0, 0), (4, .istore 6, 6, 0, 0, 0), (6, .iload 6, 8, 0, 0, 0), (8, .iload_n 2, 9, 0, 0, 0), (9, .invokestatic 46, 12, 34, 1, 1070), (12, .if_icmp .ge 28, 15, 40, 0, 0), (15, .iload 6, 17, 0, 0, 0), (17, .iload_n 3, 18, 0, 0, 0), (18, .if_icmp .eq 16, 21, 34, 0, 0), (21, .lload 4, 23, 0, 0, 0), (23, .getstatic 43, 26, 1, 0, 1073), (26, .iload 6, 28, 0, 0, 0), (28, .laload, 29, 0, 0, 0), (29, .invokestatic 50, 32, 33, 2, 1078), (32, .lstore 4, 34, 0, 0, 0), (34, .iinc 6 1, 37, 0, 0, 0), (37, .goto (-31), 40, 6, 0, 0), (40, .lload 4, 42, 0, 0, 0), (42, .lreturn, 43, 0, 0, 0)]
noncomputable abbrev md_Nu_powerWithout : pm_M := (⟨"TurnField$Numbers", "powerWithout", "(JII)J"⟩, prog_4_method_17_code, 7, (some .long), false, [1, 1077, 128, 1076, 0], cd_Nu_powerWithout)
noncomputable def cd_Nu_orderOf : List pm_I := [(0, .lload_n 0, 1, 0, 0, 0), (1, .lconst 0, 2, 0, 0, 0), (2, .lcmp, 3, 0, 0, 0), (3, .ifCond .ne 5, 6, 8, 0, 0), (6, .lconst 0, 7, 0, 0, 0), (7, .lreturn, 8, 0, 0, 0), (8, .lload_n 0, 9, 0, 0, 0), (9, .invokestatic 53, 12, 21, 1, 1105), (12, .istore_n 2, 13, 0, 0, 0), (13, .lconst 1, 14, 0, 0, 0), (14, .lstore_n 3, 15, 0, 0, 0), (15, .iconst 0, 16, 0, 0, 0), (16, .istore 5, 18, 0, 0, 0), (18, .iload 5, 20, 0, 0, 0), (20, .iload_n 2, 21, 0, 0, 0), (21, .invokestatic 46, 24, 34, 1, 1070), (24, .if_icmp .ge 30, 27, 54, 0, 0), (27, .lload_n 0, 28, 0, 0, 0), (28, .iload_n 2, 29, 0, 0, 0), (29, .iload 5, 31, 0, 0, 0), (31, .invokestatic 57, 34, 35, 3, 1075), (34, .lconst 1, 35, 0, 0, 0), (35, .lcmp, 36, 0, 0, 0), (36, .ifCond .eq 12, 39, 48, 0, 0), (39, .lload_n 3, 40, 0, 0, 0), (40, .getstatic 43, 43, 1, 0, 1073), (43, .iload 5, 45, 0, 0, 0), (45, .laload, 46, 0, 0, 0), (46, .lmul, 47, 0, 0, 0), (47, .lstore_n 3, 48, 0, 0, 0), (48, .iinc 5 1, 51, 0, 0, 0), (51, .goto (-33), 54, 18, 0, 0), (54, .lload_n 3, 55, 0, 0, 0), (55, .lreturn, 56, 0, 0, 0)]
noncomputable abbrev md_Nu_orderOf : pm_M := (⟨"TurnField$Numbers", "orderOf", "(J)J"⟩, prog_4_method_18_code, 6, (some .long), false, [1, 1104, 128, 1103, 0], cd_Nu_orderOf)
noncomputable def cd_Nu_fullCount : List pm_I := [(0, .lconst 1, 1, 0, 0, 0), (1, .lstore_n 1, 2, 0, 0, 0), (2, .iconst 0, 3, 0, 0, 0), (3, .istore_n 3, 4, 0, 0, 0), (4, .iload_n 3, 5, 0, 0, 0), (5, .iload_n 0, 6, 0, 0, 0), (6, .invokestatic 46, 9, 34, 1, 1070), (9, .if_icmp .ge 19, 12, 28, 0, 0), (12, .lload_n 1, 13, 0, 0, 0), (13, .getstatic 43, 16, 1, 0, 1073), (16, .iload_n 3, 17, 0, 0, 0), (17, .laload, 18, 0, 0, 0), (18, .lconst 1, 19, 0, 0, 0), (19, .lsub, 20, 0, 0, 0), (20, .lmul, 21, 0, 0, 0), (21, .lstore_n 1, 22, 0, 0, 0), (22, .iinc 3 1, 25, 0, 0, 0), (25, .goto (-21), 28, 4, 0, 0), (28, .lload_n 1, 29, 0, 0, 0), (29, .lreturn, 30, 0, 0, 0)]
noncomputable abbrev md_Nu_fullCount : pm_M := (⟨"TurnField$Numbers", "fullCount", "(I)J"⟩, prog_4_method_19_code, 4, (some .long), false, [1, 1081, 128, 1080, 0], cd_Nu_fullCount)
noncomputable def cd_Nu_leastFull : List pm_I := [(0, .iload_n 0, 1, 0, 0, 0), (1, .ifCond .gt 5, 4, 6, 0, 0), (4, .lconst 1, 5, 0, 0, 0), (5, .lreturn, 6, 0, 0, 0), (6, .lconst 1, 7, 0, 0, 0), (7, .iconst 1, 8, 0, 0, 0), (8, .iload_n 0, 9, 0, 0, 0), (9, .iconst 1, 10, 0, 0, 0), (10, .isub, 11, 0, 0, 0), (11, .ishl, 12, 0, 0, 0), (12, .lshl, 13, 0, 0, 0), (13, .lstore_n 1, 14, 0, 0, 0), (14, .iconst 0, 15, 0, 0, 0), (15, .istore_n 3, 16, 0, 0, 0), (16, .iload_n 3, 17, 0, 0, 0), (17, .ldc 61, 19, 2, 0, 1066), (19, .if_icmp .ge 25, 22, 44, 0, 0), (22, .lload_n 1, 23, 0, 0, 0), (23, .iload_n 3, 24, 0, 0, 0), (24, .i2l, 25, 0, 0, 0), (25, .ladd, 26, 0, 0, 0), (26, .iload_n 0, 27, 0, 0, 0), (27, .invokestatic 62, 30, 39, 2, 1067), (30, .ifCond .eq 8, 33, 38, 0, 0), (33, .lload_n 1, 34, 0, 0, 0), (34, .iload_n 3, 35, 0, 0, 0), (35, .i2l, 36, 0, 0, 0), (36, .ladd, 37, 0, 0, 0), (37, .lreturn, 38, 0, 0, 0), (38, .iinc 3 1, 41, 0, 0, 0), (41, .goto (-25), 44, 16, 0, 0), (44, .lconst 0, 45, 0, 0, 0), (45, .lreturn, 46, 0, 0, 0)]
noncomputable abbrev md_Nu_leastFull : pm_M := (⟨"TurnField$Numbers", "leastFull", "(I)J"⟩, prog_4_method_20_code, 4, (some .long), false, [1, 1065, 128, 1064, 0], cd_Nu_leastFull)
noncomputable def cd_Nu_isFull : List pm_I := [(0, .iconst 0, 1, 0, 0, 0), (1, .istore_n 3, 2, 0, 0, 0), (2, .iload_n 3, 3, 0, 0, 0), (3, .iload_n 2, 4, 0, 0, 0), (4, .invokestatic 46, 7, 34, 1, 1070), (7, .if_icmp .ge 22, 10, 29, 0, 0), (10, .lload_n 0, 11, 0, 0, 0), (11, .iload_n 2, 12, 0, 0, 0), (12, .iload_n 3, 13, 0, 0, 0), (13, .invokestatic 57, 16, 35, 3, 1075), (16, .lconst 1, 17, 0, 0, 0), (17, .lcmp, 18, 0, 0, 0), (18, .ifCond .ne 5, 21, 23, 0, 0), (21, .iconst 0, 22, 0, 0, 0), (22, .ireturn, 23, 0, 0, 0), (23, .iinc 3 1, 26, 0, 0, 0), (26, .goto (-24), 29, 2, 0, 0), (29, .iconst 1, 30, 0, 0, 0), (30, .ireturn, 31, 0, 0, 0)]
noncomputable abbrev md_Nu_isFull : pm_M := (⟨"TurnField$Numbers", "isFull", "(JI)Z"⟩, prog_4_method_21_code, 4, (some .boolean), false, [1, 1069, 128, 1068, 0], cd_Nu_isFull)
noncomputable def cd_Nu_logarithm : List pm_I := [(0, .lload_n 0, 1, 0, 0, 0), (1, .lconst 1, 2, 0, 0, 0), (2, .lcmp, 3, 0, 0, 0), (3, .ifCond .ne 5, 6, 8, 0, 0), (6, .iconst 0, 7, 0, 0, 0), (7, .ireturn, 8, 0, 0, 0), (8, .lload_n 0, 9, 0, 0, 0), (9, .lconst 0, 10, 0, 0, 0), (10, .lcmp, 11, 0, 0, 0), (11, .ifCond .eq 9, 14, 20, 0, 0), (14, .lload_n 2, 15, 0, 0, 0), (15, .lconst 0, 16, 0, 0, 0), (16, .lcmp, 17, 0, 0, 0), (17, .ifCond .ne 15, 20, 32, 0, 0), (20, .lload_n 0, 21, 0, 0, 0), (21, .lload_n 2, 22, 0, 0, 0), (22, .lcmp, 23, 0, 0, 0), (23, .ifCond .ne 7, 26, 30, 0, 0), (26, .iconst 1, 27, 0, 0, 0), (27, .goto 4, 30, 31, 0, 0), (30, .iconst (-1), 31, 0, 0, 0), (31, .ireturn, 32, 0, 0, 0), (32, .lload_n 2, 33, 0, 0, 0), (33, .invokestatic 66, 36, 36, 1, 1169), (36, .lstore 4, 38, 0, 0, 0), (38, .lload_n 0, 39, 0, 0, 0), (39, .lload 4, 41, 0, 0, 0), (41, .invokestatic 50, 44, 33, 2, 1078), (44, .lconst 1, 45, 0, 0, 0), (45, .lcmp, 46, 0, 0, 0), (46, .ifCond .eq 5, 49, 51, 0, 0), (49, .iconst (-1), 50, 0, 0, 0), (50, .ireturn, 51, 0, 0, 0), (51, .lconst 0, 52, 0, 0, 0), (52, .lstore 6, 54, 0, 0, 0), (54, .lconst 1, 55, 0, 0, 0), (55, .lstore 8, 57, 0, 0, 0), (57, .iconst 0, 58, 0, 0, 0), (58, .istore 10, 60, 0, 0, 0), (60, .iload 10, 62, 0, 0, 0), (62, .iconst 4, 63, 0, 0, 0), (63, .if_icmp .ge 73, 66, 136, 0, 0), (66, .getstatic 43, 69, 1, 0, 1073), (69, .iload 10, 71, 0, 0, 0), (71, .laload, 72, 0, 0, 0), (72, .lstore 11, 74, 0, 0, 0), (74, .lload 4, 76, 0, 0, 0), (76, .lload 11, 78, 0, 0, 0), (78, .lrem, 79, 0, 0, 0), (79, .lconst 0, 80, 0, 0, 0), (80, .lcmp, 81, 0, 0, 0), (81, .ifCond .ne 49, 84, 130, 0, 0), (84, .lload 4, 86, 0, 0, 0), (86, .lload 11, 88, 0, 0, 0), (88, .ldiv, 89, 0, 0, 0), (89, .lstore 13, 91, 0, 0, 0), (91, .lload_n 0, 92, 0, 0, 0), (92, .lload 13, 94, 0, 0, 0), (94, .invokestatic 50, 97, 33, 2, 1078), (97, .lload_n 2, 98, 0, 0, 0), (98, .lload 13, 100, 0, 0, 0), (100, .invokestatic 50, 103, 33, 2, 1078), (103, .lload 11, 105, 0, 0, 0), (105, .invokestatic 69, 108, 41, 3, 1170), (108, .lstore 15, 110, 0, 0, 0), (110, .lload 6, 112, 0, 0, 0), (112, .lload 8, 114, 0, 0, 0), (114, .lload 15, 116, 0, 0, 0), (116, .lload 11, 118, 0, 0, 0), (118, .invokestatic 73, 121, 42, 4, 1173), (121, .lstore 6, 123, 0, 0, 0), (123, .lload 8, 125, 0, 0, 0), (125, .lload 11, 127, 0, 0, 0), (127, .lmul, 128, 0, 0, 0), (128, .lstore 8, 130, 0, 0, 0), (130, .iinc 10 1, 133, 0, 0, 0), (133, .goto (-73), 136, 60, 0, 0), (136, .lload 6, 138, 0, 0, 0), (138, .l2i, 139, 0, 0, 0), (139, .ireturn, 140, 0, 0, 0)]
noncomputable abbrev md_Nu_logarithm : pm_M := (⟨"TurnField$Numbers", "logarithm", "(JJ)I"⟩, prog_4_method_22_code, 17, (some .int), false, [1, 1168, 128, 1167, 0], cd_Nu_logarithm)
noncomputable def cd_Nu_restOf : List pm_I := [(0, .lconst 1, 1, 0, 0, 0), (1, .lstore 6, 3, 0, 0, 0), (3, .lconst 0, 4, 0, 0, 0), (4, .lstore 8, 6, 0, 0, 0), (6, .lload 8, 8, 0, 0, 0), (8, .lload 4, 10, 0, 0, 0), (10, .lcmp, 11, 0, 0, 0), (11, .ifCond .ge 30, 14, 41, 0, 0), (14, .lload 6, 16, 0, 0, 0), (16, .lload_n 0, 17, 0, 0, 0), (17, .lcmp, 18, 0, 0, 0), (18, .ifCond .ne 6, 21, 24, 0, 0), (21, .lload 8, 23, 0, 0, 0), (23, .lreturn, 24, 0, 0, 0), (24, .lload 6, 26, 0, 0, 0), (26, .lload_n 2, 27, 0, 0, 0), (27, .invokestatic 32, 30, 22, 2, 782), (30, .lstore 6, 32, 0, 0, 0), (32, .lload 8, 34, 0, 0, 0), (34, .lconst 1, 35, 0, 0, 0), (35, .ladd, 36, 0, 0, 0), (36, .lstore 8, 38, 0, 0, 0), (38, .goto (-32), 41, 6, 0, 0), (41, .lconst 0, 42, 0, 0, 0), (42, .lreturn, 43, 0, 0, 0)]
noncomputable abbrev md_Nu_restOf : pm_M := (⟨"TurnField$Numbers", "restOf", "(JJJ)J"⟩, prog_4_method_23_code, 10, (some .long), false, [1, 1172, 128, 1171, 0], cd_Nu_restOf)
noncomputable def cd_Nu_joined : List pm_I := [(0, .lload_n 0, 1, 0, 0, 0), (1, .lstore 8, 3, 0, 0, 0), (3, .lconst 0, 4, 0, 0, 0), (4, .lstore 10, 6, 0, 0, 0), (6, .lload 10, 8, 0, 0, 0), (8, .lload 6, 10, 0, 0, 0), (10, .lcmp, 11, 0, 0, 0), (11, .ifCond .ge 32, 14, 43, 0, 0), (14, .lload 8, 16, 0, 0, 0), (16, .lload 6, 18, 0, 0, 0), (18, .lrem, 19, 0, 0, 0), (19, .lload 4, 21, 0, 0, 0), (21, .lcmp, 22, 0, 0, 0), (22, .ifCond .ne 6, 25, 28, 0, 0), (25, .lload 8, 27, 0, 0, 0), (27, .lreturn, 28, 0, 0, 0), (28, .lload 8, 30, 0, 0, 0), (30, .lload_n 2, 31, 0, 0, 0), (31, .ladd, 32, 0, 0, 0), (32, .lstore 8, 34, 0, 0, 0), (34, .lload 10, 36, 0, 0, 0), (36, .lconst 1, 37, 0, 0, 0), (37, .ladd, 38, 0, 0, 0), (38, .lstore 10, 40, 0, 0, 0), (40, .goto (-34), 43, 6, 0, 0), (43, .lload 8, 45, 0, 0, 0), (45, .lreturn, 46, 0, 0, 0)]
noncomputable abbrev md_Nu_joined : pm_M := (⟨"TurnField$Numbers", "joined", "(JJJJ)J"⟩, prog_4_method_24_code, 12, (some .long), false, [1, 1175, 128, 1174, 0], cd_Nu_joined)
noncomputable def cd_Pa_init : List pm_I := [(0, .aload_n 0, 1, 0, 0, 0), (1, .invokespecial 1, 4, 1000, 1, 215), (4, .aload_n 0, 5, 0, 0, 0), (5, .bipush 10, 7, 0, 0, 0), (7, .anewarray 9, 10, 4, 0, 216), (10, .putfield 11, 13, 2, 0, 219), (13, .aload_n 0, 14, 0, 0, 0), (14, .iconst 0, 15, 0, 0, 0), (15, .putfield 15, 18, 2, 1, 220), (18, .aload_n 0, 19, 0, 0, 0), (19, .iconst 0, 20, 0, 0, 0), (20, .putfield 19, 23, 2, 2, 221), (23, .iconst 0, 24, 0, 0, 0), (24, .istore_n 1, 25, 0, 0, 0), (25, .iload_n 1, 26, 0, 0, 0), (26, .aload_n 0, 27, 0, 0, 0), (27, .getfield 11, 30, 2, 0, 219), (30, .arraylength, 31, 0, 0, 0), (31, .if_icmp .ge 22, 34, 53, 0, 0), (34, .aload_n 0, 35, 0, 0, 0), (35, .getfield 11, 38, 2, 0, 219), (38, .iload_n 1, 39, 0, 0, 0), (39, .new 9, 42, 5, 0, 216), (42, .dup, 43, 0, 0, 0), (43, .invokespecial 22, 46, 78, 1, 218), (46, .aastore, 47, 0, 0, 0), (47, .iinc 1 1, 50, 0, 0, 0), (50, .goto (-25), 53, 25, 0, 0), (53, .return_, 54, 0, 0, 0)]
noncomputable abbrev md_Pa_init : pm_M := (⟨"TurnField$Past", "<init>", "()V"⟩, prog_5_method_1_code, 2, none, true, [2, 214, 111, 213, 0], cd_Pa_init)
noncomputable def cd_Pa_push : List pm_I := [(0, .aload_n 0, 1, 0, 0, 0), (1, .getfield 11, 4, 2, 0, 219), (4, .aload_n 0, 5, 0, 0, 0), (5, .getfield 15, 8, 2, 1, 220), (8, .aaload, 9, 0, 0, 0), (9, .aload_n 1, 10, 0, 0, 0), (10, .invokevirtual 23, 13, 80, 2, 619), (13, .aload_n 0, 14, 0, 0, 0), (14, .aload_n 0, 15, 0, 0, 0), (15, .getfield 15, 18, 2, 1, 220), (18, .iconst 1, 19, 0, 0, 0), (19, .iadd, 20, 0, 0, 0), (20, .bipush 10, 22, 0, 0, 0), (22, .if_icmp .ge 12, 25, 34, 0, 0), (25, .aload_n 0, 26, 0, 0, 0), (26, .getfield 15, 29, 2, 1, 220), (29, .iconst 1, 30, 0, 0, 0), (30, .iadd, 31, 0, 0, 0), (31, .goto 4, 34, 35, 0, 0), (34, .iconst 0, 35, 0, 0, 0), (35, .putfield 15, 38, 2, 1, 220), (38, .aload_n 0, 39, 0, 0, 0), (39, .aload_n 0, 40, 0, 0, 0), (40, .getfield 19, 43, 2, 2, 221), (43, .bipush 10, 45, 0, 0, 0), (45, .if_icmp .ge 12, 48, 57, 0, 0), (48, .aload_n 0, 49, 0, 0, 0), (49, .getfield 19, 52, 2, 2, 221), (52, .iconst 1, 53, 0, 0, 0), (53, .iadd, 54, 0, 0, 0), (54, .goto 5, 57, 59, 0, 0), (57, .bipush 10, 59, 0, 0, 0), (59, .putfield 19, 62, 2, 2, 221), (62, .return_, 63, 0, 0, 0)]
noncomputable abbrev md_Pa_push : pm_M := (⟨"TurnField$Past", "push", "(LTurnField$Position;)V"⟩, prog_5_method_2_code, 2, none, false, [0, 618, 111, 616, 617], cd_Pa_push)
noncomputable def cd_Pa_newest : List pm_I := [(0, .aload_n 0, 1, 0, 0, 0), (1, .getfield 15, 4, 2, 1, 220), (4, .ifCond .le 12, 7, 16, 0, 0), (7, .aload_n 0, 8, 0, 0, 0), (8, .getfield 15, 11, 2, 1, 220), (11, .iconst 1, 12, 0, 0, 0), (12, .isub, 13, 0, 0, 0), (13, .goto 5, 16, 18, 0, 0), (16, .bipush 9, 18, 0, 0, 0), (18, .ireturn, 19, 0, 0, 0)]
noncomputable abbrev md_Pa_newest : pm_M := (⟨"TurnField$Past", "newest", "()I"⟩, prog_5_method_3_code, 1, (some .int), false, [0, 803, 111, 802, 14], cd_Pa_newest)
noncomputable def cd_Pa_last : List pm_I := [(0, .aload_n 0, 1, 0, 0, 0), (1, .getfield 11, 4, 2, 0, 219), (4, .aload_n 0, 5, 0, 0, 0), (5, .invokevirtual 27, 8, 45, 1, 800), (8, .aaload, 9, 0, 0, 0), (9, .areturn, 10, 0, 0, 0)]
noncomputable abbrev md_Pa_last : pm_M := (⟨"TurnField$Past", "last", "()LTurnField$Position;"⟩, prog_5_method_4_code, 1, (some (.object "TurnField$Position")), false, [0, 849, 111, 847, 848], cd_Pa_last)
noncomputable def cd_Pa_pop : List pm_I := [(0, .aload_n 0, 1, 0, 0, 0), (1, .getfield 19, 4, 2, 2, 221), (4, .ifCond .le 34, 7, 38, 0, 0), (7, .aload_n 0, 8, 0, 0, 0), (8, .aload_n 0, 9, 0, 0, 0), (9, .invokevirtual 27, 12, 45, 1, 800), (12, .putfield 15, 15, 2, 1, 220), (15, .aload_n 0, 16, 0, 0, 0), (16, .dup, 17, 0, 0, 0), (17, .getfield 19, 20, 2, 2, 221), (20, .iconst 1, 21, 0, 0, 0), (21, .isub, 22, 0, 0, 0), (22, .putfield 19, 25, 2, 2, 221), (25, .aload_n 1, 26, 0, 0, 0), (26, .aload_n 0, 27, 0, 0, 0), (27, .getfield 11, 30, 2, 0, 219), (30, .aload_n 0, 31, 0, 0, 0), (31, .getfield 15, 34, 2, 1, 220), (34, .aaload, 35, 0, 0, 0), (35, .invokevirtual 23, 38, 80, 2, 619), (38, .return_, 39, 0, 0, 0)]
noncomputable abbrev md_Pa_pop : pm_M := (⟨"TurnField$Past", "pop", "(LTurnField$Position;)V"⟩, prog_5_method_5_code, 2, none, false, [0, 799, 111, 797, 798], cd_Pa_pop)
noncomputable def cd_Pl_init : List pm_I := [(0, .aload_n 0, 1, 0, 0, 0), (1, .invokespecial 1, 4, 1000, 1, 262), (4, .aload_n 0, 5, 0, 0, 0), (5, .new 7, 8, 6, 0, 263), (8, .dup, 9, 0, 0, 0), (9, .invokespecial 9, 12, 95, 1, 265), (12, .putfield 10, 15, 3, 0, 289), (15, .aload_n 0, 16, 0, 0, 0), (16, .new 7, 19, 6, 0, 263), (19, .dup, 20, 0, 0, 0), (20, .invokespecial 9, 23, 95, 1, 265), (23, .putfield 16, 26, 3, 1, 290), (26, .aload_n 0, 27, 0, 0, 0), (27, .sipush 4096, 30, 0, 0, 0), (30, .newarray .int, 32, 0, 0, 0), (32, .putfield 19, 35, 3, 2, 291), (35, .aload_n 0, 36, 0, 0, 0), (36, .iconst (-1), 37, 0, 0, 0), (37, .putfield 23, 40, 3, 3, 292), (40, .aload_n 0, 41, 0, 0, 0), (41, .iconst 0, 42, 0, 0, 0), (42, .putfield 27, 45, 3, 4, 293), (45, .aload_n 0, 46, 0, 0, 0), (46, .iconst 0, 47, 0, 0, 0), (47, .putfield 30, 50, 3, 5, 295), (50, .aload_n 0, 51, 0, 0, 0), (51, .iconst 0, 52, 0, 0, 0), (52, .putfield 33, 55, 3, 6, 297), (55, .return_, 56, 0, 0, 0)]
noncomputable abbrev md_Pl_init : pm_M := (⟨"TurnField$Play", "<init>", "()V"⟩, prog_6_method_1_code, 1, none, true, [2, 261, 113, 260, 0], cd_Pl_init)
noncomputable def cd_Pl_tune : List pm_I := [(0, .aload_n 1, 1, 0, 0, 0), (1, .invokevirtual 36, 4, 90, 1, 655), (4, .istore_n 2, 5, 0, 0, 0), (5, .aload_n 0, 6, 0, 0, 0), (6, .getfield 23, 9, 3, 3, 292), (9, .iload_n 2, 10, 0, 0, 0), (10, .if_icmp .ne 4, 13, 14, 0, 0), (13, .return_, 14, 0, 0, 0), (14, .aload_n 0, 15, 0, 0, 0), (15, .iload_n 2, 16, 0, 0, 0), (16, .putfield 23, 19, 3, 3, 292), (19, .aload_n 0, 20, 0, 0, 0), (20, .getfield 10, 23, 3, 0, 289), (23, .aload_n 1, 24, 0, 0, 0), (24, .getfield 42, 27, 5, 2, 154), (27, .aload_n 1, 28, 0, 0, 0), (28, .getfield 45, 31, 5, 4, 162), (31, .invokevirtual 48, 34, 96, 3, 659), (34, .aload_n 0, 35, 0, 0, 0), (35, .getfield 16, 38, 3, 1, 290), (38, .aload_n 1, 39, 0, 0, 0), (39, .getfield 52, 42, 5, 3, 158), (42, .aload_n 1, 43, 0, 0, 0), (43, .getfield 55, 46, 5, 5, 166), (46, .invokevirtual 48, 49, 96, 3, 659), (49, .iconst 1, 50, 0, 0, 0), (50, .istore_n 3, 51, 0, 0, 0), (51, .iload_n 3, 52, 0, 0, 0), (52, .bipush 64, 54, 0, 0, 0), (54, .if_icmp .ge 68, 57, 122, 0, 0), (57, .iconst 1, 58, 0, 0, 0), (58, .istore 4, 60, 0, 0, 0), (60, .iload 4, 62, 0, 0, 0), (62, .bipush 64, 64, 0, 0, 0), (64, .if_icmp .ge 51, 67, 115, 0, 0), (67, .aload_n 0, 68, 0, 0, 0), (68, .getfield 10, 71, 3, 0, 289), (71, .iload_n 3, 72, 0, 0, 0), (72, .invokestatic 58, 75, 50, 2, 685), (75, .i2l, 76, 0, 0, 0), (76, .aload_n 0, 77, 0, 0, 0), (77, .getfield 16, 80, 3, 1, 290), (80, .iload 4, 82, 0, 0, 0), (82, .invokestatic 58, 85, 50, 2, 685), (85, .i2l, 86, 0, 0, 0), (86, .invokestatic 62, 89, 22, 2, 693), (89, .lstore 5, 91, 0, 0, 0), (91, .aload_n 0, 92, 0, 0, 0), (92, .getfield 19, 95, 3, 2, 291), (95, .iload_n 3, 96, 0, 0, 0), (96, .bipush 64, 98, 0, 0, 0), (98, .imul, 99, 0, 0, 0), (99, .iload 4, 101, 0, 0, 0), (101, .iadd, 102, 0, 0, 0), (102, .lload 5, 104, 0, 0, 0), (104, .l2i, 105, 0, 0, 0), (105, .iastore, 106, 0, 0, 0), (106, .iload 4, 108, 0, 0, 0), (108, .iconst 1, 109, 0, 0, 0), (109, .ishl, 110, 0, 0, 0), (110, .istore 4, 112, 0, 0, 0), (112, .goto (-52), 115, 60, 0, 0), (115, .iload_n 3, 116, 0, 0, 0), (116, .iconst 1, 117, 0, 0, 0), (117, .ishl, 118, 0, 0, 0), (118, .istore_n 3, 119, 0, 0, 0), (119, .goto (-68), 122, 51, 0, 0), (122, .aload_n 0, 123, 0, 0, 0), (123, .invokevirtual 68, 126, 51, 1, 711), (126, .return_, 127, 0, 0, 0)]
noncomputable abbrev md_Pl_tune : pm_M := (⟨"TurnField$Play", "tune", "(LTurnField$Position;)V"⟩, prog_6_method_2_code, 7, none, false, [0, 654, 113, 652, 653], cd_Pl_tune)
noncomputable def cd_Pl_worthOfBit : List pm_I := [(0, .aload_n 0, 1, 0, 0, 0), (1, .iload_n 1, 2, 0, 0, 0), (2, .iconst 1, 3, 0, 0, 0), (3, .isub, 4, 0, 0, 0), (4, .invokestatic 71, 7, 318, 1, 688), (7, .invokevirtual 77, 10, 101, 2, 689), (10, .ireturn, 11, 0, 0, 0)]
noncomputable abbrev md_Pl_worthOfBit : pm_M := (⟨"TurnField$Play", "worthOfBit", "(LTurnField$Rule;I)I"⟩, prog_6_method_3_code, 2, (some .int), false, [1, 687, 113, 686, 0], cd_Pl_worthOfBit)
noncomputable def cd_Pl_joinEffects : List pm_I := [(0, .iconst 1, 1, 0, 0, 0), (1, .istore_n 1, 2, 0, 0, 0), (2, .iload_n 1, 3, 0, 0, 0), (3, .bipush 64, 5, 0, 0, 0), (5, .if_icmp .ge 102, 8, 107, 0, 0), (8, .iload_n 1, 9, 0, 0, 0), (9, .iload_n 1, 10, 0, 0, 0), (10, .ineg, 11, 0, 0, 0), (11, .iand, 12, 0, 0, 0), (12, .istore_n 2, 13, 0, 0, 0), (13, .iconst 1, 14, 0, 0, 0), (14, .istore_n 3, 15, 0, 0, 0), (15, .iload_n 3, 16, 0, 0, 0), (16, .bipush 64, 18, 0, 0, 0), (18, .if_icmp .ge 83, 21, 101, 0, 0), (21, .iload_n 3, 22, 0, 0, 0), (22, .iload_n 3, 23, 0, 0, 0), (23, .ineg, 24, 0, 0, 0), (24, .iand, 25, 0, 0, 0), (25, .istore 4, 27, 0, 0, 0), (27, .iload_n 1, 28, 0, 0, 0), (28, .iload_n 2, 29, 0, 0, 0), (29, .if_icmp .eq 32, 32, 61, 0, 0), (32, .aload_n 0, 33, 0, 0, 0), (33, .getfield 19, 36, 3, 2, 291), (36, .iload_n 1, 37, 0, 0, 0), (37, .bipush 64, 39, 0, 0, 0), (39, .imul, 40, 0, 0, 0), (40, .iload_n 3, 41, 0, 0, 0), (41, .iadd, 42, 0, 0, 0), (42, .aload_n 0, 43, 0, 0, 0), (43, .iload_n 2, 44, 0, 0, 0), (44, .iload_n 3, 45, 0, 0, 0), (45, .invokevirtual 80, 48, 52, 3, 715), (48, .aload_n 0, 49, 0, 0, 0), (49, .iload_n 1, 50, 0, 0, 0), (50, .iload_n 2, 51, 0, 0, 0), (51, .ixor, 52, 0, 0, 0), (52, .iload_n 3, 53, 0, 0, 0), (53, .invokevirtual 80, 56, 52, 3, 715), (56, .ixor, 57, 0, 0, 0), (57, .iastore, 58, 0, 0, 0), (58, .goto 37, 61, 95, 0, 0), (61, .iload_n 3, 62, 0, 0, 0), (62, .iload 4, 64, 0, 0, 0), (64, .if_icmp .eq 31, 67, 95, 0, 0), (67, .aload_n 0, 68, 0, 0, 0), (68, .getfield 19, 71, 3, 2, 291), (71, .iload_n 1, 72, 0, 0, 0), (72, .bipush 64, 74, 0, 0, 0), (74, .imul, 75, 0, 0, 0), (75, .iload_n 3, 76, 0, 0, 0), (76, .iadd, 77, 0, 0, 0), (77, .aload_n 0, 78, 0, 0, 0), (78, .iload_n 2, 79, 0, 0, 0), (79, .iload 4, 81, 0, 0, 0), (81, .invokevirtual 80, 84, 52, 3, 715), (84, .aload_n 0, 85, 0, 0, 0), (85, .iload_n 2, 86, 0, 0, 0), (86, .iload_n 3, 87, 0, 0, 0), (87, .iload 4, 89, 0, 0, 0), (89, .ixor, 90, 0, 0, 0), (90, .invokevirtual 80, 93, 52, 3, 715), (93, .ixor, 94, 0, 0, 0), (94, .iastore, 95, 0, 0, 0), (95, .iinc 3 1, 98, 0, 0, 0), (98, .goto (-83), 101, 15, 0, 0), (101, .iinc 1 1, 104, 0, 0, 0), (104, .goto (-102), 107, 2, 0, 0), (107, .return_, 108, 0, 0, 0)]
noncomputable abbrev md_Pl_joinEffects : pm_M := (⟨"TurnField$Play", "joinEffects", "()V"⟩, prog_6_method_4_code, 5, none, false, [0, 714, 113, 713, 11], cd_Pl_joinEffects)
noncomputable def cd_Pl_effectOf : List pm_I := [(0, .aload_n 0, 1, 0, 0, 0), (1, .getfield 19, 4, 3, 2, 291), (4, .iload_n 1, 5, 0, 0, 0), (5, .bipush 63, 7, 0, 0, 0), (7, .iand, 8, 0, 0, 0), (8, .bipush 64, 10, 0, 0, 0), (10, .imul, 11, 0, 0, 0), (11, .iload_n 2, 12, 0, 0, 0), (12, .bipush 63, 14, 0, 0, 0), (14, .iand, 15, 0, 0, 0), (15, .iadd, 16, 0, 0, 0), (16, .iaload, 17, 0, 0, 0), (17, .ireturn, 18, 0, 0, 0)]
noncomputable abbrev md_Pl_effectOf : pm_M := (⟨"TurnField$Play", "effectOf", "(II)I"⟩, prog_6_method_5_code, 3, (some .int), false, [0, 718, 113, 716, 717], cd_Pl_effectOf)
noncomputable def cd_Pl_ruleOf : List pm_I := [(0, .iload_n 1, 1, 0, 0, 0), (1, .ifCond .ne 10, 4, 11, 0, 0), (4, .aload_n 0, 5, 0, 0, 0), (5, .getfield 10, 8, 3, 0, 289), (8, .goto 7, 11, 15, 0, 0), (11, .aload_n 0, 12, 0, 0, 0), (12, .getfield 16, 15, 3, 1, 290), (15, .areturn, 16, 0, 0, 0)]
noncomputable abbrev md_Pl_ruleOf : pm_M := (⟨"TurnField$Play", "ruleOf", "(I)LTurnField$Rule;"⟩, prog_6_method_6_code, 2, (some (.object "TurnField$Rule")), false, [0, 1237, 113, 1235, 1236], cd_Pl_ruleOf)
noncomputable def cd_Pl_boardWorth : List pm_I := [(0, .iconst 0, 1, 0, 0, 0), (1, .istore_n 2, 2, 0, 0, 0), (2, .iconst 0, 3, 0, 0, 0), (3, .istore_n 3, 4, 0, 0, 0), (4, .iload_n 3, 5, 0, 0, 0), (5, .aload_n 1, 6, 0, 0, 0), (6, .getfield 84, 9, 5, 0, 147), (9, .if_icmp .ge 24, 12, 33, 0, 0), (12, .iload_n 2, 13, 0, 0, 0), (13, .aload_n 0, 14, 0, 0, 0), (14, .iconst 1, 15, 0, 0, 0), (15, .iload_n 3, 16, 0, 0, 0), (16, .ishl, 17, 0, 0, 0), (17, .aload_n 1, 18, 0, 0, 0), (18, .iload_n 3, 19, 0, 0, 0), (19, .invokevirtual 87, 22, 87, 2, 755), (22, .invokevirtual 80, 25, 52, 3, 715), (25, .ixor, 26, 0, 0, 0), (26, .istore_n 2, 27, 0, 0, 0), (27, .iinc 3 1, 30, 0, 0, 0), (30, .goto (-26), 33, 4, 0, 0), (33, .iload_n 2, 34, 0, 0, 0), (34, .ireturn, 35, 0, 0, 0)]
noncomputable abbrev md_Pl_boardWorth : pm_M := (⟨"TurnField$Play", "boardWorth", "(LTurnField$Position;)I"⟩, prog_6_method_7_code, 4, (some .int), false, [0, 754, 113, 752, 753], cd_Pl_boardWorth)
noncomputable def cd_Pl_areSets : List pm_I := [(0, .aload_n 0, 1, 0, 0, 0), (1, .getfield 10, 4, 3, 0, 289), (4, .iload_n 1, 5, 0, 0, 0), (5, .invokevirtual 90, 8, 99, 2, 727), (8, .ifCond .eq 18, 11, 26, 0, 0), (11, .aload_n 0, 12, 0, 0, 0), (12, .getfield 16, 15, 3, 1, 290), (15, .iload_n 2, 16, 0, 0, 0), (16, .invokevirtual 90, 19, 99, 2, 727), (19, .ifCond .eq 7, 22, 26, 0, 0), (22, .iconst 1, 23, 0, 0, 0), (23, .goto 4, 26, 27, 0, 0), (26, .iconst 0, 27, 0, 0, 0), (27, .ireturn, 28, 0, 0, 0)]
noncomputable abbrev md_Pl_areSets : pm_M := (⟨"TurnField$Play", "areSets", "(II)Z"⟩, prog_6_method_8_code, 3, (some .boolean), false, [0, 726, 113, 724, 725], cd_Pl_areSets)
noncomputable def cd_Pl_mayBe : List pm_I := [(0, .aload_n 0, 1, 0, 0, 0), (1, .iload_n 2, 2, 0, 0, 0), (2, .iload_n 3, 3, 0, 0, 0), (3, .invokevirtual 94, 6, 55, 3, 723), (6, .ifCond .ne 5, 9, 11, 0, 0), (9, .iconst 0, 10, 0, 0, 0), (10, .ireturn, 11, 0, 0, 0), (11, .aload_n 1, 12, 0, 0, 0), (12, .iload_n 2, 13, 0, 0, 0), (13, .invokestatic 98, 16, 57, 1, 728), (16, .iload_n 3, 17, 0, 0, 0), (17, .invokestatic 98, 20, 57, 1, 728), (20, .invokevirtual 101, 23, 85, 3, 731), (23, .ireturn, 24, 0, 0, 0)]
noncomputable abbrev md_Pl_mayBe : pm_M := (⟨"TurnField$Play", "mayBe", "(LTurnField$Position;II)Z"⟩, prog_6_method_9_code, 4, (some .boolean), false, [0, 722, 113, 720, 721], cd_Pl_mayBe)
noncomputable def cd_Pl_greatestOf : List pm_I := [(0, .iconst 0, 1, 0, 0, 0), (1, .istore_n 1, 2, 0, 0, 0), (2, .iconst 0, 3, 0, 0, 0), (3, .istore_n 2, 4, 0, 0, 0), (4, .iload_n 2, 5, 0, 0, 0), (5, .bipush 6, 7, 0, 0, 0), (7, .if_icmp .ge 23, 10, 30, 0, 0), (10, .iload_n 0, 11, 0, 0, 0), (11, .iload_n 2, 12, 0, 0, 0), (12, .ishr, 13, 0, 0, 0), (13, .iconst 1, 14, 0, 0, 0), (14, .iand, 15, 0, 0, 0), (15, .ifCond .eq 7, 18, 22, 0, 0), (18, .iload_n 2, 19, 0, 0, 0), (19, .goto 4, 22, 23, 0, 0), (22, .iload_n 1, 23, 0, 0, 0), (23, .istore_n 1, 24, 0, 0, 0), (24, .iinc 2 1, 27, 0, 0, 0), (27, .goto (-23), 30, 4, 0, 0), (30, .iload_n 1, 31, 0, 0, 0), (31, .ireturn, 32, 0, 0, 0)]
noncomputable abbrev md_Pl_greatestOf : pm_M := (⟨"TurnField$Play", "greatestOf", "(I)I"⟩, prog_6_method_10_code, 3, (some .int), false, [1, 730, 113, 729, 0], cd_Pl_greatestOf)
noncomputable def cd_Pl_find : List pm_I := [(0, .aload_n 0, 1, 0, 0, 0), (1, .aload_n 1, 2, 0, 0, 0), (2, .invokevirtual 104, 5, 54, 2, 751), (5, .istore 4, 7, 0, 0, 0), (7, .aload_n 0, 8, 0, 0, 0), (8, .iconst 0, 9, 0, 0, 0), (9, .putfield 33, 12, 3, 6, 297), (12, .iconst 0, 13, 0, 0, 0), (13, .istore 5, 15, 0, 0, 0), (15, .iload 5, 17, 0, 0, 0), (17, .aload_n 1, 18, 0, 0, 0), (18, .getfield 84, 21, 5, 0, 147), (21, .if_icmp .ge 66, 24, 87, 0, 0), (24, .iconst 0, 25, 0, 0, 0), (25, .istore 6, 27, 0, 0, 0), (27, .iload 6, 29, 0, 0, 0), (29, .aload_n 1, 30, 0, 0, 0), (30, .getfield 108, 33, 5, 1, 152), (33, .if_icmp .ge 48, 36, 81, 0, 0), (36, .aload_n 1, 37, 0, 0, 0), (37, .iload 5, 39, 0, 0, 0), (39, .iload 6, 41, 0, 0, 0), (41, .invokevirtual 101, 44, 85, 3, 731), (44, .ifCond .eq 31, 47, 75, 0, 0), (47, .aload_n 0, 48, 0, 0, 0), (48, .iconst 1, 49, 0, 0, 0), (49, .iload 5, 51, 0, 0, 0), (51, .ishl, 52, 0, 0, 0), (52, .iconst 1, 53, 0, 0, 0), (53, .iload 6, 55, 0, 0, 0), (55, .ishl, 56, 0, 0, 0), (56, .iload_n 2, 57, 0, 0, 0), (57, .ifCond .eq 8, 60, 65, 0, 0), (60, .iload 4, 62, 0, 0, 0), (62, .goto 4, 65, 66, 0, 0), (65, .iconst (-1), 66, 0, 0, 0), (66, .iload_n 3, 67, 0, 0, 0), (67, .invokevirtual 111, 70, 59, 5, 760), (70, .ifCond .eq 5, 73, 75, 0, 0), (73, .iconst 1, 74, 0, 0, 0), (74, .ireturn, 75, 0, 0, 0), (75, .iinc 6 1, 78, 0, 0, 0), (78, .goto (-51), 81, 27, 0, 0), (81, .iinc 5 1, 84, 0, 0, 0), (84, .goto (-69), 87, 15, 0, 0), (87, .iconst 0, 88, 0, 0, 0), (88, .ireturn, 89, 0, 0, 0)]
noncomputable abbrev md_Pl_find : pm_M := (⟨"TurnField$Play", "find", "(LTurnField$Position;ZI)Z"⟩, prog_6_method_11_code, 7, (some .boolean), false, [0, 750, 113, 748, 749], cd_Pl_find)
noncomputable def cd_Pl_findAt : List pm_I := [(0, .iload_n 1, 1, 0, 0, 0), (1, .istore 5, 3, 0, 0, 0), (3, .iload 5, 5, 0, 0, 0), (5, .iload_n 1, 6, 0, 0, 0), (6, .iconst 1, 7, 0, 0, 0), (7, .ishl, 8, 0, 0, 0), (8, .if_icmp .ge 112, 11, 120, 0, 0), (11, .iload_n 2, 12, 0, 0, 0), (12, .istore 6, 14, 0, 0, 0), (14, .aload_n 0, 15, 0, 0, 0), (15, .getfield 10, 18, 3, 0, 289), (18, .iload 5, 20, 0, 0, 0), (20, .invokevirtual 90, 23, 99, 2, 727), (23, .ifCond .eq 91, 26, 114, 0, 0), (26, .iload 6, 28, 0, 0, 0), (28, .iload_n 2, 29, 0, 0, 0), (29, .iconst 1, 30, 0, 0, 0), (30, .ishl, 31, 0, 0, 0), (31, .if_icmp .ge 83, 34, 114, 0, 0), (34, .iload_n 3, 35, 0, 0, 0), (35, .iconst (-1), 36, 0, 0, 0), (36, .if_icmp .eq 15, 39, 51, 0, 0), (39, .aload_n 0, 40, 0, 0, 0), (40, .iload 5, 42, 0, 0, 0), (42, .iload 6, 44, 0, 0, 0), (44, .invokevirtual 80, 47, 52, 3, 715), (47, .iload_n 3, 48, 0, 0, 0), (48, .if_icmp .ne 7, 51, 55, 0, 0), (51, .iconst 1, 52, 0, 0, 0), (52, .goto 4, 55, 56, 0, 0), (55, .iconst 0, 56, 0, 0, 0), (56, .istore 7, 58, 0, 0, 0), (58, .iload 7, 60, 0, 0, 0), (60, .ifCond .eq 48, 63, 108, 0, 0), (63, .aload_n 0, 64, 0, 0, 0), (64, .getfield 16, 67, 3, 1, 290), (67, .iload 6, 69, 0, 0, 0), (69, .invokevirtual 90, 72, 99, 2, 727), (72, .ifCond .eq 36, 75, 108, 0, 0), (75, .aload_n 0, 76, 0, 0, 0), (76, .getfield 33, 79, 3, 6, 297), (79, .iload 4, 81, 0, 0, 0), (81, .if_icmp .ne 17, 84, 98, 0, 0), (84, .aload_n 0, 85, 0, 0, 0), (85, .iload 5, 87, 0, 0, 0), (87, .putfield 27, 90, 3, 4, 293), (90, .aload_n 0, 91, 0, 0, 0), (91, .iload 6, 93, 0, 0, 0), (93, .putfield 30, 96, 3, 5, 295), (96, .iconst 1, 97, 0, 0, 0), (97, .ireturn, 98, 0, 0, 0), (98, .aload_n 0, 99, 0, 0, 0), (99, .dup, 100, 0, 0, 0), (100, .getfield 33, 103, 3, 6, 297), (103, .iconst 1, 104, 0, 0, 0), (104, .iadd, 105, 0, 0, 0), (105, .putfield 33, 108, 3, 6, 297), (108, .iinc 6 1, 111, 0, 0, 0), (111, .goto (-97), 114, 14, 0, 0), (114, .iinc 5 1, 117, 0, 0, 0), (117, .goto (-114), 120, 3, 0, 0), (120, .iconst 0, 121, 0, 0, 0), (121, .ireturn, 122, 0, 0, 0)]
noncomputable abbrev md_Pl_findAt : pm_M := (⟨"TurnField$Play", "findAt", "(IIII)Z"⟩, prog_6_method_12_code, 8, (some .boolean), false, [0, 763, 113, 762, 13], cd_Pl_findAt)
noncomputable def cd_Po_init : List pm_I := [(0, .aload_n 0, 1, 0, 0, 0), (1, .invokespecial 3, 4, 1000, 1, 393), (4, .aload_n 0, 5, 0, 0, 0), (5, .iconst 4, 6, 0, 0, 0), (6, .newarray .long, 8, 1, 0, 0), (8, .putfield 9, 11, 4, 0, 396), (11, .aload_n 0, 12, 0, 0, 0), (12, .iconst 4, 13, 0, 0, 0), (13, .newarray .long, 15, 1, 0, 0), (15, .putfield 15, 18, 4, 1, 397), (18, .aload_n 0, 19, 0, 0, 0), (19, .iconst 4, 20, 0, 0, 0), (20, .newarray .long, 22, 1, 0, 0), (22, .putfield 18, 25, 4, 2, 398), (25, .aload_n 0, 26, 0, 0, 0), (26, .bipush 16, 28, 0, 0, 0), (28, .newarray .long, 30, 1, 0, 0), (30, .putfield 21, 33, 4, 3, 399), (33, .aload_n 0, 34, 0, 0, 0), (34, .bipush 16, 36, 0, 0, 0), (36, .newarray .long, 38, 1, 0, 0), (38, .putfield 24, 41, 4, 4, 400), (41, .aload_n 0, 42, 0, 0, 0), (42, .bipush 16, 44, 0, 0, 0), (44, .newarray .long, 46, 1, 0, 0), (46, .putfield 27, 49, 4, 5, 401), (49, .aload_n 0, 50, 0, 0, 0), (50, .bipush 16, 52, 0, 0, 0), (52, .newarray .long, 54, 1, 0, 0), (54, .putfield 30, 57, 4, 6, 402), (57, .aload_n 0, 58, 0, 0, 0), (58, .bipush 16, 60, 0, 0, 0), (60, .newarray .long, 62, 1, 0, 0), (62, .putfield 33, 65, 4, 7, 403), (65, .aload_n 0, 66, 0, 0, 0), (66, .bipush 16, 68, 0, 0, 0), (68, .bipush 16, 70, 0, 0, 0), (70, .multianewarray 36 2, 74, 5, 0, 394), (74, .putfield 38, 77, 4, 8, 404), (77, .aload_n 0, 78, 0, 0, 0), (78, .bipush 8, 80, 0, 0, 0), (80, .bipush 16, 82, 0, 0, 0), (82, .multianewarray 36 2, 86, 5, 0, 394), (86, .putfield 41, 89, 4, 9, 405), (89, .aload_n 0, 90, 0, 0, 0), (90, .bipush 7, 92, 0, 0, 0), (92, .newarray .int, 94, 0, 0, 0), (94, .putfield 44, 97, 4, 10, 406), (97, .aload_n 0, 98, 0, 0, 0), (98, .bipush 8, 100, 0, 0, 0), (100, .newarray .long, 102, 1, 0, 0), (102, .putfield 48, 105, 4, 11, 407), (105, .aload_n 0, 106, 0, 0, 0), (106, .iconst (-1), 107, 0, 0, 0), (107, .putfield 51, 110, 4, 12, 408), (110, .aload_n 0, 111, 0, 0, 0), (111, .iconst 0, 112, 0, 0, 0), (112, .putfield 55, 115, 4, 13, 409), (115, .aload_n 0, 116, 0, 0, 0), (116, .iconst 0, 117, 0, 0, 0), (117, .putfield 58, 120, 4, 14, 410), (120, .return_, 121, 0, 0, 0)]
noncomputable abbrev md_Po_init : pm_M := (⟨"TurnField$Polynomials", "<init>", "()V"⟩, prog_7_method_1_code, 1, none, true, [2, 392, 118, 391, 0], cd_Po_init)
noncomputable def cd_Po_degreeOf : List pm_I := [(0, .aload_n 0, 1, 0, 0, 0), (1, .arraylength, 2, 0, 0, 0), (2, .iconst 1, 3, 0, 0, 0), (3, .isub, 4, 0, 0, 0), (4, .istore_n 1, 5, 0, 0, 0), (5, .iload_n 1, 6, 0, 0, 0), (6, .ifCond .lt 19, 9, 25, 0, 0), (9, .aload_n 0, 10, 0, 0, 0), (10, .iload_n 1, 11, 0, 0, 0), (11, .laload, 12, 0, 0, 0), (12, .lconst 0, 13, 0, 0, 0), (13, .lcmp, 14, 0, 0, 0), (14, .ifCond .eq 5, 17, 19, 0, 0), (17, .iload_n 1, 18, 0, 0, 0), (18, .ireturn, 19, 0, 0, 0), (19, .iinc 1 (-1), 22, 0, 0, 0), (22, .goto (-17), 25, 5, 0, 0), (25, .iconst (-1), 26, 0, 0, 0), (26, .ireturn, 27, 0, 0, 0)]
noncomputable abbrev md_Po_degreeOf : pm_M := (⟨"TurnField$Polynomials", "degreeOf", "([J)I"⟩, prog_7_method_2_code, 2, (some .int), false, [1, 927, 118, 926, 0], cd_Po_degreeOf)
noncomputable def cd_Po_valueAt : List pm_I := [(0, .lconst 0, 1, 0, 0, 0), (1, .lstore_n 3, 2, 0, 0, 0), (2, .aload_n 0, 3, 0, 0, 0), (3, .arraylength, 4, 0, 0, 0), (4, .iconst 1, 5, 0, 0, 0), (5, .isub, 6, 0, 0, 0), (6, .istore 5, 8, 0, 0, 0), (8, .iload 5, 10, 0, 0, 0), (10, .ifCond .lt 20, 13, 30, 0, 0), (13, .lload_n 3, 14, 0, 0, 0), (14, .lload_n 1, 15, 0, 0, 0), (15, .invokestatic 61, 18, 22, 2, 943), (18, .aload_n 0, 19, 0, 0, 0), (19, .iload 5, 21, 0, 0, 0), (21, .laload, 22, 0, 0, 0), (22, .lxor, 23, 0, 0, 0), (23, .lstore_n 3, 24, 0, 0, 0), (24, .iinc 5 (-1), 27, 0, 0, 0), (27, .goto (-19), 30, 8, 0, 0), (30, .lload_n 3, 31, 0, 0, 0), (31, .lreturn, 32, 0, 0, 0)]
noncomputable abbrev md_Po_valueAt : pm_M := (⟨"TurnField$Polynomials", "valueAt", "([JJ)J"⟩, prog_7_method_3_code, 6, (some .long), false, [1, 1021, 118, 1020, 0], cd_Po_valueAt)
noncomputable def cd_Po_clear : List pm_I := [(0, .iconst 0, 1, 0, 0, 0), (1, .istore_n 1, 2, 0, 0, 0), (2, .iload_n 1, 3, 0, 0, 0), (3, .aload_n 0, 4, 0, 0, 0), (4, .arraylength, 5, 0, 0, 0), (5, .if_icmp .ge 13, 8, 18, 0, 0), (8, .aload_n 0, 9, 0, 0, 0), (9, .iload_n 1, 10, 0, 0, 0), (10, .lconst 0, 11, 0, 0, 0), (11, .lastore, 12, 0, 0, 0), (12, .iinc 1 1, 15, 0, 0, 0), (15, .goto (-13), 18, 2, 0, 0), (18, .return_, 19, 0, 0, 0)]
noncomputable abbrev md_Po_clear : pm_M := (⟨"TurnField$Polynomials", "clear", "([J)V"⟩, prog_7_method_4_code, 2, none, false, [1, 950, 118, 949, 0], cd_Po_clear)
noncomputable def cd_Po_copy : List pm_I := [(0, .iconst 0, 1, 0, 0, 0), (1, .istore_n 2, 2, 0, 0, 0), (2, .iload_n 2, 3, 0, 0, 0), (3, .aload_n 1, 4, 0, 0, 0), (4, .arraylength, 5, 0, 0, 0), (5, .if_icmp .ge 25, 8, 30, 0, 0), (8, .aload_n 1, 9, 0, 0, 0), (9, .iload_n 2, 10, 0, 0, 0), (10, .iload_n 2, 11, 0, 0, 0), (11, .aload_n 0, 12, 0, 0, 0), (12, .arraylength, 13, 0, 0, 0), (13, .if_icmp .ge 9, 16, 22, 0, 0), (16, .aload_n 0, 17, 0, 0, 0), (17, .iload_n 2, 18, 0, 0, 0), (18, .laload, 19, 0, 0, 0), (19, .goto 4, 22, 23, 0, 0), (22, .lconst 0, 23, 0, 0, 0), (23, .lastore, 24, 0, 0, 0), (24, .iinc 2 1, 27, 0, 0, 0), (27, .goto (-25), 30, 2, 0, 0), (30, .return_, 31, 0, 0, 0)]
noncomputable abbrev md_Po_copy : pm_M := (⟨"TurnField$Polynomials", "copy", "([J[J)V"⟩, prog_7_method_5_code, 3, none, false, [1, 937, 118, 936, 0], cd_Po_copy)
noncomputable def cd_Po_areAlike : List pm_I := [(0, .iconst 0, 1, 0, 0, 0), (1, .istore_n 2, 2, 0, 0, 0), (2, .iload_n 2, 3, 0, 0, 0), (3, .aload_n 0, 4, 0, 0, 0), (4, .arraylength, 5, 0, 0, 0), (5, .if_icmp .ge 27, 8, 32, 0, 0), (8, .iload_n 2, 9, 0, 0, 0), (9, .aload_n 1, 10, 0, 0, 0), (10, .arraylength, 11, 0, 0, 0), (11, .if_icmp .ge 21, 14, 32, 0, 0), (14, .aload_n 0, 15, 0, 0, 0), (15, .iload_n 2, 16, 0, 0, 0), (16, .laload, 17, 0, 0, 0), (17, .aload_n 1, 18, 0, 0, 0), (18, .iload_n 2, 19, 0, 0, 0), (19, .laload, 20, 0, 0, 0), (20, .lcmp, 21, 0, 0, 0), (21, .ifCond .eq 5, 24, 26, 0, 0), (24, .iconst 0, 25, 0, 0, 0), (25, .ireturn, 26, 0, 0, 0), (26, .iinc 2 1, 29, 0, 0, 0), (29, .goto (-27), 32, 2, 0, 0), (32, .iconst 1, 33, 0, 0, 0), (33, .ireturn, 34, 0, 0, 0)]
noncomputable abbrev md_Po_areAlike : pm_M := (⟨"TurnField$Polynomials", "areAlike", "([J[J)Z"⟩, prog_7_method_6_code, 3, (some .boolean), false, [1, 934, 118, 933, 0], cd_Po_areAlike)
noncomputable def cd_Po_makeMonic : List pm_I := [(0, .aload_n 0, 1, 0, 0, 0), (1, .invokestatic 67, 4, 61, 1, 941), (4, .istore_n 1, 5, 0, 0, 0), (5, .iload_n 1, 6, 0, 0, 0), (6, .ifCond .lt 11, 9, 17, 0, 0), (9, .aload_n 0, 10, 0, 0, 0), (10, .iload_n 1, 11, 0, 0, 0), (11, .laload, 12, 0, 0, 0), (12, .lconst 1, 13, 0, 0, 0), (13, .lcmp, 14, 0, 0, 0), (14, .ifCond .ne 4, 17, 18, 0, 0), (17, .return_, 18, 0, 0, 0), (18, .aload_n 0, 19, 0, 0, 0), (19, .iload_n 1, 20, 0, 0, 0), (20, .laload, 21, 0, 0, 0), (21, .invokestatic 71, 24, 28, 1, 942), (24, .lstore_n 2, 25, 0, 0, 0), (25, .iconst 0, 26, 0, 0, 0), (26, .istore 4, 28, 0, 0, 0), (28, .iload 4, 30, 0, 0, 0), (30, .iload_n 1, 31, 0, 0, 0), (31, .if_icmp .gt 21, 34, 52, 0, 0), (34, .aload_n 0, 35, 0, 0, 0), (35, .iload 4, 37, 0, 0, 0), (37, .aload_n 0, 38, 0, 0, 0), (38, .iload 4, 40, 0, 0, 0), (40, .laload, 41, 0, 0, 0), (41, .lload_n 2, 42, 0, 0, 0), (42, .invokestatic 61, 45, 22, 2, 943), (45, .lastore, 46, 0, 0, 0), (46, .iinc 4 1, 49, 0, 0, 0), (49, .goto (-21), 52, 28, 0, 0), (52, .return_, 53, 0, 0, 0)]
noncomputable abbrev md_Po_makeMonic : pm_M := (⟨"TurnField$Polynomials", "makeMonic", "([J)V"⟩, prog_7_method_7_code, 5, none, false, [1, 940, 118, 939, 0], cd_Po_makeMonic)
noncomputable def cd_Po_divide : List pm_I := [(0, .aload_n 2, 1, 0, 0, 0), (1, .invokestatic 75, 4, 63, 1, 948), (4, .aload_n 1, 5, 0, 0, 0), (5, .invokestatic 67, 8, 61, 1, 941), (8, .istore_n 3, 9, 0, 0, 0), (9, .aload_n 0, 10, 0, 0, 0), (10, .invokestatic 67, 13, 61, 1, 941), (13, .istore 4, 15, 0, 0, 0), (15, .iload 4, 17, 0, 0, 0), (17, .iload_n 3, 18, 0, 0, 0), (18, .if_icmp .lt 79, 21, 97, 0, 0), (21, .iload_n 3, 22, 0, 0, 0), (22, .ifCond .lt 75, 25, 97, 0, 0), (25, .aload_n 0, 26, 0, 0, 0), (26, .iload 4, 28, 0, 0, 0), (28, .laload, 29, 0, 0, 0), (29, .lstore 5, 31, 0, 0, 0), (31, .iload 4, 33, 0, 0, 0), (33, .iload_n 3, 34, 0, 0, 0), (34, .isub, 35, 0, 0, 0), (35, .aload_n 2, 36, 0, 0, 0), (36, .arraylength, 37, 0, 0, 0), (37, .if_icmp .ge 11, 40, 48, 0, 0), (40, .aload_n 2, 41, 0, 0, 0), (41, .iload 4, 43, 0, 0, 0), (43, .iload_n 3, 44, 0, 0, 0), (44, .isub, 45, 0, 0, 0), (45, .lload 5, 47, 0, 0, 0), (47, .lastore, 48, 0, 0, 0), (48, .iconst 0, 49, 0, 0, 0), (49, .istore 7, 51, 0, 0, 0), (51, .iload 7, 53, 0, 0, 0), (53, .iload_n 3, 54, 0, 0, 0), (54, .if_icmp .gt 37, 57, 91, 0, 0), (57, .lload 5, 59, 0, 0, 0), (59, .lconst 0, 60, 0, 0, 0), (60, .lcmp, 61, 0, 0, 0), (61, .ifCond .eq 30, 64, 91, 0, 0), (64, .aload_n 0, 65, 0, 0, 0), (65, .iload 4, 67, 0, 0, 0), (67, .iload_n 3, 68, 0, 0, 0), (68, .isub, 69, 0, 0, 0), (69, .iload 7, 71, 0, 0, 0), (71, .iadd, 72, 0, 0, 0), (72, .dup2, 73, 0, 0, 0), (73, .laload, 74, 0, 0, 0), (74, .lload 5, 76, 0, 0, 0), (76, .aload_n 1, 77, 0, 0, 0), (77, .iload 7, 79, 0, 0, 0), (79, .laload, 80, 0, 0, 0), (80, .invokestatic 61, 83, 22, 2, 943), (83, .lxor, 84, 0, 0, 0), (84, .lastore, 85, 0, 0, 0), (85, .iinc 7 1, 88, 0, 0, 0), (88, .goto (-37), 91, 51, 0, 0), (91, .iinc 4 (-1), 94, 0, 0, 0), (94, .goto (-79), 97, 15, 0, 0), (97, .return_, 98, 0, 0, 0)]
noncomputable abbrev md_Po_divide : pm_M := (⟨"TurnField$Polynomials", "divide", "([J[J[J)V"⟩, prog_7_method_8_code, 8, none, false, [1, 954, 118, 953, 0], cd_Po_divide)
noncomputable def cd_Po_meet : List pm_I := [(0, .iconst 0, 1, 0, 0, 0), (1, .istore_n 3, 2, 0, 0, 0), (2, .iload_n 3, 3, 0, 0, 0), (3, .aload_n 0, 4, 0, 0, 0), (4, .arraylength, 5, 0, 0, 0), (5, .if_icmp .ge 41, 8, 46, 0, 0), (8, .aload_n 1, 9, 0, 0, 0), (9, .invokestatic 67, 12, 61, 1, 941), (12, .ifCond .lt 34, 15, 46, 0, 0), (15, .aload_n 1, 16, 0, 0, 0), (16, .invokestatic 79, 19, 66, 1, 938), (19, .aload_n 0, 20, 0, 0, 0), (20, .aload_n 1, 21, 0, 0, 0), (21, .aload_n 2, 22, 0, 0, 0), (22, .invokestatic 82, 25, 67, 3, 952), (25, .aload_n 0, 26, 0, 0, 0), (26, .aload_n 2, 27, 0, 0, 0), (27, .invokestatic 86, 30, 64, 2, 935), (30, .aload_n 1, 31, 0, 0, 0), (31, .aload_n 0, 32, 0, 0, 0), (32, .invokestatic 86, 35, 64, 2, 935), (35, .aload_n 2, 36, 0, 0, 0), (36, .aload_n 1, 37, 0, 0, 0), (37, .invokestatic 86, 40, 64, 2, 935), (40, .iinc 3 1, 43, 0, 0, 0), (43, .goto (-41), 46, 2, 0, 0), (46, .aload_n 0, 47, 0, 0, 0), (47, .invokestatic 79, 50, 66, 1, 938), (50, .return_, 51, 0, 0, 0)]
noncomputable abbrev md_Po_meet : pm_M := (⟨"TurnField$Polynomials", "meet", "([J[J[J)V"⟩, prog_7_method_9_code, 4, none, false, [1, 957, 118, 956, 0], cd_Po_meet)
noncomputable def cd_Po_meetHalves : List pm_I := [(0, .iconst 0, 1, 0, 0, 0), (1, .istore_n 2, 2, 0, 0, 0), (2, .iload_n 2, 3, 0, 0, 0), (3, .iconst 4, 4, 0, 0, 0), (4, .if_icmp .ge 37, 7, 41, 0, 0), (7, .iload_n 2, 8, 0, 0, 0), (8, .iconst 4, 9, 0, 0, 0), (9, .iadd, 10, 0, 0, 0), (10, .aload_n 1, 11, 0, 0, 0), (11, .arraylength, 12, 0, 0, 0), (12, .if_icmp .ge 29, 15, 41, 0, 0), (15, .aload_n 0, 16, 0, 0, 0), (16, .getfield 9, 19, 4, 0, 396), (19, .iload_n 2, 20, 0, 0, 0), (20, .aload_n 1, 21, 0, 0, 0), (21, .iload_n 2, 22, 0, 0, 0), (22, .laload, 23, 0, 0, 0), (23, .lastore, 24, 0, 0, 0), (24, .aload_n 0, 25, 0, 0, 0), (25, .getfield 15, 28, 4, 1, 397), (28, .iload_n 2, 29, 0, 0, 0), (29, .aload_n 1, 30, 0, 0, 0), (30, .iconst 4, 31, 0, 0, 0), (31, .iload_n 2, 32, 0, 0, 0), (32, .iadd, 33, 0, 0, 0), (33, .laload, 34, 0, 0, 0), (34, .lastore, 35, 0, 0, 0), (35, .iinc 2 1, 38, 0, 0, 0), (38, .goto (-36), 41, 2, 0, 0), (41, .aload_n 0, 42, 0, 0, 0), (42, .getfield 9, 45, 4, 0, 396), (45, .aload_n 0, 46, 0, 0, 0), (46, .getfield 15, 49, 4, 1, 397), (49, .aload_n 0, 50, 0, 0, 0), (50, .getfield 18, 53, 4, 2, 398), (53, .invokestatic 90, 56, 68, 3, 955), (56, .return_, 57, 0, 0, 0)]
noncomputable abbrev md_Po_meetHalves : pm_M := (⟨"TurnField$Polynomials", "meetHalves", "([J)V"⟩, prog_7_method_10_code, 3, none, false, [0, 985, 118, 983, 984], cd_Po_meetHalves)
noncomputable def cd_Po_metCoefficient : List pm_I := [(0, .iload_n 1, 1, 0, 0, 0), (1, .ifCond .lt 21, 4, 22, 0, 0), (4, .iload_n 1, 5, 0, 0, 0), (5, .aload_n 0, 6, 0, 0, 0), (6, .getfield 9, 9, 4, 0, 396), (9, .arraylength, 10, 0, 0, 0), (10, .if_icmp .ge 12, 13, 22, 0, 0), (13, .aload_n 0, 14, 0, 0, 0), (14, .getfield 9, 17, 4, 0, 396), (17, .iload_n 1, 18, 0, 0, 0), (18, .laload, 19, 0, 0, 0), (19, .goto 4, 22, 23, 0, 0), (22, .lconst 0, 23, 0, 0, 0), (23, .lreturn, 24, 0, 0, 0)]
noncomputable abbrev md_Po_metCoefficient : pm_M := (⟨"TurnField$Polynomials", "metCoefficient", "(I)J"⟩, prog_7_method_11_code, 2, (some .long), false, [0, 989, 118, 987, 988], cd_Po_metCoefficient)
noncomputable def cd_Po_findRoots : List pm_I := [(0, .iload_n 2, 1, 0, 0, 0), (1, .aload_n 0, 2, 0, 0, 0), (2, .getfield 51, 5, 4, 12, 408), (5, .if_icmp .ne 15, 8, 20, 0, 0), (8, .aload_n 1, 9, 0, 0, 0), (9, .aload_n 0, 10, 0, 0, 0), (10, .getfield 48, 13, 4, 11, 407), (13, .invokestatic 93, 16, 65, 2, 932), (16, .ifCond .eq 4, 19, 20, 0, 0), (19, .return_, 20, 0, 0, 0), (20, .aload_n 0, 21, 0, 0, 0), (21, .iload_n 2, 22, 0, 0, 0), (22, .putfield 51, 25, 4, 12, 408), (25, .aload_n 1, 26, 0, 0, 0), (26, .aload_n 0, 27, 0, 0, 0), (27, .getfield 48, 30, 4, 11, 407), (30, .invokestatic 86, 33, 64, 2, 935), (33, .aload_n 1, 34, 0, 0, 0), (34, .aload_n 0, 35, 0, 0, 0), (35, .getfield 21, 38, 4, 3, 399), (38, .invokestatic 86, 41, 64, 2, 935), (41, .aload_n 0, 42, 0, 0, 0), (42, .getfield 21, 45, 4, 3, 399), (45, .invokestatic 79, 48, 66, 1, 938), (48, .iconst 1, 49, 0, 0, 0), (49, .iload_n 2, 50, 0, 0, 0), (50, .ishl, 51, 0, 0, 0), (51, .istore_n 3, 52, 0, 0, 0), (52, .aload_n 0, 53, 0, 0, 0), (53, .iload_n 3, 54, 0, 0, 0), (54, .invokevirtual 97, 57, 72, 2, 944), (57, .aload_n 0, 58, 0, 0, 0), (58, .getfield 24, 61, 4, 4, 400), (61, .iconst 1, 62, 0, 0, 0), (62, .dup2, 63, 0, 0, 0), (63, .laload, 64, 0, 0, 0), (64, .lconst 1, 65, 0, 0, 0), (65, .lxor, 66, 0, 0, 0), (66, .lastore, 67, 0, 0, 0), (67, .aload_n 0, 68, 0, 0, 0), (68, .getfield 21, 71, 4, 3, 399), (71, .aload_n 0, 72, 0, 0, 0), (72, .getfield 24, 75, 4, 4, 400), (75, .aload_n 0, 76, 0, 0, 0), (76, .getfield 30, 79, 4, 6, 402), (79, .invokestatic 90, 82, 68, 3, 955), (82, .aload_n 0, 83, 0, 0, 0), (83, .iconst 1, 84, 0, 0, 0), (84, .putfield 55, 87, 4, 13, 409), (87, .aload_n 0, 88, 0, 0, 0), (88, .getfield 21, 91, 4, 3, 399), (91, .aload_n 0, 92, 0, 0, 0), (92, .getfield 41, 95, 4, 9, 405), (95, .iconst 0, 96, 0, 0, 0), (96, .aaload, 97, 0, 0, 0), (97, .invokestatic 86, 100, 64, 2, 935), (100, .iconst 0, 101, 0, 0, 0), (101, .istore 4, 103, 0, 0, 0), (103, .iload 4, 105, 0, 0, 0), (105, .iload_n 3, 106, 0, 0, 0), (106, .if_icmp .ge 22, 109, 128, 0, 0), (109, .aload_n 0, 110, 0, 0, 0), (110, .lconst 1, 111, 0, 0, 0), (111, .iload 4, 113, 0, 0, 0), (113, .lshl, 114, 0, 0, 0), (114, .iload_n 3, 115, 0, 0, 0), (115, .invokevirtual 101, 118, 73, 3, 958), (118, .aload_n 0, 119, 0, 0, 0), (119, .invokevirtual 105, 122, 74, 1, 962), (122, .iinc 4 1, 125, 0, 0, 0), (125, .goto (-22), 128, 103, 0, 0), (128, .aload_n 0, 129, 0, 0, 0), (129, .invokevirtual 108, 132, 75, 1, 966), (132, .return_, 133, 0, 0, 0)]
noncomputable abbrev md_Po_findRoots : pm_M := (⟨"TurnField$Polynomials", "findRoots", "([JI)V"⟩, prog_7_method_12_code, 5, none, false, [0, 931, 118, 929, 930], cd_Po_findRoots)
noncomputable def cd_Po_raiseImage : List pm_I := [(0, .aload_n 0, 1, 0, 0, 0), (1, .getfield 24, 4, 4, 4, 400), (4, .invokestatic 75, 7, 63, 1, 948), (7, .aload_n 0, 8, 0, 0, 0), (8, .getfield 24, 11, 4, 4, 400), (11, .iconst 1, 12, 0, 0, 0), (12, .lconst 1, 13, 0, 0, 0), (13, .lastore, 14, 0, 0, 0), (14, .iconst 0, 15, 0, 0, 0), (15, .istore_n 2, 16, 0, 0, 0), (16, .iload_n 2, 17, 0, 0, 0), (17, .iload_n 1, 18, 0, 0, 0), (18, .if_icmp .ge 87, 21, 105, 0, 0), (21, .iload_n 2, 22, 0, 0, 0), (22, .aload_n 0, 23, 0, 0, 0), (23, .getfield 38, 26, 4, 8, 404), (26, .arraylength, 27, 0, 0, 0), (27, .if_icmp .ge 78, 30, 105, 0, 0), (30, .aload_n 0, 31, 0, 0, 0), (31, .getfield 24, 34, 4, 4, 400), (34, .aload_n 0, 35, 0, 0, 0), (35, .getfield 38, 38, 4, 8, 404), (38, .iload_n 2, 39, 0, 0, 0), (39, .aaload, 40, 0, 0, 0), (40, .invokestatic 86, 43, 64, 2, 935), (43, .bipush 7, 45, 0, 0, 0), (45, .istore_n 3, 46, 0, 0, 0), (46, .iload_n 3, 47, 0, 0, 0), (47, .ifCond .lt 37, 50, 84, 0, 0), (50, .aload_n 0, 51, 0, 0, 0), (51, .getfield 24, 54, 4, 4, 400), (54, .iconst 2, 55, 0, 0, 0), (55, .iload_n 3, 56, 0, 0, 0), (56, .imul, 57, 0, 0, 0), (57, .aload_n 0, 58, 0, 0, 0), (58, .getfield 24, 61, 4, 4, 400), (61, .iload_n 3, 62, 0, 0, 0), (62, .laload, 63, 0, 0, 0), (63, .invokestatic 111, 66, 26, 1, 951), (66, .lastore, 67, 0, 0, 0), (67, .aload_n 0, 68, 0, 0, 0), (68, .getfield 24, 71, 4, 4, 400), (71, .iconst 2, 72, 0, 0, 0), (72, .iload_n 3, 73, 0, 0, 0), (73, .imul, 74, 0, 0, 0), (74, .iconst 1, 75, 0, 0, 0), (75, .iadd, 76, 0, 0, 0), (76, .lconst 0, 77, 0, 0, 0), (77, .lastore, 78, 0, 0, 0), (78, .iinc 3 (-1), 81, 0, 0, 0), (81, .goto (-35), 84, 46, 0, 0), (84, .aload_n 0, 85, 0, 0, 0), (85, .getfield 24, 88, 4, 4, 400), (88, .aload_n 0, 89, 0, 0, 0), (89, .getfield 21, 92, 4, 3, 399), (92, .aload_n 0, 93, 0, 0, 0), (93, .getfield 33, 96, 4, 7, 403), (96, .invokestatic 82, 99, 67, 3, 952), (99, .iinc 2 1, 102, 0, 0, 0), (102, .goto (-86), 105, 16, 0, 0), (105, .return_, 106, 0, 0, 0)]
noncomputable abbrev md_Po_raiseImage : pm_M := (⟨"TurnField$Polynomials", "raiseImage", "(I)V"⟩, prog_7_method_13_code, 4, none, false, [0, 947, 118, 946, 22], cd_Po_raiseImage)
noncomputable def cd_Po_sumTraces : List pm_I := [(0, .lload_n 1, 1, 0, 0, 0), (1, .lstore 4, 3, 0, 0, 0), (3, .aload_n 0, 4, 0, 0, 0), (4, .getfield 27, 7, 4, 5, 401), (7, .invokestatic 75, 10, 63, 1, 948), (10, .iconst 0, 11, 0, 0, 0), (11, .istore 6, 13, 0, 0, 0), (13, .iload 6, 15, 0, 0, 0), (15, .iload_n 3, 16, 0, 0, 0), (16, .if_icmp .ge 67, 19, 83, 0, 0), (19, .iload 6, 21, 0, 0, 0), (21, .aload_n 0, 22, 0, 0, 0), (22, .getfield 38, 25, 4, 8, 404), (25, .arraylength, 26, 0, 0, 0), (26, .if_icmp .ge 57, 29, 83, 0, 0), (29, .iconst 0, 30, 0, 0, 0), (30, .istore 7, 32, 0, 0, 0), (32, .iload 7, 34, 0, 0, 0), (34, .bipush 7, 36, 0, 0, 0), (36, .if_icmp .ge 34, 39, 70, 0, 0), (39, .aload_n 0, 40, 0, 0, 0), (40, .getfield 27, 43, 4, 5, 401), (43, .iload 7, 45, 0, 0, 0), (45, .dup2, 46, 0, 0, 0), (46, .laload, 47, 0, 0, 0), (47, .lload 4, 49, 0, 0, 0), (49, .aload_n 0, 50, 0, 0, 0), (50, .getfield 38, 53, 4, 8, 404), (53, .iload 6, 55, 0, 0, 0), (55, .aaload, 56, 0, 0, 0), (56, .iload 7, 58, 0, 0, 0), (58, .laload, 59, 0, 0, 0), (59, .invokestatic 61, 62, 22, 2, 943), (62, .lxor, 63, 0, 0, 0), (63, .lastore, 64, 0, 0, 0), (64, .iinc 7 1, 67, 0, 0, 0), (67, .goto (-35), 70, 32, 0, 0), (70, .lload 4, 72, 0, 0, 0), (72, .invokestatic 111, 75, 26, 1, 951), (75, .lstore 4, 77, 0, 0, 0), (77, .iinc 6 1, 80, 0, 0, 0), (80, .goto (-67), 83, 13, 0, 0), (83, .return_, 84, 0, 0, 0)]
noncomputable abbrev md_Po_sumTraces : pm_M := (⟨"TurnField$Polynomials", "sumTraces", "(JI)V"⟩, prog_7_method_14_code, 8, none, false, [0, 961, 118, 960, 23], cd_Po_sumTraces)
noncomputable def cd_Po_splitParts : List pm_I := [(0, .aload_n 0, 1, 0, 0, 0), (1, .getfield 55, 4, 4, 13, 409), (4, .istore_n 1, 5, 0, 0, 0), (5, .iconst 0, 6, 0, 0, 0), (6, .istore_n 2, 7, 0, 0, 0), (7, .iload_n 2, 8, 0, 0, 0), (8, .iload_n 1, 9, 0, 0, 0), (9, .if_icmp .ge 126, 12, 135, 0, 0), (12, .aload_n 0, 13, 0, 0, 0), (13, .getfield 55, 16, 4, 13, 409), (16, .aload_n 0, 17, 0, 0, 0), (17, .getfield 41, 20, 4, 9, 405), (20, .arraylength, 21, 0, 0, 0), (21, .if_icmp .ge 114, 24, 135, 0, 0), (24, .aload_n 0, 25, 0, 0, 0), (25, .getfield 41, 28, 4, 9, 405), (28, .aload_n 0, 29, 0, 0, 0), (29, .getfield 55, 32, 4, 13, 409), (32, .aaload, 33, 0, 0, 0), (33, .astore_n 3, 34, 0, 0, 0), (34, .aload_n 0, 35, 0, 0, 0), (35, .getfield 41, 38, 4, 9, 405), (38, .iload_n 2, 39, 0, 0, 0), (39, .aaload, 40, 0, 0, 0), (40, .aload_n 3, 41, 0, 0, 0), (41, .invokestatic 86, 44, 64, 2, 935), (44, .aload_n 0, 45, 0, 0, 0), (45, .getfield 27, 48, 4, 5, 401), (48, .aload_n 0, 49, 0, 0, 0), (49, .getfield 24, 52, 4, 4, 400), (52, .invokestatic 86, 55, 64, 2, 935), (55, .aload_n 3, 56, 0, 0, 0), (56, .aload_n 0, 57, 0, 0, 0), (57, .getfield 24, 60, 4, 4, 400), (60, .aload_n 0, 61, 0, 0, 0), (61, .getfield 30, 64, 4, 6, 402), (64, .invokestatic 90, 67, 68, 3, 955), (67, .aload_n 3, 68, 0, 0, 0), (68, .invokestatic 67, 71, 61, 1, 941), (71, .istore 4, 73, 0, 0, 0), (73, .iload 4, 75, 0, 0, 0), (75, .ifCond .le 54, 78, 129, 0, 0), (78, .iload 4, 80, 0, 0, 0), (80, .aload_n 0, 81, 0, 0, 0), (81, .getfield 41, 84, 4, 9, 405), (84, .iload_n 2, 85, 0, 0, 0), (85, .aaload, 86, 0, 0, 0), (86, .invokestatic 67, 89, 61, 1, 941), (89, .if_icmp .ge 40, 92, 129, 0, 0), (92, .aload_n 0, 93, 0, 0, 0), (93, .getfield 41, 96, 4, 9, 405), (96, .iload_n 2, 97, 0, 0, 0), (97, .aaload, 98, 0, 0, 0), (98, .aload_n 3, 99, 0, 0, 0), (99, .aload_n 0, 100, 0, 0, 0), (100, .getfield 33, 103, 4, 7, 403), (103, .invokestatic 82, 106, 67, 3, 952), (106, .aload_n 0, 107, 0, 0, 0), (107, .getfield 33, 110, 4, 7, 403), (110, .aload_n 0, 111, 0, 0, 0), (111, .getfield 41, 114, 4, 9, 405), (114, .iload_n 2, 115, 0, 0, 0), (115, .aaload, 116, 0, 0, 0), (116, .invokestatic 86, 119, 64, 2, 935), (119, .aload_n 0, 120, 0, 0, 0), (120, .dup, 121, 0, 0, 0), (121, .getfield 55, 124, 4, 13, 409), (124, .iconst 1, 125, 0, 0, 0), (125, .iadd, 126, 0, 0, 0), (126, .putfield 55, 129, 4, 13, 409), (129, .iinc 2 1, 132, 0, 0, 0), (132, .goto (-125), 135, 7, 0, 0), (135, .return_, 136, 0, 0, 0)]
noncomputable abbrev md_Po_splitParts : pm_M := (⟨"TurnField$Polynomials", "splitParts", "()V"⟩, prog_7_method_15_code, 5, none, false, [0, 965, 118, 964, 24], cd_Po_splitParts)
noncomputable def cd_Po_readResults : List pm_I := [(0, .aload_n 0, 1, 0, 0, 0), (1, .iconst 0, 2, 0, 0, 0), (2, .putfield 58, 5, 4, 14, 410), (5, .iconst 0, 6, 0, 0, 0), (6, .istore_n 1, 7, 0, 0, 0), (7, .iload_n 1, 8, 0, 0, 0), (8, .aload_n 0, 9, 0, 0, 0), (9, .getfield 55, 12, 4, 13, 409), (12, .if_icmp .ge 47, 15, 59, 0, 0), (15, .aload_n 0, 16, 0, 0, 0), (16, .getfield 58, 19, 4, 14, 410), (19, .aload_n 0, 20, 0, 0, 0), (20, .getfield 44, 23, 4, 10, 406), (23, .arraylength, 24, 0, 0, 0), (24, .if_icmp .ge 35, 27, 59, 0, 0), (27, .aload_n 0, 28, 0, 0, 0), (28, .getfield 41, 31, 4, 9, 405), (31, .iload_n 1, 32, 0, 0, 0), (32, .aaload, 33, 0, 0, 0), (33, .invokestatic 67, 36, 61, 1, 941), (36, .iconst 1, 37, 0, 0, 0), (37, .if_icmp .ne 16, 40, 53, 0, 0), (40, .aload_n 0, 41, 0, 0, 0), (41, .aload_n 0, 42, 0, 0, 0), (42, .getfield 41, 45, 4, 9, 405), (45, .iload_n 1, 46, 0, 0, 0), (46, .aaload, 47, 0, 0, 0), (47, .iconst 0, 48, 0, 0, 0), (48, .laload, 49, 0, 0, 0), (49, .l2i, 50, 0, 0, 0), (50, .invokevirtual 114, 53, 76, 2, 970), (53, .iinc 1 1, 56, 0, 0, 0), (56, .goto (-49), 59, 7, 0, 0), (59, .return_, 60, 0, 0, 0)]
noncomputable abbrev md_Po_readResults : pm_M := (⟨"TurnField$Polynomials", "readResults", "()V"⟩, prog_7_method_16_code, 2, none, false, [0, 969, 118, 968, 25], cd_Po_readResults)
noncomputable def cd_Po_insertResult : List pm_I := [(0, .aload_n 0, 1, 0, 0, 0), (1, .getfield 58, 4, 4, 14, 410), (4, .istore_n 2, 5, 0, 0, 0), (5, .iload_n 2, 6, 0, 0, 0), (6, .ifCond .le 35, 9, 41, 0, 0), (9, .aload_n 0, 10, 0, 0, 0), (10, .getfield 44, 13, 4, 10, 406), (13, .iload_n 2, 14, 0, 0, 0), (14, .iconst 1, 15, 0, 0, 0), (15, .isub, 16, 0, 0, 0), (16, .iaload, 17, 0, 0, 0), (17, .iload_n 1, 18, 0, 0, 0), (18, .if_icmp .le 23, 21, 41, 0, 0), (21, .aload_n 0, 22, 0, 0, 0), (22, .getfield 44, 25, 4, 10, 406), (25, .iload_n 2, 26, 0, 0, 0), (26, .aload_n 0, 27, 0, 0, 0), (27, .getfield 44, 30, 4, 10, 406), (30, .iload_n 2, 31, 0, 0, 0), (31, .iconst 1, 32, 0, 0, 0), (32, .isub, 33, 0, 0, 0), (33, .iaload, 34, 0, 0, 0), (34, .iastore, 35, 0, 0, 0), (35, .iinc 2 (-1), 38, 0, 0, 0), (38, .goto (-33), 41, 5, 0, 0), (41, .aload_n 0, 42, 0, 0, 0), (42, .getfield 44, 45, 4, 10, 406), (45, .iload_n 2, 46, 0, 0, 0), (46, .iload_n 1, 47, 0, 0, 0), (47, .iastore, 48, 0, 0, 0), (48, .aload_n 0, 49, 0, 0, 0), (49, .dup, 50, 0, 0, 0), (50, .getfield 58, 53, 4, 14, 410), (53, .iconst 1, 54, 0, 0, 0), (54, .iadd, 55, 0, 0, 0), (55, .putfield 58, 58, 4, 14, 410), (58, .return_, 59, 0, 0, 0)]
noncomputable abbrev md_Po_insertResult : pm_M := (⟨"TurnField$Polynomials", "insertResult", "(I)V"⟩, prog_7_method_17_code, 3, none, false, [0, 973, 118, 972, 26], cd_Po_insertResult)
noncomputable def cd_Po_rootAt : List pm_I := [(0, .iload_n 1, 1, 0, 0, 0), (1, .ifCond .lt 20, 4, 21, 0, 0), (4, .iload_n 1, 5, 0, 0, 0), (5, .aload_n 0, 6, 0, 0, 0), (6, .getfield 58, 9, 4, 14, 410), (9, .if_icmp .ge 12, 12, 21, 0, 0), (12, .aload_n 0, 13, 0, 0, 0), (13, .getfield 44, 16, 4, 10, 406), (16, .iload_n 1, 17, 0, 0, 0), (17, .iaload, 18, 0, 0, 0), (18, .goto 5, 21, 23, 0, 0), (21, .bipush (-2), 23, 0, 0, 0), (23, .ireturn, 24, 0, 0, 0)]
noncomputable abbrev md_Po_rootAt : pm_M := (⟨"TurnField$Polynomials", "rootAt", "(I)I"⟩, prog_7_method_18_code, 2, (some .int), false, [0, 977, 118, 975, 976], cd_Po_rootAt)
noncomputable def cd_Ps_init : List pm_I := [(0, .aload_n 0, 1, 0, 0, 0), (1, .invokespecial 1, 4, 1000, 1, 142), (4, .aload_n 0, 5, 0, 0, 0), (5, .iconst 3, 6, 0, 0, 0), (6, .putfield 7, 9, 5, 0, 143), (9, .aload_n 0, 10, 0, 0, 0), (10, .iconst 3, 11, 0, 0, 0), (11, .putfield 13, 14, 5, 1, 148), (14, .aload_n 0, 15, 0, 0, 0), (15, .iconst 0, 16, 0, 0, 0), (16, .putfield 16, 19, 5, 2, 153), (19, .aload_n 0, 20, 0, 0, 0), (20, .iconst 0, 21, 0, 0, 0), (21, .putfield 19, 24, 5, 3, 157), (24, .aload_n 0, 25, 0, 0, 0), (25, .iconst 2, 26, 0, 0, 0), (26, .putfield 22, 29, 5, 4, 161), (29, .aload_n 0, 30, 0, 0, 0), (30, .iconst 2, 31, 0, 0, 0), (31, .putfield 25, 34, 5, 5, 165), (34, .aload_n 0, 35, 0, 0, 0), (35, .lconst 0, 36, 0, 0, 0), (36, .putfield 28, 39, 5, 6, 169), (39, .aload_n 0, 40, 0, 0, 0), (40, .bipush 8, 42, 0, 0, 0), (42, .newarray .long, 44, 1, 0, 0), (44, .putfield 32, 47, 5, 7, 173), (47, .aload_n 0, 48, 0, 0, 0), (48, .iconst 1, 49, 0, 0, 0), (49, .putfield 36, 52, 5, 8, 175), (52, .aload_n 0, 53, 0, 0, 0), (53, .iconst 1, 54, 0, 0, 0), (54, .putfield 39, 57, 5, 9, 178), (57, .aload_n 0, 58, 0, 0, 0), (58, .bipush 16, 60, 0, 0, 0), (60, .newarray .long, 62, 1, 0, 0), (62, .putfield 42, 65, 5, 10, 181), (65, .aload_n 0, 66, 0, 0, 0), (66, .iconst 0, 67, 0, 0, 0), (67, .putfield 45, 70, 5, 11, 182), (70, .return_, 71, 0, 0, 0)]
noncomputable abbrev md_Ps_init : pm_M := (⟨"TurnField$Position", "<init>", "()V"⟩, prog_8_method_1_code, 1, none, true, [2, 141, 110, 140, 0], cd_Ps_init)
noncomputable def cd_Ps_becomeBoard : List pm_I := [(0, .aload_n 0, 1, 0, 0, 0), (1, .aload_n 1, 2, 0, 0, 0), (2, .getfield 7, 5, 5, 0, 143), (5, .putfield 7, 8, 5, 0, 143), (8, .aload_n 0, 9, 0, 0, 0), (9, .aload_n 1, 10, 0, 0, 0), (10, .getfield 13, 13, 5, 1, 148), (13, .putfield 13, 16, 5, 1, 148), (16, .aload_n 0, 17, 0, 0, 0), (17, .aload_n 1, 18, 0, 0, 0), (18, .getfield 16, 21, 5, 2, 153), (21, .putfield 16, 24, 5, 2, 153), (24, .aload_n 0, 25, 0, 0, 0), (25, .aload_n 1, 26, 0, 0, 0), (26, .getfield 19, 29, 5, 3, 157), (29, .putfield 19, 32, 5, 3, 157), (32, .aload_n 0, 33, 0, 0, 0), (33, .aload_n 1, 34, 0, 0, 0), (34, .getfield 22, 37, 5, 4, 161), (37, .putfield 22, 40, 5, 4, 161), (40, .aload_n 0, 41, 0, 0, 0), (41, .aload_n 1, 42, 0, 0, 0), (42, .getfield 25, 45, 5, 5, 165), (45, .putfield 25, 48, 5, 5, 165), (48, .aload_n 0, 49, 0, 0, 0), (49, .aload_n 1, 50, 0, 0, 0), (50, .getfield 28, 53, 5, 6, 169), (53, .putfield 28, 56, 5, 6, 169), (56, .return_, 57, 0, 0, 0)]
noncomputable abbrev md_Ps_becomeBoard : pm_M := (⟨"TurnField$Position", "becomeBoard", "(LTurnField$Position;)V"⟩, prog_8_method_2_code, 2, none, false, [0, 626, 110, 624, 625], cd_Ps_becomeBoard)
noncomputable def cd_Ps_become : List pm_I := [(0, .aload_n 0, 1, 0, 0, 0), (1, .aload_n 1, 2, 0, 0, 0), (2, .invokevirtual 49, 5, 79, 2, 623), (5, .iconst 0, 6, 0, 0, 0), (6, .istore_n 2, 7, 0, 0, 0), (7, .iload_n 2, 8, 0, 0, 0), (8, .aload_n 0, 9, 0, 0, 0), (9, .getfield 32, 12, 5, 7, 173), (12, .arraylength, 13, 0, 0, 0), (13, .if_icmp .ge 21, 16, 34, 0, 0), (16, .aload_n 0, 17, 0, 0, 0), (17, .getfield 32, 20, 5, 7, 173), (20, .iload_n 2, 21, 0, 0, 0), (21, .aload_n 1, 22, 0, 0, 0), (22, .getfield 32, 25, 5, 7, 173), (25, .iload_n 2, 26, 0, 0, 0), (26, .laload, 27, 0, 0, 0), (27, .lastore, 28, 0, 0, 0), (28, .iinc 2 1, 31, 0, 0, 0), (31, .goto (-24), 34, 7, 0, 0), (34, .aload_n 0, 35, 0, 0, 0), (35, .aload_n 1, 36, 0, 0, 0), (36, .getfield 36, 39, 5, 8, 175), (39, .putfield 36, 42, 5, 8, 175), (42, .aload_n 0, 43, 0, 0, 0), (43, .aload_n 1, 44, 0, 0, 0), (44, .getfield 39, 47, 5, 9, 178), (47, .putfield 39, 50, 5, 9, 178), (50, .iconst 0, 51, 0, 0, 0), (51, .istore_n 2, 52, 0, 0, 0), (52, .iload_n 2, 53, 0, 0, 0), (53, .aload_n 0, 54, 0, 0, 0), (54, .getfield 42, 57, 5, 10, 181), (57, .arraylength, 58, 0, 0, 0), (58, .if_icmp .ge 21, 61, 79, 0, 0), (61, .aload_n 0, 62, 0, 0, 0), (62, .getfield 42, 65, 5, 10, 181), (65, .iload_n 2, 66, 0, 0, 0), (66, .aload_n 1, 67, 0, 0, 0), (67, .getfield 42, 70, 5, 10, 181), (70, .iload_n 2, 71, 0, 0, 0), (71, .laload, 72, 0, 0, 0), (72, .lastore, 73, 0, 0, 0), (73, .iinc 2 1, 76, 0, 0, 0), (76, .goto (-24), 79, 52, 0, 0), (79, .return_, 80, 0, 0, 0)]
noncomputable abbrev md_Ps_become : pm_M := (⟨"TurnField$Position", "become", "(LTurnField$Position;)V"⟩, prog_8_method_3_code, 3, none, false, [0, 622, 110, 620, 621], cd_Ps_become)
noncomputable def cd_Ps_hasPlace : List pm_I := [(0, .iload_n 0, 1, 0, 0, 0), (1, .ifCond .lt 13, 4, 14, 0, 0), (4, .iload_n 0, 5, 0, 0, 0), (5, .bipush 8, 7, 0, 0, 0), (7, .if_icmp .ge 7, 10, 14, 0, 0), (10, .iconst 1, 11, 0, 0, 0), (11, .goto 4, 14, 15, 0, 0), (14, .iconst 0, 15, 0, 0, 0), (15, .ireturn, 16, 0, 0, 0)]
noncomputable abbrev md_Ps_hasPlace : pm_M := (⟨"TurnField$Position", "hasPlace", "(I)Z"⟩, prog_8_method_4_code, 1, (some .boolean), false, [1, 770, 110, 769, 0], cd_Ps_hasPlace)
noncomputable def cd_Ps_hasCell : List pm_I := [(0, .iload_n 1, 1, 0, 0, 0), (1, .ifCond .lt 27, 4, 28, 0, 0), (4, .iload_n 1, 5, 0, 0, 0), (5, .aload_n 0, 6, 0, 0, 0), (6, .getfield 7, 9, 5, 0, 143), (9, .if_icmp .ge 19, 12, 28, 0, 0), (12, .iload_n 2, 13, 0, 0, 0), (13, .ifCond .lt 15, 16, 28, 0, 0), (16, .iload_n 2, 17, 0, 0, 0), (17, .aload_n 0, 18, 0, 0, 0), (18, .getfield 13, 21, 5, 1, 148), (21, .if_icmp .ge 7, 24, 28, 0, 0), (24, .iconst 1, 25, 0, 0, 0), (25, .goto 4, 28, 29, 0, 0), (28, .iconst 0, 29, 0, 0, 0), (29, .ireturn, 30, 0, 0, 0)]
noncomputable abbrev md_Ps_hasCell : pm_M := (⟨"TurnField$Position", "hasCell", "(II)Z"⟩, prog_8_method_5_code, 3, (some .boolean), false, [0, 645, 110, 643, 644], cd_Ps_hasCell)
noncomputable def cd_Ps_bitOf : List pm_I := [(0, .lconst 1, 1, 0, 0, 0), (1, .bipush 6, 3, 0, 0, 0), (3, .iload_n 0, 4, 0, 0, 0), (4, .imul, 5, 0, 0, 0), (5, .iload_n 1, 6, 0, 0, 0), (6, .iadd, 7, 0, 0, 0), (7, .lshl, 8, 0, 0, 0), (8, .lreturn, 9, 0, 0, 0)]
noncomputable abbrev md_Ps_bitOf : pm_M := (⟨"TurnField$Position", "bitOf", "(II)J"⟩, prog_8_method_6_code, 2, (some .long), false, [1, 614, 110, 613, 0], cd_Ps_bitOf)
noncomputable def cd_Ps_bitsOf : List pm_I := [(0, .lconst 0, 1, 0, 0, 0), (1, .lstore_n 2, 2, 0, 0, 0), (2, .iconst 0, 3, 0, 0, 0), (3, .istore 4, 5, 0, 0, 0), (5, .iload 4, 7, 0, 0, 0), (7, .bipush 6, 9, 0, 0, 0), (9, .if_icmp .ge 29, 12, 38, 0, 0), (12, .iload_n 0, 13, 0, 0, 0), (13, .iload 4, 15, 0, 0, 0), (15, .ishr, 16, 0, 0, 0), (16, .iconst 1, 17, 0, 0, 0), (17, .iand, 18, 0, 0, 0), (18, .ifCond .eq 14, 21, 32, 0, 0), (21, .lload_n 2, 22, 0, 0, 0), (22, .iload_n 1, 23, 0, 0, 0), (23, .i2l, 24, 0, 0, 0), (24, .bipush 6, 26, 0, 0, 0), (26, .iload 4, 28, 0, 0, 0), (28, .imul, 29, 0, 0, 0), (29, .lshl, 30, 0, 0, 0), (30, .lor, 31, 0, 0, 0), (31, .lstore_n 2, 32, 0, 0, 0), (32, .iinc 4 1, 35, 0, 0, 0), (35, .goto (-30), 38, 5, 0, 0), (38, .lload_n 2, 39, 0, 0, 0), (39, .lreturn, 40, 0, 0, 0)]
noncomputable abbrev md_Ps_bitsOf : pm_M := (⟨"TurnField$Position", "bitsOf", "(II)J"⟩, prog_8_method_7_code, 5, (some .long), false, [1, 742, 110, 741, 0], cd_Ps_bitsOf)
noncomputable def cd_Ps_showsHeads : List pm_I := [(0, .aload_n 0, 1, 0, 0, 0), (1, .getfield 28, 4, 5, 6, 169), (4, .iload_n 1, 5, 0, 0, 0), (5, .iload_n 2, 6, 0, 0, 0), (6, .invokestatic 53, 9, 83, 2, 735), (9, .land, 10, 0, 0, 0), (10, .lconst 0, 11, 0, 0, 0), (11, .lcmp, 12, 0, 0, 0), (12, .ifCond .eq 7, 15, 19, 0, 0), (15, .iconst 1, 16, 0, 0, 0), (16, .goto 4, 19, 20, 0, 0), (19, .iconst 0, 20, 0, 0, 0), (20, .ireturn, 21, 0, 0, 0)]
noncomputable abbrev md_Ps_showsHeads : pm_M := (⟨"TurnField$Position", "showsHeads", "(II)Z"⟩, prog_8_method_8_code, 3, (some .boolean), false, [0, 734, 110, 732, 733], cd_Ps_showsHeads)
noncomputable def cd_Ps_headsShown : List pm_I := [(0, .aload_n 0, 1, 0, 0, 0), (1, .getfield 28, 4, 5, 6, 169), (4, .invokestatic 57, 7, 319, 1, 632), (7, .ireturn, 8, 0, 0, 0)]
noncomputable abbrev md_Ps_headsShown : pm_M := (⟨"TurnField$Position", "headsShown", "()I"⟩, prog_8_method_9_code, 1, (some .int), false, [0, 631, 110, 629, 630], cd_Ps_headsShown)
noncomputable def cd_Ps_headsOfRow : List pm_I := [(0, .aload_n 0, 1, 0, 0, 0), (1, .getfield 28, 4, 5, 6, 169), (4, .bipush 6, 6, 0, 0, 0), (6, .iload_n 1, 7, 0, 0, 0), (7, .imul, 8, 0, 0, 0), (8, .lushr, 9, 0, 0, 0), (9, .ldc2_w 63, 12, 0, 0, 759), (12, .land, 13, 0, 0, 0), (13, .l2i, 14, 0, 0, 0), (14, .ireturn, 15, 0, 0, 0)]
noncomputable abbrev md_Ps_headsOfRow : pm_M := (⟨"TurnField$Position", "headsOfRow", "(I)I"⟩, prog_8_method_10_code, 2, (some .int), false, [0, 758, 110, 756, 757], cd_Ps_headsOfRow)
noncomputable def cd_Ps_rowsWithHeads : List pm_I := [(0, .iconst 0, 1, 0, 0, 0), (1, .istore_n 1, 2, 0, 0, 0), (2, .iconst 0, 3, 0, 0, 0), (3, .istore_n 2, 4, 0, 0, 0), (4, .iload_n 2, 5, 0, 0, 0), (5, .aload_n 0, 6, 0, 0, 0), (6, .getfield 7, 9, 5, 0, 143), (9, .if_icmp .ge 27, 12, 36, 0, 0), (12, .iload_n 1, 13, 0, 0, 0), (13, .aload_n 0, 14, 0, 0, 0), (14, .iload_n 2, 15, 0, 0, 0), (15, .invokevirtual 65, 18, 87, 2, 1275), (18, .ifCond .eq 9, 21, 27, 0, 0), (21, .iconst 1, 22, 0, 0, 0), (22, .iload_n 2, 23, 0, 0, 0), (23, .ishl, 24, 0, 0, 0), (24, .goto 4, 27, 28, 0, 0), (27, .iconst 0, 28, 0, 0, 0), (28, .ior, 29, 0, 0, 0), (29, .istore_n 1, 30, 0, 0, 0), (30, .iinc 2 1, 33, 0, 0, 0), (33, .goto (-29), 36, 4, 0, 0), (36, .iload_n 1, 37, 0, 0, 0), (37, .ireturn, 38, 0, 0, 0)]
noncomputable abbrev md_Ps_rowsWithHeads : pm_M := (⟨"TurnField$Position", "rowsWithHeads", "()I"⟩, prog_8_method_11_code, 3, (some .int), false, [0, 1274, 110, 1272, 1273], cd_Ps_rowsWithHeads)
noncomputable def cd_Ps_columnsWithHeads : List pm_I := [(0, .iconst 0, 1, 0, 0, 0), (1, .istore_n 1, 2, 0, 0, 0), (2, .iconst 0, 3, 0, 0, 0), (3, .istore_n 2, 4, 0, 0, 0), (4, .iload_n 2, 5, 0, 0, 0), (5, .aload_n 0, 6, 0, 0, 0), (6, .getfield 7, 9, 5, 0, 143), (9, .if_icmp .ge 17, 12, 26, 0, 0), (12, .iload_n 1, 13, 0, 0, 0), (13, .aload_n 0, 14, 0, 0, 0), (14, .iload_n 2, 15, 0, 0, 0), (15, .invokevirtual 65, 18, 87, 2, 1275), (18, .ior, 19, 0, 0, 0), (19, .istore_n 1, 20, 0, 0, 0), (20, .iinc 2 1, 23, 0, 0, 0), (23, .goto (-19), 26, 4, 0, 0), (26, .iload_n 1, 27, 0, 0, 0), (27, .ireturn, 28, 0, 0, 0)]
noncomputable abbrev md_Ps_columnsWithHeads : pm_M := (⟨"TurnField$Position", "columnsWithHeads", "()I"⟩, prog_8_method_12_code, 3, (some .int), false, [0, 1279, 110, 1277, 1278], cd_Ps_columnsWithHeads)
noncomputable def cd_Ps_rulesKey : List pm_I := [(0, .aload_n 0, 1, 0, 0, 0), (1, .getfield 7, 4, 5, 0, 143), (4, .iconst 3, 5, 0, 0, 0), (5, .ishl, 6, 0, 0, 0), (6, .aload_n 0, 7, 0, 0, 0), (7, .getfield 13, 10, 5, 1, 148), (10, .ior, 11, 0, 0, 0), (11, .istore_n 1, 12, 0, 0, 0), (12, .aload_n 0, 13, 0, 0, 0), (13, .getfield 16, 16, 5, 2, 153), (16, .iconst 2, 17, 0, 0, 0), (17, .ishl, 18, 0, 0, 0), (18, .aload_n 0, 19, 0, 0, 0), (19, .getfield 19, 22, 5, 3, 157), (22, .ior, 23, 0, 0, 0), (23, .istore_n 2, 24, 0, 0, 0), (24, .iload_n 1, 25, 0, 0, 0), (25, .bipush 12, 27, 0, 0, 0), (27, .ishl, 28, 0, 0, 0), (28, .iload_n 2, 29, 0, 0, 0), (29, .bipush 8, 31, 0, 0, 0), (31, .ishl, 32, 0, 0, 0), (32, .ior, 33, 0, 0, 0), (33, .aload_n 0, 34, 0, 0, 0), (34, .getfield 22, 37, 5, 4, 161), (37, .iconst 4, 38, 0, 0, 0), (38, .ishl, 39, 0, 0, 0), (39, .ior, 40, 0, 0, 0), (40, .aload_n 0, 41, 0, 0, 0), (41, .getfield 25, 44, 5, 5, 165), (44, .ior, 45, 0, 0, 0), (45, .ireturn, 46, 0, 0, 0)]
noncomputable abbrev md_Ps_rulesKey : pm_M := (⟨"TurnField$Position", "rulesKey", "()I"⟩, prog_8_method_13_code, 3, (some .int), false, [0, 658, 110, 656, 657], cd_Ps_rulesKey)
noncomputable def cd_Ps_hasEntry : List pm_I := [(0, .iload_n 1, 1, 0, 0, 0), (1, .ifCond .lt 27, 4, 28, 0, 0), (4, .iload_n 1, 5, 0, 0, 0), (5, .aload_n 0, 6, 0, 0, 0), (6, .getfield 36, 9, 5, 8, 175), (9, .if_icmp .ge 19, 12, 28, 0, 0), (12, .iload_n 2, 13, 0, 0, 0), (13, .ifCond .lt 15, 16, 28, 0, 0), (16, .iload_n 2, 17, 0, 0, 0), (17, .aload_n 0, 18, 0, 0, 0), (18, .getfield 39, 21, 5, 9, 178), (21, .if_icmp .ge 7, 24, 28, 0, 0), (24, .iconst 1, 25, 0, 0, 0), (25, .goto 4, 28, 29, 0, 0), (28, .iconst 0, 29, 0, 0, 0), (29, .ireturn, 30, 0, 0, 0)]
noncomputable abbrev md_Ps_hasEntry : pm_M := (⟨"TurnField$Position", "hasEntry", "(II)Z"⟩, prog_8_method_14_code, 3, (some .boolean), false, [0, 832, 110, 830, 831], cd_Ps_hasEntry)
noncomputable def cd_Ps_entryAt : List pm_I := [(0, .aload_n 0, 1, 0, 0, 0), (1, .iload_n 1, 2, 0, 0, 0), (2, .iload_n 2, 3, 0, 0, 0), (3, .invokevirtual 69, 6, 91, 3, 837), (6, .ifCond .eq 16, 9, 22, 0, 0), (9, .aload_n 0, 10, 0, 0, 0), (10, .getfield 42, 13, 5, 10, 181), (13, .iconst 4, 14, 0, 0, 0), (14, .iload_n 1, 15, 0, 0, 0), (15, .imul, 16, 0, 0, 0), (16, .iload_n 2, 17, 0, 0, 0), (17, .iadd, 18, 0, 0, 0), (18, .laload, 19, 0, 0, 0), (19, .goto 4, 22, 23, 0, 0), (22, .lconst 0, 23, 0, 0, 0), (23, .lreturn, 24, 0, 0, 0)]
noncomputable abbrev md_Ps_entryAt : pm_M := (⟨"TurnField$Position", "entryAt", "(II)J"⟩, prog_8_method_15_code, 3, (some .long), false, [0, 836, 110, 834, 835], cd_Ps_entryAt)
noncomputable def cd_Ps_setEntry : List pm_I := [(0, .aload_n 0, 1, 0, 0, 0), (1, .iload_n 1, 2, 0, 0, 0), (2, .iload_n 2, 3, 0, 0, 0), (3, .invokevirtual 69, 6, 91, 3, 837), (6, .ifCond .eq 14, 9, 20, 0, 0), (9, .aload_n 0, 10, 0, 0, 0), (10, .getfield 42, 13, 5, 10, 181), (13, .iconst 4, 14, 0, 0, 0), (14, .iload_n 1, 15, 0, 0, 0), (15, .imul, 16, 0, 0, 0), (16, .iload_n 2, 17, 0, 0, 0), (17, .iadd, 18, 0, 0, 0), (18, .lload_n 3, 19, 0, 0, 0), (19, .lastore, 20, 0, 0, 0), (20, .return_, 21, 0, 0, 0)]
noncomputable abbrev md_Ps_setEntry : pm_M := (⟨"TurnField$Position", "setEntry", "(IIJ)V"⟩, prog_8_method_16_code, 5, none, false, [0, 841, 110, 839, 840], cd_Ps_setEntry)
noncomputable def cd_Ps_clearGrid : List pm_I := [(0, .aload_n 0, 1, 0, 0, 0), (1, .iload_n 1, 2, 0, 0, 0), (2, .putfield 36, 5, 5, 8, 175), (5, .aload_n 0, 6, 0, 0, 0), (6, .iload_n 2, 7, 0, 0, 0), (7, .putfield 39, 10, 5, 9, 178), (10, .iconst 0, 11, 0, 0, 0), (11, .istore_n 3, 12, 0, 0, 0), (12, .iload_n 3, 13, 0, 0, 0), (13, .aload_n 0, 14, 0, 0, 0), (14, .getfield 42, 17, 5, 10, 181), (17, .arraylength, 18, 0, 0, 0), (18, .if_icmp .ge 16, 21, 34, 0, 0), (21, .aload_n 0, 22, 0, 0, 0), (22, .getfield 42, 25, 5, 10, 181), (25, .iload_n 3, 26, 0, 0, 0), (26, .lconst 0, 27, 0, 0, 0), (27, .lastore, 28, 0, 0, 0), (28, .iinc 3 1, 31, 0, 0, 0), (31, .goto (-19), 34, 12, 0, 0), (34, .return_, 35, 0, 0, 0)]
noncomputable abbrev md_Ps_clearGrid : pm_M := (⟨"TurnField$Position", "clearGrid", "(II)V"⟩, prog_8_method_17_code, 4, none, false, [0, 824, 110, 822, 823], cd_Ps_clearGrid)
noncomputable def cd_Ru_init : List pm_I := [(0, .aload_n 0, 1, 0, 0, 0), (1, .invokespecial 3, 4, 1000, 1, 268), (4, .aload_n 0, 5, 0, 0, 0), (5, .bipush 12, 7, 0, 0, 0), (7, .newarray .int, 9, 0, 0, 0), (9, .putfield 11, 12, 6, 0, 269), (12, .aload_n 0, 13, 0, 0, 0), (13, .bipush 12, 15, 0, 0, 0), (15, .newarray .int, 17, 0, 0, 0), (17, .putfield 15, 20, 6, 1, 270), (20, .aload_n 0, 21, 0, 0, 0), (21, .sipush 2048, 24, 0, 0, 0), (24, .newarray .int, 26, 0, 0, 0), (26, .putfield 18, 29, 6, 2, 271), (29, .aload_n 0, 30, 0, 0, 0), (30, .bipush 64, 32, 0, 0, 0), (32, .newarray .long, 34, 1, 0, 0), (34, .putfield 21, 37, 6, 3, 272), (37, .aload_n 0, 38, 0, 0, 0), (38, .iconst (-1), 39, 0, 0, 0), (39, .putfield 25, 42, 6, 4, 273), (42, .aload_n 0, 43, 0, 0, 0), (43, .iconst 0, 44, 0, 0, 0), (44, .putfield 29, 47, 6, 5, 274), (47, .return_, 48, 0, 0, 0)]
noncomputable abbrev md_Ru_init : pm_M := (⟨"TurnField$Rule", "<init>", "()V"⟩, prog_9_method_1_code, 1, none, true, [2, 267, 114, 266, 0], cd_Ru_init)
noncomputable def cd_Ru_tune : List pm_I := [(0, .aload_n 0, 1, 0, 0, 0), (1, .getfield 25, 4, 6, 4, 273), (4, .iload_n 1, 5, 0, 0, 0), (5, .if_icmp .ne 12, 8, 17, 0, 0), (8, .aload_n 0, 9, 0, 0, 0), (9, .getfield 29, 12, 6, 5, 274), (12, .iload_n 2, 13, 0, 0, 0), (13, .if_icmp .ne 4, 16, 17, 0, 0), (16, .return_, 17, 0, 0, 0), (17, .aload_n 0, 18, 0, 0, 0), (18, .iload_n 1, 19, 0, 0, 0), (19, .putfield 25, 22, 6, 4, 273), (22, .aload_n 0, 23, 0, 0, 0), (23, .iload_n 2, 24, 0, 0, 0), (24, .putfield 29, 27, 6, 5, 274), (27, .iconst 0, 28, 0, 0, 0), (28, .istore_n 3, 29, 0, 0, 0), (29, .iload_n 3, 30, 0, 0, 0), (30, .bipush 12, 32, 0, 0, 0), (32, .if_icmp .ge 14, 35, 46, 0, 0), (35, .aload_n 0, 36, 0, 0, 0), (36, .iload_n 3, 37, 0, 0, 0), (37, .invokevirtual 32, 40, 97, 2, 663), (40, .iinc 3 1, 43, 0, 0, 0), (43, .goto (-14), 46, 29, 0, 0), (46, .return_, 47, 0, 0, 0)]
noncomputable abbrev md_Ru_tune : pm_M := (⟨"TurnField$Rule", "tune", "(II)V"⟩, prog_9_method_2_code, 4, none, false, [0, 662, 114, 660, 661], cd_Ru_tune)
noncomputable def cd_Ru_weigh : List pm_I := [(0, .iconst 0, 1, 0, 0, 0), (1, .istore_n 2, 2, 0, 0, 0), (2, .iload_n 2, 3, 0, 0, 0), (3, .aload_n 0, 4, 0, 0, 0), (4, .getfield 21, 7, 6, 3, 272), (7, .arraylength, 8, 0, 0, 0), (8, .if_icmp .ge 16, 11, 24, 0, 0), (11, .aload_n 0, 12, 0, 0, 0), (12, .getfield 21, 15, 6, 3, 272), (15, .iload_n 2, 16, 0, 0, 0), (16, .lconst 0, 17, 0, 0, 0), (17, .lastore, 18, 0, 0, 0), (18, .iinc 2 1, 21, 0, 0, 0), (21, .goto (-19), 24, 2, 0, 0), (24, .aload_n 0, 25, 0, 0, 0), (25, .getfield 15, 28, 6, 1, 270), (28, .iload_n 1, 29, 0, 0, 0), (29, .iconst 0, 30, 0, 0, 0), (30, .iastore, 31, 0, 0, 0), (31, .iconst 1, 32, 0, 0, 0), (32, .iload_n 1, 33, 0, 0, 0), (33, .ishl, 34, 0, 0, 0), (34, .istore_n 2, 35, 0, 0, 0), (35, .iconst 0, 36, 0, 0, 0), (36, .istore_n 3, 37, 0, 0, 0), (37, .iload_n 3, 38, 0, 0, 0), (38, .iload_n 2, 39, 0, 0, 0), (39, .if_icmp .ge 60, 42, 99, 0, 0), (42, .aload_n 0, 43, 0, 0, 0), (43, .iload_n 2, 44, 0, 0, 0), (44, .iload_n 3, 45, 0, 0, 0), (45, .ior, 46, 0, 0, 0), (46, .invokevirtual 36, 49, 99, 2, 667), (49, .ifCond .eq 44, 52, 93, 0, 0), (52, .aload_n 0, 53, 0, 0, 0), (53, .getfield 15, 56, 6, 1, 270), (56, .iload_n 1, 57, 0, 0, 0), (57, .dup2, 58, 0, 0, 0), (58, .iaload, 59, 0, 0, 0), (59, .iconst 1, 60, 0, 0, 0), (60, .iadd, 61, 0, 0, 0), (61, .iastore, 62, 0, 0, 0), (62, .aload_n 0, 63, 0, 0, 0), (63, .getfield 21, 66, 6, 3, 272), (66, .aload_n 0, 67, 0, 0, 0), (67, .getfield 18, 70, 6, 2, 271), (70, .iload_n 3, 71, 0, 0, 0), (71, .iaload, 72, 0, 0, 0), (72, .bipush 6, 74, 0, 0, 0), (74, .ishr, 75, 0, 0, 0), (75, .bipush 63, 77, 0, 0, 0), (77, .iand, 78, 0, 0, 0), (78, .dup2, 79, 0, 0, 0), (79, .laload, 80, 0, 0, 0), (80, .lconst 1, 81, 0, 0, 0), (81, .aload_n 0, 82, 0, 0, 0), (82, .getfield 18, 85, 6, 2, 271), (85, .iload_n 3, 86, 0, 0, 0), (86, .iaload, 87, 0, 0, 0), (87, .bipush 63, 89, 0, 0, 0), (89, .iand, 90, 0, 0, 0), (90, .lshl, 91, 0, 0, 0), (91, .lor, 92, 0, 0, 0), (92, .lastore, 93, 0, 0, 0), (93, .iinc 3 1, 96, 0, 0, 0), (96, .goto (-59), 99, 37, 0, 0), (99, .aload_n 0, 100, 0, 0, 0), (100, .getfield 11, 103, 6, 0, 269), (103, .iload_n 1, 104, 0, 0, 0), (104, .aload_n 0, 105, 0, 0, 0), (105, .invokevirtual 40, 108, 98, 1, 681), (108, .iastore, 109, 0, 0, 0), (109, .iconst 0, 110, 0, 0, 0), (110, .istore_n 3, 111, 0, 0, 0), (111, .iload_n 3, 112, 0, 0, 0), (112, .iload_n 2, 113, 0, 0, 0), (113, .if_icmp .ge 36, 116, 149, 0, 0), (116, .iload_n 1, 117, 0, 0, 0), (117, .bipush 11, 119, 0, 0, 0), (119, .if_icmp .ge 30, 122, 149, 0, 0), (122, .aload_n 0, 123, 0, 0, 0), (123, .getfield 18, 126, 6, 2, 271), (126, .iload_n 2, 127, 0, 0, 0), (127, .iload_n 3, 128, 0, 0, 0), (128, .ior, 129, 0, 0, 0), (129, .aload_n 0, 130, 0, 0, 0), (130, .getfield 18, 133, 6, 2, 271), (133, .iload_n 3, 134, 0, 0, 0), (134, .iaload, 135, 0, 0, 0), (135, .aload_n 0, 136, 0, 0, 0), (136, .getfield 11, 139, 6, 0, 269), (139, .iload_n 1, 140, 0, 0, 0), (140, .iaload, 141, 0, 0, 0), (141, .ixor, 142, 0, 0, 0), (142, .iastore, 143, 0, 0, 0), (143, .iinc 3 1, 146, 0, 0, 0), (146, .goto (-35), 149, 111, 0, 0), (149, .return_, 150, 0, 0, 0)]
noncomputable abbrev md_Ru_weigh : pm_M := (⟨"TurnField$Rule", "weigh", "(I)V"⟩, prog_9_method_3_code, 4, none, false, [0, 666, 114, 665, 8], cd_Ru_weigh)
noncomputable def cd_Ru_leastUnmet : List pm_I := [(0, .iconst 0, 1, 0, 0, 0), (1, .istore_n 1, 2, 0, 0, 0), (2, .iload_n 1, 3, 0, 0, 0), (3, .sipush 4096, 6, 0, 0, 0), (6, .if_icmp .ge 32, 9, 38, 0, 0), (9, .aload_n 0, 10, 0, 0, 0), (10, .getfield 21, 13, 6, 3, 272), (13, .iload_n 1, 14, 0, 0, 0), (14, .bipush 6, 16, 0, 0, 0), (16, .ishr, 17, 0, 0, 0), (17, .laload, 18, 0, 0, 0), (18, .iload_n 1, 19, 0, 0, 0), (19, .bipush 63, 21, 0, 0, 0), (21, .iand, 22, 0, 0, 0), (22, .lushr, 23, 0, 0, 0), (23, .lconst 1, 24, 0, 0, 0), (24, .land, 25, 0, 0, 0), (25, .lconst 0, 26, 0, 0, 0), (26, .lcmp, 27, 0, 0, 0), (27, .ifCond .ne 5, 30, 32, 0, 0), (30, .iload_n 1, 31, 0, 0, 0), (31, .ireturn, 32, 0, 0, 0), (32, .iinc 1 1, 35, 0, 0, 0), (35, .goto (-33), 38, 2, 0, 0), (38, .iconst 0, 39, 0, 0, 0), (39, .ireturn, 40, 0, 0, 0)]
noncomputable abbrev md_Ru_leastUnmet : pm_M := (⟨"TurnField$Rule", "leastUnmet", "()I"⟩, prog_9_method_4_code, 2, (some .int), false, [0, 684, 114, 683, 10], cd_Ru_leastUnmet)
noncomputable def cd_Ru_allows : List pm_I := [(0, .iload_n 1, 1, 0, 0, 0), (1, .invokestatic 44, 4, 318, 1, 671), (4, .istore_n 2, 5, 0, 0, 0), (5, .aload_n 0, 6, 0, 0, 0), (6, .getfield 25, 9, 6, 4, 273), (9, .tableswitch 90 0 2 #[27, 46, 60], 36, 0, 0, 0), (36, .iload_n 2, 37, 0, 0, 0), (37, .iconst 1, 38, 0, 0, 0), (38, .if_icmp .lt 15, 41, 53, 0, 0), (41, .iload_n 2, 42, 0, 0, 0), (42, .aload_n 0, 43, 0, 0, 0), (43, .getfield 29, 46, 6, 5, 274), (46, .if_icmp .gt 7, 49, 53, 0, 0), (49, .iconst 1, 50, 0, 0, 0), (50, .goto 4, 53, 54, 0, 0), (53, .iconst 0, 54, 0, 0, 0), (54, .ireturn, 55, 0, 0, 0), (55, .iload_n 2, 56, 0, 0, 0), (56, .aload_n 0, 57, 0, 0, 0), (57, .getfield 29, 60, 6, 5, 274), (60, .if_icmp .ne 7, 63, 67, 0, 0), (63, .iconst 1, 64, 0, 0, 0), (64, .goto 4, 67, 68, 0, 0), (67, .iconst 0, 68, 0, 0, 0), (68, .ireturn, 69, 0, 0, 0), (69, .iload_n 2, 70, 0, 0, 0), (70, .iconst 1, 71, 0, 0, 0), (71, .if_icmp .lt 26, 74, 97, 0, 0), (74, .iload_n 2, 75, 0, 0, 0), (75, .aload_n 0, 76, 0, 0, 0), (76, .getfield 29, 79, 6, 5, 274), (79, .if_icmp .gt 18, 82, 97, 0, 0), (82, .iload_n 1, 83, 0, 0, 0), (83, .iload_n 1, 84, 0, 0, 0), (84, .iload_n 1, 85, 0, 0, 0), (85, .iload_n 1, 86, 0, 0, 0), (86, .ineg, 87, 0, 0, 0), (87, .iand, 88, 0, 0, 0), (88, .iadd, 89, 0, 0, 0), (89, .iand, 90, 0, 0, 0), (90, .ifCond .ne 7, 93, 97, 0, 0), (93, .iconst 1, 94, 0, 0, 0), (94, .goto 4, 97, 98, 0, 0), (97, .iconst 0, 98, 0, 0, 0), (98, .ireturn, 99, 0, 0, 0), (99, .iload_n 2, 100, 0, 0, 0), (100, .iconst 1, 101, 0, 0, 0), (101, .if_icmp .eq 16, 104, 117, 0, 0), (104, .iload_n 2, 105, 0, 0, 0), (105, .iconst 2, 106, 0, 0, 0), (106, .if_icmp .ne 15, 109, 121, 0, 0), (109, .aload_n 0, 110, 0, 0, 0), (110, .iload_n 1, 111, 0, 0, 0), (111, .invokevirtual 50, 114, 100, 2, 677), (114, .ifCond .eq 7, 117, 121, 0, 0), (117, .iconst 1, 118, 0, 0, 0), (118, .goto 4, 121, 122, 0, 0), (121, .iconst 0, 122, 0, 0, 0), (122, .ireturn, 123, 0, 0, 0)]
noncomputable abbrev md_Ru_allows : pm_M := (⟨"TurnField$Rule", "allows", "(I)Z"⟩, prog_9_method_5_code, 3, (some .boolean), false, [0, 670, 114, 668, 669], cd_Ru_allows)
noncomputable def cd_Ru_areNear : List pm_I := [(0, .iload_n 1, 1, 0, 0, 0), (1, .iload_n 1, 2, 0, 0, 0), (2, .ineg, 3, 0, 0, 0), (3, .iand, 4, 0, 0, 0), (4, .istore_n 2, 5, 0, 0, 0), (5, .iload_n 1, 6, 0, 0, 0), (6, .iload_n 2, 7, 0, 0, 0), (7, .ixor, 8, 0, 0, 0), (8, .istore_n 3, 9, 0, 0, 0), (9, .iload_n 2, 10, 0, 0, 0), (10, .aload_n 0, 11, 0, 0, 0), (11, .getfield 29, 14, 6, 5, 274), (14, .ishl, 15, 0, 0, 0), (15, .iload_n 3, 16, 0, 0, 0), (16, .if_icmp .lt 7, 19, 23, 0, 0), (19, .iconst 1, 20, 0, 0, 0), (20, .goto 4, 23, 24, 0, 0), (23, .iconst 0, 24, 0, 0, 0), (24, .ireturn, 25, 0, 0, 0)]
noncomputable abbrev md_Ru_areNear : pm_M := (⟨"TurnField$Rule", "areNear", "(I)Z"⟩, prog_9_method_6_code, 4, (some .boolean), false, [0, 680, 114, 679, 9], cd_Ru_areNear)
noncomputable def cd_Ru_worthOf : List pm_I := [(0, .iload_n 1, 1, 0, 0, 0), (1, .ifCond .lt 18, 4, 19, 0, 0), (4, .iload_n 1, 5, 0, 0, 0), (5, .bipush 12, 7, 0, 0, 0), (7, .if_icmp .ge 12, 10, 19, 0, 0), (10, .aload_n 0, 11, 0, 0, 0), (11, .getfield 11, 14, 6, 0, 269), (14, .iload_n 1, 15, 0, 0, 0), (15, .iaload, 16, 0, 0, 0), (16, .goto 4, 19, 20, 0, 0), (19, .iconst (-1), 20, 0, 0, 0), (20, .ireturn, 21, 0, 0, 0)]
noncomputable abbrev md_Ru_worthOf : pm_M := (⟨"TurnField$Rule", "worthOf", "(I)I"⟩, prog_9_method_7_code, 2, (some .int), false, [0, 692, 114, 690, 691], cd_Ru_worthOf)
noncomputable def cd_Ru_setsOf : List pm_I := [(0, .iload_n 1, 1, 0, 0, 0), (1, .ifCond .lt 18, 4, 19, 0, 0), (4, .iload_n 1, 5, 0, 0, 0), (5, .bipush 12, 7, 0, 0, 0), (7, .if_icmp .ge 12, 10, 19, 0, 0), (10, .aload_n 0, 11, 0, 0, 0), (11, .getfield 15, 14, 6, 1, 270), (14, .iload_n 1, 15, 0, 0, 0), (15, .iaload, 16, 0, 0, 0), (16, .goto 4, 19, 20, 0, 0), (19, .iconst (-1), 20, 0, 0, 0), (20, .ireturn, 21, 0, 0, 0)]
noncomputable abbrev md_Ru_setsOf : pm_M := (⟨"TurnField$Rule", "setsOf", "(I)I"⟩, prog_9_method_8_code, 2, (some .int), false, [0, 1266, 114, 1264, 1265], cd_Ru_setsOf)
noncomputable def cd_Sp_init : List pm_I := [(0, .aload_n 0, 1, 0, 0, 0), (1, .invokespecial 1, 4, 1000, 1, 359), (4, .aload_n 0, 5, 0, 0, 0), (5, .bipush 64, 7, 0, 0, 0), (7, .newarray .long, 9, 1, 0, 0), (9, .putfield 7, 12, 7, 0, 360), (12, .aload_n 0, 13, 0, 0, 0), (13, .bipush 64, 15, 0, 0, 0), (15, .newarray .long, 17, 1, 0, 0), (17, .putfield 13, 20, 7, 1, 361), (20, .return_, 21, 0, 0, 0)]
noncomputable abbrev md_Sp_init : pm_M := (⟨"TurnField$Span", "<init>", "()V"⟩, prog_10_method_1_code, 1, none, true, [2, 358, 116, 357, 0], cd_Sp_init)
noncomputable def cd_Sp_leastPolynomial : List pm_I := [(0, .aload_n 0, 1, 0, 0, 0), (1, .invokevirtual 16, 4, 105, 1, 1121), (4, .iconst 1, 5, 0, 0, 0), (5, .lload_n 1, 6, 0, 0, 0), (6, .invokestatic 19, 9, 21, 1, 1125), (9, .ishl, 10, 0, 0, 0), (10, .istore_n 3, 11, 0, 0, 0), (11, .lconst 1, 12, 0, 0, 0), (12, .lstore 4, 14, 0, 0, 0), (14, .iconst 0, 15, 0, 0, 0), (15, .istore 6, 17, 0, 0, 0), (17, .iload 6, 19, 0, 0, 0), (19, .iload_n 3, 20, 0, 0, 0), (20, .if_icmp .ge 27, 23, 47, 0, 0), (23, .aload_n 0, 24, 0, 0, 0), (24, .lload 4, 26, 0, 0, 0), (26, .lconst 1, 27, 0, 0, 0), (27, .iload 6, 29, 0, 0, 0), (29, .lshl, 30, 0, 0, 0), (30, .invokevirtual 25, 33, 106, 3, 1126), (33, .lload 4, 35, 0, 0, 0), (35, .lload_n 1, 36, 0, 0, 0), (36, .invokestatic 29, 39, 22, 2, 1130), (39, .lstore 4, 41, 0, 0, 0), (41, .iinc 6 1, 44, 0, 0, 0), (44, .goto (-27), 47, 17, 0, 0), (47, .aload_n 0, 48, 0, 0, 0), (48, .lload 4, 50, 0, 0, 0), (50, .invokevirtual 33, 53, 107, 2, 1131), (53, .lreturn, 54, 0, 0, 0)]
noncomputable abbrev md_Sp_leastPolynomial : pm_M := (⟨"TurnField$Span", "leastPolynomial", "(J)J"⟩, prog_10_method_2_code, 7, (some .long), false, [0, 1120, 116, 1118, 1119], cd_Sp_leastPolynomial)
noncomputable def cd_Sp_clear : List pm_I := [(0, .iconst 0, 1, 0, 0, 0), (1, .istore_n 1, 2, 0, 0, 0), (2, .iload_n 1, 3, 0, 0, 0), (3, .aload_n 0, 4, 0, 0, 0), (4, .getfield 7, 7, 7, 0, 360), (7, .arraylength, 8, 0, 0, 0), (8, .if_icmp .ge 16, 11, 24, 0, 0), (11, .aload_n 0, 12, 0, 0, 0), (12, .getfield 7, 15, 7, 0, 360), (15, .iload_n 1, 16, 0, 0, 0), (16, .lconst 0, 17, 0, 0, 0), (17, .lastore, 18, 0, 0, 0), (18, .iinc 1 1, 21, 0, 0, 0), (21, .goto (-19), 24, 2, 0, 0), (24, .return_, 25, 0, 0, 0)]
noncomputable abbrev md_Sp_clear : pm_M := (⟨"TurnField$Span", "clear", "()V"⟩, prog_10_method_3_code, 2, none, false, [0, 1124, 116, 1123, 31], cd_Sp_clear)
noncomputable def cd_Sp_add : List pm_I := [(0, .lload_n 1, 1, 0, 0, 0), (1, .lstore 5, 3, 0, 0, 0), (3, .lload_n 3, 4, 0, 0, 0), (4, .lstore 7, 6, 0, 0, 0), (6, .bipush 63, 8, 0, 0, 0), (8, .istore 9, 10, 0, 0, 0), (10, .iload 9, 12, 0, 0, 0), (12, .ifCond .lt 76, 15, 88, 0, 0), (15, .lload 5, 17, 0, 0, 0), (17, .iload 9, 19, 0, 0, 0), (19, .lushr, 20, 0, 0, 0), (20, .lconst 1, 21, 0, 0, 0), (21, .land, 22, 0, 0, 0), (22, .lconst 0, 23, 0, 0, 0), (23, .lcmp, 24, 0, 0, 0), (24, .ifCond .eq 58, 27, 82, 0, 0), (27, .aload_n 0, 28, 0, 0, 0), (28, .getfield 7, 31, 7, 0, 360), (31, .iload 9, 33, 0, 0, 0), (33, .laload, 34, 0, 0, 0), (34, .lconst 0, 35, 0, 0, 0), (35, .lcmp, 36, 0, 0, 0), (36, .ifCond .ne 22, 39, 58, 0, 0), (39, .aload_n 0, 40, 0, 0, 0), (40, .getfield 7, 43, 7, 0, 360), (43, .iload 9, 45, 0, 0, 0), (45, .lload 5, 47, 0, 0, 0), (47, .lastore, 48, 0, 0, 0), (48, .aload_n 0, 49, 0, 0, 0), (49, .getfield 13, 52, 7, 1, 361), (52, .iload 9, 54, 0, 0, 0), (54, .lload 7, 56, 0, 0, 0), (56, .lastore, 57, 0, 0, 0), (57, .return_, 58, 0, 0, 0), (58, .lload 5, 60, 0, 0, 0), (60, .aload_n 0, 61, 0, 0, 0), (61, .getfield 7, 64, 7, 0, 360), (64, .iload 9, 66, 0, 0, 0), (66, .laload, 67, 0, 0, 0), (67, .lxor, 68, 0, 0, 0), (68, .lstore 5, 70, 0, 0, 0), (70, .lload 7, 72, 0, 0, 0), (72, .aload_n 0, 73, 0, 0, 0), (73, .getfield 13, 76, 7, 1, 361), (76, .iload 9, 78, 0, 0, 0), (78, .laload, 79, 0, 0, 0), (79, .lxor, 80, 0, 0, 0), (80, .lstore 7, 82, 0, 0, 0), (82, .iinc 9 (-1), 85, 0, 0, 0), (85, .goto (-75), 88, 10, 0, 0), (88, .return_, 89, 0, 0, 0)]
noncomputable abbrev md_Sp_add : pm_M := (⟨"TurnField$Span", "add", "(JJ)V"⟩, prog_10_method_4_code, 10, none, false, [0, 1129, 116, 1128, 32], cd_Sp_add)
noncomputable def cd_Sp_tagOf : List pm_I := [(0, .lload_n 1, 1, 0, 0, 0), (1, .lstore_n 3, 2, 0, 0, 0), (2, .lconst 0, 3, 0, 0, 0), (3, .lstore 5, 5, 0, 0, 0), (5, .bipush 63, 7, 0, 0, 0), (7, .istore 7, 9, 0, 0, 0), (9, .iload 7, 11, 0, 0, 0), (11, .ifCond .lt 42, 14, 53, 0, 0), (14, .lload_n 3, 15, 0, 0, 0), (15, .iload 7, 17, 0, 0, 0), (17, .lushr, 18, 0, 0, 0), (18, .lconst 1, 19, 0, 0, 0), (19, .land, 20, 0, 0, 0), (20, .lconst 0, 21, 0, 0, 0), (21, .lcmp, 22, 0, 0, 0), (22, .ifCond .eq 25, 25, 47, 0, 0), (25, .lload_n 3, 26, 0, 0, 0), (26, .aload_n 0, 27, 0, 0, 0), (27, .getfield 7, 30, 7, 0, 360), (30, .iload 7, 32, 0, 0, 0), (32, .laload, 33, 0, 0, 0), (33, .lxor, 34, 0, 0, 0), (34, .lstore_n 3, 35, 0, 0, 0), (35, .lload 5, 37, 0, 0, 0), (37, .aload_n 0, 38, 0, 0, 0), (38, .getfield 13, 41, 7, 1, 361), (41, .iload 7, 43, 0, 0, 0), (43, .laload, 44, 0, 0, 0), (44, .lxor, 45, 0, 0, 0), (45, .lstore 5, 47, 0, 0, 0), (47, .iinc 7 (-1), 50, 0, 0, 0), (50, .goto (-41), 53, 9, 0, 0), (53, .lload 5, 55, 0, 0, 0), (55, .lreturn, 56, 0, 0, 0)]
noncomputable abbrev md_Sp_tagOf : pm_M := (⟨"TurnField$Span", "tagOf", "(J)J"⟩, prog_10_method_5_code, 8, (some .long), false, [0, 1134, 116, 1133, 33], cd_Sp_tagOf)
noncomputable def cd_St_init : List pm_I := [(0, .aload_n 0, 1, 0, 0, 0), (1, .invokespecial 1, 4, 1000, 1, 372), (4, .aload_n 0, 5, 0, 0, 0), (5, .bipush 32, 7, 0, 0, 0), (7, .newarray .long, 9, 1, 0, 0), (9, .putfield 9, 12, 8, 0, 373), (12, .aload_n 0, 13, 0, 0, 0), (13, .iconst 4, 14, 0, 0, 0), (14, .newarray .int, 16, 0, 0, 0), (16, .putfield 13, 19, 8, 1, 374), (19, .aload_n 0, 20, 0, 0, 0), (20, .iconst 0, 21, 0, 0, 0), (21, .putfield 17, 24, 8, 2, 375), (24, .aload_n 0, 25, 0, 0, 0), (25, .lconst 1, 26, 0, 0, 0), (26, .putfield 21, 29, 8, 3, 377), (29, .return_, 30, 0, 0, 0)]
noncomputable abbrev md_St_init : pm_M := (⟨"TurnField$Steps", "<init>", "()V"⟩, prog_11_method_1_code, 1, none, true, [2, 371, 117, 370, 0], cd_St_init)
noncomputable def cd_St_reduceGrid : List pm_I := [(0, .aload_n 0, 1, 0, 0, 0), (1, .aload_n 1, 2, 0, 0, 0), (2, .invokevirtual 25, 5, 111, 2, 861), (5, .aload_n 0, 6, 0, 0, 0), (6, .aload_n 1, 7, 0, 0, 0), (7, .getfield 29, 10, 5, 8, 176), (10, .aload_n 1, 11, 0, 0, 0), (11, .getfield 34, 14, 5, 9, 179), (14, .aload_n 1, 15, 0, 0, 0), (15, .getfield 34, 18, 5, 9, 179), (18, .invokevirtual 37, 21, 112, 4, 866), (21, .return_, 22, 0, 0, 0)]
noncomputable abbrev md_St_reduceGrid : pm_M := (⟨"TurnField$Steps", "reduceGrid", "(LTurnField$Position;)V"⟩, prog_11_method_2_code, 2, none, false, [0, 899, 117, 897, 898], cd_St_reduceGrid)
noncomputable def cd_St_reduceBesideUnit : List pm_I := [(0, .aload_n 1, 1, 0, 0, 0), (1, .getfield 29, 4, 5, 8, 176), (4, .istore_n 2, 5, 0, 0, 0), (5, .aload_n 0, 6, 0, 0, 0), (6, .aload_n 1, 7, 0, 0, 0), (7, .invokevirtual 25, 10, 111, 2, 861), (10, .iconst 0, 11, 0, 0, 0), (11, .istore_n 3, 12, 0, 0, 0), (12, .iload_n 3, 13, 0, 0, 0), (13, .iload_n 2, 14, 0, 0, 0), (14, .if_icmp .ge 23, 17, 37, 0, 0), (17, .aload_n 0, 18, 0, 0, 0), (18, .getfield 9, 21, 8, 0, 373), (21, .bipush 8, 23, 0, 0, 0), (23, .iload_n 3, 24, 0, 0, 0), (24, .imul, 25, 0, 0, 0), (25, .iload_n 2, 26, 0, 0, 0), (26, .iadd, 27, 0, 0, 0), (27, .iload_n 3, 28, 0, 0, 0), (28, .iadd, 29, 0, 0, 0), (29, .lconst 1, 30, 0, 0, 0), (30, .lastore, 31, 0, 0, 0), (31, .iinc 3 1, 34, 0, 0, 0), (34, .goto (-22), 37, 12, 0, 0), (37, .aload_n 0, 38, 0, 0, 0), (38, .iload_n 2, 39, 0, 0, 0), (39, .iload_n 2, 40, 0, 0, 0), (40, .iconst 2, 41, 0, 0, 0), (41, .iload_n 2, 42, 0, 0, 0), (42, .imul, 43, 0, 0, 0), (43, .invokevirtual 37, 46, 112, 4, 866), (46, .aload_n 0, 47, 0, 0, 0), (47, .getfield 17, 50, 8, 2, 375), (50, .iload_n 2, 51, 0, 0, 0), (51, .if_icmp .ne 7, 54, 58, 0, 0), (54, .iconst 1, 55, 0, 0, 0), (55, .goto 4, 58, 59, 0, 0), (58, .iconst 0, 59, 0, 0, 0), (59, .ireturn, 60, 0, 0, 0)]
noncomputable abbrev md_St_reduceBesideUnit : pm_M := (⟨"TurnField$Steps", "reduceBesideUnit", "(LTurnField$Position;)Z"⟩, prog_11_method_3_code, 4, (some .boolean), false, [0, 860, 117, 858, 859], cd_St_reduceBesideUnit)
noncomputable def cd_St_load : List pm_I := [(0, .iconst 0, 1, 0, 0, 0), (1, .istore_n 2, 2, 0, 0, 0), (2, .iload_n 2, 3, 0, 0, 0), (3, .iconst 4, 4, 0, 0, 0), (4, .if_icmp .ge 40, 7, 44, 0, 0), (7, .iconst 0, 8, 0, 0, 0), (8, .istore_n 3, 9, 0, 0, 0), (9, .iload_n 3, 10, 0, 0, 0), (10, .bipush 8, 12, 0, 0, 0), (12, .if_icmp .ge 26, 15, 38, 0, 0), (15, .aload_n 0, 16, 0, 0, 0), (16, .getfield 9, 19, 8, 0, 373), (19, .bipush 8, 21, 0, 0, 0), (21, .iload_n 2, 22, 0, 0, 0), (22, .imul, 23, 0, 0, 0), (23, .iload_n 3, 24, 0, 0, 0), (24, .iadd, 25, 0, 0, 0), (25, .aload_n 1, 26, 0, 0, 0), (26, .iload_n 2, 27, 0, 0, 0), (27, .iload_n 3, 28, 0, 0, 0), (28, .invokevirtual 41, 31, 92, 3, 865), (31, .lastore, 32, 0, 0, 0), (32, .iinc 3 1, 35, 0, 0, 0), (35, .goto (-26), 38, 9, 0, 0), (38, .iinc 2 1, 41, 0, 0, 0), (41, .goto (-39), 44, 2, 0, 0), (44, .return_, 45, 0, 0, 0)]
noncomputable abbrev md_St_load : pm_M := (⟨"TurnField$Steps", "load", "(LTurnField$Position;)V"⟩, prog_11_method_4_code, 4, none, false, [0, 864, 117, 863, 16], cd_St_load)
noncomputable def cd_St_reduce : List pm_I := [(0, .aload_n 0, 1, 0, 0, 0), (1, .iconst 0, 2, 0, 0, 0), (2, .putfield 17, 5, 8, 2, 375), (5, .aload_n 0, 6, 0, 0, 0), (6, .lconst 1, 7, 0, 0, 0), (7, .putfield 21, 10, 8, 3, 377), (10, .iconst 0, 11, 0, 0, 0), (11, .istore 4, 13, 0, 0, 0), (13, .iload 4, 15, 0, 0, 0), (15, .iload_n 2, 16, 0, 0, 0), (16, .if_icmp .ge 79, 19, 95, 0, 0), (19, .aload_n 0, 20, 0, 0, 0), (20, .getfield 17, 23, 8, 2, 375), (23, .iload_n 1, 24, 0, 0, 0), (24, .if_icmp .ge 71, 27, 95, 0, 0), (27, .aload_n 0, 28, 0, 0, 0), (28, .iload 4, 30, 0, 0, 0), (30, .iload_n 1, 31, 0, 0, 0), (31, .invokevirtual 45, 34, 113, 3, 870), (34, .istore 5, 36, 0, 0, 0), (36, .iload 5, 38, 0, 0, 0), (38, .iload_n 1, 39, 0, 0, 0), (39, .if_icmp .ge 50, 42, 89, 0, 0), (42, .aload_n 0, 43, 0, 0, 0), (43, .iload 5, 45, 0, 0, 0), (45, .aload_n 0, 46, 0, 0, 0), (46, .getfield 17, 49, 8, 2, 375), (49, .iload_n 3, 50, 0, 0, 0), (50, .invokevirtual 49, 53, 114, 4, 874), (53, .aload_n 0, 54, 0, 0, 0), (54, .iload 4, 56, 0, 0, 0), (56, .iload_n 3, 57, 0, 0, 0), (57, .invokevirtual 52, 60, 115, 3, 878), (60, .aload_n 0, 61, 0, 0, 0), (61, .iload 4, 63, 0, 0, 0), (63, .iload_n 1, 64, 0, 0, 0), (64, .iload_n 3, 65, 0, 0, 0), (65, .invokevirtual 56, 68, 116, 4, 884), (68, .aload_n 0, 69, 0, 0, 0), (69, .getfield 13, 72, 8, 1, 374), (72, .aload_n 0, 73, 0, 0, 0), (73, .getfield 17, 76, 8, 2, 375), (76, .iload 4, 78, 0, 0, 0), (78, .iastore, 79, 0, 0, 0), (79, .aload_n 0, 80, 0, 0, 0), (80, .dup, 81, 0, 0, 0), (81, .getfield 17, 84, 8, 2, 375), (84, .iconst 1, 85, 0, 0, 0), (85, .iadd, 86, 0, 0, 0), (86, .putfield 17, 89, 8, 2, 375), (89, .iinc 4 1, 92, 0, 0, 0), (92, .goto (-79), 95, 13, 0, 0), (95, .return_, 96, 0, 0, 0)]
noncomputable abbrev md_St_reduce : pm_M := (⟨"TurnField$Steps", "reduce", "(III)V"⟩, prog_11_method_5_code, 6, none, false, [0, 869, 117, 868, 17], cd_St_reduce)
noncomputable def cd_St_firstWith : List pm_I := [(0, .aload_n 0, 1, 0, 0, 0), (1, .getfield 17, 4, 8, 2, 375), (4, .istore_n 3, 5, 0, 0, 0), (5, .iload_n 3, 6, 0, 0, 0), (6, .iload_n 2, 7, 0, 0, 0), (7, .if_icmp .ge 25, 10, 32, 0, 0), (10, .aload_n 0, 11, 0, 0, 0), (11, .getfield 9, 14, 8, 0, 373), (14, .bipush 8, 16, 0, 0, 0), (16, .iload_n 3, 17, 0, 0, 0), (17, .imul, 18, 0, 0, 0), (18, .iload_n 1, 19, 0, 0, 0), (19, .iadd, 20, 0, 0, 0), (20, .laload, 21, 0, 0, 0), (21, .lconst 0, 22, 0, 0, 0), (22, .lcmp, 23, 0, 0, 0), (23, .ifCond .ne 9, 26, 32, 0, 0), (26, .iinc 3 1, 29, 0, 0, 0), (29, .goto (-24), 32, 5, 0, 0), (32, .iload_n 3, 33, 0, 0, 0), (33, .ireturn, 34, 0, 0, 0)]
noncomputable abbrev md_St_firstWith : pm_M := (⟨"TurnField$Steps", "firstWith", "(II)I"⟩, prog_11_method_6_code, 4, (some .int), false, [0, 873, 117, 872, 18], cd_St_firstWith)
noncomputable def cd_St_swap : List pm_I := [(0, .iconst 0, 1, 0, 0, 0), (1, .istore 4, 3, 0, 0, 0), (3, .iload 4, 5, 0, 0, 0), (5, .iload_n 3, 6, 0, 0, 0), (6, .if_icmp .ge 61, 9, 67, 0, 0), (9, .aload_n 0, 10, 0, 0, 0), (10, .getfield 9, 13, 8, 0, 373), (13, .bipush 8, 15, 0, 0, 0), (15, .iload_n 1, 16, 0, 0, 0), (16, .imul, 17, 0, 0, 0), (17, .iload 4, 19, 0, 0, 0), (19, .iadd, 20, 0, 0, 0), (20, .laload, 21, 0, 0, 0), (21, .lstore 5, 23, 0, 0, 0), (23, .aload_n 0, 24, 0, 0, 0), (24, .getfield 9, 27, 8, 0, 373), (27, .bipush 8, 29, 0, 0, 0), (29, .iload_n 1, 30, 0, 0, 0), (30, .imul, 31, 0, 0, 0), (31, .iload 4, 33, 0, 0, 0), (33, .iadd, 34, 0, 0, 0), (34, .aload_n 0, 35, 0, 0, 0), (35, .getfield 9, 38, 8, 0, 373), (38, .bipush 8, 40, 0, 0, 0), (40, .iload_n 2, 41, 0, 0, 0), (41, .imul, 42, 0, 0, 0), (42, .iload 4, 44, 0, 0, 0), (44, .iadd, 45, 0, 0, 0), (45, .laload, 46, 0, 0, 0), (46, .lastore, 47, 0, 0, 0), (47, .aload_n 0, 48, 0, 0, 0), (48, .getfield 9, 51, 8, 0, 373), (51, .bipush 8, 53, 0, 0, 0), (53, .iload_n 2, 54, 0, 0, 0), (54, .imul, 55, 0, 0, 0), (55, .iload 4, 57, 0, 0, 0), (57, .iadd, 58, 0, 0, 0), (58, .lload 5, 60, 0, 0, 0), (60, .lastore, 61, 0, 0, 0), (61, .iinc 4 1, 64, 0, 0, 0), (64, .goto (-61), 67, 3, 0, 0), (67, .return_, 68, 0, 0, 0)]
noncomputable abbrev md_St_swap : pm_M := (⟨"TurnField$Steps", "swap", "(III)V"⟩, prog_11_method_7_code, 7, none, false, [0, 877, 117, 876, 19], cd_St_swap)
noncomputable def cd_St_lead : List pm_I := [(0, .aload_n 0, 1, 0, 0, 0), (1, .getfield 9, 4, 8, 0, 373), (4, .bipush 8, 6, 0, 0, 0), (6, .aload_n 0, 7, 0, 0, 0), (7, .getfield 17, 10, 8, 2, 375), (10, .imul, 11, 0, 0, 0), (11, .iload_n 1, 12, 0, 0, 0), (12, .iadd, 13, 0, 0, 0), (13, .laload, 14, 0, 0, 0), (14, .lstore_n 3, 15, 0, 0, 0), (15, .lload_n 3, 16, 0, 0, 0), (16, .invokestatic 59, 19, 28, 1, 882), (19, .lstore 5, 21, 0, 0, 0), (21, .aload_n 0, 22, 0, 0, 0), (22, .aload_n 0, 23, 0, 0, 0), (23, .getfield 21, 26, 8, 3, 377), (26, .lload_n 3, 27, 0, 0, 0), (27, .invokestatic 65, 30, 22, 2, 883), (30, .putfield 21, 33, 8, 3, 377), (33, .iload_n 1, 34, 0, 0, 0), (34, .istore 7, 36, 0, 0, 0), (36, .iload 7, 38, 0, 0, 0), (38, .iload_n 2, 39, 0, 0, 0), (39, .if_icmp .ge 40, 42, 79, 0, 0), (42, .bipush 8, 44, 0, 0, 0), (44, .aload_n 0, 45, 0, 0, 0), (45, .getfield 17, 48, 8, 2, 375), (48, .imul, 49, 0, 0, 0), (49, .iload 7, 51, 0, 0, 0), (51, .iadd, 52, 0, 0, 0), (52, .istore 8, 54, 0, 0, 0), (54, .aload_n 0, 55, 0, 0, 0), (55, .getfield 9, 58, 8, 0, 373), (58, .iload 8, 60, 0, 0, 0), (60, .aload_n 0, 61, 0, 0, 0), (61, .getfield 9, 64, 8, 0, 373), (64, .iload 8, 66, 0, 0, 0), (66, .laload, 67, 0, 0, 0), (67, .lload 5, 69, 0, 0, 0), (69, .invokestatic 65, 72, 22, 2, 883), (72, .lastore, 73, 0, 0, 0), (73, .iinc 7 1, 76, 0, 0, 0), (76, .goto (-40), 79, 36, 0, 0), (79, .return_, 80, 0, 0, 0)]
noncomputable abbrev md_St_lead : pm_M := (⟨"TurnField$Steps", "lead", "(II)V"⟩, prog_11_method_8_code, 9, none, false, [0, 881, 117, 880, 20], cd_St_lead)
noncomputable def cd_St_clearOthers : List pm_I := [(0, .iconst 0, 1, 0, 0, 0), (1, .istore 4, 3, 0, 0, 0), (3, .iload 4, 5, 0, 0, 0), (5, .iload_n 2, 6, 0, 0, 0), (6, .if_icmp .ge 83, 9, 89, 0, 0), (9, .aload_n 0, 10, 0, 0, 0), (10, .getfield 9, 13, 8, 0, 373), (13, .bipush 8, 15, 0, 0, 0), (15, .iload 4, 17, 0, 0, 0), (17, .imul, 18, 0, 0, 0), (18, .iload_n 1, 19, 0, 0, 0), (19, .iadd, 20, 0, 0, 0), (20, .laload, 21, 0, 0, 0), (21, .lstore 5, 23, 0, 0, 0), (23, .iload_n 1, 24, 0, 0, 0), (24, .istore 7, 26, 0, 0, 0), (26, .iload 4, 28, 0, 0, 0), (28, .aload_n 0, 29, 0, 0, 0), (29, .getfield 17, 32, 8, 2, 375), (32, .if_icmp .eq 51, 35, 83, 0, 0), (35, .iload 7, 37, 0, 0, 0), (37, .iload_n 3, 38, 0, 0, 0), (38, .if_icmp .ge 45, 41, 83, 0, 0), (41, .aload_n 0, 42, 0, 0, 0), (42, .getfield 9, 45, 8, 0, 373), (45, .bipush 8, 47, 0, 0, 0), (47, .iload 4, 49, 0, 0, 0), (49, .imul, 50, 0, 0, 0), (50, .iload 7, 52, 0, 0, 0), (52, .iadd, 53, 0, 0, 0), (53, .dup2, 54, 0, 0, 0), (54, .laload, 55, 0, 0, 0), (55, .lload 5, 57, 0, 0, 0), (57, .aload_n 0, 58, 0, 0, 0), (58, .getfield 9, 61, 8, 0, 373), (61, .bipush 8, 63, 0, 0, 0), (63, .aload_n 0, 64, 0, 0, 0), (64, .getfield 17, 67, 8, 2, 375), (67, .imul, 68, 0, 0, 0), (68, .iload 7, 70, 0, 0, 0), (70, .iadd, 71, 0, 0, 0), (71, .laload, 72, 0, 0, 0), (72, .invokestatic 65, 75, 22, 2, 883), (75, .lxor, 76, 0, 0, 0), (76, .lastore, 77, 0, 0, 0), (77, .iinc 7 1, 80, 0, 0, 0), (80, .goto (-54), 83, 26, 0, 0), (83, .iinc 4 1, 86, 0, 0, 0), (86, .goto (-83), 89, 3, 0, 0), (89, .return_, 90, 0, 0, 0)]
noncomputable abbrev md_St_clearOthers : pm_M := (⟨"TurnField$Steps", "clearOthers", "(III)V"⟩, prog_11_method_9_code, 8, none, false, [0, 887, 117, 886, 21], cd_St_clearOthers)
noncomputable def cd_St_cellAt : List pm_I := [(0, .iload_n 1, 1, 0, 0, 0), (1, .ifCond .lt 18, 4, 19, 0, 0), (4, .iload_n 1, 5, 0, 0, 0), (5, .iconst 4, 6, 0, 0, 0), (6, .if_icmp .ge 13, 9, 19, 0, 0), (9, .iload_n 2, 10, 0, 0, 0), (10, .ifCond .lt 9, 13, 19, 0, 0), (13, .iload_n 2, 14, 0, 0, 0), (14, .bipush 8, 16, 0, 0, 0), (16, .if_icmp .lt 5, 19, 21, 0, 0), (19, .lconst 0, 20, 0, 0, 0), (20, .lreturn, 21, 0, 0, 0), (21, .aload_n 0, 22, 0, 0, 0), (22, .getfield 9, 25, 8, 0, 373), (25, .bipush 8, 27, 0, 0, 0), (27, .iload_n 1, 28, 0, 0, 0), (28, .imul, 29, 0, 0, 0), (29, .iload_n 2, 30, 0, 0, 0), (30, .iadd, 31, 0, 0, 0), (31, .laload, 32, 0, 0, 0), (32, .lreturn, 33, 0, 0, 0)]
noncomputable abbrev md_St_cellAt : pm_M := (⟨"TurnField$Steps", "cellAt", "(II)J"⟩, prog_11_method_10_code, 3, (some .long), false, [0, 891, 117, 889, 890], cd_St_cellAt)
noncomputable def cd_St_hasLead : List pm_I := [(0, .iconst 0, 1, 0, 0, 0), (1, .istore_n 2, 2, 0, 0, 0), (2, .iload_n 2, 3, 0, 0, 0), (3, .aload_n 0, 4, 0, 0, 0), (4, .getfield 17, 7, 8, 2, 375), (7, .if_icmp .ge 21, 10, 28, 0, 0), (10, .aload_n 0, 11, 0, 0, 0), (11, .getfield 13, 14, 8, 1, 374), (14, .iload_n 2, 15, 0, 0, 0), (15, .iaload, 16, 0, 0, 0), (16, .iload_n 1, 17, 0, 0, 0), (17, .if_icmp .ne 5, 20, 22, 0, 0), (20, .iconst 1, 21, 0, 0, 0), (21, .ireturn, 22, 0, 0, 0), (22, .iinc 2 1, 25, 0, 0, 0), (25, .goto (-23), 28, 2, 0, 0), (28, .iconst 0, 29, 0, 0, 0), (29, .ireturn, 30, 0, 0, 0)]
noncomputable abbrev md_St_hasLead : pm_M := (⟨"TurnField$Steps", "hasLead", "(I)Z"⟩, prog_11_method_11_code, 3, (some .boolean), false, [0, 911, 117, 909, 910], cd_St_hasLead)
noncomputable def cd_St_besideLead : List pm_I := [(0, .iconst 0, 1, 0, 0, 0), (1, .istore_n 3, 2, 0, 0, 0), (2, .iload_n 3, 3, 0, 0, 0), (3, .aload_n 0, 4, 0, 0, 0), (4, .getfield 17, 7, 8, 2, 375), (7, .if_icmp .ge 26, 10, 33, 0, 0), (10, .aload_n 0, 11, 0, 0, 0), (11, .getfield 13, 14, 8, 1, 374), (14, .iload_n 3, 15, 0, 0, 0), (15, .iaload, 16, 0, 0, 0), (16, .iload_n 1, 17, 0, 0, 0), (17, .if_icmp .ne 10, 20, 27, 0, 0), (20, .aload_n 0, 21, 0, 0, 0), (21, .iload_n 3, 22, 0, 0, 0), (22, .iload_n 2, 23, 0, 0, 0), (23, .invokevirtual 69, 26, 117, 3, 920), (26, .lreturn, 27, 0, 0, 0), (27, .iinc 3 1, 30, 0, 0, 0), (30, .goto (-28), 33, 2, 0, 0), (33, .lconst 0, 34, 0, 0, 0), (34, .lreturn, 35, 0, 0, 0)]
noncomputable abbrev md_St_besideLead : pm_M := (⟨"TurnField$Steps", "besideLead", "(II)J"⟩, prog_11_method_12_code, 4, (some .long), false, [0, 919, 117, 917, 918], cd_St_besideLead)
noncomputable def cd_Ta_init : List pm_I := [(0, .aload_n 0, 1, 0, 0, 0), (1, .invokespecial 1, 4, 1000, 1, 235), (4, .aload_n 0, 5, 0, 0, 0), (5, .bipush 120, 7, 0, 0, 0), (7, .newarray .byte, 9, 2, 0, 0), (9, .putfield 9, 12, 9, 0, 238), (12, .aload_n 0, 13, 0, 0, 0), (13, .new 13, 16, 5, 0, 236), (16, .dup, 17, 0, 0, 0), (17, .invokespecial 15, 20, 78, 1, 237), (20, .putfield 16, 23, 9, 1, 239), (23, .aload_n 0, 24, 0, 0, 0), (24, .iconst 0, 25, 0, 0, 0), (25, .putfield 20, 28, 9, 2, 241), (28, .aload_n 0, 29, 0, 0, 0), (29, .iconst 0, 30, 0, 0, 0), (30, .putfield 24, 33, 9, 3, 243), (33, .aload_n 0, 34, 0, 0, 0), (34, .iconst 0, 35, 0, 0, 0), (35, .putfield 27, 38, 9, 4, 244), (38, .return_, 39, 0, 0, 0)]
noncomputable abbrev md_Ta_init : pm_M := (⟨"TurnField$Tape", "<init>", "()V"⟩, prog_12_method_1_code, 1, none, true, [2, 234, 112, 233, 0], cd_Ta_init)
noncomputable def cd_Ta_hasRoom : List pm_I := [(0, .aload_n 0, 1, 0, 0, 0), (1, .getfield 20, 4, 9, 2, 241), (4, .iload_n 1, 5, 0, 0, 0), (5, .iadd, 6, 0, 0, 0), (6, .bipush 120, 8, 0, 0, 0), (8, .if_icmp .gt 7, 11, 15, 0, 0), (11, .iconst 1, 12, 0, 0, 0), (12, .goto 4, 15, 16, 0, 0), (15, .iconst 0, 16, 0, 0, 0), (16, .ireturn, 17, 0, 0, 0)]
noncomputable abbrev md_Ta_hasRoom : pm_M := (⟨"TurnField$Tape", "hasRoom", "(I)Z"⟩, prog_12_method_2_code, 2, (some .boolean), false, [0, 507, 112, 505, 506], cd_Ta_hasRoom)
noncomputable def cd_Ta_append : List pm_I := [(0, .bipush 24, 2, 0, 0, 0), (2, .istore_n 2, 3, 0, 0, 0), (3, .iload_n 2, 4, 0, 0, 0), (4, .ifCond .lt 41, 7, 45, 0, 0), (7, .aload_n 0, 8, 0, 0, 0), (8, .getfield 20, 11, 9, 2, 241), (11, .bipush 120, 13, 0, 0, 0), (13, .if_icmp .ge 32, 16, 45, 0, 0), (16, .aload_n 0, 17, 0, 0, 0), (17, .getfield 9, 20, 9, 0, 238), (20, .aload_n 0, 21, 0, 0, 0), (21, .getfield 20, 24, 9, 2, 241), (24, .iload_n 1, 25, 0, 0, 0), (25, .iload_n 2, 26, 0, 0, 0), (26, .ishr, 27, 0, 0, 0), (27, .i2b, 28, 0, 0, 0), (28, .bastore, 29, 0, 0, 0), (29, .aload_n 0, 30, 0, 0, 0), (30, .dup, 31, 0, 0, 0), (31, .getfield 20, 34, 9, 2, 241), (34, .iconst 1, 35, 0, 0, 0), (35, .iadd, 36, 0, 0, 0), (36, .putfield 20, 39, 9, 2, 241), (39, .iinc 2 (-8), 42, 0, 0, 0), (42, .goto (-39), 45, 3, 0, 0), (45, .return_, 46, 0, 0, 0)]
noncomputable abbrev md_Ta_append : pm_M := (⟨"TurnField$Tape", "append", "(I)V"⟩, prog_12_method_3_code, 3, none, false, [0, 511, 112, 509, 510], cd_Ta_append)
noncomputable def cd_Ta_read : List pm_I := [(0, .aload_n 0, 1, 0, 0, 0), (1, .iconst 0, 2, 0, 0, 0), (2, .putfield 24, 5, 9, 3, 243), (5, .aload_n 0, 6, 0, 0, 0), (6, .iconst 0, 7, 0, 0, 0), (7, .putfield 27, 10, 9, 4, 244), (10, .aload_n 0, 11, 0, 0, 0), (11, .getfield 16, 14, 9, 1, 239), (14, .aload_n 0, 15, 0, 0, 0), (15, .iconst 1, 16, 0, 0, 0), (16, .bipush 6, 18, 0, 0, 0), (18, .invokevirtual 30, 21, 128, 3, 524), (21, .putfield 34, 24, 5, 0, 145), (24, .aload_n 0, 25, 0, 0, 0), (25, .getfield 16, 28, 9, 1, 239), (28, .aload_n 0, 29, 0, 0, 0), (29, .invokevirtual 37, 32, 129, 1, 543), (32, .putfield 41, 35, 5, 2, 155), (35, .aload_n 0, 36, 0, 0, 0), (36, .getfield 16, 39, 9, 1, 239), (39, .aload_n 0, 40, 0, 0, 0), (40, .iconst 1, 41, 0, 0, 0), (41, .bipush 8, 43, 0, 0, 0), (43, .invokevirtual 30, 46, 128, 3, 524), (46, .putfield 44, 49, 5, 4, 163), (49, .aload_n 0, 50, 0, 0, 0), (50, .getfield 16, 53, 9, 1, 239), (53, .aload_n 0, 54, 0, 0, 0), (54, .iconst 1, 55, 0, 0, 0), (55, .bipush 6, 57, 0, 0, 0), (57, .invokevirtual 30, 60, 128, 3, 524), (60, .putfield 47, 63, 5, 1, 150), (63, .aload_n 0, 64, 0, 0, 0), (64, .getfield 16, 67, 9, 1, 239), (67, .aload_n 0, 68, 0, 0, 0), (68, .invokevirtual 37, 71, 129, 1, 543), (71, .putfield 50, 74, 5, 3, 159), (74, .aload_n 0, 75, 0, 0, 0), (75, .getfield 16, 78, 9, 1, 239), (78, .aload_n 0, 79, 0, 0, 0), (79, .iconst 1, 80, 0, 0, 0), (80, .bipush 8, 82, 0, 0, 0), (82, .invokevirtual 30, 85, 128, 3, 524), (85, .putfield 53, 88, 5, 5, 167), (88, .aload_n 0, 89, 0, 0, 0), (89, .getfield 16, 92, 9, 1, 239), (92, .lconst 0, 93, 0, 0, 0), (93, .putfield 56, 96, 5, 6, 170), (96, .iconst 0, 97, 0, 0, 0), (97, .istore_n 1, 98, 0, 0, 0), (98, .iload_n 1, 99, 0, 0, 0), (99, .bipush 120, 101, 0, 0, 0), (101, .if_icmp .ge 37, 104, 138, 0, 0), (104, .aload_n 0, 105, 0, 0, 0), (105, .getfield 27, 108, 9, 4, 244), (108, .ifCond .ne 30, 111, 138, 0, 0), (111, .aload_n 0, 112, 0, 0, 0), (112, .invokevirtual 60, 115, 126, 1, 528), (115, .aload_n 0, 116, 0, 0, 0), (116, .getfield 24, 119, 9, 3, 243), (119, .aload_n 0, 120, 0, 0, 0), (120, .getfield 20, 123, 9, 2, 241), (123, .if_icmp .lt 5, 126, 128, 0, 0), (126, .iconst 0, 127, 0, 0, 0), (127, .ireturn, 128, 0, 0, 0), (128, .aload_n 0, 129, 0, 0, 0), (129, .invokevirtual 63, 132, 124, 1, 607), (132, .iinc 1 1, 135, 0, 0, 0), (135, .goto (-37), 138, 98, 0, 0), (138, .aload_n 0, 139, 0, 0, 0), (139, .getfield 27, 142, 9, 4, 244), (142, .ireturn, 143, 0, 0, 0)]
noncomputable abbrev md_Ta_read : pm_M := (⟨"TurnField$Tape", "read", "()I"⟩, prog_12_method_4_code, 2, (some .int), false, [0, 523, 112, 521, 522], cd_Ta_read)
noncomputable def cd_Ta_readHeads : List pm_I := [(0, .aload_n 0, 1, 0, 0, 0), (1, .getfield 24, 4, 9, 3, 243), (4, .istore_n 1, 5, 0, 0, 0), (5, .aload_n 0, 6, 0, 0, 0), (6, .invokevirtual 66, 9, 130, 1, 547), (9, .aload_n 0, 10, 0, 0, 0), (10, .iload_n 1, 11, 0, 0, 0), (11, .ldc 69, 13, 3, 0, 611), (13, .invokevirtual 70, 16, 131, 3, 552), (16, .ifCond .ne 9, 19, 25, 0, 0), (19, .aload_n 0, 20, 0, 0, 0), (20, .iload_n 1, 21, 0, 0, 0), (21, .iconst 1, 22, 0, 0, 0), (22, .invokevirtual 74, 25, 125, 3, 539), (25, .aload_n 0, 26, 0, 0, 0), (26, .iconst 0, 27, 0, 0, 0), (27, .aload_n 0, 28, 0, 0, 0), (28, .getfield 16, 31, 9, 1, 239), (31, .getfield 34, 34, 5, 0, 145), (34, .iconst 1, 35, 0, 0, 0), (35, .isub, 36, 0, 0, 0), (36, .invokevirtual 30, 39, 128, 3, 524), (39, .istore_n 2, 40, 0, 0, 0), (40, .aload_n 0, 41, 0, 0, 0), (41, .iconst 0, 42, 0, 0, 0), (42, .aload_n 0, 43, 0, 0, 0), (43, .getfield 16, 46, 9, 1, 239), (46, .getfield 47, 49, 5, 1, 150), (49, .iconst 1, 50, 0, 0, 0), (50, .isub, 51, 0, 0, 0), (51, .invokevirtual 30, 54, 128, 3, 524), (54, .istore_n 3, 55, 0, 0, 0), (55, .aload_n 0, 56, 0, 0, 0), (56, .getfield 27, 59, 9, 4, 244), (59, .ifCond .ne 20, 62, 79, 0, 0), (62, .aload_n 0, 63, 0, 0, 0), (63, .getfield 16, 66, 9, 1, 239), (66, .dup, 67, 0, 0, 0), (67, .getfield 56, 70, 5, 6, 170), (70, .iload_n 2, 71, 0, 0, 0), (71, .iload_n 3, 72, 0, 0, 0), (72, .invokestatic 78, 75, 83, 2, 612), (75, .lor, 76, 0, 0, 0), (76, .putfield 56, 79, 5, 6, 170), (79, .return_, 80, 0, 0, 0)]
noncomputable abbrev md_Ta_readHeads : pm_M := (⟨"TurnField$Tape", "readHeads", "()V"⟩, prog_12_method_5_code, 4, none, false, [0, 610, 112, 609, 7], cd_Ta_readHeads)
noncomputable def cd_Ta_blame : List pm_I := [(0, .aload_n 0, 1, 0, 0, 0), (1, .getfield 27, 4, 9, 4, 244), (4, .ifCond .ne 13, 7, 17, 0, 0), (7, .aload_n 0, 8, 0, 0, 0), (8, .bipush 8, 10, 0, 0, 0), (10, .iload_n 1, 11, 0, 0, 0), (11, .imul, 12, 0, 0, 0), (12, .iload_n 2, 13, 0, 0, 0), (13, .iadd, 14, 0, 0, 0), (14, .putfield 27, 17, 9, 4, 244), (17, .return_, 18, 0, 0, 0)]
noncomputable abbrev md_Ta_blame : pm_M := (⟨"TurnField$Tape", "blame", "(II)V"⟩, prog_12_method_6_code, 3, none, false, [0, 542, 112, 541, 3], cd_Ta_blame)
noncomputable def cd_Ta_skipBlanks : List pm_I := [(0, .aload_n 0, 1, 0, 0, 0), (1, .getfield 24, 4, 9, 3, 243), (4, .aload_n 0, 5, 0, 0, 0), (5, .getfield 20, 8, 9, 2, 241), (8, .if_icmp .ge 44, 11, 52, 0, 0), (11, .aload_n 0, 12, 0, 0, 0), (12, .getfield 9, 15, 9, 0, 238), (15, .aload_n 0, 16, 0, 0, 0), (16, .getfield 24, 19, 9, 3, 243), (19, .baload, 20, 0, 0, 0), (20, .bipush 32, 22, 0, 0, 0), (22, .if_icmp .eq 17, 25, 39, 0, 0), (25, .aload_n 0, 26, 0, 0, 0), (26, .getfield 9, 29, 9, 0, 238), (29, .aload_n 0, 30, 0, 0, 0), (30, .getfield 24, 33, 9, 3, 243), (33, .baload, 34, 0, 0, 0), (34, .bipush 59, 36, 0, 0, 0), (36, .if_icmp .ne 16, 39, 52, 0, 0), (39, .aload_n 0, 40, 0, 0, 0), (40, .dup, 41, 0, 0, 0), (41, .getfield 24, 44, 9, 3, 243), (44, .iconst 1, 45, 0, 0, 0), (45, .iadd, 46, 0, 0, 0), (46, .putfield 24, 49, 9, 3, 243), (49, .goto (-49), 52, 0, 0, 0), (52, .return_, 53, 0, 0, 0)]
noncomputable abbrev md_Ta_skipBlanks : pm_M := (⟨"TurnField$Tape", "skipBlanks", "()V"⟩, prog_12_method_7_code, 1, none, false, [0, 531, 112, 530, 1], cd_Ta_skipBlanks)
noncomputable def cd_Ta_isBetween : List pm_I := [(0, .aload_n 0, 1, 0, 0, 0), (1, .getfield 24, 4, 9, 3, 243), (4, .aload_n 0, 5, 0, 0, 0), (5, .getfield 20, 8, 9, 2, 241), (8, .if_icmp .ge 33, 11, 41, 0, 0), (11, .aload_n 0, 12, 0, 0, 0), (12, .getfield 9, 15, 9, 0, 238), (15, .aload_n 0, 16, 0, 0, 0), (16, .getfield 24, 19, 9, 3, 243), (19, .baload, 20, 0, 0, 0), (20, .iload_n 1, 21, 0, 0, 0), (21, .if_icmp .lt 20, 24, 41, 0, 0), (24, .aload_n 0, 25, 0, 0, 0), (25, .getfield 9, 28, 9, 0, 238), (28, .aload_n 0, 29, 0, 0, 0), (29, .getfield 24, 32, 9, 3, 243), (32, .baload, 33, 0, 0, 0), (33, .iload_n 2, 34, 0, 0, 0), (34, .if_icmp .gt 7, 37, 41, 0, 0), (37, .iconst 1, 38, 0, 0, 0), (38, .goto 4, 41, 42, 0, 0), (41, .iconst 0, 42, 0, 0, 0), (42, .ireturn, 43, 0, 0, 0)]
noncomputable abbrev md_Ta_isBetween : pm_M := (⟨"TurnField$Tape", "isBetween", "(CC)Z"⟩, prog_12_method_8_code, 3, (some .boolean), false, [0, 535, 112, 534, 2], cd_Ta_isBetween)
noncomputable def cd_Ta_readNumber : List pm_I := [(0, .aload_n 0, 1, 0, 0, 0), (1, .getfield 27, 4, 9, 4, 244), (4, .ifCond .eq 5, 7, 9, 0, 0), (7, .iconst 0, 8, 0, 0, 0), (8, .ireturn, 9, 0, 0, 0), (9, .aload_n 0, 10, 0, 0, 0), (10, .invokevirtual 60, 13, 126, 1, 528), (13, .aload_n 0, 14, 0, 0, 0), (14, .getfield 24, 17, 9, 3, 243), (17, .istore_n 3, 18, 0, 0, 0), (18, .iconst 0, 19, 0, 0, 0), (19, .istore 4, 21, 0, 0, 0), (21, .aload_n 0, 22, 0, 0, 0), (22, .bipush 48, 24, 0, 0, 0), (24, .bipush 57, 26, 0, 0, 0), (26, .invokevirtual 82, 29, 127, 3, 532), (29, .ifCond .eq 42, 32, 71, 0, 0), (32, .sipush 1000, 35, 0, 0, 0), (35, .bipush 10, 37, 0, 0, 0), (37, .iload 4, 39, 0, 0, 0), (39, .imul, 40, 0, 0, 0), (40, .aload_n 0, 41, 0, 0, 0), (41, .getfield 9, 44, 9, 0, 238), (44, .aload_n 0, 45, 0, 0, 0), (45, .getfield 24, 48, 9, 3, 243), (48, .baload, 49, 0, 0, 0), (49, .iadd, 50, 0, 0, 0), (50, .bipush 48, 52, 0, 0, 0), (52, .isub, 53, 0, 0, 0), (53, .invokestatic 86, 56, 1002, 2, 536), (56, .istore 4, 58, 0, 0, 0), (58, .aload_n 0, 59, 0, 0, 0), (59, .dup, 60, 0, 0, 0), (60, .getfield 24, 63, 9, 3, 243), (63, .iconst 1, 64, 0, 0, 0), (64, .iadd, 65, 0, 0, 0), (65, .putfield 24, 68, 9, 3, 243), (68, .goto (-47), 71, 21, 0, 0), (71, .aload_n 0, 72, 0, 0, 0), (72, .getfield 24, 75, 9, 3, 243), (75, .iload_n 3, 76, 0, 0, 0), (76, .if_icmp .ne 12, 79, 88, 0, 0), (79, .aload_n 0, 80, 0, 0, 0), (80, .iload_n 3, 81, 0, 0, 0), (81, .iconst 1, 82, 0, 0, 0), (82, .invokevirtual 74, 85, 125, 3, 539), (85, .goto 21, 88, 106, 0, 0), (88, .iload 4, 90, 0, 0, 0), (90, .iload_n 1, 91, 0, 0, 0), (91, .if_icmp .lt 9, 94, 100, 0, 0), (94, .iload 4, 96, 0, 0, 0), (96, .iload_n 2, 97, 0, 0, 0), (97, .if_icmp .le 9, 100, 106, 0, 0), (100, .aload_n 0, 101, 0, 0, 0), (101, .iload_n 3, 102, 0, 0, 0), (102, .iconst 2, 103, 0, 0, 0), (103, .invokevirtual 74, 106, 125, 3, 539), (106, .iload 4, 108, 0, 0, 0), (108, .ireturn, 109, 0, 0, 0)]
noncomputable abbrev md_Ta_readNumber : pm_M := (⟨"TurnField$Tape", "readNumber", "(II)I"⟩, prog_12_method_9_code, 5, (some .int), false, [0, 527, 112, 526, 0], cd_Ta_readNumber)
noncomputable def cd_Ta_readKind : List pm_I := [(0, .aload_n 0, 1, 0, 0, 0), (1, .getfield 27, 4, 9, 4, 244), (4, .ifCond .eq 5, 7, 9, 0, 0), (7, .iconst 0, 8, 0, 0, 0), (8, .ireturn, 9, 0, 0, 0), (9, .aload_n 0, 10, 0, 0, 0), (10, .invokevirtual 60, 13, 126, 1, 528), (13, .aload_n 0, 14, 0, 0, 0), (14, .getfield 24, 17, 9, 3, 243), (17, .istore_n 1, 18, 0, 0, 0), (18, .aload_n 0, 19, 0, 0, 0), (19, .invokevirtual 66, 22, 130, 1, 547), (22, .aload_n 0, 23, 0, 0, 0), (23, .iload_n 1, 24, 0, 0, 0), (24, .ldc 91, 26, 4, 0, 551), (26, .invokevirtual 70, 29, 131, 3, 552), (29, .ifCond .eq 5, 32, 34, 0, 0), (32, .iconst 0, 33, 0, 0, 0), (33, .ireturn, 34, 0, 0, 0), (34, .aload_n 0, 35, 0, 0, 0), (35, .iload_n 1, 36, 0, 0, 0), (36, .ldc 95, 38, 5, 0, 604), (38, .invokevirtual 70, 41, 131, 3, 552), (41, .ifCond .eq 5, 44, 46, 0, 0), (44, .iconst 1, 45, 0, 0, 0), (45, .ireturn, 46, 0, 0, 0), (46, .aload_n 0, 47, 0, 0, 0), (47, .iload_n 1, 48, 0, 0, 0), (48, .ldc 97, 50, 6, 0, 605), (50, .invokevirtual 70, 53, 131, 3, 552), (53, .ifCond .eq 5, 56, 58, 0, 0), (56, .iconst 2, 57, 0, 0, 0), (57, .ireturn, 58, 0, 0, 0), (58, .aload_n 0, 59, 0, 0, 0), (59, .iload_n 1, 60, 0, 0, 0), (60, .ldc 99, 62, 7, 0, 606), (62, .invokevirtual 70, 65, 131, 3, 552), (65, .ifCond .eq 5, 68, 70, 0, 0), (68, .iconst 3, 69, 0, 0, 0), (69, .ireturn, 70, 0, 0, 0), (70, .aload_n 0, 71, 0, 0, 0), (71, .iload_n 1, 72, 0, 0, 0), (72, .iconst 1, 73, 0, 0, 0), (73, .invokevirtual 74, 76, 125, 3, 539), (76, .iconst 0, 77, 0, 0, 0), (77, .ireturn, 78, 0, 0, 0)]
noncomputable abbrev md_Ta_readKind : pm_M := (⟨"TurnField$Tape", "readKind", "()I"⟩, prog_12_method_10_code, 2, (some .int), false, [0, 546, 112, 545, 4], cd_Ta_readKind)
noncomputable def cd_Ta_readWord : List pm_I := [(0, .aload_n 0, 1, 0, 0, 0), (1, .bipush 97, 3, 0, 0, 0), (3, .bipush 122, 5, 0, 0, 0), (5, .invokevirtual 82, 8, 127, 3, 532), (8, .ifCond .eq 16, 11, 24, 0, 0), (11, .aload_n 0, 12, 0, 0, 0), (12, .dup, 13, 0, 0, 0), (13, .getfield 24, 16, 9, 3, 243), (16, .iconst 1, 17, 0, 0, 0), (17, .iadd, 18, 0, 0, 0), (18, .putfield 24, 21, 9, 3, 243), (21, .goto (-21), 24, 0, 0, 0), (24, .return_, 25, 0, 0, 0)]
noncomputable abbrev md_Ta_readWord : pm_M := (⟨"TurnField$Tape", "readWord", "()V"⟩, prog_12_method_11_code, 1, none, false, [0, 550, 112, 549, 5], cd_Ta_readWord)
noncomputable def cd_Ta_isWord : List pm_I := [(0, .aload_n 0, 1, 0, 0, 0), (1, .getfield 24, 4, 9, 3, 243), (4, .iload_n 1, 5, 0, 0, 0), (5, .isub, 6, 0, 0, 0), (6, .aload_n 2, 7, 0, 0, 0), (7, .invokevirtual 101, 10, 320, 1, 556), (10, .if_icmp .eq 5, 13, 15, 0, 0), (13, .iconst 0, 14, 0, 0, 0), (14, .ireturn, 15, 0, 0, 0), (15, .iconst 0, 16, 0, 0, 0), (16, .istore_n 3, 17, 0, 0, 0), (17, .iload_n 3, 18, 0, 0, 0), (18, .aload_n 2, 19, 0, 0, 0), (19, .invokevirtual 101, 22, 320, 1, 556), (22, .if_icmp .ge 27, 25, 49, 0, 0), (25, .aload_n 0, 26, 0, 0, 0), (26, .getfield 9, 29, 9, 0, 238), (29, .iload_n 1, 30, 0, 0, 0), (30, .iload_n 3, 31, 0, 0, 0), (31, .iadd, 32, 0, 0, 0), (32, .baload, 33, 0, 0, 0), (33, .aload_n 2, 34, 0, 0, 0), (34, .iload_n 3, 35, 0, 0, 0), (35, .invokevirtual 105, 38, 321, 2, 566), (38, .if_icmp .eq 5, 41, 43, 0, 0), (41, .iconst 0, 42, 0, 0, 0), (42, .ireturn, 43, 0, 0, 0), (43, .iinc 3 1, 46, 0, 0, 0), (46, .goto (-29), 49, 17, 0, 0), (49, .iconst 1, 50, 0, 0, 0), (50, .ireturn, 51, 0, 0, 0)]
noncomputable abbrev md_Ta_isWord : pm_M := (⟨"TurnField$Tape", "isWord", "(ILjava/lang/String;)Z"⟩, prog_12_method_12_code, 4, (some .boolean), false, [0, 555, 112, 554, 6], cd_Ta_isWord)
noncomputable def cd_T_init : List pm_I := [(0, .aload_n 0, 1, 0, 0, 0), (1, .invokespecial 1, 4, 1000, 1, 134), (4, .aload_n 0, 5, 0, 0, 0), (5, .new 7, 8, 5, 0, 137), (8, .dup, 9, 0, 0, 0), (9, .invokespecial 9, 12, 78, 1, 139), (12, .putfield 10, 15, 10, 0, 469), (15, .aload_n 0, 16, 0, 0, 0), (16, .new 16, 19, 2, 0, 210), (19, .dup, 20, 0, 0, 0), (20, .invokespecial 18, 23, 43, 1, 212), (23, .putfield 19, 26, 10, 1, 470), (26, .aload_n 0, 27, 0, 0, 0), (27, .iconst 2, 28, 0, 0, 0), (28, .anewarray 7, 31, 4, 0, 137), (31, .putfield 23, 34, 10, 2, 471), (34, .iconst 0, 35, 0, 0, 0), (35, .istore_n 1, 36, 0, 0, 0), (36, .iload_n 1, 37, 0, 0, 0), (37, .aload_n 0, 38, 0, 0, 0), (38, .getfield 23, 41, 10, 2, 471), (41, .arraylength, 42, 0, 0, 0), (42, .if_icmp .ge 22, 45, 64, 0, 0), (45, .aload_n 0, 46, 0, 0, 0), (46, .getfield 23, 49, 10, 2, 471), (49, .iload_n 1, 50, 0, 0, 0), (50, .new 7, 53, 5, 0, 137), (53, .dup, 54, 0, 0, 0), (54, .invokespecial 9, 57, 78, 1, 139), (57, .aastore, 58, 0, 0, 0), (58, .iinc 1 1, 61, 0, 0, 0), (61, .goto (-25), 64, 36, 0, 0), (64, .aload_n 0, 65, 0, 0, 0), (65, .new 27, 68, 9, 0, 230), (68, .dup, 69, 0, 0, 0), (69, .invokespecial 29, 72, 120, 1, 232), (72, .putfield 30, 75, 10, 3, 472), (75, .aload_n 0, 76, 0, 0, 0), (76, .new 34, 79, 3, 0, 257), (79, .dup, 80, 0, 0, 0), (80, .invokespecial 36, 83, 48, 1, 259), (83, .putfield 37, 86, 10, 4, 473), (86, .aload_n 0, 87, 0, 0, 0), (87, .new 41, 90, 1, 0, 314), (90, .dup, 91, 0, 0, 0), (91, .invokespecial 43, 94, 10, 1, 316), (94, .putfield 44, 97, 10, 5, 474), (97, .aload_n 0, 98, 0, 0, 0), (98, .new 48, 101, 7, 0, 354), (101, .dup, 102, 0, 0, 0), (102, .invokespecial 50, 105, 103, 1, 356), (105, .putfield 51, 108, 10, 6, 475), (108, .aload_n 0, 109, 0, 0, 0), (109, .new 55, 112, 8, 0, 367), (112, .dup, 113, 0, 0, 0), (113, .invokespecial 57, 116, 108, 1, 369), (116, .putfield 58, 119, 10, 7, 476), (119, .aload_n 0, 120, 0, 0, 0), (120, .new 62, 123, 4, 0, 388), (123, .dup, 124, 0, 0, 0), (124, .invokespecial 64, 127, 60, 1, 390), (127, .putfield 65, 130, 10, 8, 477), (130, .aload_n 0, 131, 0, 0, 0), (131, .new 69, 134, 0, 0, 443), (134, .dup, 135, 0, 0, 0), (135, .invokespecial 71, 138, 0, 1, 445), (138, .putfield 72, 141, 10, 9, 478), (141, .return_, 142, 0, 0, 0)]
noncomputable abbrev md_T_init : pm_M := (⟨"TurnField", "<init>", "()V"⟩, prog_1_method_1_code, 2, none, true, [2, 133, 109, 132, 0], cd_T_init)
noncomputable def cd_T_feed : List pm_I := [(0, .aload_n 0, 1, 0, 0, 0), (1, .getfield 30, 4, 10, 3, 472), (4, .bipush 20, 6, 0, 0, 0), (6, .invokevirtual 76, 9, 121, 2, 504), (9, .ifCond .ne 5, 12, 14, 0, 0), (12, .iconst (-1), 13, 0, 0, 0), (13, .ireturn, 14, 0, 0, 0), (14, .aload_n 0, 15, 0, 0, 0), (15, .getfield 30, 18, 10, 3, 472), (18, .iload_n 1, 19, 0, 0, 0), (19, .invokevirtual 80, 22, 122, 2, 508), (22, .aload_n 0, 23, 0, 0, 0), (23, .getfield 30, 26, 10, 3, 472), (26, .iload_n 2, 27, 0, 0, 0), (27, .invokevirtual 80, 30, 122, 2, 508), (30, .aload_n 0, 31, 0, 0, 0), (31, .getfield 30, 34, 10, 3, 472), (34, .iload_n 3, 35, 0, 0, 0), (35, .invokevirtual 80, 38, 122, 2, 508), (38, .aload_n 0, 39, 0, 0, 0), (39, .getfield 30, 42, 10, 3, 472), (42, .iload 4, 44, 0, 0, 0), (44, .invokevirtual 80, 47, 122, 2, 508), (47, .aload_n 0, 48, 0, 0, 0), (48, .getfield 30, 51, 10, 3, 472), (51, .iload 5, 53, 0, 0, 0), (53, .invokevirtual 80, 56, 122, 2, 508), (56, .aload_n 0, 57, 0, 0, 0), (57, .getfield 30, 60, 10, 3, 472), (60, .getfield 84, 63, 9, 2, 242), (63, .ireturn, 64, 0, 0, 0)]
noncomputable abbrev md_T_feed : pm_M := (⟨"TurnField", "feed", "(IIIII)I"⟩, prog_1_method_2_code, 6, (some .int), false, [0, 503, 109, 501, 502], cd_T_feed)
noncomputable def cd_T_end : List pm_I := [(0, .iload_n 1, 1, 0, 0, 0), (1, .ifCond .lt 14, 4, 15, 0, 0), (4, .iload_n 1, 5, 0, 0, 0), (5, .aload_n 0, 6, 0, 0, 0), (6, .getfield 30, 9, 10, 3, 472), (9, .getfield 84, 12, 9, 2, 242), (12, .if_icmp .le 5, 15, 17, 0, 0), (15, .iconst (-1), 16, 0, 0, 0), (16, .ireturn, 17, 0, 0, 0), (17, .aload_n 0, 18, 0, 0, 0), (18, .getfield 30, 21, 10, 3, 472), (21, .iload_n 1, 22, 0, 0, 0), (22, .putfield 84, 25, 9, 2, 242), (25, .iload_n 1, 26, 0, 0, 0), (26, .ireturn, 27, 0, 0, 0)]
noncomputable abbrev md_T_end : pm_M := (⟨"TurnField", "end", "(I)I"⟩, prog_1_method_3_code, 2, (some .int), false, [0, 515, 109, 513, 514], cd_T_end)
noncomputable def cd_T_tell : List pm_I := [(0, .aload_n 0, 1, 0, 0, 0), (1, .getfield 30, 4, 10, 3, 472), (4, .invokevirtual 88, 7, 123, 1, 520), (7, .istore_n 1, 8, 0, 0, 0), (8, .aload_n 0, 9, 0, 0, 0), (9, .getfield 30, 12, 10, 3, 472), (12, .iconst 0, 13, 0, 0, 0), (13, .putfield 84, 16, 9, 2, 242), (16, .iload_n 1, 17, 0, 0, 0), (17, .ifCond .eq 8, 20, 25, 0, 0), (20, .bipush (-2), 22, 0, 0, 0), (22, .iload_n 1, 23, 0, 0, 0), (23, .isub, 24, 0, 0, 0), (24, .ireturn, 25, 0, 0, 0), (25, .aload_n 0, 26, 0, 0, 0), (26, .getfield 19, 29, 10, 1, 470), (29, .aload_n 0, 30, 0, 0, 0), (30, .getfield 10, 33, 10, 0, 469), (33, .invokevirtual 92, 36, 44, 2, 615), (36, .aload_n 0, 37, 0, 0, 0), (37, .getfield 10, 40, 10, 0, 469), (40, .aload_n 0, 41, 0, 0, 0), (41, .getfield 30, 44, 10, 3, 472), (44, .getfield 96, 47, 9, 1, 240), (47, .invokevirtual 99, 50, 79, 2, 627), (50, .aload_n 0, 51, 0, 0, 0), (51, .getfield 10, 54, 10, 0, 469), (54, .invokevirtual 102, 57, 86, 1, 628), (57, .ireturn, 58, 0, 0, 0)]
noncomputable abbrev md_T_tell : pm_M := (⟨"TurnField", "tell", "()I"⟩, prog_1_method_4_code, 2, (some .int), false, [0, 519, 109, 517, 518], cd_T_tell)
noncomputable def cd_T_turn : List pm_I := [(0, .aload_n 0, 1, 0, 0, 0), (1, .getfield 10, 4, 10, 0, 469), (4, .iload_n 1, 5, 0, 0, 0), (5, .iload_n 2, 6, 0, 0, 0), (6, .invokevirtual 105, 9, 82, 3, 642), (9, .ifCond .ne 5, 12, 14, 0, 0), (12, .iconst (-1), 13, 0, 0, 0), (13, .ireturn, 14, 0, 0, 0), (14, .aload_n 0, 15, 0, 0, 0), (15, .getfield 19, 18, 10, 1, 470), (18, .aload_n 0, 19, 0, 0, 0), (19, .getfield 10, 22, 10, 0, 469), (22, .invokevirtual 92, 25, 44, 2, 615), (25, .aload_n 0, 26, 0, 0, 0), (26, .getfield 10, 29, 10, 0, 469), (29, .dup, 30, 0, 0, 0), (30, .getfield 109, 33, 5, 6, 171), (33, .iload_n 1, 34, 0, 0, 0), (34, .iload_n 2, 35, 0, 0, 0), (35, .invokestatic 113, 38, 83, 2, 646), (38, .lxor, 39, 0, 0, 0), (39, .putfield 109, 42, 5, 6, 171), (42, .aload_n 0, 43, 0, 0, 0), (43, .getfield 10, 46, 10, 0, 469), (46, .invokevirtual 102, 49, 86, 1, 628), (49, .ireturn, 50, 0, 0, 0)]
noncomputable abbrev md_T_turn : pm_M := (⟨"TurnField", "turn", "(II)I"⟩, prog_1_method_5_code, 3, (some .int), false, [0, 641, 109, 639, 640], cd_T_turn)
noncomputable def cd_T_play : List pm_I := [(0, .iload_n 1, 1, 0, 0, 0), (1, .ifCond .le 33, 4, 34, 0, 0), (4, .iload_n 2, 5, 0, 0, 0), (5, .ifCond .le 29, 8, 34, 0, 0), (8, .iload_n 1, 9, 0, 0, 0), (9, .iconst 1, 10, 0, 0, 0), (10, .aload_n 0, 11, 0, 0, 0), (11, .getfield 10, 14, 10, 0, 469), (14, .getfield 117, 17, 5, 0, 146), (17, .ishl, 18, 0, 0, 0), (18, .if_icmp .ge 16, 21, 34, 0, 0), (21, .iload_n 2, 22, 0, 0, 0), (22, .iconst 1, 23, 0, 0, 0), (23, .aload_n 0, 24, 0, 0, 0), (24, .getfield 10, 27, 10, 0, 469), (27, .getfield 120, 30, 5, 1, 151), (30, .ishl, 31, 0, 0, 0), (31, .if_icmp .lt 5, 34, 36, 0, 0), (34, .iconst (-1), 35, 0, 0, 0), (35, .ireturn, 36, 0, 0, 0), (36, .aload_n 0, 37, 0, 0, 0), (37, .getfield 37, 40, 10, 4, 473), (40, .aload_n 0, 41, 0, 0, 0), (41, .getfield 10, 44, 10, 0, 469), (44, .invokevirtual 123, 47, 49, 2, 651), (47, .aload_n 0, 48, 0, 0, 0), (48, .getfield 37, 51, 10, 4, 473), (51, .aload_n 0, 52, 0, 0, 0), (52, .getfield 10, 55, 10, 0, 469), (55, .iload_n 1, 56, 0, 0, 0), (56, .iload_n 2, 57, 0, 0, 0), (57, .invokevirtual 126, 60, 56, 4, 719), (60, .ifCond .ne 6, 63, 66, 0, 0), (63, .bipush (-2), 65, 0, 0, 0), (65, .ireturn, 66, 0, 0, 0), (66, .aload_n 0, 67, 0, 0, 0), (67, .iload_n 1, 68, 0, 0, 0), (68, .iload_n 2, 69, 0, 0, 0), (69, .invokevirtual 130, 72, 138, 3, 736), (72, .ireturn, 73, 0, 0, 0)]
noncomputable abbrev md_T_play : pm_M := (⟨"TurnField", "play", "(II)I"⟩, prog_1_method_6_code, 3, (some .int), false, [0, 650, 109, 648, 649], cd_T_play)
noncomputable def cd_T_played : List pm_I := [(0, .aload_n 0, 1, 0, 0, 0), (1, .getfield 19, 4, 10, 1, 470), (4, .aload_n 0, 5, 0, 0, 0), (5, .getfield 10, 8, 10, 0, 469), (8, .invokevirtual 92, 11, 44, 2, 615), (11, .aload_n 0, 12, 0, 0, 0), (12, .getfield 10, 15, 10, 0, 469), (15, .dup, 16, 0, 0, 0), (16, .getfield 109, 19, 5, 6, 171), (19, .iload_n 1, 20, 0, 0, 0), (20, .iload_n 2, 21, 0, 0, 0), (21, .invokestatic 134, 24, 84, 2, 740), (24, .lxor, 25, 0, 0, 0), (25, .putfield 109, 28, 5, 6, 171), (28, .aload_n 0, 29, 0, 0, 0), (29, .getfield 10, 32, 10, 0, 469), (32, .invokevirtual 102, 35, 86, 1, 628), (35, .ireturn, 36, 0, 0, 0)]
noncomputable abbrev md_T_played : pm_M := (⟨"TurnField", "played", "(II)I"⟩, prog_1_method_7_code, 3, (some .int), false, [0, 739, 109, 738, 12], cd_T_played)
noncomputable def cd_T_answer : List pm_I := [(0, .aload_n 0, 1, 0, 0, 0), (1, .getfield 37, 4, 10, 4, 473), (4, .aload_n 0, 5, 0, 0, 0), (5, .getfield 10, 8, 10, 0, 469), (8, .invokevirtual 123, 11, 49, 2, 651), (11, .aload_n 0, 12, 0, 0, 0), (12, .getfield 37, 15, 10, 4, 473), (15, .aload_n 0, 16, 0, 0, 0), (16, .getfield 10, 19, 10, 0, 469), (19, .iconst 1, 20, 0, 0, 0), (20, .iconst 0, 21, 0, 0, 0), (21, .invokevirtual 137, 24, 58, 4, 747), (24, .ifCond .eq 7, 27, 31, 0, 0), (27, .iconst 1, 28, 0, 0, 0), (28, .goto 4, 31, 32, 0, 0), (31, .iconst 0, 32, 0, 0, 0), (32, .istore_n 1, 33, 0, 0, 0), (33, .iload_n 1, 34, 0, 0, 0), (34, .ifCond .ne 22, 37, 56, 0, 0), (37, .aload_n 0, 38, 0, 0, 0), (38, .getfield 37, 41, 10, 4, 473), (41, .aload_n 0, 42, 0, 0, 0), (42, .getfield 10, 45, 10, 0, 469), (45, .iconst 0, 46, 0, 0, 0), (46, .iconst 0, 47, 0, 0, 0), (47, .invokevirtual 137, 50, 58, 4, 747), (50, .ifCond .ne 6, 53, 56, 0, 0), (53, .bipush (-2), 55, 0, 0, 0), (55, .ireturn, 56, 0, 0, 0), (56, .aload_n 0, 57, 0, 0, 0), (57, .aload_n 0, 58, 0, 0, 0), (58, .getfield 37, 61, 10, 4, 473), (61, .getfield 141, 64, 3, 4, 294), (64, .aload_n 0, 65, 0, 0, 0), (65, .getfield 37, 68, 10, 4, 473), (68, .getfield 144, 71, 3, 5, 296), (71, .invokevirtual 130, 74, 138, 3, 736), (74, .pop, 75, 0, 0, 0), (75, .iload_n 1, 76, 0, 0, 0), (76, .ireturn, 77, 0, 0, 0)]
noncomputable abbrev md_T_answer : pm_M := (⟨"TurnField", "answer", "()I"⟩, prog_1_method_8_code, 2, (some .int), false, [0, 746, 109, 744, 745], cd_T_answer)
noncomputable def cd_T_put : List pm_I := [(0, .iload_n 1, 1, 0, 0, 0), (1, .invokestatic 147, 4, 81, 1, 768), (4, .ifCond .ne 5, 7, 9, 0, 0), (7, .iconst (-1), 8, 0, 0, 0), (8, .ireturn, 9, 0, 0, 0), (9, .aload_n 0, 10, 0, 0, 0), (10, .getfield 10, 13, 10, 0, 469), (13, .getfield 150, 16, 5, 7, 174), (16, .iload_n 1, 17, 0, 0, 0), (17, .laload, 18, 0, 0, 0), (18, .lload_n 2, 19, 0, 0, 0), (19, .lcmp, 20, 0, 0, 0), (20, .ifCond .ne 6, 23, 26, 0, 0), (23, .bipush (-2), 25, 0, 0, 0), (25, .ireturn, 26, 0, 0, 0), (26, .aload_n 0, 27, 0, 0, 0), (27, .getfield 19, 30, 10, 1, 470), (30, .aload_n 0, 31, 0, 0, 0), (31, .getfield 10, 34, 10, 0, 469), (34, .invokevirtual 92, 37, 44, 2, 615), (37, .aload_n 0, 38, 0, 0, 0), (38, .getfield 10, 41, 10, 0, 469), (41, .getfield 150, 44, 5, 7, 174), (44, .iload_n 1, 45, 0, 0, 0), (45, .lload_n 2, 46, 0, 0, 0), (46, .lastore, 47, 0, 0, 0), (47, .iconst 1, 48, 0, 0, 0), (48, .ireturn, 49, 0, 0, 0)]
noncomputable abbrev md_T_put : pm_M := (⟨"TurnField", "put", "(IJ)I"⟩, prog_1_method_9_code, 4, (some .int), false, [0, 767, 109, 765, 766], cd_T_put)
noncomputable def cd_T_reckon : List pm_I := [(0, .iload 4, 2, 0, 0, 0), (2, .ifCond .lt 23, 5, 25, 0, 0), (5, .iload 4, 7, 0, 0, 0), (7, .iconst 4, 8, 0, 0, 0), (8, .if_icmp .gt 17, 11, 25, 0, 0), (11, .iload_n 1, 12, 0, 0, 0), (12, .invokestatic 147, 15, 81, 1, 768), (15, .ifCond .eq 10, 18, 25, 0, 0), (18, .iload_n 2, 19, 0, 0, 0), (19, .invokestatic 147, 22, 81, 1, 768), (22, .ifCond .ne 5, 25, 27, 0, 0), (25, .iconst (-1), 26, 0, 0, 0), (26, .ireturn, 27, 0, 0, 0), (27, .iload 4, 29, 0, 0, 0), (29, .iconst 3, 30, 0, 0, 0), (30, .if_icmp .eq 12, 33, 42, 0, 0), (33, .iload_n 3, 34, 0, 0, 0), (34, .invokestatic 147, 37, 81, 1, 768), (37, .ifCond .ne 5, 40, 42, 0, 0), (40, .iconst (-1), 41, 0, 0, 0), (41, .ireturn, 42, 0, 0, 0), (42, .aload_n 0, 43, 0, 0, 0), (43, .getfield 10, 46, 10, 0, 469), (46, .getfield 150, 49, 5, 7, 174), (49, .iload_n 2, 50, 0, 0, 0), (50, .laload, 51, 0, 0, 0), (51, .lstore 5, 53, 0, 0, 0), (53, .iload_n 3, 54, 0, 0, 0), (54, .invokestatic 147, 57, 81, 1, 768), (57, .ifCond .eq 15, 60, 72, 0, 0), (60, .aload_n 0, 61, 0, 0, 0), (61, .getfield 10, 64, 10, 0, 469), (64, .getfield 150, 67, 5, 7, 174), (67, .iload_n 3, 68, 0, 0, 0), (68, .laload, 69, 0, 0, 0), (69, .goto 4, 72, 73, 0, 0), (72, .lconst 0, 73, 0, 0, 0), (73, .lstore 7, 75, 0, 0, 0), (75, .iload 4, 77, 0, 0, 0), (77, .iconst 2, 78, 0, 0, 0), (78, .if_icmp .ne 13, 81, 91, 0, 0), (81, .lload 7, 83, 0, 0, 0), (83, .lconst 0, 84, 0, 0, 0), (84, .lcmp, 85, 0, 0, 0), (85, .ifCond .ne 6, 88, 91, 0, 0), (88, .bipush (-2), 90, 0, 0, 0), (90, .ireturn, 91, 0, 0, 0), (91, .aload_n 0, 92, 0, 0, 0), (92, .getfield 19, 95, 10, 1, 470), (95, .aload_n 0, 96, 0, 0, 0), (96, .getfield 10, 99, 10, 0, 469), (99, .invokevirtual 92, 102, 44, 2, 615), (102, .aload_n 0, 103, 0, 0, 0), (103, .getfield 10, 106, 10, 0, 469), (106, .getfield 150, 109, 5, 7, 174), (109, .iload_n 1, 110, 0, 0, 0), (110, .lload 5, 112, 0, 0, 0), (112, .lload 7, 114, 0, 0, 0), (114, .iload 4, 116, 0, 0, 0), (116, .invokestatic 154, 119, 142, 3, 775), (119, .lastore, 120, 0, 0, 0), (120, .iconst 1, 121, 0, 0, 0), (121, .ireturn, 122, 0, 0, 0)]
noncomputable abbrev md_T_reckon : pm_M := (⟨"TurnField", "reckon", "(IIII)I"⟩, prog_1_method_10_code, 9, (some .int), false, [0, 774, 109, 772, 773], cd_T_reckon)
noncomputable def cd_T_reckoned : List pm_I := [(0, .iload 4, 2, 0, 0, 0), (2, .tableswitch 54 0 3 #[30, 34, 40, 49], 32, 0, 0, 0), (32, .lload_n 0, 33, 0, 0, 0), (33, .lload_n 2, 34, 0, 0, 0), (34, .lxor, 35, 0, 0, 0), (35, .lreturn, 36, 0, 0, 0), (36, .lload_n 0, 37, 0, 0, 0), (37, .lload_n 2, 38, 0, 0, 0), (38, .invokestatic 158, 41, 22, 2, 778), (41, .lreturn, 42, 0, 0, 0), (42, .lload_n 0, 43, 0, 0, 0), (43, .lload_n 2, 44, 0, 0, 0), (44, .invokestatic 164, 47, 28, 1, 779), (47, .invokestatic 158, 50, 22, 2, 778), (50, .lreturn, 51, 0, 0, 0), (51, .lload_n 0, 52, 0, 0, 0), (52, .invokestatic 168, 55, 27, 1, 786), (55, .lreturn, 56, 0, 0, 0), (56, .lload_n 0, 57, 0, 0, 0), (57, .lload_n 2, 58, 0, 0, 0), (58, .invokestatic 171, 61, 33, 2, 789), (61, .lreturn, 62, 0, 0, 0)]
noncomputable abbrev md_T_reckoned : pm_M := (⟨"TurnField", "reckoned", "(JJI)J"⟩, prog_1_method_11_code, 5, (some .long), false, [1, 777, 109, 776, 0], cd_T_reckoned)
noncomputable def cd_T_undo : List pm_I := [(0, .aload_n 0, 1, 0, 0, 0), (1, .getfield 19, 4, 10, 1, 470), (4, .getfield 174, 7, 2, 2, 222), (7, .ifCond .ne 5, 10, 12, 0, 0), (10, .iconst (-1), 11, 0, 0, 0), (11, .ireturn, 12, 0, 0, 0), (12, .aload_n 0, 13, 0, 0, 0), (13, .getfield 19, 16, 10, 1, 470), (16, .aload_n 0, 17, 0, 0, 0), (17, .getfield 10, 20, 10, 0, 469), (20, .invokevirtual 177, 23, 47, 2, 796), (23, .aload_n 0, 24, 0, 0, 0), (24, .getfield 19, 27, 10, 1, 470), (27, .getfield 174, 30, 2, 2, 222), (30, .ireturn, 31, 0, 0, 0)]
noncomputable abbrev md_T_undo : pm_M := (⟨"TurnField", "undo", "()I"⟩, prog_1_method_12_code, 1, (some .int), false, [0, 795, 109, 793, 794], cd_T_undo)
noncomputable def cd_T_keep : List pm_I := [(0, .aload_n 0, 1, 0, 0, 0), (1, .iload_n 1, 2, 0, 0, 0), (2, .invokevirtual 180, 5, 146, 2, 808), (5, .ifCond .ne 5, 8, 10, 0, 0), (8, .iconst (-1), 9, 0, 0, 0), (9, .ireturn, 10, 0, 0, 0), (10, .aload_n 0, 11, 0, 0, 0), (11, .getfield 23, 14, 10, 2, 471), (14, .iload_n 1, 15, 0, 0, 0), (15, .aaload, 16, 0, 0, 0), (16, .aload_n 0, 17, 0, 0, 0), (17, .getfield 10, 20, 10, 0, 469), (20, .invokevirtual 183, 23, 80, 2, 812), (23, .aload_n 0, 24, 0, 0, 0), (24, .getfield 23, 27, 10, 2, 471), (27, .iload_n 1, 28, 0, 0, 0), (28, .aaload, 29, 0, 0, 0), (29, .iconst 1, 30, 0, 0, 0), (30, .putfield 186, 33, 5, 11, 183), (33, .aload_n 0, 34, 0, 0, 0), (34, .getfield 10, 37, 10, 0, 469), (37, .invokevirtual 102, 40, 86, 1, 628), (40, .ireturn, 41, 0, 0, 0)]
noncomputable abbrev md_T_keep : pm_M := (⟨"TurnField", "keep", "(I)I"⟩, prog_1_method_13_code, 2, (some .int), false, [0, 807, 109, 805, 806], cd_T_keep)
noncomputable def cd_T_back : List pm_I := [(0, .aload_n 0, 1, 0, 0, 0), (1, .iload_n 1, 2, 0, 0, 0), (2, .invokevirtual 180, 5, 146, 2, 808), (5, .ifCond .ne 5, 8, 10, 0, 0), (8, .iconst (-1), 9, 0, 0, 0), (9, .ireturn, 10, 0, 0, 0), (10, .aload_n 0, 11, 0, 0, 0), (11, .getfield 23, 14, 10, 2, 471), (14, .iload_n 1, 15, 0, 0, 0), (15, .aaload, 16, 0, 0, 0), (16, .getfield 186, 19, 5, 11, 183), (19, .ifCond .ne 6, 22, 25, 0, 0), (22, .bipush (-2), 24, 0, 0, 0), (24, .ireturn, 25, 0, 0, 0), (25, .aload_n 0, 26, 0, 0, 0), (26, .getfield 19, 29, 10, 1, 470), (29, .aload_n 0, 30, 0, 0, 0), (30, .getfield 10, 33, 10, 0, 469), (33, .invokevirtual 92, 36, 44, 2, 615), (36, .aload_n 0, 37, 0, 0, 0), (37, .getfield 10, 40, 10, 0, 469), (40, .aload_n 0, 41, 0, 0, 0), (41, .getfield 23, 44, 10, 2, 471), (44, .iload_n 1, 45, 0, 0, 0), (45, .aaload, 46, 0, 0, 0), (46, .invokevirtual 183, 49, 80, 2, 812), (49, .aload_n 0, 50, 0, 0, 0), (50, .getfield 10, 53, 10, 0, 469), (53, .invokevirtual 102, 56, 86, 1, 628), (56, .ireturn, 57, 0, 0, 0)]
noncomputable abbrev md_T_back : pm_M := (⟨"TurnField", "back", "(I)I"⟩, prog_1_method_14_code, 2, (some .int), false, [0, 816, 109, 814, 815], cd_T_back)
noncomputable def cd_T_hasShelf : List pm_I := [(0, .iload_n 1, 1, 0, 0, 0), (1, .ifCond .lt 16, 4, 17, 0, 0), (4, .iload_n 1, 5, 0, 0, 0), (5, .aload_n 0, 6, 0, 0, 0), (6, .getfield 23, 9, 10, 2, 471), (9, .arraylength, 10, 0, 0, 0), (10, .if_icmp .ge 7, 13, 17, 0, 0), (13, .iconst 1, 14, 0, 0, 0), (14, .goto 4, 17, 18, 0, 0), (17, .iconst 0, 18, 0, 0, 0), (18, .ireturn, 19, 0, 0, 0)]
noncomputable abbrev md_T_hasShelf : pm_M := (⟨"TurnField", "hasShelf", "(I)Z"⟩, prog_1_method_15_code, 2, (some .boolean), false, [0, 811, 109, 810, 15], cd_T_hasShelf)
noncomputable def cd_T_grid : List pm_I := [(0, .iload_n 1, 1, 0, 0, 0), (1, .iconst 1, 2, 0, 0, 0), (2, .if_icmp .lt 18, 5, 20, 0, 0), (5, .iload_n 1, 6, 0, 0, 0), (6, .iconst 4, 7, 0, 0, 0), (7, .if_icmp .gt 13, 10, 20, 0, 0), (10, .iload_n 2, 11, 0, 0, 0), (11, .iconst 1, 12, 0, 0, 0), (12, .if_icmp .lt 8, 15, 20, 0, 0), (15, .iload_n 2, 16, 0, 0, 0), (16, .iconst 4, 17, 0, 0, 0), (17, .if_icmp .le 5, 20, 22, 0, 0), (20, .iconst (-1), 21, 0, 0, 0), (21, .ireturn, 22, 0, 0, 0), (22, .aload_n 0, 23, 0, 0, 0), (23, .getfield 19, 26, 10, 1, 470), (26, .aload_n 0, 27, 0, 0, 0), (27, .getfield 10, 30, 10, 0, 469), (30, .invokevirtual 92, 33, 44, 2, 615), (33, .aload_n 0, 34, 0, 0, 0), (34, .getfield 10, 37, 10, 0, 469), (37, .iload_n 1, 38, 0, 0, 0), (38, .iload_n 2, 39, 0, 0, 0), (39, .invokevirtual 190, 42, 94, 3, 821), (42, .iload_n 1, 43, 0, 0, 0), (43, .iload_n 2, 44, 0, 0, 0), (44, .imul, 45, 0, 0, 0), (45, .ireturn, 46, 0, 0, 0)]
noncomputable abbrev md_T_grid : pm_M := (⟨"TurnField", "grid", "(II)I"⟩, prog_1_method_16_code, 3, (some .int), false, [0, 820, 109, 818, 819], cd_T_grid)
noncomputable def cd_T_enter : List pm_I := [(0, .aload_n 0, 1, 0, 0, 0), (1, .getfield 10, 4, 10, 0, 469), (4, .iload_n 1, 5, 0, 0, 0), (5, .iload_n 2, 6, 0, 0, 0), (6, .invokevirtual 194, 9, 91, 3, 829), (9, .ifCond .ne 5, 12, 14, 0, 0), (12, .iconst (-1), 13, 0, 0, 0), (13, .ireturn, 14, 0, 0, 0), (14, .aload_n 0, 15, 0, 0, 0), (15, .getfield 10, 18, 10, 0, 469), (18, .iload_n 1, 19, 0, 0, 0), (19, .iload_n 2, 20, 0, 0, 0), (20, .invokevirtual 197, 23, 92, 3, 833), (23, .lload_n 3, 24, 0, 0, 0), (24, .lcmp, 25, 0, 0, 0), (25, .ifCond .ne 6, 28, 31, 0, 0), (28, .bipush (-2), 30, 0, 0, 0), (30, .ireturn, 31, 0, 0, 0), (31, .aload_n 0, 32, 0, 0, 0), (32, .getfield 19, 35, 10, 1, 470), (35, .aload_n 0, 36, 0, 0, 0), (36, .getfield 10, 39, 10, 0, 469), (39, .invokevirtual 92, 42, 44, 2, 615), (42, .aload_n 0, 43, 0, 0, 0), (43, .getfield 10, 46, 10, 0, 469), (46, .iload_n 1, 47, 0, 0, 0), (47, .iload_n 2, 48, 0, 0, 0), (48, .lload_n 3, 49, 0, 0, 0), (49, .invokevirtual 200, 52, 93, 4, 838), (52, .iconst 1, 53, 0, 0, 0), (53, .ireturn, 54, 0, 0, 0)]
noncomputable abbrev md_T_enter : pm_M := (⟨"TurnField", "enter", "(IIJ)I"⟩, prog_1_method_17_code, 5, (some .int), false, [0, 828, 109, 826, 827], cd_T_enter)
noncomputable def cd_T_multiply : List pm_I := [(0, .aload_n 0, 1, 0, 0, 0), (1, .iload_n 1, 2, 0, 0, 0), (2, .invokevirtual 180, 5, 146, 2, 808), (5, .ifCond .eq 15, 8, 20, 0, 0), (8, .aload_n 0, 9, 0, 0, 0), (9, .getfield 23, 12, 10, 2, 471), (12, .iload_n 1, 13, 0, 0, 0), (13, .aaload, 14, 0, 0, 0), (14, .getfield 186, 17, 5, 11, 183), (17, .ifCond .ne 5, 20, 22, 0, 0), (20, .iconst (-1), 21, 0, 0, 0), (21, .ireturn, 22, 0, 0, 0), (22, .aload_n 0, 23, 0, 0, 0), (23, .getfield 23, 26, 10, 2, 471), (26, .iload_n 1, 27, 0, 0, 0), (27, .aaload, 28, 0, 0, 0), (28, .astore_n 2, 29, 0, 0, 0), (29, .aload_n 0, 30, 0, 0, 0), (30, .getfield 10, 33, 10, 0, 469), (33, .getfield 204, 36, 5, 9, 180), (36, .aload_n 2, 37, 0, 0, 0), (37, .getfield 207, 40, 5, 8, 177), (40, .if_icmp .eq 6, 43, 46, 0, 0), (43, .bipush (-2), 45, 0, 0, 0), (45, .ireturn, 46, 0, 0, 0), (46, .aload_n 0, 47, 0, 0, 0), (47, .getfield 19, 50, 10, 1, 470), (50, .aload_n 0, 51, 0, 0, 0), (51, .getfield 10, 54, 10, 0, 469), (54, .invokevirtual 92, 57, 44, 2, 615), (57, .aload_n 0, 58, 0, 0, 0), (58, .getfield 19, 61, 10, 1, 470), (61, .invokevirtual 210, 64, 46, 1, 846), (64, .astore_n 3, 65, 0, 0, 0), (65, .aload_n 0, 66, 0, 0, 0), (66, .getfield 10, 69, 10, 0, 469), (69, .aload_n 3, 70, 0, 0, 0), (70, .getfield 207, 73, 5, 8, 177), (73, .aload_n 2, 74, 0, 0, 0), (74, .getfield 204, 77, 5, 9, 180), (77, .invokevirtual 190, 80, 94, 3, 821), (80, .iconst 0, 81, 0, 0, 0), (81, .istore 4, 83, 0, 0, 0), (83, .iload 4, 85, 0, 0, 0), (85, .aload_n 0, 86, 0, 0, 0), (86, .getfield 10, 89, 10, 0, 469), (89, .getfield 207, 92, 5, 8, 177), (92, .if_icmp .ge 50, 95, 142, 0, 0), (95, .iconst 0, 96, 0, 0, 0), (96, .istore 5, 98, 0, 0, 0), (98, .iload 5, 100, 0, 0, 0), (100, .aload_n 0, 101, 0, 0, 0), (101, .getfield 10, 104, 10, 0, 469), (104, .getfield 204, 107, 5, 9, 180), (107, .if_icmp .ge 29, 110, 136, 0, 0), (110, .aload_n 0, 111, 0, 0, 0), (111, .getfield 10, 114, 10, 0, 469), (114, .iload 4, 116, 0, 0, 0), (116, .iload 5, 118, 0, 0, 0), (118, .aload_n 3, 119, 0, 0, 0), (119, .iload 4, 121, 0, 0, 0), (121, .aload_n 2, 122, 0, 0, 0), (122, .iload 5, 124, 0, 0, 0), (124, .invokestatic 214, 127, 150, 4, 850), (127, .invokevirtual 200, 130, 93, 4, 838), (130, .iinc 5 1, 133, 0, 0, 0), (133, .goto (-35), 136, 98, 0, 0), (136, .iinc 4 1, 139, 0, 0, 0), (139, .goto (-56), 142, 83, 0, 0), (142, .aload_n 0, 143, 0, 0, 0), (143, .getfield 10, 146, 10, 0, 469), (146, .getfield 207, 149, 5, 8, 177), (149, .aload_n 0, 150, 0, 0, 0), (150, .getfield 10, 153, 10, 0, 469), (153, .getfield 204, 156, 5, 9, 180), (156, .imul, 157, 0, 0, 0), (157, .ireturn, 158, 0, 0, 0)]
noncomputable abbrev md_T_multiply : pm_M := (⟨"TurnField", "multiply", "(I)I"⟩, prog_1_method_18_code, 6, (some .int), false, [0, 845, 109, 843, 844], cd_T_multiply)
noncomputable def cd_T_sharedOut : List pm_I := [(0, .lconst 0, 1, 0, 0, 0), (1, .lstore 4, 3, 0, 0, 0), (3, .iconst 0, 4, 0, 0, 0), (4, .istore 6, 6, 0, 0, 0), (6, .iload 6, 8, 0, 0, 0), (8, .aload_n 0, 9, 0, 0, 0), (9, .getfield 204, 12, 5, 9, 180), (12, .if_icmp .ge 31, 15, 43, 0, 0), (15, .lload 4, 17, 0, 0, 0), (17, .aload_n 0, 18, 0, 0, 0), (18, .iload_n 1, 19, 0, 0, 0), (19, .iload 6, 21, 0, 0, 0), (21, .invokevirtual 197, 24, 92, 3, 833), (24, .aload_n 2, 25, 0, 0, 0), (25, .iload 6, 27, 0, 0, 0), (27, .iload_n 3, 28, 0, 0, 0), (28, .invokevirtual 197, 31, 92, 3, 833), (31, .invokestatic 158, 34, 22, 2, 778), (34, .lxor, 35, 0, 0, 0), (35, .lstore 4, 37, 0, 0, 0), (37, .iinc 6 1, 40, 0, 0, 0), (40, .goto (-34), 43, 6, 0, 0), (43, .lload 4, 45, 0, 0, 0), (45, .lreturn, 46, 0, 0, 0)]
noncomputable abbrev md_T_sharedOut : pm_M := (⟨"TurnField", "sharedOut", "(LTurnField$Position;ILTurnField$Position;I)J"⟩, prog_1_method_19_code, 7, (some .long), false, [1, 852, 109, 851, 0], cd_T_sharedOut)
noncomputable def cd_T_invert : List pm_I := [(0, .aload_n 0, 1, 0, 0, 0), (1, .getfield 10, 4, 10, 0, 469), (4, .getfield 207, 7, 5, 8, 177), (7, .aload_n 0, 8, 0, 0, 0), (8, .getfield 10, 11, 10, 0, 469), (11, .getfield 204, 14, 5, 9, 180), (14, .if_icmp .ne 17, 17, 31, 0, 0), (17, .aload_n 0, 18, 0, 0, 0), (18, .getfield 58, 21, 10, 7, 476), (21, .aload_n 0, 22, 0, 0, 0), (22, .getfield 10, 25, 10, 0, 469), (25, .invokevirtual 218, 28, 110, 2, 857), (28, .ifCond .ne 6, 31, 34, 0, 0), (31, .bipush (-2), 33, 0, 0, 0), (33, .ireturn, 34, 0, 0, 0), (34, .aload_n 0, 35, 0, 0, 0), (35, .getfield 19, 38, 10, 1, 470), (38, .aload_n 0, 39, 0, 0, 0), (39, .getfield 10, 42, 10, 0, 469), (42, .invokevirtual 92, 45, 44, 2, 615), (45, .iconst 0, 46, 0, 0, 0), (46, .istore_n 1, 47, 0, 0, 0), (47, .iload_n 1, 48, 0, 0, 0), (48, .aload_n 0, 49, 0, 0, 0), (49, .getfield 10, 52, 10, 0, 469), (52, .getfield 207, 55, 5, 8, 177), (55, .if_icmp .ge 54, 58, 109, 0, 0), (58, .iconst 0, 59, 0, 0, 0), (59, .istore_n 2, 60, 0, 0, 0), (60, .iload_n 2, 61, 0, 0, 0), (61, .aload_n 0, 62, 0, 0, 0), (62, .getfield 10, 65, 10, 0, 469), (65, .getfield 204, 68, 5, 9, 180), (68, .if_icmp .ge 35, 71, 103, 0, 0), (71, .aload_n 0, 72, 0, 0, 0), (72, .getfield 10, 75, 10, 0, 469), (75, .iload_n 1, 76, 0, 0, 0), (76, .iload_n 2, 77, 0, 0, 0), (77, .aload_n 0, 78, 0, 0, 0), (78, .getfield 58, 81, 10, 7, 476), (81, .iload_n 1, 82, 0, 0, 0), (82, .aload_n 0, 83, 0, 0, 0), (83, .getfield 10, 86, 10, 0, 469), (86, .getfield 204, 89, 5, 9, 180), (89, .iload_n 2, 90, 0, 0, 0), (90, .iadd, 91, 0, 0, 0), (91, .invokevirtual 222, 94, 117, 3, 888), (94, .invokevirtual 200, 97, 93, 4, 838), (97, .iinc 2 1, 100, 0, 0, 0), (100, .goto (-40), 103, 60, 0, 0), (103, .iinc 1 1, 106, 0, 0, 0), (106, .goto (-59), 109, 47, 0, 0), (109, .iconst 1, 110, 0, 0, 0), (110, .ireturn, 111, 0, 0, 0)]
noncomputable abbrev md_T_invert : pm_M := (⟨"TurnField", "invert", "()I"⟩, prog_1_method_20_code, 3, (some .int), false, [0, 856, 109, 854, 855], cd_T_invert)
noncomputable def cd_T_entry : List pm_I := [(0, .aload_n 0, 1, 0, 0, 0), (1, .getfield 10, 4, 10, 0, 469), (4, .iload_n 1, 5, 0, 0, 0), (5, .iload_n 2, 6, 0, 0, 0), (6, .invokevirtual 194, 9, 91, 3, 829), (9, .ifCond .eq 12, 12, 21, 0, 0), (12, .iload_n 3, 13, 0, 0, 0), (13, .ifCond .lt 8, 16, 21, 0, 0), (16, .iload_n 3, 17, 0, 0, 0), (17, .iconst 1, 18, 0, 0, 0), (18, .if_icmp .le 5, 21, 23, 0, 0), (21, .lconst 0, 22, 0, 0, 0), (22, .lreturn, 23, 0, 0, 0), (23, .iload_n 3, 24, 0, 0, 0), (24, .ifCond .ne 13, 27, 37, 0, 0), (27, .aload_n 0, 28, 0, 0, 0), (28, .getfield 10, 31, 10, 0, 469), (31, .iload_n 1, 32, 0, 0, 0), (32, .iload_n 2, 33, 0, 0, 0), (33, .invokevirtual 197, 36, 92, 3, 833), (36, .lreturn, 37, 0, 0, 0), (37, .aload_n 0, 38, 0, 0, 0), (38, .getfield 58, 41, 10, 7, 476), (41, .aload_n 0, 42, 0, 0, 0), (42, .getfield 10, 45, 10, 0, 469), (45, .invokevirtual 225, 48, 109, 2, 896), (48, .aload_n 0, 49, 0, 0, 0), (49, .getfield 58, 52, 10, 7, 476), (52, .iload_n 1, 53, 0, 0, 0), (53, .iload_n 2, 54, 0, 0, 0), (54, .invokevirtual 222, 57, 117, 3, 888), (57, .lreturn, 58, 0, 0, 0)]
noncomputable abbrev md_T_entry : pm_M := (⟨"TurnField", "entry", "(III)J"⟩, prog_1_method_21_code, 4, (some .long), false, [0, 895, 109, 893, 894], cd_T_entry)
noncomputable def cd_T_determinant : List pm_I := [(0, .aload_n 0, 1, 0, 0, 0), (1, .getfield 10, 4, 10, 0, 469), (4, .getfield 207, 7, 5, 8, 177), (7, .aload_n 0, 8, 0, 0, 0), (8, .getfield 10, 11, 10, 0, 469), (11, .getfield 204, 14, 5, 9, 180), (14, .if_icmp .eq 5, 17, 19, 0, 0), (17, .lconst 0, 18, 0, 0, 0), (18, .lreturn, 19, 0, 0, 0), (19, .aload_n 0, 20, 0, 0, 0), (20, .getfield 58, 23, 10, 7, 476), (23, .aload_n 0, 24, 0, 0, 0), (24, .getfield 10, 27, 10, 0, 469), (27, .invokevirtual 225, 30, 109, 2, 896), (30, .aload_n 0, 31, 0, 0, 0), (31, .getfield 58, 34, 10, 7, 476), (34, .getfield 228, 37, 8, 2, 376), (37, .aload_n 0, 38, 0, 0, 0), (38, .getfield 10, 41, 10, 0, 469), (41, .getfield 207, 44, 5, 8, 177), (44, .if_icmp .ge 7, 47, 51, 0, 0), (47, .lconst 0, 48, 0, 0, 0), (48, .goto 10, 51, 58, 0, 0), (51, .aload_n 0, 52, 0, 0, 0), (52, .getfield 58, 55, 10, 7, 476), (55, .getfield 231, 58, 8, 3, 378), (58, .lreturn, 59, 0, 0, 0)]
noncomputable abbrev md_T_determinant : pm_M := (⟨"TurnField", "determinant", "()J"⟩, prog_1_method_22_code, 1, (some .long), false, [0, 903, 109, 901, 902], cd_T_determinant)
noncomputable def cd_T_shape : List pm_I := [(0, .iload_n 1, 1, 0, 0, 0), (1, .tableswitch 119 0 3 #[31, 39, 47, 66], 32, 0, 0, 0), (32, .aload_n 0, 33, 0, 0, 0), (33, .getfield 10, 36, 10, 0, 469), (36, .getfield 207, 39, 5, 8, 177), (39, .ireturn, 40, 0, 0, 0), (40, .aload_n 0, 41, 0, 0, 0), (41, .getfield 10, 44, 10, 0, 469), (44, .getfield 204, 47, 5, 9, 180), (47, .ireturn, 48, 0, 0, 0), (48, .aload_n 0, 49, 0, 0, 0), (49, .getfield 58, 52, 10, 7, 476), (52, .aload_n 0, 53, 0, 0, 0), (53, .getfield 10, 56, 10, 0, 469), (56, .invokevirtual 225, 59, 109, 2, 896), (59, .aload_n 0, 60, 0, 0, 0), (60, .getfield 58, 63, 10, 7, 476), (63, .getfield 228, 66, 8, 2, 376), (66, .ireturn, 67, 0, 0, 0), (67, .aload_n 0, 68, 0, 0, 0), (68, .getfield 58, 71, 10, 7, 476), (71, .aload_n 0, 72, 0, 0, 0), (72, .getfield 10, 75, 10, 0, 469), (75, .invokevirtual 225, 78, 109, 2, 896), (78, .aload_n 0, 79, 0, 0, 0), (79, .getfield 58, 82, 10, 7, 476), (82, .aload_n 0, 83, 0, 0, 0), (83, .getfield 10, 86, 10, 0, 469), (86, .getfield 204, 89, 5, 9, 180), (89, .iconst 1, 90, 0, 0, 0), (90, .isub, 91, 0, 0, 0), (91, .invokevirtual 234, 94, 118, 2, 908), (94, .ifCond .eq 8, 97, 102, 0, 0), (97, .bipush (-2), 99, 0, 0, 0), (99, .goto 20, 102, 119, 0, 0), (102, .aload_n 0, 103, 0, 0, 0), (103, .getfield 10, 106, 10, 0, 469), (106, .getfield 204, 109, 5, 9, 180), (109, .iconst 1, 110, 0, 0, 0), (110, .isub, 111, 0, 0, 0), (111, .aload_n 0, 112, 0, 0, 0), (112, .getfield 58, 115, 10, 7, 476), (115, .getfield 228, 118, 8, 2, 376), (118, .isub, 119, 0, 0, 0), (119, .ireturn, 120, 0, 0, 0), (120, .iconst (-1), 121, 0, 0, 0), (121, .ireturn, 122, 0, 0, 0)]
noncomputable abbrev md_T_shape : pm_M := (⟨"TurnField", "shape", "(I)I"⟩, prog_1_method_23_code, 2, (some .int), false, [0, 907, 109, 905, 906], cd_T_shape)
noncomputable def cd_T_solution : List pm_I := [(0, .aload_n 0, 1, 0, 0, 0), (1, .getfield 10, 4, 10, 0, 469), (4, .getfield 204, 7, 5, 9, 180), (7, .iconst 1, 8, 0, 0, 0), (8, .isub, 9, 0, 0, 0), (9, .istore_n 2, 10, 0, 0, 0), (10, .aload_n 0, 11, 0, 0, 0), (11, .getfield 58, 14, 10, 7, 476), (14, .aload_n 0, 15, 0, 0, 0), (15, .getfield 10, 18, 10, 0, 469), (18, .invokevirtual 225, 21, 109, 2, 896), (21, .aload_n 0, 22, 0, 0, 0), (22, .getfield 58, 25, 10, 7, 476), (25, .iload_n 2, 26, 0, 0, 0), (26, .invokevirtual 234, 29, 118, 2, 908), (29, .ifCond .eq 7, 32, 36, 0, 0), (32, .lconst 0, 33, 0, 0, 0), (33, .goto 12, 36, 45, 0, 0), (36, .aload_n 0, 37, 0, 0, 0), (37, .getfield 58, 40, 10, 7, 476), (40, .iload_n 1, 41, 0, 0, 0), (41, .iload_n 2, 42, 0, 0, 0), (42, .invokevirtual 237, 45, 119, 3, 916), (45, .lreturn, 46, 0, 0, 0)]
noncomputable abbrev md_T_solution : pm_M := (⟨"TurnField", "solution", "(I)J"⟩, prog_1_method_24_code, 3, (some .long), false, [0, 915, 109, 913, 914], cd_T_solution)
noncomputable def cd_T_roots : List pm_I := [(0, .iload_n 1, 1, 0, 0, 0), (1, .ifCond .lt 13, 4, 14, 0, 0), (4, .iload_n 1, 5, 0, 0, 0), (5, .iconst 4, 6, 0, 0, 0), (6, .if_icmp .gt 8, 9, 14, 0, 0), (9, .iload_n 2, 10, 0, 0, 0), (10, .iconst (-1), 11, 0, 0, 0), (11, .if_icmp .ge 5, 14, 16, 0, 0), (14, .iconst (-1), 15, 0, 0, 0), (15, .ireturn, 16, 0, 0, 0), (16, .aload_n 0, 17, 0, 0, 0), (17, .getfield 10, 20, 10, 0, 469), (20, .getfield 150, 23, 5, 7, 174), (23, .invokestatic 240, 26, 61, 1, 925), (26, .ifCond .ge 30, 29, 56, 0, 0), (29, .iconst 1, 30, 0, 0, 0), (30, .iconst 1, 31, 0, 0, 0), (31, .iload_n 1, 32, 0, 0, 0), (32, .ishl, 33, 0, 0, 0), (33, .ishl, 34, 0, 0, 0), (34, .istore_n 3, 35, 0, 0, 0), (35, .iload_n 2, 36, 0, 0, 0), (36, .iconst (-1), 37, 0, 0, 0), (37, .if_icmp .ne 7, 40, 44, 0, 0), (40, .iload_n 3, 41, 0, 0, 0), (41, .goto 14, 44, 55, 0, 0), (44, .iload_n 2, 45, 0, 0, 0), (45, .iload_n 3, 46, 0, 0, 0), (46, .if_icmp .ge 7, 49, 53, 0, 0), (49, .iload_n 2, 50, 0, 0, 0), (50, .goto 5, 53, 55, 0, 0), (53, .bipush (-2), 55, 0, 0, 0), (55, .ireturn, 56, 0, 0, 0), (56, .aload_n 0, 57, 0, 0, 0), (57, .getfield 65, 60, 10, 8, 477), (60, .aload_n 0, 61, 0, 0, 0), (61, .getfield 10, 64, 10, 0, 469), (64, .getfield 150, 67, 5, 7, 174), (67, .iload_n 1, 68, 0, 0, 0), (68, .invokevirtual 244, 71, 71, 3, 928), (71, .iload_n 2, 72, 0, 0, 0), (72, .iconst (-1), 73, 0, 0, 0), (73, .if_icmp .ne 13, 76, 86, 0, 0), (76, .aload_n 0, 77, 0, 0, 0), (77, .getfield 65, 80, 10, 8, 477), (80, .getfield 248, 83, 4, 14, 411), (83, .goto 11, 86, 94, 0, 0), (86, .aload_n 0, 87, 0, 0, 0), (87, .getfield 65, 90, 10, 8, 477), (90, .iload_n 2, 91, 0, 0, 0), (91, .invokevirtual 251, 94, 77, 2, 974), (94, .ireturn, 95, 0, 0, 0)]
noncomputable abbrev md_T_roots : pm_M := (⟨"TurnField", "roots", "(II)I"⟩, prog_1_method_25_code, 4, (some .int), false, [0, 924, 109, 922, 923], cd_T_roots)
noncomputable def cd_T_common : List pm_I := [(0, .aload_n 0, 1, 0, 0, 0), (1, .getfield 65, 4, 10, 8, 477), (4, .aload_n 0, 5, 0, 0, 0), (5, .getfield 10, 8, 10, 0, 469), (8, .getfield 150, 11, 5, 7, 174), (11, .invokevirtual 255, 14, 69, 2, 982), (14, .aload_n 0, 15, 0, 0, 0), (15, .getfield 65, 18, 10, 8, 477), (18, .iload_n 1, 19, 0, 0, 0), (19, .invokevirtual 259, 22, 70, 2, 986), (22, .lreturn, 23, 0, 0, 0)]
noncomputable abbrev md_T_common : pm_M := (⟨"TurnField", "common", "(I)J"⟩, prog_1_method_26_code, 2, (some .long), false, [0, 981, 109, 979, 980], cd_T_common)
noncomputable def cd_T_mended : List pm_I := [(0, .aload_n 0, 1, 0, 0, 0), (1, .getfield 72, 4, 10, 9, 478), (4, .aload_n 0, 5, 0, 0, 0), (5, .getfield 10, 8, 10, 0, 469), (8, .getfield 150, 11, 5, 7, 174), (11, .invokevirtual 263, 14, 3, 2, 994), (14, .aload_n 0, 15, 0, 0, 0), (15, .getfield 72, 18, 10, 9, 478), (18, .iload_n 1, 19, 0, 0, 0), (19, .invokevirtual 266, 22, 8, 2, 1027), (22, .lreturn, 23, 0, 0, 0)]
noncomputable abbrev md_T_mended : pm_M := (⟨"TurnField", "mended", "(I)J"⟩, prog_1_method_27_code, 2, (some .long), false, [0, 993, 109, 991, 992], cd_T_mended)
noncomputable def cd_T_mendedAt : List pm_I := [(0, .aload_n 0, 1, 0, 0, 0), (1, .getfield 72, 4, 10, 9, 478), (4, .aload_n 0, 5, 0, 0, 0), (5, .getfield 10, 8, 10, 0, 469), (8, .getfield 150, 11, 5, 7, 174), (11, .invokevirtual 263, 14, 3, 2, 994), (14, .aload_n 0, 15, 0, 0, 0), (15, .getfield 72, 18, 10, 9, 478), (18, .lload_n 1, 19, 0, 0, 0), (19, .invokevirtual 269, 22, 9, 2, 1035), (22, .lreturn, 23, 0, 0, 0)]
noncomputable abbrev md_T_mendedAt : pm_M := (⟨"TurnField", "mendedAt", "(J)J"⟩, prog_1_method_28_code, 3, (some .long), false, [0, 1034, 109, 1032, 1033], cd_T_mendedAt)
noncomputable def cd_T_agrees : List pm_I := [(0, .iload_n 1, 1, 0, 0, 0), (1, .ifCond .lt 8, 4, 9, 0, 0), (4, .iload_n 1, 5, 0, 0, 0), (5, .iconst 1, 6, 0, 0, 0), (6, .if_icmp .le 5, 9, 11, 0, 0), (9, .iconst (-1), 10, 0, 0, 0), (10, .ireturn, 11, 0, 0, 0), (11, .aload_n 0, 12, 0, 0, 0), (12, .getfield 72, 15, 10, 9, 478), (15, .aload_n 0, 16, 0, 0, 0), (16, .getfield 10, 19, 10, 0, 469), (19, .getfield 150, 22, 5, 7, 174), (22, .invokevirtual 263, 25, 3, 2, 994), (25, .aload_n 0, 26, 0, 0, 0), (26, .getfield 72, 29, 10, 9, 478), (29, .invokevirtual 272, 32, 7, 1, 1043), (32, .ifCond .ne 6, 35, 38, 0, 0), (35, .bipush (-2), 37, 0, 0, 0), (37, .ireturn, 38, 0, 0, 0), (38, .iload_n 1, 39, 0, 0, 0), (39, .ifCond .ne 16, 42, 55, 0, 0), (42, .aload_n 0, 43, 0, 0, 0), (43, .getfield 72, 46, 10, 9, 478), (46, .getfield 276, 49, 0, 5, 455), (49, .invokestatic 279, 52, 318, 1, 1044), (52, .goto 14, 55, 66, 0, 0), (55, .sipush 255, 58, 0, 0, 0), (58, .aload_n 0, 59, 0, 0, 0), (59, .getfield 72, 62, 10, 9, 478), (62, .getfield 276, 65, 0, 5, 455), (65, .ixor, 66, 0, 0, 0), (66, .ireturn, 67, 0, 0, 0)]
noncomputable abbrev md_T_agrees : pm_M := (⟨"TurnField", "agrees", "(I)I"⟩, prog_1_method_29_code, 2, (some .int), false, [0, 1042, 109, 1040, 1041], cd_T_agrees)
noncomputable def cd_T_place : List pm_I := [(0, .iload_n 1, 1, 0, 0, 0), (1, .invokestatic 147, 4, 81, 1, 768), (4, .ifCond .eq 15, 7, 19, 0, 0), (7, .aload_n 0, 8, 0, 0, 0), (8, .getfield 10, 11, 10, 0, 469), (11, .getfield 150, 14, 5, 7, 174), (14, .iload_n 1, 15, 0, 0, 0), (15, .laload, 16, 0, 0, 0), (16, .goto 4, 19, 20, 0, 0), (19, .lconst 0, 20, 0, 0, 0), (20, .lreturn, 21, 0, 0, 0)]
noncomputable abbrev md_T_place : pm_M := (⟨"TurnField", "place", "(I)J"⟩, prog_1_method_30_code, 2, (some .long), false, [0, 1048, 109, 1046, 1047], cd_T_place)
noncomputable def cd_T_at : List pm_I := [(0, .iload_n 3, 1, 0, 0, 0), (1, .ifCond .ne 15, 4, 16, 0, 0), (4, .aload_n 0, 5, 0, 0, 0), (5, .getfield 10, 8, 10, 0, 469), (8, .getfield 150, 11, 5, 7, 174), (11, .lload_n 1, 12, 0, 0, 0), (12, .invokestatic 284, 15, 62, 2, 1053), (15, .lreturn, 16, 0, 0, 0), (16, .iload_n 3, 17, 0, 0, 0), (17, .iconst 1, 18, 0, 0, 0), (18, .if_icmp .ne 21, 21, 39, 0, 0), (21, .aload_n 0, 22, 0, 0, 0), (22, .getfield 72, 25, 10, 9, 478), (25, .aload_n 0, 26, 0, 0, 0), (26, .getfield 10, 29, 10, 0, 469), (29, .getfield 150, 32, 5, 7, 174), (32, .lload_n 1, 33, 0, 0, 0), (33, .invokevirtual 288, 36, 1, 3, 1054), (36, .goto 4, 39, 40, 0, 0), (39, .lconst 0, 40, 0, 0, 0), (40, .lreturn, 41, 0, 0, 0)]
noncomputable abbrev md_T_at : pm_M := (⟨"TurnField", "at", "(JI)J"⟩, prog_1_method_31_code, 4, (some .long), false, [0, 1052, 109, 1050, 1051], cd_T_at)
noncomputable def cd_T_full : List pm_I := [(0, .iload_n 1, 1, 0, 0, 0), (1, .ifCond .lt 18, 4, 19, 0, 0), (4, .iload_n 1, 5, 0, 0, 0), (5, .bipush 6, 7, 0, 0, 0), (7, .if_icmp .gt 12, 10, 19, 0, 0), (10, .iload_n 2, 11, 0, 0, 0), (11, .ifCond .lt 8, 14, 19, 0, 0), (14, .iload_n 2, 15, 0, 0, 0), (15, .iconst 1, 16, 0, 0, 0), (16, .if_icmp .le 7, 19, 23, 0, 0), (19, .ldc2_w 291, 22, 8, 0, 1062), (22, .lreturn, 23, 0, 0, 0), (23, .iload_n 2, 24, 0, 0, 0), (24, .ifCond .ne 10, 27, 34, 0, 0), (27, .iload_n 1, 28, 0, 0, 0), (28, .invokestatic 293, 31, 38, 1, 1063), (31, .goto 7, 34, 38, 0, 0), (34, .iload_n 1, 35, 0, 0, 0), (35, .invokestatic 296, 38, 37, 1, 1079), (38, .lreturn, 39, 0, 0, 0)]
noncomputable abbrev md_T_full : pm_M := (⟨"TurnField", "full", "(II)J"⟩, prog_1_method_32_code, 3, (some .long), false, [0, 1061, 109, 1059, 1060], cd_T_full)
noncomputable def cd_T_times : List pm_I := [(0, .lload_n 1, 1, 0, 0, 0), (1, .lload_n 3, 2, 0, 0, 0), (2, .invokestatic 158, 5, 22, 2, 778), (5, .lreturn, 6, 0, 0, 0)]
noncomputable abbrev md_T_times : pm_M := (⟨"TurnField", "times", "(JJ)J"⟩, prog_1_method_33_code, 5, (some .long), false, [0, 1085, 109, 1083, 1084], cd_T_times)
noncomputable def cd_T_inverse : List pm_I := [(0, .lload_n 1, 1, 0, 0, 0), (1, .invokestatic 164, 4, 28, 1, 779), (4, .lreturn, 5, 0, 0, 0)]
noncomputable abbrev md_T_inverse : pm_M := (⟨"TurnField", "inverse", "(J)J"⟩, prog_1_method_34_code, 3, (some .long), false, [0, 1089, 109, 1087, 1088], cd_T_inverse)
noncomputable def cd_T_root : List pm_I := [(0, .lload_n 1, 1, 0, 0, 0), (1, .invokestatic 168, 4, 27, 1, 786), (4, .lreturn, 5, 0, 0, 0)]
noncomputable abbrev md_T_root : pm_M := (⟨"TurnField", "root", "(J)J"⟩, prog_1_method_35_code, 3, (some .long), false, [0, 1093, 109, 1091, 1092], cd_T_root)
noncomputable def cd_T_power : List pm_I := [(0, .lload_n 3, 1, 0, 0, 0), (1, .lconst 0, 2, 0, 0, 0), (2, .lcmp, 3, 0, 0, 0), (3, .ifCond .lt 9, 6, 12, 0, 0), (6, .lload_n 1, 7, 0, 0, 0), (7, .lload_n 3, 8, 0, 0, 0), (8, .invokestatic 171, 11, 33, 2, 789), (11, .lreturn, 12, 0, 0, 0), (12, .lload_n 1, 13, 0, 0, 0), (13, .lload_n 3, 14, 0, 0, 0), (14, .lneg, 15, 0, 0, 0), (15, .invokestatic 171, 18, 33, 2, 789), (18, .invokestatic 164, 21, 28, 1, 779), (21, .lreturn, 22, 0, 0, 0)]
noncomputable abbrev md_T_power : pm_M := (⟨"TurnField", "power", "(JJ)J"⟩, prog_1_method_36_code, 5, (some .long), false, [0, 1097, 109, 1095, 1096], cd_T_power)
noncomputable def cd_T_order : List pm_I := [(0, .lload_n 1, 1, 0, 0, 0), (1, .invokestatic 299, 4, 36, 1, 1102), (4, .lreturn, 5, 0, 0, 0)]
noncomputable abbrev md_T_order : pm_M := (⟨"TurnField", "order", "(J)J"⟩, prog_1_method_37_code, 3, (some .long), false, [0, 1101, 109, 1099, 1100], cd_T_order)
noncomputable def cd_T_level : List pm_I := [(0, .iload_n 3, 1, 0, 0, 0), (1, .ifCond .lt 8, 4, 9, 0, 0), (4, .iload_n 3, 5, 0, 0, 0), (5, .iconst 1, 6, 0, 0, 0), (6, .if_icmp .le 5, 9, 11, 0, 0), (9, .iconst (-1), 10, 0, 0, 0), (10, .ireturn, 11, 0, 0, 0), (11, .lload_n 1, 12, 0, 0, 0), (12, .invokestatic 302, 15, 21, 1, 1112), (15, .istore 4, 17, 0, 0, 0), (17, .iload_n 3, 18, 0, 0, 0), (18, .ifCond .ne 8, 21, 26, 0, 0), (21, .iload 4, 23, 0, 0, 0), (23, .goto 7, 26, 30, 0, 0), (26, .iconst 1, 27, 0, 0, 0), (27, .iload 4, 29, 0, 0, 0), (29, .ishl, 30, 0, 0, 0), (30, .ireturn, 31, 0, 0, 0)]
noncomputable abbrev md_T_level : pm_M := (⟨"TurnField", "level", "(JI)I"⟩, prog_1_method_38_code, 5, (some .int), false, [0, 1111, 109, 1109, 1110], cd_T_level)
noncomputable def cd_T_least : List pm_I := [(0, .aload_n 0, 1, 0, 0, 0), (1, .getfield 51, 4, 10, 6, 475), (4, .lload_n 1, 5, 0, 0, 0), (5, .invokevirtual 306, 8, 104, 2, 1117), (8, .lreturn, 9, 0, 0, 0)]
noncomputable abbrev md_T_least : pm_M := (⟨"TurnField", "least", "(J)J"⟩, prog_1_method_39_code, 3, (some .long), false, [0, 1116, 109, 1114, 1115], cd_T_least)
noncomputable def cd_T_trace : List pm_I := [(0, .iload_n 3, 1, 0, 0, 0), (1, .ifCond .lt 17, 4, 18, 0, 0), (4, .iload_n 3, 5, 0, 0, 0), (5, .bipush 6, 7, 0, 0, 0), (7, .if_icmp .gt 11, 10, 18, 0, 0), (10, .lload_n 1, 11, 0, 0, 0), (11, .invokestatic 302, 14, 21, 1, 1112), (14, .iload_n 3, 15, 0, 0, 0), (15, .if_icmp .le 5, 18, 20, 0, 0), (18, .iconst (-1), 19, 0, 0, 0), (19, .ireturn, 20, 0, 0, 0), (20, .lload_n 1, 21, 0, 0, 0), (21, .iload_n 3, 22, 0, 0, 0), (22, .invokestatic 309, 25, 32, 2, 1139), (25, .ireturn, 26, 0, 0, 0)]
noncomputable abbrev md_T_trace : pm_M := (⟨"TurnField", "trace", "(JI)I"⟩, prog_1_method_40_code, 4, (some .int), false, [0, 1138, 109, 1136, 1137], cd_T_trace)
noncomputable def cd_T_half : List pm_I := [(0, .lload_n 1, 1, 0, 0, 0), (1, .invokestatic 313, 4, 29, 1, 1146), (4, .ifCond .eq 10, 7, 14, 0, 0), (7, .lload_n 1, 8, 0, 0, 0), (8, .invokestatic 317, 11, 30, 1, 1149), (11, .goto 4, 14, 15, 0, 0), (14, .lconst 0, 15, 0, 0, 0), (15, .lreturn, 16, 0, 0, 0)]
noncomputable abbrev md_T_half : pm_M := (⟨"TurnField", "half", "(J)J"⟩, prog_1_method_41_code, 3, (some .long), false, [0, 1145, 109, 1143, 1144], cd_T_half)
noncomputable def cd_T_solve : List pm_I := [(0, .iload 5, 2, 0, 0, 0), (2, .ifCond .lt 9, 5, 11, 0, 0), (5, .iload 5, 7, 0, 0, 0), (7, .iconst 2, 8, 0, 0, 0), (8, .if_icmp .le 5, 11, 13, 0, 0), (11, .lconst 0, 12, 0, 0, 0), (12, .lreturn, 13, 0, 0, 0), (13, .lload_n 1, 14, 0, 0, 0), (14, .lconst 0, 15, 0, 0, 0), (15, .lcmp, 16, 0, 0, 0), (16, .ifCond .ne 17, 19, 33, 0, 0), (19, .iload 5, 21, 0, 0, 0), (21, .ifCond .ne 7, 24, 28, 0, 0), (24, .lconst 1, 25, 0, 0, 0), (25, .goto 7, 28, 32, 0, 0), (28, .lload_n 3, 29, 0, 0, 0), (29, .invokestatic 168, 32, 27, 1, 786), (32, .lreturn, 33, 0, 0, 0), (33, .lload_n 3, 34, 0, 0, 0), (34, .lload_n 1, 35, 0, 0, 0), (35, .invokestatic 320, 38, 26, 1, 1159), (38, .invokestatic 164, 41, 28, 1, 779), (41, .invokestatic 158, 44, 22, 2, 778), (44, .lstore 6, 46, 0, 0, 0), (46, .lload 6, 48, 0, 0, 0), (48, .invokestatic 313, 51, 29, 1, 1146), (51, .ifCond .ne 5, 54, 56, 0, 0), (54, .lconst 0, 55, 0, 0, 0), (55, .lreturn, 56, 0, 0, 0), (56, .iload 5, 58, 0, 0, 0), (58, .ifCond .ne 7, 61, 65, 0, 0), (61, .ldc2_w 323, 64, 9, 0, 1160), (64, .lreturn, 65, 0, 0, 0), (65, .lload_n 1, 66, 0, 0, 0), (66, .lload 6, 68, 0, 0, 0), (68, .invokestatic 317, 71, 30, 1, 1149), (71, .invokestatic 158, 74, 22, 2, 778), (74, .lstore 8, 76, 0, 0, 0), (76, .lload 8, 78, 0, 0, 0), (78, .lload_n 1, 79, 0, 0, 0), (79, .lxor, 80, 0, 0, 0), (80, .lstore 10, 82, 0, 0, 0), (82, .lload 8, 84, 0, 0, 0), (84, .lload 10, 86, 0, 0, 0), (86, .invokestatic 325, 89, 20, 2, 1161), (89, .iload 5, 91, 0, 0, 0), (91, .iconst 1, 92, 0, 0, 0), (92, .if_icmp .ne 7, 95, 99, 0, 0), (95, .iconst 1, 96, 0, 0, 0), (96, .goto 4, 99, 100, 0, 0), (99, .iconst 0, 100, 0, 0, 0), (100, .if_icmp .ne 8, 103, 108, 0, 0), (103, .lload 8, 105, 0, 0, 0), (105, .goto 5, 108, 110, 0, 0), (108, .lload 10, 110, 0, 0, 0), (110, .lreturn, 111, 0, 0, 0)]
noncomputable abbrev md_T_solve : pm_M := (⟨"TurnField", "solve", "(JJI)J"⟩, prog_1_method_42_code, 12, (some .long), false, [0, 1158, 109, 1156, 1157], cd_T_solve)
noncomputable def cd_T_log : List pm_I := [(0, .lload_n 1, 1, 0, 0, 0), (1, .invokestatic 302, 4, 21, 1, 1112), (4, .iconst 4, 5, 0, 0, 0), (5, .if_icmp .gt 11, 8, 16, 0, 0), (8, .lload_n 3, 9, 0, 0, 0), (9, .invokestatic 302, 12, 21, 1, 1112), (12, .iconst 4, 13, 0, 0, 0), (13, .if_icmp .le 6, 16, 19, 0, 0), (16, .bipush (-2), 18, 0, 0, 0), (18, .ireturn, 19, 0, 0, 0), (19, .lload_n 1, 20, 0, 0, 0), (20, .lload_n 3, 21, 0, 0, 0), (21, .invokestatic 329, 24, 40, 2, 1166), (24, .ireturn, 25, 0, 0, 0)]
noncomputable abbrev md_T_log : pm_M := (⟨"TurnField", "log", "(JJ)I"⟩, prog_1_method_43_code, 5, (some .int), false, [0, 1165, 109, 1163, 1164], cd_T_log)
noncomputable def cd_T_boards : List pm_I := [(0, .iload_n 1, 1, 0, 0, 0), (1, .ifCond .lt 8, 4, 9, 0, 0), (4, .iload_n 1, 5, 0, 0, 0), (5, .iconst 2, 6, 0, 0, 0), (6, .if_icmp .le 7, 9, 13, 0, 0), (9, .ldc2_w 291, 12, 8, 0, 1062), (12, .lreturn, 13, 0, 0, 0), (13, .aload_n 0, 14, 0, 0, 0), (14, .getfield 10, 17, 10, 0, 469), (17, .invokestatic 333, 20, 11, 1, 1180), (20, .ifCond .ne 7, 23, 27, 0, 0), (23, .ldc2_w 336, 26, 10, 0, 1183), (26, .lreturn, 27, 0, 0, 0), (27, .aload_n 0, 28, 0, 0, 0), (28, .getfield 44, 31, 10, 5, 474), (31, .aload_n 0, 32, 0, 0, 0), (32, .getfield 10, 35, 10, 0, 469), (35, .aload_n 0, 36, 0, 0, 0), (36, .getfield 37, 39, 10, 4, 473), (39, .invokevirtual 338, 42, 12, 3, 1184), (42, .iload_n 1, 43, 0, 0, 0), (43, .lookupswitch 43 #[(0, 25), (1, 34)], 68, 0, 0, 0), (68, .aload_n 0, 69, 0, 0, 0), (69, .getfield 44, 72, 10, 5, 474), (72, .getfield 341, 75, 1, 7, 328), (75, .i2l, 76, 0, 0, 0), (76, .lreturn, 77, 0, 0, 0), (77, .aload_n 0, 78, 0, 0, 0), (78, .getfield 44, 81, 10, 5, 474), (81, .getfield 344, 84, 1, 8, 330), (84, .i2l, 85, 0, 0, 0), (85, .lreturn, 86, 0, 0, 0), (86, .aload_n 0, 87, 0, 0, 0), (87, .getfield 44, 90, 10, 5, 474), (90, .aload_n 0, 91, 0, 0, 0), (91, .getfield 44, 94, 10, 5, 474), (94, .getfield 347, 97, 1, 9, 332), (97, .invokevirtual 350, 100, 18, 2, 1218), (100, .lreturn, 101, 0, 0, 0)]
noncomputable abbrev md_T_boards : pm_M := (⟨"TurnField", "boards", "(I)J"⟩, prog_1_method_44_code, 2, (some .long), false, [0, 1179, 109, 1177, 1178], cd_T_boards)
noncomputable def cd_T_game : List pm_I := [(0, .iload_n 1, 1, 0, 0, 0), (1, .ifCond .lt 8, 4, 9, 0, 0), (4, .iload_n 1, 5, 0, 0, 0), (5, .iconst 1, 6, 0, 0, 0), (6, .if_icmp .le 5, 9, 11, 0, 0), (9, .iconst (-1), 10, 0, 0, 0), (10, .ireturn, 11, 0, 0, 0), (11, .aload_n 0, 12, 0, 0, 0), (12, .getfield 10, 15, 10, 0, 469), (15, .invokestatic 333, 18, 11, 1, 1180), (18, .ifCond .ne 6, 21, 24, 0, 0), (21, .bipush (-2), 23, 0, 0, 0), (23, .ireturn, 24, 0, 0, 0), (24, .aload_n 0, 25, 0, 0, 0), (25, .getfield 44, 28, 10, 5, 474), (28, .aload_n 0, 29, 0, 0, 0), (29, .getfield 10, 32, 10, 0, 469), (32, .aload_n 0, 33, 0, 0, 0), (33, .getfield 37, 36, 10, 4, 473), (36, .invokevirtual 338, 39, 12, 3, 1184), (39, .aload_n 0, 40, 0, 0, 0), (40, .getfield 44, 43, 10, 5, 474), (43, .aload_n 0, 44, 0, 0, 0), (44, .getfield 10, 47, 10, 0, 469), (47, .invokevirtual 353, 50, 19, 2, 1226), (50, .istore_n 2, 51, 0, 0, 0), (51, .iload_n 1, 52, 0, 0, 0), (52, .ifCond .ne 9, 55, 61, 0, 0), (55, .iload_n 2, 56, 0, 0, 0), (56, .iconst 1, 57, 0, 0, 0), (57, .iand, 58, 0, 0, 0), (58, .goto 4, 61, 62, 0, 0), (61, .iload_n 2, 62, 0, 0, 0), (62, .ireturn, 63, 0, 0, 0)]
noncomputable abbrev md_T_game : pm_M := (⟨"TurnField", "game", "(I)I"⟩, prog_1_method_45_code, 3, (some .int), false, [0, 1225, 109, 1223, 1224], cd_T_game)
noncomputable def cd_T_worth : List pm_I := [(0, .iload_n 1, 1, 0, 0, 0), (1, .ifCond .lt 8, 4, 9, 0, 0), (4, .iload_n 1, 5, 0, 0, 0), (5, .iconst 1, 6, 0, 0, 0), (6, .if_icmp .le 5, 9, 11, 0, 0), (9, .iconst (-1), 10, 0, 0, 0), (10, .ireturn, 11, 0, 0, 0), (11, .aload_n 0, 12, 0, 0, 0), (12, .getfield 37, 15, 10, 4, 473), (15, .aload_n 0, 16, 0, 0, 0), (16, .getfield 10, 19, 10, 0, 469), (19, .invokevirtual 123, 22, 49, 2, 651), (22, .aload_n 0, 23, 0, 0, 0), (23, .getfield 37, 26, 10, 4, 473), (26, .iload_n 1, 27, 0, 0, 0), (27, .invokevirtual 357, 30, 53, 2, 1234), (30, .iload_n 2, 31, 0, 0, 0), (31, .invokevirtual 361, 34, 101, 2, 1238), (34, .ireturn, 35, 0, 0, 0)]
noncomputable abbrev md_T_worth : pm_M := (⟨"TurnField", "worth", "(II)I"⟩, prog_1_method_46_code, 3, (some .int), false, [0, 1233, 109, 1231, 1232], cd_T_worth)
noncomputable def cd_T_cell : List pm_I := [(0, .aload_n 0, 1, 0, 0, 0), (1, .getfield 10, 4, 10, 0, 469), (4, .iload_n 1, 5, 0, 0, 0), (5, .iload_n 2, 6, 0, 0, 0), (6, .invokevirtual 105, 9, 82, 3, 642), (9, .ifCond .eq 12, 12, 21, 0, 0), (12, .iload_n 3, 13, 0, 0, 0), (13, .ifCond .lt 8, 16, 21, 0, 0), (16, .iload_n 3, 17, 0, 0, 0), (17, .iconst 2, 18, 0, 0, 0), (18, .if_icmp .le 5, 21, 23, 0, 0), (21, .iconst (-1), 22, 0, 0, 0), (22, .ireturn, 23, 0, 0, 0), (23, .iload_n 3, 24, 0, 0, 0), (24, .iconst 2, 25, 0, 0, 0), (25, .if_icmp .ne 21, 28, 46, 0, 0), (28, .aload_n 0, 29, 0, 0, 0), (29, .getfield 10, 32, 10, 0, 469), (32, .iload_n 1, 33, 0, 0, 0), (33, .iload_n 2, 34, 0, 0, 0), (34, .invokevirtual 366, 37, 85, 3, 1243), (37, .ifCond .eq 7, 40, 44, 0, 0), (40, .iconst 1, 41, 0, 0, 0), (41, .goto 4, 44, 45, 0, 0), (44, .iconst 0, 45, 0, 0, 0), (45, .ireturn, 46, 0, 0, 0), (46, .aload_n 0, 47, 0, 0, 0), (47, .getfield 37, 50, 10, 4, 473), (50, .aload_n 0, 51, 0, 0, 0), (51, .getfield 10, 54, 10, 0, 469), (54, .invokevirtual 123, 57, 49, 2, 651), (57, .aload_n 0, 58, 0, 0, 0), (58, .getfield 37, 61, 10, 4, 473), (61, .iconst 1, 62, 0, 0, 0), (62, .iload_n 1, 63, 0, 0, 0), (63, .ishl, 64, 0, 0, 0), (64, .iconst 1, 65, 0, 0, 0), (65, .iload_n 2, 66, 0, 0, 0), (66, .ishl, 67, 0, 0, 0), (67, .invokevirtual 369, 70, 52, 3, 1244), (70, .ireturn, 71, 0, 0, 0)]
noncomputable abbrev md_T_cell : pm_M := (⟨"TurnField", "cell", "(III)I"⟩, prog_1_method_47_code, 4, (some .int), false, [0, 1242, 109, 1240, 1241], cd_T_cell)
noncomputable def cd_T_total : List pm_I := [(0, .aload_n 0, 1, 0, 0, 0), (1, .getfield 37, 4, 10, 4, 473), (4, .aload_n 0, 5, 0, 0, 0), (5, .getfield 10, 8, 10, 0, 469), (8, .invokevirtual 123, 11, 49, 2, 651), (11, .aload_n 0, 12, 0, 0, 0), (12, .getfield 37, 15, 10, 4, 473), (15, .aload_n 0, 16, 0, 0, 0), (16, .getfield 10, 19, 10, 0, 469), (19, .invokevirtual 372, 22, 54, 2, 1249), (22, .i2l, 23, 0, 0, 0), (23, .lreturn, 24, 0, 0, 0)]
noncomputable abbrev md_T_total : pm_M := (⟨"TurnField", "total", "()J"⟩, prog_1_method_48_code, 1, (some .long), false, [0, 1248, 109, 1246, 1247], cd_T_total)
noncomputable def cd_T_moves : List pm_I := [(0, .iload_n 1, 1, 0, 0, 0), (1, .ifCond .lt 8, 4, 9, 0, 0), (4, .iload_n 1, 5, 0, 0, 0), (5, .iconst 1, 6, 0, 0, 0), (6, .if_icmp .le 5, 9, 11, 0, 0), (9, .iconst (-1), 10, 0, 0, 0), (10, .ireturn, 11, 0, 0, 0), (11, .aload_n 0, 12, 0, 0, 0), (12, .getfield 37, 15, 10, 4, 473), (15, .aload_n 0, 16, 0, 0, 0), (16, .getfield 10, 19, 10, 0, 469), (19, .invokevirtual 123, 22, 49, 2, 651), (22, .aload_n 0, 23, 0, 0, 0), (23, .getfield 37, 26, 10, 4, 473), (26, .aload_n 0, 27, 0, 0, 0), (27, .getfield 10, 30, 10, 0, 469), (30, .iload_n 1, 31, 0, 0, 0), (31, .iconst 1, 32, 0, 0, 0), (32, .if_icmp .ne 7, 35, 39, 0, 0), (35, .iconst 1, 36, 0, 0, 0), (36, .goto 4, 39, 40, 0, 0), (39, .iconst 0, 40, 0, 0, 0), (40, .ldc_w 375, 43, 11, 0, 1254), (43, .invokevirtual 137, 46, 58, 4, 747), (46, .pop, 47, 0, 0, 0), (47, .aload_n 0, 48, 0, 0, 0), (48, .getfield 37, 51, 10, 4, 473), (51, .getfield 376, 54, 3, 6, 298), (54, .ireturn, 55, 0, 0, 0)]
noncomputable abbrev md_T_moves : pm_M := (⟨"TurnField", "moves", "(I)I"⟩, prog_1_method_49_code, 2, (some .int), false, [0, 1253, 109, 1251, 1252], cd_T_moves)
noncomputable def cd_T_move : List pm_I := [(0, .iload_n 1, 1, 0, 0, 0), (1, .ifCond .lt 22, 4, 23, 0, 0), (4, .iload_n 1, 5, 0, 0, 0), (5, .iconst 1, 6, 0, 0, 0), (6, .if_icmp .gt 17, 9, 23, 0, 0), (9, .iload_n 2, 10, 0, 0, 0), (10, .ifCond .lt 13, 13, 23, 0, 0), (13, .iload_n 3, 14, 0, 0, 0), (14, .iconst 1, 15, 0, 0, 0), (15, .if_icmp .lt 8, 18, 23, 0, 0), (18, .iload_n 3, 19, 0, 0, 0), (19, .iconst 3, 20, 0, 0, 0), (20, .if_icmp .le 5, 23, 25, 0, 0), (23, .iconst (-1), 24, 0, 0, 0), (24, .ireturn, 25, 0, 0, 0), (25, .aload_n 0, 26, 0, 0, 0), (26, .getfield 37, 29, 10, 4, 473), (29, .aload_n 0, 30, 0, 0, 0), (30, .getfield 10, 33, 10, 0, 469), (33, .invokevirtual 123, 36, 49, 2, 651), (36, .aload_n 0, 37, 0, 0, 0), (37, .getfield 37, 40, 10, 4, 473), (40, .aload_n 0, 41, 0, 0, 0), (41, .getfield 10, 44, 10, 0, 469), (44, .iload_n 1, 45, 0, 0, 0), (45, .iconst 1, 46, 0, 0, 0), (46, .if_icmp .ne 7, 49, 53, 0, 0), (49, .iconst 1, 50, 0, 0, 0), (50, .goto 4, 53, 54, 0, 0), (53, .iconst 0, 54, 0, 0, 0), (54, .iload_n 2, 55, 0, 0, 0), (55, .invokevirtual 137, 58, 58, 4, 747), (58, .ifCond .ne 6, 61, 64, 0, 0), (61, .bipush (-2), 63, 0, 0, 0), (63, .ireturn, 64, 0, 0, 0), (64, .iload_n 3, 65, 0, 0, 0), (65, .iconst 3, 66, 0, 0, 0), (66, .if_icmp .ne 37, 69, 103, 0, 0), (69, .aload_n 0, 70, 0, 0, 0), (70, .getfield 37, 73, 10, 4, 473), (73, .aload_n 0, 74, 0, 0, 0), (74, .getfield 10, 77, 10, 0, 469), (77, .invokevirtual 372, 80, 54, 2, 1249), (80, .aload_n 0, 81, 0, 0, 0), (81, .getfield 37, 84, 10, 4, 473), (84, .aload_n 0, 85, 0, 0, 0), (85, .getfield 37, 88, 10, 4, 473), (88, .getfield 141, 91, 3, 4, 294), (91, .aload_n 0, 92, 0, 0, 0), (92, .getfield 37, 95, 10, 4, 473), (95, .getfield 144, 98, 3, 5, 296), (98, .invokevirtual 369, 101, 52, 3, 1244), (101, .ixor, 102, 0, 0, 0), (102, .ireturn, 103, 0, 0, 0), (103, .iload_n 3, 104, 0, 0, 0), (104, .iconst 1, 105, 0, 0, 0), (105, .if_icmp .ne 13, 108, 118, 0, 0), (108, .aload_n 0, 109, 0, 0, 0), (109, .getfield 37, 112, 10, 4, 473), (112, .getfield 141, 115, 3, 4, 294), (115, .goto 10, 118, 125, 0, 0), (118, .aload_n 0, 119, 0, 0, 0), (119, .getfield 37, 122, 10, 4, 473), (122, .getfield 144, 125, 3, 5, 296), (125, .ireturn, 126, 0, 0, 0)]
noncomputable abbrev md_T_move : pm_M := (⟨"TurnField", "move", "(III)I"⟩, prog_1_method_50_code, 4, (some .int), false, [0, 1258, 109, 1256, 1257], cd_T_move)
noncomputable def cd_T_sets : List pm_I := [(0, .iload_n 1, 1, 0, 0, 0), (1, .ifCond .lt 8, 4, 9, 0, 0), (4, .iload_n 1, 5, 0, 0, 0), (5, .iconst 1, 6, 0, 0, 0), (6, .if_icmp .le 5, 9, 11, 0, 0), (9, .iconst (-1), 10, 0, 0, 0), (10, .ireturn, 11, 0, 0, 0), (11, .aload_n 0, 12, 0, 0, 0), (12, .getfield 37, 15, 10, 4, 473), (15, .aload_n 0, 16, 0, 0, 0), (16, .getfield 10, 19, 10, 0, 469), (19, .invokevirtual 123, 22, 49, 2, 651), (22, .aload_n 0, 23, 0, 0, 0), (23, .getfield 37, 26, 10, 4, 473), (26, .iload_n 1, 27, 0, 0, 0), (27, .invokevirtual 357, 30, 53, 2, 1234), (30, .iload_n 2, 31, 0, 0, 0), (31, .invokevirtual 379, 34, 102, 2, 1263), (34, .ireturn, 35, 0, 0, 0)]
noncomputable abbrev md_T_sets : pm_M := (⟨"TurnField", "sets", "(II)I"⟩, prog_1_method_51_code, 3, (some .int), false, [0, 1262, 109, 1260, 1261], cd_T_sets)
noncomputable def cd_T_count : List pm_I := [(0, .iload_n 1, 1, 0, 0, 0), (1, .tableswitch 187 0 11 #[63, 71, 79, 87, 95, 103, 111, 119, 127, 135, 171, 179], 64, 0, 0, 0), (64, .aload_n 0, 65, 0, 0, 0), (65, .getfield 10, 68, 10, 0, 469), (68, .getfield 117, 71, 5, 0, 146), (71, .ireturn, 72, 0, 0, 0), (72, .aload_n 0, 73, 0, 0, 0), (73, .getfield 10, 76, 10, 0, 469), (76, .getfield 120, 79, 5, 1, 151), (79, .ireturn, 80, 0, 0, 0), (80, .aload_n 0, 81, 0, 0, 0), (81, .getfield 10, 84, 10, 0, 469), (84, .getfield 382, 87, 5, 2, 156), (87, .ireturn, 88, 0, 0, 0), (88, .aload_n 0, 89, 0, 0, 0), (89, .getfield 10, 92, 10, 0, 469), (92, .getfield 385, 95, 5, 3, 160), (95, .ireturn, 96, 0, 0, 0), (96, .aload_n 0, 97, 0, 0, 0), (97, .getfield 10, 100, 10, 0, 469), (100, .getfield 388, 103, 5, 4, 164), (103, .ireturn, 104, 0, 0, 0), (104, .aload_n 0, 105, 0, 0, 0), (105, .getfield 10, 108, 10, 0, 469), (108, .getfield 391, 111, 5, 5, 168), (111, .ireturn, 112, 0, 0, 0), (112, .aload_n 0, 113, 0, 0, 0), (113, .getfield 10, 116, 10, 0, 469), (116, .invokevirtual 102, 119, 86, 1, 628), (119, .ireturn, 120, 0, 0, 0), (120, .aload_n 0, 121, 0, 0, 0), (121, .getfield 19, 124, 10, 1, 470), (124, .getfield 174, 127, 2, 2, 222), (127, .ireturn, 128, 0, 0, 0), (128, .aload_n 0, 129, 0, 0, 0), (129, .getfield 30, 132, 10, 3, 472), (132, .getfield 84, 135, 9, 2, 242), (135, .ireturn, 136, 0, 0, 0), (136, .aload_n 0, 137, 0, 0, 0), (137, .getfield 23, 140, 10, 2, 471), (140, .iconst 0, 141, 0, 0, 0), (141, .aaload, 142, 0, 0, 0), (142, .getfield 186, 145, 5, 11, 183), (145, .ifCond .eq 7, 148, 152, 0, 0), (148, .iconst 1, 149, 0, 0, 0), (149, .goto 4, 152, 153, 0, 0), (152, .iconst 0, 153, 0, 0, 0), (153, .aload_n 0, 154, 0, 0, 0), (154, .getfield 23, 157, 10, 2, 471), (157, .iconst 1, 158, 0, 0, 0), (158, .aaload, 159, 0, 0, 0), (159, .getfield 186, 162, 5, 11, 183), (162, .ifCond .eq 7, 165, 169, 0, 0), (165, .iconst 2, 166, 0, 0, 0), (166, .goto 4, 169, 170, 0, 0), (169, .iconst 0, 170, 0, 0, 0), (170, .ior, 171, 0, 0, 0), (171, .ireturn, 172, 0, 0, 0), (172, .aload_n 0, 173, 0, 0, 0), (173, .getfield 10, 176, 10, 0, 469), (176, .invokevirtual 394, 179, 88, 1, 1271), (179, .ireturn, 180, 0, 0, 0), (180, .aload_n 0, 181, 0, 0, 0), (181, .getfield 10, 184, 10, 0, 469), (184, .invokevirtual 397, 187, 89, 1, 1276), (187, .ireturn, 188, 0, 0, 0), (188, .iconst (-1), 189, 0, 0, 0), (189, .ireturn, 190, 0, 0, 0)]
noncomputable abbrev md_T_count : pm_M := (⟨"TurnField", "count", "(I)I"⟩, prog_1_method_52_code, 2, (some .int), false, [0, 1270, 109, 1268, 1269], cd_T_count)
noncomputable def cd_M_init : List pm_I := [(0, .aload_n 0, 1, 0, 0, 0), (1, .invokespecial 1, 4, 1000, 1, 1285), (4, .aload_n 0, 5, 0, 0, 0), (5, .bipush 33, 7, 0, 0, 0), (7, .newarray .long, 9, 1, 0, 0), (9, .putfield 7, 12, 11, 0, 1310), (12, .aload_n 0, 13, 0, 0, 0), (13, .sipush 330, 16, 0, 0, 0), (16, .newarray .long, 18, 1, 0, 0), (18, .putfield 13, 21, 11, 1, 1311), (21, .aload_n 0, 22, 0, 0, 0), (22, .bipush 66, 24, 0, 0, 0), (24, .newarray .long, 26, 1, 0, 0), (26, .putfield 16, 29, 11, 3, 1313), (29, .aload_n 0, 30, 0, 0, 0), (30, .iconst 2, 31, 0, 0, 0), (31, .newarray .boolean, 33, 3, 0, 0), (33, .putfield 19, 36, 11, 4, 1314), (36, .aload_n 0, 37, 0, 0, 0), (37, .sipush 4096, 40, 0, 0, 0), (40, .newarray .long, 42, 1, 0, 0), (42, .putfield 23, 45, 11, 5, 1315), (45, .aload_n 0, 46, 0, 0, 0), (46, .bipush 7, 48, 0, 0, 0), (48, .newarray .long, 50, 1, 0, 0), (50, .dup, 51, 0, 0, 0), (51, .iconst 0, 52, 0, 0, 0), (52, .ldc2_w 26, 55, 12, 0, 1286), (55, .lastore, 56, 0, 0, 0), (56, .dup, 57, 0, 0, 0), (57, .iconst 1, 58, 0, 0, 0), (58, .ldc2_w 28, 61, 13, 0, 1287), (61, .lastore, 62, 0, 0, 0), (62, .dup, 63, 0, 0, 0), (63, .iconst 2, 64, 0, 0, 0), (64, .ldc2_w 30, 67, 14, 0, 1288), (67, .lastore, 68, 0, 0, 0), (68, .dup, 69, 0, 0, 0), (69, .iconst 3, 70, 0, 0, 0), (70, .ldc2_w 32, 73, 15, 0, 1289), (73, .lastore, 74, 0, 0, 0), (74, .dup, 75, 0, 0, 0), (75, .iconst 4, 76, 0, 0, 0), (76, .ldc2_w 34, 79, 16, 0, 1290), (79, .lastore, 80, 0, 0, 0), (80, .dup, 81, 0, 0, 0), (81, .iconst 5, 82, 0, 0, 0), (82, .ldc2_w 36, 85, 17, 0, 1291), (85, .lastore, 86, 0, 0, 0), (86, .dup, 87, 0, 0, 0), (87, .bipush 6, 89, 0, 0, 0), (89, .ldc2_w 38, 92, 18, 0, 1292), (92, .lastore, 93, 0, 0, 0), (93, .putfield 40, 96, 11, 6, 1316), (96, .aload_n 0, 97, 0, 0, 0), (97, .bipush 66, 99, 0, 0, 0), (99, .newarray .long, 101, 1, 0, 0), (101, .putfield 43, 104, 11, 7, 1317), (104, .aload_n 0, 105, 0, 0, 0), (105, .bipush 64, 107, 0, 0, 0), (107, .newarray .long, 109, 1, 0, 0), (109, .putfield 46, 112, 11, 8, 1318), (112, .aload_n 0, 113, 0, 0, 0), (113, .bipush 64, 115, 0, 0, 0), (115, .newarray .long, 117, 1, 0, 0), (117, .putfield 49, 120, 11, 9, 1319), (120, .aload_n 0, 121, 0, 0, 0), (121, .bipush 64, 123, 0, 0, 0), (123, .newarray .long, 125, 1, 0, 0), (125, .putfield 52, 128, 11, 10, 1320), (128, .aload_n 0, 129, 0, 0, 0), (129, .iconst 4, 130, 0, 0, 0), (130, .newarray .long, 132, 1, 0, 0), (132, .putfield 55, 135, 11, 11, 1321), (135, .aload_n 0, 136, 0, 0, 0), (136, .iconst 4, 137, 0, 0, 0), (137, .newarray .long, 139, 1, 0, 0), (139, .putfield 58, 142, 11, 12, 1322), (142, .aload_n 0, 143, 0, 0, 0), (143, .iconst 4, 144, 0, 0, 0), (144, .newarray .long, 146, 1, 0, 0), (146, .putfield 61, 149, 11, 15, 1325), (149, .aload_n 0, 150, 0, 0, 0), (150, .iconst 5, 151, 0, 0, 0), (151, .newarray .long, 153, 1, 0, 0), (153, .putfield 64, 156, 11, 16, 1326), (156, .aload_n 0, 157, 0, 0, 0), (157, .bipush 32, 159, 0, 0, 0), (159, .newarray .long, 161, 1, 0, 0), (161, .putfield 67, 164, 11, 19, 1329), (164, .aload_n 0, 165, 0, 0, 0), (165, .iconst 4, 166, 0, 0, 0), (166, .newarray .int, 168, 0, 0, 0), (168, .putfield 70, 171, 11, 20, 1330), (171, .aload_n 0, 172, 0, 0, 0), (172, .bipush 120, 174, 0, 0, 0), (174, .newarray .byte, 176, 2, 0, 0), (176, .putfield 74, 179, 11, 23, 1333), (179, .aload_n 0, 180, 0, 0, 0), (180, .iconst 2, 181, 0, 0, 0), (181, .newarray .int, 183, 0, 0, 0), (183, .putfield 78, 186, 11, 28, 1338), (186, .aload_n 0, 187, 0, 0, 0), (187, .iconst 2, 188, 0, 0, 0), (188, .newarray .int, 190, 0, 0, 0), (190, .putfield 81, 193, 11, 29, 1339), (193, .aload_n 0, 194, 0, 0, 0), (194, .iconst 2, 195, 0, 0, 0), (195, .newarray .int, 197, 0, 0, 0), (197, .putfield 84, 200, 11, 30, 1340), (200, .aload_n 0, 201, 0, 0, 0), (201, .bipush 24, 203, 0, 0, 0), (203, .newarray .int, 205, 0, 0, 0), (205, .putfield 87, 208, 11, 32, 1342), (208, .aload_n 0, 209, 0, 0, 0), (209, .ldc 90, 211, 19, 0, 1293), (211, .newarray .boolean, 213, 3, 0, 0), (213, .putfield 91, 216, 11, 33, 1343), (216, .aload_n 0, 217, 0, 0, 0), (217, .bipush 36, 219, 0, 0, 0), (219, .newarray .int, 221, 0, 0, 0), (221, .putfield 94, 224, 11, 34, 1344), (224, .aload_n 0, 225, 0, 0, 0), (225, .bipush 36, 227, 0, 0, 0), (227, .newarray .int, 229, 0, 0, 0), (229, .putfield 97, 232, 11, 35, 1345), (232, .aload_n 0, 233, 0, 0, 0), (233, .sipush 4096, 236, 0, 0, 0), (236, .newarray .boolean, 238, 3, 0, 0), (238, .putfield 100, 241, 11, 40, 1350), (241, .aload_n 0, 242, 0, 0, 0), (242, .sipush 4096, 245, 0, 0, 0), (245, .newarray .int, 247, 0, 0, 0), (247, .putfield 103, 250, 11, 41, 1351), (250, .aload_n 0, 251, 0, 0, 0), (251, .bipush 13, 253, 0, 0, 0), (253, .newarray .int, 255, 0, 0, 0), (255, .putfield 106, 258, 11, 42, 1352), (258, .aload_n 0, 259, 0, 0, 0), (259, .sipush 4096, 262, 0, 0, 0), (262, .newarray .int, 264, 0, 0, 0), (264, .putfield 109, 267, 11, 43, 1353), (267, .aload_n 0, 268, 0, 0, 0), (268, .getfield 7, 271, 11, 0, 1310), (271, .iconst 0, 272, 0, 0, 0), (272, .ldc2_w 26, 275, 12, 0, 1286), (275, .lastore, 276, 0, 0, 0), (276, .aload_n 0, 277, 0, 0, 0), (277, .getfield 7, 280, 11, 0, 1310), (280, .iconst 1, 281, 0, 0, 0), (281, .ldc2_w 26, 284, 12, 0, 1286), (284, .lastore, 285, 0, 0, 0), (285, .aload_n 0, 286, 0, 0, 0), (286, .getfield 7, 289, 11, 0, 1310), (289, .iconst 4, 290, 0, 0, 0), (290, .ldc2_w 112, 293, 9, 0, 1294), (293, .lastore, 294, 0, 0, 0), (294, .aload_n 0, 295, 0, 0, 0), (295, .getfield 7, 298, 11, 0, 1310), (298, .iconst 5, 299, 0, 0, 0), (299, .ldc2_w 112, 302, 9, 0, 1294), (302, .lastore, 303, 0, 0, 0), (303, .aload_n 0, 304, 0, 0, 0), (304, .getfield 7, 307, 11, 0, 1310), (307, .bipush 15, 309, 0, 0, 0), (309, .lconst 1, 310, 0, 0, 0), (310, .lastore, 311, 0, 0, 0), (311, .aload_n 0, 312, 0, 0, 0), (312, .getfield 7, 315, 11, 0, 1310), (315, .bipush 16, 317, 0, 0, 0), (317, .lconst 1, 318, 0, 0, 0), (318, .lastore, 319, 0, 0, 0), (319, .aload_n 0, 320, 0, 0, 0), (320, .invokevirtual 114, 323, 191, 1, 1295), (323, .return_, 324, 0, 0, 0)]
noncomputable abbrev md_M_init : pm_M := (⟨"TurnFieldModel", "<init>", "()V"⟩, prog_14_method_1_code, 1, none, true, [2, 1284, 120, 1283, 0], cd_M_init)
noncomputable def cd_M_isIn : List pm_I := [(0, .lload_n 0, 1, 0, 0, 0), (1, .lload_n 2, 2, 0, 0, 0), (2, .lcmp, 3, 0, 0, 0), (3, .ifCond .lt 14, 6, 17, 0, 0), (6, .lload_n 0, 7, 0, 0, 0), (7, .lload 4, 9, 0, 0, 0), (9, .lcmp, 10, 0, 0, 0), (10, .ifCond .gt 7, 13, 17, 0, 0), (13, .iconst 1, 14, 0, 0, 0), (14, .goto 4, 17, 18, 0, 0), (17, .iconst 0, 18, 0, 0, 0), (18, .ireturn, 19, 0, 0, 0)]
noncomputable abbrev md_M_isIn : pm_M := (⟨"TurnFieldModel", "isIn", "(JJJ)Z"⟩, prog_14_method_2_code, 6, (some .boolean), false, [1, 1517, 120, 1516, 0], cd_M_isIn)
noncomputable def cd_M_has : List pm_I := [(0, .lload_n 0, 1, 0, 0, 0), (1, .iload_n 2, 2, 0, 0, 0), (2, .lshr, 3, 0, 0, 0), (3, .lconst 1, 4, 0, 0, 0), (4, .land, 5, 0, 0, 0), (5, .lconst 1, 6, 0, 0, 0), (6, .lcmp, 7, 0, 0, 0), (7, .ifCond .ne 7, 10, 14, 0, 0), (10, .iconst 1, 11, 0, 0, 0), (11, .goto 4, 14, 15, 0, 0), (14, .iconst 0, 15, 0, 0, 0), (15, .ireturn, 16, 0, 0, 0)]
noncomputable abbrev md_M_has : pm_M := (⟨"TurnFieldModel", "has", "(JI)Z"⟩, prog_14_method_3_code, 3, (some .boolean), false, [1, 1497, 120, 1496, 0], cd_M_has)
noncomputable def cd_M_isLess : List pm_I := [(0, .lload_n 0, 1, 0, 0, 0), (1, .ldc2_w 117, 4, 1, 0, 1540), (4, .lxor, 5, 0, 0, 0), (5, .lload_n 2, 6, 0, 0, 0), (6, .ldc2_w 117, 9, 1, 0, 1540), (9, .lxor, 10, 0, 0, 0), (10, .lcmp, 11, 0, 0, 0), (11, .ifCond .ge 7, 14, 18, 0, 0), (14, .iconst 1, 15, 0, 0, 0), (15, .goto 4, 18, 19, 0, 0), (18, .iconst 0, 19, 0, 0, 0), (19, .ireturn, 20, 0, 0, 0)]
noncomputable abbrev md_M_isLess : pm_M := (⟨"TurnFieldModel", "isLess", "(JJ)Z"⟩, prog_14_method_4_code, 4, (some .boolean), false, [1, 1539, 120, 1538, 0], cd_M_isLess)
noncomputable def cd_M_byTwo : List pm_I := [(0, .lconst 0, 1, 0, 0, 0), (1, .lstore 4, 3, 0, 0, 0), (3, .lload_n 2, 4, 0, 0, 0), (4, .lstore 6, 6, 0, 0, 0), (6, .iconst 0, 7, 0, 0, 0), (7, .istore 8, 9, 0, 0, 0), (9, .lload 6, 11, 0, 0, 0), (11, .lconst 0, 12, 0, 0, 0), (12, .lcmp, 13, 0, 0, 0), (13, .ifCond .eq 41, 16, 54, 0, 0), (16, .lload 6, 18, 0, 0, 0), (18, .lconst 1, 19, 0, 0, 0), (19, .land, 20, 0, 0, 0), (20, .lconst 1, 21, 0, 0, 0), (21, .lcmp, 22, 0, 0, 0), (22, .ifCond .ne 20, 25, 42, 0, 0), (25, .lload 4, 27, 0, 0, 0), (27, .aload_n 0, 28, 0, 0, 0), (28, .getfield 23, 31, 11, 5, 1315), (31, .bipush 64, 33, 0, 0, 0), (33, .iload_n 1, 34, 0, 0, 0), (34, .imul, 35, 0, 0, 0), (35, .iload 8, 37, 0, 0, 0), (37, .iadd, 38, 0, 0, 0), (38, .laload, 39, 0, 0, 0), (39, .lxor, 40, 0, 0, 0), (40, .lstore 4, 42, 0, 0, 0), (42, .lload 6, 44, 0, 0, 0), (44, .iconst 1, 45, 0, 0, 0), (45, .lushr, 46, 0, 0, 0), (46, .lstore 6, 48, 0, 0, 0), (48, .iinc 8 1, 51, 0, 0, 0), (51, .goto (-42), 54, 9, 0, 0), (54, .lload 4, 56, 0, 0, 0), (56, .lreturn, 57, 0, 0, 0)]
noncomputable abbrev md_M_byTwo : pm_M := (⟨"TurnFieldModel", "byTwo", "(IJ)J"⟩, prog_14_method_5_code, 9, (some .long), false, [0, 1309, 120, 1308, 41], cd_M_byTwo)
noncomputable def cd_M_topOf : List pm_I := [(0, .iconst 5, 1, 0, 0, 0), (1, .istore_n 2, 2, 0, 0, 0), (2, .iload_n 2, 3, 0, 0, 0), (3, .ifCond .le 25, 6, 28, 0, 0), (6, .iload_n 0, 7, 0, 0, 0), (7, .iload_n 2, 8, 0, 0, 0), (8, .ishr, 9, 0, 0, 0), (9, .iconst 1, 10, 0, 0, 0), (10, .iand, 11, 0, 0, 0), (11, .ifCond .ne 17, 14, 28, 0, 0), (14, .iload_n 1, 15, 0, 0, 0), (15, .iload_n 2, 16, 0, 0, 0), (16, .ishr, 17, 0, 0, 0), (17, .iconst 1, 18, 0, 0, 0), (18, .iand, 19, 0, 0, 0), (19, .ifCond .ne 9, 22, 28, 0, 0), (22, .iinc 2 (-1), 25, 0, 0, 0), (25, .goto (-23), 28, 2, 0, 0), (28, .iload_n 2, 29, 0, 0, 0), (29, .ireturn, 30, 0, 0, 0)]
noncomputable abbrev md_M_topOf : pm_M := (⟨"TurnFieldModel", "topOf", "(II)I"⟩, prog_14_method_6_code, 3, (some .int), false, [1, 1305, 120, 1304, 0], cd_M_topOf)
noncomputable def cd_M_twoByTwo : List pm_I := [(0, .iload_n 1, 1, 0, 0, 0), (1, .ifCond .ne 9, 4, 10, 0, 0), (4, .iload_n 2, 5, 0, 0, 0), (5, .ifCond .ne 5, 8, 10, 0, 0), (8, .lconst 1, 9, 0, 0, 0), (9, .lreturn, 10, 0, 0, 0), (10, .iload_n 1, 11, 0, 0, 0), (11, .iload_n 2, 12, 0, 0, 0), (12, .invokestatic 119, 15, 189, 2, 1303), (15, .istore_n 3, 16, 0, 0, 0), (16, .iconst 1, 17, 0, 0, 0), (17, .iload_n 3, 18, 0, 0, 0), (18, .ishl, 19, 0, 0, 0), (19, .istore 4, 21, 0, 0, 0), (21, .aload_n 0, 22, 0, 0, 0), (22, .getfield 23, 25, 11, 5, 1315), (25, .bipush 64, 27, 0, 0, 0), (27, .iload_n 1, 28, 0, 0, 0), (28, .iload 4, 30, 0, 0, 0), (30, .iconst 1, 31, 0, 0, 0), (31, .isub, 32, 0, 0, 0), (32, .iand, 33, 0, 0, 0), (33, .imul, 34, 0, 0, 0), (34, .iload_n 2, 35, 0, 0, 0), (35, .iload 4, 37, 0, 0, 0), (37, .iconst 1, 38, 0, 0, 0), (38, .isub, 39, 0, 0, 0), (39, .iand, 40, 0, 0, 0), (40, .iadd, 41, 0, 0, 0), (41, .laload, 42, 0, 0, 0), (42, .lstore 5, 44, 0, 0, 0), (44, .iload_n 1, 45, 0, 0, 0), (45, .iload 4, 47, 0, 0, 0), (47, .iand, 48, 0, 0, 0), (48, .ifCond .eq 14, 51, 62, 0, 0), (51, .iload_n 2, 52, 0, 0, 0), (52, .iload 4, 54, 0, 0, 0), (54, .iand, 55, 0, 0, 0), (55, .ifCond .eq 7, 58, 62, 0, 0), (58, .iconst 1, 59, 0, 0, 0), (59, .goto 4, 62, 63, 0, 0), (62, .iconst 0, 63, 0, 0, 0), (63, .istore 7, 65, 0, 0, 0), (65, .iload 7, 67, 0, 0, 0), (67, .ifCond .eq 22, 70, 89, 0, 0), (70, .lload 5, 72, 0, 0, 0), (72, .iload 4, 74, 0, 0, 0), (74, .lshl, 75, 0, 0, 0), (75, .aload_n 0, 76, 0, 0, 0), (76, .iload 4, 78, 0, 0, 0), (78, .iconst 1, 79, 0, 0, 0), (79, .isub, 80, 0, 0, 0), (80, .lload 5, 82, 0, 0, 0), (82, .invokevirtual 123, 85, 188, 3, 1306), (85, .lxor, 86, 0, 0, 0), (86, .goto 8, 89, 94, 0, 0), (89, .lload 5, 91, 0, 0, 0), (91, .iload 4, 93, 0, 0, 0), (93, .lshl, 94, 0, 0, 0), (94, .lreturn, 95, 0, 0, 0)]
noncomputable abbrev md_M_twoByTwo : pm_M := (⟨"TurnFieldModel", "twoByTwo", "(II)J"⟩, prog_14_method_7_code, 8, (some .long), false, [0, 1302, 120, 1301, 40], cd_M_twoByTwo)
noncomputable def cd_M_laysTwos : List pm_I := [(0, .iconst 0, 1, 0, 0, 0), (1, .istore_n 1, 2, 0, 0, 0), (2, .iload_n 1, 3, 0, 0, 0), (3, .bipush 64, 5, 0, 0, 0), (5, .if_icmp .ge 53, 8, 58, 0, 0), (8, .iconst 0, 9, 0, 0, 0), (9, .istore_n 2, 10, 0, 0, 0), (10, .iload_n 2, 11, 0, 0, 0), (11, .iload_n 1, 12, 0, 0, 0), (12, .if_icmp .gt 40, 15, 52, 0, 0), (15, .aload_n 0, 16, 0, 0, 0), (16, .iload_n 1, 17, 0, 0, 0), (17, .iload_n 2, 18, 0, 0, 0), (18, .invokevirtual 127, 21, 190, 3, 1299), (21, .lstore_n 3, 22, 0, 0, 0), (22, .aload_n 0, 23, 0, 0, 0), (23, .getfield 23, 26, 11, 5, 1315), (26, .bipush 64, 28, 0, 0, 0), (28, .iload_n 1, 29, 0, 0, 0), (29, .imul, 30, 0, 0, 0), (30, .iload_n 2, 31, 0, 0, 0), (31, .iadd, 32, 0, 0, 0), (32, .lload_n 3, 33, 0, 0, 0), (33, .lastore, 34, 0, 0, 0), (34, .aload_n 0, 35, 0, 0, 0), (35, .getfield 23, 38, 11, 5, 1315), (38, .bipush 64, 40, 0, 0, 0), (40, .iload_n 2, 41, 0, 0, 0), (41, .imul, 42, 0, 0, 0), (42, .iload_n 1, 43, 0, 0, 0), (43, .iadd, 44, 0, 0, 0), (44, .lload_n 3, 45, 0, 0, 0), (45, .lastore, 46, 0, 0, 0), (46, .iinc 2 1, 49, 0, 0, 0), (49, .goto (-39), 52, 10, 0, 0), (52, .iinc 1 1, 55, 0, 0, 0), (55, .goto (-53), 58, 2, 0, 0), (58, .return_, 59, 0, 0, 0)]
noncomputable abbrev md_M_laysTwos : pm_M := (⟨"TurnFieldModel", "laysTwos", "()V"⟩, prog_14_method_8_code, 5, none, false, [0, 1298, 120, 1297, 39], cd_M_laysTwos)
noncomputable def cd_M_product : List pm_I := [(0, .lconst 0, 1, 0, 0, 0), (1, .lstore 5, 3, 0, 0, 0), (3, .lload_n 1, 4, 0, 0, 0), (4, .lstore 7, 6, 0, 0, 0), (6, .iconst 0, 7, 0, 0, 0), (7, .istore 9, 9, 0, 0, 0), (9, .lload 7, 11, 0, 0, 0), (11, .lconst 0, 12, 0, 0, 0), (12, .lcmp, 13, 0, 0, 0), (13, .ifCond .eq 36, 16, 49, 0, 0), (16, .lload 7, 18, 0, 0, 0), (18, .lconst 1, 19, 0, 0, 0), (19, .land, 20, 0, 0, 0), (20, .lconst 1, 21, 0, 0, 0), (21, .lcmp, 22, 0, 0, 0), (22, .ifCond .ne 15, 25, 37, 0, 0), (25, .lload 5, 27, 0, 0, 0), (27, .aload_n 0, 28, 0, 0, 0), (28, .iload 9, 30, 0, 0, 0), (30, .lload_n 3, 31, 0, 0, 0), (31, .invokevirtual 123, 34, 188, 3, 1306), (34, .lxor, 35, 0, 0, 0), (35, .lstore 5, 37, 0, 0, 0), (37, .lload 7, 39, 0, 0, 0), (39, .iconst 1, 40, 0, 0, 0), (40, .lushr, 41, 0, 0, 0), (41, .lstore 7, 43, 0, 0, 0), (43, .iinc 9 1, 46, 0, 0, 0), (46, .goto (-37), 49, 9, 0, 0), (49, .lload 5, 51, 0, 0, 0), (51, .lreturn, 52, 0, 0, 0)]
noncomputable abbrev md_M_product : pm_M := (⟨"TurnFieldModel", "product", "(JJ)J"⟩, prog_14_method_9_code, 10, (some .long), false, [0, 1451, 120, 1450, 42], cd_M_product)
noncomputable def cd_M_square : List pm_I := [(0, .aload_n 0, 1, 0, 0, 0), (1, .lload_n 1, 2, 0, 0, 0), (2, .lload_n 1, 3, 0, 0, 0), (3, .invokevirtual 131, 6, 192, 3, 1448), (6, .lreturn, 7, 0, 0, 0)]
noncomputable abbrev md_M_square : pm_M := (⟨"TurnFieldModel", "square", "(J)J"⟩, prog_14_method_10_code, 3, (some .long), false, [0, 1474, 120, 1473, 45], cd_M_square)
noncomputable def cd_M_powerOf : List pm_I := [(0, .lconst 1, 1, 0, 0, 0), (1, .lstore 5, 3, 0, 0, 0), (3, .lload_n 1, 4, 0, 0, 0), (4, .lstore 7, 6, 0, 0, 0), (6, .lload_n 3, 7, 0, 0, 0), (7, .lstore 9, 9, 0, 0, 0), (9, .lload 9, 11, 0, 0, 0), (11, .lconst 0, 12, 0, 0, 0), (12, .lcmp, 13, 0, 0, 0), (13, .ifCond .eq 39, 16, 52, 0, 0), (16, .lload 9, 18, 0, 0, 0), (18, .lconst 1, 19, 0, 0, 0), (19, .land, 20, 0, 0, 0), (20, .lconst 1, 21, 0, 0, 0), (21, .lcmp, 22, 0, 0, 0), (22, .ifCond .ne 13, 25, 35, 0, 0), (25, .aload_n 0, 26, 0, 0, 0), (26, .lload 5, 28, 0, 0, 0), (28, .lload 7, 30, 0, 0, 0), (30, .invokevirtual 131, 33, 192, 3, 1448), (33, .lstore 5, 35, 0, 0, 0), (35, .aload_n 0, 36, 0, 0, 0), (36, .lload 7, 38, 0, 0, 0), (38, .invokevirtual 135, 41, 193, 2, 1471), (41, .lstore 7, 43, 0, 0, 0), (43, .lload 9, 45, 0, 0, 0), (45, .iconst 1, 46, 0, 0, 0), (46, .lushr, 47, 0, 0, 0), (47, .lstore 9, 49, 0, 0, 0), (49, .goto (-40), 52, 9, 0, 0), (52, .lload 5, 54, 0, 0, 0), (54, .lreturn, 55, 0, 0, 0)]
noncomputable abbrev md_M_powerOf : pm_M := (⟨"TurnFieldModel", "powerOf", "(JJ)J"⟩, prog_14_method_11_code, 11, (some .long), false, [0, 1470, 120, 1469, 44], cd_M_powerOf)
noncomputable def cd_M_levelOf : List pm_I := [(0, .iconst 0, 1, 0, 0, 0), (1, .istore_n 2, 2, 0, 0, 0), (2, .iload_n 2, 3, 0, 0, 0), (3, .bipush 6, 5, 0, 0, 0), (5, .if_icmp .ge 19, 8, 24, 0, 0), (8, .lload_n 0, 9, 0, 0, 0), (9, .iconst 1, 10, 0, 0, 0), (10, .iload_n 2, 11, 0, 0, 0), (11, .ishl, 12, 0, 0, 0), (12, .lushr, 13, 0, 0, 0), (13, .lconst 0, 14, 0, 0, 0), (14, .lcmp, 15, 0, 0, 0), (15, .ifCond .eq 9, 18, 24, 0, 0), (18, .iinc 2 1, 21, 0, 0, 0), (21, .goto (-19), 24, 2, 0, 0), (24, .iload_n 2, 25, 0, 0, 0), (25, .ireturn, 26, 0, 0, 0)]
noncomputable abbrev md_M_levelOf : pm_M := (⟨"TurnFieldModel", "levelOf", "(J)I"⟩, prog_14_method_12_code, 3, (some .int), false, [1, 1462, 120, 1461, 0], cd_M_levelOf)
noncomputable def cd_M_allBut : List pm_I := [(0, .iload_n 0, 1, 0, 0, 0), (1, .bipush 6, 3, 0, 0, 0), (3, .if_icmp .ne 9, 6, 12, 0, 0), (6, .ldc2_w 139, 9, 10, 0, 1466), (9, .goto 12, 12, 21, 0, 0), (12, .lconst 1, 13, 0, 0, 0), (13, .iconst 1, 14, 0, 0, 0), (14, .iload_n 0, 15, 0, 0, 0), (15, .ishl, 16, 0, 0, 0), (16, .lshl, 17, 0, 0, 0), (17, .ldc2_w 112, 20, 9, 0, 1294), (20, .lsub, 21, 0, 0, 0), (21, .lreturn, 22, 0, 0, 0)]
noncomputable abbrev md_M_allBut : pm_M := (⟨"TurnFieldModel", "allBut", "(I)J"⟩, prog_14_method_13_code, 1, (some .long), false, [1, 1465, 120, 1464, 0], cd_M_allBut)
noncomputable def cd_M_inverseOf : List pm_I := [(0, .lload_n 1, 1, 0, 0, 0), (1, .lconst 0, 2, 0, 0, 0), (2, .lcmp, 3, 0, 0, 0), (3, .ifCond .ne 7, 6, 10, 0, 0), (6, .lconst 0, 7, 0, 0, 0), (7, .goto 15, 10, 22, 0, 0), (10, .aload_n 0, 11, 0, 0, 0), (11, .lload_n 1, 12, 0, 0, 0), (12, .lload_n 1, 13, 0, 0, 0), (13, .invokestatic 141, 16, 195, 1, 1460), (16, .invokestatic 145, 19, 196, 1, 1463), (19, .invokevirtual 149, 22, 194, 3, 1467), (22, .lreturn, 23, 0, 0, 0)]
noncomputable abbrev md_M_inverseOf : pm_M := (⟨"TurnFieldModel", "inverseOf", "(J)J"⟩, prog_14_method_14_code, 3, (some .long), false, [0, 1459, 120, 1458, 43], cd_M_inverseOf)
noncomputable def cd_M_rootOf : List pm_I := [(0, .lload_n 1, 1, 0, 0, 0), (1, .lstore_n 3, 2, 0, 0, 0), (2, .iconst 1, 3, 0, 0, 0), (3, .istore 5, 5, 0, 0, 0), (5, .iload 5, 7, 0, 0, 0), (7, .iconst 1, 8, 0, 0, 0), (8, .lload_n 1, 9, 0, 0, 0), (9, .invokestatic 141, 12, 195, 1, 1460), (12, .ishl, 13, 0, 0, 0), (13, .if_icmp .ge 15, 16, 28, 0, 0), (16, .aload_n 0, 17, 0, 0, 0), (17, .lload_n 3, 18, 0, 0, 0), (18, .invokevirtual 135, 21, 193, 2, 1471), (21, .lstore_n 3, 22, 0, 0, 0), (22, .iinc 5 1, 25, 0, 0, 0), (25, .goto (-20), 28, 5, 0, 0), (28, .lload_n 3, 29, 0, 0, 0), (29, .lreturn, 30, 0, 0, 0)]
noncomputable abbrev md_M_rootOf : pm_M := (⟨"TurnFieldModel", "rootOf", "(J)J"⟩, prog_14_method_15_code, 6, (some .long), false, [0, 1482, 120, 1481, 46], cd_M_rootOf)
noncomputable def cd_M_times : List pm_I := [(0, .aload_n 0, 1, 0, 0, 0), (1, .lload_n 1, 2, 0, 0, 0), (2, .lload_n 3, 3, 0, 0, 0), (3, .invokevirtual 131, 6, 192, 3, 1448), (6, .lreturn, 7, 0, 0, 0)]
noncomputable abbrev md_M_times : pm_M := (⟨"TurnFieldModel", "times", "(JJ)J"⟩, prog_14_method_16_code, 5, (some .long), false, [0, 1447, 120, 1445, 1446], cd_M_times)
noncomputable def cd_M_inverse : List pm_I := [(0, .aload_n 0, 1, 0, 0, 0), (1, .lload_n 1, 2, 0, 0, 0), (2, .invokevirtual 152, 5, 197, 2, 1456), (5, .lreturn, 6, 0, 0, 0)]
noncomputable abbrev md_M_inverse : pm_M := (⟨"TurnFieldModel", "inverse", "(J)J"⟩, prog_14_method_17_code, 3, (some .long), false, [0, 1455, 120, 1453, 1454], cd_M_inverse)
noncomputable def cd_M_root : List pm_I := [(0, .aload_n 0, 1, 0, 0, 0), (1, .lload_n 1, 2, 0, 0, 0), (2, .invokevirtual 155, 5, 198, 2, 1479), (5, .lreturn, 6, 0, 0, 0)]
noncomputable abbrev md_M_root : pm_M := (⟨"TurnFieldModel", "root", "(J)J"⟩, prog_14_method_18_code, 3, (some .long), false, [0, 1478, 120, 1476, 1477], cd_M_root)
noncomputable def cd_M_power : List pm_I := [(0, .lload_n 3, 1, 0, 0, 0), (1, .lconst 0, 2, 0, 0, 0), (2, .lcmp, 3, 0, 0, 0), (3, .ifCond .lt 12, 6, 15, 0, 0), (6, .aload_n 0, 7, 0, 0, 0), (7, .lload_n 1, 8, 0, 0, 0), (8, .lload_n 3, 9, 0, 0, 0), (9, .invokevirtual 149, 12, 194, 3, 1467), (12, .goto 14, 15, 26, 0, 0), (15, .aload_n 0, 16, 0, 0, 0), (16, .aload_n 0, 17, 0, 0, 0), (17, .lload_n 1, 18, 0, 0, 0), (18, .lload_n 3, 19, 0, 0, 0), (19, .lneg, 20, 0, 0, 0), (20, .invokevirtual 149, 23, 194, 3, 1467), (23, .invokevirtual 152, 26, 197, 2, 1456), (26, .lreturn, 27, 0, 0, 0)]
noncomputable abbrev md_M_power : pm_M := (⟨"TurnFieldModel", "power", "(JJ)J"⟩, prog_14_method_19_code, 5, (some .long), false, [0, 1486, 120, 1484, 1485], cd_M_power)
noncomputable def cd_M_madeOf : List pm_I := [(0, .lconst 1, 1, 0, 0, 0), (1, .lstore_n 2, 2, 0, 0, 0), (2, .iconst 0, 3, 0, 0, 0), (3, .istore 4, 5, 0, 0, 0), (5, .iload 4, 7, 0, 0, 0), (7, .bipush 7, 9, 0, 0, 0), (9, .if_icmp .ge 29, 12, 38, 0, 0), (12, .iload_n 1, 13, 0, 0, 0), (13, .i2l, 14, 0, 0, 0), (14, .iload 4, 16, 0, 0, 0), (16, .invokestatic 158, 19, 186, 2, 1495), (19, .ifCond .eq 13, 22, 32, 0, 0), (22, .lload_n 2, 23, 0, 0, 0), (23, .aload_n 0, 24, 0, 0, 0), (24, .getfield 40, 27, 11, 6, 1316), (27, .iload 4, 29, 0, 0, 0), (29, .laload, 30, 0, 0, 0), (30, .lmul, 31, 0, 0, 0), (31, .lstore_n 2, 32, 0, 0, 0), (32, .iinc 4 1, 35, 0, 0, 0), (35, .goto (-30), 38, 5, 0, 0), (38, .lload_n 2, 39, 0, 0, 0), (39, .lreturn, 40, 0, 0, 0)]
noncomputable abbrev md_M_madeOf : pm_M := (⟨"TurnFieldModel", "madeOf", "(I)J"⟩, prog_14_method_20_code, 5, (some .long), false, [0, 1494, 120, 1493, 47], cd_M_madeOf)
noncomputable def cd_M_order : List pm_I := [(0, .lload_n 1, 1, 0, 0, 0), (1, .lconst 0, 2, 0, 0, 0), (2, .lcmp, 3, 0, 0, 0), (3, .ifCond .ne 5, 6, 8, 0, 0), (6, .lconst 0, 7, 0, 0, 0), (7, .lreturn, 8, 0, 0, 0), (8, .bipush 127, 10, 0, 0, 0), (10, .istore_n 3, 11, 0, 0, 0), (11, .iconst 0, 12, 0, 0, 0), (12, .istore 4, 14, 0, 0, 0), (14, .iload 4, 16, 0, 0, 0), (16, .bipush 7, 18, 0, 0, 0), (18, .if_icmp .ge 40, 21, 58, 0, 0), (21, .aload_n 0, 22, 0, 0, 0), (22, .lload_n 1, 23, 0, 0, 0), (23, .aload_n 0, 24, 0, 0, 0), (24, .iload_n 3, 25, 0, 0, 0), (25, .iconst 1, 26, 0, 0, 0), (26, .iload 4, 28, 0, 0, 0), (28, .ishl, 29, 0, 0, 0), (29, .iconst (-1), 30, 0, 0, 0), (30, .ixor, 31, 0, 0, 0), (31, .iand, 32, 0, 0, 0), (32, .invokevirtual 162, 35, 203, 2, 1491), (35, .invokevirtual 149, 38, 194, 3, 1467), (38, .lconst 1, 39, 0, 0, 0), (39, .lcmp, 40, 0, 0, 0), (40, .ifCond .ne 12, 43, 52, 0, 0), (43, .iload_n 3, 44, 0, 0, 0), (44, .iconst 1, 45, 0, 0, 0), (45, .iload 4, 47, 0, 0, 0), (47, .ishl, 48, 0, 0, 0), (48, .iconst (-1), 49, 0, 0, 0), (49, .ixor, 50, 0, 0, 0), (50, .iand, 51, 0, 0, 0), (51, .istore_n 3, 52, 0, 0, 0), (52, .iinc 4 1, 55, 0, 0, 0), (55, .goto (-41), 58, 14, 0, 0), (58, .aload_n 0, 59, 0, 0, 0), (59, .iload_n 3, 60, 0, 0, 0), (60, .invokevirtual 162, 63, 203, 2, 1491), (63, .lreturn, 64, 0, 0, 0)]
noncomputable abbrev md_M_order : pm_M := (⟨"TurnFieldModel", "order", "(J)J"⟩, prog_14_method_21_code, 5, (some .long), false, [0, 1490, 120, 1488, 1489], cd_M_order)
noncomputable def cd_M_degreeOf_JI : List pm_I := [(0, .iconst 1, 1, 0, 0, 0), (1, .istore_n 3, 2, 0, 0, 0), (2, .aload_n 0, 3, 0, 0, 0), (3, .lload_n 1, 4, 0, 0, 0), (4, .invokevirtual 135, 7, 193, 2, 1471), (7, .lstore 4, 9, 0, 0, 0), (9, .lload 4, 11, 0, 0, 0), (11, .lload_n 1, 12, 0, 0, 0), (12, .lcmp, 13, 0, 0, 0), (13, .ifCond .eq 17, 16, 30, 0, 0), (16, .iinc 3 1, 19, 0, 0, 0), (19, .aload_n 0, 20, 0, 0, 0), (20, .lload 4, 22, 0, 0, 0), (22, .invokevirtual 135, 25, 193, 2, 1471), (25, .lstore 4, 27, 0, 0, 0), (27, .goto (-18), 30, 9, 0, 0), (30, .iload_n 3, 31, 0, 0, 0), (31, .ireturn, 32, 0, 0, 0)]
noncomputable abbrev md_M_degreeOf_JI : pm_M := (⟨"TurnFieldModel", "degreeOf", "(J)I"⟩, prog_14_method_22_code, 6, (some .int), false, [0, 1505, 120, 1504, 48], cd_M_degreeOf_JI)
noncomputable def cd_M_level : List pm_I := [(0, .iload_n 3, 1, 0, 0, 0), (1, .ifCond .ne 10, 4, 11, 0, 0), (4, .lload_n 1, 5, 0, 0, 0), (5, .invokestatic 141, 8, 195, 1, 1460), (8, .goto 17, 11, 25, 0, 0), (11, .iload_n 3, 12, 0, 0, 0), (12, .iconst 1, 13, 0, 0, 0), (13, .if_icmp .ne 11, 16, 24, 0, 0), (16, .aload_n 0, 17, 0, 0, 0), (17, .lload_n 1, 18, 0, 0, 0), (18, .invokevirtual 165, 21, 205, 2, 1502), (21, .goto 4, 24, 25, 0, 0), (24, .iconst (-1), 25, 0, 0, 0), (25, .ireturn, 26, 0, 0, 0)]
noncomputable abbrev md_M_level : pm_M := (⟨"TurnFieldModel", "level", "(JI)I"⟩, prog_14_method_23_code, 4, (some .int), false, [0, 1501, 120, 1499, 1500], cd_M_level)
noncomputable def cd_M_least : List pm_I := [(0, .aload_n 0, 1, 0, 0, 0), (1, .lload_n 1, 2, 0, 0, 0), (2, .invokevirtual 165, 5, 205, 2, 1502), (5, .istore_n 3, 6, 0, 0, 0), (6, .iconst 0, 7, 0, 0, 0), (7, .istore 4, 9, 0, 0, 0), (9, .iload 4, 11, 0, 0, 0), (11, .iload_n 3, 12, 0, 0, 0), (12, .if_icmp .gt 26, 15, 38, 0, 0), (15, .aload_n 0, 16, 0, 0, 0), (16, .getfield 43, 19, 11, 7, 1317), (19, .iload 4, 21, 0, 0, 0), (21, .iload 4, 23, 0, 0, 0), (23, .ifCond .ne 7, 26, 30, 0, 0), (26, .lconst 1, 27, 0, 0, 0), (27, .goto 4, 30, 31, 0, 0), (30, .lconst 0, 31, 0, 0, 0), (31, .lastore, 32, 0, 0, 0), (32, .iinc 4 1, 35, 0, 0, 0), (35, .goto (-26), 38, 9, 0, 0), (38, .lload_n 1, 39, 0, 0, 0), (39, .lstore 4, 41, 0, 0, 0), (41, .iconst 0, 42, 0, 0, 0), (42, .istore 6, 44, 0, 0, 0), (44, .iload 6, 46, 0, 0, 0), (46, .iload_n 3, 47, 0, 0, 0), (47, .if_icmp .ge 73, 50, 120, 0, 0), (50, .iload 6, 52, 0, 0, 0), (52, .iconst 1, 53, 0, 0, 0), (53, .iadd, 54, 0, 0, 0), (54, .istore 7, 56, 0, 0, 0), (56, .iload 7, 58, 0, 0, 0), (58, .ifCond .lt 48, 61, 106, 0, 0), (61, .aload_n 0, 62, 0, 0, 0), (62, .getfield 43, 65, 11, 7, 1317), (65, .iload 7, 67, 0, 0, 0), (67, .iload 7, 69, 0, 0, 0), (69, .ifCond .le 15, 72, 84, 0, 0), (72, .aload_n 0, 73, 0, 0, 0), (73, .getfield 43, 76, 11, 7, 1317), (76, .iload 7, 78, 0, 0, 0), (78, .iconst 1, 79, 0, 0, 0), (79, .isub, 80, 0, 0, 0), (80, .laload, 81, 0, 0, 0), (81, .goto 4, 84, 85, 0, 0), (84, .lconst 0, 85, 0, 0, 0), (85, .aload_n 0, 86, 0, 0, 0), (86, .lload 4, 88, 0, 0, 0), (88, .aload_n 0, 89, 0, 0, 0), (89, .getfield 43, 92, 11, 7, 1317), (92, .iload 7, 94, 0, 0, 0), (94, .laload, 95, 0, 0, 0), (95, .invokevirtual 131, 98, 192, 3, 1448), (98, .lxor, 99, 0, 0, 0), (99, .lastore, 100, 0, 0, 0), (100, .iinc 7 (-1), 103, 0, 0, 0), (103, .goto (-47), 106, 56, 0, 0), (106, .aload_n 0, 107, 0, 0, 0), (107, .lload 4, 109, 0, 0, 0), (109, .invokevirtual 135, 112, 193, 2, 1471), (112, .lstore 4, 114, 0, 0, 0), (114, .iinc 6 1, 117, 0, 0, 0), (117, .goto (-73), 120, 44, 0, 0), (120, .lconst 0, 121, 0, 0, 0), (121, .lstore 6, 123, 0, 0, 0), (123, .iconst 0, 124, 0, 0, 0), (124, .istore 8, 126, 0, 0, 0), (126, .iload 8, 128, 0, 0, 0), (128, .iload_n 3, 129, 0, 0, 0), (129, .if_icmp .ge 26, 132, 155, 0, 0), (132, .lload 6, 134, 0, 0, 0), (134, .aload_n 0, 135, 0, 0, 0), (135, .getfield 43, 138, 11, 7, 1317), (138, .iload 8, 140, 0, 0, 0), (140, .laload, 141, 0, 0, 0), (141, .lconst 1, 142, 0, 0, 0), (142, .land, 143, 0, 0, 0), (143, .iload 8, 145, 0, 0, 0), (145, .lshl, 146, 0, 0, 0), (146, .lor, 147, 0, 0, 0), (147, .lstore 6, 149, 0, 0, 0), (149, .iinc 8 1, 152, 0, 0, 0), (152, .goto (-26), 155, 126, 0, 0), (155, .lload 6, 157, 0, 0, 0), (157, .lreturn, 158, 0, 0, 0)]
noncomputable abbrev md_M_least : pm_M := (⟨"TurnFieldModel", "least", "(J)J"⟩, prog_14_method_24_code, 9, (some .long), false, [0, 1509, 120, 1507, 1508], cd_M_least)
noncomputable def cd_M_trace : List pm_I := [(0, .iload_n 3, 1, 0, 0, 0), (1, .i2l, 2, 0, 0, 0), (2, .lconst 0, 3, 0, 0, 0), (3, .ldc2_w 168, 6, 20, 0, 1514), (6, .invokestatic 170, 9, 185, 3, 1515), (9, .ifCond .eq 11, 12, 20, 0, 0), (12, .lload_n 1, 13, 0, 0, 0), (13, .invokestatic 141, 16, 195, 1, 1460), (16, .iload_n 3, 17, 0, 0, 0), (17, .if_icmp .le 5, 20, 22, 0, 0), (20, .iconst (-1), 21, 0, 0, 0), (21, .ireturn, 22, 0, 0, 0), (22, .lconst 0, 23, 0, 0, 0), (23, .lstore 4, 25, 0, 0, 0), (25, .lload_n 1, 26, 0, 0, 0), (26, .lstore 6, 28, 0, 0, 0), (28, .iconst 0, 29, 0, 0, 0), (29, .istore 8, 31, 0, 0, 0), (31, .iload 8, 33, 0, 0, 0), (33, .iconst 1, 34, 0, 0, 0), (34, .iload_n 3, 35, 0, 0, 0), (35, .ishl, 36, 0, 0, 0), (36, .if_icmp .ge 24, 39, 60, 0, 0), (39, .lload 4, 41, 0, 0, 0), (41, .lload 6, 43, 0, 0, 0), (43, .lxor, 44, 0, 0, 0), (44, .lstore 4, 46, 0, 0, 0), (46, .aload_n 0, 47, 0, 0, 0), (47, .lload 6, 49, 0, 0, 0), (49, .invokevirtual 135, 52, 193, 2, 1471), (52, .lstore 6, 54, 0, 0, 0), (54, .iinc 8 1, 57, 0, 0, 0), (57, .goto (-26), 60, 31, 0, 0), (60, .lload 4, 62, 0, 0, 0), (62, .l2i, 63, 0, 0, 0), (63, .ireturn, 64, 0, 0, 0)]
noncomputable abbrev md_M_trace : pm_M := (⟨"TurnFieldModel", "trace", "(JI)I"⟩, prog_14_method_25_code, 9, (some .int), false, [0, 1513, 120, 1511, 1512], cd_M_trace)
noncomputable def cd_M_highest : List pm_I := [(0, .bipush 63, 2, 0, 0, 0), (2, .istore_n 2, 3, 0, 0, 0), (3, .lload_n 0, 4, 0, 0, 0), (4, .iload_n 2, 5, 0, 0, 0), (5, .invokestatic 158, 8, 186, 2, 1495), (8, .ifCond .ne 9, 11, 17, 0, 0), (11, .iinc 2 (-1), 14, 0, 0, 0), (14, .goto (-11), 17, 3, 0, 0), (17, .iload_n 2, 18, 0, 0, 0), (18, .ireturn, 19, 0, 0, 0)]
noncomputable abbrev md_M_highest : pm_M := (⟨"TurnFieldModel", "highest", "(J)I"⟩, prog_14_method_26_code, 3, (some .int), false, [1, 1532, 120, 1531, 0], cd_M_highest)
noncomputable def cd_M_laysHalves : List pm_I := [(0, .iconst 0, 1, 0, 0, 0), (1, .istore_n 1, 2, 0, 0, 0), (2, .iload_n 1, 3, 0, 0, 0), (3, .bipush 64, 5, 0, 0, 0), (5, .if_icmp .ge 16, 8, 21, 0, 0), (8, .aload_n 0, 9, 0, 0, 0), (9, .getfield 46, 12, 11, 8, 1318), (12, .iload_n 1, 13, 0, 0, 0), (13, .lconst 0, 14, 0, 0, 0), (14, .lastore, 15, 0, 0, 0), (15, .iinc 1 1, 18, 0, 0, 0), (18, .goto (-16), 21, 2, 0, 0), (21, .iconst 1, 22, 0, 0, 0), (22, .istore_n 1, 23, 0, 0, 0), (23, .iload_n 1, 24, 0, 0, 0), (24, .bipush 64, 26, 0, 0, 0), (26, .if_icmp .ge 109, 29, 135, 0, 0), (29, .aload_n 0, 30, 0, 0, 0), (30, .getfield 23, 33, 11, 5, 1315), (33, .bipush 65, 35, 0, 0, 0), (35, .iload_n 1, 36, 0, 0, 0), (36, .imul, 37, 0, 0, 0), (37, .laload, 38, 0, 0, 0), (38, .lconst 1, 39, 0, 0, 0), (39, .iload_n 1, 40, 0, 0, 0), (40, .lshl, 41, 0, 0, 0), (41, .lxor, 42, 0, 0, 0), (42, .lstore_n 2, 43, 0, 0, 0), (43, .lconst 1, 44, 0, 0, 0), (44, .iload_n 1, 45, 0, 0, 0), (45, .lshl, 46, 0, 0, 0), (46, .lstore 4, 48, 0, 0, 0), (48, .lload_n 2, 49, 0, 0, 0), (49, .lconst 0, 50, 0, 0, 0), (50, .lcmp, 51, 0, 0, 0), (51, .ifCond .eq 48, 54, 99, 0, 0), (54, .aload_n 0, 55, 0, 0, 0), (55, .getfield 46, 58, 11, 8, 1318), (58, .lload_n 2, 59, 0, 0, 0), (59, .invokestatic 174, 62, 209, 1, 1530), (62, .laload, 63, 0, 0, 0), (63, .lconst 0, 64, 0, 0, 0), (64, .lcmp, 65, 0, 0, 0), (65, .ifCond .eq 34, 68, 99, 0, 0), (68, .lload_n 2, 69, 0, 0, 0), (69, .invokestatic 174, 72, 209, 1, 1530), (72, .istore 6, 74, 0, 0, 0), (74, .lload_n 2, 75, 0, 0, 0), (75, .aload_n 0, 76, 0, 0, 0), (76, .getfield 46, 79, 11, 8, 1318), (79, .iload 6, 81, 0, 0, 0), (81, .laload, 82, 0, 0, 0), (82, .lxor, 83, 0, 0, 0), (83, .lstore_n 2, 84, 0, 0, 0), (84, .lload 4, 86, 0, 0, 0), (86, .aload_n 0, 87, 0, 0, 0), (87, .getfield 49, 90, 11, 9, 1319), (90, .iload 6, 92, 0, 0, 0), (92, .laload, 93, 0, 0, 0), (93, .lxor, 94, 0, 0, 0), (94, .lstore 4, 96, 0, 0, 0), (96, .goto (-48), 99, 48, 0, 0), (99, .lload_n 2, 100, 0, 0, 0), (100, .lconst 0, 101, 0, 0, 0), (101, .lcmp, 102, 0, 0, 0), (102, .ifCond .ne 6, 105, 108, 0, 0), (105, .goto 24, 108, 129, 0, 0), (108, .aload_n 0, 109, 0, 0, 0), (109, .getfield 46, 112, 11, 8, 1318), (112, .lload_n 2, 113, 0, 0, 0), (113, .invokestatic 174, 116, 209, 1, 1530), (116, .lload_n 2, 117, 0, 0, 0), (117, .lastore, 118, 0, 0, 0), (118, .aload_n 0, 119, 0, 0, 0), (119, .getfield 49, 122, 11, 9, 1319), (122, .lload_n 2, 123, 0, 0, 0), (123, .invokestatic 174, 126, 209, 1, 1530), (126, .lload 4, 128, 0, 0, 0), (128, .lastore, 129, 0, 0, 0), (129, .iinc 1 1, 132, 0, 0, 0), (132, .goto (-109), 135, 23, 0, 0), (135, .return_, 136, 0, 0, 0)]
noncomputable abbrev md_M_laysHalves : pm_M := (⟨"TurnFieldModel", "laysHalves", "()V"⟩, prog_14_method_27_code, 7, none, false, [0, 1529, 120, 1528, 50], cd_M_laysHalves)
noncomputable def cd_M_halfOf : List pm_I := [(0, .aload_n 0, 1, 0, 0, 0), (1, .invokevirtual 177, 4, 210, 1, 1526), (4, .lload_n 1, 5, 0, 0, 0), (5, .lstore_n 3, 6, 0, 0, 0), (6, .lconst 0, 7, 0, 0, 0), (7, .lstore 5, 9, 0, 0, 0), (9, .lload_n 3, 10, 0, 0, 0), (10, .lconst 0, 11, 0, 0, 0), (11, .lcmp, 12, 0, 0, 0), (12, .ifCond .eq 48, 15, 60, 0, 0), (15, .lload_n 3, 16, 0, 0, 0), (16, .invokestatic 174, 19, 209, 1, 1530), (19, .istore 7, 21, 0, 0, 0), (21, .aload_n 0, 22, 0, 0, 0), (22, .getfield 46, 25, 11, 8, 1318), (25, .iload 7, 27, 0, 0, 0), (27, .laload, 28, 0, 0, 0), (28, .lconst 0, 29, 0, 0, 0), (29, .lcmp, 30, 0, 0, 0), (30, .ifCond .ne 5, 33, 35, 0, 0), (33, .lconst 0, 34, 0, 0, 0), (34, .lreturn, 35, 0, 0, 0), (35, .lload_n 3, 36, 0, 0, 0), (36, .aload_n 0, 37, 0, 0, 0), (37, .getfield 46, 40, 11, 8, 1318), (40, .iload 7, 42, 0, 0, 0), (42, .laload, 43, 0, 0, 0), (43, .lxor, 44, 0, 0, 0), (44, .lstore_n 3, 45, 0, 0, 0), (45, .lload 5, 47, 0, 0, 0), (47, .aload_n 0, 48, 0, 0, 0), (48, .getfield 49, 51, 11, 9, 1319), (51, .iload 7, 53, 0, 0, 0), (53, .laload, 54, 0, 0, 0), (54, .lxor, 55, 0, 0, 0), (55, .lstore 5, 57, 0, 0, 0), (57, .goto (-48), 60, 9, 0, 0), (60, .lload 5, 62, 0, 0, 0), (62, .ldc2_w 139, 65, 10, 0, 1466), (65, .land, 66, 0, 0, 0), (66, .lreturn, 67, 0, 0, 0)]
noncomputable abbrev md_M_halfOf : pm_M := (⟨"TurnFieldModel", "halfOf", "(J)J"⟩, prog_14_method_28_code, 8, (some .long), false, [0, 1525, 120, 1524, 49], cd_M_halfOf)
noncomputable def cd_M_half : List pm_I := [(0, .aload_n 0, 1, 0, 0, 0), (1, .lload_n 1, 2, 0, 0, 0), (2, .invokevirtual 180, 5, 211, 2, 1522), (5, .lreturn, 6, 0, 0, 0)]
noncomputable abbrev md_M_half : pm_M := (⟨"TurnFieldModel", "half", "(J)J"⟩, prog_14_method_29_code, 3, (some .long), false, [0, 1521, 120, 1519, 1520], cd_M_half)
noncomputable def cd_M_solve : List pm_I := [(0, .iload 5, 2, 0, 0, 0), (2, .i2l, 3, 0, 0, 0), (3, .lconst 0, 4, 0, 0, 0), (4, .ldc2_w 112, 7, 9, 0, 1294), (7, .invokestatic 170, 10, 185, 3, 1515), (10, .ifCond .ne 5, 13, 15, 0, 0), (13, .lconst 0, 14, 0, 0, 0), (14, .lreturn, 15, 0, 0, 0), (15, .lload_n 1, 16, 0, 0, 0), (16, .lconst 0, 17, 0, 0, 0), (17, .lcmp, 18, 0, 0, 0), (18, .ifCond .ne 18, 21, 36, 0, 0), (21, .iload 5, 23, 0, 0, 0), (23, .ifCond .ne 7, 26, 30, 0, 0), (26, .lconst 1, 27, 0, 0, 0), (27, .goto 8, 30, 35, 0, 0), (30, .aload_n 0, 31, 0, 0, 0), (31, .lload_n 3, 32, 0, 0, 0), (32, .invokevirtual 155, 35, 198, 2, 1479), (35, .lreturn, 36, 0, 0, 0), (36, .aload_n 0, 37, 0, 0, 0), (37, .lload_n 3, 38, 0, 0, 0), (38, .aload_n 0, 39, 0, 0, 0), (39, .aload_n 0, 40, 0, 0, 0), (40, .lload_n 1, 41, 0, 0, 0), (41, .invokevirtual 135, 44, 193, 2, 1471), (44, .invokevirtual 152, 47, 197, 2, 1456), (47, .invokevirtual 131, 50, 192, 3, 1448), (50, .lstore 6, 52, 0, 0, 0), (52, .aload_n 0, 53, 0, 0, 0), (53, .lload 6, 55, 0, 0, 0), (55, .invokevirtual 180, 58, 211, 2, 1522), (58, .lstore 8, 60, 0, 0, 0), (60, .lload 6, 62, 0, 0, 0), (62, .lconst 0, 63, 0, 0, 0), (63, .lcmp, 64, 0, 0, 0), (64, .ifCond .eq 12, 67, 76, 0, 0), (67, .lload 8, 69, 0, 0, 0), (69, .lconst 0, 70, 0, 0, 0), (70, .lcmp, 71, 0, 0, 0), (71, .ifCond .ne 5, 74, 76, 0, 0), (74, .lconst 0, 75, 0, 0, 0), (75, .lreturn, 76, 0, 0, 0), (76, .aload_n 0, 77, 0, 0, 0), (77, .lload_n 1, 78, 0, 0, 0), (78, .lload 8, 80, 0, 0, 0), (80, .invokevirtual 131, 83, 192, 3, 1448), (83, .lstore 10, 85, 0, 0, 0), (85, .lload 10, 87, 0, 0, 0), (87, .lload_n 1, 88, 0, 0, 0), (88, .lxor, 89, 0, 0, 0), (89, .lstore 12, 91, 0, 0, 0), (91, .iload 5, 93, 0, 0, 0), (93, .ifCond .ne 9, 96, 102, 0, 0), (96, .ldc2_w 112, 99, 9, 0, 1294), (99, .goto 31, 102, 130, 0, 0), (102, .lload 10, 104, 0, 0, 0), (104, .lload 12, 106, 0, 0, 0), (106, .invokestatic 183, 109, 187, 2, 1537), (109, .iload 5, 111, 0, 0, 0), (111, .iconst 1, 112, 0, 0, 0), (112, .if_icmp .ne 7, 115, 119, 0, 0), (115, .iconst 1, 116, 0, 0, 0), (116, .goto 4, 119, 120, 0, 0), (119, .iconst 0, 120, 0, 0, 0), (120, .if_icmp .ne 8, 123, 128, 0, 0), (123, .lload 10, 125, 0, 0, 0), (125, .goto 5, 128, 130, 0, 0), (128, .lload 12, 130, 0, 0, 0), (130, .lreturn, 131, 0, 0, 0)]
noncomputable abbrev md_M_solve : pm_M := (⟨"TurnFieldModel", "solve", "(JJI)J"⟩, prog_14_method_30_code, 14, (some .long), false, [0, 1536, 120, 1534, 1535], cd_M_solve)
noncomputable def cd_M_laysBy : List pm_I := [(0, .iconst 0, 1, 0, 0, 0), (1, .istore_n 3, 2, 0, 0, 0), (2, .iload_n 3, 3, 0, 0, 0), (3, .bipush 64, 5, 0, 0, 0), (5, .if_icmp .ge 42, 8, 47, 0, 0), (8, .aload_n 0, 9, 0, 0, 0), (9, .getfield 52, 12, 11, 10, 1320), (12, .iload_n 3, 13, 0, 0, 0), (13, .iload_n 3, 14, 0, 0, 0), (14, .bipush 16, 16, 0, 0, 0), (16, .if_icmp .ge 12, 19, 28, 0, 0), (19, .aload_n 0, 20, 0, 0, 0), (20, .iload_n 3, 21, 0, 0, 0), (21, .lload_n 1, 22, 0, 0, 0), (22, .invokevirtual 123, 25, 188, 3, 1306), (25, .goto 15, 28, 40, 0, 0), (28, .aload_n 0, 29, 0, 0, 0), (29, .getfield 52, 32, 11, 10, 1320), (32, .iload_n 3, 33, 0, 0, 0), (33, .bipush 16, 35, 0, 0, 0), (35, .isub, 36, 0, 0, 0), (36, .laload, 37, 0, 0, 0), (37, .bipush 16, 39, 0, 0, 0), (39, .lshl, 40, 0, 0, 0), (40, .lastore, 41, 0, 0, 0), (41, .iinc 3 1, 44, 0, 0, 0), (44, .goto (-42), 47, 2, 0, 0), (47, .return_, 48, 0, 0, 0)]
noncomputable abbrev md_M_laysBy : pm_M := (⟨"TurnFieldModel", "laysBy", "(J)V"⟩, prog_14_method_31_code, 4, none, false, [0, 1548, 120, 1547, 51], cd_M_laysBy)
noncomputable def cd_M_by : List pm_I := [(0, .lconst 0, 1, 0, 0, 0), (1, .lstore_n 3, 2, 0, 0, 0), (2, .lload_n 1, 3, 0, 0, 0), (3, .lstore 5, 5, 0, 0, 0), (5, .iconst 0, 6, 0, 0, 0), (6, .istore 7, 8, 0, 0, 0), (8, .lload 5, 10, 0, 0, 0), (10, .lconst 0, 11, 0, 0, 0), (11, .lcmp, 12, 0, 0, 0), (12, .ifCond .eq 34, 15, 46, 0, 0), (15, .lload 5, 17, 0, 0, 0), (17, .lconst 1, 18, 0, 0, 0), (18, .land, 19, 0, 0, 0), (19, .lconst 1, 20, 0, 0, 0), (20, .lcmp, 21, 0, 0, 0), (21, .ifCond .ne 13, 24, 34, 0, 0), (24, .lload_n 3, 25, 0, 0, 0), (25, .aload_n 0, 26, 0, 0, 0), (26, .getfield 52, 29, 11, 10, 1320), (29, .iload 7, 31, 0, 0, 0), (31, .laload, 32, 0, 0, 0), (32, .lxor, 33, 0, 0, 0), (33, .lstore_n 3, 34, 0, 0, 0), (34, .lload 5, 36, 0, 0, 0), (36, .iconst 1, 37, 0, 0, 0), (37, .lushr, 38, 0, 0, 0), (38, .lstore 5, 40, 0, 0, 0), (40, .iinc 7 1, 43, 0, 0, 0), (43, .goto (-35), 46, 8, 0, 0), (46, .lload_n 3, 47, 0, 0, 0), (47, .lreturn, 48, 0, 0, 0)]
noncomputable abbrev md_M_by : pm_M := (⟨"TurnFieldModel", "by", "(J)J"⟩, prog_14_method_32_code, 8, (some .long), false, [0, 1552, 120, 1551, 52], cd_M_by)
noncomputable def cd_M_log : List pm_I := [(0, .lload_n 1, 1, 0, 0, 0), (1, .invokestatic 141, 4, 195, 1, 1460), (4, .iconst 4, 5, 0, 0, 0), (5, .if_icmp .gt 11, 8, 16, 0, 0), (8, .lload_n 3, 9, 0, 0, 0), (9, .invokestatic 141, 12, 195, 1, 1460), (12, .iconst 4, 13, 0, 0, 0), (13, .if_icmp .le 6, 16, 19, 0, 0), (16, .bipush (-2), 18, 0, 0, 0), (18, .ireturn, 19, 0, 0, 0), (19, .aload_n 0, 20, 0, 0, 0), (20, .lload_n 3, 21, 0, 0, 0), (21, .invokevirtual 187, 24, 214, 2, 1545), (24, .lconst 1, 25, 0, 0, 0), (25, .lstore 5, 27, 0, 0, 0), (27, .iconst 0, 28, 0, 0, 0), (28, .istore 7, 30, 0, 0, 0), (30, .iload 7, 32, 0, 0, 0), (32, .ldc 90, 34, 19, 0, 1293), (34, .if_icmp .gt 27, 37, 61, 0, 0), (37, .lload 5, 39, 0, 0, 0), (39, .lload_n 1, 40, 0, 0, 0), (40, .lcmp, 41, 0, 0, 0), (41, .ifCond .ne 6, 44, 47, 0, 0), (44, .iload 7, 46, 0, 0, 0), (46, .ireturn, 47, 0, 0, 0), (47, .aload_n 0, 48, 0, 0, 0), (48, .lload 5, 50, 0, 0, 0), (50, .invokevirtual 191, 53, 215, 2, 1549), (53, .lstore 5, 55, 0, 0, 0), (55, .iinc 7 1, 58, 0, 0, 0), (58, .goto (-28), 61, 30, 0, 0), (61, .iconst (-1), 62, 0, 0, 0), (62, .ireturn, 63, 0, 0, 0)]
noncomputable abbrev md_M_log : pm_M := (⟨"TurnFieldModel", "log", "(JJ)I"⟩, prog_14_method_33_code, 8, (some .int), false, [0, 1544, 120, 1542, 1543], cd_M_log)
noncomputable def cd_M_placeOf : List pm_I := [(0, .aload_n 0, 1, 0, 0, 0), (1, .getfield 7, 4, 11, 0, 1310), (4, .bipush 7, 6, 0, 0, 0), (6, .iload_n 1, 7, 0, 0, 0), (7, .iadd, 8, 0, 0, 0), (8, .laload, 9, 0, 0, 0), (9, .lreturn, 10, 0, 0, 0)]
noncomputable abbrev md_M_placeOf : pm_M := (⟨"TurnFieldModel", "placeOf", "(I)J"⟩, prog_14_method_34_code, 2, (some .long), false, [0, 1561, 120, 1560, 53], cd_M_placeOf)
noncomputable def cd_M_place_IJ : List pm_I := [(0, .iload_n 1, 1, 0, 0, 0), (1, .i2l, 2, 0, 0, 0), (2, .lconst 0, 3, 0, 0, 0), (3, .ldc2_w 194, 6, 21, 0, 1557), (6, .invokestatic 170, 9, 185, 3, 1515), (9, .ifCond .eq 11, 12, 20, 0, 0), (12, .aload_n 0, 13, 0, 0, 0), (13, .iload_n 1, 14, 0, 0, 0), (14, .invokevirtual 196, 17, 217, 2, 1558), (17, .goto 4, 20, 21, 0, 0), (20, .lconst 0, 21, 0, 0, 0), (21, .lreturn, 22, 0, 0, 0)]
noncomputable abbrev md_M_place_IJ : pm_M := (⟨"TurnFieldModel", "place", "(I)J"⟩, prog_14_method_35_code, 2, (some .long), false, [0, 1556, 120, 1554, 1555], cd_M_place_IJ)
noncomputable def cd_M_polynomialAt : List pm_I := [(0, .lconst 0, 1, 0, 0, 0), (1, .lstore_n 3, 2, 0, 0, 0), (2, .bipush 7, 4, 0, 0, 0), (4, .istore 5, 6, 0, 0, 0), (6, .iload 5, 8, 0, 0, 0), (8, .ifCond .lt 23, 11, 31, 0, 0), (11, .aload_n 0, 12, 0, 0, 0), (12, .lload_n 3, 13, 0, 0, 0), (13, .lload_n 1, 14, 0, 0, 0), (14, .invokevirtual 131, 17, 192, 3, 1448), (17, .aload_n 0, 18, 0, 0, 0), (18, .iload 5, 20, 0, 0, 0), (20, .invokevirtual 196, 23, 217, 2, 1558), (23, .lxor, 24, 0, 0, 0), (24, .lstore_n 3, 25, 0, 0, 0), (25, .iinc 5 (-1), 28, 0, 0, 0), (28, .goto (-22), 31, 6, 0, 0), (31, .lload_n 3, 32, 0, 0, 0), (32, .lreturn, 33, 0, 0, 0)]
noncomputable abbrev md_M_polynomialAt : pm_M := (⟨"TurnFieldModel", "polynomialAt", "(J)J"⟩, prog_14_method_36_code, 6, (some .long), false, [0, 1569, 120, 1568, 54], cd_M_polynomialAt)
noncomputable def cd_M_throughAt : List pm_I := [(0, .lconst 0, 1, 0, 0, 0), (1, .lstore_n 3, 2, 0, 0, 0), (2, .iconst 0, 3, 0, 0, 0), (3, .istore 5, 5, 0, 0, 0), (5, .iload 5, 7, 0, 0, 0), (7, .bipush 8, 9, 0, 0, 0), (9, .if_icmp .ge 88, 12, 97, 0, 0), (12, .aload_n 0, 13, 0, 0, 0), (13, .iload 5, 15, 0, 0, 0), (15, .invokevirtual 196, 18, 217, 2, 1558), (18, .lstore 6, 20, 0, 0, 0), (20, .lconst 1, 21, 0, 0, 0), (21, .lstore 8, 23, 0, 0, 0), (23, .iconst 0, 24, 0, 0, 0), (24, .istore 10, 26, 0, 0, 0), (26, .iload 10, 28, 0, 0, 0), (28, .bipush 8, 30, 0, 0, 0), (30, .if_icmp .ge 46, 33, 76, 0, 0), (33, .iload 10, 35, 0, 0, 0), (35, .iload 5, 37, 0, 0, 0), (37, .if_icmp .ne 6, 40, 43, 0, 0), (40, .goto 30, 43, 70, 0, 0), (43, .aload_n 0, 44, 0, 0, 0), (44, .lload 6, 46, 0, 0, 0), (46, .lload_n 1, 47, 0, 0, 0), (47, .iload 10, 49, 0, 0, 0), (49, .i2l, 50, 0, 0, 0), (50, .lxor, 51, 0, 0, 0), (51, .invokevirtual 131, 54, 192, 3, 1448), (54, .lstore 6, 56, 0, 0, 0), (56, .aload_n 0, 57, 0, 0, 0), (57, .lload 8, 59, 0, 0, 0), (59, .iload 5, 61, 0, 0, 0), (61, .iload 10, 63, 0, 0, 0), (63, .ixor, 64, 0, 0, 0), (64, .i2l, 65, 0, 0, 0), (65, .invokevirtual 131, 68, 192, 3, 1448), (68, .lstore 8, 70, 0, 0, 0), (70, .iinc 10 1, 73, 0, 0, 0), (73, .goto (-47), 76, 26, 0, 0), (76, .lload_n 3, 77, 0, 0, 0), (77, .aload_n 0, 78, 0, 0, 0), (78, .lload 6, 80, 0, 0, 0), (80, .aload_n 0, 81, 0, 0, 0), (81, .lload 8, 83, 0, 0, 0), (83, .invokevirtual 152, 86, 197, 2, 1456), (86, .invokevirtual 131, 89, 192, 3, 1448), (89, .lxor, 90, 0, 0, 0), (90, .lstore_n 3, 91, 0, 0, 0), (91, .iinc 5 1, 94, 0, 0, 0), (94, .goto (-89), 97, 5, 0, 0), (97, .lload_n 3, 98, 0, 0, 0), (98, .lreturn, 99, 0, 0, 0)]
noncomputable abbrev md_M_throughAt : pm_M := (⟨"TurnFieldModel", "throughAt", "(J)J"⟩, prog_14_method_37_code, 11, (some .long), false, [0, 1573, 120, 1572, 55], cd_M_throughAt)
noncomputable def cd_M_at : List pm_I := [(0, .iload_n 3, 1, 0, 0, 0), (1, .ifCond .ne 11, 4, 12, 0, 0), (4, .aload_n 0, 5, 0, 0, 0), (5, .lload_n 1, 6, 0, 0, 0), (6, .invokevirtual 199, 9, 219, 2, 1566), (9, .goto 17, 12, 26, 0, 0), (12, .iload_n 3, 13, 0, 0, 0), (13, .iconst 1, 14, 0, 0, 0), (14, .if_icmp .ne 11, 17, 25, 0, 0), (17, .aload_n 0, 18, 0, 0, 0), (18, .lload_n 1, 19, 0, 0, 0), (19, .invokevirtual 202, 22, 220, 2, 1570), (22, .goto 4, 25, 26, 0, 0), (25, .lconst 0, 26, 0, 0, 0), (26, .lreturn, 27, 0, 0, 0)]
noncomputable abbrev md_M_at : pm_M := (⟨"TurnFieldModel", "at", "(JI)J"⟩, prog_14_method_38_code, 4, (some .long), false, [0, 1565, 120, 1563, 1564], cd_M_at)
noncomputable def cd_M_isRoot : List pm_I := [(0, .aload_n 0, 1, 0, 0, 0), (1, .lload_n 1, 2, 0, 0, 0), (2, .invokevirtual 187, 5, 214, 2, 1545), (5, .lconst 0, 6, 0, 0, 0), (6, .lstore_n 3, 7, 0, 0, 0), (7, .bipush 7, 9, 0, 0, 0), (9, .istore 5, 11, 0, 0, 0), (11, .iload 5, 13, 0, 0, 0), (13, .ifCond .lt 22, 16, 35, 0, 0), (16, .aload_n 0, 17, 0, 0, 0), (17, .lload_n 3, 18, 0, 0, 0), (18, .invokevirtual 191, 21, 215, 2, 1549), (21, .aload_n 0, 22, 0, 0, 0), (22, .iload 5, 24, 0, 0, 0), (24, .invokevirtual 196, 27, 217, 2, 1558), (27, .lxor, 28, 0, 0, 0), (28, .lstore_n 3, 29, 0, 0, 0), (29, .iinc 5 (-1), 32, 0, 0, 0), (32, .goto (-21), 35, 11, 0, 0), (35, .lload_n 3, 36, 0, 0, 0), (36, .lconst 0, 37, 0, 0, 0), (37, .lcmp, 38, 0, 0, 0), (38, .ifCond .ne 7, 41, 45, 0, 0), (41, .iconst 1, 42, 0, 0, 0), (42, .goto 4, 45, 46, 0, 0), (45, .iconst 0, 46, 0, 0, 0), (46, .ireturn, 47, 0, 0, 0)]
noncomputable abbrev md_M_isRoot : pm_M := (⟨"TurnFieldModel", "isRoot", "(J)Z"⟩, prog_14_method_39_code, 6, (some .boolean), false, [0, 1582, 120, 1581, 56], cd_M_isRoot)
noncomputable def cd_M_roots : List pm_I := [(0, .iload_n 1, 1, 0, 0, 0), (1, .i2l, 2, 0, 0, 0), (2, .lconst 0, 3, 0, 0, 0), (3, .ldc2_w 205, 6, 22, 0, 1578), (6, .invokestatic 170, 9, 185, 3, 1515), (9, .ifCond .eq 8, 12, 17, 0, 0), (12, .iload_n 2, 13, 0, 0, 0), (13, .iconst (-1), 14, 0, 0, 0), (14, .if_icmp .ge 5, 17, 19, 0, 0), (17, .iconst (-1), 18, 0, 0, 0), (18, .ireturn, 19, 0, 0, 0), (19, .iconst 0, 20, 0, 0, 0), (20, .istore_n 3, 21, 0, 0, 0), (21, .lconst 0, 22, 0, 0, 0), (22, .lstore 4, 24, 0, 0, 0), (24, .lload 4, 26, 0, 0, 0), (26, .lconst 1, 27, 0, 0, 0), (27, .iconst 1, 28, 0, 0, 0), (28, .iload_n 1, 29, 0, 0, 0), (29, .ishl, 30, 0, 0, 0), (30, .lshl, 31, 0, 0, 0), (31, .lcmp, 32, 0, 0, 0), (32, .ifCond .ge 36, 35, 68, 0, 0), (35, .aload_n 0, 36, 0, 0, 0), (36, .lload 4, 38, 0, 0, 0), (38, .invokevirtual 207, 41, 222, 2, 1579), (41, .ifCond .ne 6, 44, 47, 0, 0), (44, .goto 15, 47, 59, 0, 0), (47, .iload_n 3, 48, 0, 0, 0), (48, .iload_n 2, 49, 0, 0, 0), (49, .if_icmp .ne 7, 52, 56, 0, 0), (52, .lload 4, 54, 0, 0, 0), (54, .l2i, 55, 0, 0, 0), (55, .ireturn, 56, 0, 0, 0), (56, .iinc 3 1, 59, 0, 0, 0), (59, .lload 4, 61, 0, 0, 0), (61, .lconst 1, 62, 0, 0, 0), (62, .ladd, 63, 0, 0, 0), (63, .lstore 4, 65, 0, 0, 0), (65, .goto (-41), 68, 24, 0, 0), (68, .iload_n 2, 69, 0, 0, 0), (69, .iconst (-1), 70, 0, 0, 0), (70, .if_icmp .ne 7, 73, 77, 0, 0), (73, .iload_n 3, 74, 0, 0, 0), (74, .goto 5, 77, 79, 0, 0), (77, .bipush (-2), 79, 0, 0, 0), (79, .ireturn, 80, 0, 0, 0)]
noncomputable abbrev md_M_roots : pm_M := (⟨"TurnFieldModel", "roots", "(II)I"⟩, prog_14_method_40_code, 6, (some .int), false, [0, 1577, 120, 1575, 1576], cd_M_roots)
noncomputable def cd_M_degreeOf_AJI : List pm_I := [(0, .iconst 3, 1, 0, 0, 0), (1, .istore_n 1, 2, 0, 0, 0), (2, .iload_n 1, 3, 0, 0, 0), (3, .ifCond .lt 17, 6, 20, 0, 0), (6, .aload_n 0, 7, 0, 0, 0), (7, .iload_n 1, 8, 0, 0, 0), (8, .laload, 9, 0, 0, 0), (9, .lconst 0, 10, 0, 0, 0), (10, .lcmp, 11, 0, 0, 0), (11, .ifCond .ne 9, 14, 20, 0, 0), (14, .iinc 1 (-1), 17, 0, 0, 0), (17, .goto (-15), 20, 2, 0, 0), (20, .iload_n 1, 21, 0, 0, 0), (21, .ireturn, 22, 0, 0, 0)]
noncomputable abbrev md_M_degreeOf_AJI : pm_M := (⟨"TurnFieldModel", "degreeOf", "([J)I"⟩, prog_14_method_41_code, 2, (some .int), false, [1, 1593, 120, 1592, 0], cd_M_degreeOf_AJI)
noncomputable def cd_M_leaves : List pm_I := [(0, .aload_n 2, 1, 0, 0, 0), (1, .invokestatic 211, 4, 224, 1, 1591), (4, .istore_n 3, 5, 0, 0, 0), (5, .aload_n 0, 6, 0, 0, 0), (6, .aload_n 2, 7, 0, 0, 0), (7, .iload_n 3, 8, 0, 0, 0), (8, .laload, 9, 0, 0, 0), (9, .invokevirtual 152, 12, 197, 2, 1456), (12, .lstore 4, 14, 0, 0, 0), (14, .aload_n 1, 15, 0, 0, 0), (15, .invokestatic 211, 18, 224, 1, 1591), (18, .istore 6, 20, 0, 0, 0), (20, .iload 6, 22, 0, 0, 0), (22, .iload_n 3, 23, 0, 0, 0), (23, .if_icmp .lt 61, 26, 84, 0, 0), (26, .aload_n 0, 27, 0, 0, 0), (27, .aload_n 1, 28, 0, 0, 0), (28, .iload 6, 30, 0, 0, 0), (30, .laload, 31, 0, 0, 0), (31, .lload 4, 33, 0, 0, 0), (33, .invokevirtual 131, 36, 192, 3, 1448), (36, .lstore 7, 38, 0, 0, 0), (38, .iconst 0, 39, 0, 0, 0), (39, .istore 9, 41, 0, 0, 0), (41, .iload 9, 43, 0, 0, 0), (43, .iload_n 3, 44, 0, 0, 0), (44, .if_icmp .gt 31, 47, 75, 0, 0), (47, .aload_n 1, 48, 0, 0, 0), (48, .iload 6, 50, 0, 0, 0), (50, .iload_n 3, 51, 0, 0, 0), (51, .isub, 52, 0, 0, 0), (52, .iload 9, 54, 0, 0, 0), (54, .iadd, 55, 0, 0, 0), (55, .dup2, 56, 0, 0, 0), (56, .laload, 57, 0, 0, 0), (57, .aload_n 0, 58, 0, 0, 0), (58, .lload 7, 60, 0, 0, 0), (60, .aload_n 2, 61, 0, 0, 0), (61, .iload 9, 63, 0, 0, 0), (63, .laload, 64, 0, 0, 0), (64, .invokevirtual 131, 67, 192, 3, 1448), (67, .lxor, 68, 0, 0, 0), (68, .lastore, 69, 0, 0, 0), (69, .iinc 9 1, 72, 0, 0, 0), (72, .goto (-31), 75, 41, 0, 0), (75, .aload_n 1, 76, 0, 0, 0), (76, .invokestatic 211, 79, 224, 1, 1591), (79, .istore 6, 81, 0, 0, 0), (81, .goto (-61), 84, 20, 0, 0), (84, .return_, 85, 0, 0, 0)]
noncomputable abbrev md_M_leaves : pm_M := (⟨"TurnFieldModel", "leaves", "([J[J)V"⟩, prog_14_method_42_code, 10, none, false, [0, 1597, 120, 1596, 58], cd_M_leaves)
noncomputable def cd_M_laysCommon : List pm_I := [(0, .iconst 0, 1, 0, 0, 0), (1, .istore_n 1, 2, 0, 0, 0), (2, .iload_n 1, 3, 0, 0, 0), (3, .iconst 4, 4, 0, 0, 0), (4, .if_icmp .ge 33, 7, 37, 0, 0), (7, .aload_n 0, 8, 0, 0, 0), (8, .getfield 55, 11, 11, 11, 1321), (11, .iload_n 1, 12, 0, 0, 0), (12, .aload_n 0, 13, 0, 0, 0), (13, .iload_n 1, 14, 0, 0, 0), (14, .invokevirtual 196, 17, 217, 2, 1558), (17, .lastore, 18, 0, 0, 0), (18, .aload_n 0, 19, 0, 0, 0), (19, .getfield 58, 22, 11, 12, 1322), (22, .iload_n 1, 23, 0, 0, 0), (23, .aload_n 0, 24, 0, 0, 0), (24, .iconst 4, 25, 0, 0, 0), (25, .iload_n 1, 26, 0, 0, 0), (26, .iadd, 27, 0, 0, 0), (27, .invokevirtual 196, 30, 217, 2, 1558), (30, .lastore, 31, 0, 0, 0), (31, .iinc 1 1, 34, 0, 0, 0), (34, .goto (-32), 37, 2, 0, 0), (37, .aload_n 0, 38, 0, 0, 0), (38, .getfield 58, 41, 11, 12, 1322), (41, .invokestatic 211, 44, 224, 1, 1591), (44, .ifCond .lt 57, 47, 101, 0, 0), (47, .aload_n 0, 48, 0, 0, 0), (48, .aload_n 0, 49, 0, 0, 0), (49, .getfield 55, 52, 11, 11, 1321), (52, .aload_n 0, 53, 0, 0, 0), (53, .getfield 58, 56, 11, 12, 1322), (56, .invokevirtual 214, 59, 225, 3, 1594), (59, .iconst 0, 60, 0, 0, 0), (60, .istore_n 1, 61, 0, 0, 0), (61, .iload_n 1, 62, 0, 0, 0), (62, .iconst 4, 63, 0, 0, 0), (63, .if_icmp .ge 35, 66, 98, 0, 0), (66, .aload_n 0, 67, 0, 0, 0), (67, .getfield 55, 70, 11, 11, 1321), (70, .iload_n 1, 71, 0, 0, 0), (71, .laload, 72, 0, 0, 0), (72, .lstore_n 2, 73, 0, 0, 0), (73, .aload_n 0, 74, 0, 0, 0), (74, .getfield 55, 77, 11, 11, 1321), (77, .iload_n 1, 78, 0, 0, 0), (78, .aload_n 0, 79, 0, 0, 0), (79, .getfield 58, 82, 11, 12, 1322), (82, .iload_n 1, 83, 0, 0, 0), (83, .laload, 84, 0, 0, 0), (84, .lastore, 85, 0, 0, 0), (85, .aload_n 0, 86, 0, 0, 0), (86, .getfield 58, 89, 11, 12, 1322), (89, .iload_n 1, 90, 0, 0, 0), (90, .lload_n 2, 91, 0, 0, 0), (91, .lastore, 92, 0, 0, 0), (92, .iinc 1 1, 95, 0, 0, 0), (95, .goto (-34), 98, 61, 0, 0), (98, .goto (-61), 101, 37, 0, 0), (101, .aload_n 0, 102, 0, 0, 0), (102, .getfield 55, 105, 11, 11, 1321), (105, .invokestatic 211, 108, 224, 1, 1591), (108, .istore_n 1, 109, 0, 0, 0), (109, .iload_n 1, 110, 0, 0, 0), (110, .ifCond .ge 7, 113, 117, 0, 0), (113, .lconst 0, 114, 0, 0, 0), (114, .goto 13, 117, 127, 0, 0), (117, .aload_n 0, 118, 0, 0, 0), (118, .aload_n 0, 119, 0, 0, 0), (119, .getfield 55, 122, 11, 11, 1321), (122, .iload_n 1, 123, 0, 0, 0), (123, .laload, 124, 0, 0, 0), (124, .invokevirtual 152, 127, 197, 2, 1456), (127, .lstore_n 2, 128, 0, 0, 0), (128, .iconst 0, 129, 0, 0, 0), (129, .istore 4, 131, 0, 0, 0), (131, .iload 4, 133, 0, 0, 0), (133, .iconst 4, 134, 0, 0, 0), (134, .if_icmp .ge 28, 137, 162, 0, 0), (137, .aload_n 0, 138, 0, 0, 0), (138, .getfield 55, 141, 11, 11, 1321), (141, .iload 4, 143, 0, 0, 0), (143, .aload_n 0, 144, 0, 0, 0), (144, .aload_n 0, 145, 0, 0, 0), (145, .getfield 55, 148, 11, 11, 1321), (148, .iload 4, 150, 0, 0, 0), (150, .laload, 151, 0, 0, 0), (151, .lload_n 2, 152, 0, 0, 0), (152, .invokevirtual 131, 155, 192, 3, 1448), (155, .lastore, 156, 0, 0, 0), (156, .iinc 4 1, 159, 0, 0, 0), (159, .goto (-28), 162, 131, 0, 0), (162, .return_, 163, 0, 0, 0)]
noncomputable abbrev md_M_laysCommon : pm_M := (⟨"TurnFieldModel", "laysCommon", "()V"⟩, prog_14_method_43_code, 5, none, false, [0, 1590, 120, 1589, 57], cd_M_laysCommon)
noncomputable def cd_M_common : List pm_I := [(0, .iload_n 1, 1, 0, 0, 0), (1, .i2l, 2, 0, 0, 0), (2, .lconst 0, 3, 0, 0, 0), (3, .ldc2_w 26, 6, 12, 0, 1286), (6, .invokestatic 170, 9, 185, 3, 1515), (9, .ifCond .ne 5, 12, 14, 0, 0), (12, .lconst 0, 13, 0, 0, 0), (13, .lreturn, 14, 0, 0, 0), (14, .aload_n 0, 15, 0, 0, 0), (15, .invokevirtual 218, 18, 226, 1, 1587), (18, .aload_n 0, 19, 0, 0, 0), (19, .getfield 55, 22, 11, 11, 1321), (22, .iload_n 1, 23, 0, 0, 0), (23, .laload, 24, 0, 0, 0), (24, .lreturn, 25, 0, 0, 0)]
noncomputable abbrev md_M_common : pm_M := (⟨"TurnFieldModel", "common", "(I)J"⟩, prog_14_method_44_code, 2, (some .long), false, [0, 1586, 120, 1584, 1585], cd_M_common)
noncomputable def cd_M_bySet : List pm_I := [(0, .lconst 0, 1, 0, 0, 0), (1, .lstore 4, 3, 0, 0, 0), (3, .iconst 0, 4, 0, 0, 0), (4, .istore 6, 6, 0, 0, 0), (6, .iload 6, 8, 0, 0, 0), (8, .bipush 8, 10, 0, 0, 0), (10, .if_icmp .ge 118, 13, 128, 0, 0), (13, .iload_n 1, 14, 0, 0, 0), (14, .i2l, 15, 0, 0, 0), (15, .iload 6, 17, 0, 0, 0), (17, .invokestatic 158, 20, 186, 2, 1495), (20, .ifCond .ne 6, 23, 26, 0, 0), (23, .goto 99, 26, 122, 0, 0), (26, .lconst 1, 27, 0, 0, 0), (27, .lstore 7, 29, 0, 0, 0), (29, .lconst 1, 30, 0, 0, 0), (30, .lstore 9, 32, 0, 0, 0), (32, .iconst 0, 33, 0, 0, 0), (33, .istore 11, 35, 0, 0, 0), (35, .iload 11, 37, 0, 0, 0), (37, .bipush 8, 39, 0, 0, 0), (39, .if_icmp .ge 56, 42, 95, 0, 0), (42, .iload 11, 44, 0, 0, 0), (44, .iload 6, 46, 0, 0, 0), (46, .if_icmp .eq 43, 49, 89, 0, 0), (49, .iload_n 1, 50, 0, 0, 0), (50, .i2l, 51, 0, 0, 0), (51, .iload 11, 53, 0, 0, 0), (53, .invokestatic 158, 56, 186, 2, 1495), (56, .ifCond .ne 6, 59, 62, 0, 0), (59, .goto 30, 62, 89, 0, 0), (62, .aload_n 0, 63, 0, 0, 0), (63, .lload 7, 65, 0, 0, 0), (65, .lload_n 2, 66, 0, 0, 0), (66, .iload 11, 68, 0, 0, 0), (68, .i2l, 69, 0, 0, 0), (69, .lxor, 70, 0, 0, 0), (70, .invokevirtual 131, 73, 192, 3, 1448), (73, .lstore 7, 75, 0, 0, 0), (75, .aload_n 0, 76, 0, 0, 0), (76, .lload 9, 78, 0, 0, 0), (78, .iload 6, 80, 0, 0, 0), (80, .iload 11, 82, 0, 0, 0), (82, .ixor, 83, 0, 0, 0), (83, .i2l, 84, 0, 0, 0), (84, .invokevirtual 131, 87, 192, 3, 1448), (87, .lstore 9, 89, 0, 0, 0), (89, .iinc 11 1, 92, 0, 0, 0), (92, .goto (-57), 95, 35, 0, 0), (95, .lload 4, 97, 0, 0, 0), (97, .aload_n 0, 98, 0, 0, 0), (98, .aload_n 0, 99, 0, 0, 0), (99, .lload 7, 101, 0, 0, 0), (101, .aload_n 0, 102, 0, 0, 0), (102, .lload 9, 104, 0, 0, 0), (104, .invokevirtual 152, 107, 197, 2, 1456), (107, .invokevirtual 131, 110, 192, 3, 1448), (110, .aload_n 0, 111, 0, 0, 0), (111, .iload 6, 113, 0, 0, 0), (113, .invokevirtual 196, 116, 217, 2, 1558), (116, .invokevirtual 131, 119, 192, 3, 1448), (119, .lxor, 120, 0, 0, 0), (120, .lstore 4, 122, 0, 0, 0), (122, .iinc 6 1, 125, 0, 0, 0), (125, .goto (-119), 128, 6, 0, 0), (128, .lload 4, 130, 0, 0, 0), (130, .lreturn, 131, 0, 0, 0)]
noncomputable abbrev md_M_bySet : pm_M := (⟨"TurnFieldModel", "bySet", "(IJ)J"⟩, prog_14_method_45_code, 12, (some .long), false, [0, 1620, 120, 1619, 62], cd_M_bySet)
noncomputable def cd_M_agreesBy : List pm_I := [(0, .iconst 0, 1, 0, 0, 0), (1, .istore_n 2, 2, 0, 0, 0), (2, .iconst 0, 3, 0, 0, 0), (3, .istore_n 3, 4, 0, 0, 0), (4, .iload_n 3, 5, 0, 0, 0), (5, .bipush 8, 7, 0, 0, 0), (7, .if_icmp .ge 44, 10, 51, 0, 0), (10, .iload_n 2, 11, 0, 0, 0), (11, .iload_n 1, 12, 0, 0, 0), (12, .i2l, 13, 0, 0, 0), (13, .iload_n 3, 14, 0, 0, 0), (14, .invokestatic 158, 17, 186, 2, 1495), (17, .ifCond .ne 19, 20, 36, 0, 0), (20, .aload_n 0, 21, 0, 0, 0), (21, .iload_n 1, 22, 0, 0, 0), (22, .iload_n 3, 23, 0, 0, 0), (23, .i2l, 24, 0, 0, 0), (24, .invokevirtual 221, 27, 228, 3, 1617), (27, .aload_n 0, 28, 0, 0, 0), (28, .iload_n 3, 29, 0, 0, 0), (29, .invokevirtual 196, 32, 217, 2, 1558), (32, .lcmp, 33, 0, 0, 0), (33, .ifCond .ne 9, 36, 42, 0, 0), (36, .iconst 1, 37, 0, 0, 0), (37, .iload_n 3, 38, 0, 0, 0), (38, .ishl, 39, 0, 0, 0), (39, .goto 4, 42, 43, 0, 0), (42, .iconst 0, 43, 0, 0, 0), (43, .ior, 44, 0, 0, 0), (44, .istore_n 2, 45, 0, 0, 0), (45, .iinc 3 1, 48, 0, 0, 0), (48, .goto (-44), 51, 4, 0, 0), (51, .iload_n 2, 52, 0, 0, 0), (52, .ireturn, 53, 0, 0, 0)]
noncomputable abbrev md_M_agreesBy : pm_M := (⟨"TurnFieldModel", "agreesBy", "(I)I"⟩, prog_14_method_46_code, 4, (some .int), false, [0, 1616, 120, 1615, 61], cd_M_agreesBy)
noncomputable def cd_M_findsMended : List pm_I := [(0, .aload_n 0, 1, 0, 0, 0), (1, .iconst 0, 2, 0, 0, 0), (2, .putfield 224, 5, 11, 14, 1324), (5, .aload_n 0, 6, 0, 0, 0), (6, .iconst 0, 7, 0, 0, 0), (7, .putfield 228, 10, 11, 13, 1323), (10, .iconst 0, 11, 0, 0, 0), (11, .istore_n 1, 12, 0, 0, 0), (12, .iload_n 1, 13, 0, 0, 0), (13, .sipush 256, 16, 0, 0, 0), (16, .if_icmp .ge 57, 19, 73, 0, 0), (19, .aload_n 0, 20, 0, 0, 0), (20, .getfield 224, 23, 11, 14, 1324), (23, .ifCond .ne 50, 26, 73, 0, 0), (26, .iload_n 1, 27, 0, 0, 0), (27, .i2l, 28, 0, 0, 0), (28, .invokestatic 231, 31, 256, 1, 1610), (31, .iconst 4, 32, 0, 0, 0), (32, .if_icmp .eq 6, 35, 38, 0, 0), (35, .goto 32, 38, 67, 0, 0), (38, .aload_n 0, 39, 0, 0, 0), (39, .iload_n 1, 40, 0, 0, 0), (40, .invokevirtual 234, 43, 229, 2, 1613), (43, .istore_n 2, 44, 0, 0, 0), (44, .iload_n 2, 45, 0, 0, 0), (45, .i2l, 46, 0, 0, 0), (46, .invokestatic 231, 49, 256, 1, 1610), (49, .bipush 6, 51, 0, 0, 0), (51, .if_icmp .ge 6, 54, 57, 0, 0), (54, .goto 13, 57, 67, 0, 0), (57, .aload_n 0, 58, 0, 0, 0), (58, .iload_n 1, 59, 0, 0, 0), (59, .putfield 224, 62, 11, 14, 1324), (62, .aload_n 0, 63, 0, 0, 0), (63, .iload_n 2, 64, 0, 0, 0), (64, .putfield 228, 67, 11, 13, 1323), (67, .iinc 1 1, 70, 0, 0, 0), (70, .goto (-58), 73, 12, 0, 0), (73, .aload_n 0, 74, 0, 0, 0), (74, .getfield 224, 77, 11, 14, 1324), (77, .ifCond .eq 7, 80, 84, 0, 0), (80, .iconst 1, 81, 0, 0, 0), (81, .goto 4, 84, 85, 0, 0), (84, .iconst 0, 85, 0, 0, 0), (85, .ireturn, 86, 0, 0, 0)]
noncomputable abbrev md_M_findsMended : pm_M := (⟨"TurnFieldModel", "findsMended", "()Z"⟩, prog_14_method_47_code, 3, (some .boolean), false, [0, 1609, 120, 1608, 60], cd_M_findsMended)
noncomputable def cd_M_addsBase : List pm_I := [(0, .lconst 1, 1, 0, 0, 0), (1, .lstore_n 2, 2, 0, 0, 0), (2, .iconst 0, 3, 0, 0, 0), (3, .istore 4, 5, 0, 0, 0), (5, .iload 4, 7, 0, 0, 0), (7, .iconst 5, 8, 0, 0, 0), (8, .if_icmp .ge 26, 11, 34, 0, 0), (11, .aload_n 0, 12, 0, 0, 0), (12, .getfield 64, 15, 11, 16, 1326), (15, .iload 4, 17, 0, 0, 0), (17, .iload 4, 19, 0, 0, 0), (19, .ifCond .ne 7, 22, 26, 0, 0), (22, .lconst 1, 23, 0, 0, 0), (23, .goto 4, 26, 27, 0, 0), (26, .lconst 0, 27, 0, 0, 0), (27, .lastore, 28, 0, 0, 0), (28, .iinc 4 1, 31, 0, 0, 0), (31, .goto (-26), 34, 5, 0, 0), (34, .iconst 0, 35, 0, 0, 0), (35, .istore 4, 37, 0, 0, 0), (37, .iload 4, 39, 0, 0, 0), (39, .bipush 8, 41, 0, 0, 0), (41, .if_icmp .ge 96, 44, 137, 0, 0), (44, .iload 4, 46, 0, 0, 0), (46, .iload_n 1, 47, 0, 0, 0), (47, .if_icmp .eq 84, 50, 131, 0, 0), (50, .aload_n 0, 51, 0, 0, 0), (51, .getfield 224, 54, 11, 14, 1324), (54, .i2l, 55, 0, 0, 0), (55, .iload 4, 57, 0, 0, 0), (57, .invokestatic 158, 60, 186, 2, 1495), (60, .ifCond .ne 6, 63, 66, 0, 0), (63, .goto 68, 66, 131, 0, 0), (66, .iconst 4, 67, 0, 0, 0), (67, .istore 5, 69, 0, 0, 0), (69, .iload 5, 71, 0, 0, 0), (71, .ifCond .lt 49, 74, 120, 0, 0), (74, .aload_n 0, 75, 0, 0, 0), (75, .getfield 64, 78, 11, 16, 1326), (78, .iload 5, 80, 0, 0, 0), (80, .iload 5, 82, 0, 0, 0), (82, .ifCond .le 15, 85, 97, 0, 0), (85, .aload_n 0, 86, 0, 0, 0), (86, .getfield 64, 89, 11, 16, 1326), (89, .iload 5, 91, 0, 0, 0), (91, .iconst 1, 92, 0, 0, 0), (92, .isub, 93, 0, 0, 0), (93, .laload, 94, 0, 0, 0), (94, .goto 4, 97, 98, 0, 0), (97, .lconst 0, 98, 0, 0, 0), (98, .aload_n 0, 99, 0, 0, 0), (99, .iload 4, 101, 0, 0, 0), (101, .i2l, 102, 0, 0, 0), (102, .aload_n 0, 103, 0, 0, 0), (103, .getfield 64, 106, 11, 16, 1326), (106, .iload 5, 108, 0, 0, 0), (108, .laload, 109, 0, 0, 0), (109, .invokevirtual 131, 112, 192, 3, 1448), (112, .lxor, 113, 0, 0, 0), (113, .lastore, 114, 0, 0, 0), (114, .iinc 5 (-1), 117, 0, 0, 0), (117, .goto (-48), 120, 69, 0, 0), (120, .aload_n 0, 121, 0, 0, 0), (121, .lload_n 2, 122, 0, 0, 0), (122, .iload_n 1, 123, 0, 0, 0), (123, .iload 4, 125, 0, 0, 0), (125, .ixor, 126, 0, 0, 0), (126, .i2l, 127, 0, 0, 0), (127, .invokevirtual 131, 130, 192, 3, 1448), (130, .lstore_n 2, 131, 0, 0, 0), (131, .iinc 4 1, 134, 0, 0, 0), (134, .goto (-97), 137, 37, 0, 0), (137, .aload_n 0, 138, 0, 0, 0), (138, .aload_n 0, 139, 0, 0, 0), (139, .iload_n 1, 140, 0, 0, 0), (140, .invokevirtual 196, 143, 217, 2, 1558), (143, .aload_n 0, 144, 0, 0, 0), (144, .lload_n 2, 145, 0, 0, 0), (145, .invokevirtual 152, 148, 197, 2, 1456), (148, .invokevirtual 131, 151, 192, 3, 1448), (151, .lstore 4, 153, 0, 0, 0), (153, .iconst 0, 154, 0, 0, 0), (154, .istore 6, 156, 0, 0, 0), (156, .iload 6, 158, 0, 0, 0), (158, .iconst 4, 159, 0, 0, 0), (159, .if_icmp .ge 32, 162, 191, 0, 0), (162, .aload_n 0, 163, 0, 0, 0), (163, .getfield 61, 166, 11, 15, 1325), (166, .iload 6, 168, 0, 0, 0), (168, .dup2, 169, 0, 0, 0), (169, .laload, 170, 0, 0, 0), (170, .aload_n 0, 171, 0, 0, 0), (171, .lload 4, 173, 0, 0, 0), (173, .aload_n 0, 174, 0, 0, 0), (174, .getfield 64, 177, 11, 16, 1326), (177, .iload 6, 179, 0, 0, 0), (179, .laload, 180, 0, 0, 0), (180, .invokevirtual 131, 183, 192, 3, 1448), (183, .lxor, 184, 0, 0, 0), (184, .lastore, 185, 0, 0, 0), (185, .iinc 6 1, 188, 0, 0, 0), (188, .goto (-32), 191, 156, 0, 0), (191, .return_, 192, 0, 0, 0)]
noncomputable abbrev md_M_addsBase : pm_M := (⟨"TurnFieldModel", "addsBase", "(I)V"⟩, prog_14_method_48_code, 7, none, false, [0, 1624, 120, 1623, 63], cd_M_addsBase)
noncomputable def cd_M_laysMended : List pm_I := [(0, .iconst 0, 1, 0, 0, 0), (1, .istore_n 1, 2, 0, 0, 0), (2, .iload_n 1, 3, 0, 0, 0), (3, .iconst 4, 4, 0, 0, 0), (4, .if_icmp .ge 16, 7, 20, 0, 0), (7, .aload_n 0, 8, 0, 0, 0), (8, .getfield 61, 11, 11, 15, 1325), (11, .iload_n 1, 12, 0, 0, 0), (12, .lconst 0, 13, 0, 0, 0), (13, .lastore, 14, 0, 0, 0), (14, .iinc 1 1, 17, 0, 0, 0), (17, .goto (-15), 20, 2, 0, 0), (20, .aload_n 0, 21, 0, 0, 0), (21, .invokevirtual 238, 24, 230, 1, 1606), (24, .ifCond .ne 5, 27, 29, 0, 0), (27, .iconst 0, 28, 0, 0, 0), (28, .ireturn, 29, 0, 0, 0), (29, .iconst 0, 30, 0, 0, 0), (30, .istore_n 1, 31, 0, 0, 0), (31, .iload_n 1, 32, 0, 0, 0), (32, .bipush 8, 34, 0, 0, 0), (34, .if_icmp .ge 26, 37, 60, 0, 0), (37, .aload_n 0, 38, 0, 0, 0), (38, .getfield 224, 41, 11, 14, 1324), (41, .i2l, 42, 0, 0, 0), (42, .iload_n 1, 43, 0, 0, 0), (43, .invokestatic 158, 46, 186, 2, 1495), (46, .ifCond .eq 8, 49, 54, 0, 0), (49, .aload_n 0, 50, 0, 0, 0), (50, .iload_n 1, 51, 0, 0, 0), (51, .invokevirtual 242, 54, 231, 2, 1621), (54, .iinc 1 1, 57, 0, 0, 0), (57, .goto (-26), 60, 31, 0, 0), (60, .iconst 1, 61, 0, 0, 0), (61, .ireturn, 62, 0, 0, 0)]
noncomputable abbrev md_M_laysMended : pm_M := (⟨"TurnFieldModel", "laysMended", "()Z"⟩, prog_14_method_49_code, 2, (some .boolean), false, [0, 1605, 120, 1604, 59], cd_M_laysMended)
noncomputable def cd_M_mended : List pm_I := [(0, .iload_n 1, 1, 0, 0, 0), (1, .i2l, 2, 0, 0, 0), (2, .lconst 0, 3, 0, 0, 0), (3, .ldc2_w 26, 6, 12, 0, 1286), (6, .invokestatic 170, 9, 185, 3, 1515), (9, .ifCond .eq 19, 12, 28, 0, 0), (12, .aload_n 0, 13, 0, 0, 0), (13, .invokevirtual 246, 16, 232, 1, 1602), (16, .ifCond .eq 12, 19, 28, 0, 0), (19, .aload_n 0, 20, 0, 0, 0), (20, .getfield 61, 23, 11, 15, 1325), (23, .iload_n 1, 24, 0, 0, 0), (24, .laload, 25, 0, 0, 0), (25, .goto 4, 28, 29, 0, 0), (28, .lconst 0, 29, 0, 0, 0), (29, .lreturn, 30, 0, 0, 0)]
noncomputable abbrev md_M_mended : pm_M := (⟨"TurnFieldModel", "mended", "(I)J"⟩, prog_14_method_50_code, 2, (some .long), false, [0, 1601, 120, 1599, 1600], cd_M_mended)
noncomputable def cd_M_mendedAt : List pm_I := [(0, .aload_n 0, 1, 0, 0, 0), (1, .invokevirtual 246, 4, 232, 1, 1602), (4, .ifCond .ne 5, 7, 9, 0, 0), (7, .lconst 0, 8, 0, 0, 0), (8, .lreturn, 9, 0, 0, 0), (9, .lconst 0, 10, 0, 0, 0), (10, .lstore_n 3, 11, 0, 0, 0), (11, .iconst 3, 12, 0, 0, 0), (12, .istore 5, 14, 0, 0, 0), (14, .iload 5, 16, 0, 0, 0), (16, .ifCond .lt 24, 19, 40, 0, 0), (19, .aload_n 0, 20, 0, 0, 0), (20, .lload_n 3, 21, 0, 0, 0), (21, .lload_n 1, 22, 0, 0, 0), (22, .invokevirtual 131, 25, 192, 3, 1448), (25, .aload_n 0, 26, 0, 0, 0), (26, .getfield 61, 29, 11, 15, 1325), (29, .iload 5, 31, 0, 0, 0), (31, .laload, 32, 0, 0, 0), (32, .lxor, 33, 0, 0, 0), (33, .lstore_n 3, 34, 0, 0, 0), (34, .iinc 5 (-1), 37, 0, 0, 0), (37, .goto (-23), 40, 14, 0, 0), (40, .lload_n 3, 41, 0, 0, 0), (41, .lreturn, 42, 0, 0, 0)]
noncomputable abbrev md_M_mendedAt : pm_M := (⟨"TurnFieldModel", "mendedAt", "(J)J"⟩, prog_14_method_51_code, 6, (some .long), false, [0, 1628, 120, 1626, 1627], cd_M_mendedAt)
noncomputable def cd_M_agrees : List pm_I := [(0, .iload_n 1, 1, 0, 0, 0), (1, .i2l, 2, 0, 0, 0), (2, .lconst 0, 3, 0, 0, 0), (3, .lconst 1, 4, 0, 0, 0), (4, .invokestatic 170, 7, 185, 3, 1515), (7, .ifCond .ne 5, 10, 12, 0, 0), (10, .iconst (-1), 11, 0, 0, 0), (11, .ireturn, 12, 0, 0, 0), (12, .aload_n 0, 13, 0, 0, 0), (13, .invokevirtual 238, 16, 230, 1, 1606), (16, .ifCond .ne 6, 19, 22, 0, 0), (19, .bipush (-2), 21, 0, 0, 0), (21, .ireturn, 22, 0, 0, 0), (22, .iload_n 1, 23, 0, 0, 0), (23, .ifCond .ne 14, 26, 37, 0, 0), (26, .aload_n 0, 27, 0, 0, 0), (27, .getfield 228, 30, 11, 13, 1323), (30, .i2l, 31, 0, 0, 0), (31, .invokestatic 231, 34, 256, 1, 1610), (34, .goto 13, 37, 47, 0, 0), (37, .sipush 255, 40, 0, 0, 0), (40, .aload_n 0, 41, 0, 0, 0), (41, .getfield 228, 44, 11, 13, 1323), (44, .iconst (-1), 45, 0, 0, 0), (45, .ixor, 46, 0, 0, 0), (46, .iand, 47, 0, 0, 0), (47, .ireturn, 48, 0, 0, 0)]
noncomputable abbrev md_M_agrees : pm_M := (⟨"TurnFieldModel", "agrees", "(I)I"⟩, prog_14_method_52_code, 2, (some .int), false, [0, 1632, 120, 1630, 1631], cd_M_agrees)
noncomputable def cd_M_primesOf : List pm_I := [(0, .iload_n 0, 1, 0, 0, 0), (1, .iconst 4, 2, 0, 0, 0), (2, .if_icmp .ge 11, 5, 13, 0, 0), (5, .iconst 1, 6, 0, 0, 0), (6, .iload_n 0, 7, 0, 0, 0), (7, .ishl, 8, 0, 0, 0), (8, .iconst 1, 9, 0, 0, 0), (9, .isub, 10, 0, 0, 0), (10, .goto 25, 13, 35, 0, 0), (13, .iload_n 0, 14, 0, 0, 0), (14, .iconst 4, 15, 0, 0, 0), (15, .if_icmp .ne 8, 18, 23, 0, 0), (18, .bipush 15, 20, 0, 0, 0), (20, .goto 15, 23, 35, 0, 0), (23, .iload_n 0, 24, 0, 0, 0), (24, .iconst 5, 25, 0, 0, 0), (25, .if_icmp .ne 8, 28, 33, 0, 0), (28, .bipush 47, 30, 0, 0, 0), (30, .goto 5, 33, 35, 0, 0), (33, .bipush 127, 35, 0, 0, 0), (35, .ireturn, 36, 0, 0, 0)]
noncomputable abbrev md_M_primesOf : pm_M := (⟨"TurnFieldModel", "primesOf", "(I)I"⟩, prog_14_method_53_code, 1, (some .int), false, [1, 1640, 120, 1639, 0], cd_M_primesOf)
noncomputable def cd_M_isFull : List pm_I := [(0, .iconst 0, 1, 0, 0, 0), (1, .istore 4, 3, 0, 0, 0), (3, .iload 4, 5, 0, 0, 0), (5, .bipush 7, 7, 0, 0, 0), (7, .if_icmp .ge 43, 10, 50, 0, 0), (10, .iload_n 3, 11, 0, 0, 0), (11, .i2l, 12, 0, 0, 0), (12, .iload 4, 14, 0, 0, 0), (14, .invokestatic 158, 17, 186, 2, 1495), (17, .ifCond .eq 27, 20, 44, 0, 0), (20, .aload_n 0, 21, 0, 0, 0), (21, .lload_n 1, 22, 0, 0, 0), (22, .aload_n 0, 23, 0, 0, 0), (23, .iload_n 3, 24, 0, 0, 0), (24, .iconst 1, 25, 0, 0, 0), (25, .iload 4, 27, 0, 0, 0), (27, .ishl, 28, 0, 0, 0), (28, .iconst (-1), 29, 0, 0, 0), (29, .ixor, 30, 0, 0, 0), (30, .iand, 31, 0, 0, 0), (31, .invokevirtual 162, 34, 203, 2, 1491), (34, .invokevirtual 149, 37, 194, 3, 1467), (37, .lconst 1, 38, 0, 0, 0), (38, .lcmp, 39, 0, 0, 0), (39, .ifCond .ne 5, 42, 44, 0, 0), (42, .iconst 0, 43, 0, 0, 0), (43, .ireturn, 44, 0, 0, 0), (44, .iinc 4 1, 47, 0, 0, 0), (47, .goto (-44), 50, 3, 0, 0), (50, .iconst 1, 51, 0, 0, 0), (51, .ireturn, 52, 0, 0, 0)]
noncomputable abbrev md_M_isFull : pm_M := (⟨"TurnFieldModel", "isFull", "(JI)Z"⟩, prog_14_method_54_code, 5, (some .boolean), false, [0, 1644, 120, 1643, 64], cd_M_isFull)
noncomputable def cd_M_full : List pm_I := [(0, .iload_n 1, 1, 0, 0, 0), (1, .i2l, 2, 0, 0, 0), (2, .lconst 0, 3, 0, 0, 0), (3, .ldc2_w 168, 6, 20, 0, 1514), (6, .invokestatic 170, 9, 185, 3, 1515), (9, .ifCond .eq 13, 12, 22, 0, 0), (12, .iload_n 2, 13, 0, 0, 0), (13, .i2l, 14, 0, 0, 0), (14, .lconst 0, 15, 0, 0, 0), (15, .lconst 1, 16, 0, 0, 0), (16, .invokestatic 170, 19, 185, 3, 1515), (19, .ifCond .ne 7, 22, 26, 0, 0), (22, .ldc2_w 249, 25, 8, 0, 1637), (25, .lreturn, 26, 0, 0, 0), (26, .iload_n 1, 27, 0, 0, 0), (27, .invokestatic 251, 30, 236, 1, 1638), (30, .istore_n 3, 31, 0, 0, 0), (31, .iload_n 2, 32, 0, 0, 0), (32, .ifCond .ne 42, 35, 74, 0, 0), (35, .iload_n 1, 36, 0, 0, 0), (36, .ifCond .ne 7, 39, 43, 0, 0), (39, .lconst 1, 40, 0, 0, 0), (40, .goto 10, 43, 50, 0, 0), (43, .lconst 1, 44, 0, 0, 0), (44, .iconst 1, 45, 0, 0, 0), (45, .iload_n 1, 46, 0, 0, 0), (46, .iconst 1, 47, 0, 0, 0), (47, .isub, 48, 0, 0, 0), (48, .ishl, 49, 0, 0, 0), (49, .lshl, 50, 0, 0, 0), (50, .lstore 4, 52, 0, 0, 0), (52, .aload_n 0, 53, 0, 0, 0), (53, .lload 4, 55, 0, 0, 0), (55, .iload_n 3, 56, 0, 0, 0), (56, .invokevirtual 254, 59, 237, 3, 1641), (59, .ifCond .ne 12, 62, 71, 0, 0), (62, .lload 4, 64, 0, 0, 0), (64, .lconst 1, 65, 0, 0, 0), (65, .ladd, 66, 0, 0, 0), (66, .lstore 4, 68, 0, 0, 0), (68, .goto (-16), 71, 52, 0, 0), (71, .lload 4, 73, 0, 0, 0), (73, .lreturn, 74, 0, 0, 0), (74, .lconst 1, 75, 0, 0, 0), (75, .lstore 4, 77, 0, 0, 0), (77, .iconst 0, 78, 0, 0, 0), (78, .istore 6, 80, 0, 0, 0), (80, .iload 6, 82, 0, 0, 0), (82, .bipush 7, 84, 0, 0, 0), (84, .if_icmp .ge 33, 87, 117, 0, 0), (87, .iload_n 3, 88, 0, 0, 0), (88, .i2l, 89, 0, 0, 0), (89, .iload 6, 91, 0, 0, 0), (91, .invokestatic 158, 94, 186, 2, 1495), (94, .ifCond .eq 17, 97, 111, 0, 0), (97, .lload 4, 99, 0, 0, 0), (99, .aload_n 0, 100, 0, 0, 0), (100, .getfield 40, 103, 11, 6, 1316), (103, .iload 6, 105, 0, 0, 0), (105, .laload, 106, 0, 0, 0), (106, .lconst 1, 107, 0, 0, 0), (107, .lsub, 108, 0, 0, 0), (108, .lmul, 109, 0, 0, 0), (109, .lstore 4, 111, 0, 0, 0), (111, .iinc 6 1, 114, 0, 0, 0), (114, .goto (-34), 117, 80, 0, 0), (117, .lload 4, 119, 0, 0, 0), (119, .lreturn, 120, 0, 0, 0)]
noncomputable abbrev md_M_full : pm_M := (⟨"TurnFieldModel", "full", "(II)J"⟩, prog_14_method_55_code, 7, (some .long), false, [0, 1636, 120, 1634, 1635], cd_M_full)
noncomputable def cd_M_entryOf : List pm_I := [(0, .aload_n 0, 1, 0, 0, 0), (1, .getfield 7, 4, 11, 0, 1310), (4, .bipush 17, 6, 0, 0, 0), (6, .iconst 4, 7, 0, 0, 0), (7, .iload_n 1, 8, 0, 0, 0), (8, .imul, 9, 0, 0, 0), (9, .iadd, 10, 0, 0, 0), (10, .iload_n 2, 11, 0, 0, 0), (11, .iadd, 12, 0, 0, 0), (12, .laload, 13, 0, 0, 0), (13, .lreturn, 14, 0, 0, 0)]
noncomputable abbrev md_M_entryOf : pm_M := (⟨"TurnFieldModel", "entryOf", "(II)J"⟩, prog_14_method_56_code, 3, (some .long), false, [0, 1656, 120, 1655, 66], cd_M_entryOf)
noncomputable def cd_M_cellAt : List pm_I := [(0, .bipush 8, 2, 0, 0, 0), (2, .iload_n 0, 3, 0, 0, 0), (3, .imul, 4, 0, 0, 0), (4, .iload_n 1, 5, 0, 0, 0), (5, .iadd, 6, 0, 0, 0), (6, .ireturn, 7, 0, 0, 0)]
noncomputable abbrev md_M_cellAt : pm_M := (⟨"TurnFieldModel", "cellAt", "(II)I"⟩, prog_14_method_57_code, 2, (some .int), false, [1, 1667, 120, 1666, 0], cd_M_cellAt)
noncomputable def cd_M_laysForm : List pm_I := [(0, .aload_n 0, 1, 0, 0, 0), (1, .aload_n 0, 2, 0, 0, 0), (2, .getfield 7, 5, 11, 0, 1310), (5, .bipush 15, 7, 0, 0, 0), (7, .laload, 8, 0, 0, 0), (8, .l2i, 9, 0, 0, 0), (9, .putfield 257, 12, 11, 17, 1327), (12, .aload_n 0, 13, 0, 0, 0), (13, .aload_n 0, 14, 0, 0, 0), (14, .getfield 7, 17, 11, 0, 1310), (17, .bipush 16, 19, 0, 0, 0), (19, .laload, 20, 0, 0, 0), (20, .l2i, 21, 0, 0, 0), (21, .putfield 260, 24, 11, 18, 1328), (24, .iconst 0, 25, 0, 0, 0), (25, .istore_n 1, 26, 0, 0, 0), (26, .iload_n 1, 27, 0, 0, 0), (27, .aload_n 0, 28, 0, 0, 0), (28, .getfield 257, 31, 11, 17, 1327), (31, .if_icmp .ge 51, 34, 82, 0, 0), (34, .iconst 0, 35, 0, 0, 0), (35, .istore_n 2, 36, 0, 0, 0), (36, .iload_n 2, 37, 0, 0, 0), (37, .bipush 8, 39, 0, 0, 0), (39, .if_icmp .ge 37, 42, 76, 0, 0), (42, .aload_n 0, 43, 0, 0, 0), (43, .getfield 67, 46, 11, 19, 1329), (46, .iload_n 1, 47, 0, 0, 0), (47, .iload_n 2, 48, 0, 0, 0), (48, .invokestatic 263, 51, 240, 2, 1665), (51, .iload_n 2, 52, 0, 0, 0), (52, .aload_n 0, 53, 0, 0, 0), (53, .getfield 260, 56, 11, 18, 1328), (56, .if_icmp .ge 12, 59, 68, 0, 0), (59, .aload_n 0, 60, 0, 0, 0), (60, .iload_n 1, 61, 0, 0, 0), (61, .iload_n 2, 62, 0, 0, 0), (62, .invokevirtual 266, 65, 239, 3, 1653), (65, .goto 4, 68, 69, 0, 0), (68, .lconst 0, 69, 0, 0, 0), (69, .lastore, 70, 0, 0, 0), (70, .iinc 2 1, 73, 0, 0, 0), (73, .goto (-37), 76, 36, 0, 0), (76, .iinc 1 1, 79, 0, 0, 0), (79, .goto (-53), 82, 26, 0, 0), (82, .return_, 83, 0, 0, 0)]
noncomputable abbrev md_M_laysForm : pm_M := (⟨"TurnFieldModel", "laysForm", "()V"⟩, prog_14_method_58_code, 3, none, false, [0, 1664, 120, 1663, 68], cd_M_laysForm)
noncomputable def cd_M_swaps : List pm_I := [(0, .iconst 0, 1, 0, 0, 0), (1, .istore_n 3, 2, 0, 0, 0), (2, .iload_n 3, 3, 0, 0, 0), (3, .bipush 8, 5, 0, 0, 0), (5, .if_icmp .ge 53, 8, 58, 0, 0), (8, .aload_n 0, 9, 0, 0, 0), (9, .getfield 67, 12, 11, 19, 1329), (12, .iload_n 1, 13, 0, 0, 0), (13, .iload_n 3, 14, 0, 0, 0), (14, .invokestatic 263, 17, 240, 2, 1665), (17, .laload, 18, 0, 0, 0), (18, .lstore 4, 20, 0, 0, 0), (20, .aload_n 0, 21, 0, 0, 0), (21, .getfield 67, 24, 11, 19, 1329), (24, .iload_n 1, 25, 0, 0, 0), (25, .iload_n 3, 26, 0, 0, 0), (26, .invokestatic 263, 29, 240, 2, 1665), (29, .aload_n 0, 30, 0, 0, 0), (30, .getfield 67, 33, 11, 19, 1329), (33, .iload_n 2, 34, 0, 0, 0), (34, .iload_n 3, 35, 0, 0, 0), (35, .invokestatic 263, 38, 240, 2, 1665), (38, .laload, 39, 0, 0, 0), (39, .lastore, 40, 0, 0, 0), (40, .aload_n 0, 41, 0, 0, 0), (41, .getfield 67, 44, 11, 19, 1329), (44, .iload_n 2, 45, 0, 0, 0), (45, .iload_n 3, 46, 0, 0, 0), (46, .invokestatic 263, 49, 240, 2, 1665), (49, .lload 4, 51, 0, 0, 0), (51, .lastore, 52, 0, 0, 0), (52, .iinc 3 1, 55, 0, 0, 0), (55, .goto (-53), 58, 2, 0, 0), (58, .return_, 59, 0, 0, 0)]
noncomputable abbrev md_M_swaps : pm_M := (⟨"TurnFieldModel", "swaps", "(II)V"⟩, prog_14_method_59_code, 6, none, false, [0, 1675, 120, 1674, 70], cd_M_swaps)
noncomputable def cd_M_divides : List pm_I := [(0, .aload_n 0, 1, 0, 0, 0), (1, .lload_n 2, 2, 0, 0, 0), (2, .invokevirtual 152, 5, 197, 2, 1456), (5, .lstore 4, 7, 0, 0, 0), (7, .iconst 0, 8, 0, 0, 0), (8, .istore 6, 10, 0, 0, 0), (10, .iload 6, 12, 0, 0, 0), (12, .bipush 8, 14, 0, 0, 0), (14, .if_icmp .ge 37, 17, 51, 0, 0), (17, .aload_n 0, 18, 0, 0, 0), (18, .getfield 67, 21, 11, 19, 1329), (21, .iload_n 1, 22, 0, 0, 0), (22, .iload 6, 24, 0, 0, 0), (24, .invokestatic 263, 27, 240, 2, 1665), (27, .aload_n 0, 28, 0, 0, 0), (28, .lload 4, 30, 0, 0, 0), (30, .aload_n 0, 31, 0, 0, 0), (31, .getfield 67, 34, 11, 19, 1329), (34, .iload_n 1, 35, 0, 0, 0), (35, .iload 6, 37, 0, 0, 0), (37, .invokestatic 263, 40, 240, 2, 1665), (40, .laload, 41, 0, 0, 0), (41, .invokevirtual 131, 44, 192, 3, 1448), (44, .lastore, 45, 0, 0, 0), (45, .iinc 6 1, 48, 0, 0, 0), (48, .goto (-38), 51, 10, 0, 0), (51, .return_, 52, 0, 0, 0)]
noncomputable abbrev md_M_divides : pm_M := (⟨"TurnFieldModel", "divides", "(IJ)V"⟩, prog_14_method_60_code, 7, none, false, [0, 1679, 120, 1678, 71], cd_M_divides)
noncomputable def cd_M_adds : List pm_I := [(0, .iconst 0, 1, 0, 0, 0), (1, .istore 5, 3, 0, 0, 0), (3, .iload 5, 5, 0, 0, 0), (5, .bipush 8, 7, 0, 0, 0), (7, .if_icmp .ge 39, 10, 46, 0, 0), (10, .aload_n 0, 11, 0, 0, 0), (11, .getfield 67, 14, 11, 19, 1329), (14, .iload_n 1, 15, 0, 0, 0), (15, .iload 5, 17, 0, 0, 0), (17, .invokestatic 263, 20, 240, 2, 1665), (20, .dup2, 21, 0, 0, 0), (21, .laload, 22, 0, 0, 0), (22, .aload_n 0, 23, 0, 0, 0), (23, .lload_n 3, 24, 0, 0, 0), (24, .aload_n 0, 25, 0, 0, 0), (25, .getfield 67, 28, 11, 19, 1329), (28, .iload_n 2, 29, 0, 0, 0), (29, .iload 5, 31, 0, 0, 0), (31, .invokestatic 263, 34, 240, 2, 1665), (34, .laload, 35, 0, 0, 0), (35, .invokevirtual 131, 38, 192, 3, 1448), (38, .lxor, 39, 0, 0, 0), (39, .lastore, 40, 0, 0, 0), (40, .iinc 5 1, 43, 0, 0, 0), (43, .goto (-40), 46, 3, 0, 0), (46, .return_, 47, 0, 0, 0)]
noncomputable abbrev md_M_adds : pm_M := (⟨"TurnFieldModel", "adds", "(IIJ)V"⟩, prog_14_method_61_code, 6, none, false, [0, 1683, 120, 1682, 72], cd_M_adds)
noncomputable def cd_M_clears : List pm_I := [(0, .aload_n 0, 1, 0, 0, 0), (1, .iconst 0, 2, 0, 0, 0), (2, .putfield 269, 5, 11, 21, 1331), (5, .aload_n 0, 6, 0, 0, 0), (6, .lconst 1, 7, 0, 0, 0), (7, .putfield 272, 10, 11, 22, 1332), (10, .iconst 0, 11, 0, 0, 0), (11, .istore_n 2, 12, 0, 0, 0), (12, .iload_n 2, 13, 0, 0, 0), (13, .iload_n 1, 14, 0, 0, 0), (14, .if_icmp .ge 181, 17, 195, 0, 0), (17, .aload_n 0, 18, 0, 0, 0), (18, .getfield 269, 21, 11, 21, 1331), (21, .aload_n 0, 22, 0, 0, 0), (22, .getfield 257, 25, 11, 17, 1327), (25, .if_icmp .ge 170, 28, 195, 0, 0), (28, .aload_n 0, 29, 0, 0, 0), (29, .getfield 269, 32, 11, 21, 1331), (32, .istore_n 3, 33, 0, 0, 0), (33, .iload_n 3, 34, 0, 0, 0), (34, .aload_n 0, 35, 0, 0, 0), (35, .getfield 257, 38, 11, 17, 1327), (38, .if_icmp .ge 24, 41, 62, 0, 0), (41, .aload_n 0, 42, 0, 0, 0), (42, .getfield 67, 45, 11, 19, 1329), (45, .iload_n 3, 46, 0, 0, 0), (46, .iload_n 2, 47, 0, 0, 0), (47, .invokestatic 263, 50, 240, 2, 1665), (50, .laload, 51, 0, 0, 0), (51, .lconst 0, 52, 0, 0, 0), (52, .lcmp, 53, 0, 0, 0), (53, .ifCond .ne 9, 56, 62, 0, 0), (56, .iinc 3 1, 59, 0, 0, 0), (59, .goto (-26), 62, 33, 0, 0), (62, .iload_n 3, 63, 0, 0, 0), (63, .aload_n 0, 64, 0, 0, 0), (64, .getfield 257, 67, 11, 17, 1327), (67, .if_icmp .ne 6, 70, 73, 0, 0), (70, .goto 119, 73, 189, 0, 0), (73, .aload_n 0, 74, 0, 0, 0), (74, .iload_n 3, 75, 0, 0, 0), (75, .aload_n 0, 76, 0, 0, 0), (76, .getfield 269, 79, 11, 21, 1331), (79, .invokevirtual 276, 82, 242, 3, 1672), (82, .aload_n 0, 83, 0, 0, 0), (83, .getfield 67, 86, 11, 19, 1329), (86, .aload_n 0, 87, 0, 0, 0), (87, .getfield 269, 90, 11, 21, 1331), (90, .iload_n 2, 91, 0, 0, 0), (91, .invokestatic 263, 94, 240, 2, 1665), (94, .laload, 95, 0, 0, 0), (95, .lstore 4, 97, 0, 0, 0), (97, .aload_n 0, 98, 0, 0, 0), (98, .aload_n 0, 99, 0, 0, 0), (99, .aload_n 0, 100, 0, 0, 0), (100, .getfield 272, 103, 11, 22, 1332), (103, .lload 4, 105, 0, 0, 0), (105, .invokevirtual 131, 108, 192, 3, 1448), (108, .putfield 272, 111, 11, 22, 1332), (111, .aload_n 0, 112, 0, 0, 0), (112, .aload_n 0, 113, 0, 0, 0), (113, .getfield 269, 116, 11, 21, 1331), (116, .lload 4, 118, 0, 0, 0), (118, .invokevirtual 280, 121, 243, 3, 1676), (121, .iconst 0, 122, 0, 0, 0), (122, .istore 6, 124, 0, 0, 0), (124, .iload 6, 126, 0, 0, 0), (126, .aload_n 0, 127, 0, 0, 0), (127, .getfield 257, 130, 11, 17, 1327), (130, .if_icmp .ge 39, 133, 169, 0, 0), (133, .iload 6, 135, 0, 0, 0), (135, .aload_n 0, 136, 0, 0, 0), (136, .getfield 269, 139, 11, 21, 1331), (139, .if_icmp .eq 24, 142, 163, 0, 0), (142, .aload_n 0, 143, 0, 0, 0), (143, .iload 6, 145, 0, 0, 0), (145, .aload_n 0, 146, 0, 0, 0), (146, .getfield 269, 149, 11, 21, 1331), (149, .aload_n 0, 150, 0, 0, 0), (150, .getfield 67, 153, 11, 19, 1329), (153, .iload 6, 155, 0, 0, 0), (155, .iload_n 2, 156, 0, 0, 0), (156, .invokestatic 263, 159, 240, 2, 1665), (159, .laload, 160, 0, 0, 0), (160, .invokevirtual 284, 163, 244, 4, 1680), (163, .iinc 6 1, 166, 0, 0, 0), (166, .goto (-42), 169, 124, 0, 0), (169, .aload_n 0, 170, 0, 0, 0), (170, .getfield 70, 173, 11, 20, 1330), (173, .aload_n 0, 174, 0, 0, 0), (174, .getfield 269, 177, 11, 21, 1331), (177, .iload_n 2, 178, 0, 0, 0), (178, .iastore, 179, 0, 0, 0), (179, .aload_n 0, 180, 0, 0, 0), (180, .dup, 181, 0, 0, 0), (181, .getfield 269, 184, 11, 21, 1331), (184, .iconst 1, 185, 0, 0, 0), (185, .iadd, 186, 0, 0, 0), (186, .putfield 269, 189, 11, 21, 1331), (189, .iinc 2 1, 192, 0, 0, 0), (192, .goto (-180), 195, 12, 0, 0), (195, .return_, 196, 0, 0, 0)]
noncomputable abbrev md_M_clears : pm_M := (⟨"TurnFieldModel", "clears", "(I)V"⟩, prog_14_method_62_code, 7, none, false, [0, 1671, 120, 1670, 69], cd_M_clears)
noncomputable def cd_M_laysStepForm : List pm_I := [(0, .aload_n 0, 1, 0, 0, 0), (1, .invokevirtual 288, 4, 241, 1, 1661), (4, .aload_n 0, 5, 0, 0, 0), (5, .aload_n 0, 6, 0, 0, 0), (6, .getfield 260, 9, 11, 18, 1328), (9, .invokevirtual 291, 12, 245, 2, 1668), (12, .return_, 13, 0, 0, 0)]
noncomputable abbrev md_M_laysStepForm : pm_M := (⟨"TurnFieldModel", "laysStepForm", "()V"⟩, prog_14_method_63_code, 1, none, false, [0, 1660, 120, 1659, 67], cd_M_laysStepForm)
noncomputable def cd_M_isEntry : List pm_I := [(0, .iload_n 1, 1, 0, 0, 0), (1, .i2l, 2, 0, 0, 0), (2, .lconst 0, 3, 0, 0, 0), (3, .aload_n 0, 4, 0, 0, 0), (4, .getfield 7, 7, 11, 0, 1310), (7, .bipush 15, 9, 0, 0, 0), (9, .laload, 10, 0, 0, 0), (10, .lconst 1, 11, 0, 0, 0), (11, .lsub, 12, 0, 0, 0), (12, .invokestatic 170, 15, 185, 3, 1515), (15, .ifCond .eq 25, 18, 40, 0, 0), (18, .iload_n 2, 19, 0, 0, 0), (19, .i2l, 20, 0, 0, 0), (20, .lconst 0, 21, 0, 0, 0), (21, .aload_n 0, 22, 0, 0, 0), (22, .getfield 7, 25, 11, 0, 1310), (25, .bipush 16, 27, 0, 0, 0), (27, .laload, 28, 0, 0, 0), (28, .lconst 1, 29, 0, 0, 0), (29, .lsub, 30, 0, 0, 0), (30, .invokestatic 170, 33, 185, 3, 1515), (33, .ifCond .eq 7, 36, 40, 0, 0), (36, .iconst 1, 37, 0, 0, 0), (37, .goto 4, 40, 41, 0, 0), (40, .iconst 0, 41, 0, 0, 0), (41, .ireturn, 42, 0, 0, 0)]
noncomputable abbrev md_M_isEntry : pm_M := (⟨"TurnFieldModel", "isEntry", "(II)Z"⟩, prog_14_method_64_code, 3, (some .boolean), false, [0, 1652, 120, 1651, 65], cd_M_isEntry)
noncomputable def cd_M_entry : List pm_I := [(0, .aload_n 0, 1, 0, 0, 0), (1, .iload_n 1, 2, 0, 0, 0), (2, .iload_n 2, 3, 0, 0, 0), (3, .invokevirtual 294, 6, 247, 3, 1649), (6, .ifCond .eq 13, 9, 19, 0, 0), (9, .iload_n 3, 10, 0, 0, 0), (10, .i2l, 11, 0, 0, 0), (11, .lconst 0, 12, 0, 0, 0), (12, .lconst 1, 13, 0, 0, 0), (13, .invokestatic 170, 16, 185, 3, 1515), (16, .ifCond .ne 5, 19, 21, 0, 0), (19, .lconst 0, 20, 0, 0, 0), (20, .lreturn, 21, 0, 0, 0), (21, .iload_n 3, 22, 0, 0, 0), (22, .ifCond .ne 10, 25, 32, 0, 0), (25, .aload_n 0, 26, 0, 0, 0), (26, .iload_n 1, 27, 0, 0, 0), (27, .iload_n 2, 28, 0, 0, 0), (28, .invokevirtual 266, 31, 239, 3, 1653), (31, .lreturn, 32, 0, 0, 0), (32, .aload_n 0, 33, 0, 0, 0), (33, .invokevirtual 298, 36, 246, 1, 1657), (36, .aload_n 0, 37, 0, 0, 0), (37, .getfield 67, 40, 11, 19, 1329), (40, .iload_n 1, 41, 0, 0, 0), (41, .iload_n 2, 42, 0, 0, 0), (42, .invokestatic 263, 45, 240, 2, 1665), (45, .laload, 46, 0, 0, 0), (46, .lreturn, 47, 0, 0, 0)]
noncomputable abbrev md_M_entry : pm_M := (⟨"TurnFieldModel", "entry", "(III)J"⟩, prog_14_method_65_code, 4, (some .long), false, [0, 1648, 120, 1646, 1647], cd_M_entry)
noncomputable def cd_M_determinant : List pm_I := [(0, .aload_n 0, 1, 0, 0, 0), (1, .getfield 7, 4, 11, 0, 1310), (4, .bipush 15, 6, 0, 0, 0), (6, .laload, 7, 0, 0, 0), (7, .aload_n 0, 8, 0, 0, 0), (8, .getfield 7, 11, 11, 0, 1310), (11, .bipush 16, 13, 0, 0, 0), (13, .laload, 14, 0, 0, 0), (14, .lcmp, 15, 0, 0, 0), (15, .ifCond .eq 5, 18, 20, 0, 0), (18, .lconst 0, 19, 0, 0, 0), (19, .lreturn, 20, 0, 0, 0), (20, .aload_n 0, 21, 0, 0, 0), (21, .invokevirtual 298, 24, 246, 1, 1657), (24, .aload_n 0, 25, 0, 0, 0), (25, .getfield 269, 28, 11, 21, 1331), (28, .aload_n 0, 29, 0, 0, 0), (29, .getfield 257, 32, 11, 17, 1327), (32, .if_icmp .ne 10, 35, 42, 0, 0), (35, .aload_n 0, 36, 0, 0, 0), (36, .getfield 272, 39, 11, 22, 1332), (39, .goto 4, 42, 43, 0, 0), (42, .lconst 0, 43, 0, 0, 0), (43, .lreturn, 44, 0, 0, 0)]
noncomputable abbrev md_M_determinant : pm_M := (⟨"TurnFieldModel", "determinant", "()J"⟩, prog_14_method_66_code, 1, (some .long), false, [0, 1687, 120, 1685, 1686], cd_M_determinant)
noncomputable def cd_M_isSolved : List pm_I := [(0, .aload_n 0, 1, 0, 0, 0), (1, .invokevirtual 298, 4, 246, 1, 1657), (4, .aload_n 0, 5, 0, 0, 0), (5, .getfield 269, 8, 11, 21, 1331), (8, .ifCond .eq 23, 11, 31, 0, 0), (11, .aload_n 0, 12, 0, 0, 0), (12, .getfield 70, 15, 11, 20, 1330), (15, .aload_n 0, 16, 0, 0, 0), (16, .getfield 269, 19, 11, 21, 1331), (19, .iconst 1, 20, 0, 0, 0), (20, .isub, 21, 0, 0, 0), (21, .iaload, 22, 0, 0, 0), (22, .aload_n 0, 23, 0, 0, 0), (23, .getfield 260, 26, 11, 18, 1328), (26, .iconst 1, 27, 0, 0, 0), (27, .isub, 28, 0, 0, 0), (28, .if_icmp .eq 7, 31, 35, 0, 0), (31, .iconst 1, 32, 0, 0, 0), (32, .goto 4, 35, 36, 0, 0), (35, .iconst 0, 36, 0, 0, 0), (36, .ireturn, 37, 0, 0, 0)]
noncomputable abbrev md_M_isSolved : pm_M := (⟨"TurnFieldModel", "isSolved", "()Z"⟩, prog_14_method_67_code, 1, (some .boolean), false, [0, 1695, 120, 1694, 73], cd_M_isSolved)
noncomputable def cd_M_shape : List pm_I := [(0, .iload_n 1, 1, 0, 0, 0), (1, .tableswitch 82 0 3 #[31, 40, 49, 58], 32, 0, 0, 0), (32, .aload_n 0, 33, 0, 0, 0), (33, .getfield 7, 36, 11, 0, 1310), (36, .bipush 15, 38, 0, 0, 0), (38, .laload, 39, 0, 0, 0), (39, .l2i, 40, 0, 0, 0), (40, .ireturn, 41, 0, 0, 0), (41, .aload_n 0, 42, 0, 0, 0), (42, .getfield 7, 45, 11, 0, 1310), (45, .bipush 16, 47, 0, 0, 0), (47, .laload, 48, 0, 0, 0), (48, .l2i, 49, 0, 0, 0), (49, .ireturn, 50, 0, 0, 0), (50, .aload_n 0, 51, 0, 0, 0), (51, .invokevirtual 298, 54, 246, 1, 1657), (54, .aload_n 0, 55, 0, 0, 0), (55, .getfield 269, 58, 11, 21, 1331), (58, .ireturn, 59, 0, 0, 0), (59, .aload_n 0, 60, 0, 0, 0), (60, .invokevirtual 301, 63, 250, 1, 1692), (63, .ifCond .eq 17, 66, 80, 0, 0), (66, .aload_n 0, 67, 0, 0, 0), (67, .getfield 260, 70, 11, 18, 1328), (70, .iconst 1, 71, 0, 0, 0), (71, .isub, 72, 0, 0, 0), (72, .aload_n 0, 73, 0, 0, 0), (73, .getfield 269, 76, 11, 21, 1331), (76, .isub, 77, 0, 0, 0), (77, .goto 5, 80, 82, 0, 0), (80, .bipush (-2), 82, 0, 0, 0), (82, .ireturn, 83, 0, 0, 0), (83, .iconst (-1), 84, 0, 0, 0), (84, .ireturn, 85, 0, 0, 0)]
noncomputable abbrev md_M_shape : pm_M := (⟨"TurnFieldModel", "shape", "(I)I"⟩, prog_14_method_68_code, 2, (some .int), false, [0, 1691, 120, 1689, 1690], cd_M_shape)
noncomputable def cd_M_solution : List pm_I := [(0, .aload_n 0, 1, 0, 0, 0), (1, .invokevirtual 301, 4, 250, 1, 1692), (4, .ifCond .eq 19, 7, 23, 0, 0), (7, .iload_n 1, 8, 0, 0, 0), (8, .i2l, 9, 0, 0, 0), (9, .lconst 0, 10, 0, 0, 0), (10, .aload_n 0, 11, 0, 0, 0), (11, .getfield 260, 14, 11, 18, 1328), (14, .iconst 2, 15, 0, 0, 0), (15, .isub, 16, 0, 0, 0), (16, .i2l, 17, 0, 0, 0), (17, .invokestatic 170, 20, 185, 3, 1515), (20, .ifCond .ne 5, 23, 25, 0, 0), (23, .lconst 0, 24, 0, 0, 0), (24, .lreturn, 25, 0, 0, 0), (25, .iconst 0, 26, 0, 0, 0), (26, .istore_n 2, 27, 0, 0, 0), (27, .iload_n 2, 28, 0, 0, 0), (28, .aload_n 0, 29, 0, 0, 0), (29, .getfield 269, 32, 11, 21, 1331), (32, .if_icmp .ge 35, 35, 67, 0, 0), (35, .aload_n 0, 36, 0, 0, 0), (36, .getfield 70, 39, 11, 20, 1330), (39, .iload_n 2, 40, 0, 0, 0), (40, .iaload, 41, 0, 0, 0), (41, .iload_n 1, 42, 0, 0, 0), (42, .if_icmp .ne 19, 45, 61, 0, 0), (45, .aload_n 0, 46, 0, 0, 0), (46, .getfield 67, 49, 11, 19, 1329), (49, .iload_n 2, 50, 0, 0, 0), (50, .aload_n 0, 51, 0, 0, 0), (51, .getfield 260, 54, 11, 18, 1328), (54, .iconst 1, 55, 0, 0, 0), (55, .isub, 56, 0, 0, 0), (56, .invokestatic 263, 59, 240, 2, 1665), (59, .laload, 60, 0, 0, 0), (60, .lreturn, 61, 0, 0, 0), (61, .iinc 2 1, 64, 0, 0, 0), (64, .goto (-37), 67, 27, 0, 0), (67, .lconst 0, 68, 0, 0, 0), (68, .lreturn, 69, 0, 0, 0)]
noncomputable abbrev md_M_solution : pm_M := (⟨"TurnFieldModel", "solution", "(I)J"⟩, prog_14_method_69_code, 3, (some .long), false, [0, 1699, 120, 1697, 1698], cd_M_solution)
noncomputable def cd_M_keepsAct : List pm_I := [(0, .aload_n 0, 1, 0, 0, 0), (1, .getfield 304, 4, 11, 2, 1312), (4, .bipush 10, 6, 0, 0, 0), (6, .if_icmp .ne 44, 9, 50, 0, 0), (9, .bipush 33, 11, 0, 0, 0), (11, .istore_n 1, 12, 0, 0, 0), (12, .iload_n 1, 13, 0, 0, 0), (13, .sipush 330, 16, 0, 0, 0), (16, .if_icmp .ge 24, 19, 40, 0, 0), (19, .aload_n 0, 20, 0, 0, 0), (20, .getfield 13, 23, 11, 1, 1311), (23, .iload_n 1, 24, 0, 0, 0), (24, .bipush 33, 26, 0, 0, 0), (26, .isub, 27, 0, 0, 0), (27, .aload_n 0, 28, 0, 0, 0), (28, .getfield 13, 31, 11, 1, 1311), (31, .iload_n 1, 32, 0, 0, 0), (32, .laload, 33, 0, 0, 0), (33, .lastore, 34, 0, 0, 0), (34, .iinc 1 1, 37, 0, 0, 0), (37, .goto (-25), 40, 12, 0, 0), (40, .aload_n 0, 41, 0, 0, 0), (41, .dup, 42, 0, 0, 0), (42, .getfield 304, 45, 11, 2, 1312), (45, .iconst 1, 46, 0, 0, 0), (46, .isub, 47, 0, 0, 0), (47, .putfield 304, 50, 11, 2, 1312), (50, .iconst 0, 51, 0, 0, 0), (51, .istore_n 1, 52, 0, 0, 0), (52, .iload_n 1, 53, 0, 0, 0), (53, .bipush 33, 55, 0, 0, 0), (55, .if_icmp .ge 29, 58, 84, 0, 0), (58, .aload_n 0, 59, 0, 0, 0), (59, .getfield 13, 62, 11, 1, 1311), (62, .bipush 33, 64, 0, 0, 0), (64, .aload_n 0, 65, 0, 0, 0), (65, .getfield 304, 68, 11, 2, 1312), (68, .imul, 69, 0, 0, 0), (69, .iload_n 1, 70, 0, 0, 0), (70, .iadd, 71, 0, 0, 0), (71, .aload_n 0, 72, 0, 0, 0), (72, .getfield 7, 75, 11, 0, 1310), (75, .iload_n 1, 76, 0, 0, 0), (76, .laload, 77, 0, 0, 0), (77, .lastore, 78, 0, 0, 0), (78, .iinc 1 1, 81, 0, 0, 0), (81, .goto (-29), 84, 52, 0, 0), (84, .aload_n 0, 85, 0, 0, 0), (85, .dup, 86, 0, 0, 0), (86, .getfield 304, 89, 11, 2, 1312), (89, .iconst 1, 90, 0, 0, 0), (90, .iadd, 91, 0, 0, 0), (91, .putfield 304, 94, 11, 2, 1312), (94, .return_, 95, 0, 0, 0)]
noncomputable abbrev md_M_keepsAct : pm_M := (⟨"TurnFieldModel", "keepsAct", "()V"⟩, prog_14_method_70_code, 2, none, false, [0, 1722, 120, 1721, 75], cd_M_keepsAct)
noncomputable def cd_M_undo : List pm_I := [(0, .aload_n 0, 1, 0, 0, 0), (1, .getfield 304, 4, 11, 2, 1312), (4, .ifCond .ne 5, 7, 9, 0, 0), (7, .iconst (-1), 8, 0, 0, 0), (8, .ireturn, 9, 0, 0, 0), (9, .aload_n 0, 10, 0, 0, 0), (10, .dup, 11, 0, 0, 0), (11, .getfield 304, 14, 11, 2, 1312), (14, .iconst 1, 15, 0, 0, 0), (15, .isub, 16, 0, 0, 0), (16, .putfield 304, 19, 11, 2, 1312), (19, .iconst 0, 20, 0, 0, 0), (20, .istore_n 1, 21, 0, 0, 0), (21, .iload_n 1, 22, 0, 0, 0), (22, .bipush 33, 24, 0, 0, 0), (24, .if_icmp .ge 29, 27, 53, 0, 0), (27, .aload_n 0, 28, 0, 0, 0), (28, .getfield 7, 31, 11, 0, 1310), (31, .iload_n 1, 32, 0, 0, 0), (32, .aload_n 0, 33, 0, 0, 0), (33, .getfield 13, 36, 11, 1, 1311), (36, .bipush 33, 38, 0, 0, 0), (38, .aload_n 0, 39, 0, 0, 0), (39, .getfield 304, 42, 11, 2, 1312), (42, .imul, 43, 0, 0, 0), (43, .iload_n 1, 44, 0, 0, 0), (44, .iadd, 45, 0, 0, 0), (45, .laload, 46, 0, 0, 0), (46, .lastore, 47, 0, 0, 0), (47, .iinc 1 1, 50, 0, 0, 0), (50, .goto (-29), 53, 21, 0, 0), (53, .aload_n 0, 54, 0, 0, 0), (54, .getfield 304, 57, 11, 2, 1312), (57, .ireturn, 58, 0, 0, 0)]
noncomputable abbrev md_M_undo : pm_M := (⟨"TurnFieldModel", "undo", "()I"⟩, prog_14_method_71_code, 2, (some .int), false, [0, 1703, 120, 1701, 1702], cd_M_undo)
noncomputable def cd_M_isShelf : List pm_I := [(0, .iload_n 0, 1, 0, 0, 0), (1, .i2l, 2, 0, 0, 0), (2, .lconst 0, 3, 0, 0, 0), (3, .lconst 1, 4, 0, 0, 0), (4, .invokestatic 170, 7, 185, 3, 1515), (7, .ireturn, 8, 0, 0, 0)]
noncomputable abbrev md_M_isShelf : pm_M := (⟨"TurnFieldModel", "isShelf", "(I)Z"⟩, prog_14_method_72_code, 1, (some .boolean), false, [1, 1710, 120, 1709, 0], cd_M_isShelf)
noncomputable def cd_M_size : List pm_I := [(0, .iconst 0, 1, 0, 0, 0), (1, .istore_n 2, 2, 0, 0, 0), (2, .lload_n 0, 3, 0, 0, 0), (3, .lstore_n 3, 4, 0, 0, 0), (4, .lload_n 3, 5, 0, 0, 0), (5, .lconst 0, 6, 0, 0, 0), (6, .lcmp, 7, 0, 0, 0), (7, .ifCond .eq 15, 10, 22, 0, 0), (10, .iinc 2 1, 13, 0, 0, 0), (13, .lload_n 3, 14, 0, 0, 0), (14, .lload_n 3, 15, 0, 0, 0), (15, .lconst 1, 16, 0, 0, 0), (16, .lsub, 17, 0, 0, 0), (17, .land, 18, 0, 0, 0), (18, .lstore_n 3, 19, 0, 0, 0), (19, .goto (-15), 22, 4, 0, 0), (22, .iload_n 2, 23, 0, 0, 0), (23, .ireturn, 24, 0, 0, 0)]
noncomputable abbrev md_M_size : pm_M := (⟨"TurnFieldModel", "size", "(J)I"⟩, prog_14_method_73_code, 5, (some .int), false, [1, 1612, 120, 1611, 0], cd_M_size)
noncomputable def cd_M_heads : List pm_I := [(0, .aload_n 0, 1, 0, 0, 0), (1, .getfield 7, 4, 11, 0, 1310), (4, .bipush 6, 6, 0, 0, 0), (6, .laload, 7, 0, 0, 0), (7, .invokestatic 231, 10, 256, 1, 1610), (10, .ireturn, 11, 0, 0, 0)]
noncomputable abbrev md_M_heads : pm_M := (⟨"TurnFieldModel", "heads", "()I"⟩, prog_14_method_74_code, 1, (some .int), false, [0, 1714, 120, 1713, 74], cd_M_heads)
noncomputable def cd_M_keep : List pm_I := [(0, .iload_n 1, 1, 0, 0, 0), (1, .invokestatic 307, 4, 255, 1, 1708), (4, .ifCond .ne 5, 7, 9, 0, 0), (7, .iconst (-1), 8, 0, 0, 0), (8, .ireturn, 9, 0, 0, 0), (9, .iconst 0, 10, 0, 0, 0), (10, .istore_n 2, 11, 0, 0, 0), (11, .iload_n 2, 12, 0, 0, 0), (12, .bipush 33, 14, 0, 0, 0), (14, .if_icmp .ge 26, 17, 40, 0, 0), (17, .aload_n 0, 18, 0, 0, 0), (18, .getfield 16, 21, 11, 3, 1313), (21, .bipush 33, 23, 0, 0, 0), (23, .iload_n 1, 24, 0, 0, 0), (24, .imul, 25, 0, 0, 0), (25, .iload_n 2, 26, 0, 0, 0), (26, .iadd, 27, 0, 0, 0), (27, .aload_n 0, 28, 0, 0, 0), (28, .getfield 7, 31, 11, 0, 1310), (31, .iload_n 2, 32, 0, 0, 0), (32, .laload, 33, 0, 0, 0), (33, .lastore, 34, 0, 0, 0), (34, .iinc 2 1, 37, 0, 0, 0), (37, .goto (-26), 40, 11, 0, 0), (40, .aload_n 0, 41, 0, 0, 0), (41, .getfield 19, 44, 11, 4, 1314), (44, .iload_n 1, 45, 0, 0, 0), (45, .iconst 1, 46, 0, 0, 0), (46, .bastore, 47, 0, 0, 0), (47, .aload_n 0, 48, 0, 0, 0), (48, .invokevirtual 311, 51, 257, 1, 1711), (51, .ireturn, 52, 0, 0, 0)]
noncomputable abbrev md_M_keep : pm_M := (⟨"TurnFieldModel", "keep", "(I)I"⟩, prog_14_method_75_code, 3, (some .int), false, [0, 1707, 120, 1705, 1706], cd_M_keep)
noncomputable def cd_M_back : List pm_I := [(0, .iload_n 1, 1, 0, 0, 0), (1, .invokestatic 307, 4, 255, 1, 1708), (4, .ifCond .ne 5, 7, 9, 0, 0), (7, .iconst (-1), 8, 0, 0, 0), (8, .ireturn, 9, 0, 0, 0), (9, .aload_n 0, 10, 0, 0, 0), (10, .getfield 19, 13, 11, 4, 1314), (13, .iload_n 1, 14, 0, 0, 0), (14, .baload, 15, 0, 0, 0), (15, .ifCond .ne 6, 18, 21, 0, 0), (18, .bipush (-2), 20, 0, 0, 0), (20, .ireturn, 21, 0, 0, 0), (21, .aload_n 0, 22, 0, 0, 0), (22, .invokevirtual 315, 25, 253, 1, 1719), (25, .iconst 0, 26, 0, 0, 0), (26, .istore_n 2, 27, 0, 0, 0), (27, .iload_n 2, 28, 0, 0, 0), (28, .bipush 33, 30, 0, 0, 0), (30, .if_icmp .ge 26, 33, 56, 0, 0), (33, .aload_n 0, 34, 0, 0, 0), (34, .getfield 7, 37, 11, 0, 1310), (37, .iload_n 2, 38, 0, 0, 0), (38, .aload_n 0, 39, 0, 0, 0), (39, .getfield 16, 42, 11, 3, 1313), (42, .bipush 33, 44, 0, 0, 0), (44, .iload_n 1, 45, 0, 0, 0), (45, .imul, 46, 0, 0, 0), (46, .iload_n 2, 47, 0, 0, 0), (47, .iadd, 48, 0, 0, 0), (48, .laload, 49, 0, 0, 0), (49, .lastore, 50, 0, 0, 0), (50, .iinc 2 1, 53, 0, 0, 0), (53, .goto (-26), 56, 27, 0, 0), (56, .aload_n 0, 57, 0, 0, 0), (57, .invokevirtual 311, 60, 257, 1, 1711), (60, .ireturn, 61, 0, 0, 0)]
noncomputable abbrev md_M_back : pm_M := (⟨"TurnFieldModel", "back", "(I)I"⟩, prog_14_method_76_code, 3, (some .int), false, [0, 1718, 120, 1716, 1717], cd_M_back)
noncomputable def cd_M_put : List pm_I := [(0, .iload_n 1, 1, 0, 0, 0), (1, .i2l, 2, 0, 0, 0), (2, .lconst 0, 3, 0, 0, 0), (3, .ldc2_w 194, 6, 21, 0, 1557), (6, .invokestatic 170, 9, 185, 3, 1515), (9, .ifCond .ne 5, 12, 14, 0, 0), (12, .iconst (-1), 13, 0, 0, 0), (13, .ireturn, 14, 0, 0, 0), (14, .aload_n 0, 15, 0, 0, 0), (15, .iload_n 1, 16, 0, 0, 0), (16, .invokevirtual 196, 19, 217, 2, 1558), (19, .lload_n 2, 20, 0, 0, 0), (20, .lcmp, 21, 0, 0, 0), (21, .ifCond .ne 6, 24, 27, 0, 0), (24, .bipush (-2), 26, 0, 0, 0), (26, .ireturn, 27, 0, 0, 0), (27, .aload_n 0, 28, 0, 0, 0), (28, .invokevirtual 315, 31, 253, 1, 1719), (31, .aload_n 0, 32, 0, 0, 0), (32, .getfield 7, 35, 11, 0, 1310), (35, .bipush 7, 37, 0, 0, 0), (37, .iload_n 1, 38, 0, 0, 0), (38, .iadd, 39, 0, 0, 0), (39, .lload_n 2, 40, 0, 0, 0), (40, .lastore, 41, 0, 0, 0), (41, .iconst 1, 42, 0, 0, 0), (42, .ireturn, 43, 0, 0, 0)]
noncomputable abbrev md_M_put : pm_M := (⟨"TurnFieldModel", "put", "(IJ)I"⟩, prog_14_method_77_code, 4, (some .int), false, [0, 1726, 120, 1724, 1725], cd_M_put)
noncomputable def cd_M_reckoned : List pm_I := [(0, .iload 5, 2, 0, 0, 0), (2, .tableswitch 58 0 3 #[30, 34, 41, 52], 32, 0, 0, 0), (32, .lload_n 1, 33, 0, 0, 0), (33, .lload_n 3, 34, 0, 0, 0), (34, .lxor, 35, 0, 0, 0), (35, .lreturn, 36, 0, 0, 0), (36, .aload_n 0, 37, 0, 0, 0), (37, .lload_n 1, 38, 0, 0, 0), (38, .lload_n 3, 39, 0, 0, 0), (39, .invokevirtual 131, 42, 192, 3, 1448), (42, .lreturn, 43, 0, 0, 0), (43, .aload_n 0, 44, 0, 0, 0), (44, .lload_n 1, 45, 0, 0, 0), (45, .aload_n 0, 46, 0, 0, 0), (46, .lload_n 3, 47, 0, 0, 0), (47, .invokevirtual 152, 50, 197, 2, 1456), (50, .invokevirtual 131, 53, 192, 3, 1448), (53, .lreturn, 54, 0, 0, 0), (54, .aload_n 0, 55, 0, 0, 0), (55, .lload_n 1, 56, 0, 0, 0), (56, .invokevirtual 155, 59, 198, 2, 1479), (59, .lreturn, 60, 0, 0, 0), (60, .aload_n 0, 61, 0, 0, 0), (61, .lload_n 1, 62, 0, 0, 0), (62, .lload_n 3, 63, 0, 0, 0), (63, .invokevirtual 149, 66, 194, 3, 1467), (66, .lreturn, 67, 0, 0, 0)]
noncomputable abbrev md_M_reckoned : pm_M := (⟨"TurnFieldModel", "reckoned", "(JJI)J"⟩, prog_14_method_78_code, 6, (some .long), false, [0, 1734, 120, 1733, 76], cd_M_reckoned)
noncomputable def cd_M_reckon : List pm_I := [(0, .iload_n 1, 1, 0, 0, 0), (1, .i2l, 2, 0, 0, 0), (2, .lconst 0, 3, 0, 0, 0), (3, .ldc2_w 194, 6, 21, 0, 1557), (6, .invokestatic 170, 9, 185, 3, 1515), (9, .ifCond .eq 28, 12, 37, 0, 0), (12, .iload_n 2, 13, 0, 0, 0), (13, .i2l, 14, 0, 0, 0), (14, .lconst 0, 15, 0, 0, 0), (15, .ldc2_w 194, 18, 21, 0, 1557), (18, .invokestatic 170, 21, 185, 3, 1515), (21, .ifCond .eq 16, 24, 37, 0, 0), (24, .iload 4, 26, 0, 0, 0), (26, .i2l, 27, 0, 0, 0), (27, .lconst 0, 28, 0, 0, 0), (28, .ldc2_w 205, 31, 22, 0, 1578), (31, .invokestatic 170, 34, 185, 3, 1515), (34, .ifCond .ne 5, 37, 39, 0, 0), (37, .iconst (-1), 38, 0, 0, 0), (38, .ireturn, 39, 0, 0, 0), (39, .iload 4, 41, 0, 0, 0), (41, .iconst 3, 42, 0, 0, 0), (42, .if_icmp .eq 17, 45, 59, 0, 0), (45, .iload_n 3, 46, 0, 0, 0), (46, .i2l, 47, 0, 0, 0), (47, .lconst 0, 48, 0, 0, 0), (48, .ldc2_w 194, 51, 21, 0, 1557), (51, .invokestatic 170, 54, 185, 3, 1515), (54, .ifCond .ne 5, 57, 59, 0, 0), (57, .iconst (-1), 58, 0, 0, 0), (58, .ireturn, 59, 0, 0, 0), (59, .iload 4, 61, 0, 0, 0), (61, .iconst 2, 62, 0, 0, 0), (62, .if_icmp .ne 16, 65, 78, 0, 0), (65, .aload_n 0, 66, 0, 0, 0), (66, .iload_n 3, 67, 0, 0, 0), (67, .invokevirtual 196, 70, 217, 2, 1558), (70, .lconst 0, 71, 0, 0, 0), (71, .lcmp, 72, 0, 0, 0), (72, .ifCond .ne 6, 75, 78, 0, 0), (75, .bipush (-2), 77, 0, 0, 0), (77, .ireturn, 78, 0, 0, 0), (78, .aload_n 0, 79, 0, 0, 0), (79, .aload_n 0, 80, 0, 0, 0), (80, .iload_n 2, 81, 0, 0, 0), (81, .invokevirtual 196, 84, 217, 2, 1558), (84, .iload 4, 86, 0, 0, 0), (86, .iconst 3, 87, 0, 0, 0), (87, .if_icmp .ne 7, 90, 94, 0, 0), (90, .lconst 0, 91, 0, 0, 0), (91, .goto 8, 94, 99, 0, 0), (94, .aload_n 0, 95, 0, 0, 0), (95, .iload_n 3, 96, 0, 0, 0), (96, .invokevirtual 196, 99, 217, 2, 1558), (99, .iload 4, 101, 0, 0, 0), (101, .invokevirtual 318, 104, 261, 4, 1731), (104, .lstore 5, 106, 0, 0, 0), (106, .aload_n 0, 107, 0, 0, 0), (107, .invokevirtual 315, 110, 253, 1, 1719), (110, .aload_n 0, 111, 0, 0, 0), (111, .getfield 7, 114, 11, 0, 1310), (114, .bipush 7, 116, 0, 0, 0), (116, .iload_n 1, 117, 0, 0, 0), (117, .iadd, 118, 0, 0, 0), (118, .lload 5, 120, 0, 0, 0), (120, .lastore, 121, 0, 0, 0), (121, .iconst 1, 122, 0, 0, 0), (122, .ireturn, 123, 0, 0, 0)]
noncomputable abbrev md_M_reckon : pm_M := (⟨"TurnFieldModel", "reckon", "(IIII)I"⟩, prog_14_method_79_code, 7, (some .int), false, [0, 1730, 120, 1728, 1729], cd_M_reckon)
noncomputable def cd_M_grid : List pm_I := [(0, .iload_n 1, 1, 0, 0, 0), (1, .i2l, 2, 0, 0, 0), (2, .lconst 1, 3, 0, 0, 0), (3, .ldc2_w 205, 6, 22, 0, 1578), (6, .invokestatic 170, 9, 185, 3, 1515), (9, .ifCond .eq 15, 12, 24, 0, 0), (12, .iload_n 2, 13, 0, 0, 0), (13, .i2l, 14, 0, 0, 0), (14, .lconst 1, 15, 0, 0, 0), (15, .ldc2_w 205, 18, 22, 0, 1578), (18, .invokestatic 170, 21, 185, 3, 1515), (21, .ifCond .ne 5, 24, 26, 0, 0), (24, .iconst (-1), 25, 0, 0, 0), (25, .ireturn, 26, 0, 0, 0), (26, .aload_n 0, 27, 0, 0, 0), (27, .invokevirtual 315, 30, 253, 1, 1719), (30, .aload_n 0, 31, 0, 0, 0), (31, .getfield 7, 34, 11, 0, 1310), (34, .bipush 15, 36, 0, 0, 0), (36, .iload_n 1, 37, 0, 0, 0), (37, .i2l, 38, 0, 0, 0), (38, .lastore, 39, 0, 0, 0), (39, .aload_n 0, 40, 0, 0, 0), (40, .getfield 7, 43, 11, 0, 1310), (43, .bipush 16, 45, 0, 0, 0), (45, .iload_n 2, 46, 0, 0, 0), (46, .i2l, 47, 0, 0, 0), (47, .lastore, 48, 0, 0, 0), (48, .iconst 0, 49, 0, 0, 0), (49, .istore_n 3, 50, 0, 0, 0), (50, .iload_n 3, 51, 0, 0, 0), (51, .bipush 16, 53, 0, 0, 0), (53, .if_icmp .ge 19, 56, 72, 0, 0), (56, .aload_n 0, 57, 0, 0, 0), (57, .getfield 7, 60, 11, 0, 1310), (60, .bipush 17, 62, 0, 0, 0), (62, .iload_n 3, 63, 0, 0, 0), (63, .iadd, 64, 0, 0, 0), (64, .lconst 0, 65, 0, 0, 0), (65, .lastore, 66, 0, 0, 0), (66, .iinc 3 1, 69, 0, 0, 0), (69, .goto (-19), 72, 50, 0, 0), (72, .iload_n 1, 73, 0, 0, 0), (73, .iload_n 2, 74, 0, 0, 0), (74, .imul, 75, 0, 0, 0), (75, .ireturn, 76, 0, 0, 0)]
noncomputable abbrev md_M_grid : pm_M := (⟨"TurnFieldModel", "grid", "(II)I"⟩, prog_14_method_80_code, 4, (some .int), false, [0, 1738, 120, 1736, 1737], cd_M_grid)
noncomputable def cd_M_enter : List pm_I := [(0, .aload_n 0, 1, 0, 0, 0), (1, .iload_n 1, 2, 0, 0, 0), (2, .iload_n 2, 3, 0, 0, 0), (3, .invokevirtual 294, 6, 247, 3, 1649), (6, .ifCond .ne 5, 9, 11, 0, 0), (9, .iconst (-1), 10, 0, 0, 0), (10, .ireturn, 11, 0, 0, 0), (11, .aload_n 0, 12, 0, 0, 0), (12, .iload_n 1, 13, 0, 0, 0), (13, .iload_n 2, 14, 0, 0, 0), (14, .invokevirtual 266, 17, 239, 3, 1653), (17, .lload_n 3, 18, 0, 0, 0), (18, .lcmp, 19, 0, 0, 0), (19, .ifCond .ne 6, 22, 25, 0, 0), (22, .bipush (-2), 24, 0, 0, 0), (24, .ireturn, 25, 0, 0, 0), (25, .aload_n 0, 26, 0, 0, 0), (26, .invokevirtual 315, 29, 253, 1, 1719), (29, .aload_n 0, 30, 0, 0, 0), (30, .getfield 7, 33, 11, 0, 1310), (33, .bipush 17, 35, 0, 0, 0), (35, .iconst 4, 36, 0, 0, 0), (36, .iload_n 1, 37, 0, 0, 0), (37, .imul, 38, 0, 0, 0), (38, .iadd, 39, 0, 0, 0), (39, .iload_n 2, 40, 0, 0, 0), (40, .iadd, 41, 0, 0, 0), (41, .lload_n 3, 42, 0, 0, 0), (42, .lastore, 43, 0, 0, 0), (43, .iconst 1, 44, 0, 0, 0), (44, .ireturn, 45, 0, 0, 0)]
noncomputable abbrev md_M_enter : pm_M := (⟨"TurnFieldModel", "enter", "(IIJ)I"⟩, prog_14_method_81_code, 5, (some .int), false, [0, 1742, 120, 1740, 1741], cd_M_enter)
noncomputable def cd_M_keptEntry : List pm_I := [(0, .aload_n 0, 1, 0, 0, 0), (1, .getfield 16, 4, 11, 3, 1313), (4, .bipush 33, 6, 0, 0, 0), (6, .iload_n 1, 7, 0, 0, 0), (7, .imul, 8, 0, 0, 0), (8, .bipush 17, 10, 0, 0, 0), (10, .iadd, 11, 0, 0, 0), (11, .iconst 4, 12, 0, 0, 0), (12, .iload_n 2, 13, 0, 0, 0), (13, .imul, 14, 0, 0, 0), (14, .iadd, 15, 0, 0, 0), (15, .iload_n 3, 16, 0, 0, 0), (16, .iadd, 17, 0, 0, 0), (17, .laload, 18, 0, 0, 0), (18, .lreturn, 19, 0, 0, 0)]
noncomputable abbrev md_M_keptEntry : pm_M := (⟨"TurnFieldModel", "keptEntry", "(III)J"⟩, prog_14_method_82_code, 4, (some .long), false, [0, 1750, 120, 1749, 77], cd_M_keptEntry)
noncomputable def cd_M_multiply : List pm_I := [(0, .iload_n 1, 1, 0, 0, 0), (1, .invokestatic 307, 4, 255, 1, 1708), (4, .ifCond .eq 12, 7, 16, 0, 0), (7, .aload_n 0, 8, 0, 0, 0), (8, .getfield 19, 11, 11, 4, 1314), (11, .iload_n 1, 12, 0, 0, 0), (12, .baload, 13, 0, 0, 0), (13, .ifCond .ne 5, 16, 18, 0, 0), (16, .iconst (-1), 17, 0, 0, 0), (17, .ireturn, 18, 0, 0, 0), (18, .aload_n 0, 19, 0, 0, 0), (19, .getfield 7, 22, 11, 0, 1310), (22, .bipush 16, 24, 0, 0, 0), (24, .laload, 25, 0, 0, 0), (25, .aload_n 0, 26, 0, 0, 0), (26, .getfield 16, 29, 11, 3, 1313), (29, .bipush 33, 31, 0, 0, 0), (31, .iload_n 1, 32, 0, 0, 0), (32, .imul, 33, 0, 0, 0), (33, .bipush 15, 35, 0, 0, 0), (35, .iadd, 36, 0, 0, 0), (36, .laload, 37, 0, 0, 0), (37, .lcmp, 38, 0, 0, 0), (38, .ifCond .eq 6, 41, 44, 0, 0), (41, .bipush (-2), 43, 0, 0, 0), (43, .ireturn, 44, 0, 0, 0), (44, .aload_n 0, 45, 0, 0, 0), (45, .invokevirtual 288, 48, 241, 1, 1661), (48, .aload_n 0, 49, 0, 0, 0), (49, .getfield 16, 52, 11, 3, 1313), (52, .bipush 33, 54, 0, 0, 0), (54, .iload_n 1, 55, 0, 0, 0), (55, .imul, 56, 0, 0, 0), (56, .bipush 15, 58, 0, 0, 0), (58, .iadd, 59, 0, 0, 0), (59, .iconst 1, 60, 0, 0, 0), (60, .iadd, 61, 0, 0, 0), (61, .laload, 62, 0, 0, 0), (62, .l2i, 63, 0, 0, 0), (63, .istore_n 2, 64, 0, 0, 0), (64, .aload_n 0, 65, 0, 0, 0), (65, .invokevirtual 315, 68, 253, 1, 1719), (68, .iconst 0, 69, 0, 0, 0), (69, .istore_n 3, 70, 0, 0, 0), (70, .iload_n 3, 71, 0, 0, 0), (71, .iconst 4, 72, 0, 0, 0), (72, .if_icmp .ge 104, 75, 176, 0, 0), (75, .iconst 0, 76, 0, 0, 0), (76, .istore 4, 78, 0, 0, 0), (78, .iload 4, 80, 0, 0, 0), (80, .iconst 4, 81, 0, 0, 0), (81, .if_icmp .ge 89, 84, 170, 0, 0), (84, .lconst 0, 85, 0, 0, 0), (85, .lstore 5, 87, 0, 0, 0), (87, .iconst 0, 88, 0, 0, 0), (88, .istore 7, 90, 0, 0, 0), (90, .iload 7, 92, 0, 0, 0), (92, .aload_n 0, 93, 0, 0, 0), (93, .getfield 260, 96, 11, 18, 1328), (96, .if_icmp .ge 52, 99, 148, 0, 0), (99, .iload_n 3, 100, 0, 0, 0), (100, .aload_n 0, 101, 0, 0, 0), (101, .getfield 257, 104, 11, 17, 1327), (104, .if_icmp .ge 44, 107, 148, 0, 0), (107, .iload 4, 109, 0, 0, 0), (109, .iload_n 2, 110, 0, 0, 0), (110, .if_icmp .ge 38, 113, 148, 0, 0), (113, .lload 5, 115, 0, 0, 0), (115, .aload_n 0, 116, 0, 0, 0), (116, .aload_n 0, 117, 0, 0, 0), (117, .getfield 67, 120, 11, 19, 1329), (120, .iload_n 3, 121, 0, 0, 0), (121, .iload 7, 123, 0, 0, 0), (123, .invokestatic 263, 126, 240, 2, 1665), (126, .laload, 127, 0, 0, 0), (127, .aload_n 0, 128, 0, 0, 0), (128, .iload_n 1, 129, 0, 0, 0), (129, .iload 7, 131, 0, 0, 0), (131, .iload 4, 133, 0, 0, 0), (133, .invokevirtual 322, 136, 265, 4, 1747), (136, .invokevirtual 131, 139, 192, 3, 1448), (139, .lxor, 140, 0, 0, 0), (140, .lstore 5, 142, 0, 0, 0), (142, .iinc 7 1, 145, 0, 0, 0), (145, .goto (-55), 148, 90, 0, 0), (148, .aload_n 0, 149, 0, 0, 0), (149, .getfield 7, 152, 11, 0, 1310), (152, .bipush 17, 154, 0, 0, 0), (154, .iconst 4, 155, 0, 0, 0), (155, .iload_n 3, 156, 0, 0, 0), (156, .imul, 157, 0, 0, 0), (157, .iadd, 158, 0, 0, 0), (158, .iload 4, 160, 0, 0, 0), (160, .iadd, 161, 0, 0, 0), (161, .lload 5, 163, 0, 0, 0), (163, .lastore, 164, 0, 0, 0), (164, .iinc 4 1, 167, 0, 0, 0), (167, .goto (-89), 170, 78, 0, 0), (170, .iinc 3 1, 173, 0, 0, 0), (173, .goto (-103), 176, 70, 0, 0), (176, .aload_n 0, 177, 0, 0, 0), (177, .getfield 7, 180, 11, 0, 1310), (180, .bipush 16, 182, 0, 0, 0), (182, .iload_n 2, 183, 0, 0, 0), (183, .i2l, 184, 0, 0, 0), (184, .lastore, 185, 0, 0, 0), (185, .aload_n 0, 186, 0, 0, 0), (186, .getfield 257, 189, 11, 17, 1327), (189, .iload_n 2, 190, 0, 0, 0), (190, .imul, 191, 0, 0, 0), (191, .ireturn, 192, 0, 0, 0)]
noncomputable abbrev md_M_multiply : pm_M := (⟨"TurnFieldModel", "multiply", "(I)I"⟩, prog_14_method_83_code, 8, (some .int), false, [0, 1746, 120, 1744, 1745], cd_M_multiply)
noncomputable def cd_M_invert : List pm_I := [(0, .aload_n 0, 1, 0, 0, 0), (1, .getfield 7, 4, 11, 0, 1310), (4, .bipush 15, 6, 0, 0, 0), (6, .laload, 7, 0, 0, 0), (7, .aload_n 0, 8, 0, 0, 0), (8, .getfield 7, 11, 11, 0, 1310), (11, .bipush 16, 13, 0, 0, 0), (13, .laload, 14, 0, 0, 0), (14, .lcmp, 15, 0, 0, 0), (15, .ifCond .eq 6, 18, 21, 0, 0), (18, .bipush (-2), 20, 0, 0, 0), (20, .ireturn, 21, 0, 0, 0), (21, .aload_n 0, 22, 0, 0, 0), (22, .invokevirtual 288, 25, 241, 1, 1661), (25, .iconst 0, 26, 0, 0, 0), (26, .istore_n 1, 27, 0, 0, 0), (27, .iload_n 1, 28, 0, 0, 0), (28, .aload_n 0, 29, 0, 0, 0), (29, .getfield 257, 32, 11, 17, 1327), (32, .if_icmp .ge 25, 35, 57, 0, 0), (35, .aload_n 0, 36, 0, 0, 0), (36, .getfield 67, 39, 11, 19, 1329), (39, .iload_n 1, 40, 0, 0, 0), (40, .aload_n 0, 41, 0, 0, 0), (41, .getfield 260, 44, 11, 18, 1328), (44, .iload_n 1, 45, 0, 0, 0), (45, .iadd, 46, 0, 0, 0), (46, .invokestatic 263, 49, 240, 2, 1665), (49, .lconst 1, 50, 0, 0, 0), (50, .lastore, 51, 0, 0, 0), (51, .iinc 1 1, 54, 0, 0, 0), (54, .goto (-27), 57, 27, 0, 0), (57, .aload_n 0, 58, 0, 0, 0), (58, .aload_n 0, 59, 0, 0, 0), (59, .getfield 260, 62, 11, 18, 1328), (62, .invokevirtual 291, 65, 245, 2, 1668), (65, .aload_n 0, 66, 0, 0, 0), (66, .getfield 269, 69, 11, 21, 1331), (69, .aload_n 0, 70, 0, 0, 0), (70, .getfield 257, 73, 11, 17, 1327), (73, .if_icmp .ge 6, 76, 79, 0, 0), (76, .bipush (-2), 78, 0, 0, 0), (78, .ireturn, 79, 0, 0, 0), (79, .aload_n 0, 80, 0, 0, 0), (80, .invokevirtual 315, 83, 253, 1, 1719), (83, .iconst 0, 84, 0, 0, 0), (84, .istore_n 1, 85, 0, 0, 0), (85, .iload_n 1, 86, 0, 0, 0), (86, .aload_n 0, 87, 0, 0, 0), (87, .getfield 257, 90, 11, 17, 1327), (90, .if_icmp .ge 53, 93, 143, 0, 0), (93, .iconst 0, 94, 0, 0, 0), (94, .istore_n 2, 95, 0, 0, 0), (95, .iload_n 2, 96, 0, 0, 0), (96, .aload_n 0, 97, 0, 0, 0), (97, .getfield 260, 100, 11, 18, 1328), (100, .if_icmp .ge 37, 103, 137, 0, 0), (103, .aload_n 0, 104, 0, 0, 0), (104, .getfield 7, 107, 11, 0, 1310), (107, .bipush 17, 109, 0, 0, 0), (109, .iconst 4, 110, 0, 0, 0), (110, .iload_n 1, 111, 0, 0, 0), (111, .imul, 112, 0, 0, 0), (112, .iadd, 113, 0, 0, 0), (113, .iload_n 2, 114, 0, 0, 0), (114, .iadd, 115, 0, 0, 0), (115, .aload_n 0, 116, 0, 0, 0), (116, .getfield 67, 119, 11, 19, 1329), (119, .iload_n 1, 120, 0, 0, 0), (120, .aload_n 0, 121, 0, 0, 0), (121, .getfield 260, 124, 11, 18, 1328), (124, .iload_n 2, 125, 0, 0, 0), (125, .iadd, 126, 0, 0, 0), (126, .invokestatic 263, 129, 240, 2, 1665), (129, .laload, 130, 0, 0, 0), (130, .lastore, 131, 0, 0, 0), (131, .iinc 2 1, 134, 0, 0, 0), (134, .goto (-39), 137, 95, 0, 0), (137, .iinc 1 1, 140, 0, 0, 0), (140, .goto (-55), 143, 85, 0, 0), (143, .iconst 1, 144, 0, 0, 0), (144, .ireturn, 145, 0, 0, 0)]
noncomputable abbrev md_M_invert : pm_M := (⟨"TurnFieldModel", "invert", "()I"⟩, prog_14_method_84_code, 3, (some .int), false, [0, 1754, 120, 1752, 1753], cd_M_invert)
noncomputable def cd_M_feed : List pm_I := [(0, .aload_n 0, 1, 0, 0, 0), (1, .getfield 326, 4, 11, 24, 1334), (4, .bipush 100, 6, 0, 0, 0), (6, .if_icmp .le 5, 9, 11, 0, 0), (9, .iconst (-1), 10, 0, 0, 0), (10, .ireturn, 11, 0, 0, 0), (11, .iconst 0, 12, 0, 0, 0), (12, .istore 6, 14, 0, 0, 0), (14, .iload 6, 16, 0, 0, 0), (16, .bipush 20, 18, 0, 0, 0), (18, .if_icmp .ge 83, 21, 101, 0, 0), (21, .iload 6, 23, 0, 0, 0), (23, .iconst 4, 24, 0, 0, 0), (24, .if_icmp .ge 7, 27, 31, 0, 0), (27, .iload_n 1, 28, 0, 0, 0), (28, .goto 39, 31, 67, 0, 0), (31, .iload 6, 33, 0, 0, 0), (33, .bipush 8, 35, 0, 0, 0), (35, .if_icmp .ge 7, 38, 42, 0, 0), (38, .iload_n 2, 39, 0, 0, 0), (39, .goto 28, 42, 67, 0, 0), (42, .iload 6, 44, 0, 0, 0), (44, .bipush 12, 46, 0, 0, 0), (46, .if_icmp .ge 7, 49, 53, 0, 0), (49, .iload_n 3, 50, 0, 0, 0), (50, .goto 17, 53, 67, 0, 0), (53, .iload 6, 55, 0, 0, 0), (55, .bipush 16, 57, 0, 0, 0), (57, .if_icmp .ge 8, 60, 65, 0, 0), (60, .iload 4, 62, 0, 0, 0), (62, .goto 5, 65, 67, 0, 0), (65, .iload 5, 67, 0, 0, 0), (67, .istore 7, 69, 0, 0, 0), (69, .aload_n 0, 70, 0, 0, 0), (70, .getfield 74, 73, 11, 23, 1333), (73, .aload_n 0, 74, 0, 0, 0), (74, .getfield 326, 77, 11, 24, 1334), (77, .iload 6, 79, 0, 0, 0), (79, .iadd, 80, 0, 0, 0), (80, .iload 7, 82, 0, 0, 0), (82, .bipush 24, 84, 0, 0, 0), (84, .bipush 8, 86, 0, 0, 0), (86, .iload 6, 88, 0, 0, 0), (88, .iconst 4, 89, 0, 0, 0), (89, .irem, 90, 0, 0, 0), (90, .imul, 91, 0, 0, 0), (91, .isub, 92, 0, 0, 0), (92, .ishr, 93, 0, 0, 0), (93, .i2b, 94, 0, 0, 0), (94, .bastore, 95, 0, 0, 0), (95, .iinc 6 1, 98, 0, 0, 0), (98, .goto (-84), 101, 14, 0, 0), (101, .aload_n 0, 102, 0, 0, 0), (102, .dup, 103, 0, 0, 0), (103, .getfield 326, 106, 11, 24, 1334), (106, .bipush 20, 108, 0, 0, 0), (108, .iadd, 109, 0, 0, 0), (109, .putfield 326, 112, 11, 24, 1334), (112, .aload_n 0, 113, 0, 0, 0), (113, .getfield 326, 116, 11, 24, 1334), (116, .ireturn, 117, 0, 0, 0)]
noncomputable abbrev md_M_feed : pm_M := (⟨"TurnFieldModel", "feed", "(IIIII)I"⟩, prog_14_method_85_code, 8, (some .int), false, [0, 1758, 120, 1756, 1757], cd_M_feed)
noncomputable def cd_M_end : List pm_I := [(0, .iload_n 1, 1, 0, 0, 0), (1, .i2l, 2, 0, 0, 0), (2, .lconst 0, 3, 0, 0, 0), (3, .aload_n 0, 4, 0, 0, 0), (4, .getfield 326, 7, 11, 24, 1334), (7, .i2l, 8, 0, 0, 0), (8, .invokestatic 170, 11, 185, 3, 1515), (11, .ifCond .ne 5, 14, 16, 0, 0), (14, .iconst (-1), 15, 0, 0, 0), (15, .ireturn, 16, 0, 0, 0), (16, .aload_n 0, 17, 0, 0, 0), (17, .iload_n 1, 18, 0, 0, 0), (18, .putfield 326, 21, 11, 24, 1334), (21, .iload_n 1, 22, 0, 0, 0), (22, .ireturn, 23, 0, 0, 0)]
noncomputable abbrev md_M_end : pm_M := (⟨"TurnFieldModel", "end", "(I)I"⟩, prog_14_method_86_code, 2, (some .int), false, [0, 1762, 120, 1760, 1761], cd_M_end)
noncomputable def cd_M_byteAt : List pm_I := [(0, .iload_n 1, 1, 0, 0, 0), (1, .aload_n 0, 2, 0, 0, 0), (2, .getfield 326, 5, 11, 24, 1334), (5, .if_icmp .ge 16, 8, 21, 0, 0), (8, .aload_n 0, 9, 0, 0, 0), (9, .getfield 74, 12, 11, 23, 1333), (12, .iload_n 1, 13, 0, 0, 0), (13, .baload, 14, 0, 0, 0), (14, .sipush 255, 17, 0, 0, 0), (17, .iand, 18, 0, 0, 0), (18, .goto 4, 21, 22, 0, 0), (21, .iconst (-1), 22, 0, 0, 0), (22, .ireturn, 23, 0, 0, 0)]
noncomputable abbrev md_M_byteAt : pm_M := (⟨"TurnFieldModel", "byteAt", "(I)I"⟩, prog_14_method_87_code, 2, (some .int), false, [0, 1786, 120, 1785, 82], cd_M_byteAt)
noncomputable def cd_M_next : List pm_I := [(0, .aload_n 0, 1, 0, 0, 0), (1, .aload_n 0, 2, 0, 0, 0), (2, .getfield 329, 5, 11, 25, 1335), (5, .invokevirtual 332, 8, 270, 2, 1783), (8, .bipush 32, 10, 0, 0, 0), (10, .if_icmp .eq 16, 13, 26, 0, 0), (13, .aload_n 0, 14, 0, 0, 0), (14, .aload_n 0, 15, 0, 0, 0), (15, .getfield 329, 18, 11, 25, 1335), (18, .invokevirtual 332, 21, 270, 2, 1783), (21, .bipush 59, 23, 0, 0, 0), (23, .if_icmp .ne 16, 26, 39, 0, 0), (26, .aload_n 0, 27, 0, 0, 0), (27, .dup, 28, 0, 0, 0), (28, .getfield 329, 31, 11, 25, 1335), (31, .iconst 1, 32, 0, 0, 0), (32, .iadd, 33, 0, 0, 0), (33, .putfield 329, 36, 11, 25, 1335), (36, .goto (-36), 39, 0, 0, 0), (39, .aload_n 0, 40, 0, 0, 0), (40, .aload_n 0, 41, 0, 0, 0), (41, .getfield 329, 44, 11, 25, 1335), (44, .invokevirtual 332, 47, 270, 2, 1783), (47, .ireturn, 48, 0, 0, 0)]
noncomputable abbrev md_M_next : pm_M := (⟨"TurnFieldModel", "next", "()I"⟩, prog_14_method_88_code, 1, (some .int), false, [0, 1782, 120, 1781, 81], cd_M_next)
noncomputable def cd_M_fails : List pm_I := [(0, .aload_n 0, 1, 0, 0, 0), (1, .bipush 8, 3, 0, 0, 0), (3, .iload_n 2, 4, 0, 0, 0), (4, .imul, 5, 0, 0, 0), (5, .iload_n 1, 6, 0, 0, 0), (6, .iadd, 7, 0, 0, 0), (7, .putfield 335, 10, 11, 26, 1336), (10, .iconst 0, 11, 0, 0, 0), (11, .ireturn, 12, 0, 0, 0)]
noncomputable abbrev md_M_fails : pm_M := (⟨"TurnFieldModel", "fails", "(II)Z"⟩, prog_14_method_89_code, 3, (some .boolean), false, [0, 1792, 120, 1791, 83], cd_M_fails)
noncomputable def cd_M_readsNumber : List pm_I := [(0, .aload_n 0, 1, 0, 0, 0), (1, .invokevirtual 338, 4, 271, 1, 1779), (4, .istore_n 3, 5, 0, 0, 0), (5, .aload_n 0, 6, 0, 0, 0), (6, .getfield 329, 9, 11, 25, 1335), (9, .istore 4, 11, 0, 0, 0), (11, .iload_n 3, 12, 0, 0, 0), (12, .i2l, 13, 0, 0, 0), (13, .ldc2_w 341, 16, 23, 0, 1787), (16, .ldc2_w 343, 19, 24, 0, 1788), (19, .invokestatic 170, 22, 185, 3, 1515), (22, .ifCond .ne 13, 25, 35, 0, 0), (25, .aload_n 0, 26, 0, 0, 0), (26, .iconst 1, 27, 0, 0, 0), (27, .aload_n 0, 28, 0, 0, 0), (28, .getfield 329, 31, 11, 25, 1335), (31, .invokevirtual 345, 34, 272, 3, 1789), (34, .ireturn, 35, 0, 0, 0), (35, .iconst 0, 36, 0, 0, 0), (36, .istore 5, 38, 0, 0, 0), (38, .aload_n 0, 39, 0, 0, 0), (39, .aload_n 0, 40, 0, 0, 0), (40, .getfield 329, 43, 11, 25, 1335), (43, .invokevirtual 332, 46, 270, 2, 1783), (46, .i2l, 47, 0, 0, 0), (47, .ldc2_w 341, 50, 23, 0, 1787), (50, .ldc2_w 343, 53, 24, 0, 1788), (53, .invokestatic 170, 56, 185, 3, 1515), (56, .ifCond .eq 48, 59, 104, 0, 0), (59, .iload 5, 61, 0, 0, 0), (61, .sipush 999, 64, 0, 0, 0), (64, .if_icmp .le 8, 67, 72, 0, 0), (67, .iload 5, 69, 0, 0, 0), (69, .goto 20, 72, 89, 0, 0), (72, .bipush 10, 74, 0, 0, 0), (74, .iload 5, 76, 0, 0, 0), (76, .imul, 77, 0, 0, 0), (77, .aload_n 0, 78, 0, 0, 0), (78, .aload_n 0, 79, 0, 0, 0), (79, .getfield 329, 82, 11, 25, 1335), (82, .invokevirtual 332, 85, 270, 2, 1783), (85, .iadd, 86, 0, 0, 0), (86, .bipush 48, 88, 0, 0, 0), (88, .isub, 89, 0, 0, 0), (89, .istore 5, 91, 0, 0, 0), (91, .aload_n 0, 92, 0, 0, 0), (92, .dup, 93, 0, 0, 0), (93, .getfield 329, 96, 11, 25, 1335), (96, .iconst 1, 97, 0, 0, 0), (97, .iadd, 98, 0, 0, 0), (98, .putfield 329, 101, 11, 25, 1335), (101, .goto (-63), 104, 38, 0, 0), (104, .aload_n 0, 105, 0, 0, 0), (105, .iload 5, 107, 0, 0, 0), (107, .putfield 348, 110, 11, 27, 1337), (110, .iload 5, 112, 0, 0, 0), (112, .i2l, 113, 0, 0, 0), (113, .iload_n 1, 114, 0, 0, 0), (114, .i2l, 115, 0, 0, 0), (115, .iload_n 2, 116, 0, 0, 0), (116, .i2l, 117, 0, 0, 0), (117, .invokestatic 170, 120, 185, 3, 1515), (120, .ifCond .ne 13, 123, 133, 0, 0), (123, .aload_n 0, 124, 0, 0, 0), (124, .iconst 2, 125, 0, 0, 0), (125, .iload 4, 127, 0, 0, 0), (127, .invokevirtual 345, 130, 272, 3, 1789), (130, .ifCond .eq 7, 133, 137, 0, 0), (133, .iconst 1, 134, 0, 0, 0), (134, .goto 4, 137, 138, 0, 0), (137, .iconst 0, 138, 0, 0, 0), (138, .ireturn, 139, 0, 0, 0)]
noncomputable abbrev md_M_readsNumber : pm_M := (⟨"TurnFieldModel", "readsNumber", "(II)Z"⟩, prog_14_method_90_code, 6, (some .boolean), false, [0, 1778, 120, 1777, 80], cd_M_readsNumber)
noncomputable def cd_M_takesWord : List pm_I := [(0, .aload_n 0, 1, 0, 0, 0), (1, .invokevirtual 338, 4, 271, 1, 1779), (4, .istore_n 2, 5, 0, 0, 0), (5, .iconst 0, 6, 0, 0, 0), (6, .istore_n 3, 7, 0, 0, 0), (7, .iload_n 3, 8, 0, 0, 0), (8, .aload_n 1, 9, 0, 0, 0), (9, .invokevirtual 351, 12, 320, 1, 1802), (12, .if_icmp .ge 27, 15, 39, 0, 0), (15, .aload_n 0, 16, 0, 0, 0), (16, .aload_n 0, 17, 0, 0, 0), (17, .getfield 329, 20, 11, 25, 1335), (20, .iload_n 3, 21, 0, 0, 0), (21, .iadd, 22, 0, 0, 0), (22, .invokevirtual 332, 25, 270, 2, 1783), (25, .aload_n 1, 26, 0, 0, 0), (26, .iload_n 3, 27, 0, 0, 0), (27, .invokevirtual 356, 30, 321, 2, 1803), (30, .if_icmp .ne 9, 33, 39, 0, 0), (33, .iinc 3 1, 36, 0, 0, 0), (36, .goto (-29), 39, 7, 0, 0), (39, .iload_n 3, 40, 0, 0, 0), (40, .aload_n 1, 41, 0, 0, 0), (41, .invokevirtual 351, 44, 320, 1, 1802), (44, .if_icmp .ne 30, 47, 74, 0, 0), (47, .aload_n 0, 48, 0, 0, 0), (48, .aload_n 0, 49, 0, 0, 0), (49, .getfield 329, 52, 11, 25, 1335), (52, .iload_n 3, 53, 0, 0, 0), (53, .iadd, 54, 0, 0, 0), (54, .invokevirtual 332, 57, 270, 2, 1783), (57, .i2l, 58, 0, 0, 0), (58, .ldc2_w 360, 61, 25, 0, 1804), (61, .ldc2_w 362, 64, 26, 0, 1805), (64, .invokestatic 170, 67, 185, 3, 1515), (67, .ifCond .ne 7, 70, 74, 0, 0), (70, .iconst 1, 71, 0, 0, 0), (71, .goto 4, 74, 75, 0, 0), (74, .iconst 0, 75, 0, 0, 0), (75, .istore 4, 77, 0, 0, 0), (77, .iload 4, 79, 0, 0, 0), (79, .ifCond .eq 13, 82, 92, 0, 0), (82, .aload_n 0, 83, 0, 0, 0), (83, .dup, 84, 0, 0, 0), (84, .getfield 329, 87, 11, 25, 1335), (87, .iload_n 3, 88, 0, 0, 0), (88, .iadd, 89, 0, 0, 0), (89, .putfield 329, 92, 11, 25, 1335), (92, .iload 4, 94, 0, 0, 0), (94, .ireturn, 95, 0, 0, 0)]
noncomputable abbrev md_M_takesWord : pm_M := (⟨"TurnFieldModel", "takesWord", "(Ljava/lang/String;)Z"⟩, prog_14_method_91_code, 5, (some .boolean), false, [0, 1801, 120, 1800, 85], cd_M_takesWord)
noncomputable def cd_M_kindHere : List pm_I := [(0, .aload_n 0, 1, 0, 0, 0), (1, .ldc_w 364, 4, 4, 0, 1797), (4, .invokevirtual 366, 7, 274, 2, 1798), (7, .ifCond .eq 5, 10, 12, 0, 0), (10, .iconst 0, 11, 0, 0, 0), (11, .ireturn, 12, 0, 0, 0), (12, .aload_n 0, 13, 0, 0, 0), (13, .ldc_w 370, 16, 5, 0, 1806), (16, .invokevirtual 366, 19, 274, 2, 1798), (19, .ifCond .eq 5, 22, 24, 0, 0), (22, .iconst 1, 23, 0, 0, 0), (23, .ireturn, 24, 0, 0, 0), (24, .aload_n 0, 25, 0, 0, 0), (25, .ldc_w 372, 28, 6, 0, 1807), (28, .invokevirtual 366, 31, 274, 2, 1798), (31, .ifCond .eq 5, 34, 36, 0, 0), (34, .iconst 2, 35, 0, 0, 0), (35, .ireturn, 36, 0, 0, 0), (36, .aload_n 0, 37, 0, 0, 0), (37, .ldc_w 374, 40, 7, 0, 1808), (40, .invokevirtual 366, 43, 274, 2, 1798), (43, .ifCond .eq 7, 46, 50, 0, 0), (46, .iconst 3, 47, 0, 0, 0), (47, .goto 4, 50, 51, 0, 0), (50, .iconst (-1), 51, 0, 0, 0), (51, .ireturn, 52, 0, 0, 0)]
noncomputable abbrev md_M_kindHere : pm_M := (⟨"TurnFieldModel", "kindHere", "()I"⟩, prog_14_method_92_code, 1, (some .int), false, [0, 1796, 120, 1795, 84], cd_M_kindHere)
noncomputable def cd_M_readsSide : List pm_I := [(0, .aload_n 0, 1, 0, 0, 0), (1, .iconst 1, 2, 0, 0, 0), (2, .bipush 6, 4, 0, 0, 0), (4, .invokevirtual 376, 7, 273, 3, 1775), (7, .ifCond .ne 5, 10, 12, 0, 0), (10, .iconst 0, 11, 0, 0, 0), (11, .ireturn, 12, 0, 0, 0), (12, .aload_n 0, 13, 0, 0, 0), (13, .getfield 78, 16, 11, 28, 1338), (16, .iload_n 1, 17, 0, 0, 0), (17, .aload_n 0, 18, 0, 0, 0), (18, .getfield 348, 21, 11, 27, 1337), (21, .iastore, 22, 0, 0, 0), (22, .aload_n 0, 23, 0, 0, 0), (23, .getfield 81, 26, 11, 29, 1339), (26, .iload_n 1, 27, 0, 0, 0), (27, .aload_n 0, 28, 0, 0, 0), (28, .invokevirtual 379, 31, 275, 1, 1793), (31, .iastore, 32, 0, 0, 0), (32, .aload_n 0, 33, 0, 0, 0), (33, .getfield 81, 36, 11, 29, 1339), (36, .iload_n 1, 37, 0, 0, 0), (37, .iaload, 38, 0, 0, 0), (38, .iconst (-1), 39, 0, 0, 0), (39, .if_icmp .ne 13, 42, 52, 0, 0), (42, .aload_n 0, 43, 0, 0, 0), (43, .iconst 1, 44, 0, 0, 0), (44, .aload_n 0, 45, 0, 0, 0), (45, .getfield 329, 48, 11, 25, 1335), (48, .invokevirtual 345, 51, 272, 3, 1789), (51, .ireturn, 52, 0, 0, 0), (52, .aload_n 0, 53, 0, 0, 0), (53, .iconst 1, 54, 0, 0, 0), (54, .bipush 8, 56, 0, 0, 0), (56, .invokevirtual 376, 59, 273, 3, 1775), (59, .ifCond .ne 5, 62, 64, 0, 0), (62, .iconst 0, 63, 0, 0, 0), (63, .ireturn, 64, 0, 0, 0), (64, .aload_n 0, 65, 0, 0, 0), (65, .getfield 84, 68, 11, 30, 1340), (68, .iload_n 1, 69, 0, 0, 0), (69, .aload_n 0, 70, 0, 0, 0), (70, .getfield 348, 73, 11, 27, 1337), (73, .iastore, 74, 0, 0, 0), (74, .iconst 1, 75, 0, 0, 0), (75, .ireturn, 76, 0, 0, 0)]
noncomputable abbrev md_M_readsSide : pm_M := (⟨"TurnFieldModel", "readsSide", "(I)Z"⟩, prog_14_method_93_code, 2, (some .boolean), false, [0, 1774, 120, 1773, 79], cd_M_readsSide)
noncomputable def cd_M_readsText : List pm_I := [(0, .aload_n 0, 1, 0, 0, 0), (1, .iconst 0, 2, 0, 0, 0), (2, .putfield 329, 5, 11, 25, 1335), (5, .aload_n 0, 6, 0, 0, 0), (6, .lconst 0, 7, 0, 0, 0), (7, .putfield 382, 10, 11, 31, 1341), (10, .aload_n 0, 11, 0, 0, 0), (11, .iconst 0, 12, 0, 0, 0), (12, .invokevirtual 385, 15, 276, 2, 1771), (15, .ifCond .eq 11, 18, 26, 0, 0), (18, .aload_n 0, 19, 0, 0, 0), (19, .iconst 1, 20, 0, 0, 0), (20, .invokevirtual 385, 23, 276, 2, 1771), (23, .ifCond .ne 5, 26, 28, 0, 0), (26, .iconst 0, 27, 0, 0, 0), (27, .ireturn, 28, 0, 0, 0), (28, .aload_n 0, 29, 0, 0, 0), (29, .ldc_w 388, 32, 3, 0, 1809), (32, .invokevirtual 366, 35, 274, 2, 1798), (35, .ifCond .eq 67, 38, 102, 0, 0), (38, .aload_n 0, 39, 0, 0, 0), (39, .iconst 0, 40, 0, 0, 0), (40, .aload_n 0, 41, 0, 0, 0), (41, .getfield 78, 44, 11, 28, 1338), (44, .iconst 0, 45, 0, 0, 0), (45, .iaload, 46, 0, 0, 0), (46, .iconst 1, 47, 0, 0, 0), (47, .isub, 48, 0, 0, 0), (48, .invokevirtual 376, 51, 273, 3, 1775), (51, .ifCond .ne 5, 54, 56, 0, 0), (54, .iconst 0, 55, 0, 0, 0), (55, .ireturn, 56, 0, 0, 0), (56, .aload_n 0, 57, 0, 0, 0), (57, .getfield 348, 60, 11, 27, 1337), (60, .istore_n 1, 61, 0, 0, 0), (61, .aload_n 0, 62, 0, 0, 0), (62, .iconst 0, 63, 0, 0, 0), (63, .aload_n 0, 64, 0, 0, 0), (64, .getfield 78, 67, 11, 28, 1338), (67, .iconst 1, 68, 0, 0, 0), (68, .iaload, 69, 0, 0, 0), (69, .iconst 1, 70, 0, 0, 0), (70, .isub, 71, 0, 0, 0), (71, .invokevirtual 376, 74, 273, 3, 1775), (74, .ifCond .ne 5, 77, 79, 0, 0), (77, .iconst 0, 78, 0, 0, 0), (78, .ireturn, 79, 0, 0, 0), (79, .aload_n 0, 80, 0, 0, 0), (80, .dup, 81, 0, 0, 0), (81, .getfield 382, 84, 11, 31, 1341), (84, .lconst 1, 85, 0, 0, 0), (85, .bipush 6, 87, 0, 0, 0), (87, .iload_n 1, 88, 0, 0, 0), (88, .imul, 89, 0, 0, 0), (89, .aload_n 0, 90, 0, 0, 0), (90, .getfield 348, 93, 11, 27, 1337), (93, .iadd, 94, 0, 0, 0), (94, .lshl, 95, 0, 0, 0), (95, .lor, 96, 0, 0, 0), (96, .putfield 382, 99, 11, 31, 1341), (99, .goto (-71), 102, 28, 0, 0), (102, .aload_n 0, 103, 0, 0, 0), (103, .invokevirtual 338, 106, 271, 1, 1779), (106, .iconst (-1), 107, 0, 0, 0), (107, .if_icmp .eq 15, 110, 122, 0, 0), (110, .aload_n 0, 111, 0, 0, 0), (111, .iconst 1, 112, 0, 0, 0), (112, .aload_n 0, 113, 0, 0, 0), (113, .getfield 329, 116, 11, 25, 1335), (116, .invokevirtual 345, 119, 272, 3, 1789), (119, .ifCond .eq 7, 122, 126, 0, 0), (122, .iconst 1, 123, 0, 0, 0), (123, .goto 4, 126, 127, 0, 0), (126, .iconst 0, 127, 0, 0, 0), (127, .ireturn, 128, 0, 0, 0)]
noncomputable abbrev md_M_readsText : pm_M := (⟨"TurnFieldModel", "readsText", "()Z"⟩, prog_14_method_94_code, 2, (some .boolean), false, [0, 1770, 120, 1769, 78], cd_M_readsText)
noncomputable def cd_M_tell : List pm_I := [(0, .aload_n 0, 1, 0, 0, 0), (1, .invokevirtual 389, 4, 277, 1, 1767), (4, .istore_n 1, 5, 0, 0, 0), (5, .aload_n 0, 6, 0, 0, 0), (6, .iconst 0, 7, 0, 0, 0), (7, .putfield 326, 10, 11, 24, 1334), (10, .iload_n 1, 11, 0, 0, 0), (11, .ifCond .ne 11, 14, 22, 0, 0), (14, .bipush (-2), 16, 0, 0, 0), (16, .aload_n 0, 17, 0, 0, 0), (17, .getfield 335, 20, 11, 26, 1336), (20, .isub, 21, 0, 0, 0), (21, .ireturn, 22, 0, 0, 0), (22, .aload_n 0, 23, 0, 0, 0), (23, .invokevirtual 315, 26, 253, 1, 1719), (26, .iconst 0, 27, 0, 0, 0), (27, .istore_n 2, 28, 0, 0, 0), (28, .iload_n 2, 29, 0, 0, 0), (29, .iconst 2, 30, 0, 0, 0), (30, .if_icmp .ge 54, 33, 84, 0, 0), (33, .aload_n 0, 34, 0, 0, 0), (34, .getfield 7, 37, 11, 0, 1310), (37, .iconst 0, 38, 0, 0, 0), (38, .iload_n 2, 39, 0, 0, 0), (39, .iadd, 40, 0, 0, 0), (40, .aload_n 0, 41, 0, 0, 0), (41, .getfield 78, 44, 11, 28, 1338), (44, .iload_n 2, 45, 0, 0, 0), (45, .iaload, 46, 0, 0, 0), (46, .i2l, 47, 0, 0, 0), (47, .lastore, 48, 0, 0, 0), (48, .aload_n 0, 49, 0, 0, 0), (49, .getfield 7, 52, 11, 0, 1310), (52, .iconst 2, 53, 0, 0, 0), (53, .iload_n 2, 54, 0, 0, 0), (54, .iadd, 55, 0, 0, 0), (55, .aload_n 0, 56, 0, 0, 0), (56, .getfield 81, 59, 11, 29, 1339), (59, .iload_n 2, 60, 0, 0, 0), (60, .iaload, 61, 0, 0, 0), (61, .i2l, 62, 0, 0, 0), (62, .lastore, 63, 0, 0, 0), (63, .aload_n 0, 64, 0, 0, 0), (64, .getfield 7, 67, 11, 0, 1310), (67, .iconst 4, 68, 0, 0, 0), (68, .iload_n 2, 69, 0, 0, 0), (69, .iadd, 70, 0, 0, 0), (70, .aload_n 0, 71, 0, 0, 0), (71, .getfield 84, 74, 11, 30, 1340), (74, .iload_n 2, 75, 0, 0, 0), (75, .iaload, 76, 0, 0, 0), (76, .i2l, 77, 0, 0, 0), (77, .lastore, 78, 0, 0, 0), (78, .iinc 2 1, 81, 0, 0, 0), (81, .goto (-53), 84, 28, 0, 0), (84, .aload_n 0, 85, 0, 0, 0), (85, .getfield 7, 88, 11, 0, 1310), (88, .bipush 6, 90, 0, 0, 0), (90, .aload_n 0, 91, 0, 0, 0), (91, .getfield 382, 94, 11, 31, 1341), (94, .lastore, 95, 0, 0, 0), (95, .aload_n 0, 96, 0, 0, 0), (96, .invokevirtual 311, 99, 257, 1, 1711), (99, .ireturn, 100, 0, 0, 0)]
noncomputable abbrev md_M_tell : pm_M := (⟨"TurnFieldModel", "tell", "()I"⟩, prog_14_method_95_code, 3, (some .int), false, [0, 1766, 120, 1764, 1765], cd_M_tell)
noncomputable def cd_M_manyOf : List pm_I := [(0, .aload_n 0, 1, 0, 0, 0), (1, .getfield 7, 4, 11, 0, 1310), (4, .iconst 0, 5, 0, 0, 0), (5, .iload_n 1, 6, 0, 0, 0), (6, .iadd, 7, 0, 0, 0), (7, .laload, 8, 0, 0, 0), (8, .l2i, 9, 0, 0, 0), (9, .ireturn, 10, 0, 0, 0)]
noncomputable abbrev md_M_manyOf : pm_M := (⟨"TurnFieldModel", "manyOf", "(I)I"⟩, prog_14_method_96_code, 2, (some .int), false, [0, 1855, 120, 1854, 91], cd_M_manyOf)
noncomputable def cd_M_greatestOf : List pm_I := [(0, .iconst 0, 1, 0, 0, 0), (1, .istore_n 1, 2, 0, 0, 0), (2, .iload_n 0, 3, 0, 0, 0), (3, .iload_n 1, 4, 0, 0, 0), (4, .iconst 1, 5, 0, 0, 0), (5, .iadd, 6, 0, 0, 0), (6, .ishr, 7, 0, 0, 0), (7, .ifCond .eq 9, 10, 16, 0, 0), (10, .iinc 1 1, 13, 0, 0, 0), (13, .goto (-11), 16, 2, 0, 0), (16, .iload_n 1, 17, 0, 0, 0), (17, .ireturn, 18, 0, 0, 0)]
noncomputable abbrev md_M_greatestOf : pm_M := (⟨"TurnFieldModel", "greatestOf", "(I)I"⟩, prog_14_method_97_code, 2, (some .int), false, [1, 1824, 120, 1823, 0], cd_M_greatestOf)
noncomputable def cd_M_isNear : List pm_I := [(0, .iload_n 0, 1, 0, 0, 0), (1, .i2l, 2, 0, 0, 0), (2, .invokestatic 231, 5, 256, 1, 1610), (5, .iconst 1, 6, 0, 0, 0), (6, .if_icmp .ne 5, 9, 11, 0, 0), (9, .iconst 1, 10, 0, 0, 0), (10, .ireturn, 11, 0, 0, 0), (11, .iload_n 0, 12, 0, 0, 0), (12, .invokestatic 392, 15, 280, 1, 1822), (15, .istore_n 2, 16, 0, 0, 0), (16, .iload_n 0, 17, 0, 0, 0), (17, .iconst 1, 18, 0, 0, 0), (18, .iload_n 2, 19, 0, 0, 0), (19, .ishl, 20, 0, 0, 0), (20, .iconst (-1), 21, 0, 0, 0), (21, .ixor, 22, 0, 0, 0), (22, .iand, 23, 0, 0, 0), (23, .istore_n 3, 24, 0, 0, 0), (24, .iload_n 0, 25, 0, 0, 0), (25, .i2l, 26, 0, 0, 0), (26, .invokestatic 231, 29, 256, 1, 1610), (29, .iconst 2, 30, 0, 0, 0), (30, .if_icmp .ne 17, 33, 47, 0, 0), (33, .iload_n 2, 34, 0, 0, 0), (34, .iload_n 3, 35, 0, 0, 0), (35, .invokestatic 392, 38, 280, 1, 1822), (38, .isub, 39, 0, 0, 0), (39, .iload_n 1, 40, 0, 0, 0), (40, .if_icmp .gt 7, 43, 47, 0, 0), (43, .iconst 1, 44, 0, 0, 0), (44, .goto 4, 47, 48, 0, 0), (47, .iconst 0, 48, 0, 0, 0), (48, .ireturn, 49, 0, 0, 0)]
noncomputable abbrev md_M_isNear : pm_M := (⟨"TurnFieldModel", "isNear", "(II)Z"⟩, prog_14_method_98_code, 4, (some .boolean), false, [1, 1827, 120, 1826, 0], cd_M_isNear)
noncomputable def cd_M_isRow : List pm_I := [(0, .iload_n 0, 1, 0, 0, 0), (1, .i2l, 2, 0, 0, 0), (2, .invokestatic 231, 5, 256, 1, 1610), (5, .istore_n 2, 6, 0, 0, 0), (6, .iload_n 0, 7, 0, 0, 0), (7, .invokestatic 392, 10, 280, 1, 1822), (10, .istore_n 3, 11, 0, 0, 0), (11, .iload_n 2, 12, 0, 0, 0), (12, .iload_n 1, 13, 0, 0, 0), (13, .if_icmp .gt 22, 16, 35, 0, 0), (16, .iload_n 0, 17, 0, 0, 0), (17, .iconst 1, 18, 0, 0, 0), (18, .iload_n 2, 19, 0, 0, 0), (19, .ishl, 20, 0, 0, 0), (20, .iconst 1, 21, 0, 0, 0), (21, .isub, 22, 0, 0, 0), (22, .iload_n 3, 23, 0, 0, 0), (23, .iconst 1, 24, 0, 0, 0), (24, .iadd, 25, 0, 0, 0), (25, .iload_n 2, 26, 0, 0, 0), (26, .isub, 27, 0, 0, 0), (27, .ishl, 28, 0, 0, 0), (28, .if_icmp .ne 7, 31, 35, 0, 0), (31, .iconst 1, 32, 0, 0, 0), (32, .goto 4, 35, 36, 0, 0), (35, .iconst 0, 36, 0, 0, 0), (36, .ireturn, 37, 0, 0, 0)]
noncomputable abbrev md_M_isRow : pm_M := (⟨"TurnFieldModel", "isRow", "(II)Z"⟩, prog_14_method_99_code, 4, (some .boolean), false, [1, 1821, 120, 1820, 0], cd_M_isRow)
noncomputable def cd_M_maySet : List pm_I := [(0, .aload_n 0, 1, 0, 0, 0), (1, .getfield 7, 4, 11, 0, 1310), (4, .iconst 4, 5, 0, 0, 0), (5, .iload_n 1, 6, 0, 0, 0), (6, .iadd, 7, 0, 0, 0), (7, .laload, 8, 0, 0, 0), (8, .l2i, 9, 0, 0, 0), (9, .istore_n 3, 10, 0, 0, 0), (10, .aload_n 0, 11, 0, 0, 0), (11, .getfield 7, 14, 11, 0, 1310), (14, .iconst 2, 15, 0, 0, 0), (15, .iload_n 1, 16, 0, 0, 0), (16, .iadd, 17, 0, 0, 0), (17, .laload, 18, 0, 0, 0), (18, .l2i, 19, 0, 0, 0), (19, .tableswitch 61 0 2 #[25, 40, 55], 44, 0, 0, 0), (44, .iload_n 2, 45, 0, 0, 0), (45, .i2l, 46, 0, 0, 0), (46, .invokestatic 231, 49, 256, 1, 1610), (49, .iload_n 3, 50, 0, 0, 0), (50, .if_icmp .gt 7, 53, 57, 0, 0), (53, .iconst 1, 54, 0, 0, 0), (54, .goto 4, 57, 58, 0, 0), (57, .iconst 0, 58, 0, 0, 0), (58, .ireturn, 59, 0, 0, 0), (59, .iload_n 2, 60, 0, 0, 0), (60, .i2l, 61, 0, 0, 0), (61, .invokestatic 231, 64, 256, 1, 1610), (64, .iload_n 3, 65, 0, 0, 0), (65, .if_icmp .ne 7, 68, 72, 0, 0), (68, .iconst 1, 69, 0, 0, 0), (69, .goto 4, 72, 73, 0, 0), (72, .iconst 0, 73, 0, 0, 0), (73, .ireturn, 74, 0, 0, 0), (74, .iload_n 2, 75, 0, 0, 0), (75, .iload_n 3, 76, 0, 0, 0), (76, .invokestatic 395, 79, 282, 2, 1819), (79, .ireturn, 80, 0, 0, 0), (80, .iload_n 2, 81, 0, 0, 0), (81, .iload_n 3, 82, 0, 0, 0), (82, .invokestatic 398, 85, 281, 2, 1825), (85, .ireturn, 86, 0, 0, 0)]
noncomputable abbrev md_M_maySet : pm_M := (⟨"TurnFieldModel", "maySet", "(II)Z"⟩, prog_14_method_100_code, 4, (some .boolean), false, [0, 1818, 120, 1817, 86], cd_M_maySet)
noncomputable def cd_M_sets : List pm_I := [(0, .iload_n 1, 1, 0, 0, 0), (1, .i2l, 2, 0, 0, 0), (2, .lconst 0, 3, 0, 0, 0), (3, .lconst 1, 4, 0, 0, 0), (4, .invokestatic 170, 7, 185, 3, 1515), (7, .ifCond .eq 15, 10, 22, 0, 0), (10, .iload_n 2, 11, 0, 0, 0), (11, .i2l, 12, 0, 0, 0), (12, .lconst 0, 13, 0, 0, 0), (13, .ldc2_w 401, 16, 27, 0, 1814), (16, .invokestatic 170, 19, 185, 3, 1515), (19, .ifCond .ne 5, 22, 24, 0, 0), (22, .iconst (-1), 23, 0, 0, 0), (23, .ireturn, 24, 0, 0, 0), (24, .iconst 0, 25, 0, 0, 0), (25, .istore_n 3, 26, 0, 0, 0), (26, .iconst 1, 27, 0, 0, 0), (27, .iload_n 2, 28, 0, 0, 0), (28, .ishl, 29, 0, 0, 0), (29, .istore 4, 31, 0, 0, 0), (31, .iload 4, 33, 0, 0, 0), (33, .iconst 2, 34, 0, 0, 0), (34, .iload_n 2, 35, 0, 0, 0), (35, .ishl, 36, 0, 0, 0), (36, .if_icmp .ge 27, 39, 63, 0, 0), (39, .iload_n 3, 40, 0, 0, 0), (40, .aload_n 0, 41, 0, 0, 0), (41, .iload_n 1, 42, 0, 0, 0), (42, .iload 4, 44, 0, 0, 0), (44, .invokevirtual 403, 47, 283, 3, 1815), (47, .ifCond .eq 7, 50, 54, 0, 0), (50, .iconst 1, 51, 0, 0, 0), (51, .goto 4, 54, 55, 0, 0), (54, .iconst 0, 55, 0, 0, 0), (55, .iadd, 56, 0, 0, 0), (56, .istore_n 3, 57, 0, 0, 0), (57, .iinc 4 1, 60, 0, 0, 0), (60, .goto (-29), 63, 31, 0, 0), (63, .iload_n 3, 64, 0, 0, 0), (64, .ireturn, 65, 0, 0, 0)]
noncomputable abbrev md_M_sets : pm_M := (⟨"TurnFieldModel", "sets", "(II)I"⟩, prog_14_method_101_code, 5, (some .int), false, [0, 1813, 120, 1811, 1812], cd_M_sets)
noncomputable def cd_M_sumOf : List pm_I := [(0, .iconst 0, 1, 0, 0, 0), (1, .istore_n 3, 2, 0, 0, 0), (2, .iconst 0, 3, 0, 0, 0), (3, .istore 4, 5, 0, 0, 0), (5, .iload_n 2, 6, 0, 0, 0), (6, .iload 4, 8, 0, 0, 0), (8, .ishr, 9, 0, 0, 0), (9, .ifCond .eq 38, 12, 47, 0, 0), (12, .iload_n 3, 13, 0, 0, 0), (13, .iload_n 2, 14, 0, 0, 0), (14, .iload 4, 16, 0, 0, 0), (16, .ishr, 17, 0, 0, 0), (17, .iconst 1, 18, 0, 0, 0), (18, .iand, 19, 0, 0, 0), (19, .iconst 1, 20, 0, 0, 0), (20, .if_icmp .ne 18, 23, 38, 0, 0), (23, .aload_n 0, 24, 0, 0, 0), (24, .getfield 87, 27, 11, 32, 1342), (27, .bipush 12, 29, 0, 0, 0), (29, .iload_n 1, 30, 0, 0, 0), (30, .imul, 31, 0, 0, 0), (31, .iload 4, 33, 0, 0, 0), (33, .iadd, 34, 0, 0, 0), (34, .iaload, 35, 0, 0, 0), (35, .goto 4, 38, 39, 0, 0), (38, .iconst 0, 39, 0, 0, 0), (39, .ixor, 40, 0, 0, 0), (40, .istore_n 3, 41, 0, 0, 0), (41, .iinc 4 1, 44, 0, 0, 0), (44, .goto (-39), 47, 5, 0, 0), (47, .iload_n 3, 48, 0, 0, 0), (48, .ireturn, 49, 0, 0, 0)]
noncomputable abbrev md_M_sumOf : pm_M := (⟨"TurnFieldModel", "sumOf", "(II)I"⟩, prog_14_method_102_code, 5, (some .int), false, [0, 1839, 120, 1838, 88], cd_M_sumOf)
noncomputable def cd_M_leastNot : List pm_I := [(0, .iconst 0, 1, 0, 0, 0), (1, .istore_n 2, 2, 0, 0, 0), (2, .iload_n 2, 3, 0, 0, 0), (3, .iload_n 1, 4, 0, 0, 0), (4, .if_icmp .gt 18, 7, 22, 0, 0), (7, .aload_n 0, 8, 0, 0, 0), (8, .getfield 91, 11, 11, 33, 1343), (11, .iload_n 2, 12, 0, 0, 0), (12, .baload, 13, 0, 0, 0), (13, .ifCond .eq 9, 16, 22, 0, 0), (16, .iinc 2 1, 19, 0, 0, 0), (19, .goto (-17), 22, 2, 0, 0), (22, .iload_n 2, 23, 0, 0, 0), (23, .ireturn, 24, 0, 0, 0)]
noncomputable abbrev md_M_leastNot : pm_M := (⟨"TurnFieldModel", "leastNot", "(I)I"⟩, prog_14_method_103_code, 3, (some .int), false, [0, 1843, 120, 1842, 89], cd_M_leastNot)
noncomputable def cd_M_laysWorth : List pm_I := [(0, .iconst 0, 1, 0, 0, 0), (1, .istore_n 3, 2, 0, 0, 0), (2, .iload_n 3, 3, 0, 0, 0), (3, .sipush 4096, 6, 0, 0, 0), (6, .if_icmp .ge 16, 9, 22, 0, 0), (9, .aload_n 0, 10, 0, 0, 0), (10, .getfield 91, 13, 11, 33, 1343), (13, .iload_n 3, 14, 0, 0, 0), (14, .iconst 0, 15, 0, 0, 0), (15, .bastore, 16, 0, 0, 0), (16, .iinc 3 1, 19, 0, 0, 0), (19, .goto (-17), 22, 2, 0, 0), (22, .iconst 0, 23, 0, 0, 0), (23, .istore_n 3, 24, 0, 0, 0), (24, .iconst 1, 25, 0, 0, 0), (25, .iload_n 2, 26, 0, 0, 0), (26, .ishl, 27, 0, 0, 0), (27, .istore 4, 29, 0, 0, 0), (29, .iload 4, 31, 0, 0, 0), (31, .iconst 2, 32, 0, 0, 0), (32, .iload_n 2, 33, 0, 0, 0), (33, .ishl, 34, 0, 0, 0), (34, .if_icmp .ge 44, 37, 78, 0, 0), (37, .aload_n 0, 38, 0, 0, 0), (38, .iload_n 1, 39, 0, 0, 0), (39, .iload 4, 41, 0, 0, 0), (41, .invokevirtual 403, 44, 283, 3, 1815), (44, .ifCond .ne 6, 47, 50, 0, 0), (47, .goto 25, 50, 72, 0, 0), (50, .aload_n 0, 51, 0, 0, 0), (51, .getfield 91, 54, 11, 33, 1343), (54, .aload_n 0, 55, 0, 0, 0), (55, .iload_n 1, 56, 0, 0, 0), (56, .iload 4, 58, 0, 0, 0), (58, .iconst 1, 59, 0, 0, 0), (59, .iload_n 2, 60, 0, 0, 0), (60, .ishl, 61, 0, 0, 0), (61, .iconst (-1), 62, 0, 0, 0), (62, .ixor, 63, 0, 0, 0), (63, .iand, 64, 0, 0, 0), (64, .invokevirtual 406, 67, 285, 3, 1836), (67, .iconst 1, 68, 0, 0, 0), (68, .bastore, 69, 0, 0, 0), (69, .iinc 3 1, 72, 0, 0, 0), (72, .iinc 4 1, 75, 0, 0, 0), (75, .goto (-46), 78, 29, 0, 0), (78, .aload_n 0, 79, 0, 0, 0), (79, .getfield 87, 82, 11, 32, 1342), (82, .bipush 12, 84, 0, 0, 0), (84, .iload_n 1, 85, 0, 0, 0), (85, .imul, 86, 0, 0, 0), (86, .iload_n 2, 87, 0, 0, 0), (87, .iadd, 88, 0, 0, 0), (88, .aload_n 0, 89, 0, 0, 0), (89, .iload_n 3, 90, 0, 0, 0), (90, .invokevirtual 409, 93, 286, 2, 1840), (93, .iastore, 94, 0, 0, 0), (94, .return_, 95, 0, 0, 0)]
noncomputable abbrev md_M_laysWorth : pm_M := (⟨"TurnFieldModel", "laysWorth", "(II)V"⟩, prog_14_method_104_code, 5, none, false, [0, 1835, 120, 1834, 87], cd_M_laysWorth)
noncomputable def cd_M_laysWorths : List pm_I := [(0, .iconst 0, 1, 0, 0, 0), (1, .istore_n 2, 2, 0, 0, 0), (2, .iload_n 2, 3, 0, 0, 0), (3, .iconst 2, 4, 0, 0, 0), (4, .if_icmp .ge 28, 7, 32, 0, 0), (7, .iconst 0, 8, 0, 0, 0), (8, .istore_n 3, 9, 0, 0, 0), (9, .iload_n 3, 10, 0, 0, 0), (10, .iload_n 1, 11, 0, 0, 0), (11, .if_icmp .ge 15, 14, 26, 0, 0), (14, .aload_n 0, 15, 0, 0, 0), (15, .iload_n 2, 16, 0, 0, 0), (16, .iload_n 3, 17, 0, 0, 0), (17, .invokevirtual 412, 20, 287, 3, 1832), (20, .iinc 3 1, 23, 0, 0, 0), (23, .goto (-14), 26, 9, 0, 0), (26, .iinc 2 1, 29, 0, 0, 0), (29, .goto (-27), 32, 2, 0, 0), (32, .return_, 33, 0, 0, 0)]
noncomputable abbrev md_M_laysWorths : pm_M := (⟨"TurnFieldModel", "laysWorths", "(I)V"⟩, prog_14_method_105_code, 4, none, false, [0, 1859, 120, 1858, 92], cd_M_laysWorths)
noncomputable def cd_M_worth : List pm_I := [(0, .iload_n 1, 1, 0, 0, 0), (1, .i2l, 2, 0, 0, 0), (2, .lconst 0, 3, 0, 0, 0), (3, .lconst 1, 4, 0, 0, 0), (4, .invokestatic 170, 7, 185, 3, 1515), (7, .ifCond .eq 15, 10, 22, 0, 0), (10, .iload_n 2, 11, 0, 0, 0), (11, .i2l, 12, 0, 0, 0), (12, .lconst 0, 13, 0, 0, 0), (13, .ldc2_w 401, 16, 27, 0, 1814), (16, .invokestatic 170, 19, 185, 3, 1515), (19, .ifCond .ne 5, 22, 24, 0, 0), (22, .iconst (-1), 23, 0, 0, 0), (23, .ireturn, 24, 0, 0, 0), (24, .iconst 0, 25, 0, 0, 0), (25, .istore_n 3, 26, 0, 0, 0), (26, .iload_n 3, 27, 0, 0, 0), (27, .iload_n 2, 28, 0, 0, 0), (28, .if_icmp .gt 15, 31, 43, 0, 0), (31, .aload_n 0, 32, 0, 0, 0), (32, .iload_n 1, 33, 0, 0, 0), (33, .iload_n 3, 34, 0, 0, 0), (34, .invokevirtual 412, 37, 287, 3, 1832), (37, .iinc 3 1, 40, 0, 0, 0), (40, .goto (-14), 43, 26, 0, 0), (43, .aload_n 0, 44, 0, 0, 0), (44, .getfield 87, 47, 11, 32, 1342), (47, .bipush 12, 49, 0, 0, 0), (49, .iload_n 1, 50, 0, 0, 0), (50, .imul, 51, 0, 0, 0), (51, .iload_n 2, 52, 0, 0, 0), (52, .iadd, 53, 0, 0, 0), (53, .iaload, 54, 0, 0, 0), (54, .ireturn, 55, 0, 0, 0)]
noncomputable abbrev md_M_worth : pm_M := (⟨"TurnFieldModel", "worth", "(II)I"⟩, prog_14_method_106_code, 4, (some .int), false, [0, 1831, 120, 1829, 1830], cd_M_worth)
noncomputable def cd_M_place_III : List pm_I := [(0, .bipush 6, 2, 0, 0, 0), (2, .iload_n 0, 3, 0, 0, 0), (3, .imul, 4, 0, 0, 0), (4, .iload_n 1, 5, 0, 0, 0), (5, .iadd, 6, 0, 0, 0), (6, .ireturn, 7, 0, 0, 0)]
noncomputable abbrev md_M_place_III : pm_M := (⟨"TurnFieldModel", "place", "(II)I"⟩, prog_14_method_107_code, 2, (some .int), false, [1, 1877, 120, 1876, 0], cd_M_place_III)
noncomputable def cd_M_isCell : List pm_I := [(0, .iload_n 1, 1, 0, 0, 0), (1, .i2l, 2, 0, 0, 0), (2, .lconst 0, 3, 0, 0, 0), (3, .aload_n 0, 4, 0, 0, 0), (4, .iconst 0, 5, 0, 0, 0), (5, .invokevirtual 415, 8, 279, 2, 1852), (8, .iconst 1, 9, 0, 0, 0), (9, .isub, 10, 0, 0, 0), (10, .i2l, 11, 0, 0, 0), (11, .invokestatic 170, 14, 185, 3, 1515), (14, .ifCond .eq 24, 17, 38, 0, 0), (17, .iload_n 2, 18, 0, 0, 0), (18, .i2l, 19, 0, 0, 0), (19, .lconst 0, 20, 0, 0, 0), (20, .aload_n 0, 21, 0, 0, 0), (21, .iconst 1, 22, 0, 0, 0), (22, .invokevirtual 415, 25, 279, 2, 1852), (25, .iconst 1, 26, 0, 0, 0), (26, .isub, 27, 0, 0, 0), (27, .i2l, 28, 0, 0, 0), (28, .invokestatic 170, 31, 185, 3, 1515), (31, .ifCond .eq 7, 34, 38, 0, 0), (34, .iconst 1, 35, 0, 0, 0), (35, .goto 4, 38, 39, 0, 0), (38, .iconst 0, 39, 0, 0, 0), (39, .ireturn, 40, 0, 0, 0)]
noncomputable abbrev md_M_isCell : pm_M := (⟨"TurnFieldModel", "isCell", "(II)Z"⟩, prog_14_method_108_code, 3, (some .boolean), false, [0, 1851, 120, 1850, 90], cd_M_isCell)
noncomputable def cd_M_worthOf : List pm_I := [(0, .aload_n 0, 1, 0, 0, 0), (1, .aload_n 0, 2, 0, 0, 0), (2, .getfield 87, 5, 11, 32, 1342), (5, .iload_n 1, 6, 0, 0, 0), (6, .iaload, 7, 0, 0, 0), (7, .i2l, 8, 0, 0, 0), (8, .aload_n 0, 9, 0, 0, 0), (9, .getfield 87, 12, 11, 32, 1342), (12, .bipush 12, 14, 0, 0, 0), (14, .iload_n 2, 15, 0, 0, 0), (15, .iadd, 16, 0, 0, 0), (16, .iaload, 17, 0, 0, 0), (17, .i2l, 18, 0, 0, 0), (18, .invokevirtual 131, 21, 192, 3, 1448), (21, .l2i, 22, 0, 0, 0), (22, .ireturn, 23, 0, 0, 0)]
noncomputable abbrev md_M_worthOf : pm_M := (⟨"TurnFieldModel", "worthOf", "(II)I"⟩, prog_14_method_109_code, 3, (some .int), false, [0, 1863, 120, 1862, 93], cd_M_worthOf)
noncomputable def cd_M_cellsOf : List pm_I := [(0, .lconst 0, 1, 0, 0, 0), (1, .lstore_n 2, 2, 0, 0, 0), (2, .iconst 0, 3, 0, 0, 0), (3, .istore 4, 5, 0, 0, 0), (5, .iload 4, 7, 0, 0, 0), (7, .bipush 6, 9, 0, 0, 0), (9, .if_icmp .ge 30, 12, 39, 0, 0), (12, .iload_n 0, 13, 0, 0, 0), (13, .iload 4, 15, 0, 0, 0), (15, .ishr, 16, 0, 0, 0), (16, .iconst 1, 17, 0, 0, 0), (17, .iand, 18, 0, 0, 0), (18, .iconst 1, 19, 0, 0, 0), (19, .if_icmp .ne 14, 22, 33, 0, 0), (22, .lload_n 2, 23, 0, 0, 0), (23, .iload_n 1, 24, 0, 0, 0), (24, .i2l, 25, 0, 0, 0), (25, .bipush 6, 27, 0, 0, 0), (27, .iload 4, 29, 0, 0, 0), (29, .imul, 30, 0, 0, 0), (30, .lshl, 31, 0, 0, 0), (31, .lor, 32, 0, 0, 0), (32, .lstore_n 2, 33, 0, 0, 0), (33, .iinc 4 1, 36, 0, 0, 0), (36, .goto (-31), 39, 5, 0, 0), (39, .lload_n 2, 40, 0, 0, 0), (40, .lreturn, 41, 0, 0, 0)]
noncomputable abbrev md_M_cellsOf : pm_M := (⟨"TurnFieldModel", "cellsOf", "(II)J"⟩, prog_14_method_110_code, 5, (some .long), false, [1, 1874, 120, 1873, 0], cd_M_cellsOf)
noncomputable def cd_M_sumExcluded : List pm_I := [(0, .iconst 0, 1, 0, 0, 0), (1, .istore_n 3, 2, 0, 0, 0), (2, .iconst 0, 3, 0, 0, 0), (3, .istore 4, 5, 0, 0, 0), (5, .iload 4, 7, 0, 0, 0), (7, .bipush 36, 9, 0, 0, 0), (9, .if_icmp .ge 32, 12, 41, 0, 0), (12, .iload_n 3, 13, 0, 0, 0), (13, .lload_n 1, 14, 0, 0, 0), (14, .iload 4, 16, 0, 0, 0), (16, .invokestatic 158, 19, 186, 2, 1495), (19, .ifCond .eq 13, 22, 32, 0, 0), (22, .aload_n 0, 23, 0, 0, 0), (23, .getfield 94, 26, 11, 34, 1344), (26, .iload 4, 28, 0, 0, 0), (28, .iaload, 29, 0, 0, 0), (29, .goto 4, 32, 33, 0, 0), (32, .iconst 0, 33, 0, 0, 0), (33, .ixor, 34, 0, 0, 0), (34, .istore_n 3, 35, 0, 0, 0), (35, .iinc 4 1, 38, 0, 0, 0), (38, .goto (-33), 41, 5, 0, 0), (41, .iload_n 3, 42, 0, 0, 0), (42, .ireturn, 43, 0, 0, 0)]
noncomputable abbrev md_M_sumExcluded : pm_M := (⟨"TurnFieldModel", "sumExcluded", "(J)I"⟩, prog_14_method_111_code, 5, (some .int), false, [0, 1881, 120, 1880, 96], cd_M_sumExcluded)
noncomputable def cd_M_laysExcluded : List pm_I := [(0, .iconst 0, 1, 0, 0, 0), (1, .istore_n 3, 2, 0, 0, 0), (2, .iload_n 3, 3, 0, 0, 0), (3, .ldc 90, 5, 19, 0, 1293), (5, .if_icmp .ge 16, 8, 21, 0, 0), (8, .aload_n 0, 9, 0, 0, 0), (9, .getfield 91, 12, 11, 33, 1343), (12, .iload_n 3, 13, 0, 0, 0), (13, .iconst 0, 14, 0, 0, 0), (14, .bastore, 15, 0, 0, 0), (15, .iinc 3 1, 18, 0, 0, 0), (18, .goto (-16), 21, 2, 0, 0), (21, .iconst 0, 22, 0, 0, 0), (22, .istore_n 3, 23, 0, 0, 0), (23, .iconst 1, 24, 0, 0, 0), (24, .iload_n 1, 25, 0, 0, 0), (25, .ishl, 26, 0, 0, 0), (26, .istore 4, 28, 0, 0, 0), (28, .iload 4, 30, 0, 0, 0), (30, .iconst 2, 31, 0, 0, 0), (31, .iload_n 1, 32, 0, 0, 0), (32, .ishl, 33, 0, 0, 0), (33, .if_icmp .ge 83, 36, 116, 0, 0), (36, .iconst 1, 37, 0, 0, 0), (37, .iload_n 2, 38, 0, 0, 0), (38, .ishl, 39, 0, 0, 0), (39, .istore 5, 41, 0, 0, 0), (41, .iload 5, 43, 0, 0, 0), (43, .iconst 2, 44, 0, 0, 0), (44, .iload_n 2, 45, 0, 0, 0), (45, .ishl, 46, 0, 0, 0), (46, .if_icmp .ge 64, 49, 110, 0, 0), (49, .aload_n 0, 50, 0, 0, 0), (50, .iconst 0, 51, 0, 0, 0), (51, .iload 4, 53, 0, 0, 0), (53, .invokevirtual 403, 56, 283, 3, 1815), (56, .ifCond .eq 48, 59, 104, 0, 0), (59, .aload_n 0, 60, 0, 0, 0), (60, .iconst 1, 61, 0, 0, 0), (61, .iload 5, 63, 0, 0, 0), (63, .invokevirtual 403, 66, 283, 3, 1815), (66, .ifCond .ne 6, 69, 72, 0, 0), (69, .goto 35, 72, 104, 0, 0), (72, .aload_n 0, 73, 0, 0, 0), (73, .getfield 91, 76, 11, 33, 1343), (76, .aload_n 0, 77, 0, 0, 0), (77, .iload 4, 79, 0, 0, 0), (79, .iload 5, 81, 0, 0, 0), (81, .invokestatic 418, 84, 293, 2, 1872), (84, .lconst 1, 85, 0, 0, 0), (85, .iload_n 1, 86, 0, 0, 0), (86, .iload_n 2, 87, 0, 0, 0), (87, .invokestatic 421, 90, 290, 2, 1875), (90, .lshl, 91, 0, 0, 0), (91, .ldc2_w 249, 94, 8, 0, 1637), (94, .lxor, 95, 0, 0, 0), (95, .land, 96, 0, 0, 0), (96, .invokevirtual 424, 99, 294, 2, 1878), (99, .iconst 1, 100, 0, 0, 0), (100, .bastore, 101, 0, 0, 0), (101, .iinc 3 1, 104, 0, 0, 0), (104, .iinc 5 1, 107, 0, 0, 0), (107, .goto (-66), 110, 41, 0, 0), (110, .iinc 4 1, 113, 0, 0, 0), (113, .goto (-85), 116, 28, 0, 0), (116, .aload_n 0, 117, 0, 0, 0), (117, .getfield 94, 120, 11, 34, 1344), (120, .iload_n 1, 121, 0, 0, 0), (121, .iload_n 2, 122, 0, 0, 0), (122, .invokestatic 421, 125, 290, 2, 1875), (125, .aload_n 0, 126, 0, 0, 0), (126, .iload_n 3, 127, 0, 0, 0), (127, .invokevirtual 409, 130, 286, 2, 1840), (130, .iastore, 131, 0, 0, 0), (131, .return_, 132, 0, 0, 0)]
noncomputable abbrev md_M_laysExcluded : pm_M := (⟨"TurnFieldModel", "laysExcluded", "(II)V"⟩, prog_14_method_112_code, 6, none, false, [0, 1871, 120, 1870, 95], cd_M_laysExcluded)
noncomputable def cd_M_excludedOf : List pm_I := [(0, .iconst 0, 1, 0, 0, 0), (1, .istore_n 3, 2, 0, 0, 0), (2, .iload_n 3, 3, 0, 0, 0), (3, .iload_n 1, 4, 0, 0, 0), (4, .if_icmp .gt 31, 7, 35, 0, 0), (7, .iconst 0, 8, 0, 0, 0), (8, .istore 4, 10, 0, 0, 0), (10, .iload 4, 12, 0, 0, 0), (12, .iload_n 2, 13, 0, 0, 0), (13, .if_icmp .gt 16, 16, 29, 0, 0), (16, .aload_n 0, 17, 0, 0, 0), (17, .iload_n 3, 18, 0, 0, 0), (18, .iload 4, 20, 0, 0, 0), (20, .invokevirtual 427, 23, 295, 3, 1868), (23, .iinc 4 1, 26, 0, 0, 0), (26, .goto (-16), 29, 10, 0, 0), (29, .iinc 3 1, 32, 0, 0, 0), (32, .goto (-30), 35, 2, 0, 0), (35, .aload_n 0, 36, 0, 0, 0), (36, .getfield 94, 39, 11, 34, 1344), (39, .iload_n 1, 40, 0, 0, 0), (40, .iload_n 2, 41, 0, 0, 0), (41, .invokestatic 421, 44, 290, 2, 1875), (44, .iaload, 45, 0, 0, 0), (45, .ireturn, 46, 0, 0, 0)]
noncomputable abbrev md_M_excludedOf : pm_M := (⟨"TurnFieldModel", "excludedOf", "(II)I"⟩, prog_14_method_113_code, 5, (some .int), false, [0, 1867, 120, 1866, 94], cd_M_excludedOf)
noncomputable def cd_M_cell : List pm_I := [(0, .aload_n 0, 1, 0, 0, 0), (1, .iload_n 1, 2, 0, 0, 0), (2, .iload_n 2, 3, 0, 0, 0), (3, .invokevirtual 430, 6, 291, 3, 1848), (6, .ifCond .ne 5, 9, 11, 0, 0), (9, .iconst (-1), 10, 0, 0, 0), (10, .ireturn, 11, 0, 0, 0), (11, .iload_n 3, 12, 0, 0, 0), (12, .tableswitch 72 0 2 #[28, 41, 48], 40, 0, 0, 0), (40, .aload_n 0, 41, 0, 0, 0), (41, .bipush 6, 43, 0, 0, 0), (43, .invokevirtual 433, 46, 288, 2, 1856), (46, .aload_n 0, 47, 0, 0, 0), (47, .iload_n 1, 48, 0, 0, 0), (48, .iload_n 2, 49, 0, 0, 0), (49, .invokevirtual 436, 52, 292, 3, 1860), (52, .ireturn, 53, 0, 0, 0), (53, .aload_n 0, 54, 0, 0, 0), (54, .iload_n 1, 55, 0, 0, 0), (55, .iload_n 2, 56, 0, 0, 0), (56, .invokevirtual 439, 59, 296, 3, 1864), (59, .ireturn, 60, 0, 0, 0), (60, .aload_n 0, 61, 0, 0, 0), (61, .getfield 7, 64, 11, 0, 1310), (64, .bipush 6, 66, 0, 0, 0), (66, .laload, 67, 0, 0, 0), (67, .iload_n 1, 68, 0, 0, 0), (68, .iload_n 2, 69, 0, 0, 0), (69, .invokestatic 421, 72, 290, 2, 1875), (72, .invokestatic 158, 75, 186, 2, 1495), (75, .ifCond .eq 7, 78, 82, 0, 0), (78, .iconst 1, 79, 0, 0, 0), (79, .goto 4, 82, 83, 0, 0), (82, .iconst 0, 83, 0, 0, 0), (83, .ireturn, 84, 0, 0, 0), (84, .iconst (-1), 85, 0, 0, 0), (85, .ireturn, 86, 0, 0, 0)]
noncomputable abbrev md_M_cell : pm_M := (⟨"TurnFieldModel", "cell", "(III)I"⟩, prog_14_method_114_code, 4, (some .int), false, [0, 1847, 120, 1845, 1846], cd_M_cell)
noncomputable def cd_M_laysCells : List pm_I := [(0, .aload_n 0, 1, 0, 0, 0), (1, .bipush 6, 3, 0, 0, 0), (3, .invokevirtual 433, 6, 288, 2, 1856), (6, .iconst 0, 7, 0, 0, 0), (7, .istore_n 1, 8, 0, 0, 0), (8, .iload_n 1, 9, 0, 0, 0), (9, .bipush 6, 11, 0, 0, 0), (11, .if_icmp .ge 39, 14, 50, 0, 0), (14, .iconst 0, 15, 0, 0, 0), (15, .istore_n 2, 16, 0, 0, 0), (16, .iload_n 2, 17, 0, 0, 0), (17, .bipush 6, 19, 0, 0, 0), (19, .if_icmp .ge 25, 22, 44, 0, 0), (22, .aload_n 0, 23, 0, 0, 0), (23, .getfield 97, 26, 11, 35, 1345), (26, .iload_n 1, 27, 0, 0, 0), (27, .iload_n 2, 28, 0, 0, 0), (28, .invokestatic 421, 31, 290, 2, 1875), (31, .aload_n 0, 32, 0, 0, 0), (32, .iload_n 1, 33, 0, 0, 0), (33, .iload_n 2, 34, 0, 0, 0), (34, .invokevirtual 436, 37, 292, 3, 1860), (37, .iastore, 38, 0, 0, 0), (38, .iinc 2 1, 41, 0, 0, 0), (41, .goto (-25), 44, 16, 0, 0), (44, .iinc 1 1, 47, 0, 0, 0), (47, .goto (-39), 50, 8, 0, 0), (50, .return_, 51, 0, 0, 0)]
noncomputable abbrev md_M_laysCells : pm_M := (⟨"TurnFieldModel", "laysCells", "()V"⟩, prog_14_method_115_code, 3, none, false, [0, 1889, 120, 1888, 97], cd_M_laysCells)
noncomputable def cd_M_worthOfAll : List pm_I := [(0, .iconst 0, 1, 0, 0, 0), (1, .istore_n 3, 2, 0, 0, 0), (2, .iconst 0, 3, 0, 0, 0), (3, .istore 4, 5, 0, 0, 0), (5, .iload 4, 7, 0, 0, 0), (7, .bipush 36, 9, 0, 0, 0), (9, .if_icmp .ge 32, 12, 41, 0, 0), (12, .iload_n 3, 13, 0, 0, 0), (13, .lload_n 1, 14, 0, 0, 0), (14, .iload 4, 16, 0, 0, 0), (16, .invokestatic 158, 19, 186, 2, 1495), (19, .ifCond .eq 13, 22, 32, 0, 0), (22, .aload_n 0, 23, 0, 0, 0), (23, .getfield 97, 26, 11, 35, 1345), (26, .iload 4, 28, 0, 0, 0), (28, .iaload, 29, 0, 0, 0), (29, .goto 4, 32, 33, 0, 0), (32, .iconst 0, 33, 0, 0, 0), (33, .ixor, 34, 0, 0, 0), (34, .istore_n 3, 35, 0, 0, 0), (35, .iinc 4 1, 38, 0, 0, 0), (38, .goto (-33), 41, 5, 0, 0), (41, .iload_n 3, 42, 0, 0, 0), (42, .ireturn, 43, 0, 0, 0)]
noncomputable abbrev md_M_worthOfAll : pm_M := (⟨"TurnFieldModel", "worthOfAll", "(J)I"⟩, prog_14_method_116_code, 5, (some .int), false, [0, 1893, 120, 1892, 98], cd_M_worthOfAll)
noncomputable def cd_M_total : List pm_I := [(0, .aload_n 0, 1, 0, 0, 0), (1, .invokevirtual 442, 4, 298, 1, 1886), (4, .aload_n 0, 5, 0, 0, 0), (5, .aload_n 0, 6, 0, 0, 0), (6, .getfield 7, 9, 11, 0, 1310), (9, .bipush 6, 11, 0, 0, 0), (11, .laload, 12, 0, 0, 0), (12, .invokevirtual 445, 15, 299, 2, 1890), (15, .i2l, 16, 0, 0, 0), (16, .lreturn, 17, 0, 0, 0)]
noncomputable abbrev md_M_total : pm_M := (⟨"TurnFieldModel", "total", "()J"⟩, prog_14_method_117_code, 1, (some .long), false, [0, 1885, 120, 1883, 1884], cd_M_total)
noncomputable def cd_M_turn : List pm_I := [(0, .aload_n 0, 1, 0, 0, 0), (1, .iload_n 1, 2, 0, 0, 0), (2, .iload_n 2, 3, 0, 0, 0), (3, .invokevirtual 430, 6, 291, 3, 1848), (6, .ifCond .ne 5, 9, 11, 0, 0), (9, .iconst (-1), 10, 0, 0, 0), (10, .ireturn, 11, 0, 0, 0), (11, .aload_n 0, 12, 0, 0, 0), (12, .invokevirtual 315, 15, 253, 1, 1719), (15, .aload_n 0, 16, 0, 0, 0), (16, .getfield 7, 19, 11, 0, 1310), (19, .bipush 6, 21, 0, 0, 0), (21, .dup2, 22, 0, 0, 0), (22, .laload, 23, 0, 0, 0), (23, .lconst 1, 24, 0, 0, 0), (24, .iload_n 1, 25, 0, 0, 0), (25, .iload_n 2, 26, 0, 0, 0), (26, .invokestatic 421, 29, 290, 2, 1875), (29, .lshl, 30, 0, 0, 0), (30, .lxor, 31, 0, 0, 0), (31, .lastore, 32, 0, 0, 0), (32, .aload_n 0, 33, 0, 0, 0), (33, .invokevirtual 311, 36, 257, 1, 1711), (36, .ireturn, 37, 0, 0, 0)]
noncomputable abbrev md_M_turn : pm_M := (⟨"TurnFieldModel", "turn", "(II)I"⟩, prog_14_method_118_code, 3, (some .int), false, [0, 1897, 120, 1895, 1896], cd_M_turn)
noncomputable def cd_M_isMove : List pm_I := [(0, .aload_n 0, 1, 0, 0, 0), (1, .iconst 0, 2, 0, 0, 0), (2, .iload_n 1, 3, 0, 0, 0), (3, .invokevirtual 403, 6, 283, 3, 1815), (6, .ifCond .eq 40, 9, 46, 0, 0), (9, .aload_n 0, 10, 0, 0, 0), (10, .iconst 1, 11, 0, 0, 0), (11, .iload_n 2, 12, 0, 0, 0), (12, .invokevirtual 403, 15, 283, 3, 1815), (15, .ifCond .eq 31, 18, 46, 0, 0), (18, .aload_n 0, 19, 0, 0, 0), (19, .getfield 7, 22, 11, 0, 1310), (22, .bipush 6, 24, 0, 0, 0), (24, .laload, 25, 0, 0, 0), (25, .iload_n 1, 26, 0, 0, 0), (26, .invokestatic 392, 29, 280, 1, 1822), (29, .iload_n 2, 30, 0, 0, 0), (30, .invokestatic 392, 33, 280, 1, 1822), (33, .invokestatic 421, 36, 290, 2, 1875), (36, .invokestatic 158, 39, 186, 2, 1495), (39, .ifCond .eq 7, 42, 46, 0, 0), (42, .iconst 1, 43, 0, 0, 0), (43, .goto 4, 46, 47, 0, 0), (46, .iconst 0, 47, 0, 0, 0), (47, .ireturn, 48, 0, 0, 0)]
noncomputable abbrev md_M_isMove : pm_M := (⟨"TurnFieldModel", "isMove", "(II)Z"⟩, prog_14_method_119_code, 3, (some .boolean), false, [0, 1905, 120, 1904, 99], cd_M_isMove)
noncomputable def cd_M_play : List pm_I := [(0, .iload_n 1, 1, 0, 0, 0), (1, .i2l, 2, 0, 0, 0), (2, .lconst 1, 3, 0, 0, 0), (3, .iconst 1, 4, 0, 0, 0), (4, .aload_n 0, 5, 0, 0, 0), (5, .iconst 0, 6, 0, 0, 0), (6, .invokevirtual 415, 9, 279, 2, 1852), (9, .ishl, 10, 0, 0, 0), (10, .iconst 1, 11, 0, 0, 0), (11, .isub, 12, 0, 0, 0), (12, .i2l, 13, 0, 0, 0), (13, .invokestatic 170, 16, 185, 3, 1515), (16, .ifCond .eq 22, 19, 38, 0, 0), (19, .iload_n 2, 20, 0, 0, 0), (20, .i2l, 21, 0, 0, 0), (21, .lconst 1, 22, 0, 0, 0), (22, .iconst 1, 23, 0, 0, 0), (23, .aload_n 0, 24, 0, 0, 0), (24, .iconst 1, 25, 0, 0, 0), (25, .invokevirtual 415, 28, 279, 2, 1852), (28, .ishl, 29, 0, 0, 0), (29, .iconst 1, 30, 0, 0, 0), (30, .isub, 31, 0, 0, 0), (31, .i2l, 32, 0, 0, 0), (32, .invokestatic 170, 35, 185, 3, 1515), (35, .ifCond .ne 5, 38, 40, 0, 0), (38, .iconst (-1), 39, 0, 0, 0), (39, .ireturn, 40, 0, 0, 0), (40, .aload_n 0, 41, 0, 0, 0), (41, .iload_n 1, 42, 0, 0, 0), (42, .iload_n 2, 43, 0, 0, 0), (43, .invokevirtual 448, 46, 302, 3, 1902), (46, .ifCond .ne 6, 49, 52, 0, 0), (49, .bipush (-2), 51, 0, 0, 0), (51, .ireturn, 52, 0, 0, 0), (52, .aload_n 0, 53, 0, 0, 0), (53, .invokevirtual 315, 56, 253, 1, 1719), (56, .aload_n 0, 57, 0, 0, 0), (57, .getfield 7, 60, 11, 0, 1310), (60, .bipush 6, 62, 0, 0, 0), (62, .dup2, 63, 0, 0, 0), (63, .laload, 64, 0, 0, 0), (64, .iload_n 1, 65, 0, 0, 0), (65, .iload_n 2, 66, 0, 0, 0), (66, .invokestatic 418, 69, 293, 2, 1872), (69, .lxor, 70, 0, 0, 0), (70, .lastore, 71, 0, 0, 0), (71, .aload_n 0, 72, 0, 0, 0), (72, .invokevirtual 311, 75, 257, 1, 1711), (75, .ireturn, 76, 0, 0, 0)]
noncomputable abbrev md_M_play : pm_M := (⟨"TurnFieldModel", "play", "(II)I"⟩, prog_14_method_120_code, 3, (some .int), false, [0, 1901, 120, 1899, 1900], cd_M_play)
noncomputable def cd_M_findsOf : List pm_I := [(0, .iconst 1, 1, 0, 0, 0), (1, .iload_n 1, 2, 0, 0, 0), (2, .ishl, 3, 0, 0, 0), (3, .istore 5, 5, 0, 0, 0), (5, .iload 5, 7, 0, 0, 0), (7, .iconst 2, 8, 0, 0, 0), (8, .iload_n 1, 9, 0, 0, 0), (9, .ishl, 10, 0, 0, 0), (10, .if_icmp .ge 126, 13, 136, 0, 0), (13, .aload_n 0, 14, 0, 0, 0), (14, .iconst 0, 15, 0, 0, 0), (15, .iload 5, 17, 0, 0, 0), (17, .invokevirtual 403, 20, 283, 3, 1815), (20, .ifCond .ne 6, 23, 26, 0, 0), (23, .goto 107, 26, 130, 0, 0), (26, .iconst 1, 27, 0, 0, 0), (27, .iload_n 2, 28, 0, 0, 0), (28, .ishl, 29, 0, 0, 0), (29, .istore 6, 31, 0, 0, 0), (31, .iload 6, 33, 0, 0, 0), (33, .iconst 2, 34, 0, 0, 0), (34, .iload_n 2, 35, 0, 0, 0), (35, .ishl, 36, 0, 0, 0), (36, .if_icmp .ge 94, 39, 130, 0, 0), (39, .aload_n 0, 40, 0, 0, 0), (40, .iconst 1, 41, 0, 0, 0), (41, .iload 6, 43, 0, 0, 0), (43, .invokevirtual 403, 46, 283, 3, 1815), (46, .ifCond .ne 6, 49, 52, 0, 0), (49, .goto 75, 52, 124, 0, 0), (52, .aload_n 0, 53, 0, 0, 0), (53, .aload_n 0, 54, 0, 0, 0), (54, .getfield 7, 57, 11, 0, 1310), (57, .bipush 6, 59, 0, 0, 0), (59, .laload, 60, 0, 0, 0), (60, .iload 5, 62, 0, 0, 0), (62, .iload 6, 64, 0, 0, 0), (64, .invokestatic 418, 67, 293, 2, 1872), (67, .lxor, 68, 0, 0, 0), (68, .invokevirtual 445, 71, 299, 2, 1890), (71, .istore 7, 73, 0, 0, 0), (73, .iload_n 3, 74, 0, 0, 0), (74, .ifCond .eq 11, 77, 85, 0, 0), (77, .iload 7, 79, 0, 0, 0), (79, .ifCond .eq 6, 82, 85, 0, 0), (82, .goto 42, 85, 124, 0, 0), (85, .aload_n 0, 86, 0, 0, 0), (86, .iload 5, 88, 0, 0, 0), (88, .putfield 451, 91, 11, 36, 1346), (91, .aload_n 0, 92, 0, 0, 0), (92, .iload 6, 94, 0, 0, 0), (94, .putfield 454, 97, 11, 37, 1347), (97, .aload_n 0, 98, 0, 0, 0), (98, .iload 7, 100, 0, 0, 0), (100, .putfield 457, 103, 11, 38, 1348), (103, .aload_n 0, 104, 0, 0, 0), (104, .getfield 460, 107, 11, 39, 1349), (107, .iload 4, 109, 0, 0, 0), (109, .if_icmp .ne 5, 112, 114, 0, 0), (112, .iconst 1, 113, 0, 0, 0), (113, .ireturn, 114, 0, 0, 0), (114, .aload_n 0, 115, 0, 0, 0), (115, .dup, 116, 0, 0, 0), (116, .getfield 460, 119, 11, 39, 1349), (119, .iconst 1, 120, 0, 0, 0), (120, .iadd, 121, 0, 0, 0), (121, .putfield 460, 124, 11, 39, 1349), (124, .iinc 6 1, 127, 0, 0, 0), (127, .goto (-96), 130, 31, 0, 0), (130, .iinc 5 1, 133, 0, 0, 0), (133, .goto (-128), 136, 5, 0, 0), (136, .iconst 0, 137, 0, 0, 0), (137, .ireturn, 138, 0, 0, 0)]
noncomputable abbrev md_M_findsOf : pm_M := (⟨"TurnFieldModel", "findsOf", "(IIZI)Z"⟩, prog_14_method_121_code, 8, (some .boolean), false, [0, 1917, 120, 1916, 101], cd_M_findsOf)
noncomputable def cd_M_finds : List pm_I := [(0, .aload_n 0, 1, 0, 0, 0), (1, .invokevirtual 442, 4, 298, 1, 1886), (4, .aload_n 0, 5, 0, 0, 0), (5, .iconst 0, 6, 0, 0, 0), (6, .putfield 460, 9, 11, 39, 1349), (9, .iconst 0, 10, 0, 0, 0), (10, .istore_n 3, 11, 0, 0, 0), (11, .iload_n 3, 12, 0, 0, 0), (12, .aload_n 0, 13, 0, 0, 0), (13, .iconst 0, 14, 0, 0, 0), (14, .invokevirtual 415, 17, 279, 2, 1852), (17, .if_icmp .ge 61, 20, 78, 0, 0), (20, .iconst 0, 21, 0, 0, 0), (21, .istore 4, 23, 0, 0, 0), (23, .iload 4, 25, 0, 0, 0), (25, .aload_n 0, 26, 0, 0, 0), (26, .iconst 1, 27, 0, 0, 0), (27, .invokevirtual 415, 30, 279, 2, 1852), (30, .if_icmp .ge 42, 33, 72, 0, 0), (33, .aload_n 0, 34, 0, 0, 0), (34, .getfield 7, 37, 11, 0, 1310), (37, .bipush 6, 39, 0, 0, 0), (39, .laload, 40, 0, 0, 0), (40, .iload_n 3, 41, 0, 0, 0), (41, .iload 4, 43, 0, 0, 0), (43, .invokestatic 421, 46, 290, 2, 1875), (46, .invokestatic 158, 49, 186, 2, 1495), (49, .ifCond .eq 17, 52, 66, 0, 0), (52, .aload_n 0, 53, 0, 0, 0), (53, .iload_n 3, 54, 0, 0, 0), (54, .iload 4, 56, 0, 0, 0), (56, .iload_n 1, 57, 0, 0, 0), (57, .iload_n 2, 58, 0, 0, 0), (58, .invokevirtual 463, 61, 304, 5, 1914), (61, .ifCond .eq 5, 64, 66, 0, 0), (64, .iconst 1, 65, 0, 0, 0), (65, .ireturn, 66, 0, 0, 0), (66, .iinc 4 1, 69, 0, 0, 0), (69, .goto (-46), 72, 23, 0, 0), (72, .iinc 3 1, 75, 0, 0, 0), (75, .goto (-64), 78, 11, 0, 0), (78, .iconst 0, 79, 0, 0, 0), (79, .ireturn, 80, 0, 0, 0)]
noncomputable abbrev md_M_finds : pm_M := (⟨"TurnFieldModel", "finds", "(ZI)Z"⟩, prog_14_method_122_code, 5, (some .boolean), false, [0, 1913, 120, 1912, 100], cd_M_finds)
noncomputable def cd_M_answer : List pm_I := [(0, .aload_n 0, 1, 0, 0, 0), (1, .iconst 1, 2, 0, 0, 0), (2, .iconst 0, 3, 0, 0, 0), (3, .invokevirtual 467, 6, 305, 3, 1910), (6, .istore_n 1, 7, 0, 0, 0), (7, .iload_n 1, 8, 0, 0, 0), (8, .ifCond .ne 15, 11, 23, 0, 0), (11, .aload_n 0, 12, 0, 0, 0), (12, .iconst 0, 13, 0, 0, 0), (13, .iconst 0, 14, 0, 0, 0), (14, .invokevirtual 467, 17, 305, 3, 1910), (17, .ifCond .ne 6, 20, 23, 0, 0), (20, .bipush (-2), 22, 0, 0, 0), (22, .ireturn, 23, 0, 0, 0), (23, .aload_n 0, 24, 0, 0, 0), (24, .invokevirtual 315, 27, 253, 1, 1719), (27, .aload_n 0, 28, 0, 0, 0), (28, .getfield 7, 31, 11, 0, 1310), (31, .bipush 6, 33, 0, 0, 0), (33, .dup2, 34, 0, 0, 0), (34, .laload, 35, 0, 0, 0), (35, .aload_n 0, 36, 0, 0, 0), (36, .getfield 451, 39, 11, 36, 1346), (39, .aload_n 0, 40, 0, 0, 0), (40, .getfield 454, 43, 11, 37, 1347), (43, .invokestatic 418, 46, 293, 2, 1872), (46, .lxor, 47, 0, 0, 0), (47, .lastore, 48, 0, 0, 0), (48, .iload_n 1, 49, 0, 0, 0), (49, .ifCond .eq 7, 52, 56, 0, 0), (52, .iconst 1, 53, 0, 0, 0), (53, .goto 4, 56, 57, 0, 0), (56, .iconst 0, 57, 0, 0, 0), (57, .ireturn, 58, 0, 0, 0)]
noncomputable abbrev md_M_answer : pm_M := (⟨"TurnFieldModel", "answer", "()I"⟩, prog_14_method_123_code, 2, (some .int), false, [0, 1909, 120, 1907, 1908], cd_M_answer)
noncomputable def cd_M_moves : List pm_I := [(0, .iload_n 1, 1, 0, 0, 0), (1, .i2l, 2, 0, 0, 0), (2, .lconst 0, 3, 0, 0, 0), (3, .lconst 1, 4, 0, 0, 0), (4, .invokestatic 170, 7, 185, 3, 1515), (7, .ifCond .ne 5, 10, 12, 0, 0), (10, .iconst (-1), 11, 0, 0, 0), (11, .ireturn, 12, 0, 0, 0), (12, .aload_n 0, 13, 0, 0, 0), (13, .iload_n 1, 14, 0, 0, 0), (14, .iconst 1, 15, 0, 0, 0), (15, .if_icmp .ne 7, 18, 22, 0, 0), (18, .iconst 1, 19, 0, 0, 0), (19, .goto 4, 22, 23, 0, 0), (22, .iconst 0, 23, 0, 0, 0), (23, .iconst (-1), 24, 0, 0, 0), (24, .invokevirtual 467, 27, 305, 3, 1910), (27, .istore_n 2, 28, 0, 0, 0), (28, .aload_n 0, 29, 0, 0, 0), (29, .getfield 460, 32, 11, 39, 1349), (32, .ireturn, 33, 0, 0, 0)]
noncomputable abbrev md_M_moves : pm_M := (⟨"TurnFieldModel", "moves", "(I)I"⟩, prog_14_method_124_code, 3, (some .int), false, [0, 1921, 120, 1919, 1920], cd_M_moves)
noncomputable def cd_M_move : List pm_I := [(0, .iload_n 1, 1, 0, 0, 0), (1, .i2l, 2, 0, 0, 0), (2, .lconst 0, 3, 0, 0, 0), (3, .lconst 1, 4, 0, 0, 0), (4, .invokestatic 170, 7, 185, 3, 1515), (7, .ifCond .eq 19, 10, 26, 0, 0), (10, .iload_n 2, 11, 0, 0, 0), (11, .ifCond .lt 15, 14, 26, 0, 0), (14, .iload_n 3, 15, 0, 0, 0), (15, .i2l, 16, 0, 0, 0), (16, .lconst 1, 17, 0, 0, 0), (17, .ldc2_w 26, 20, 12, 0, 1286), (20, .invokestatic 170, 23, 185, 3, 1515), (23, .ifCond .ne 5, 26, 28, 0, 0), (26, .iconst (-1), 27, 0, 0, 0), (27, .ireturn, 28, 0, 0, 0), (28, .aload_n 0, 29, 0, 0, 0), (29, .iload_n 1, 30, 0, 0, 0), (30, .iconst 1, 31, 0, 0, 0), (31, .if_icmp .ne 7, 34, 38, 0, 0), (34, .iconst 1, 35, 0, 0, 0), (35, .goto 4, 38, 39, 0, 0), (38, .iconst 0, 39, 0, 0, 0), (39, .iload_n 2, 40, 0, 0, 0), (40, .invokevirtual 467, 43, 305, 3, 1910), (43, .ifCond .ne 6, 46, 49, 0, 0), (46, .bipush (-2), 48, 0, 0, 0), (48, .ireturn, 49, 0, 0, 0), (49, .iload_n 3, 50, 0, 0, 0), (50, .iconst 1, 51, 0, 0, 0), (51, .if_icmp .ne 10, 54, 61, 0, 0), (54, .aload_n 0, 55, 0, 0, 0), (55, .getfield 451, 58, 11, 36, 1346), (58, .goto 19, 61, 77, 0, 0), (61, .iload_n 3, 62, 0, 0, 0), (62, .iconst 2, 63, 0, 0, 0), (63, .if_icmp .ne 10, 66, 73, 0, 0), (66, .aload_n 0, 67, 0, 0, 0), (67, .getfield 454, 70, 11, 37, 1347), (70, .goto 7, 73, 77, 0, 0), (73, .aload_n 0, 74, 0, 0, 0), (74, .getfield 457, 77, 11, 38, 1348), (77, .ireturn, 78, 0, 0, 0)]
noncomputable abbrev md_M_move : pm_M := (⟨"TurnFieldModel", "move", "(III)I"⟩, prog_14_method_125_code, 4, (some .int), false, [0, 1925, 120, 1923, 1924], cd_M_move)
noncomputable def cd_M_close : List pm_I := [(0, .iconst 0, 1, 0, 0, 0), (1, .istore_n 3, 2, 0, 0, 0), (2, .iconst 0, 3, 0, 0, 0), (3, .istore 4, 5, 0, 0, 0), (5, .iload 4, 7, 0, 0, 0), (7, .aload_n 0, 8, 0, 0, 0), (8, .iconst 0, 9, 0, 0, 0), (9, .invokevirtual 415, 12, 279, 2, 1852), (12, .if_icmp .ge 58, 15, 70, 0, 0), (15, .iconst 0, 16, 0, 0, 0), (16, .istore 5, 18, 0, 0, 0), (18, .iload 5, 20, 0, 0, 0), (20, .aload_n 0, 21, 0, 0, 0), (21, .iconst 1, 22, 0, 0, 0), (22, .invokevirtual 415, 25, 279, 2, 1852), (25, .if_icmp .ge 39, 28, 64, 0, 0), (28, .lload_n 1, 29, 0, 0, 0), (29, .iload 4, 31, 0, 0, 0), (31, .iload 5, 33, 0, 0, 0), (33, .invokestatic 421, 36, 290, 2, 1875), (36, .invokestatic 158, 39, 186, 2, 1495), (39, .ifCond .eq 19, 42, 58, 0, 0), (42, .iload_n 3, 43, 0, 0, 0), (43, .iconst 1, 44, 0, 0, 0), (44, .aload_n 0, 45, 0, 0, 0), (45, .iconst 1, 46, 0, 0, 0), (46, .invokevirtual 415, 49, 279, 2, 1852), (49, .iload 4, 51, 0, 0, 0), (51, .imul, 52, 0, 0, 0), (52, .iload 5, 54, 0, 0, 0), (54, .iadd, 55, 0, 0, 0), (55, .ishl, 56, 0, 0, 0), (56, .ior, 57, 0, 0, 0), (57, .istore_n 3, 58, 0, 0, 0), (58, .iinc 5 1, 61, 0, 0, 0), (61, .goto (-43), 64, 18, 0, 0), (64, .iinc 4 1, 67, 0, 0, 0), (67, .goto (-62), 70, 5, 0, 0), (70, .iload_n 3, 71, 0, 0, 0), (71, .ireturn, 72, 0, 0, 0)]
noncomputable abbrev md_M_close : pm_M := (⟨"TurnFieldModel", "close", "(J)I"⟩, prog_14_method_126_code, 6, (some .int), false, [0, 1937, 120, 1936, 103], cd_M_close)
noncomputable def cd_M_laysMoves : List pm_I := [(0, .iconst 0, 1, 0, 0, 0), (1, .istore_n 1, 2, 0, 0, 0), (2, .iconst 0, 3, 0, 0, 0), (3, .istore_n 2, 4, 0, 0, 0), (4, .iload_n 2, 5, 0, 0, 0), (5, .aload_n 0, 6, 0, 0, 0), (6, .iconst 0, 7, 0, 0, 0), (7, .invokevirtual 415, 10, 279, 2, 1852), (10, .aload_n 0, 11, 0, 0, 0), (11, .iconst 1, 12, 0, 0, 0), (12, .invokevirtual 415, 15, 279, 2, 1852), (15, .imul, 16, 0, 0, 0), (16, .if_icmp .ge 125, 19, 141, 0, 0), (19, .aload_n 0, 20, 0, 0, 0), (20, .getfield 106, 23, 11, 42, 1352), (23, .iload_n 2, 24, 0, 0, 0), (24, .iload_n 1, 25, 0, 0, 0), (25, .iastore, 26, 0, 0, 0), (26, .iload_n 2, 27, 0, 0, 0), (27, .aload_n 0, 28, 0, 0, 0), (28, .iconst 1, 29, 0, 0, 0), (29, .invokevirtual 415, 32, 279, 2, 1852), (32, .idiv, 33, 0, 0, 0), (33, .istore_n 3, 34, 0, 0, 0), (34, .iload_n 2, 35, 0, 0, 0), (35, .aload_n 0, 36, 0, 0, 0), (36, .iconst 1, 37, 0, 0, 0), (37, .invokevirtual 415, 40, 279, 2, 1852), (40, .irem, 41, 0, 0, 0), (41, .istore 4, 43, 0, 0, 0), (43, .iconst 1, 44, 0, 0, 0), (44, .iload_n 3, 45, 0, 0, 0), (45, .ishl, 46, 0, 0, 0), (46, .istore 5, 48, 0, 0, 0), (48, .iload 5, 50, 0, 0, 0), (50, .iconst 2, 51, 0, 0, 0), (51, .iload_n 3, 52, 0, 0, 0), (52, .ishl, 53, 0, 0, 0), (53, .if_icmp .ge 73, 56, 126, 0, 0), (56, .iconst 1, 57, 0, 0, 0), (57, .iload 4, 59, 0, 0, 0), (59, .ishl, 60, 0, 0, 0), (60, .istore 6, 62, 0, 0, 0), (62, .iload 6, 64, 0, 0, 0), (64, .iconst 2, 65, 0, 0, 0), (65, .iload 4, 67, 0, 0, 0), (67, .ishl, 68, 0, 0, 0), (68, .if_icmp .ge 52, 71, 120, 0, 0), (71, .aload_n 0, 72, 0, 0, 0), (72, .iconst 0, 73, 0, 0, 0), (73, .iload 5, 75, 0, 0, 0), (75, .invokevirtual 403, 78, 283, 3, 1815), (78, .ifCond .eq 36, 81, 114, 0, 0), (81, .aload_n 0, 82, 0, 0, 0), (82, .iconst 1, 83, 0, 0, 0), (83, .iload 6, 85, 0, 0, 0), (85, .invokevirtual 403, 88, 283, 3, 1815), (88, .ifCond .ne 6, 91, 94, 0, 0), (91, .goto 23, 94, 114, 0, 0), (94, .aload_n 0, 95, 0, 0, 0), (95, .getfield 109, 98, 11, 43, 1353), (98, .iload_n 1, 99, 0, 0, 0), (99, .aload_n 0, 100, 0, 0, 0), (100, .iload 5, 102, 0, 0, 0), (102, .iload 6, 104, 0, 0, 0), (104, .invokestatic 418, 107, 293, 2, 1872), (107, .invokevirtual 471, 110, 309, 2, 1934), (110, .iastore, 111, 0, 0, 0), (111, .iinc 1 1, 114, 0, 0, 0), (114, .iinc 6 1, 117, 0, 0, 0), (117, .goto (-55), 120, 62, 0, 0), (120, .iinc 5 1, 123, 0, 0, 0), (123, .goto (-75), 126, 48, 0, 0), (126, .aload_n 0, 127, 0, 0, 0), (127, .getfield 106, 130, 11, 42, 1352), (130, .iload_n 2, 131, 0, 0, 0), (131, .iconst 1, 132, 0, 0, 0), (132, .iadd, 133, 0, 0, 0), (133, .iload_n 1, 134, 0, 0, 0), (134, .iastore, 135, 0, 0, 0), (135, .iinc 2 1, 138, 0, 0, 0), (138, .goto (-134), 141, 4, 0, 0), (141, .return_, 142, 0, 0, 0)]
noncomputable abbrev md_M_laysMoves : pm_M := (⟨"TurnFieldModel", "laysMoves", "()V"⟩, prog_14_method_127_code, 7, none, false, [0, 1933, 120, 1932, 102], cd_M_laysMoves)
noncomputable def cd_M_laysGame : List pm_I := [(0, .iconst 0, 1, 0, 0, 0), (1, .istore_n 2, 2, 0, 0, 0), (2, .iconst 0, 3, 0, 0, 0), (3, .istore_n 3, 4, 0, 0, 0), (4, .iconst 0, 5, 0, 0, 0), (5, .istore 4, 7, 0, 0, 0), (7, .iconst 0, 8, 0, 0, 0), (8, .istore 5, 10, 0, 0, 0), (10, .iload 5, 12, 0, 0, 0), (12, .aload_n 0, 13, 0, 0, 0), (13, .iconst 0, 14, 0, 0, 0), (14, .invokevirtual 415, 17, 279, 2, 1852), (17, .aload_n 0, 18, 0, 0, 0), (18, .iconst 1, 19, 0, 0, 0), (19, .invokevirtual 415, 22, 279, 2, 1852), (22, .imul, 23, 0, 0, 0), (23, .if_icmp .ge 116, 26, 139, 0, 0), (26, .iload_n 1, 27, 0, 0, 0), (27, .iload 5, 29, 0, 0, 0), (29, .ishr, 30, 0, 0, 0), (30, .iconst 1, 31, 0, 0, 0), (31, .iand, 32, 0, 0, 0), (32, .ifCond .ne 6, 35, 38, 0, 0), (35, .goto 98, 38, 133, 0, 0), (38, .aload_n 0, 39, 0, 0, 0), (39, .getfield 106, 42, 11, 42, 1352), (42, .iload 5, 44, 0, 0, 0), (44, .iaload, 45, 0, 0, 0), (45, .istore 6, 47, 0, 0, 0), (47, .iload 6, 49, 0, 0, 0), (49, .aload_n 0, 50, 0, 0, 0), (50, .getfield 106, 53, 11, 42, 1352), (53, .iload 5, 55, 0, 0, 0), (55, .iconst 1, 56, 0, 0, 0), (56, .iadd, 57, 0, 0, 0), (57, .iaload, 58, 0, 0, 0), (58, .if_icmp .ge 75, 61, 133, 0, 0), (61, .iload_n 1, 62, 0, 0, 0), (62, .aload_n 0, 63, 0, 0, 0), (63, .getfield 109, 66, 11, 43, 1353), (66, .iload 6, 68, 0, 0, 0), (68, .iaload, 69, 0, 0, 0), (69, .ixor, 70, 0, 0, 0), (70, .istore 7, 72, 0, 0, 0), (72, .iconst 1, 73, 0, 0, 0), (73, .aload_n 0, 74, 0, 0, 0), (74, .getfield 103, 77, 11, 41, 1351), (77, .iload 7, 79, 0, 0, 0), (79, .iaload, 80, 0, 0, 0), (80, .iadd, 81, 0, 0, 0), (81, .istore 8, 83, 0, 0, 0), (83, .aload_n 0, 84, 0, 0, 0), (84, .getfield 100, 87, 11, 40, 1350), (87, .iload 7, 89, 0, 0, 0), (89, .baload, 90, 0, 0, 0), (90, .ifCond .ne 24, 93, 114, 0, 0), (93, .iload 4, 95, 0, 0, 0), (95, .ifCond .eq 9, 98, 104, 0, 0), (98, .iload 8, 100, 0, 0, 0), (100, .iload_n 2, 101, 0, 0, 0), (101, .if_icmp .ge 8, 104, 109, 0, 0), (104, .iload 8, 106, 0, 0, 0), (106, .goto 4, 109, 110, 0, 0), (109, .iload_n 2, 110, 0, 0, 0), (110, .istore_n 2, 111, 0, 0, 0), (111, .iconst 1, 112, 0, 0, 0), (112, .istore 4, 114, 0, 0, 0), (114, .iload 8, 116, 0, 0, 0), (116, .iload_n 3, 117, 0, 0, 0), (117, .if_icmp .le 8, 120, 125, 0, 0), (120, .iload 8, 122, 0, 0, 0), (122, .goto 4, 125, 126, 0, 0), (125, .iload_n 3, 126, 0, 0, 0), (126, .istore_n 3, 127, 0, 0, 0), (127, .iinc 6 1, 130, 0, 0, 0), (130, .goto (-83), 133, 47, 0, 0), (133, .iinc 5 1, 136, 0, 0, 0), (136, .goto (-126), 139, 10, 0, 0), (139, .aload_n 0, 140, 0, 0, 0), (140, .getfield 100, 143, 11, 40, 1350), (143, .iload_n 1, 144, 0, 0, 0), (144, .iload 4, 146, 0, 0, 0), (146, .bastore, 147, 0, 0, 0), (147, .aload_n 0, 148, 0, 0, 0), (148, .getfield 103, 151, 11, 41, 1351), (151, .iload_n 1, 152, 0, 0, 0), (152, .iload 4, 154, 0, 0, 0), (154, .ifCond .eq 7, 157, 161, 0, 0), (157, .iload_n 2, 158, 0, 0, 0), (158, .goto 4, 161, 162, 0, 0), (161, .iload_n 3, 162, 0, 0, 0), (162, .iastore, 163, 0, 0, 0), (163, .return_, 164, 0, 0, 0)]
noncomputable abbrev md_M_laysGame : pm_M := (⟨"TurnFieldModel", "laysGame", "(I)V"⟩, prog_14_method_128_code, 9, none, false, [0, 1941, 120, 1940, 104], cd_M_laysGame)
noncomputable def cd_M_game : List pm_I := [(0, .iload_n 1, 1, 0, 0, 0), (1, .i2l, 2, 0, 0, 0), (2, .lconst 0, 3, 0, 0, 0), (3, .lconst 1, 4, 0, 0, 0), (4, .invokestatic 170, 7, 185, 3, 1515), (7, .ifCond .ne 5, 10, 12, 0, 0), (10, .iconst (-1), 11, 0, 0, 0), (11, .ireturn, 12, 0, 0, 0), (12, .aload_n 0, 13, 0, 0, 0), (13, .iconst 0, 14, 0, 0, 0), (14, .invokevirtual 415, 17, 279, 2, 1852), (17, .aload_n 0, 18, 0, 0, 0), (18, .iconst 1, 19, 0, 0, 0), (19, .invokevirtual 415, 22, 279, 2, 1852), (22, .imul, 23, 0, 0, 0), (23, .bipush 12, 25, 0, 0, 0), (25, .if_icmp .le 6, 28, 31, 0, 0), (28, .bipush (-2), 30, 0, 0, 0), (30, .ireturn, 31, 0, 0, 0), (31, .aload_n 0, 32, 0, 0, 0), (32, .invokevirtual 474, 35, 310, 1, 1930), (35, .aload_n 0, 36, 0, 0, 0), (36, .aload_n 0, 37, 0, 0, 0), (37, .getfield 7, 40, 11, 0, 1310), (40, .bipush 6, 42, 0, 0, 0), (42, .laload, 43, 0, 0, 0), (43, .invokevirtual 471, 46, 309, 2, 1934), (46, .istore_n 2, 47, 0, 0, 0), (47, .iconst 0, 48, 0, 0, 0), (48, .istore_n 3, 49, 0, 0, 0), (49, .iload_n 3, 50, 0, 0, 0), (50, .iload_n 2, 51, 0, 0, 0), (51, .if_icmp .gt 14, 54, 65, 0, 0), (54, .aload_n 0, 55, 0, 0, 0), (55, .iload_n 3, 56, 0, 0, 0), (56, .invokevirtual 477, 59, 311, 2, 1938), (59, .iinc 3 1, 62, 0, 0, 0), (62, .goto (-13), 65, 49, 0, 0), (65, .iload_n 1, 66, 0, 0, 0), (66, .ifCond .ne 20, 69, 86, 0, 0), (69, .aload_n 0, 70, 0, 0, 0), (70, .getfield 100, 73, 11, 40, 1350), (73, .iload_n 2, 74, 0, 0, 0), (74, .baload, 75, 0, 0, 0), (75, .ifCond .eq 7, 78, 82, 0, 0), (78, .iconst 1, 79, 0, 0, 0), (79, .goto 13, 82, 92, 0, 0), (82, .iconst 0, 83, 0, 0, 0), (83, .goto 9, 86, 92, 0, 0), (86, .aload_n 0, 87, 0, 0, 0), (87, .getfield 103, 90, 11, 41, 1351), (90, .iload_n 2, 91, 0, 0, 0), (91, .iaload, 92, 0, 0, 0), (92, .ireturn, 93, 0, 0, 0)]
noncomputable abbrev md_M_game : pm_M := (⟨"TurnFieldModel", "game", "(I)I"⟩, prog_14_method_129_code, 4, (some .int), false, [0, 1929, 120, 1927, 1928], cd_M_game)
noncomputable def cd_M_spread : List pm_I := [(0, .lconst 0, 1, 0, 0, 0), (1, .lstore_n 2, 2, 0, 0, 0), (2, .iconst 0, 3, 0, 0, 0), (3, .istore 4, 5, 0, 0, 0), (5, .iload 4, 7, 0, 0, 0), (7, .aload_n 0, 8, 0, 0, 0), (8, .iconst 0, 9, 0, 0, 0), (9, .invokevirtual 415, 12, 279, 2, 1852), (12, .if_icmp .ge 59, 15, 71, 0, 0), (15, .iconst 0, 16, 0, 0, 0), (16, .istore 5, 18, 0, 0, 0), (18, .iload 5, 20, 0, 0, 0), (20, .aload_n 0, 21, 0, 0, 0), (21, .iconst 1, 22, 0, 0, 0), (22, .invokevirtual 415, 25, 279, 2, 1852), (25, .if_icmp .ge 40, 28, 65, 0, 0), (28, .iload_n 1, 29, 0, 0, 0), (29, .aload_n 0, 30, 0, 0, 0), (30, .iconst 1, 31, 0, 0, 0), (31, .invokevirtual 415, 34, 279, 2, 1852), (34, .iload 4, 36, 0, 0, 0), (36, .imul, 37, 0, 0, 0), (37, .iload 5, 39, 0, 0, 0), (39, .iadd, 40, 0, 0, 0), (40, .ishr, 41, 0, 0, 0), (41, .iconst 1, 42, 0, 0, 0), (42, .iand, 43, 0, 0, 0), (43, .iconst 1, 44, 0, 0, 0), (44, .if_icmp .ne 15, 47, 59, 0, 0), (47, .lload_n 2, 48, 0, 0, 0), (48, .lconst 1, 49, 0, 0, 0), (49, .iload 4, 51, 0, 0, 0), (51, .iload 5, 53, 0, 0, 0), (53, .invokestatic 421, 56, 290, 2, 1875), (56, .lshl, 57, 0, 0, 0), (57, .lor, 58, 0, 0, 0), (58, .lstore_n 2, 59, 0, 0, 0), (59, .iinc 5 1, 62, 0, 0, 0), (62, .goto (-44), 65, 18, 0, 0), (65, .iinc 4 1, 68, 0, 0, 0), (68, .goto (-63), 71, 5, 0, 0), (71, .lload_n 2, 72, 0, 0, 0), (72, .lreturn, 73, 0, 0, 0)]
noncomputable abbrev md_M_spread : pm_M := (⟨"TurnFieldModel", "spread", "(I)J"⟩, prog_14_method_130_code, 6, (some .long), false, [0, 1949, 120, 1948, 105], cd_M_spread)
noncomputable def cd_M_boards : List pm_I := [(0, .iload_n 1, 1, 0, 0, 0), (1, .i2l, 2, 0, 0, 0), (2, .lconst 0, 3, 0, 0, 0), (3, .ldc2_w 112, 6, 9, 0, 1294), (6, .invokestatic 170, 9, 185, 3, 1515), (9, .ifCond .ne 7, 12, 16, 0, 0), (12, .ldc2_w 249, 15, 8, 0, 1637), (15, .lreturn, 16, 0, 0, 0), (16, .aload_n 0, 17, 0, 0, 0), (17, .iconst 0, 18, 0, 0, 0), (18, .invokevirtual 415, 21, 279, 2, 1852), (21, .aload_n 0, 22, 0, 0, 0), (22, .iconst 1, 23, 0, 0, 0), (23, .invokevirtual 415, 26, 279, 2, 1852), (26, .imul, 27, 0, 0, 0), (27, .istore_n 2, 28, 0, 0, 0), (28, .iload_n 2, 29, 0, 0, 0), (29, .bipush 12, 31, 0, 0, 0), (31, .if_icmp .le 7, 34, 38, 0, 0), (34, .ldc2_w 139, 37, 10, 0, 1466), (37, .lreturn, 38, 0, 0, 0), (38, .aload_n 0, 39, 0, 0, 0), (39, .invokevirtual 474, 42, 310, 1, 1930), (42, .iconst 0, 43, 0, 0, 0), (43, .istore_n 3, 44, 0, 0, 0), (44, .iconst 0, 45, 0, 0, 0), (45, .istore 4, 47, 0, 0, 0), (47, .iconst 0, 48, 0, 0, 0), (48, .istore 5, 50, 0, 0, 0), (50, .iload 5, 52, 0, 0, 0), (52, .iconst 1, 53, 0, 0, 0), (53, .iload_n 2, 54, 0, 0, 0), (54, .ishl, 55, 0, 0, 0), (55, .if_icmp .ge 59, 58, 114, 0, 0), (58, .aload_n 0, 59, 0, 0, 0), (59, .iload 5, 61, 0, 0, 0), (61, .invokevirtual 477, 64, 311, 2, 1938), (64, .iload_n 3, 65, 0, 0, 0), (65, .aload_n 0, 66, 0, 0, 0), (66, .getfield 100, 69, 11, 40, 1350), (69, .iload 5, 71, 0, 0, 0), (71, .baload, 72, 0, 0, 0), (72, .ifCond .eq 7, 75, 79, 0, 0), (75, .iconst 0, 76, 0, 0, 0), (76, .goto 4, 79, 80, 0, 0), (79, .iconst 1, 80, 0, 0, 0), (80, .iadd, 81, 0, 0, 0), (81, .istore_n 3, 82, 0, 0, 0), (82, .aload_n 0, 83, 0, 0, 0), (83, .getfield 103, 86, 11, 41, 1351), (86, .iload 5, 88, 0, 0, 0), (88, .iaload, 89, 0, 0, 0), (89, .aload_n 0, 90, 0, 0, 0), (90, .getfield 103, 93, 11, 41, 1351), (93, .iload 4, 95, 0, 0, 0), (95, .iaload, 96, 0, 0, 0), (96, .if_icmp .le 8, 99, 104, 0, 0), (99, .iload 5, 101, 0, 0, 0), (101, .goto 5, 104, 106, 0, 0), (104, .iload 4, 106, 0, 0, 0), (106, .istore 4, 108, 0, 0, 0), (108, .iinc 5 1, 111, 0, 0, 0), (111, .goto (-61), 114, 50, 0, 0), (114, .iload_n 1, 115, 0, 0, 0), (115, .ifCond .ne 8, 118, 123, 0, 0), (118, .iload_n 3, 119, 0, 0, 0), (119, .i2l, 120, 0, 0, 0), (120, .goto 25, 123, 145, 0, 0), (123, .iload_n 1, 124, 0, 0, 0), (124, .iconst 1, 125, 0, 0, 0), (125, .if_icmp .ne 14, 128, 139, 0, 0), (128, .aload_n 0, 129, 0, 0, 0), (129, .getfield 103, 132, 11, 41, 1351), (132, .iload 4, 134, 0, 0, 0), (134, .iaload, 135, 0, 0, 0), (135, .i2l, 136, 0, 0, 0), (136, .goto 9, 139, 145, 0, 0), (139, .aload_n 0, 140, 0, 0, 0), (140, .iload 4, 142, 0, 0, 0), (142, .invokevirtual 480, 145, 313, 2, 1946), (145, .lreturn, 146, 0, 0, 0)]
noncomputable abbrev md_M_boards : pm_M := (⟨"TurnFieldModel", "boards", "(I)J"⟩, prog_14_method_131_code, 6, (some .long), false, [0, 1945, 120, 1943, 1944], cd_M_boards)
noncomputable def cd_M_sidesWithHeads : List pm_I := [(0, .iconst 0, 1, 0, 0, 0), (1, .istore_n 2, 2, 0, 0, 0), (2, .iconst 0, 3, 0, 0, 0), (3, .istore_n 3, 4, 0, 0, 0), (4, .iload_n 3, 5, 0, 0, 0), (5, .bipush 6, 7, 0, 0, 0), (7, .if_icmp .ge 59, 10, 66, 0, 0), (10, .iconst 0, 11, 0, 0, 0), (11, .istore 4, 13, 0, 0, 0), (13, .iload 4, 15, 0, 0, 0), (15, .bipush 6, 17, 0, 0, 0), (17, .if_icmp .ge 43, 20, 60, 0, 0), (20, .aload_n 0, 21, 0, 0, 0), (21, .getfield 7, 24, 11, 0, 1310), (24, .bipush 6, 26, 0, 0, 0), (26, .laload, 27, 0, 0, 0), (27, .iload_n 3, 28, 0, 0, 0), (28, .iload 4, 30, 0, 0, 0), (30, .invokestatic 421, 33, 290, 2, 1875), (33, .invokestatic 158, 36, 186, 2, 1495), (36, .ifCond .eq 18, 39, 54, 0, 0), (39, .iload_n 2, 40, 0, 0, 0), (40, .iconst 1, 41, 0, 0, 0), (41, .iload_n 1, 42, 0, 0, 0), (42, .ifCond .eq 7, 45, 49, 0, 0), (45, .iload_n 3, 46, 0, 0, 0), (46, .goto 5, 49, 51, 0, 0), (49, .iload 4, 51, 0, 0, 0), (51, .ishl, 52, 0, 0, 0), (52, .ior, 53, 0, 0, 0), (53, .istore_n 2, 54, 0, 0, 0), (54, .iinc 4 1, 57, 0, 0, 0), (57, .goto (-44), 60, 13, 0, 0), (60, .iinc 3 1, 63, 0, 0, 0), (63, .goto (-59), 66, 4, 0, 0), (66, .iload_n 2, 67, 0, 0, 0), (67, .ireturn, 68, 0, 0, 0)]
noncomputable abbrev md_M_sidesWithHeads : pm_M := (⟨"TurnFieldModel", "sidesWithHeads", "(Z)I"⟩, prog_14_method_132_code, 5, (some .int), false, [0, 1961, 120, 1960, 107], cd_M_sidesWithHeads)
noncomputable def cd_M_keptSet : List pm_I := [(0, .iconst 0, 1, 0, 0, 0), (1, .istore_n 1, 2, 0, 0, 0), (2, .iconst 0, 3, 0, 0, 0), (3, .istore_n 2, 4, 0, 0, 0), (4, .iload_n 2, 5, 0, 0, 0), (5, .iconst 2, 6, 0, 0, 0), (6, .if_icmp .ge 28, 9, 34, 0, 0), (9, .iload_n 1, 10, 0, 0, 0), (10, .aload_n 0, 11, 0, 0, 0), (11, .getfield 19, 14, 11, 4, 1314), (14, .iload_n 2, 15, 0, 0, 0), (15, .baload, 16, 0, 0, 0), (16, .ifCond .eq 9, 19, 25, 0, 0), (19, .iconst 1, 20, 0, 0, 0), (20, .iload_n 2, 21, 0, 0, 0), (21, .ishl, 22, 0, 0, 0), (22, .goto 4, 25, 26, 0, 0), (25, .iconst 0, 26, 0, 0, 0), (26, .ior, 27, 0, 0, 0), (27, .istore_n 1, 28, 0, 0, 0), (28, .iinc 2 1, 31, 0, 0, 0), (31, .goto (-27), 34, 4, 0, 0), (34, .iload_n 1, 35, 0, 0, 0), (35, .ireturn, 36, 0, 0, 0)]
noncomputable abbrev md_M_keptSet : pm_M := (⟨"TurnFieldModel", "keptSet", "()I"⟩, prog_14_method_133_code, 3, (some .int), false, [0, 1957, 120, 1956, 106], cd_M_keptSet)
noncomputable def cd_M_count : List pm_I := [(0, .iload_n 1, 1, 0, 0, 0), (1, .tableswitch 125 0 11 #[63, 63, 69, 69, 81, 81, 93, 98, 103, 108, 113, 119], 64, 0, 0, 0), (64, .aload_n 0, 65, 0, 0, 0), (65, .iload_n 1, 66, 0, 0, 0), (66, .invokevirtual 415, 69, 279, 2, 1852), (69, .ireturn, 70, 0, 0, 0), (70, .aload_n 0, 71, 0, 0, 0), (71, .getfield 7, 74, 11, 0, 1310), (74, .iconst 2, 75, 0, 0, 0), (75, .iload_n 1, 76, 0, 0, 0), (76, .iadd, 77, 0, 0, 0), (77, .iconst 2, 78, 0, 0, 0), (78, .isub, 79, 0, 0, 0), (79, .laload, 80, 0, 0, 0), (80, .l2i, 81, 0, 0, 0), (81, .ireturn, 82, 0, 0, 0), (82, .aload_n 0, 83, 0, 0, 0), (83, .getfield 7, 86, 11, 0, 1310), (86, .iconst 4, 87, 0, 0, 0), (87, .iload_n 1, 88, 0, 0, 0), (88, .iadd, 89, 0, 0, 0), (89, .iconst 4, 90, 0, 0, 0), (90, .isub, 91, 0, 0, 0), (91, .laload, 92, 0, 0, 0), (92, .l2i, 93, 0, 0, 0), (93, .ireturn, 94, 0, 0, 0), (94, .aload_n 0, 95, 0, 0, 0), (95, .invokevirtual 311, 98, 257, 1, 1711), (98, .ireturn, 99, 0, 0, 0), (99, .aload_n 0, 100, 0, 0, 0), (100, .getfield 304, 103, 11, 2, 1312), (103, .ireturn, 104, 0, 0, 0), (104, .aload_n 0, 105, 0, 0, 0), (105, .getfield 326, 108, 11, 24, 1334), (108, .ireturn, 109, 0, 0, 0), (109, .aload_n 0, 110, 0, 0, 0), (110, .invokevirtual 483, 113, 316, 1, 1954), (113, .ireturn, 114, 0, 0, 0), (114, .aload_n 0, 115, 0, 0, 0), (115, .iconst 1, 116, 0, 0, 0), (116, .invokevirtual 486, 119, 315, 2, 1958), (119, .ireturn, 120, 0, 0, 0), (120, .aload_n 0, 121, 0, 0, 0), (121, .iconst 0, 122, 0, 0, 0), (122, .invokevirtual 486, 125, 315, 2, 1958), (125, .ireturn, 126, 0, 0, 0), (126, .iconst (-1), 127, 0, 0, 0), (127, .ireturn, 128, 0, 0, 0)]
noncomputable abbrev md_M_count : pm_M := (⟨"TurnFieldModel", "count", "(I)I"⟩, prog_14_method_134_code, 2, (some .int), false, [0, 1953, 120, 1951, 1952], cd_M_count)
noncomputable def cd_JI_bitCount : List pm_I := [(0, .iload_n 0, 1, 0, 0, 0), (1, .iload_n 0, 2, 0, 0, 0), (2, .iconst 1, 3, 0, 0, 0), (3, .iushr, 4, 0, 0, 0), (4, .ldc_w 265, 7, 28, 0, 674), (7, .iand, 8, 0, 0, 0), (8, .isub, 9, 0, 0, 0), (9, .istore_n 0, 10, 0, 0, 0), (10, .iload_n 0, 11, 0, 0, 0), (11, .ldc_w 266, 14, 29, 0, 675), (14, .iand, 15, 0, 0, 0), (15, .iload_n 0, 16, 0, 0, 0), (16, .iconst 2, 17, 0, 0, 0), (17, .iushr, 18, 0, 0, 0), (18, .ldc_w 266, 21, 29, 0, 675), (21, .iand, 22, 0, 0, 0), (22, .iadd, 23, 0, 0, 0), (23, .istore_n 0, 24, 0, 0, 0), (24, .iload_n 0, 25, 0, 0, 0), (25, .iload_n 0, 26, 0, 0, 0), (26, .iconst 4, 27, 0, 0, 0), (27, .iushr, 28, 0, 0, 0), (28, .iadd, 29, 0, 0, 0), (29, .ldc_w 267, 32, 30, 0, 676), (32, .iand, 33, 0, 0, 0), (33, .istore_n 0, 34, 0, 0, 0), (34, .iload_n 0, 35, 0, 0, 0), (35, .iload_n 0, 36, 0, 0, 0), (36, .bipush 8, 38, 0, 0, 0), (38, .iushr, 39, 0, 0, 0), (39, .iadd, 40, 0, 0, 0), (40, .istore_n 0, 41, 0, 0, 0), (41, .iload_n 0, 42, 0, 0, 0), (42, .iload_n 0, 43, 0, 0, 0), (43, .bipush 16, 45, 0, 0, 0), (45, .iushr, 46, 0, 0, 0), (46, .iadd, 47, 0, 0, 0), (47, .istore_n 0, 48, 0, 0, 0), (48, .iload_n 0, 49, 0, 0, 0), (49, .bipush 63, 51, 0, 0, 0), (51, .iand, 52, 0, 0, 0), (52, .ireturn, 53, 0, 0, 0)]
noncomputable abbrev md_JI_bitCount : pm_M := (⟨"java/lang/Integer", "bitCount", "(I)I"⟩, prog_15_method_49_code, 1, (some .int), false, [1, 673, 127, 672, 0], cd_JI_bitCount)
noncomputable def cd_JL_bitCount : List pm_I := [(0, .lload_n 0, 1, 0, 0, 0), (1, .lload_n 0, 2, 0, 0, 0), (2, .iconst 1, 3, 0, 0, 0), (3, .lushr, 4, 0, 0, 0), (4, .ldc2_w 314, 7, 31, 0, 635), (7, .land, 8, 0, 0, 0), (8, .lsub, 9, 0, 0, 0), (9, .lstore_n 0, 10, 0, 0, 0), (10, .lload_n 0, 11, 0, 0, 0), (11, .ldc2_w 316, 14, 32, 0, 636), (14, .land, 15, 0, 0, 0), (15, .lload_n 0, 16, 0, 0, 0), (16, .iconst 2, 17, 0, 0, 0), (17, .lushr, 18, 0, 0, 0), (18, .ldc2_w 316, 21, 32, 0, 636), (21, .land, 22, 0, 0, 0), (22, .ladd, 23, 0, 0, 0), (23, .lstore_n 0, 24, 0, 0, 0), (24, .lload_n 0, 25, 0, 0, 0), (25, .lload_n 0, 26, 0, 0, 0), (26, .iconst 4, 27, 0, 0, 0), (27, .lushr, 28, 0, 0, 0), (28, .ladd, 29, 0, 0, 0), (29, .ldc2_w 318, 32, 33, 0, 637), (32, .land, 33, 0, 0, 0), (33, .lstore_n 0, 34, 0, 0, 0), (34, .lload_n 0, 35, 0, 0, 0), (35, .lload_n 0, 36, 0, 0, 0), (36, .bipush 8, 38, 0, 0, 0), (38, .lushr, 39, 0, 0, 0), (39, .ladd, 40, 0, 0, 0), (40, .lstore_n 0, 41, 0, 0, 0), (41, .lload_n 0, 42, 0, 0, 0), (42, .lload_n 0, 43, 0, 0, 0), (43, .bipush 16, 45, 0, 0, 0), (45, .lushr, 46, 0, 0, 0), (46, .ladd, 47, 0, 0, 0), (47, .lstore_n 0, 48, 0, 0, 0), (48, .lload_n 0, 49, 0, 0, 0), (49, .lload_n 0, 50, 0, 0, 0), (50, .bipush 32, 52, 0, 0, 0), (52, .lushr, 53, 0, 0, 0), (53, .ladd, 54, 0, 0, 0), (54, .lstore_n 0, 55, 0, 0, 0), (55, .lload_n 0, 56, 0, 0, 0), (56, .l2i, 57, 0, 0, 0), (57, .bipush 127, 59, 0, 0, 0), (59, .iand, 60, 0, 0, 0), (60, .ireturn, 61, 0, 0, 0)]
noncomputable abbrev md_JL_bitCount : pm_M := (⟨"java/lang/Long", "bitCount", "(J)I"⟩, prog_16_method_50_code, 2, (some .int), false, [1, 634, 126, 633, 0], cd_JL_bitCount)
noncomputable def cd_JS_length : List pm_I := [(0, .aload_n 0, 1, 0, 0, 0), (1, .getfield 9, 4, 100, 0, 1963), (4, .arraylength, 5, 0, 0, 0), (5, .aload_n 0, 6, 0, 0, 0), (6, .invokevirtual 335, 9, 322, 1, 560), (9, .ishr, 10, 0, 0, 0), (10, .ireturn, 11, 0, 0, 0)]
noncomputable abbrev md_JS_length : pm_M := (⟨"java/lang/String", "length", "()I"⟩, prog_18_method_54_code, 1, (some .int), false, [0, 559, 122, 557, 558], cd_JS_length)
noncomputable def cd_JS_charAt : List pm_I := [(0, .aload_n 0, 1, 0, 0, 0), (1, .invokevirtual 492, 4, 323, 1, 570), (4, .ifCond .eq 12, 7, 16, 0, 0), (7, .aload_n 0, 8, 0, 0, 0), (8, .getfield 9, 11, 100, 0, 1963), (11, .iload_n 1, 12, 0, 0, 0), (12, .invokestatic 495, 15, 325, 2, 574), (15, .ireturn, 16, 0, 0, 0), (16, .aload_n 0, 17, 0, 0, 0), (17, .getfield 9, 20, 100, 0, 1963), (20, .iload_n 1, 21, 0, 0, 0), (21, .invokestatic 498, 24, 997, 2, 585), (24, .ireturn, 25, 0, 0, 0)]
noncomputable abbrev md_JS_charAt : pm_M := (⟨"java/lang/String", "charAt", "(I)C"⟩, prog_18_method_56_code, 2, (some .char), false, [0, 569, 122, 567, 568], cd_JS_charAt)
noncomputable def cd_JS_coder : List pm_I := [(0, .getstatic 38, 3, 2, 0, 564), (3, .ifCond .eq 10, 6, 13, 0, 0), (6, .aload_n 0, 7, 0, 0, 0), (7, .getfield 15, 10, 100, 1, 1964), (10, .goto 4, 13, 14, 0, 0), (13, .iconst 1, 14, 0, 0, 0), (14, .ireturn, 15, 0, 0, 0)]
noncomputable abbrev md_JS_coder : pm_M := (⟨"java/lang/String", "coder", "()B"⟩, prog_18_method_152_code, 1, (some .byte), false, [0, 563, 122, 561, 562], cd_JS_coder)
noncomputable def cd_JS_isLatin1 : List pm_I := [(0, .getstatic 38, 3, 2, 0, 564), (3, .ifCond .eq 14, 6, 17, 0, 0), (6, .aload_n 0, 7, 0, 0, 0), (7, .getfield 15, 10, 100, 1, 1964), (10, .ifCond .ne 7, 13, 17, 0, 0), (13, .iconst 1, 14, 0, 0, 0), (14, .goto 4, 17, 18, 0, 0), (17, .iconst 0, 18, 0, 0, 0), (18, .ireturn, 19, 0, 0, 0)]
noncomputable abbrev md_JS_isLatin1 : pm_M := (⟨"java/lang/String", "isLatin1", "()Z"⟩, prog_18_method_154_code, 1, (some .boolean), false, [0, 573, 122, 571, 572], cd_JS_isLatin1)
noncomputable def cd_JS_checkIndex : List pm_I := [(0, .iload_n 0, 1, 0, 0, 0), (1, .iload_n 1, 2, 0, 0, 0), (2, .getstatic 1053, 5, 3, 0, 580), (5, .invokestatic 1059, 8, 326, 3, 582), (8, .pop, 9, 0, 0, 0), (9, .return_, 10, 0, 0, 0)]
noncomputable abbrev md_JS_checkIndex : pm_M := (⟨"java/lang/String", "checkIndex", "(II)V"⟩, prog_18_method_155_code, 2, none, false, [1, 579, 122, 578, 0], cd_JS_checkIndex)
noncomputable def cd_JA_charAt : List pm_I := [(0, .iload_n 1, 1, 0, 0, 0), (1, .aload_n 0, 2, 0, 0, 0), (2, .arraylength, 3, 0, 0, 0), (3, .invokestatic 9, 6, 324, 2, 577), (6, .aload_n 0, 7, 0, 0, 0), (7, .iload_n 1, 8, 0, 0, 0), (8, .baload, 9, 0, 0, 0), (9, .sipush 255, 12, 0, 0, 0), (12, .iand, 13, 0, 0, 0), (13, .i2c, 14, 0, 0, 0), (14, .ireturn, 15, 0, 0, 0)]
noncomputable abbrev md_JA_charAt : pm_M := (⟨"java/lang/StringLatin1", "charAt", "([BI)C"⟩, prog_19_method_2_code, 2, (some .char), false, [1, 576, 123, 575, 0], cd_JA_charAt)
noncomputable def cd_JP_checkIndex : List pm_I := [(0, .iload_n 0, 1, 0, 0, 0), (1, .ifCond .lt 8, 4, 9, 0, 0), (4, .iload_n 0, 5, 0, 0, 0), (5, .iload_n 1, 6, 0, 0, 0), (6, .if_icmp .lt 10, 9, 16, 0, 0), (9, .aload_n 2, 10, 0, 0, 0), (10, .iload_n 0, 11, 0, 0, 0), (11, .iload_n 1, 12, 0, 0, 0), (12, .invokestatic 95, 15, 998, 0, 0), (15, .athrow, 16, 0, 0, 0), (16, .iload_n 0, 17, 0, 0, 0), (17, .ireturn, 18, 0, 0, 0)]
noncomputable abbrev md_JP_checkIndex : pm_M := (⟨"jdk/internal/util/Preconditions", "checkIndex", "(IILjava/util/function/BiFunction;)I"⟩, prog_21_method_11_code, 3, (some .int), false, [1, 584, 124, 583, 0], cd_JP_checkIndex)
noncomputable def cd_L_law_0 : List pm_I := [(0, .new 7, 3, 10, 0, 129), (3, .dup, 4, 0, 0, 0), (4, .invokespecial 9, 7, 132, 1, 131), (7, .astore_n 1, 8, 0, 0, 0), (8, .new 10, 11, 11, 0, 1280), (11, .dup, 12, 0, 0, 0), (12, .invokespecial 12, 15, 184, 1, 1282), (15, .astore_n 2, 16, 0, 0, 0), (16, .iconst 0, 17, 0, 0, 0), (17, .istore_n 3, 18, 0, 0, 0), (18, .iload_n 3, 19, 0, 0, 0), (19, .aload_n 0, 20, 0, 0, 0), (20, .arraylength, 21, 0, 0, 0), (21, .bipush 6, 23, 0, 0, 0), (23, .isub, 24, 0, 0, 0), (24, .if_icmp .gt 2138, 27, 2162, 0, 0), (27, .aload_n 0, 28, 0, 0, 0), (28, .iload_n 3, 29, 0, 0, 0), (29, .iaload, 30, 0, 0, 0), (30, .bipush 63, 32, 0, 0, 0), (32, .iand, 33, 0, 0, 0), (33, .tableswitch 2123 0 46 #[203, 266, 289, 302, 335, 368, 381, 444, 497, 510, 533, 556, 589, 662, 685, 698, 742, 756, 779, 803, 836, 860, 884, 938, 961, 995, 1019, 1042, 1136, 1190, 1244, 1338, 1392, 1455, 1509, 1572, 1626, 1730, 1823, 1847, 1911, 1944, 1987, 2001, 2024, 2067, 2100], 236, 0, 0, 0), (236, .aload_n 1, 237, 0, 0, 0), (237, .aload_n 0, 238, 0, 0, 0), (238, .iload_n 3, 239, 0, 0, 0), (239, .iconst 1, 240, 0, 0, 0), (240, .iadd, 241, 0, 0, 0), (241, .iaload, 242, 0, 0, 0), (242, .aload_n 0, 243, 0, 0, 0), (243, .iload_n 3, 244, 0, 0, 0), (244, .iconst 2, 245, 0, 0, 0), (245, .iadd, 246, 0, 0, 0), (246, .iaload, 247, 0, 0, 0), (247, .aload_n 0, 248, 0, 0, 0), (248, .iload_n 3, 249, 0, 0, 0), (249, .iconst 3, 250, 0, 0, 0), (250, .iadd, 251, 0, 0, 0), (251, .iaload, 252, 0, 0, 0), (252, .aload_n 0, 253, 0, 0, 0), (253, .iload_n 3, 254, 0, 0, 0), (254, .iconst 4, 255, 0, 0, 0), (255, .iadd, 256, 0, 0, 0), (256, .iaload, 257, 0, 0, 0), (257, .aload_n 0, 258, 0, 0, 0), (258, .iload_n 3, 259, 0, 0, 0), (259, .iconst 5, 260, 0, 0, 0), (260, .iadd, 261, 0, 0, 0), (261, .iaload, 262, 0, 0, 0), (262, .invokevirtual 13, 265, 133, 6, 500), (265, .aload_n 2, 266, 0, 0, 0), (266, .aload_n 0, 267, 0, 0, 0), (267, .iload_n 3, 268, 0, 0, 0), (268, .iconst 1, 269, 0, 0, 0), (269, .iadd, 270, 0, 0, 0), (270, .iaload, 271, 0, 0, 0), (271, .aload_n 0, 272, 0, 0, 0), (272, .iload_n 3, 273, 0, 0, 0), (273, .iconst 2, 274, 0, 0, 0), (274, .iadd, 275, 0, 0, 0), (275, .iaload, 276, 0, 0, 0), (276, .aload_n 0, 277, 0, 0, 0), (277, .iload_n 3, 278, 0, 0, 0), (278, .iconst 3, 279, 0, 0, 0), (279, .iadd, 280, 0, 0, 0), (280, .iaload, 281, 0, 0, 0), (281, .aload_n 0, 282, 0, 0, 0), (282, .iload_n 3, 283, 0, 0, 0), (283, .iconst 4, 284, 0, 0, 0), (284, .iadd, 285, 0, 0, 0), (285, .iaload, 286, 0, 0, 0), (286, .aload_n 0, 287, 0, 0, 0), (287, .iload_n 3, 288, 0, 0, 0), (288, .iconst 5, 289, 0, 0, 0), (289, .iadd, 290, 0, 0, 0), (290, .iaload, 291, 0, 0, 0), (291, .invokevirtual 17, 294, 268, 6, 1755), (294, .if_icmp .eq 1862, 297, 2156, 0, 0), (297, .iconst 0, 298, 0, 0, 0), (298, .ireturn, 299, 0, 0, 0), (299, .aload_n 1, 300, 0, 0, 0), (300, .aload_n 0, 301, 0, 0, 0), (301, .iload_n 3, 302, 0, 0, 0), (302, .iconst 1, 303, 0, 0, 0), (303, .iadd, 304, 0, 0, 0), (304, .iaload, 305, 0, 0, 0), (305, .invokevirtual 18, 308, 134, 2, 512), (308, .aload_n 2, 309, 0, 0, 0), (309, .aload_n 0, 310, 0, 0, 0), (310, .iload_n 3, 311, 0, 0, 0), (311, .iconst 1, 312, 0, 0, 0), (312, .iadd, 313, 0, 0, 0), (313, .iaload, 314, 0, 0, 0), (314, .invokevirtual 22, 317, 269, 2, 1759), (317, .if_icmp .eq 1839, 320, 2156, 0, 0), (320, .iconst 0, 321, 0, 0, 0), (321, .ireturn, 322, 0, 0, 0), (322, .aload_n 1, 323, 0, 0, 0), (323, .invokevirtual 23, 326, 135, 1, 516), (326, .aload_n 2, 327, 0, 0, 0), (327, .invokevirtual 27, 330, 278, 1, 1763)]
noncomputable def cd_L_law_1 : List pm_I := [(330, .if_icmp .eq 1826, 333, 2156, 0, 0), (333, .iconst 0, 334, 0, 0, 0), (334, .ireturn, 335, 0, 0, 0), (335, .aload_n 1, 336, 0, 0, 0), (336, .aload_n 0, 337, 0, 0, 0), (337, .iload_n 3, 338, 0, 0, 0), (338, .iconst 1, 339, 0, 0, 0), (339, .iadd, 340, 0, 0, 0), (340, .iaload, 341, 0, 0, 0), (341, .aload_n 0, 342, 0, 0, 0), (342, .iload_n 3, 343, 0, 0, 0), (343, .iconst 2, 344, 0, 0, 0), (344, .iadd, 345, 0, 0, 0), (345, .iaload, 346, 0, 0, 0), (346, .invokevirtual 28, 349, 136, 3, 638), (349, .aload_n 2, 350, 0, 0, 0), (350, .aload_n 0, 351, 0, 0, 0), (351, .iload_n 3, 352, 0, 0, 0), (352, .iconst 1, 353, 0, 0, 0), (353, .iadd, 354, 0, 0, 0), (354, .iaload, 355, 0, 0, 0), (355, .aload_n 0, 356, 0, 0, 0), (356, .iload_n 3, 357, 0, 0, 0), (357, .iconst 2, 358, 0, 0, 0), (358, .iadd, 359, 0, 0, 0), (359, .iaload, 360, 0, 0, 0), (360, .invokevirtual 32, 363, 301, 3, 1894), (363, .if_icmp .eq 1793, 366, 2156, 0, 0), (366, .iconst 0, 367, 0, 0, 0), (367, .ireturn, 368, 0, 0, 0), (368, .aload_n 1, 369, 0, 0, 0), (369, .aload_n 0, 370, 0, 0, 0), (370, .iload_n 3, 371, 0, 0, 0), (371, .iconst 1, 372, 0, 0, 0), (372, .iadd, 373, 0, 0, 0), (373, .iaload, 374, 0, 0, 0), (374, .aload_n 0, 375, 0, 0, 0), (375, .iload_n 3, 376, 0, 0, 0), (376, .iconst 2, 377, 0, 0, 0), (377, .iadd, 378, 0, 0, 0), (378, .iaload, 379, 0, 0, 0), (379, .invokevirtual 33, 382, 137, 3, 647), (382, .aload_n 2, 383, 0, 0, 0), (383, .aload_n 0, 384, 0, 0, 0), (384, .iload_n 3, 385, 0, 0, 0), (385, .iconst 1, 386, 0, 0, 0), (386, .iadd, 387, 0, 0, 0), (387, .iaload, 388, 0, 0, 0), (388, .aload_n 0, 389, 0, 0, 0), (389, .iload_n 3, 390, 0, 0, 0), (390, .iconst 2, 391, 0, 0, 0), (391, .iadd, 392, 0, 0, 0), (392, .iaload, 393, 0, 0, 0), (393, .invokevirtual 36, 396, 303, 3, 1898), (396, .if_icmp .eq 1760, 399, 2156, 0, 0), (399, .iconst 0, 400, 0, 0, 0), (400, .ireturn, 401, 0, 0, 0), (401, .aload_n 1, 402, 0, 0, 0), (402, .invokevirtual 37, 405, 139, 1, 743), (405, .aload_n 2, 406, 0, 0, 0), (406, .invokevirtual 40, 409, 306, 1, 1906), (409, .if_icmp .eq 1747, 412, 2156, 0, 0), (412, .iconst 0, 413, 0, 0, 0), (413, .ireturn, 414, 0, 0, 0), (414, .aload_n 1, 415, 0, 0, 0), (415, .aload_n 0, 416, 0, 0, 0), (416, .iload_n 3, 417, 0, 0, 0), (417, .iconst 1, 418, 0, 0, 0), (418, .iadd, 419, 0, 0, 0), (419, .iaload, 420, 0, 0, 0), (420, .aload_n 0, 421, 0, 0, 0), (421, .iload_n 3, 422, 0, 0, 0), (422, .iconst 2, 423, 0, 0, 0), (423, .iadd, 424, 0, 0, 0), (424, .iaload, 425, 0, 0, 0), (425, .i2l, 426, 0, 0, 0), (426, .bipush 32, 428, 0, 0, 0), (428, .lshl, 429, 0, 0, 0), (429, .aload_n 0, 430, 0, 0, 0), (430, .iload_n 3, 431, 0, 0, 0), (431, .iconst 3, 432, 0, 0, 0), (432, .iadd, 433, 0, 0, 0), (433, .iaload, 434, 0, 0, 0), (434, .i2l, 435, 0, 0, 0), (435, .ldc2_w 41, 438, 34, 0, 1962), (438, .land, 439, 0, 0, 0), (439, .lor, 440, 0, 0, 0), (440, .invokevirtual 43, 443, 140, 3, 764), (443, .aload_n 2, 444, 0, 0, 0), (444, .aload_n 0, 445, 0, 0, 0), (445, .iload_n 3, 446, 0, 0, 0), (446, .iconst 1, 447, 0, 0, 0), (447, .iadd, 448, 0, 0, 0), (448, .iaload, 449, 0, 0, 0), (449, .aload_n 0, 450, 0, 0, 0), (450, .iload_n 3, 451, 0, 0, 0), (451, .iconst 2, 452, 0, 0, 0), (452, .iadd, 453, 0, 0, 0), (453, .iaload, 454, 0, 0, 0), (454, .i2l, 455, 0, 0, 0)]
noncomputable def cd_L_law_2 : List pm_I := [(455, .bipush 32, 457, 0, 0, 0), (457, .lshl, 458, 0, 0, 0), (458, .aload_n 0, 459, 0, 0, 0), (459, .iload_n 3, 460, 0, 0, 0), (460, .iconst 3, 461, 0, 0, 0), (461, .iadd, 462, 0, 0, 0), (462, .iaload, 463, 0, 0, 0), (463, .i2l, 464, 0, 0, 0), (464, .ldc2_w 41, 467, 34, 0, 1962), (467, .land, 468, 0, 0, 0), (468, .lor, 469, 0, 0, 0), (469, .invokevirtual 47, 472, 260, 3, 1723), (472, .if_icmp .eq 1684, 475, 2156, 0, 0), (475, .iconst 0, 476, 0, 0, 0), (476, .ireturn, 477, 0, 0, 0), (477, .aload_n 1, 478, 0, 0, 0), (478, .aload_n 0, 479, 0, 0, 0), (479, .iload_n 3, 480, 0, 0, 0), (480, .iconst 1, 481, 0, 0, 0), (481, .iadd, 482, 0, 0, 0), (482, .iaload, 483, 0, 0, 0), (483, .aload_n 0, 484, 0, 0, 0), (484, .iload_n 3, 485, 0, 0, 0), (485, .iconst 2, 486, 0, 0, 0), (486, .iadd, 487, 0, 0, 0), (487, .iaload, 488, 0, 0, 0), (488, .aload_n 0, 489, 0, 0, 0), (489, .iload_n 3, 490, 0, 0, 0), (490, .iconst 3, 491, 0, 0, 0), (491, .iadd, 492, 0, 0, 0), (492, .iaload, 493, 0, 0, 0), (493, .aload_n 0, 494, 0, 0, 0), (494, .iload_n 3, 495, 0, 0, 0), (495, .iconst 4, 496, 0, 0, 0), (496, .iadd, 497, 0, 0, 0), (497, .iaload, 498, 0, 0, 0), (498, .invokevirtual 48, 501, 141, 5, 771), (501, .aload_n 2, 502, 0, 0, 0), (502, .aload_n 0, 503, 0, 0, 0), (503, .iload_n 3, 504, 0, 0, 0), (504, .iconst 1, 505, 0, 0, 0), (505, .iadd, 506, 0, 0, 0), (506, .iaload, 507, 0, 0, 0), (507, .aload_n 0, 508, 0, 0, 0), (508, .iload_n 3, 509, 0, 0, 0), (509, .iconst 2, 510, 0, 0, 0), (510, .iadd, 511, 0, 0, 0), (511, .iaload, 512, 0, 0, 0), (512, .aload_n 0, 513, 0, 0, 0), (513, .iload_n 3, 514, 0, 0, 0), (514, .iconst 3, 515, 0, 0, 0), (515, .iadd, 516, 0, 0, 0), (516, .iaload, 517, 0, 0, 0), (517, .aload_n 0, 518, 0, 0, 0), (518, .iload_n 3, 519, 0, 0, 0), (519, .iconst 4, 520, 0, 0, 0), (520, .iadd, 521, 0, 0, 0), (521, .iaload, 522, 0, 0, 0), (522, .invokevirtual 52, 525, 262, 5, 1727), (525, .if_icmp .eq 1631, 528, 2156, 0, 0), (528, .iconst 0, 529, 0, 0, 0), (529, .ireturn, 530, 0, 0, 0), (530, .aload_n 1, 531, 0, 0, 0), (531, .invokevirtual 53, 534, 143, 1, 792), (534, .aload_n 2, 535, 0, 0, 0), (535, .invokevirtual 56, 538, 254, 1, 1700), (538, .if_icmp .eq 1618, 541, 2156, 0, 0), (541, .iconst 0, 542, 0, 0, 0), (542, .ireturn, 543, 0, 0, 0), (543, .aload_n 1, 544, 0, 0, 0), (544, .aload_n 0, 545, 0, 0, 0), (545, .iload_n 3, 546, 0, 0, 0), (546, .iconst 1, 547, 0, 0, 0), (547, .iadd, 548, 0, 0, 0), (548, .iaload, 549, 0, 0, 0), (549, .invokevirtual 57, 552, 144, 2, 804), (552, .aload_n 2, 553, 0, 0, 0), (553, .aload_n 0, 554, 0, 0, 0), (554, .iload_n 3, 555, 0, 0, 0), (555, .iconst 1, 556, 0, 0, 0), (556, .iadd, 557, 0, 0, 0), (557, .iaload, 558, 0, 0, 0), (558, .invokevirtual 60, 561, 258, 2, 1704), (561, .if_icmp .eq 1595, 564, 2156, 0, 0), (564, .iconst 0, 565, 0, 0, 0), (565, .ireturn, 566, 0, 0, 0), (566, .aload_n 1, 567, 0, 0, 0), (567, .aload_n 0, 568, 0, 0, 0), (568, .iload_n 3, 569, 0, 0, 0), (569, .iconst 1, 570, 0, 0, 0), (570, .iadd, 571, 0, 0, 0), (571, .iaload, 572, 0, 0, 0), (572, .invokevirtual 61, 575, 145, 2, 813), (575, .aload_n 2, 576, 0, 0, 0), (576, .aload_n 0, 577, 0, 0, 0), (577, .iload_n 3, 578, 0, 0, 0), (578, .iconst 1, 579, 0, 0, 0), (579, .iadd, 580, 0, 0, 0), (580, .iaload, 581, 0, 0, 0), (581, .invokevirtual 64, 584, 259, 2, 1715)]
noncomputable def cd_L_law_3 : List pm_I := [(584, .if_icmp .eq 1572, 587, 2156, 0, 0), (587, .iconst 0, 588, 0, 0, 0), (588, .ireturn, 589, 0, 0, 0), (589, .aload_n 1, 590, 0, 0, 0), (590, .aload_n 0, 591, 0, 0, 0), (591, .iload_n 3, 592, 0, 0, 0), (592, .iconst 1, 593, 0, 0, 0), (593, .iadd, 594, 0, 0, 0), (594, .iaload, 595, 0, 0, 0), (595, .aload_n 0, 596, 0, 0, 0), (596, .iload_n 3, 597, 0, 0, 0), (597, .iconst 2, 598, 0, 0, 0), (598, .iadd, 599, 0, 0, 0), (599, .iaload, 600, 0, 0, 0), (600, .invokevirtual 65, 603, 147, 3, 817), (603, .aload_n 2, 604, 0, 0, 0), (604, .aload_n 0, 605, 0, 0, 0), (605, .iload_n 3, 606, 0, 0, 0), (606, .iconst 1, 607, 0, 0, 0), (607, .iadd, 608, 0, 0, 0), (608, .iaload, 609, 0, 0, 0), (609, .aload_n 0, 610, 0, 0, 0), (610, .iload_n 3, 611, 0, 0, 0), (611, .iconst 2, 612, 0, 0, 0), (612, .iadd, 613, 0, 0, 0), (613, .iaload, 614, 0, 0, 0), (614, .invokevirtual 68, 617, 263, 3, 1735), (617, .if_icmp .eq 1539, 620, 2156, 0, 0), (620, .iconst 0, 621, 0, 0, 0), (621, .ireturn, 622, 0, 0, 0), (622, .aload_n 1, 623, 0, 0, 0), (623, .aload_n 0, 624, 0, 0, 0), (624, .iload_n 3, 625, 0, 0, 0), (625, .iconst 1, 626, 0, 0, 0), (626, .iadd, 627, 0, 0, 0), (627, .iaload, 628, 0, 0, 0), (628, .aload_n 0, 629, 0, 0, 0), (629, .iload_n 3, 630, 0, 0, 0), (630, .iconst 2, 631, 0, 0, 0), (631, .iadd, 632, 0, 0, 0), (632, .iaload, 633, 0, 0, 0), (633, .aload_n 0, 634, 0, 0, 0), (634, .iload_n 3, 635, 0, 0, 0), (635, .iconst 3, 636, 0, 0, 0), (636, .iadd, 637, 0, 0, 0), (637, .iaload, 638, 0, 0, 0), (638, .i2l, 639, 0, 0, 0), (639, .bipush 32, 641, 0, 0, 0), (641, .lshl, 642, 0, 0, 0), (642, .aload_n 0, 643, 0, 0, 0), (643, .iload_n 3, 644, 0, 0, 0), (644, .iconst 4, 645, 0, 0, 0), (645, .iadd, 646, 0, 0, 0), (646, .iaload, 647, 0, 0, 0), (647, .i2l, 648, 0, 0, 0), (648, .ldc2_w 41, 651, 34, 0, 1962), (651, .land, 652, 0, 0, 0), (652, .lor, 653, 0, 0, 0), (653, .invokevirtual 69, 656, 148, 4, 825), (656, .aload_n 2, 657, 0, 0, 0), (657, .aload_n 0, 658, 0, 0, 0), (658, .iload_n 3, 659, 0, 0, 0), (659, .iconst 1, 660, 0, 0, 0), (660, .iadd, 661, 0, 0, 0), (661, .iaload, 662, 0, 0, 0), (662, .aload_n 0, 663, 0, 0, 0), (663, .iload_n 3, 664, 0, 0, 0), (664, .iconst 2, 665, 0, 0, 0), (665, .iadd, 666, 0, 0, 0), (666, .iaload, 667, 0, 0, 0), (667, .aload_n 0, 668, 0, 0, 0), (668, .iload_n 3, 669, 0, 0, 0), (669, .iconst 3, 670, 0, 0, 0), (670, .iadd, 671, 0, 0, 0), (671, .iaload, 672, 0, 0, 0), (672, .i2l, 673, 0, 0, 0), (673, .bipush 32, 675, 0, 0, 0), (675, .lshl, 676, 0, 0, 0), (676, .aload_n 0, 677, 0, 0, 0), (677, .iload_n 3, 678, 0, 0, 0), (678, .iconst 4, 679, 0, 0, 0), (679, .iadd, 680, 0, 0, 0), (680, .iaload, 681, 0, 0, 0), (681, .i2l, 682, 0, 0, 0), (682, .ldc2_w 41, 685, 34, 0, 1962), (685, .land, 686, 0, 0, 0), (686, .lor, 687, 0, 0, 0), (687, .invokevirtual 73, 690, 264, 4, 1739), (690, .if_icmp .eq 1466, 693, 2156, 0, 0), (693, .iconst 0, 694, 0, 0, 0), (694, .ireturn, 695, 0, 0, 0), (695, .aload_n 1, 696, 0, 0, 0), (696, .aload_n 0, 697, 0, 0, 0), (697, .iload_n 3, 698, 0, 0, 0), (698, .iconst 1, 699, 0, 0, 0), (699, .iadd, 700, 0, 0, 0), (700, .iaload, 701, 0, 0, 0), (701, .invokevirtual 74, 704, 149, 2, 842), (704, .aload_n 2, 705, 0, 0, 0), (705, .aload_n 0, 706, 0, 0, 0)]
noncomputable def cd_L_law_4 : List pm_I := [(706, .iload_n 3, 707, 0, 0, 0), (707, .iconst 1, 708, 0, 0, 0), (708, .iadd, 709, 0, 0, 0), (709, .iaload, 710, 0, 0, 0), (710, .invokevirtual 77, 713, 266, 2, 1743), (713, .if_icmp .eq 1443, 716, 2156, 0, 0), (716, .iconst 0, 717, 0, 0, 0), (717, .ireturn, 718, 0, 0, 0), (718, .aload_n 1, 719, 0, 0, 0), (719, .invokevirtual 78, 722, 151, 1, 853), (722, .aload_n 2, 723, 0, 0, 0), (723, .invokevirtual 81, 726, 267, 1, 1751), (726, .if_icmp .eq 1430, 729, 2156, 0, 0), (729, .iconst 0, 730, 0, 0, 0), (730, .ireturn, 731, 0, 0, 0), (731, .aload_n 1, 732, 0, 0, 0), (732, .aload_n 0, 733, 0, 0, 0), (733, .iload_n 3, 734, 0, 0, 0), (734, .iconst 1, 735, 0, 0, 0), (735, .iadd, 736, 0, 0, 0), (736, .iaload, 737, 0, 0, 0), (737, .aload_n 0, 738, 0, 0, 0), (738, .iload_n 3, 739, 0, 0, 0), (739, .iconst 2, 740, 0, 0, 0), (740, .iadd, 741, 0, 0, 0), (741, .iaload, 742, 0, 0, 0), (742, .aload_n 0, 743, 0, 0, 0), (743, .iload_n 3, 744, 0, 0, 0), (744, .iconst 3, 745, 0, 0, 0), (745, .iadd, 746, 0, 0, 0), (746, .iaload, 747, 0, 0, 0), (747, .invokevirtual 82, 750, 152, 4, 892), (750, .aload_n 2, 751, 0, 0, 0), (751, .aload_n 0, 752, 0, 0, 0), (752, .iload_n 3, 753, 0, 0, 0), (753, .iconst 1, 754, 0, 0, 0), (754, .iadd, 755, 0, 0, 0), (755, .iaload, 756, 0, 0, 0), (756, .aload_n 0, 757, 0, 0, 0), (757, .iload_n 3, 758, 0, 0, 0), (758, .iconst 2, 759, 0, 0, 0), (759, .iadd, 760, 0, 0, 0), (760, .iaload, 761, 0, 0, 0), (761, .aload_n 0, 762, 0, 0, 0), (762, .iload_n 3, 763, 0, 0, 0), (763, .iconst 3, 764, 0, 0, 0), (764, .iadd, 765, 0, 0, 0), (765, .iaload, 766, 0, 0, 0), (766, .invokevirtual 86, 769, 248, 4, 1645), (769, .lcmp, 770, 0, 0, 0), (770, .ifCond .eq 1386, 773, 2156, 0, 0), (773, .iconst 0, 774, 0, 0, 0), (774, .ireturn, 775, 0, 0, 0), (775, .aload_n 1, 776, 0, 0, 0), (776, .invokevirtual 87, 779, 153, 1, 900), (779, .aload_n 2, 780, 0, 0, 0), (780, .invokevirtual 91, 783, 249, 1, 1684), (783, .lcmp, 784, 0, 0, 0), (784, .ifCond .eq 1372, 787, 2156, 0, 0), (787, .iconst 0, 788, 0, 0, 0), (788, .ireturn, 789, 0, 0, 0), (789, .aload_n 1, 790, 0, 0, 0), (790, .aload_n 0, 791, 0, 0, 0), (791, .iload_n 3, 792, 0, 0, 0), (792, .iconst 1, 793, 0, 0, 0), (793, .iadd, 794, 0, 0, 0), (794, .iaload, 795, 0, 0, 0), (795, .invokevirtual 92, 798, 154, 2, 904), (798, .aload_n 2, 799, 0, 0, 0), (799, .aload_n 0, 800, 0, 0, 0), (800, .iload_n 3, 801, 0, 0, 0), (801, .iconst 1, 802, 0, 0, 0), (802, .iadd, 803, 0, 0, 0), (803, .iaload, 804, 0, 0, 0), (804, .invokevirtual 95, 807, 251, 2, 1688), (807, .if_icmp .eq 1349, 810, 2156, 0, 0), (810, .iconst 0, 811, 0, 0, 0), (811, .ireturn, 812, 0, 0, 0), (812, .aload_n 1, 813, 0, 0, 0), (813, .aload_n 0, 814, 0, 0, 0), (814, .iload_n 3, 815, 0, 0, 0), (815, .iconst 1, 816, 0, 0, 0), (816, .iadd, 817, 0, 0, 0), (817, .iaload, 818, 0, 0, 0), (818, .invokevirtual 96, 821, 155, 2, 912), (821, .aload_n 2, 822, 0, 0, 0), (822, .aload_n 0, 823, 0, 0, 0), (823, .iload_n 3, 824, 0, 0, 0), (824, .iconst 1, 825, 0, 0, 0), (825, .iadd, 826, 0, 0, 0), (826, .iaload, 827, 0, 0, 0), (827, .invokevirtual 100, 830, 252, 2, 1696), (830, .lcmp, 831, 0, 0, 0), (831, .ifCond .eq 1325, 834, 2156, 0, 0), (834, .iconst 0, 835, 0, 0, 0), (835, .ireturn, 836, 0, 0, 0), (836, .aload_n 1, 837, 0, 0, 0), (837, .aload_n 0, 838, 0, 0, 0), (838, .iload_n 3, 839, 0, 0, 0), (839, .iconst 1, 840, 0, 0, 0)]
noncomputable def cd_L_law_5 : List pm_I := [(840, .iadd, 841, 0, 0, 0), (841, .iaload, 842, 0, 0, 0), (842, .aload_n 0, 843, 0, 0, 0), (843, .iload_n 3, 844, 0, 0, 0), (844, .iconst 2, 845, 0, 0, 0), (845, .iadd, 846, 0, 0, 0), (846, .iaload, 847, 0, 0, 0), (847, .invokevirtual 101, 850, 156, 3, 921), (850, .aload_n 2, 851, 0, 0, 0), (851, .aload_n 0, 852, 0, 0, 0), (852, .iload_n 3, 853, 0, 0, 0), (853, .iconst 1, 854, 0, 0, 0), (854, .iadd, 855, 0, 0, 0), (855, .iaload, 856, 0, 0, 0), (856, .aload_n 0, 857, 0, 0, 0), (857, .iload_n 3, 858, 0, 0, 0), (858, .iconst 2, 859, 0, 0, 0), (859, .iadd, 860, 0, 0, 0), (860, .iaload, 861, 0, 0, 0), (861, .invokevirtual 104, 864, 223, 3, 1574), (864, .if_icmp .eq 1292, 867, 2156, 0, 0), (867, .iconst 0, 868, 0, 0, 0), (868, .ireturn, 869, 0, 0, 0), (869, .aload_n 1, 870, 0, 0, 0), (870, .aload_n 0, 871, 0, 0, 0), (871, .iload_n 3, 872, 0, 0, 0), (872, .iconst 1, 873, 0, 0, 0), (873, .iadd, 874, 0, 0, 0), (874, .iaload, 875, 0, 0, 0), (875, .invokevirtual 105, 878, 157, 2, 978), (878, .aload_n 2, 879, 0, 0, 0), (879, .aload_n 0, 880, 0, 0, 0), (880, .iload_n 3, 881, 0, 0, 0), (881, .iconst 1, 882, 0, 0, 0), (882, .iadd, 883, 0, 0, 0), (883, .iaload, 884, 0, 0, 0), (884, .invokevirtual 108, 887, 227, 2, 1583), (887, .lcmp, 888, 0, 0, 0), (888, .ifCond .eq 1268, 891, 2156, 0, 0), (891, .iconst 0, 892, 0, 0, 0), (892, .ireturn, 893, 0, 0, 0), (893, .aload_n 1, 894, 0, 0, 0), (894, .aload_n 0, 895, 0, 0, 0), (895, .iload_n 3, 896, 0, 0, 0), (896, .iconst 1, 897, 0, 0, 0), (897, .iadd, 898, 0, 0, 0), (898, .iaload, 899, 0, 0, 0), (899, .invokevirtual 109, 902, 158, 2, 990), (902, .aload_n 2, 903, 0, 0, 0), (903, .aload_n 0, 904, 0, 0, 0), (904, .iload_n 3, 905, 0, 0, 0), (905, .iconst 1, 906, 0, 0, 0), (906, .iadd, 907, 0, 0, 0), (907, .iaload, 908, 0, 0, 0), (908, .invokevirtual 112, 911, 233, 2, 1598), (911, .lcmp, 912, 0, 0, 0), (912, .ifCond .eq 1244, 915, 2156, 0, 0), (915, .iconst 0, 916, 0, 0, 0), (916, .ireturn, 917, 0, 0, 0), (917, .aload_n 1, 918, 0, 0, 0), (918, .aload_n 0, 919, 0, 0, 0), (919, .iload_n 3, 920, 0, 0, 0), (920, .iconst 1, 921, 0, 0, 0), (921, .iadd, 922, 0, 0, 0), (922, .iaload, 923, 0, 0, 0), (923, .i2l, 924, 0, 0, 0), (924, .bipush 32, 926, 0, 0, 0), (926, .lshl, 927, 0, 0, 0), (927, .aload_n 0, 928, 0, 0, 0), (928, .iload_n 3, 929, 0, 0, 0), (929, .iconst 2, 930, 0, 0, 0), (930, .iadd, 931, 0, 0, 0), (931, .iaload, 932, 0, 0, 0), (932, .i2l, 933, 0, 0, 0), (933, .ldc2_w 41, 936, 34, 0, 1962), (936, .land, 937, 0, 0, 0), (937, .lor, 938, 0, 0, 0), (938, .invokevirtual 113, 941, 159, 2, 1031), (941, .aload_n 2, 942, 0, 0, 0), (942, .aload_n 0, 943, 0, 0, 0), (943, .iload_n 3, 944, 0, 0, 0), (944, .iconst 1, 945, 0, 0, 0), (945, .iadd, 946, 0, 0, 0), (946, .iaload, 947, 0, 0, 0), (947, .i2l, 948, 0, 0, 0), (948, .bipush 32, 950, 0, 0, 0), (950, .lshl, 951, 0, 0, 0), (951, .aload_n 0, 952, 0, 0, 0), (952, .iload_n 3, 953, 0, 0, 0), (953, .iconst 2, 954, 0, 0, 0), (954, .iadd, 955, 0, 0, 0), (955, .iaload, 956, 0, 0, 0), (956, .i2l, 957, 0, 0, 0), (957, .ldc2_w 41, 960, 34, 0, 1962), (960, .land, 961, 0, 0, 0), (961, .lor, 962, 0, 0, 0), (962, .invokevirtual 117, 965, 234, 2, 1625), (965, .lcmp, 966, 0, 0, 0), (966, .ifCond .eq 1190, 969, 2156, 0, 0), (969, .iconst 0, 970, 0, 0, 0)]
noncomputable def cd_L_law_6 : List pm_I := [(970, .ireturn, 971, 0, 0, 0), (971, .aload_n 1, 972, 0, 0, 0), (972, .aload_n 0, 973, 0, 0, 0), (973, .iload_n 3, 974, 0, 0, 0), (974, .iconst 1, 975, 0, 0, 0), (975, .iadd, 976, 0, 0, 0), (976, .iaload, 977, 0, 0, 0), (977, .invokevirtual 118, 980, 160, 2, 1039), (980, .aload_n 2, 981, 0, 0, 0), (981, .aload_n 0, 982, 0, 0, 0), (982, .iload_n 3, 983, 0, 0, 0), (983, .iconst 1, 984, 0, 0, 0), (984, .iadd, 985, 0, 0, 0), (985, .iaload, 986, 0, 0, 0), (986, .invokevirtual 121, 989, 235, 2, 1629), (989, .if_icmp .eq 1167, 992, 2156, 0, 0), (992, .iconst 0, 993, 0, 0, 0), (993, .ireturn, 994, 0, 0, 0), (994, .aload_n 1, 995, 0, 0, 0), (995, .aload_n 0, 996, 0, 0, 0), (996, .iload_n 3, 997, 0, 0, 0), (997, .iconst 1, 998, 0, 0, 0), (998, .iadd, 999, 0, 0, 0), (999, .iaload, 1000, 0, 0, 0), (1000, .aload_n 0, 1001, 0, 0, 0), (1001, .iload_n 3, 1002, 0, 0, 0), (1002, .iconst 2, 1003, 0, 0, 0), (1003, .iadd, 1004, 0, 0, 0), (1004, .iaload, 1005, 0, 0, 0), (1005, .invokevirtual 122, 1008, 163, 3, 1058), (1008, .aload_n 2, 1009, 0, 0, 0), (1009, .aload_n 0, 1010, 0, 0, 0), (1010, .iload_n 3, 1011, 0, 0, 0), (1011, .iconst 1, 1012, 0, 0, 0), (1012, .iadd, 1013, 0, 0, 0), (1013, .iaload, 1014, 0, 0, 0), (1014, .aload_n 0, 1015, 0, 0, 0), (1015, .iload_n 3, 1016, 0, 0, 0), (1016, .iconst 2, 1017, 0, 0, 0), (1017, .iadd, 1018, 0, 0, 0), (1018, .iaload, 1019, 0, 0, 0), (1019, .invokevirtual 126, 1022, 238, 3, 1633), (1022, .lcmp, 1023, 0, 0, 0), (1023, .ifCond .eq 1133, 1026, 2156, 0, 0), (1026, .iconst 0, 1027, 0, 0, 0), (1027, .ireturn, 1028, 0, 0, 0), (1028, .aload_n 1, 1029, 0, 0, 0), (1029, .aload_n 0, 1030, 0, 0, 0), (1030, .iload_n 3, 1031, 0, 0, 0), (1031, .iconst 1, 1032, 0, 0, 0), (1032, .iadd, 1033, 0, 0, 0), (1033, .iaload, 1034, 0, 0, 0), (1034, .invokevirtual 127, 1037, 175, 2, 1176), (1037, .aload_n 2, 1038, 0, 0, 0), (1038, .aload_n 0, 1039, 0, 0, 0), (1039, .iload_n 3, 1040, 0, 0, 0), (1040, .iconst 1, 1041, 0, 0, 0), (1041, .iadd, 1042, 0, 0, 0), (1042, .iaload, 1043, 0, 0, 0), (1043, .invokevirtual 130, 1046, 314, 2, 1942), (1046, .lcmp, 1047, 0, 0, 0), (1047, .ifCond .eq 1109, 1050, 2156, 0, 0), (1050, .iconst 0, 1051, 0, 0, 0), (1051, .ireturn, 1052, 0, 0, 0), (1052, .aload_n 1, 1053, 0, 0, 0), (1053, .aload_n 0, 1054, 0, 0, 0), (1054, .iload_n 3, 1055, 0, 0, 0), (1055, .iconst 1, 1056, 0, 0, 0), (1056, .iadd, 1057, 0, 0, 0), (1057, .iaload, 1058, 0, 0, 0), (1058, .invokevirtual 131, 1061, 176, 2, 1222), (1061, .aload_n 2, 1062, 0, 0, 0), (1062, .aload_n 0, 1063, 0, 0, 0), (1063, .iload_n 3, 1064, 0, 0, 0), (1064, .iconst 1, 1065, 0, 0, 0), (1065, .iadd, 1066, 0, 0, 0), (1066, .iaload, 1067, 0, 0, 0), (1067, .invokevirtual 134, 1070, 312, 2, 1926), (1070, .if_icmp .eq 1086, 1073, 2156, 0, 0), (1073, .iconst 0, 1074, 0, 0, 0), (1074, .ireturn, 1075, 0, 0, 0), (1075, .aload_n 1, 1076, 0, 0, 0), (1076, .aload_n 0, 1077, 0, 0, 0), (1077, .iload_n 3, 1078, 0, 0, 0), (1078, .iconst 1, 1079, 0, 0, 0), (1079, .iadd, 1080, 0, 0, 0), (1080, .iaload, 1081, 0, 0, 0), (1081, .i2l, 1082, 0, 0, 0), (1082, .bipush 32, 1084, 0, 0, 0), (1084, .lshl, 1085, 0, 0, 0), (1085, .aload_n 0, 1086, 0, 0, 0), (1086, .iload_n 3, 1087, 0, 0, 0), (1087, .iconst 2, 1088, 0, 0, 0), (1088, .iadd, 1089, 0, 0, 0), (1089, .iaload, 1090, 0, 0, 0), (1090, .i2l, 1091, 0, 0, 0), (1091, .ldc2_w 41, 1094, 34, 0, 1962), (1094, .land, 1095, 0, 0, 0), (1095, .lor, 1096, 0, 0, 0), (1096, .aload_n 0, 1097, 0, 0, 0)]
noncomputable def cd_L_law_7 : List pm_I := [(1097, .iload_n 3, 1098, 0, 0, 0), (1098, .iconst 3, 1099, 0, 0, 0), (1099, .iadd, 1100, 0, 0, 0), (1100, .iaload, 1101, 0, 0, 0), (1101, .i2l, 1102, 0, 0, 0), (1102, .bipush 32, 1104, 0, 0, 0), (1104, .lshl, 1105, 0, 0, 0), (1105, .aload_n 0, 1106, 0, 0, 0), (1106, .iload_n 3, 1107, 0, 0, 0), (1107, .iconst 4, 1108, 0, 0, 0), (1108, .iadd, 1109, 0, 0, 0), (1109, .iaload, 1110, 0, 0, 0), (1110, .i2l, 1111, 0, 0, 0), (1111, .ldc2_w 41, 1114, 34, 0, 1962), (1114, .land, 1115, 0, 0, 0), (1115, .lor, 1116, 0, 0, 0), (1116, .invokevirtual 135, 1119, 164, 3, 1082), (1119, .aload_n 2, 1120, 0, 0, 0), (1120, .aload_n 0, 1121, 0, 0, 0), (1121, .iload_n 3, 1122, 0, 0, 0), (1122, .iconst 1, 1123, 0, 0, 0), (1123, .iadd, 1124, 0, 0, 0), (1124, .iaload, 1125, 0, 0, 0), (1125, .i2l, 1126, 0, 0, 0), (1126, .bipush 32, 1128, 0, 0, 0), (1128, .lshl, 1129, 0, 0, 0), (1129, .aload_n 0, 1130, 0, 0, 0), (1130, .iload_n 3, 1131, 0, 0, 0), (1131, .iconst 2, 1132, 0, 0, 0), (1132, .iadd, 1133, 0, 0, 0), (1133, .iaload, 1134, 0, 0, 0), (1134, .i2l, 1135, 0, 0, 0), (1135, .ldc2_w 41, 1138, 34, 0, 1962), (1138, .land, 1139, 0, 0, 0), (1139, .lor, 1140, 0, 0, 0), (1140, .aload_n 0, 1141, 0, 0, 0), (1141, .iload_n 3, 1142, 0, 0, 0), (1142, .iconst 3, 1143, 0, 0, 0), (1143, .iadd, 1144, 0, 0, 0), (1144, .iaload, 1145, 0, 0, 0), (1145, .i2l, 1146, 0, 0, 0), (1146, .bipush 32, 1148, 0, 0, 0), (1148, .lshl, 1149, 0, 0, 0), (1149, .aload_n 0, 1150, 0, 0, 0), (1150, .iload_n 3, 1151, 0, 0, 0), (1151, .iconst 4, 1152, 0, 0, 0), (1152, .iadd, 1153, 0, 0, 0), (1153, .iaload, 1154, 0, 0, 0), (1154, .i2l, 1155, 0, 0, 0), (1155, .ldc2_w 41, 1158, 34, 0, 1962), (1158, .land, 1159, 0, 0, 0), (1159, .lor, 1160, 0, 0, 0), (1160, .invokevirtual 139, 1163, 199, 3, 1444), (1163, .lcmp, 1164, 0, 0, 0), (1164, .ifCond .eq 992, 1167, 2156, 0, 0), (1167, .iconst 0, 1168, 0, 0, 0), (1168, .ireturn, 1169, 0, 0, 0), (1169, .aload_n 1, 1170, 0, 0, 0), (1170, .aload_n 0, 1171, 0, 0, 0), (1171, .iload_n 3, 1172, 0, 0, 0), (1172, .iconst 1, 1173, 0, 0, 0), (1173, .iadd, 1174, 0, 0, 0), (1174, .iaload, 1175, 0, 0, 0), (1175, .i2l, 1176, 0, 0, 0), (1176, .bipush 32, 1178, 0, 0, 0), (1178, .lshl, 1179, 0, 0, 0), (1179, .aload_n 0, 1180, 0, 0, 0), (1180, .iload_n 3, 1181, 0, 0, 0), (1181, .iconst 2, 1182, 0, 0, 0), (1182, .iadd, 1183, 0, 0, 0), (1183, .iaload, 1184, 0, 0, 0), (1184, .i2l, 1185, 0, 0, 0), (1185, .ldc2_w 41, 1188, 34, 0, 1962), (1188, .land, 1189, 0, 0, 0), (1189, .lor, 1190, 0, 0, 0), (1190, .invokevirtual 140, 1193, 165, 2, 1086), (1193, .aload_n 2, 1194, 0, 0, 0), (1194, .aload_n 0, 1195, 0, 0, 0), (1195, .iload_n 3, 1196, 0, 0, 0), (1196, .iconst 1, 1197, 0, 0, 0), (1197, .iadd, 1198, 0, 0, 0), (1198, .iaload, 1199, 0, 0, 0), (1199, .i2l, 1200, 0, 0, 0), (1200, .bipush 32, 1202, 0, 0, 0), (1202, .lshl, 1203, 0, 0, 0), (1203, .aload_n 0, 1204, 0, 0, 0), (1204, .iload_n 3, 1205, 0, 0, 0), (1205, .iconst 2, 1206, 0, 0, 0), (1206, .iadd, 1207, 0, 0, 0), (1207, .iaload, 1208, 0, 0, 0), (1208, .i2l, 1209, 0, 0, 0), (1209, .ldc2_w 41, 1212, 34, 0, 1962), (1212, .land, 1213, 0, 0, 0), (1213, .lor, 1214, 0, 0, 0), (1214, .invokevirtual 143, 1217, 200, 2, 1452), (1217, .lcmp, 1218, 0, 0, 0), (1218, .ifCond .eq 938, 1221, 2156, 0, 0), (1221, .iconst 0, 1222, 0, 0, 0), (1222, .ireturn, 1223, 0, 0, 0), (1223, .aload_n 1, 1224, 0, 0, 0)]
noncomputable def cd_L_law_8 : List pm_I := [(1224, .aload_n 0, 1225, 0, 0, 0), (1225, .iload_n 3, 1226, 0, 0, 0), (1226, .iconst 1, 1227, 0, 0, 0), (1227, .iadd, 1228, 0, 0, 0), (1228, .iaload, 1229, 0, 0, 0), (1229, .i2l, 1230, 0, 0, 0), (1230, .bipush 32, 1232, 0, 0, 0), (1232, .lshl, 1233, 0, 0, 0), (1233, .aload_n 0, 1234, 0, 0, 0), (1234, .iload_n 3, 1235, 0, 0, 0), (1235, .iconst 2, 1236, 0, 0, 0), (1236, .iadd, 1237, 0, 0, 0), (1237, .iaload, 1238, 0, 0, 0), (1238, .i2l, 1239, 0, 0, 0), (1239, .ldc2_w 41, 1242, 34, 0, 1962), (1242, .land, 1243, 0, 0, 0), (1243, .lor, 1244, 0, 0, 0), (1244, .invokevirtual 144, 1247, 166, 2, 1090), (1247, .aload_n 2, 1248, 0, 0, 0), (1248, .aload_n 0, 1249, 0, 0, 0), (1249, .iload_n 3, 1250, 0, 0, 0), (1250, .iconst 1, 1251, 0, 0, 0), (1251, .iadd, 1252, 0, 0, 0), (1252, .iaload, 1253, 0, 0, 0), (1253, .i2l, 1254, 0, 0, 0), (1254, .bipush 32, 1256, 0, 0, 0), (1256, .lshl, 1257, 0, 0, 0), (1257, .aload_n 0, 1258, 0, 0, 0), (1258, .iload_n 3, 1259, 0, 0, 0), (1259, .iconst 2, 1260, 0, 0, 0), (1260, .iadd, 1261, 0, 0, 0), (1261, .iaload, 1262, 0, 0, 0), (1262, .i2l, 1263, 0, 0, 0), (1263, .ldc2_w 41, 1266, 34, 0, 1962), (1266, .land, 1267, 0, 0, 0), (1267, .lor, 1268, 0, 0, 0), (1268, .invokevirtual 147, 1271, 201, 2, 1475), (1271, .lcmp, 1272, 0, 0, 0), (1272, .ifCond .eq 884, 1275, 2156, 0, 0), (1275, .iconst 0, 1276, 0, 0, 0), (1276, .ireturn, 1277, 0, 0, 0), (1277, .aload_n 1, 1278, 0, 0, 0), (1278, .aload_n 0, 1279, 0, 0, 0), (1279, .iload_n 3, 1280, 0, 0, 0), (1280, .iconst 1, 1281, 0, 0, 0), (1281, .iadd, 1282, 0, 0, 0), (1282, .iaload, 1283, 0, 0, 0), (1283, .i2l, 1284, 0, 0, 0), (1284, .bipush 32, 1286, 0, 0, 0), (1286, .lshl, 1287, 0, 0, 0), (1287, .aload_n 0, 1288, 0, 0, 0), (1288, .iload_n 3, 1289, 0, 0, 0), (1289, .iconst 2, 1290, 0, 0, 0), (1290, .iadd, 1291, 0, 0, 0), (1291, .iaload, 1292, 0, 0, 0), (1292, .i2l, 1293, 0, 0, 0), (1293, .ldc2_w 41, 1296, 34, 0, 1962), (1296, .land, 1297, 0, 0, 0), (1297, .lor, 1298, 0, 0, 0), (1298, .aload_n 0, 1299, 0, 0, 0), (1299, .iload_n 3, 1300, 0, 0, 0), (1300, .iconst 3, 1301, 0, 0, 0), (1301, .iadd, 1302, 0, 0, 0), (1302, .iaload, 1303, 0, 0, 0), (1303, .i2l, 1304, 0, 0, 0), (1304, .bipush 32, 1306, 0, 0, 0), (1306, .lshl, 1307, 0, 0, 0), (1307, .aload_n 0, 1308, 0, 0, 0), (1308, .iload_n 3, 1309, 0, 0, 0), (1309, .iconst 4, 1310, 0, 0, 0), (1310, .iadd, 1311, 0, 0, 0), (1311, .iaload, 1312, 0, 0, 0), (1312, .i2l, 1313, 0, 0, 0), (1313, .ldc2_w 41, 1316, 34, 0, 1962), (1316, .land, 1317, 0, 0, 0), (1317, .lor, 1318, 0, 0, 0), (1318, .invokevirtual 148, 1321, 167, 3, 1094), (1321, .aload_n 2, 1322, 0, 0, 0), (1322, .aload_n 0, 1323, 0, 0, 0), (1323, .iload_n 3, 1324, 0, 0, 0), (1324, .iconst 1, 1325, 0, 0, 0), (1325, .iadd, 1326, 0, 0, 0), (1326, .iaload, 1327, 0, 0, 0), (1327, .i2l, 1328, 0, 0, 0), (1328, .bipush 32, 1330, 0, 0, 0), (1330, .lshl, 1331, 0, 0, 0), (1331, .aload_n 0, 1332, 0, 0, 0), (1332, .iload_n 3, 1333, 0, 0, 0), (1333, .iconst 2, 1334, 0, 0, 0), (1334, .iadd, 1335, 0, 0, 0), (1335, .iaload, 1336, 0, 0, 0), (1336, .i2l, 1337, 0, 0, 0), (1337, .ldc2_w 41, 1340, 34, 0, 1962), (1340, .land, 1341, 0, 0, 0), (1341, .lor, 1342, 0, 0, 0), (1342, .aload_n 0, 1343, 0, 0, 0), (1343, .iload_n 3, 1344, 0, 0, 0), (1344, .iconst 3, 1345, 0, 0, 0), (1345, .iadd, 1346, 0, 0, 0), (1346, .iaload, 1347, 0, 0, 0)]
noncomputable def cd_L_law_9 : List pm_I := [(1347, .i2l, 1348, 0, 0, 0), (1348, .bipush 32, 1350, 0, 0, 0), (1350, .lshl, 1351, 0, 0, 0), (1351, .aload_n 0, 1352, 0, 0, 0), (1352, .iload_n 3, 1353, 0, 0, 0), (1353, .iconst 4, 1354, 0, 0, 0), (1354, .iadd, 1355, 0, 0, 0), (1355, .iaload, 1356, 0, 0, 0), (1356, .i2l, 1357, 0, 0, 0), (1357, .ldc2_w 41, 1360, 34, 0, 1962), (1360, .land, 1361, 0, 0, 0), (1361, .lor, 1362, 0, 0, 0), (1362, .invokevirtual 151, 1365, 202, 3, 1483), (1365, .lcmp, 1366, 0, 0, 0), (1366, .ifCond .eq 790, 1369, 2156, 0, 0), (1369, .iconst 0, 1370, 0, 0, 0), (1370, .ireturn, 1371, 0, 0, 0), (1371, .aload_n 1, 1372, 0, 0, 0), (1372, .aload_n 0, 1373, 0, 0, 0), (1373, .iload_n 3, 1374, 0, 0, 0), (1374, .iconst 1, 1375, 0, 0, 0), (1375, .iadd, 1376, 0, 0, 0), (1376, .iaload, 1377, 0, 0, 0), (1377, .i2l, 1378, 0, 0, 0), (1378, .bipush 32, 1380, 0, 0, 0), (1380, .lshl, 1381, 0, 0, 0), (1381, .aload_n 0, 1382, 0, 0, 0), (1382, .iload_n 3, 1383, 0, 0, 0), (1383, .iconst 2, 1384, 0, 0, 0), (1384, .iadd, 1385, 0, 0, 0), (1385, .iaload, 1386, 0, 0, 0), (1386, .i2l, 1387, 0, 0, 0), (1387, .ldc2_w 41, 1390, 34, 0, 1962), (1390, .land, 1391, 0, 0, 0), (1391, .lor, 1392, 0, 0, 0), (1392, .invokevirtual 152, 1395, 168, 2, 1098), (1395, .aload_n 2, 1396, 0, 0, 0), (1396, .aload_n 0, 1397, 0, 0, 0), (1397, .iload_n 3, 1398, 0, 0, 0), (1398, .iconst 1, 1399, 0, 0, 0), (1399, .iadd, 1400, 0, 0, 0), (1400, .iaload, 1401, 0, 0, 0), (1401, .i2l, 1402, 0, 0, 0), (1402, .bipush 32, 1404, 0, 0, 0), (1404, .lshl, 1405, 0, 0, 0), (1405, .aload_n 0, 1406, 0, 0, 0), (1406, .iload_n 3, 1407, 0, 0, 0), (1407, .iconst 2, 1408, 0, 0, 0), (1408, .iadd, 1409, 0, 0, 0), (1409, .iaload, 1410, 0, 0, 0), (1410, .i2l, 1411, 0, 0, 0), (1411, .ldc2_w 41, 1414, 34, 0, 1962), (1414, .land, 1415, 0, 0, 0), (1415, .lor, 1416, 0, 0, 0), (1416, .invokevirtual 155, 1419, 204, 2, 1487), (1419, .lcmp, 1420, 0, 0, 0), (1420, .ifCond .eq 736, 1423, 2156, 0, 0), (1423, .iconst 0, 1424, 0, 0, 0), (1424, .ireturn, 1425, 0, 0, 0), (1425, .aload_n 1, 1426, 0, 0, 0), (1426, .aload_n 0, 1427, 0, 0, 0), (1427, .iload_n 3, 1428, 0, 0, 0), (1428, .iconst 1, 1429, 0, 0, 0), (1429, .iadd, 1430, 0, 0, 0), (1430, .iaload, 1431, 0, 0, 0), (1431, .i2l, 1432, 0, 0, 0), (1432, .bipush 32, 1434, 0, 0, 0), (1434, .lshl, 1435, 0, 0, 0), (1435, .aload_n 0, 1436, 0, 0, 0), (1436, .iload_n 3, 1437, 0, 0, 0), (1437, .iconst 2, 1438, 0, 0, 0), (1438, .iadd, 1439, 0, 0, 0), (1439, .iaload, 1440, 0, 0, 0), (1440, .i2l, 1441, 0, 0, 0), (1441, .ldc2_w 41, 1444, 34, 0, 1962), (1444, .land, 1445, 0, 0, 0), (1445, .lor, 1446, 0, 0, 0), (1446, .aload_n 0, 1447, 0, 0, 0), (1447, .iload_n 3, 1448, 0, 0, 0), (1448, .iconst 3, 1449, 0, 0, 0), (1449, .iadd, 1450, 0, 0, 0), (1450, .iaload, 1451, 0, 0, 0), (1451, .invokevirtual 156, 1454, 169, 3, 1108), (1454, .aload_n 2, 1455, 0, 0, 0), (1455, .aload_n 0, 1456, 0, 0, 0), (1456, .iload_n 3, 1457, 0, 0, 0), (1457, .iconst 1, 1458, 0, 0, 0), (1458, .iadd, 1459, 0, 0, 0), (1459, .iaload, 1460, 0, 0, 0), (1460, .i2l, 1461, 0, 0, 0), (1461, .bipush 32, 1463, 0, 0, 0), (1463, .lshl, 1464, 0, 0, 0), (1464, .aload_n 0, 1465, 0, 0, 0), (1465, .iload_n 3, 1466, 0, 0, 0), (1466, .iconst 2, 1467, 0, 0, 0), (1467, .iadd, 1468, 0, 0, 0), (1468, .iaload, 1469, 0, 0, 0), (1469, .i2l, 1470, 0, 0, 0), (1470, .ldc2_w 41, 1473, 34, 0, 1962), (1473, .land, 1474, 0, 0, 0)]
noncomputable def cd_L_law_10 : List pm_I := [(1474, .lor, 1475, 0, 0, 0), (1475, .aload_n 0, 1476, 0, 0, 0), (1476, .iload_n 3, 1477, 0, 0, 0), (1477, .iconst 3, 1478, 0, 0, 0), (1478, .iadd, 1479, 0, 0, 0), (1479, .iaload, 1480, 0, 0, 0), (1480, .invokevirtual 160, 1483, 206, 3, 1498), (1483, .if_icmp .eq 673, 1486, 2156, 0, 0), (1486, .iconst 0, 1487, 0, 0, 0), (1487, .ireturn, 1488, 0, 0, 0), (1488, .aload_n 1, 1489, 0, 0, 0), (1489, .aload_n 0, 1490, 0, 0, 0), (1490, .iload_n 3, 1491, 0, 0, 0), (1491, .iconst 1, 1492, 0, 0, 0), (1492, .iadd, 1493, 0, 0, 0), (1493, .iaload, 1494, 0, 0, 0), (1494, .i2l, 1495, 0, 0, 0), (1495, .bipush 32, 1497, 0, 0, 0), (1497, .lshl, 1498, 0, 0, 0), (1498, .aload_n 0, 1499, 0, 0, 0), (1499, .iload_n 3, 1500, 0, 0, 0), (1500, .iconst 2, 1501, 0, 0, 0), (1501, .iadd, 1502, 0, 0, 0), (1502, .iaload, 1503, 0, 0, 0), (1503, .i2l, 1504, 0, 0, 0), (1504, .ldc2_w 41, 1507, 34, 0, 1962), (1507, .land, 1508, 0, 0, 0), (1508, .lor, 1509, 0, 0, 0), (1509, .invokevirtual 161, 1512, 170, 2, 1113), (1512, .aload_n 2, 1513, 0, 0, 0), (1513, .aload_n 0, 1514, 0, 0, 0), (1514, .iload_n 3, 1515, 0, 0, 0), (1515, .iconst 1, 1516, 0, 0, 0), (1516, .iadd, 1517, 0, 0, 0), (1517, .iaload, 1518, 0, 0, 0), (1518, .i2l, 1519, 0, 0, 0), (1519, .bipush 32, 1521, 0, 0, 0), (1521, .lshl, 1522, 0, 0, 0), (1522, .aload_n 0, 1523, 0, 0, 0), (1523, .iload_n 3, 1524, 0, 0, 0), (1524, .iconst 2, 1525, 0, 0, 0), (1525, .iadd, 1526, 0, 0, 0), (1526, .iaload, 1527, 0, 0, 0), (1527, .i2l, 1528, 0, 0, 0), (1528, .ldc2_w 41, 1531, 34, 0, 1962), (1531, .land, 1532, 0, 0, 0), (1532, .lor, 1533, 0, 0, 0), (1533, .invokevirtual 164, 1536, 207, 2, 1506), (1536, .lcmp, 1537, 0, 0, 0), (1537, .ifCond .eq 619, 1540, 2156, 0, 0), (1540, .iconst 0, 1541, 0, 0, 0), (1541, .ireturn, 1542, 0, 0, 0), (1542, .aload_n 1, 1543, 0, 0, 0), (1543, .aload_n 0, 1544, 0, 0, 0), (1544, .iload_n 3, 1545, 0, 0, 0), (1545, .iconst 1, 1546, 0, 0, 0), (1546, .iadd, 1547, 0, 0, 0), (1547, .iaload, 1548, 0, 0, 0), (1548, .i2l, 1549, 0, 0, 0), (1549, .bipush 32, 1551, 0, 0, 0), (1551, .lshl, 1552, 0, 0, 0), (1552, .aload_n 0, 1553, 0, 0, 0), (1553, .iload_n 3, 1554, 0, 0, 0), (1554, .iconst 2, 1555, 0, 0, 0), (1555, .iadd, 1556, 0, 0, 0), (1556, .iaload, 1557, 0, 0, 0), (1557, .i2l, 1558, 0, 0, 0), (1558, .ldc2_w 41, 1561, 34, 0, 1962), (1561, .land, 1562, 0, 0, 0), (1562, .lor, 1563, 0, 0, 0), (1563, .aload_n 0, 1564, 0, 0, 0), (1564, .iload_n 3, 1565, 0, 0, 0), (1565, .iconst 3, 1566, 0, 0, 0), (1566, .iadd, 1567, 0, 0, 0), (1567, .iaload, 1568, 0, 0, 0), (1568, .invokevirtual 165, 1571, 171, 3, 1135), (1571, .aload_n 2, 1572, 0, 0, 0), (1572, .aload_n 0, 1573, 0, 0, 0), (1573, .iload_n 3, 1574, 0, 0, 0), (1574, .iconst 1, 1575, 0, 0, 0), (1575, .iadd, 1576, 0, 0, 0), (1576, .iaload, 1577, 0, 0, 0), (1577, .i2l, 1578, 0, 0, 0), (1578, .bipush 32, 1580, 0, 0, 0), (1580, .lshl, 1581, 0, 0, 0), (1581, .aload_n 0, 1582, 0, 0, 0), (1582, .iload_n 3, 1583, 0, 0, 0), (1583, .iconst 2, 1584, 0, 0, 0), (1584, .iadd, 1585, 0, 0, 0), (1585, .iaload, 1586, 0, 0, 0), (1586, .i2l, 1587, 0, 0, 0), (1587, .ldc2_w 41, 1590, 34, 0, 1962), (1590, .land, 1591, 0, 0, 0), (1591, .lor, 1592, 0, 0, 0), (1592, .aload_n 0, 1593, 0, 0, 0), (1593, .iload_n 3, 1594, 0, 0, 0), (1594, .iconst 3, 1595, 0, 0, 0), (1595, .iadd, 1596, 0, 0, 0), (1596, .iaload, 1597, 0, 0, 0), (1597, .invokevirtual 168, 1600, 208, 3, 1510)]
noncomputable def cd_L_law_11 : List pm_I := [(1600, .if_icmp .eq 556, 1603, 2156, 0, 0), (1603, .iconst 0, 1604, 0, 0, 0), (1604, .ireturn, 1605, 0, 0, 0), (1605, .aload_n 1, 1606, 0, 0, 0), (1606, .aload_n 0, 1607, 0, 0, 0), (1607, .iload_n 3, 1608, 0, 0, 0), (1608, .iconst 1, 1609, 0, 0, 0), (1609, .iadd, 1610, 0, 0, 0), (1610, .iaload, 1611, 0, 0, 0), (1611, .i2l, 1612, 0, 0, 0), (1612, .bipush 32, 1614, 0, 0, 0), (1614, .lshl, 1615, 0, 0, 0), (1615, .aload_n 0, 1616, 0, 0, 0), (1616, .iload_n 3, 1617, 0, 0, 0), (1617, .iconst 2, 1618, 0, 0, 0), (1618, .iadd, 1619, 0, 0, 0), (1619, .iaload, 1620, 0, 0, 0), (1620, .i2l, 1621, 0, 0, 0), (1621, .ldc2_w 41, 1624, 34, 0, 1962), (1624, .land, 1625, 0, 0, 0), (1625, .lor, 1626, 0, 0, 0), (1626, .invokevirtual 169, 1629, 172, 2, 1142), (1629, .aload_n 2, 1630, 0, 0, 0), (1630, .aload_n 0, 1631, 0, 0, 0), (1631, .iload_n 3, 1632, 0, 0, 0), (1632, .iconst 1, 1633, 0, 0, 0), (1633, .iadd, 1634, 0, 0, 0), (1634, .iaload, 1635, 0, 0, 0), (1635, .i2l, 1636, 0, 0, 0), (1636, .bipush 32, 1638, 0, 0, 0), (1638, .lshl, 1639, 0, 0, 0), (1639, .aload_n 0, 1640, 0, 0, 0), (1640, .iload_n 3, 1641, 0, 0, 0), (1641, .iconst 2, 1642, 0, 0, 0), (1642, .iadd, 1643, 0, 0, 0), (1643, .iaload, 1644, 0, 0, 0), (1644, .i2l, 1645, 0, 0, 0), (1645, .ldc2_w 41, 1648, 34, 0, 1962), (1648, .land, 1649, 0, 0, 0), (1649, .lor, 1650, 0, 0, 0), (1650, .invokevirtual 172, 1653, 212, 2, 1518), (1653, .lcmp, 1654, 0, 0, 0), (1654, .ifCond .eq 502, 1657, 2156, 0, 0), (1657, .iconst 0, 1658, 0, 0, 0), (1658, .ireturn, 1659, 0, 0, 0), (1659, .aload_n 1, 1660, 0, 0, 0), (1660, .aload_n 0, 1661, 0, 0, 0), (1661, .iload_n 3, 1662, 0, 0, 0), (1662, .iconst 1, 1663, 0, 0, 0), (1663, .iadd, 1664, 0, 0, 0), (1664, .iaload, 1665, 0, 0, 0), (1665, .i2l, 1666, 0, 0, 0), (1666, .bipush 32, 1668, 0, 0, 0), (1668, .lshl, 1669, 0, 0, 0), (1669, .aload_n 0, 1670, 0, 0, 0), (1670, .iload_n 3, 1671, 0, 0, 0), (1671, .iconst 2, 1672, 0, 0, 0), (1672, .iadd, 1673, 0, 0, 0), (1673, .iaload, 1674, 0, 0, 0), (1674, .i2l, 1675, 0, 0, 0), (1675, .ldc2_w 41, 1678, 34, 0, 1962), (1678, .land, 1679, 0, 0, 0), (1679, .lor, 1680, 0, 0, 0), (1680, .aload_n 0, 1681, 0, 0, 0), (1681, .iload_n 3, 1682, 0, 0, 0), (1682, .iconst 3, 1683, 0, 0, 0), (1683, .iadd, 1684, 0, 0, 0), (1684, .iaload, 1685, 0, 0, 0), (1685, .i2l, 1686, 0, 0, 0), (1686, .bipush 32, 1688, 0, 0, 0), (1688, .lshl, 1689, 0, 0, 0), (1689, .aload_n 0, 1690, 0, 0, 0), (1690, .iload_n 3, 1691, 0, 0, 0), (1691, .iconst 4, 1692, 0, 0, 0), (1692, .iadd, 1693, 0, 0, 0), (1693, .iaload, 1694, 0, 0, 0), (1694, .i2l, 1695, 0, 0, 0), (1695, .ldc2_w 41, 1698, 34, 0, 1962), (1698, .land, 1699, 0, 0, 0), (1699, .lor, 1700, 0, 0, 0), (1700, .aload_n 0, 1701, 0, 0, 0), (1701, .iload_n 3, 1702, 0, 0, 0), (1702, .iconst 5, 1703, 0, 0, 0), (1703, .iadd, 1704, 0, 0, 0), (1704, .iaload, 1705, 0, 0, 0), (1705, .invokevirtual 173, 1708, 173, 4, 1155), (1708, .aload_n 2, 1709, 0, 0, 0), (1709, .aload_n 0, 1710, 0, 0, 0), (1710, .iload_n 3, 1711, 0, 0, 0), (1711, .iconst 1, 1712, 0, 0, 0), (1712, .iadd, 1713, 0, 0, 0), (1713, .iaload, 1714, 0, 0, 0), (1714, .i2l, 1715, 0, 0, 0), (1715, .bipush 32, 1717, 0, 0, 0), (1717, .lshl, 1718, 0, 0, 0), (1718, .aload_n 0, 1719, 0, 0, 0), (1719, .iload_n 3, 1720, 0, 0, 0), (1720, .iconst 2, 1721, 0, 0, 0), (1721, .iadd, 1722, 0, 0, 0), (1722, .iaload, 1723, 0, 0, 0)]
noncomputable def cd_L_law_12 : List pm_I := [(1723, .i2l, 1724, 0, 0, 0), (1724, .ldc2_w 41, 1727, 34, 0, 1962), (1727, .land, 1728, 0, 0, 0), (1728, .lor, 1729, 0, 0, 0), (1729, .aload_n 0, 1730, 0, 0, 0), (1730, .iload_n 3, 1731, 0, 0, 0), (1731, .iconst 3, 1732, 0, 0, 0), (1732, .iadd, 1733, 0, 0, 0), (1733, .iaload, 1734, 0, 0, 0), (1734, .i2l, 1735, 0, 0, 0), (1735, .bipush 32, 1737, 0, 0, 0), (1737, .lshl, 1738, 0, 0, 0), (1738, .aload_n 0, 1739, 0, 0, 0), (1739, .iload_n 3, 1740, 0, 0, 0), (1740, .iconst 4, 1741, 0, 0, 0), (1741, .iadd, 1742, 0, 0, 0), (1742, .iaload, 1743, 0, 0, 0), (1743, .i2l, 1744, 0, 0, 0), (1744, .ldc2_w 41, 1747, 34, 0, 1962), (1747, .land, 1748, 0, 0, 0), (1748, .lor, 1749, 0, 0, 0), (1749, .aload_n 0, 1750, 0, 0, 0), (1750, .iload_n 3, 1751, 0, 0, 0), (1751, .iconst 5, 1752, 0, 0, 0), (1752, .iadd, 1753, 0, 0, 0), (1753, .iaload, 1754, 0, 0, 0), (1754, .invokevirtual 177, 1757, 213, 4, 1533), (1757, .lcmp, 1758, 0, 0, 0), (1758, .ifCond .eq 398, 1761, 2156, 0, 0), (1761, .iconst 0, 1762, 0, 0, 0), (1762, .ireturn, 1763, 0, 0, 0), (1763, .aload_n 1, 1764, 0, 0, 0), (1764, .aload_n 0, 1765, 0, 0, 0), (1765, .iload_n 3, 1766, 0, 0, 0), (1766, .iconst 1, 1767, 0, 0, 0), (1767, .iadd, 1768, 0, 0, 0), (1768, .iaload, 1769, 0, 0, 0), (1769, .i2l, 1770, 0, 0, 0), (1770, .bipush 32, 1772, 0, 0, 0), (1772, .lshl, 1773, 0, 0, 0), (1773, .aload_n 0, 1774, 0, 0, 0), (1774, .iload_n 3, 1775, 0, 0, 0), (1775, .iconst 2, 1776, 0, 0, 0), (1776, .iadd, 1777, 0, 0, 0), (1777, .iaload, 1778, 0, 0, 0), (1778, .i2l, 1779, 0, 0, 0), (1779, .ldc2_w 41, 1782, 34, 0, 1962), (1782, .land, 1783, 0, 0, 0), (1783, .lor, 1784, 0, 0, 0), (1784, .aload_n 0, 1785, 0, 0, 0), (1785, .iload_n 3, 1786, 0, 0, 0), (1786, .iconst 3, 1787, 0, 0, 0), (1787, .iadd, 1788, 0, 0, 0), (1788, .iaload, 1789, 0, 0, 0), (1789, .i2l, 1790, 0, 0, 0), (1790, .bipush 32, 1792, 0, 0, 0), (1792, .lshl, 1793, 0, 0, 0), (1793, .aload_n 0, 1794, 0, 0, 0), (1794, .iload_n 3, 1795, 0, 0, 0), (1795, .iconst 4, 1796, 0, 0, 0), (1796, .iadd, 1797, 0, 0, 0), (1797, .iaload, 1798, 0, 0, 0), (1798, .i2l, 1799, 0, 0, 0), (1799, .ldc2_w 41, 1802, 34, 0, 1962), (1802, .land, 1803, 0, 0, 0), (1803, .lor, 1804, 0, 0, 0), (1804, .invokevirtual 178, 1807, 174, 3, 1162), (1807, .aload_n 2, 1808, 0, 0, 0), (1808, .aload_n 0, 1809, 0, 0, 0), (1809, .iload_n 3, 1810, 0, 0, 0), (1810, .iconst 1, 1811, 0, 0, 0), (1811, .iadd, 1812, 0, 0, 0), (1812, .iaload, 1813, 0, 0, 0), (1813, .i2l, 1814, 0, 0, 0), (1814, .bipush 32, 1816, 0, 0, 0), (1816, .lshl, 1817, 0, 0, 0), (1817, .aload_n 0, 1818, 0, 0, 0), (1818, .iload_n 3, 1819, 0, 0, 0), (1819, .iconst 2, 1820, 0, 0, 0), (1820, .iadd, 1821, 0, 0, 0), (1821, .iaload, 1822, 0, 0, 0), (1822, .i2l, 1823, 0, 0, 0), (1823, .ldc2_w 41, 1826, 34, 0, 1962), (1826, .land, 1827, 0, 0, 0), (1827, .lor, 1828, 0, 0, 0), (1828, .aload_n 0, 1829, 0, 0, 0), (1829, .iload_n 3, 1830, 0, 0, 0), (1830, .iconst 3, 1831, 0, 0, 0), (1831, .iadd, 1832, 0, 0, 0), (1832, .iaload, 1833, 0, 0, 0), (1833, .i2l, 1834, 0, 0, 0), (1834, .bipush 32, 1836, 0, 0, 0), (1836, .lshl, 1837, 0, 0, 0), (1837, .aload_n 0, 1838, 0, 0, 0), (1838, .iload_n 3, 1839, 0, 0, 0), (1839, .iconst 4, 1840, 0, 0, 0), (1840, .iadd, 1841, 0, 0, 0), (1841, .iaload, 1842, 0, 0, 0), (1842, .i2l, 1843, 0, 0, 0), (1843, .ldc2_w 41, 1846, 34, 0, 1962)]
noncomputable def cd_L_law_13 : List pm_I := [(1846, .land, 1847, 0, 0, 0), (1847, .lor, 1848, 0, 0, 0), (1848, .invokevirtual 182, 1851, 216, 3, 1541), (1851, .if_icmp .eq 305, 1854, 2156, 0, 0), (1854, .iconst 0, 1855, 0, 0, 0), (1855, .ireturn, 1856, 0, 0, 0), (1856, .aload_n 1, 1857, 0, 0, 0), (1857, .aload_n 0, 1858, 0, 0, 0), (1858, .iload_n 3, 1859, 0, 0, 0), (1859, .iconst 1, 1860, 0, 0, 0), (1860, .iadd, 1861, 0, 0, 0), (1861, .iaload, 1862, 0, 0, 0), (1862, .invokevirtual 183, 1865, 161, 2, 1045), (1865, .aload_n 2, 1866, 0, 0, 0), (1866, .aload_n 0, 1867, 0, 0, 0), (1867, .iload_n 3, 1868, 0, 0, 0), (1868, .iconst 1, 1869, 0, 0, 0), (1869, .iadd, 1870, 0, 0, 0), (1870, .iaload, 1871, 0, 0, 0), (1871, .invokevirtual 186, 1874, 218, 2, 1553), (1874, .lcmp, 1875, 0, 0, 0), (1875, .ifCond .eq 281, 1878, 2156, 0, 0), (1878, .iconst 0, 1879, 0, 0, 0), (1879, .ireturn, 1880, 0, 0, 0), (1880, .aload_n 1, 1881, 0, 0, 0), (1881, .aload_n 0, 1882, 0, 0, 0), (1882, .iload_n 3, 1883, 0, 0, 0), (1883, .iconst 1, 1884, 0, 0, 0), (1884, .iadd, 1885, 0, 0, 0), (1885, .iaload, 1886, 0, 0, 0), (1886, .i2l, 1887, 0, 0, 0), (1887, .bipush 32, 1889, 0, 0, 0), (1889, .lshl, 1890, 0, 0, 0), (1890, .aload_n 0, 1891, 0, 0, 0), (1891, .iload_n 3, 1892, 0, 0, 0), (1892, .iconst 2, 1893, 0, 0, 0), (1893, .iadd, 1894, 0, 0, 0), (1894, .iaload, 1895, 0, 0, 0), (1895, .i2l, 1896, 0, 0, 0), (1896, .ldc2_w 41, 1899, 34, 0, 1962), (1899, .land, 1900, 0, 0, 0), (1900, .lor, 1901, 0, 0, 0), (1901, .aload_n 0, 1902, 0, 0, 0), (1902, .iload_n 3, 1903, 0, 0, 0), (1903, .iconst 3, 1904, 0, 0, 0), (1904, .iadd, 1905, 0, 0, 0), (1905, .iaload, 1906, 0, 0, 0), (1906, .invokevirtual 187, 1909, 162, 3, 1049), (1909, .aload_n 2, 1910, 0, 0, 0), (1910, .aload_n 0, 1911, 0, 0, 0), (1911, .iload_n 3, 1912, 0, 0, 0), (1912, .iconst 1, 1913, 0, 0, 0), (1913, .iadd, 1914, 0, 0, 0), (1914, .iaload, 1915, 0, 0, 0), (1915, .i2l, 1916, 0, 0, 0), (1916, .bipush 32, 1918, 0, 0, 0), (1918, .lshl, 1919, 0, 0, 0), (1919, .aload_n 0, 1920, 0, 0, 0), (1920, .iload_n 3, 1921, 0, 0, 0), (1921, .iconst 2, 1922, 0, 0, 0), (1922, .iadd, 1923, 0, 0, 0), (1923, .iaload, 1924, 0, 0, 0), (1924, .i2l, 1925, 0, 0, 0), (1925, .ldc2_w 41, 1928, 34, 0, 1962), (1928, .land, 1929, 0, 0, 0), (1929, .lor, 1930, 0, 0, 0), (1930, .aload_n 0, 1931, 0, 0, 0), (1931, .iload_n 3, 1932, 0, 0, 0), (1932, .iconst 3, 1933, 0, 0, 0), (1933, .iadd, 1934, 0, 0, 0), (1934, .iaload, 1935, 0, 0, 0), (1935, .invokevirtual 191, 1938, 221, 3, 1562), (1938, .lcmp, 1939, 0, 0, 0), (1939, .ifCond .eq 217, 1942, 2156, 0, 0), (1942, .iconst 0, 1943, 0, 0, 0), (1943, .ireturn, 1944, 0, 0, 0), (1944, .aload_n 1, 1945, 0, 0, 0), (1945, .aload_n 0, 1946, 0, 0, 0), (1946, .iload_n 3, 1947, 0, 0, 0), (1947, .iconst 1, 1948, 0, 0, 0), (1948, .iadd, 1949, 0, 0, 0), (1949, .iaload, 1950, 0, 0, 0), (1950, .aload_n 0, 1951, 0, 0, 0), (1951, .iload_n 3, 1952, 0, 0, 0), (1952, .iconst 2, 1953, 0, 0, 0), (1953, .iadd, 1954, 0, 0, 0), (1954, .iaload, 1955, 0, 0, 0), (1955, .invokevirtual 192, 1958, 177, 3, 1230), (1958, .aload_n 2, 1959, 0, 0, 0), (1959, .aload_n 0, 1960, 0, 0, 0), (1960, .iload_n 3, 1961, 0, 0, 0), (1961, .iconst 1, 1962, 0, 0, 0), (1962, .iadd, 1963, 0, 0, 0), (1963, .iaload, 1964, 0, 0, 0), (1964, .aload_n 0, 1965, 0, 0, 0), (1965, .iload_n 3, 1966, 0, 0, 0), (1966, .iconst 2, 1967, 0, 0, 0), (1967, .iadd, 1968, 0, 0, 0), (1968, .iaload, 1969, 0, 0, 0), (1969, .invokevirtual 195, 1972, 289, 3, 1828)]
noncomputable def cd_L_law_14 : List pm_I := [(1972, .if_icmp .eq 184, 1975, 2156, 0, 0), (1975, .iconst 0, 1976, 0, 0, 0), (1976, .ireturn, 1977, 0, 0, 0), (1977, .aload_n 1, 1978, 0, 0, 0), (1978, .aload_n 0, 1979, 0, 0, 0), (1979, .iload_n 3, 1980, 0, 0, 0), (1980, .iconst 1, 1981, 0, 0, 0), (1981, .iadd, 1982, 0, 0, 0), (1982, .iaload, 1983, 0, 0, 0), (1983, .aload_n 0, 1984, 0, 0, 0), (1984, .iload_n 3, 1985, 0, 0, 0), (1985, .iconst 2, 1986, 0, 0, 0), (1986, .iadd, 1987, 0, 0, 0), (1987, .iaload, 1988, 0, 0, 0), (1988, .aload_n 0, 1989, 0, 0, 0), (1989, .iload_n 3, 1990, 0, 0, 0), (1990, .iconst 3, 1991, 0, 0, 0), (1991, .iadd, 1992, 0, 0, 0), (1992, .iaload, 1993, 0, 0, 0), (1993, .invokevirtual 196, 1996, 178, 4, 1239), (1996, .aload_n 2, 1997, 0, 0, 0), (1997, .aload_n 0, 1998, 0, 0, 0), (1998, .iload_n 3, 1999, 0, 0, 0), (1999, .iconst 1, 2000, 0, 0, 0), (2000, .iadd, 2001, 0, 0, 0), (2001, .iaload, 2002, 0, 0, 0), (2002, .aload_n 0, 2003, 0, 0, 0), (2003, .iload_n 3, 2004, 0, 0, 0), (2004, .iconst 2, 2005, 0, 0, 0), (2005, .iadd, 2006, 0, 0, 0), (2006, .iaload, 2007, 0, 0, 0), (2007, .aload_n 0, 2008, 0, 0, 0), (2008, .iload_n 3, 2009, 0, 0, 0), (2009, .iconst 3, 2010, 0, 0, 0), (2010, .iadd, 2011, 0, 0, 0), (2011, .iaload, 2012, 0, 0, 0), (2012, .invokevirtual 200, 2015, 297, 4, 1844), (2015, .if_icmp .eq 141, 2018, 2156, 0, 0), (2018, .iconst 0, 2019, 0, 0, 0), (2019, .ireturn, 2020, 0, 0, 0), (2020, .aload_n 1, 2021, 0, 0, 0), (2021, .invokevirtual 201, 2024, 179, 1, 1245), (2024, .aload_n 2, 2025, 0, 0, 0), (2025, .invokevirtual 204, 2028, 300, 1, 1882), (2028, .lcmp, 2029, 0, 0, 0), (2029, .ifCond .eq 127, 2032, 2156, 0, 0), (2032, .iconst 0, 2033, 0, 0, 0), (2033, .ireturn, 2034, 0, 0, 0), (2034, .aload_n 1, 2035, 0, 0, 0), (2035, .aload_n 0, 2036, 0, 0, 0), (2036, .iload_n 3, 2037, 0, 0, 0), (2037, .iconst 1, 2038, 0, 0, 0), (2038, .iadd, 2039, 0, 0, 0), (2039, .iaload, 2040, 0, 0, 0), (2040, .invokevirtual 205, 2043, 180, 2, 1250), (2043, .aload_n 2, 2044, 0, 0, 0), (2044, .aload_n 0, 2045, 0, 0, 0), (2045, .iload_n 3, 2046, 0, 0, 0), (2046, .iconst 1, 2047, 0, 0, 0), (2047, .iadd, 2048, 0, 0, 0), (2048, .iaload, 2049, 0, 0, 0), (2049, .invokevirtual 208, 2052, 307, 2, 1918), (2052, .if_icmp .eq 104, 2055, 2156, 0, 0), (2055, .iconst 0, 2056, 0, 0, 0), (2056, .ireturn, 2057, 0, 0, 0), (2057, .aload_n 1, 2058, 0, 0, 0), (2058, .aload_n 0, 2059, 0, 0, 0), (2059, .iload_n 3, 2060, 0, 0, 0), (2060, .iconst 1, 2061, 0, 0, 0), (2061, .iadd, 2062, 0, 0, 0), (2062, .iaload, 2063, 0, 0, 0), (2063, .aload_n 0, 2064, 0, 0, 0), (2064, .iload_n 3, 2065, 0, 0, 0), (2065, .iconst 2, 2066, 0, 0, 0), (2066, .iadd, 2067, 0, 0, 0), (2067, .iaload, 2068, 0, 0, 0), (2068, .aload_n 0, 2069, 0, 0, 0), (2069, .iload_n 3, 2070, 0, 0, 0), (2070, .iconst 3, 2071, 0, 0, 0), (2071, .iadd, 2072, 0, 0, 0), (2072, .iaload, 2073, 0, 0, 0), (2073, .invokevirtual 209, 2076, 181, 4, 1255), (2076, .aload_n 2, 2077, 0, 0, 0), (2077, .aload_n 0, 2078, 0, 0, 0), (2078, .iload_n 3, 2079, 0, 0, 0), (2079, .iconst 1, 2080, 0, 0, 0), (2080, .iadd, 2081, 0, 0, 0), (2081, .iaload, 2082, 0, 0, 0), (2082, .aload_n 0, 2083, 0, 0, 0), (2083, .iload_n 3, 2084, 0, 0, 0), (2084, .iconst 2, 2085, 0, 0, 0), (2085, .iadd, 2086, 0, 0, 0), (2086, .iaload, 2087, 0, 0, 0), (2087, .aload_n 0, 2088, 0, 0, 0), (2088, .iload_n 3, 2089, 0, 0, 0), (2089, .iconst 3, 2090, 0, 0, 0), (2090, .iadd, 2091, 0, 0, 0), (2091, .iaload, 2092, 0, 0, 0), (2092, .invokevirtual 212, 2095, 308, 4, 1922), (2095, .if_icmp .eq 61, 2098, 2156, 0, 0)]
noncomputable def cd_L_law_15 : List pm_I := [(2098, .iconst 0, 2099, 0, 0, 0), (2099, .ireturn, 2100, 0, 0, 0), (2100, .aload_n 1, 2101, 0, 0, 0), (2101, .aload_n 0, 2102, 0, 0, 0), (2102, .iload_n 3, 2103, 0, 0, 0), (2103, .iconst 1, 2104, 0, 0, 0), (2104, .iadd, 2105, 0, 0, 0), (2105, .iaload, 2106, 0, 0, 0), (2106, .aload_n 0, 2107, 0, 0, 0), (2107, .iload_n 3, 2108, 0, 0, 0), (2108, .iconst 2, 2109, 0, 0, 0), (2109, .iadd, 2110, 0, 0, 0), (2110, .iaload, 2111, 0, 0, 0), (2111, .invokevirtual 213, 2114, 182, 3, 1259), (2114, .aload_n 2, 2115, 0, 0, 0), (2115, .aload_n 0, 2116, 0, 0, 0), (2116, .iload_n 3, 2117, 0, 0, 0), (2117, .iconst 1, 2118, 0, 0, 0), (2118, .iadd, 2119, 0, 0, 0), (2119, .iaload, 2120, 0, 0, 0), (2120, .aload_n 0, 2121, 0, 0, 0), (2121, .iload_n 3, 2122, 0, 0, 0), (2122, .iconst 2, 2123, 0, 0, 0), (2123, .iadd, 2124, 0, 0, 0), (2124, .iaload, 2125, 0, 0, 0), (2125, .invokevirtual 216, 2128, 284, 3, 1810), (2128, .if_icmp .eq 28, 2131, 2156, 0, 0), (2131, .iconst 0, 2132, 0, 0, 0), (2132, .ireturn, 2133, 0, 0, 0), (2133, .aload_n 1, 2134, 0, 0, 0), (2134, .aload_n 0, 2135, 0, 0, 0), (2135, .iload_n 3, 2136, 0, 0, 0), (2136, .iconst 1, 2137, 0, 0, 0), (2137, .iadd, 2138, 0, 0, 0), (2138, .iaload, 2139, 0, 0, 0), (2139, .invokevirtual 217, 2142, 183, 2, 1267), (2142, .aload_n 2, 2143, 0, 0, 0), (2143, .aload_n 0, 2144, 0, 0, 0), (2144, .iload_n 3, 2145, 0, 0, 0), (2145, .iconst 1, 2146, 0, 0, 0), (2146, .iadd, 2147, 0, 0, 0), (2147, .iaload, 2148, 0, 0, 0), (2148, .invokevirtual 220, 2151, 317, 2, 1950), (2151, .if_icmp .eq 5, 2154, 2156, 0, 0), (2154, .iconst 0, 2155, 0, 0, 0), (2155, .ireturn, 2156, 0, 0, 0), (2156, .iinc 3 6, 2159, 0, 0, 0), (2159, .goto (-2141), 2162, 18, 0, 0), (2162, .iconst 1, 2163, 0, 0, 0), (2163, .ireturn, 2164, 0, 0, 0)]
noncomputable def cd_L_law : List pm_I := cd_L_law_0 ++ (cd_L_law_1 ++ (cd_L_law_2 ++ (cd_L_law_3 ++ (cd_L_law_4 ++ (cd_L_law_5 ++ (cd_L_law_6 ++ (cd_L_law_7 ++ (cd_L_law_8 ++ (cd_L_law_9 ++ (cd_L_law_10 ++ (cd_L_law_11 ++ (cd_L_law_12 ++ (cd_L_law_13 ++ (cd_L_law_14 ++ (cd_L_law_15)))))))))))))))
noncomputable abbrev md_L_law : pm_M := (x, code, maxLocals, ret, true, [], cd_L_law)
set_option maxRecDepth 100000 in
noncomputable def pt_M : List pm_M := [md_Cu_init, md_Cu_through, md_Cu_differ, md_Cu_mend, md_Cu_fit, md_Cu_setPoint, md_Cu_agreement, md_Cu_isMended, md_Cu_coefficient, md_Cu_mendedValue, md_Le_init, md_Le_canHold, md_Le_tune, md_Le_listMoves, md_Le_listMovesAt, md_Le_measure, md_Le_measured, md_Le_packed, md_Le_spread, md_Le_lengthOf, md_Nu_below, md_Nu_levelOf, md_Nu_product, md_Nu_sharedOut, md_Nu_lifted, md_Nu_toppedBy, md_Nu_square, md_Nu_rootOf, md_Nu_inverted, md_Nu_hasHalf, md_Nu_halved, md_Nu_halvedIn, md_Nu_traceOf, md_Nu_raisedTo, md_Nu_primesIn, md_Nu_powerWithout, md_Nu_orderOf, md_Nu_fullCount, md_Nu_leastFull, md_Nu_isFull, md_Nu_logarithm, md_Nu_restOf, md_Nu_joined, md_Pa_init, md_Pa_push, md_Pa_newest, md_Pa_last, md_Pa_pop, md_Pl_init, md_Pl_tune, md_Pl_worthOfBit, md_Pl_joinEffects, md_Pl_effectOf, md_Pl_ruleOf, md_Pl_boardWorth, md_Pl_areSets, md_Pl_mayBe, md_Pl_greatestOf, md_Pl_find, md_Pl_findAt, md_Po_init, md_Po_degreeOf, md_Po_valueAt, md_Po_clear, md_Po_copy, md_Po_areAlike, md_Po_makeMonic, md_Po_divide, md_Po_meet, md_Po_meetHalves, md_Po_metCoefficient, md_Po_findRoots, md_Po_raiseImage, md_Po_sumTraces, md_Po_splitParts, md_Po_readResults, md_Po_insertResult, md_Po_rootAt, md_Ps_init, md_Ps_becomeBoard, md_Ps_become, md_Ps_hasPlace, md_Ps_hasCell, md_Ps_bitOf, md_Ps_bitsOf, md_Ps_showsHeads, md_Ps_headsShown, md_Ps_headsOfRow, md_Ps_rowsWithHeads, md_Ps_columnsWithHeads, md_Ps_rulesKey, md_Ps_hasEntry, md_Ps_entryAt, md_Ps_setEntry, md_Ps_clearGrid, md_Ru_init, md_Ru_tune, md_Ru_weigh, md_Ru_leastUnmet, md_Ru_allows, md_Ru_areNear, md_Ru_worthOf, md_Ru_setsOf, md_Sp_init, md_Sp_leastPolynomial, md_Sp_clear, md_Sp_add, md_Sp_tagOf, md_St_init, md_St_reduceGrid, md_St_reduceBesideUnit, md_St_load, md_St_reduce, md_St_firstWith, md_St_swap, md_St_lead, md_St_clearOthers, md_St_cellAt, md_St_hasLead, md_St_besideLead, md_Ta_init, md_Ta_hasRoom, md_Ta_append, md_Ta_read, md_Ta_readHeads, md_Ta_blame, md_Ta_skipBlanks, md_Ta_isBetween, md_Ta_readNumber, md_Ta_readKind, md_Ta_readWord, md_Ta_isWord, md_T_init, md_T_feed, md_T_end, md_T_tell, md_T_turn, md_T_play, md_T_played, md_T_answer, md_T_put, md_T_reckon, md_T_reckoned, md_T_undo, md_T_keep, md_T_back, md_T_hasShelf, md_T_grid, md_T_enter, md_T_multiply, md_T_sharedOut, md_T_invert, md_T_entry, md_T_determinant, md_T_shape, md_T_solution, md_T_roots, md_T_common, md_T_mended, md_T_mendedAt, md_T_agrees, md_T_place, md_T_at, md_T_full, md_T_times, md_T_inverse, md_T_root, md_T_power, md_T_order, md_T_level, md_T_least, md_T_trace, md_T_half, md_T_solve, md_T_log, md_T_boards, md_T_game, md_T_worth, md_T_cell, md_T_total, md_T_moves, md_T_move, md_T_sets, md_T_count, md_M_init, md_M_isIn, md_M_has, md_M_isLess, md_M_byTwo, md_M_topOf, md_M_twoByTwo, md_M_laysTwos, md_M_product, md_M_square, md_M_powerOf, md_M_levelOf, md_M_allBut, md_M_inverseOf, md_M_rootOf, md_M_times, md_M_inverse, md_M_root, md_M_power, md_M_madeOf, md_M_order, md_M_degreeOf_JI, md_M_level, md_M_least, md_M_trace, md_M_highest, md_M_laysHalves, md_M_halfOf, md_M_half, md_M_solve, md_M_laysBy, md_M_by, md_M_log, md_M_placeOf, md_M_place_IJ, md_M_polynomialAt, md_M_throughAt, md_M_at, md_M_isRoot, md_M_roots, md_M_degreeOf_AJI, md_M_leaves, md_M_laysCommon, md_M_common, md_M_bySet, md_M_agreesBy, md_M_findsMended, md_M_addsBase, md_M_laysMended, md_M_mended, md_M_mendedAt, md_M_agrees, md_M_primesOf, md_M_isFull, md_M_full, md_M_entryOf, md_M_cellAt, md_M_laysForm, md_M_swaps, md_M_divides, md_M_adds, md_M_clears, md_M_laysStepForm, md_M_isEntry, md_M_entry, md_M_determinant, md_M_isSolved, md_M_shape, md_M_solution, md_M_keepsAct, md_M_undo, md_M_isShelf, md_M_size, md_M_heads, md_M_keep, md_M_back, md_M_put, md_M_reckoned, md_M_reckon, md_M_grid, md_M_enter, md_M_keptEntry, md_M_multiply, md_M_invert, md_M_feed, md_M_end, md_M_byteAt, md_M_next, md_M_fails, md_M_readsNumber, md_M_takesWord, md_M_kindHere, md_M_readsSide, md_M_readsText, md_M_tell, md_M_manyOf, md_M_greatestOf, md_M_isNear, md_M_isRow, md_M_maySet, md_M_sets, md_M_sumOf, md_M_leastNot, md_M_laysWorth, md_M_laysWorths, md_M_worth, md_M_place_III, md_M_isCell, md_M_worthOf, md_M_cellsOf, md_M_sumExcluded, md_M_laysExcluded, md_M_excludedOf, md_M_cell, md_M_laysCells, md_M_worthOfAll, md_M_total, md_M_turn, md_M_isMove, md_M_play, md_M_findsOf, md_M_finds, md_M_answer, md_M_moves, md_M_move, md_M_close, md_M_laysMoves, md_M_laysGame, md_M_game, md_M_spread, md_M_boards, md_M_sidesWithHeads, md_M_keptSet, md_M_count, md_JI_bitCount, md_JL_bitCount, md_JS_length, md_JS_charAt, md_JS_coder, md_JS_isLatin1, md_JS_checkIndex, md_JA_charAt, md_JP_checkIndex, md_L_law]
end
section
/-! A PURE MACHINE: states are (pc, locals, stack, heap), the heap a list of cells whose references are places in it (from 1000000 on: given things).
pm_W is the least relation closed under the rules pm_R. -/
abbrev pm_H : Type := List va_E
abbrev pm_L : Type := List (Nat × Value)
abbrev pm_P : Type := Nat → pm_L → List Value → pm_H → Prop
abbrev pm_C : Type := Nat → List Value → pm_H → Option Value → pm_H → Prop
abbrev pm_K : Type := Nat × (Nat → Int32)
def pm_at : List pm_I → Nat → Option (Instr × Nat × Nat × Nat)
  | [], _ => none
  | (k, i, nx, a, b, _) :: r, pc => bif Nat.beq k pc then some (i, nx, a, b) else pm_at r pc
def pm_cd (md : pm_M) : List pm_I := md.2.2.2.2.2.2
def pm_al (md : pm_M) : Bool := md.2.2.2.2.1
def pm_ret (md : pm_M) : Option FieldType := md.2.2.2.1
def pm_kind (md : pm_M) : Nat := md.2.2.2.2.2.1.headD 0
noncomputable def pm_mal (k : Nat) : Bool := match pt_M[k]? with
  | some md => pm_al md
  | none => false
/-- how many fields and elements -/
def pm_sz : va_E → Nat
  | .inl x => x.2.1
  | .inr x => x.2.length
def pm_sl : pm_H → Nat
  | [] => 0
  | c :: r => pm_sz c + pm_sl r
def pm_cst : Instr → Option Value
  | .iconst n => some (.int (Int32.ofInt n))
  | .bipush n => some (.int (Int8.ofInt n).toInt32)
  | .sipush n => some (.int (Int16.ofInt n).toInt32)
  | .lconst n => some (.long (Int64.ofNat (n : Nat)))
  | _ => none
def pm_isl : Instr → Bool
  | .ldc _ => true
  | .ldc_w _ => true
  | .ldc2_w _ => true
  | _ => false
def pm_ld : Instr → Value → Option Nat
  | .iload k, .int _ => some k
  | .iload_n k, .int _ => some (k : Nat)
  | .lload k, .long _ => some k
  | .lload_n k, .long _ => some (k : Nat)
  | .aload k, .ref _ => some k
  | .aload_n k, .ref _ => some (k : Nat)
  | _, _ => none
def pm_st : Instr → Value → Option Nat
  | .istore k, .int _ => some k
  | .istore_n k, .int _ => some (k : Nat)
  | .lstore k, .long _ => some k
  | .lstore_n k, .long _ => some (k : Nat)
  | .astore k, .ref _ => some k
  | .astore_n k, .ref _ => some (k : Nat)
  | _, _ => none
def pm_flt (p : Nat × Value → Bool) : pm_L → (pm_L → Option pm_L) → Option pm_L
  | [], c => c []
  | q :: r, c => bif p q then pm_flt p r (fun t => c (q :: t)) else pm_flt p r c
def pm_k1 (k : Nat) (q : Nat × Value) : Bool := !(Nat.beq q.1 k) && !(Nat.beq (q.1 + 1) k && Nat.beq q.2.category 2)
def pm_k2 (k : Nat) (q : Nat × Value) : Bool := !(Nat.beq q.1 k) && (!(Nat.beq q.1 (k + 1)) && !(Nat.beq (q.1 + 1) k && Nat.beq q.2.category 2))
def pm_sto (k : Nat) (v : Value) (l : pm_L) : Option pm_L := match v with
  | .long x => pm_flt (pm_k2 k) l (fun t => some ((k, .long x) :: t))
  | .int x => pm_flt (pm_k1 k) l (fun t => some ((k, .int x) :: t))
  | .ref x => pm_flt (pm_k1 k) l (fun t => some ((k, .ref x) :: t))
  | _ => none
def pm_pck (l : pm_L) : List Nat → (pm_L → Option pm_L) → Option pm_L
  | [], c => c []
  | k :: ks, c => match l[k]? with
    | some q => pm_pck l ks (fun t => c (q :: t))
    | none => none
def pm_bop : Instr → Value → Value → Option Value
  | .iadd, .int y, .int x => some (.int (x + y))
  | .isub, .int y, .int x => some (.int (x - y))
  | .imul, .int y, .int x => some (.int (x * y))
  | .iand, .int y, .int x => some (.int (x &&& y))
  | .ior, .int y, .int x => some (.int (x ||| y))
  | .ixor, .int y, .int x => some (.int (x ^^^ y))
  | .ishl, .int y, .int x => some (.int (x <<< (y &&& 31)))
  | .ishr, .int y, .int x => some (.int (x >>> (y &&& 31)))
  | .iushr, .int y, .int x => some (.int (x.toUInt32 >>> (y.toUInt32 &&& Int32.toUInt32 31)).toInt32)
  | .ladd, .long y, .long x => some (.long (x + y))
  | .lsub, .long y, .long x => some (.long (x - y))
  | .lmul, .long y, .long x => some (.long (x * y))
  | .land, .long y, .long x => some (.long (x &&& y))
  | .lor, .long y, .long x => some (.long (x ||| y))
  | .lxor, .long y, .long x => some (.long (x ^^^ y))
  | .lshl, .int y, .long x => some (.long (x <<< (y.toInt64 &&& 63)))
  | .lshr, .int y, .long x => some (.long (x >>> (y.toInt64 &&& 63)))
  | .lushr, .int y, .long x => some (.long (x.toUInt64 >>> (y.toInt64.toUInt64 &&& Int64.toUInt64 63)).toInt64)
  | .lcmp, .long y, .long x => some (.int (lg_cmp x y))
  | _, _, _ => none
def pm_dop : Instr → Value → Value → Option (Value × Prop)
  | .idiv, .int y, .int x => some (.int (x / y), ¬ y = 0)
  | .irem, .int y, .int x => some (.int (x - x / y * y), ¬ y = 0)
  | .ldiv, .long y, .long x => some (.long (x / y), ¬ y = 0)
  | .lrem, .long y, .long x => some (.long (x - x / y * y), ¬ y = 0)
  | _, _, _ => none
def pm_uop : Instr → Value → Option Value
  | .ineg, .int x => some (.int (-x))
  | .lneg, .long x => some (.long (-x))
  | .i2l, .int x => some (.long x.toInt64)
  | .l2i, .long x => some (.int x.toInt32)
  | .i2b, .int x => some (.int x.toInt8.toInt32)
  | .i2c, .int x => some (.int (x.toUInt32 % 65536).toInt32)
  | _, _ => none
def pm_sop : Instr → List Value → Option (List Value)
  | .dup, a :: r => bif Nat.beq a.category 1 then some (a :: a :: r) else none
  | .pop, a :: r => bif Nat.beq a.category 1 then some r else none
  | .dup2, a :: r => bif Nat.beq a.category 2 then some (a :: a :: r) else match r with
    | b :: t => bif Nat.beq a.category 1 && Nat.beq b.category 1 then some (a :: b :: a :: b :: t) else none
    | [] => none
  | _, _ => none
def pm_cnd : Jvm.ClassFile.Cond → Int32 → Int32 → Prop
  | .eq, x, y => x = y
  | .ne, x, y => ¬ x = y
  | .lt, x, y => x < y
  | .ge, x, y => y ≤ x
  | .gt, x, y => y < x
  | .le, x, y => x ≤ y
def pm_spl : Nat → List Value → List Value → Option (List Value × List Value)
  | 0, st, acc => some (acc, st)
  | _ + 1, [], _ => none
  | n + 1, v :: st, acc => pm_spl n st (v :: acc)
def pm_cat : List Value → Nat
  | [] => 0
  | v :: r => v.category + pm_cat r
def pm_pu (r : Option Value) (st : List Value) : List Value := match r with
  | some v => v :: st
  | none => st
def pm_inv : Instr → Option Nat
  | .invokestatic k => some k
  | .invokevirtual k => some k
  | .invokespecial k => some k
  | _ => none
/-- what a field of that type takes -/
def pm_fit (t : FieldType) (v : Value) : Prop := narrow t v = v ∧ fits t v = true
/-- the given arrays: the script, two tables of Numbers, the bytes of five words -/
def pm_low : List Int64 := [6148914691236517205, 3689348814741910323, 1085102592571150095, 71777214294589695, 281470681808895, 4294967295]
def pm_prm : List Int64 := [3, 5, 17, 257, 65537, 641, 6700417]
def pm_wds : List (List Int32) := [[117, 112], [101, 120, 97, 99, 116], [114, 117, 108, 101, 114], [110, 101, 97, 114], [104, 101, 97, 100, 115]]
def pm_kt (kp : pm_K) : List (Nat × Nat × vp_A) := [(1000000, 0, (kp.1, .inl kp.2)), (1000001, 1, (6, .inr (.inl (fun i => pm_low.getD i 0)))), (1000002, 1, (7, .inr (.inl (fun i => pm_prm.getD i 0)))),
  (1000030, 2, (2, .inl (fun i => (pm_wds.getD 0 []).getD i 0))), (1000031, 2, (5, .inl (fun i => (pm_wds.getD 1 []).getD i 0))), (1000032, 2, (5, .inl (fun i => (pm_wds.getD 2 []).getD i 0))), (1000033, 2, (4, .inl (fun i => (pm_wds.getD 3 []).getD i 0))), (1000034, 2, (5, .inl (fun i => (pm_wds.getD 4 []).getD i 0)))]
def pm_lk : List (Nat × Nat × vp_A) → Nat → Option (Nat × vp_A)
  | [], _ => none
  | q :: r, o => bif Nat.beq q.1 o then some q.2 else pm_lk r o
def pm_kar (kp : pm_K) (o : Nat) : Option (Nat × vp_A) := pm_lk (pm_kt kp) o
def pm_gst : Nat → Option Value
  | 0 => some (.ref 1000001)
  | 1 => some (.ref 1000002)
  | 2 => some (.int 1)
  | 3 => some (.retAddr 0)
  | _ => none
def pm_kfl (o k : Nat) : Option Value :=
  bif Nat.ble 1000010 o && Nat.ble o 1000014 then match k with
    | 0 => some (.ref (o + 20))
    | 1 => some (.int 0)
    | _ => none
  else none
def pm_zer (t : Nat) : (Nat → Int32) ⊕ (Nat → Int64) ⊕ (Nat → UInt32) ⊕ (Nat → UInt64) ⊕ (Nat → Option Nat) := match t with
  | 1 => .inr (.inl fun _ => 0)
  | _ => .inl fun _ => 0
def pm_new (ci : Nat) : Option (List Value) := match ci with
  | 0 => some [.null, .null, .null, .null, .int 0, .int 0]
  | 1 => some [.null, .null, .null, .int 0, .int 0, .int 0, .int 0, .int 0, .int 0, .int 0]
  | 2 => some [.null, .int 0, .int 0]
  | 3 => some [.null, .null, .null, .int 0, .int 0, .int 0, .int 0]
  | 4 => some [.null, .null, .null, .null, .null, .null, .null, .null, .null, .null, .null, .null, .int 0, .int 0, .int 0]
  | 5 => some [.int 0, .int 0, .int 0, .int 0, .int 0, .int 0, .long 0, .null, .int 0, .int 0, .null, .int 0]
  | 6 => some [.null, .null, .null, .null, .int 0, .int 0]
  | 7 => some [.null, .null]
  | 8 => some [.null, .null, .int 0, .long 0]
  | 9 => some [.null, .null, .int 0, .int 0, .int 0]
  | 10 => some [.null, .null, .null, .null, .null, .null, .null, .null, .null, .null]
  | 11 => some [.null, .null, .int 0, .null, .null, .null, .null, .null, .null, .null, .null, .null, .null, .int 0, .int 0, .null, .null, .int 0, .int 0, .null, .null, .int 0, .long 0, .null, .int 0, .int 0, .int 0, .int 0, .null, .null, .null, .long 0, .null, .null, .null, .null, .int 0, .int 0, .int 0, .int 0, .null, .null, .null, .null]
  | _ => none
def pm_tyk (ci : Nat) : Nat → FieldType := match ci with
  | 0 => pt_t0
  | 1 => pt_t1
  | 2 => pt_t2
  | 3 => pt_t3
  | 4 => pt_t4
  | 5 => pt_t5
  | 6 => pt_t6
  | 7 => pt_t7
  | 8 => pt_t8
  | 9 => pt_t9
  | 10 => pt_t10
  | _ => pt_t11
/-- a field's type, and whether it is final -/
def pm_fty (ci k : Nat) : Option (FieldType × Bool) := match pt_cl[ci]? with
  | some q => bif Nat.ble (k + 1) q.2.2 then some (pm_tyk ci k, (q.2.1 k).2.2.2) else none
  | none => none
def pm_setc : List Value → Nat → Value → (List Value → Option (List Value)) → Option (List Value)
  | [], _, _, _ => none
  | _ :: r, 0, v, c => c (v :: r)
  | q :: r, k + 1, v, c => pm_setc r k v (fun t => c (q :: t))
def pm_set (fs : List Value) (k : Nat) (v : Value) : Option (List Value) := pm_setc fs k v some
/-- a constructor of that class -/
def pm_own (md : pm_M) (ci : Nat) : Prop := md.1.name = "<init>" ∧ (pt_cl[ci]?).map (fun q => q.1) = some md.1.cls
def pm_knd (k n : Nat) : Prop := (pt_M[k]?).map pm_kind = some n
/-- the class of a method, by its place -/
noncomputable def pm_mci (k : Nat) : Option Nat := match pt_M[k]? with
  | some md => pt_cl.findIdx? (fun q => q.1 == md.1.cls)
  | none => none
noncomputable def pm_mst (k : Nat) : Bool := match pt_M[k]? with
  | some md => md.1.cls == "java/lang/String"
  | none => false

def pr_cst (kp : pm_K) (md : pm_M) (C : pm_C) (hb sb : Nat) (Q : Option Value → pm_H → Prop) (P : pm_P) : Prop := ∀ (pc nx a b : Nat) (lv : pm_L) (st : List Value) (h : pm_H) (i : Instr) (v : Value), pm_at (pm_cd md) pc = some (i, nx, a, b) → pm_cst i = some v → P nx lv (v :: st) h → P pc lv st h
def pr_ldc (kp : pm_K) (md : pm_M) (C : pm_C) (hb sb : Nat) (Q : Option Value → pm_H → Prop) (P : pm_P) : Prop := ∀ (pc nx a b : Nat) (lv : pm_L) (st : List Value) (h : pm_H) (i : Instr) (v : Value), pm_at (pm_cd md) pc = some (i, nx, a, b) → pm_isl i = true → pt_ldc[a]? = some v → P nx lv (v :: st) h → P pc lv st h
def pr_ld (kp : pm_K) (md : pm_M) (C : pm_C) (hb sb : Nat) (Q : Option Value → pm_H → Prop) (P : pm_P) : Prop := ∀ (pc nx a b : Nat) (lv : pm_L) (st : List Value) (h : pm_H) (i : Instr) (v : Value) (k : Nat) (j : Nat), pm_at (pm_cd md) pc = some (i, nx, a, b) → pm_ld i v = some k → lv[j]? = some (k, v) → P nx lv (v :: st) h → P pc lv st h
def pr_sto (kp : pm_K) (md : pm_M) (C : pm_C) (hb sb : Nat) (Q : Option Value → pm_H → Prop) (P : pm_P) : Prop := ∀ (pc nx a b : Nat) (lv : pm_L) (st : List Value) (h : pm_H) (i : Instr) (v : Value) (k : Nat) (lv1 : pm_L), pm_at (pm_cd md) pc = some (i, nx, a, b) → pm_st i v = some k → pm_sto k v lv = some lv1 → P nx lv1 st h → P pc lv (v :: st) h
def pr_bop (kp : pm_K) (md : pm_M) (C : pm_C) (hb sb : Nat) (Q : Option Value → pm_H → Prop) (P : pm_P) : Prop := ∀ (pc nx a b : Nat) (lv : pm_L) (st : List Value) (h : pm_H) (i : Instr) (v x y : Value), pm_at (pm_cd md) pc = some (i, nx, a, b) → pm_bop i y x = some v → P nx lv (v :: st) h → P pc lv (y :: x :: st) h
def pr_dop (kp : pm_K) (md : pm_M) (C : pm_C) (hb sb : Nat) (Q : Option Value → pm_H → Prop) (P : pm_P) : Prop := ∀ (pc nx a b : Nat) (lv : pm_L) (st : List Value) (h : pm_H) (i : Instr) (v x y : Value) (c : Prop), pm_at (pm_cd md) pc = some (i, nx, a, b) → pm_dop i y x = some (v, c) → c → P nx lv (v :: st) h → P pc lv (y :: x :: st) h
def pr_uop (kp : pm_K) (md : pm_M) (C : pm_C) (hb sb : Nat) (Q : Option Value → pm_H → Prop) (P : pm_P) : Prop := ∀ (pc nx a b : Nat) (lv : pm_L) (st : List Value) (h : pm_H) (i : Instr) (v x : Value), pm_at (pm_cd md) pc = some (i, nx, a, b) → pm_uop i x = some v → P nx lv (v :: st) h → P pc lv (x :: st) h
def pr_sop (kp : pm_K) (md : pm_M) (C : pm_C) (hb sb : Nat) (Q : Option Value → pm_H → Prop) (P : pm_P) : Prop := ∀ (pc nx a b : Nat) (lv : pm_L) (st : List Value) (h : pm_H) (i : Instr) (st1 : List Value), pm_at (pm_cd md) pc = some (i, nx, a, b) → pm_sop i st = some st1 → P nx lv st1 h → P pc lv st h
def pr_inc (kp : pm_K) (md : pm_M) (C : pm_C) (hb sb : Nat) (Q : Option Value → pm_H → Prop) (P : pm_P) : Prop := ∀ (pc nx a b : Nat) (lv : pm_L) (st : List Value) (h : pm_H) (k : Nat) (n : Int) (x : Int32) (lv1 : pm_L) (j : Nat), pm_at (pm_cd md) pc = some (.iinc k n, nx, a, b) → lv[j]? = some (k, .int x) → pm_sto k (.int (x + Int32.ofInt n)) lv = some lv1 → P nx lv1 st h → P pc lv st h
def pr_goto (kp : pm_K) (md : pm_M) (C : pm_C) (hb sb : Nat) (Q : Option Value → pm_H → Prop) (P : pm_P) : Prop := ∀ (pc nx a b : Nat) (lv : pm_L) (st : List Value) (h : pm_H) (n : Int), pm_at (pm_cd md) pc = some (.goto n, nx, a, b) → P a lv st h → P pc lv st h
def pr_ifc (kp : pm_K) (md : pm_M) (C : pm_C) (hb sb : Nat) (Q : Option Value → pm_H → Prop) (P : pm_P) : Prop := ∀ (pc nx a b : Nat) (lv : pm_L) (st : List Value) (h : pm_H) (c : Jvm.ClassFile.Cond) (n : Int) (x : Int32), pm_at (pm_cd md) pc = some (.ifCond c n, nx, a, b) → (pm_cnd c x 0 → P a lv st h) → (¬ pm_cnd c x 0 → P nx lv st h) → P pc lv (.int x :: st) h
def pr_icm (kp : pm_K) (md : pm_M) (C : pm_C) (hb sb : Nat) (Q : Option Value → pm_H → Prop) (P : pm_P) : Prop := ∀ (pc nx a b : Nat) (lv : pm_L) (st : List Value) (h : pm_H) (c : Jvm.ClassFile.Cond) (n : Int) (x y : Int32), pm_at (pm_cd md) pc = some (.if_icmp c n, nx, a, b) → (pm_cnd c x y → P a lv st h) → (¬ pm_cnd c x y → P nx lv st h) → P pc lv (.int y :: .int x :: st) h
def pr_tso (kp : pm_K) (md : pm_M) (C : pm_C) (hb sb : Nat) (Q : Option Value → pm_H → Prop) (P : pm_P) : Prop := ∀ (pc nx a b : Nat) (lv : pm_L) (st : List Value) (h : pm_H) (d lo hi : Int) (os : Array Int) (x : Int32) (t : Nat), pm_at (pm_cd md) pc = some (.tableswitch d lo hi os, nx, a, b) → (x.toInt < lo ∨ hi < x.toInt) → (pc : Int) + d = (t : Int) → P t lv st h → P pc lv (.int x :: st) h
def pr_tsi (kp : pm_K) (md : pm_M) (C : pm_C) (hb sb : Nat) (Q : Option Value → pm_H → Prop) (P : pm_P) : Prop := ∀ (pc nx a b : Nat) (lv : pm_L) (st : List Value) (h : pm_H) (d lo hi off : Int) (os : Array Int) (x : Int32) (t : Nat), pm_at (pm_cd md) pc = some (.tableswitch d lo hi os, nx, a, b) → ¬ x.toInt < lo → ¬ hi < x.toInt → os[(x.toInt - lo).toNat]? = some off → (pc : Int) + off = (t : Int) → P t lv st h → P pc lv (.int x :: st) h
def pr_lsw (kp : pm_K) (md : pm_M) (C : pm_C) (hb sb : Nat) (Q : Option Value → pm_H → Prop) (P : pm_P) : Prop := ∀ (pc nx a b : Nat) (lv : pm_L) (st : List Value) (h : pm_H) (d : Int) (ps : Array (Int × Int)) (x : Int32) (t : Nat), pm_at (pm_cd md) pc = some (.lookupswitch d ps, nx, a, b) → (ps.toList.zip (ps.toList.drop 1)).all (fun (a, next) => a.1 < next.1) = true → (pc : Int) + Op.lookupswitch.offset ps.toList d x.toInt = (t : Int) → P t lv st h → P pc lv (.int x :: st) h
def pr_get (kp : pm_K) (md : pm_M) (C : pm_C) (hb sb : Nat) (Q : Option Value → pm_H → Prop) (P : pm_P) : Prop := ∀ (pc nx a b : Nat) (lv : pm_L) (st : List Value) (h : pm_H) (n o : Nat) (fs : List Value) (v : Value), pm_at (pm_cd md) pc = some (.getfield n, nx, a, b) → h[o]? = some (.inr (a, fs)) → fs[b]? = some v → P nx lv (v :: st) h → P pc lv (.ref o :: st) h
def pr_gek (kp : pm_K) (md : pm_M) (C : pm_C) (hb sb : Nat) (Q : Option Value → pm_H → Prop) (P : pm_P) : Prop := ∀ (pc nx a b : Nat) (lv : pm_L) (st : List Value) (h : pm_H) (n o : Nat) (v : Value), pm_at (pm_cd md) pc = some (.getfield n, nx, a, b) → a = 100 → pm_kfl o b = some v → P nx lv (v :: st) h → P pc lv (.ref o :: st) h
def pr_put (kp : pm_K) (md : pm_M) (C : pm_C) (hb sb : Nat) (Q : Option Value → pm_H → Prop) (P : pm_P) : Prop := ∀ (pc nx a b : Nat) (lv : pm_L) (st : List Value) (h : pm_H) (n o : Nat) (fs fs1 : List Value) (v : Value) (ty : FieldType), pm_at (pm_cd md) pc = some (.putfield n, nx, a, b) → h[o]? = some (.inr (a, fs)) → pm_fty a b = some (ty, false) → pm_fit ty v → pm_set fs b v = some fs1 → P nx lv st (h.set o (.inr (a, fs1))) → P pc lv (v :: .ref o :: st) h
def pr_puf (kp : pm_K) (md : pm_M) (C : pm_C) (hb sb : Nat) (Q : Option Value → pm_H → Prop) (P : pm_P) : Prop := ∀ (pc nx a b : Nat) (lv : pm_L) (st : List Value) (h : pm_H) (n o : Nat) (fs fs1 : List Value) (v : Value) (ty : FieldType), pm_at (pm_cd md) pc = some (.putfield n, nx, a, b) → h[o]? = some (.inr (a, fs)) → pm_fty a b = some (ty, true) → pm_own md a → pm_fit ty v → pm_set fs b v = some fs1 → P nx lv st (h.set o (.inr (a, fs1))) → P pc lv (v :: .ref o :: st) h
def pr_ial (kp : pm_K) (md : pm_M) (C : pm_C) (hb sb : Nat) (Q : Option Value → pm_H → Prop) (P : pm_P) : Prop := ∀ (pc nx a b : Nat) (lv : pm_L) (st : List Value) (h : pm_H) (o n : Nat) (f : Nat → Int32) (j : Int32), pm_at (pm_cd md) pc = some (.iaload, nx, a, b) → h[o]? = some (.inl (0, (n, .inl f))) → vp_in j n → P nx lv (.int (f j.toNatClampNeg) :: st) h → P pc lv (.int j :: .ref o :: st) h
def pr_bal (kp : pm_K) (md : pm_M) (C : pm_C) (hb sb : Nat) (Q : Option Value → pm_H → Prop) (P : pm_P) : Prop := ∀ (pc nx a b : Nat) (lv : pm_L) (st : List Value) (h : pm_H) (o n : Nat) (f : Nat → Int32) (j : Int32), pm_at (pm_cd md) pc = some (.baload, nx, a, b) → h[o]? = some (.inl (2, (n, .inl f))) → vp_in j n → P nx lv (.int (f j.toNatClampNeg) :: st) h → P pc lv (.int j :: .ref o :: st) h
def pr_zal (kp : pm_K) (md : pm_M) (C : pm_C) (hb sb : Nat) (Q : Option Value → pm_H → Prop) (P : pm_P) : Prop := ∀ (pc nx a b : Nat) (lv : pm_L) (st : List Value) (h : pm_H) (o n : Nat) (f : Nat → Int32) (j : Int32), pm_at (pm_cd md) pc = some (.baload, nx, a, b) → h[o]? = some (.inl (3, (n, .inl f))) → vp_in j n → P nx lv (.int (f j.toNatClampNeg) :: st) h → P pc lv (.int j :: .ref o :: st) h
def pr_lal (kp : pm_K) (md : pm_M) (C : pm_C) (hb sb : Nat) (Q : Option Value → pm_H → Prop) (P : pm_P) : Prop := ∀ (pc nx a b : Nat) (lv : pm_L) (st : List Value) (h : pm_H) (o n : Nat) (f : Nat → Int64) (j : Int32), pm_at (pm_cd md) pc = some (.laload, nx, a, b) → h[o]? = some (.inl (1, (n, .inr (.inl f)))) → vp_in j n → P nx lv (.long (f j.toNatClampNeg) :: st) h → P pc lv (.int j :: .ref o :: st) h
def pr_aal (kp : pm_K) (md : pm_M) (C : pm_C) (hb sb : Nat) (Q : Option Value → pm_H → Prop) (P : pm_P) : Prop := ∀ (pc nx a b : Nat) (lv : pm_L) (st : List Value) (h : pm_H) (o n r : Nat) (f : Nat → Option Nat) (j : Int32) (t : Nat), pm_at (pm_cd md) pc = some (.aaload, nx, a, b) → h[o]? = some (.inl (t, (n, .inr (.inr (.inr (.inr f)))))) → (t = 4 ∨ t = 5) → vp_in j n → f j.toNatClampNeg = some r → P nx lv (.ref r :: st) h → P pc lv (.int j :: .ref o :: st) h
def pr_kil (kp : pm_K) (md : pm_M) (C : pm_C) (hb sb : Nat) (Q : Option Value → pm_H → Prop) (P : pm_P) : Prop := ∀ (pc nx a b : Nat) (lv : pm_L) (st : List Value) (h : pm_H) (o n : Nat) (f : Nat → Int32) (j : Int32), pm_at (pm_cd md) pc = some (.iaload, nx, a, b) → pm_kar kp o = some (0, (n, .inl f)) → vp_in j n → P nx lv (.int (f j.toNatClampNeg) :: st) h → P pc lv (.int j :: .ref o :: st) h
def pr_kbl (kp : pm_K) (md : pm_M) (C : pm_C) (hb sb : Nat) (Q : Option Value → pm_H → Prop) (P : pm_P) : Prop := ∀ (pc nx a b : Nat) (lv : pm_L) (st : List Value) (h : pm_H) (o n : Nat) (f : Nat → Int32) (j : Int32), pm_at (pm_cd md) pc = some (.baload, nx, a, b) → pm_kar kp o = some (2, (n, .inl f)) → vp_in j n → P nx lv (.int (f j.toNatClampNeg) :: st) h → P pc lv (.int j :: .ref o :: st) h
def pr_kll (kp : pm_K) (md : pm_M) (C : pm_C) (hb sb : Nat) (Q : Option Value → pm_H → Prop) (P : pm_P) : Prop := ∀ (pc nx a b : Nat) (lv : pm_L) (st : List Value) (h : pm_H) (o n : Nat) (f : Nat → Int64) (j : Int32), pm_at (pm_cd md) pc = some (.laload, nx, a, b) → pm_kar kp o = some (1, (n, .inr (.inl f))) → vp_in j n → P nx lv (.long (f j.toNatClampNeg) :: st) h → P pc lv (.int j :: .ref o :: st) h
def pr_kle (kp : pm_K) (md : pm_M) (C : pm_C) (hb sb : Nat) (Q : Option Value → pm_H → Prop) (P : pm_P) : Prop := ∀ (pc nx a b : Nat) (lv : pm_L) (st : List Value) (h : pm_H) (o n : Nat) (t : Nat) (x : (Nat → Int32) ⊕ (Nat → Int64) ⊕ (Nat → UInt32) ⊕ (Nat → UInt64) ⊕ (Nat → Option Nat)), pm_at (pm_cd md) pc = some (.arraylength, nx, a, b) → pm_kar kp o = some (t, (n, x)) → P nx lv (.int (Int32.ofNat n) :: st) h → P pc lv (.ref o :: st) h
def pr_ias (kp : pm_K) (md : pm_M) (C : pm_C) (hb sb : Nat) (Q : Option Value → pm_H → Prop) (P : pm_P) : Prop := ∀ (pc nx a b : Nat) (lv : pm_L) (st : List Value) (h : pm_H) (o n : Nat) (f : Nat → Int32) (j x : Int32), pm_at (pm_cd md) pc = some (.iastore, nx, a, b) → h[o]? = some (.inl (0, (n, .inl f))) → vp_in j n → P nx lv st (h.set o (.inl (0, (n, .inl (upd f j.toNatClampNeg x))))) → P pc lv (.int x :: .int j :: .ref o :: st) h
def pr_bas (kp : pm_K) (md : pm_M) (C : pm_C) (hb sb : Nat) (Q : Option Value → pm_H → Prop) (P : pm_P) : Prop := ∀ (pc nx a b : Nat) (lv : pm_L) (st : List Value) (h : pm_H) (o n : Nat) (f : Nat → Int32) (j x : Int32), pm_at (pm_cd md) pc = some (.bastore, nx, a, b) → h[o]? = some (.inl (2, (n, .inl f))) → vp_in j n → P nx lv st (h.set o (.inl (2, (n, .inl (upd f j.toNatClampNeg (vp_nar .byte x)))))) → P pc lv (.int x :: .int j :: .ref o :: st) h
def pr_zas (kp : pm_K) (md : pm_M) (C : pm_C) (hb sb : Nat) (Q : Option Value → pm_H → Prop) (P : pm_P) : Prop := ∀ (pc nx a b : Nat) (lv : pm_L) (st : List Value) (h : pm_H) (o n : Nat) (f : Nat → Int32) (j x : Int32), pm_at (pm_cd md) pc = some (.bastore, nx, a, b) → h[o]? = some (.inl (3, (n, .inl f))) → vp_in j n → P nx lv st (h.set o (.inl (3, (n, .inl (upd f j.toNatClampNeg (vp_nar .boolean x)))))) → P pc lv (.int x :: .int j :: .ref o :: st) h
def pr_las (kp : pm_K) (md : pm_M) (C : pm_C) (hb sb : Nat) (Q : Option Value → pm_H → Prop) (P : pm_P) : Prop := ∀ (pc nx a b : Nat) (lv : pm_L) (st : List Value) (h : pm_H) (o n : Nat) (f : Nat → Int64) (j : Int32) (x : Int64), pm_at (pm_cd md) pc = some (.lastore, nx, a, b) → h[o]? = some (.inl (1, (n, .inr (.inl f)))) → vp_in j n → P nx lv st (h.set o (.inl (1, (n, .inr (.inl (vp_updL f j.toNatClampNeg x)))))) → P pc lv (.long x :: .int j :: .ref o :: st) h
def pr_aas (kp : pm_K) (md : pm_M) (C : pm_C) (hb sb : Nat) (Q : Option Value → pm_H → Prop) (P : pm_P) : Prop := ∀ (pc nx a b : Nat) (lv : pm_L) (st : List Value) (h : pm_H) (o n r : Nat) (f : Nat → Option Nat) (j : Int32) (fs : List Value), pm_at (pm_cd md) pc = some (.aastore, nx, a, b) → h[o]? = some (.inl (4, (n, .inr (.inr (.inr (.inr f)))))) → vp_in j n → h[r]? = some (.inr (5, fs)) → P nx lv st (h.set o (.inl (4, (n, .inr (.inr (.inr (.inr (va_up f j.toNatClampNeg (some r))))))))) → P pc lv (.ref r :: .int j :: .ref o :: st) h
def pr_len (kp : pm_K) (md : pm_M) (C : pm_C) (hb sb : Nat) (Q : Option Value → pm_H → Prop) (P : pm_P) : Prop := ∀ (pc nx a b : Nat) (lv : pm_L) (st : List Value) (h : pm_H) (o n : Nat) (t : Nat) (x : (Nat → Int32) ⊕ (Nat → Int64) ⊕ (Nat → UInt32) ⊕ (Nat → UInt64) ⊕ (Nat → Option Nat)), pm_at (pm_cd md) pc = some (.arraylength, nx, a, b) → h[o]? = some (.inl (t, (n, x))) → t < 6 → P nx lv (.int (Int32.ofNat n) :: st) h → P pc lv (.ref o :: st) h
def pr_new (kp : pm_K) (md : pm_M) (C : pm_C) (hb sb : Nat) (Q : Option Value → pm_H → Prop) (P : pm_P) : Prop := ∀ (pc nx a b : Nat) (lv : pm_L) (st : List Value) (h : pm_H) (n : Nat) (fs : List Value), pm_at (pm_cd md) pc = some (.new n, nx, a, b) → pm_al md = true → pm_new a = some fs → h.length + 1 ≤ hb → pm_sl h + fs.length ≤ sb → h.length < 1000 → P nx lv (.ref h.length :: st) (h ++ [.inr (a, fs)]) → P pc lv st h
def pr_nwa (kp : pm_K) (md : pm_M) (C : pm_C) (hb sb : Nat) (Q : Option Value → pm_H → Prop) (P : pm_P) : Prop := ∀ (pc nx a b : Nat) (lv : pm_L) (st : List Value) (h : pm_H) (ty : ArrayType) (n : Int32) (N : Nat), pm_at (pm_cd md) pc = some (.newarray ty, nx, a, b) → pm_al md = true → ¬ n < 0 → n.toNatClampNeg = N → N ≤ 1000000 → h.length + 1 ≤ hb → pm_sl h + N ≤ sb → h.length < 1000 → P nx lv (.ref h.length :: st) (h ++ [.inl (a, (N, pm_zer a))]) → P pc lv (.int n :: st) h
def pr_nwr (kp : pm_K) (md : pm_M) (C : pm_C) (hb sb : Nat) (Q : Option Value → pm_H → Prop) (P : pm_P) : Prop := ∀ (pc nx a b : Nat) (lv : pm_L) (st : List Value) (h : pm_H) (i : Nat) (n : Int32) (N : Nat), pm_at (pm_cd md) pc = some (.anewarray i, nx, a, b) → pm_al md = true → ¬ n < 0 → n.toNatClampNeg = N → N ≤ 1000000 → h.length + 1 ≤ hb → pm_sl h + N ≤ sb → h.length < 1000 → P nx lv (.ref h.length :: st) (h ++ [.inl (4, (N, .inr (.inr (.inr (.inr fun _ => none)))))]) → P pc lv (.int n :: st) h
def pr_nwm (kp : pm_K) (md : pm_M) (C : pm_C) (hb sb : Nat) (Q : Option Value → pm_H → Prop) (P : pm_P) : Prop := ∀ (pc nx a b : Nat) (lv : pm_L) (st : List Value) (h : pm_H) (i : Nat) (n m : Int32) (N M : Nat), pm_at (pm_cd md) pc = some (.multianewarray i 2, nx, a, b) → pm_al md = true → ¬ n < 0 → ¬ m < 0 → n.toNatClampNeg = N → m.toNatClampNeg = M → N ≤ 100 → M ≤ 100 → h.length + (1 + N) ≤ hb → pm_sl h + (N + N * M) ≤ sb → h.length + N < 1000 → P nx lv (.ref h.length :: st) (h ++ ([.inl (5, (N, .inr (.inr (.inr (.inr fun j => if j < N then some (h.length + 1 + j) else none)))))] ++ List.replicate N (.inl (1, (M, .inr (.inl fun _ => 0)))))) → P pc lv (.int m :: .int n :: st) h
def pr_cls (kp : pm_K) (md : pm_M) (C : pm_C) (hb sb : Nat) (Q : Option Value → pm_H → Prop) (P : pm_P) : Prop := ∀ (pc nx a b : Nat) (lv : pm_L) (st : List Value) (h : pm_H) (i : Instr) (n : Nat) (as rest : List Value) (r : Option Value) (h1 : pm_H), pm_at (pm_cd md) pc = some (i, nx, a, b) → i = .invokestatic n → pm_knd a 1 → pm_spl b st [] = some (as, rest) → pm_cat rest ≤ 8 → (pm_mal a = false ∨ pm_al md = true ∧ h1.length ≤ hb ∧ pm_sl h1 ≤ sb) → C a as h r h1 → P nx lv (pm_pu r rest) h1 → P pc lv st h
def pr_clv (kp : pm_K) (md : pm_M) (C : pm_C) (hb sb : Nat) (Q : Option Value → pm_H → Prop) (P : pm_P) : Prop := ∀ (pc nx a b : Nat) (lv : pm_L) (st : List Value) (h : pm_H) (i : Instr) (n o ci : Nat) (as rest fs : List Value) (r : Option Value) (h1 : pm_H), pm_at (pm_cd md) pc = some (i, nx, a, b) → (i = .invokevirtual n ∧ pm_knd a 0 ∨ i = .invokespecial n ∧ pm_knd a 2) → pm_spl b st [] = some (.ref o :: as, rest) → pm_cat rest ≤ 8 → h[o]? = some (.inr (ci, fs)) → pm_mci a = some ci → (pm_mal a = false ∨ pm_al md = true ∧ h1.length ≤ hb ∧ pm_sl h1 ≤ sb) → C a (.ref o :: as) h r h1 → P nx lv (pm_pu r rest) h1 → P pc lv st h
def pr_clk (kp : pm_K) (md : pm_M) (C : pm_C) (hb sb : Nat) (Q : Option Value → pm_H → Prop) (P : pm_P) : Prop := ∀ (pc nx a b : Nat) (lv : pm_L) (st : List Value) (h : pm_H) (n o : Nat) (as rest : List Value) (r : Option Value) (h1 : pm_H), pm_at (pm_cd md) pc = some (.invokevirtual n, nx, a, b) → pm_knd a 0 → pm_mst a = true → pm_spl b st [] = some (.ref o :: as, rest) → pm_cat rest ≤ 8 → 1000010 ≤ o → o ≤ 1000014 → pm_mal a = false → C a (.ref o :: as) h r h1 → P nx lv (pm_pu r rest) h1 → P pc lv st h
def pr_mmx (kp : pm_K) (md : pm_M) (C : pm_C) (hb sb : Nat) (Q : Option Value → pm_H → Prop) (P : pm_P) : Prop := ∀ (pc nx a b : Nat) (lv : pm_L) (st : List Value) (h : pm_H) (n : Nat) (x y : Int32), pm_at (pm_cd md) pc = some (.invokestatic n, nx, a, b) → a = 1001 → pm_cat st ≤ 8 → P nx lv (.int (if x < y then y else x) :: st) h → P pc lv (.int y :: .int x :: st) h
def pr_mmn (kp : pm_K) (md : pm_M) (C : pm_C) (hb sb : Nat) (Q : Option Value → pm_H → Prop) (P : pm_P) : Prop := ∀ (pc nx a b : Nat) (lv : pm_L) (st : List Value) (h : pm_H) (n : Nat) (x y : Int32), pm_at (pm_cd md) pc = some (.invokestatic n, nx, a, b) → a = 1002 → pm_cat st ≤ 8 → P nx lv (.int (if y < x then y else x) :: st) h → P pc lv (.int y :: .int x :: st) h
def pr_obj (kp : pm_K) (md : pm_M) (C : pm_C) (hb sb : Nat) (Q : Option Value → pm_H → Prop) (P : pm_P) : Prop := ∀ (pc nx a b : Nat) (lv : pm_L) (st : List Value) (h : pm_H) (n o : Nat), pm_at (pm_cd md) pc = some (.invokespecial n, nx, a, b) → a = 1000 → pm_cat st ≤ 8 → P nx lv st h → P pc lv (.ref o :: st) h
def pr_irt (kp : pm_K) (md : pm_M) (C : pm_C) (hb sb : Nat) (Q : Option Value → pm_H → Prop) (P : pm_P) : Prop := ∀ (pc nx a b : Nat) (lv : pm_L) (h : pm_H) (v : Int32) (ty : FieldType), pm_at (pm_cd md) pc = some (.ireturn, nx, a, b) → pm_ret md = some ty → narrow ty (.int v) = .int v → Q (some (.int v)) h → P pc lv ([.int v]) h
def pr_lrt (kp : pm_K) (md : pm_M) (C : pm_C) (hb sb : Nat) (Q : Option Value → pm_H → Prop) (P : pm_P) : Prop := ∀ (pc nx a b : Nat) (lv : pm_L) (h : pm_H) (v : Int64), pm_at (pm_cd md) pc = some (.lreturn, nx, a, b) → pm_ret md = some .long → Q (some (.long v)) h → P pc lv ([.long v]) h
def pr_art (kp : pm_K) (md : pm_M) (C : pm_C) (hb sb : Nat) (Q : Option Value → pm_H → Prop) (P : pm_P) : Prop := ∀ (pc nx a b : Nat) (lv : pm_L) (h : pm_H) (o : Nat) (n : String), pm_at (pm_cd md) pc = some (.areturn, nx, a, b) → pm_ret md = some (.object n) → Q (some (.ref o)) h → P pc lv ([.ref o]) h
def pr_vrt (kp : pm_K) (md : pm_M) (C : pm_C) (hb sb : Nat) (Q : Option Value → pm_H → Prop) (P : pm_P) : Prop := ∀ (pc nx a b : Nat) (lv : pm_L) (h : pm_H) , pm_at (pm_cd md) pc = some (.return_, nx, a, b) → pm_ret md = none → Q none h → P pc lv [] h
def pr_gst (kp : pm_K) (md : pm_M) (C : pm_C) (hb sb : Nat) (Q : Option Value → pm_H → Prop) (P : pm_P) : Prop := ∀ (pc nx a b : Nat) (lv : pm_L) (st : List Value) (h : pm_H) (n : Nat) (v : Value), pm_at (pm_cd md) pc = some (.getstatic n, nx, a, b) → pm_gst a = some v → P nx lv (v :: st) h → P pc lv st h
def pr_sub (kp : pm_K) (md : pm_M) (C : pm_C) (hb sb : Nat) (Q : Option Value → pm_H → Prop) (P : pm_P) : Prop := ∀ (pc nx a b : Nat) (lv : pm_L) (st : List Value) (h : pm_H) (ks : List Nat) (lv1 : pm_L), pm_pck lv ks some = some lv1 → P pc lv1 st h → P pc lv st h
def pm_R (kp : pm_K) (md : pm_M) (C : pm_C) (hb sb : Nat) (Q : Option Value → pm_H → Prop) (P : pm_P) : Prop := pr_cst kp md C hb sb Q P ∧ pr_ldc kp md C hb sb Q P ∧ pr_ld kp md C hb sb Q P ∧ pr_sto kp md C hb sb Q P ∧ pr_bop kp md C hb sb Q P ∧ pr_dop kp md C hb sb Q P ∧ pr_uop kp md C hb sb Q P ∧ pr_sop kp md C hb sb Q P ∧ pr_inc kp md C hb sb Q P ∧ pr_goto kp md C hb sb Q P ∧ pr_ifc kp md C hb sb Q P ∧ pr_icm kp md C hb sb Q P ∧ pr_tso kp md C hb sb Q P ∧ pr_tsi kp md C hb sb Q P ∧ pr_lsw kp md C hb sb Q P ∧ pr_get kp md C hb sb Q P ∧ pr_gek kp md C hb sb Q P ∧ pr_put kp md C hb sb Q P ∧ pr_puf kp md C hb sb Q P ∧ pr_ial kp md C hb sb Q P ∧ pr_bal kp md C hb sb Q P ∧ pr_zal kp md C hb sb Q P ∧ pr_lal kp md C hb sb Q P ∧ pr_aal kp md C hb sb Q P ∧ pr_kil kp md C hb sb Q P ∧ pr_kbl kp md C hb sb Q P ∧ pr_kll kp md C hb sb Q P ∧ pr_kle kp md C hb sb Q P ∧ pr_ias kp md C hb sb Q P ∧ pr_bas kp md C hb sb Q P ∧ pr_zas kp md C hb sb Q P ∧ pr_las kp md C hb sb Q P ∧ pr_aas kp md C hb sb Q P ∧ pr_len kp md C hb sb Q P ∧ pr_new kp md C hb sb Q P ∧ pr_nwa kp md C hb sb Q P ∧ pr_nwr kp md C hb sb Q P ∧ pr_nwm kp md C hb sb Q P ∧ pr_cls kp md C hb sb Q P ∧ pr_clv kp md C hb sb Q P ∧ pr_clk kp md C hb sb Q P ∧ pr_mmx kp md C hb sb Q P ∧ pr_mmn kp md C hb sb Q P ∧ pr_obj kp md C hb sb Q P ∧ pr_irt kp md C hb sb Q P ∧ pr_lrt kp md C hb sb Q P ∧ pr_art kp md C hb sb Q P ∧ pr_vrt kp md C hb sb Q P ∧ pr_gst kp md C hb sb Q P ∧ pr_sub kp md C hb sb Q P
def pm_W (kp : pm_K) (md : pm_M) (C : pm_C) (hb sb : Nat) (Q : Option Value → pm_H → Prop) : pm_P := fun pc lv st h => ∀ P : pm_P, pm_R kp md C hb sb Q P → P pc lv st h
section PQ
variable {kp : pm_K} {md : pm_M} {C : pm_C} {hb sb : Nat} {Q : Option Value → pm_H → Prop}
theorem pq_cst {pc nx a b : Nat} {lv : pm_L} {st : List Value} {h : pm_H} {i : Instr} {v : Value} (g0 : pm_at (pm_cd md) pc = some (i, nx, a, b)) (g1 : pm_cst i = some v) (g2 : pm_W kp md C hb sb Q nx lv (v :: st) h) : pm_W kp md C hb sb Q pc lv st h := fun P R => R.1 pc nx a b lv st h i v g0 g1 (g2 P R)
theorem pq_ldc {pc nx a b : Nat} {lv : pm_L} {st : List Value} {h : pm_H} {i : Instr} {v : Value} (g0 : pm_at (pm_cd md) pc = some (i, nx, a, b)) (g1 : pm_isl i = true) (g2 : pt_ldc[a]? = some v) (g3 : pm_W kp md C hb sb Q nx lv (v :: st) h) : pm_W kp md C hb sb Q pc lv st h := fun P R => R.2.1 pc nx a b lv st h i v g0 g1 g2 (g3 P R)
theorem pq_ld {pc nx a b : Nat} {lv : pm_L} {st : List Value} {h : pm_H} {i : Instr} {v : Value} {k : Nat} (j : Nat) (g0 : pm_at (pm_cd md) pc = some (i, nx, a, b)) (g1 : pm_ld i v = some k) (g2 : lv[j]? = some (k, v)) (g3 : pm_W kp md C hb sb Q nx lv (v :: st) h) : pm_W kp md C hb sb Q pc lv st h := fun P R => R.2.2.1 pc nx a b lv st h i v k j g0 g1 g2 (g3 P R)
theorem pq_sto {pc nx a b : Nat} {lv : pm_L} {st : List Value} {h : pm_H} {i : Instr} {v : Value} {k : Nat} {lv1 : pm_L} (g0 : pm_at (pm_cd md) pc = some (i, nx, a, b)) (g1 : pm_st i v = some k) (g2 : pm_sto k v lv = some lv1) (g3 : pm_W kp md C hb sb Q nx lv1 st h) : pm_W kp md C hb sb Q pc lv (v :: st) h := fun P R => R.2.2.2.1 pc nx a b lv st h i v k lv1 g0 g1 g2 (g3 P R)
theorem pq_bop {pc nx a b : Nat} {lv : pm_L} {st : List Value} {h : pm_H} {i : Instr} {v x y : Value} (g0 : pm_at (pm_cd md) pc = some (i, nx, a, b)) (g1 : pm_bop i y x = some v) (g2 : pm_W kp md C hb sb Q nx lv (v :: st) h) : pm_W kp md C hb sb Q pc lv (y :: x :: st) h := fun P R => R.2.2.2.2.1 pc nx a b lv st h i v x y g0 g1 (g2 P R)
theorem pq_dop {pc nx a b : Nat} {lv : pm_L} {st : List Value} {h : pm_H} {i : Instr} {v x y : Value} {c : Prop} (g0 : pm_at (pm_cd md) pc = some (i, nx, a, b)) (g1 : pm_dop i y x = some (v, c)) (g2 : c) (g3 : pm_W kp md C hb sb Q nx lv (v :: st) h) : pm_W kp md C hb sb Q pc lv (y :: x :: st) h := fun P R => R.2.2.2.2.2.1 pc nx a b lv st h i v x y c g0 g1 g2 (g3 P R)
theorem pq_uop {pc nx a b : Nat} {lv : pm_L} {st : List Value} {h : pm_H} {i : Instr} {v x : Value} (g0 : pm_at (pm_cd md) pc = some (i, nx, a, b)) (g1 : pm_uop i x = some v) (g2 : pm_W kp md C hb sb Q nx lv (v :: st) h) : pm_W kp md C hb sb Q pc lv (x :: st) h := fun P R => R.2.2.2.2.2.2.1 pc nx a b lv st h i v x g0 g1 (g2 P R)
theorem pq_sop {pc nx a b : Nat} {lv : pm_L} {st : List Value} {h : pm_H} {i : Instr} {st1 : List Value} (g0 : pm_at (pm_cd md) pc = some (i, nx, a, b)) (g1 : pm_sop i st = some st1) (g2 : pm_W kp md C hb sb Q nx lv st1 h) : pm_W kp md C hb sb Q pc lv st h := fun P R => R.2.2.2.2.2.2.2.1 pc nx a b lv st h i st1 g0 g1 (g2 P R)
theorem pq_inc {pc nx a b : Nat} {lv : pm_L} {st : List Value} {h : pm_H} {k : Nat} {n : Int} {x : Int32} {lv1 : pm_L} (j : Nat) (g0 : pm_at (pm_cd md) pc = some (.iinc k n, nx, a, b)) (g1 : lv[j]? = some (k, .int x)) (g2 : pm_sto k (.int (x + Int32.ofInt n)) lv = some lv1) (g3 : pm_W kp md C hb sb Q nx lv1 st h) : pm_W kp md C hb sb Q pc lv st h := fun P R => R.2.2.2.2.2.2.2.2.1 pc nx a b lv st h k n x lv1 j g0 g1 g2 (g3 P R)
theorem pq_goto {pc nx a b : Nat} {lv : pm_L} {st : List Value} {h : pm_H} {n : Int} (g0 : pm_at (pm_cd md) pc = some (.goto n, nx, a, b)) (g1 : pm_W kp md C hb sb Q a lv st h) : pm_W kp md C hb sb Q pc lv st h := fun P R => R.2.2.2.2.2.2.2.2.2.1 pc nx a b lv st h n g0 (g1 P R)
theorem pq_ifc {pc nx a b : Nat} {lv : pm_L} {st : List Value} {h : pm_H} {c : Jvm.ClassFile.Cond} {n : Int} {x : Int32} (g0 : pm_at (pm_cd md) pc = some (.ifCond c n, nx, a, b)) (g1 : (pm_cnd c x 0 → pm_W kp md C hb sb Q a lv st h)) (g2 : (¬ pm_cnd c x 0 → pm_W kp md C hb sb Q nx lv st h)) : pm_W kp md C hb sb Q pc lv (.int x :: st) h := fun P R => R.2.2.2.2.2.2.2.2.2.2.1 pc nx a b lv st h c n x g0 (fun q => g1 q P R) (fun q => g2 q P R)
theorem pq_icm {pc nx a b : Nat} {lv : pm_L} {st : List Value} {h : pm_H} {c : Jvm.ClassFile.Cond} {n : Int} {x y : Int32} (g0 : pm_at (pm_cd md) pc = some (.if_icmp c n, nx, a, b)) (g1 : (pm_cnd c x y → pm_W kp md C hb sb Q a lv st h)) (g2 : (¬ pm_cnd c x y → pm_W kp md C hb sb Q nx lv st h)) : pm_W kp md C hb sb Q pc lv (.int y :: .int x :: st) h := fun P R => R.2.2.2.2.2.2.2.2.2.2.2.1 pc nx a b lv st h c n x y g0 (fun q => g1 q P R) (fun q => g2 q P R)
theorem pq_tso {pc nx a b : Nat} {lv : pm_L} {st : List Value} {h : pm_H} {d lo hi : Int} {os : Array Int} {x : Int32} {t : Nat} (g0 : pm_at (pm_cd md) pc = some (.tableswitch d lo hi os, nx, a, b)) (g1 : (x.toInt < lo ∨ hi < x.toInt)) (g2 : (pc : Int) + d = (t : Int)) (g3 : pm_W kp md C hb sb Q t lv st h) : pm_W kp md C hb sb Q pc lv (.int x :: st) h := fun P R => R.2.2.2.2.2.2.2.2.2.2.2.2.1 pc nx a b lv st h d lo hi os x t g0 g1 g2 (g3 P R)
theorem pq_tsi {pc nx a b : Nat} {lv : pm_L} {st : List Value} {h : pm_H} {d lo hi off : Int} {os : Array Int} {x : Int32} {t : Nat} (g0 : pm_at (pm_cd md) pc = some (.tableswitch d lo hi os, nx, a, b)) (g1 : ¬ x.toInt < lo) (g2 : ¬ hi < x.toInt) (g3 : os[(x.toInt - lo).toNat]? = some off) (g4 : (pc : Int) + off = (t : Int)) (g5 : pm_W kp md C hb sb Q t lv st h) : pm_W kp md C hb sb Q pc lv (.int x :: st) h := fun P R => R.2.2.2.2.2.2.2.2.2.2.2.2.2.1 pc nx a b lv st h d lo hi off os x t g0 g1 g2 g3 g4 (g5 P R)
theorem pq_lsw {pc nx a b : Nat} {lv : pm_L} {st : List Value} {h : pm_H} {d : Int} {ps : Array (Int × Int)} {x : Int32} {t : Nat} (g0 : pm_at (pm_cd md) pc = some (.lookupswitch d ps, nx, a, b)) (g1 : (ps.toList.zip (ps.toList.drop 1)).all (fun (a, next) => a.1 < next.1) = true) (g2 : (pc : Int) + Op.lookupswitch.offset ps.toList d x.toInt = (t : Int)) (g3 : pm_W kp md C hb sb Q t lv st h) : pm_W kp md C hb sb Q pc lv (.int x :: st) h := fun P R => R.2.2.2.2.2.2.2.2.2.2.2.2.2.2.1 pc nx a b lv st h d ps x t g0 g1 g2 (g3 P R)
theorem pq_get {pc nx a b : Nat} {lv : pm_L} {st : List Value} {h : pm_H} {n o : Nat} {fs : List Value} {v : Value} (g0 : pm_at (pm_cd md) pc = some (.getfield n, nx, a, b)) (g1 : h[o]? = some (.inr (a, fs))) (g2 : fs[b]? = some v) (g3 : pm_W kp md C hb sb Q nx lv (v :: st) h) : pm_W kp md C hb sb Q pc lv (.ref o :: st) h := fun P R => R.2.2.2.2.2.2.2.2.2.2.2.2.2.2.2.1 pc nx a b lv st h n o fs v g0 g1 g2 (g3 P R)
theorem pq_gek {pc nx a b : Nat} {lv : pm_L} {st : List Value} {h : pm_H} {n o : Nat} {v : Value} (g0 : pm_at (pm_cd md) pc = some (.getfield n, nx, a, b)) (g1 : a = 100) (g2 : pm_kfl o b = some v) (g3 : pm_W kp md C hb sb Q nx lv (v :: st) h) : pm_W kp md C hb sb Q pc lv (.ref o :: st) h := fun P R => R.2.2.2.2.2.2.2.2.2.2.2.2.2.2.2.2.1 pc nx a b lv st h n o v g0 g1 g2 (g3 P R)
theorem pq_put {pc nx a b : Nat} {lv : pm_L} {st : List Value} {h : pm_H} {n o : Nat} {fs fs1 : List Value} {v : Value} {ty : FieldType} (g0 : pm_at (pm_cd md) pc = some (.putfield n, nx, a, b)) (g1 : h[o]? = some (.inr (a, fs))) (g2 : pm_fty a b = some (ty, false)) (g3 : pm_fit ty v) (g4 : pm_set fs b v = some fs1) (g5 : pm_W kp md C hb sb Q nx lv st (h.set o (.inr (a, fs1)))) : pm_W kp md C hb sb Q pc lv (v :: .ref o :: st) h := fun P R => R.2.2.2.2.2.2.2.2.2.2.2.2.2.2.2.2.2.1 pc nx a b lv st h n o fs fs1 v ty g0 g1 g2 g3 g4 (g5 P R)
theorem pq_puf {pc nx a b : Nat} {lv : pm_L} {st : List Value} {h : pm_H} {n o : Nat} {fs fs1 : List Value} {v : Value} {ty : FieldType} (g0 : pm_at (pm_cd md) pc = some (.putfield n, nx, a, b)) (g1 : h[o]? = some (.inr (a, fs))) (g2 : pm_fty a b = some (ty, true)) (g3 : pm_own md a) (g4 : pm_fit ty v) (g5 : pm_set fs b v = some fs1) (g6 : pm_W kp md C hb sb Q nx lv st (h.set o (.inr (a, fs1)))) : pm_W kp md C hb sb Q pc lv (v :: .ref o :: st) h := fun P R => R.2.2.2.2.2.2.2.2.2.2.2.2.2.2.2.2.2.2.1 pc nx a b lv st h n o fs fs1 v ty g0 g1 g2 g3 g4 g5 (g6 P R)
theorem pq_ial {pc nx a b : Nat} {lv : pm_L} {st : List Value} {h : pm_H} {o n : Nat} {f : Nat → Int32} {j : Int32} (g0 : pm_at (pm_cd md) pc = some (.iaload, nx, a, b)) (g1 : h[o]? = some (.inl (0, (n, .inl f)))) (g2 : vp_in j n) (g3 : pm_W kp md C hb sb Q nx lv (.int (f j.toNatClampNeg) :: st) h) : pm_W kp md C hb sb Q pc lv (.int j :: .ref o :: st) h := fun P R => R.2.2.2.2.2.2.2.2.2.2.2.2.2.2.2.2.2.2.2.1 pc nx a b lv st h o n f j g0 g1 g2 (g3 P R)
theorem pq_bal {pc nx a b : Nat} {lv : pm_L} {st : List Value} {h : pm_H} {o n : Nat} {f : Nat → Int32} {j : Int32} (g0 : pm_at (pm_cd md) pc = some (.baload, nx, a, b)) (g1 : h[o]? = some (.inl (2, (n, .inl f)))) (g2 : vp_in j n) (g3 : pm_W kp md C hb sb Q nx lv (.int (f j.toNatClampNeg) :: st) h) : pm_W kp md C hb sb Q pc lv (.int j :: .ref o :: st) h := fun P R => R.2.2.2.2.2.2.2.2.2.2.2.2.2.2.2.2.2.2.2.2.1 pc nx a b lv st h o n f j g0 g1 g2 (g3 P R)
theorem pq_zal {pc nx a b : Nat} {lv : pm_L} {st : List Value} {h : pm_H} {o n : Nat} {f : Nat → Int32} {j : Int32} (g0 : pm_at (pm_cd md) pc = some (.baload, nx, a, b)) (g1 : h[o]? = some (.inl (3, (n, .inl f)))) (g2 : vp_in j n) (g3 : pm_W kp md C hb sb Q nx lv (.int (f j.toNatClampNeg) :: st) h) : pm_W kp md C hb sb Q pc lv (.int j :: .ref o :: st) h := fun P R => R.2.2.2.2.2.2.2.2.2.2.2.2.2.2.2.2.2.2.2.2.2.1 pc nx a b lv st h o n f j g0 g1 g2 (g3 P R)
theorem pq_lal {pc nx a b : Nat} {lv : pm_L} {st : List Value} {h : pm_H} {o n : Nat} {f : Nat → Int64} {j : Int32} (g0 : pm_at (pm_cd md) pc = some (.laload, nx, a, b)) (g1 : h[o]? = some (.inl (1, (n, .inr (.inl f))))) (g2 : vp_in j n) (g3 : pm_W kp md C hb sb Q nx lv (.long (f j.toNatClampNeg) :: st) h) : pm_W kp md C hb sb Q pc lv (.int j :: .ref o :: st) h := fun P R => R.2.2.2.2.2.2.2.2.2.2.2.2.2.2.2.2.2.2.2.2.2.2.1 pc nx a b lv st h o n f j g0 g1 g2 (g3 P R)
theorem pq_aal {pc nx a b : Nat} {lv : pm_L} {st : List Value} {h : pm_H} {o n r : Nat} {f : Nat → Option Nat} {j : Int32} {t : Nat} (g0 : pm_at (pm_cd md) pc = some (.aaload, nx, a, b)) (g1 : h[o]? = some (.inl (t, (n, .inr (.inr (.inr (.inr f))))))) (g2 : (t = 4 ∨ t = 5)) (g3 : vp_in j n) (g4 : f j.toNatClampNeg = some r) (g5 : pm_W kp md C hb sb Q nx lv (.ref r :: st) h) : pm_W kp md C hb sb Q pc lv (.int j :: .ref o :: st) h := fun P R => R.2.2.2.2.2.2.2.2.2.2.2.2.2.2.2.2.2.2.2.2.2.2.2.1 pc nx a b lv st h o n r f j t g0 g1 g2 g3 g4 (g5 P R)
theorem pq_kil {pc nx a b : Nat} {lv : pm_L} {st : List Value} {h : pm_H} {o n : Nat} {f : Nat → Int32} {j : Int32} (g0 : pm_at (pm_cd md) pc = some (.iaload, nx, a, b)) (g1 : pm_kar kp o = some (0, (n, .inl f))) (g2 : vp_in j n) (g3 : pm_W kp md C hb sb Q nx lv (.int (f j.toNatClampNeg) :: st) h) : pm_W kp md C hb sb Q pc lv (.int j :: .ref o :: st) h := fun P R => R.2.2.2.2.2.2.2.2.2.2.2.2.2.2.2.2.2.2.2.2.2.2.2.2.1 pc nx a b lv st h o n f j g0 g1 g2 (g3 P R)
theorem pq_kbl {pc nx a b : Nat} {lv : pm_L} {st : List Value} {h : pm_H} {o n : Nat} {f : Nat → Int32} {j : Int32} (g0 : pm_at (pm_cd md) pc = some (.baload, nx, a, b)) (g1 : pm_kar kp o = some (2, (n, .inl f))) (g2 : vp_in j n) (g3 : pm_W kp md C hb sb Q nx lv (.int (f j.toNatClampNeg) :: st) h) : pm_W kp md C hb sb Q pc lv (.int j :: .ref o :: st) h := fun P R => R.2.2.2.2.2.2.2.2.2.2.2.2.2.2.2.2.2.2.2.2.2.2.2.2.2.1 pc nx a b lv st h o n f j g0 g1 g2 (g3 P R)
theorem pq_kll {pc nx a b : Nat} {lv : pm_L} {st : List Value} {h : pm_H} {o n : Nat} {f : Nat → Int64} {j : Int32} (g0 : pm_at (pm_cd md) pc = some (.laload, nx, a, b)) (g1 : pm_kar kp o = some (1, (n, .inr (.inl f)))) (g2 : vp_in j n) (g3 : pm_W kp md C hb sb Q nx lv (.long (f j.toNatClampNeg) :: st) h) : pm_W kp md C hb sb Q pc lv (.int j :: .ref o :: st) h := fun P R => R.2.2.2.2.2.2.2.2.2.2.2.2.2.2.2.2.2.2.2.2.2.2.2.2.2.2.1 pc nx a b lv st h o n f j g0 g1 g2 (g3 P R)
theorem pq_kle {pc nx a b : Nat} {lv : pm_L} {st : List Value} {h : pm_H} {o n : Nat} {t : Nat} {x : (Nat → Int32) ⊕ (Nat → Int64) ⊕ (Nat → UInt32) ⊕ (Nat → UInt64) ⊕ (Nat → Option Nat)} (g0 : pm_at (pm_cd md) pc = some (.arraylength, nx, a, b)) (g1 : pm_kar kp o = some (t, (n, x))) (g2 : pm_W kp md C hb sb Q nx lv (.int (Int32.ofNat n) :: st) h) : pm_W kp md C hb sb Q pc lv (.ref o :: st) h := fun P R => R.2.2.2.2.2.2.2.2.2.2.2.2.2.2.2.2.2.2.2.2.2.2.2.2.2.2.2.1 pc nx a b lv st h o n t x g0 g1 (g2 P R)
theorem pq_ias {pc nx a b : Nat} {lv : pm_L} {st : List Value} {h : pm_H} {o n : Nat} {f : Nat → Int32} {j x : Int32} (g0 : pm_at (pm_cd md) pc = some (.iastore, nx, a, b)) (g1 : h[o]? = some (.inl (0, (n, .inl f)))) (g2 : vp_in j n) (g3 : pm_W kp md C hb sb Q nx lv st (h.set o (.inl (0, (n, .inl (upd f j.toNatClampNeg x)))))) : pm_W kp md C hb sb Q pc lv (.int x :: .int j :: .ref o :: st) h := fun P R => R.2.2.2.2.2.2.2.2.2.2.2.2.2.2.2.2.2.2.2.2.2.2.2.2.2.2.2.2.1 pc nx a b lv st h o n f j x g0 g1 g2 (g3 P R)
theorem pq_bas {pc nx a b : Nat} {lv : pm_L} {st : List Value} {h : pm_H} {o n : Nat} {f : Nat → Int32} {j x : Int32} (g0 : pm_at (pm_cd md) pc = some (.bastore, nx, a, b)) (g1 : h[o]? = some (.inl (2, (n, .inl f)))) (g2 : vp_in j n) (g3 : pm_W kp md C hb sb Q nx lv st (h.set o (.inl (2, (n, .inl (upd f j.toNatClampNeg (vp_nar .byte x))))))) : pm_W kp md C hb sb Q pc lv (.int x :: .int j :: .ref o :: st) h := fun P R => R.2.2.2.2.2.2.2.2.2.2.2.2.2.2.2.2.2.2.2.2.2.2.2.2.2.2.2.2.2.1 pc nx a b lv st h o n f j x g0 g1 g2 (g3 P R)
theorem pq_zas {pc nx a b : Nat} {lv : pm_L} {st : List Value} {h : pm_H} {o n : Nat} {f : Nat → Int32} {j x : Int32} (g0 : pm_at (pm_cd md) pc = some (.bastore, nx, a, b)) (g1 : h[o]? = some (.inl (3, (n, .inl f)))) (g2 : vp_in j n) (g3 : pm_W kp md C hb sb Q nx lv st (h.set o (.inl (3, (n, .inl (upd f j.toNatClampNeg (vp_nar .boolean x))))))) : pm_W kp md C hb sb Q pc lv (.int x :: .int j :: .ref o :: st) h := fun P R => R.2.2.2.2.2.2.2.2.2.2.2.2.2.2.2.2.2.2.2.2.2.2.2.2.2.2.2.2.2.2.1 pc nx a b lv st h o n f j x g0 g1 g2 (g3 P R)
theorem pq_las {pc nx a b : Nat} {lv : pm_L} {st : List Value} {h : pm_H} {o n : Nat} {f : Nat → Int64} {j : Int32} {x : Int64} (g0 : pm_at (pm_cd md) pc = some (.lastore, nx, a, b)) (g1 : h[o]? = some (.inl (1, (n, .inr (.inl f))))) (g2 : vp_in j n) (g3 : pm_W kp md C hb sb Q nx lv st (h.set o (.inl (1, (n, .inr (.inl (vp_updL f j.toNatClampNeg x))))))) : pm_W kp md C hb sb Q pc lv (.long x :: .int j :: .ref o :: st) h := fun P R => R.2.2.2.2.2.2.2.2.2.2.2.2.2.2.2.2.2.2.2.2.2.2.2.2.2.2.2.2.2.2.2.1 pc nx a b lv st h o n f j x g0 g1 g2 (g3 P R)
theorem pq_aas {pc nx a b : Nat} {lv : pm_L} {st : List Value} {h : pm_H} {o n r : Nat} {f : Nat → Option Nat} {j : Int32} {fs : List Value} (g0 : pm_at (pm_cd md) pc = some (.aastore, nx, a, b)) (g1 : h[o]? = some (.inl (4, (n, .inr (.inr (.inr (.inr f))))))) (g2 : vp_in j n) (g3 : h[r]? = some (.inr (5, fs))) (g4 : pm_W kp md C hb sb Q nx lv st (h.set o (.inl (4, (n, .inr (.inr (.inr (.inr (va_up f j.toNatClampNeg (some r)))))))))) : pm_W kp md C hb sb Q pc lv (.ref r :: .int j :: .ref o :: st) h := fun P R => R.2.2.2.2.2.2.2.2.2.2.2.2.2.2.2.2.2.2.2.2.2.2.2.2.2.2.2.2.2.2.2.2.1 pc nx a b lv st h o n r f j fs g0 g1 g2 g3 (g4 P R)
theorem pq_len {pc nx a b : Nat} {lv : pm_L} {st : List Value} {h : pm_H} {o n : Nat} {t : Nat} {x : (Nat → Int32) ⊕ (Nat → Int64) ⊕ (Nat → UInt32) ⊕ (Nat → UInt64) ⊕ (Nat → Option Nat)} (g0 : pm_at (pm_cd md) pc = some (.arraylength, nx, a, b)) (g1 : h[o]? = some (.inl (t, (n, x)))) (g2 : t < 6) (g3 : pm_W kp md C hb sb Q nx lv (.int (Int32.ofNat n) :: st) h) : pm_W kp md C hb sb Q pc lv (.ref o :: st) h := fun P R => R.2.2.2.2.2.2.2.2.2.2.2.2.2.2.2.2.2.2.2.2.2.2.2.2.2.2.2.2.2.2.2.2.2.1 pc nx a b lv st h o n t x g0 g1 g2 (g3 P R)
theorem pq_new {pc nx a b : Nat} {lv : pm_L} {st : List Value} {h : pm_H} {n : Nat} {fs : List Value} (g0 : pm_at (pm_cd md) pc = some (.new n, nx, a, b)) (g1 : pm_al md = true) (g2 : pm_new a = some fs) (g3 : h.length + 1 ≤ hb) (g4 : pm_sl h + fs.length ≤ sb) (g5 : h.length < 1000) (g6 : pm_W kp md C hb sb Q nx lv (.ref h.length :: st) (h ++ [.inr (a, fs)])) : pm_W kp md C hb sb Q pc lv st h := fun P R => R.2.2.2.2.2.2.2.2.2.2.2.2.2.2.2.2.2.2.2.2.2.2.2.2.2.2.2.2.2.2.2.2.2.2.1 pc nx a b lv st h n fs g0 g1 g2 g3 g4 g5 (g6 P R)
theorem pq_nwa {pc nx a b : Nat} {lv : pm_L} {st : List Value} {h : pm_H} {ty : ArrayType} {n : Int32} {N : Nat} (g0 : pm_at (pm_cd md) pc = some (.newarray ty, nx, a, b)) (g1 : pm_al md = true) (g2 : ¬ n < 0) (g3 : n.toNatClampNeg = N) (g4 : N ≤ 1000000) (g5 : h.length + 1 ≤ hb) (g6 : pm_sl h + N ≤ sb) (g7 : h.length < 1000) (g8 : pm_W kp md C hb sb Q nx lv (.ref h.length :: st) (h ++ [.inl (a, (N, pm_zer a))])) : pm_W kp md C hb sb Q pc lv (.int n :: st) h := fun P R => R.2.2.2.2.2.2.2.2.2.2.2.2.2.2.2.2.2.2.2.2.2.2.2.2.2.2.2.2.2.2.2.2.2.2.2.1 pc nx a b lv st h ty n N g0 g1 g2 g3 g4 g5 g6 g7 (g8 P R)
theorem pq_nwr {pc nx a b : Nat} {lv : pm_L} {st : List Value} {h : pm_H} {i : Nat} {n : Int32} {N : Nat} (g0 : pm_at (pm_cd md) pc = some (.anewarray i, nx, a, b)) (g1 : pm_al md = true) (g2 : ¬ n < 0) (g3 : n.toNatClampNeg = N) (g4 : N ≤ 1000000) (g5 : h.length + 1 ≤ hb) (g6 : pm_sl h + N ≤ sb) (g7 : h.length < 1000) (g8 : pm_W kp md C hb sb Q nx lv (.ref h.length :: st) (h ++ [.inl (4, (N, .inr (.inr (.inr (.inr fun _ => none)))))])) : pm_W kp md C hb sb Q pc lv (.int n :: st) h := fun P R => R.2.2.2.2.2.2.2.2.2.2.2.2.2.2.2.2.2.2.2.2.2.2.2.2.2.2.2.2.2.2.2.2.2.2.2.2.1 pc nx a b lv st h i n N g0 g1 g2 g3 g4 g5 g6 g7 (g8 P R)
theorem pq_nwm {pc nx a b : Nat} {lv : pm_L} {st : List Value} {h : pm_H} {i : Nat} {n m : Int32} {N M : Nat} (g0 : pm_at (pm_cd md) pc = some (.multianewarray i 2, nx, a, b)) (g1 : pm_al md = true) (g2 : ¬ n < 0) (g3 : ¬ m < 0) (g4 : n.toNatClampNeg = N) (g5 : m.toNatClampNeg = M) (g6 : N ≤ 100) (g7 : M ≤ 100) (g8 : h.length + (1 + N) ≤ hb) (g9 : pm_sl h + (N + N * M) ≤ sb) (g10 : h.length + N < 1000) (g11 : pm_W kp md C hb sb Q nx lv (.ref h.length :: st) (h ++ ([.inl (5, (N, .inr (.inr (.inr (.inr fun j => if j < N then some (h.length + 1 + j) else none)))))] ++ List.replicate N (.inl (1, (M, .inr (.inl fun _ => 0))))))) : pm_W kp md C hb sb Q pc lv (.int m :: .int n :: st) h := fun P R => R.2.2.2.2.2.2.2.2.2.2.2.2.2.2.2.2.2.2.2.2.2.2.2.2.2.2.2.2.2.2.2.2.2.2.2.2.2.1 pc nx a b lv st h i n m N M g0 g1 g2 g3 g4 g5 g6 g7 g8 g9 g10 (g11 P R)
theorem pq_cls {pc nx a b : Nat} {lv : pm_L} {st : List Value} {h : pm_H} {i : Instr} {n : Nat} {as rest : List Value} {r : Option Value} {h1 : pm_H} (g0 : pm_at (pm_cd md) pc = some (i, nx, a, b)) (g1 : i = .invokestatic n) (g2 : pm_knd a 1) (g3 : pm_spl b st [] = some (as, rest)) (g4 : pm_cat rest ≤ 8) (g5 : (pm_mal a = false ∨ pm_al md = true ∧ h1.length ≤ hb ∧ pm_sl h1 ≤ sb)) (g6 : C a as h r h1) (g7 : pm_W kp md C hb sb Q nx lv (pm_pu r rest) h1) : pm_W kp md C hb sb Q pc lv st h := fun P R => R.2.2.2.2.2.2.2.2.2.2.2.2.2.2.2.2.2.2.2.2.2.2.2.2.2.2.2.2.2.2.2.2.2.2.2.2.2.2.1 pc nx a b lv st h i n as rest r h1 g0 g1 g2 g3 g4 g5 g6 (g7 P R)
theorem pq_clv {pc nx a b : Nat} {lv : pm_L} {st : List Value} {h : pm_H} {i : Instr} {n o ci : Nat} {as rest fs : List Value} {r : Option Value} {h1 : pm_H} (g0 : pm_at (pm_cd md) pc = some (i, nx, a, b)) (g1 : (i = .invokevirtual n ∧ pm_knd a 0 ∨ i = .invokespecial n ∧ pm_knd a 2)) (g2 : pm_spl b st [] = some (.ref o :: as, rest)) (g3 : pm_cat rest ≤ 8) (g4 : h[o]? = some (.inr (ci, fs))) (g5 : pm_mci a = some ci) (g6 : (pm_mal a = false ∨ pm_al md = true ∧ h1.length ≤ hb ∧ pm_sl h1 ≤ sb)) (g7 : C a (.ref o :: as) h r h1) (g8 : pm_W kp md C hb sb Q nx lv (pm_pu r rest) h1) : pm_W kp md C hb sb Q pc lv st h := fun P R => R.2.2.2.2.2.2.2.2.2.2.2.2.2.2.2.2.2.2.2.2.2.2.2.2.2.2.2.2.2.2.2.2.2.2.2.2.2.2.2.1 pc nx a b lv st h i n o ci as rest fs r h1 g0 g1 g2 g3 g4 g5 g6 g7 (g8 P R)
theorem pq_clk {pc nx a b : Nat} {lv : pm_L} {st : List Value} {h : pm_H} {n o : Nat} {as rest : List Value} {r : Option Value} {h1 : pm_H} (g0 : pm_at (pm_cd md) pc = some (.invokevirtual n, nx, a, b)) (g1 : pm_knd a 0) (g2 : pm_mst a = true) (g3 : pm_spl b st [] = some (.ref o :: as, rest)) (g4 : pm_cat rest ≤ 8) (g5 : 1000010 ≤ o) (g6 : o ≤ 1000014) (g7 : pm_mal a = false) (g8 : C a (.ref o :: as) h r h1) (g9 : pm_W kp md C hb sb Q nx lv (pm_pu r rest) h1) : pm_W kp md C hb sb Q pc lv st h := fun P R => R.2.2.2.2.2.2.2.2.2.2.2.2.2.2.2.2.2.2.2.2.2.2.2.2.2.2.2.2.2.2.2.2.2.2.2.2.2.2.2.2.1 pc nx a b lv st h n o as rest r h1 g0 g1 g2 g3 g4 g5 g6 g7 g8 (g9 P R)
theorem pq_mmx {pc nx a b : Nat} {lv : pm_L} {st : List Value} {h : pm_H} {n : Nat} {x y : Int32} (g0 : pm_at (pm_cd md) pc = some (.invokestatic n, nx, a, b)) (g1 : a = 1001) (g2 : pm_cat st ≤ 8) (g3 : pm_W kp md C hb sb Q nx lv (.int (if x < y then y else x) :: st) h) : pm_W kp md C hb sb Q pc lv (.int y :: .int x :: st) h := fun P R => R.2.2.2.2.2.2.2.2.2.2.2.2.2.2.2.2.2.2.2.2.2.2.2.2.2.2.2.2.2.2.2.2.2.2.2.2.2.2.2.2.2.1 pc nx a b lv st h n x y g0 g1 g2 (g3 P R)
theorem pq_mmn {pc nx a b : Nat} {lv : pm_L} {st : List Value} {h : pm_H} {n : Nat} {x y : Int32} (g0 : pm_at (pm_cd md) pc = some (.invokestatic n, nx, a, b)) (g1 : a = 1002) (g2 : pm_cat st ≤ 8) (g3 : pm_W kp md C hb sb Q nx lv (.int (if y < x then y else x) :: st) h) : pm_W kp md C hb sb Q pc lv (.int y :: .int x :: st) h := fun P R => R.2.2.2.2.2.2.2.2.2.2.2.2.2.2.2.2.2.2.2.2.2.2.2.2.2.2.2.2.2.2.2.2.2.2.2.2.2.2.2.2.2.2.1 pc nx a b lv st h n x y g0 g1 g2 (g3 P R)
theorem pq_obj {pc nx a b : Nat} {lv : pm_L} {st : List Value} {h : pm_H} {n o : Nat} (g0 : pm_at (pm_cd md) pc = some (.invokespecial n, nx, a, b)) (g1 : a = 1000) (g2 : pm_cat st ≤ 8) (g3 : pm_W kp md C hb sb Q nx lv st h) : pm_W kp md C hb sb Q pc lv (.ref o :: st) h := fun P R => R.2.2.2.2.2.2.2.2.2.2.2.2.2.2.2.2.2.2.2.2.2.2.2.2.2.2.2.2.2.2.2.2.2.2.2.2.2.2.2.2.2.2.2.1 pc nx a b lv st h n o g0 g1 g2 (g3 P R)
theorem pq_irt {pc nx a b : Nat} {lv : pm_L} {h : pm_H} {v : Int32} {ty : FieldType} (g0 : pm_at (pm_cd md) pc = some (.ireturn, nx, a, b)) (g1 : pm_ret md = some ty) (g2 : narrow ty (.int v) = .int v) (g3 : Q (some (.int v)) h) : pm_W kp md C hb sb Q pc lv ([.int v]) h := fun P R => R.2.2.2.2.2.2.2.2.2.2.2.2.2.2.2.2.2.2.2.2.2.2.2.2.2.2.2.2.2.2.2.2.2.2.2.2.2.2.2.2.2.2.2.2.1 pc nx a b lv h v ty g0 g1 g2 g3
theorem pq_lrt {pc nx a b : Nat} {lv : pm_L} {h : pm_H} {v : Int64} (g0 : pm_at (pm_cd md) pc = some (.lreturn, nx, a, b)) (g1 : pm_ret md = some .long) (g2 : Q (some (.long v)) h) : pm_W kp md C hb sb Q pc lv ([.long v]) h := fun P R => R.2.2.2.2.2.2.2.2.2.2.2.2.2.2.2.2.2.2.2.2.2.2.2.2.2.2.2.2.2.2.2.2.2.2.2.2.2.2.2.2.2.2.2.2.2.1 pc nx a b lv h v g0 g1 g2
theorem pq_art {pc nx a b : Nat} {lv : pm_L} {h : pm_H} {o : Nat} {n : String} (g0 : pm_at (pm_cd md) pc = some (.areturn, nx, a, b)) (g1 : pm_ret md = some (.object n)) (g2 : Q (some (.ref o)) h) : pm_W kp md C hb sb Q pc lv ([.ref o]) h := fun P R => R.2.2.2.2.2.2.2.2.2.2.2.2.2.2.2.2.2.2.2.2.2.2.2.2.2.2.2.2.2.2.2.2.2.2.2.2.2.2.2.2.2.2.2.2.2.2.1 pc nx a b lv h o n g0 g1 g2
theorem pq_vrt {pc nx a b : Nat} {lv : pm_L} {h : pm_H}  (g0 : pm_at (pm_cd md) pc = some (.return_, nx, a, b)) (g1 : pm_ret md = none) (g2 : Q none h) : pm_W kp md C hb sb Q pc lv [] h := fun P R => R.2.2.2.2.2.2.2.2.2.2.2.2.2.2.2.2.2.2.2.2.2.2.2.2.2.2.2.2.2.2.2.2.2.2.2.2.2.2.2.2.2.2.2.2.2.2.2.1 pc nx a b lv h g0 g1 g2
theorem pq_gst {pc nx a b : Nat} {lv : pm_L} {st : List Value} {h : pm_H} {n : Nat} {v : Value} (g0 : pm_at (pm_cd md) pc = some (.getstatic n, nx, a, b)) (g1 : pm_gst a = some v) (g2 : pm_W kp md C hb sb Q nx lv (v :: st) h) : pm_W kp md C hb sb Q pc lv st h := fun P R => R.2.2.2.2.2.2.2.2.2.2.2.2.2.2.2.2.2.2.2.2.2.2.2.2.2.2.2.2.2.2.2.2.2.2.2.2.2.2.2.2.2.2.2.2.2.2.2.2.1 pc nx a b lv st h n v g0 g1 (g2 P R)
theorem pq_sub {pc nx a b : Nat} {lv : pm_L} {st : List Value} {h : pm_H} (ks : List Nat) {lv1 : pm_L} (g0 : pm_pck lv ks some = some lv1) (g1 : pm_W kp md C hb sb Q pc lv1 st h) : pm_W kp md C hb sb Q pc lv st h := fun P R => R.2.2.2.2.2.2.2.2.2.2.2.2.2.2.2.2.2.2.2.2.2.2.2.2.2.2.2.2.2.2.2.2.2.2.2.2.2.2.2.2.2.2.2.2.2.2.2.2.2 pc nx a b lv st h ks lv1 g0 (g1 P R)
end PQ
/-- method k, called with these, over that heap: answers r, the heap is h1 then; calls stand at most d deep -/
def pm_X (kp : pm_K) : Nat → pm_C
  | 0 => fun _ _ _ _ _ => False
  | d + 1 => fun k as h r h1 => ∃ md, pt_M[k]? = some md ∧ pm_W kp md (pm_X kp d) h1.length (pm_sl h1) (fun r2 h2 => r2 = r ∧ h2 = h1) 0 (lv_args 0 as) [] h
theorem pm_Xi {kp : pm_K} {d k : Nat} {as : List Value} {h h1 : pm_H} {r : Option Value} (md : pm_M) (lv : pm_L) (g : pt_M[k]? = some md) (e : lv_args 0 as = lv)
    (w : pm_W kp md (pm_X kp d) h1.length (pm_sl h1) (fun r2 h2 => r2 = r ∧ h2 = h1) 0 lv [] h) : pm_X kp (d + 1) k as h r h1 := ⟨md, g, by rw [e]; exact w⟩
end
section
/-! SOUNDNESS: what the pure machine does, the machine does -/
def ps_ad (base : Nat) (adk : Nat → Nat) (k : Nat) : Nat := if k < 1000000 then base + k else adk k
def ps_cv (ad : Nat → Nat) (nf : Value) : Value → Value
  | .ref a => .ref (ad a)
  | .retAddr _ => nf
  | v => v
def ps_ca (ad : Nat → Nat) : vp_A → vp_A
  | (n, .inr (.inr (.inr (.inr f)))) => (n, .inr (.inr (.inr (.inr (fun j => (f j).map ad)))))
  | (n, .inr (.inr (.inr (.inl f)))) => (n, .inr (.inr (.inr (.inl f))))
  | (n, .inr (.inr (.inl f))) => (n, .inr (.inr (.inl f)))
  | (n, .inr (.inl f)) => (n, .inr (.inl f))
  | (n, .inl f) => (n, .inl f)
def ps_ce (dA : Nat → ClassId) (ad : Nat → Nat) (nf : Value) : va_E → va_E
  | .inl x => .inl (dA x.1, ps_ca ad x.2)
  | .inr x => .inr (x.1, x.2.map (ps_cv ad nf))
def ps_cw (dA : Nat → ClassId) (ad : Nat → Nat) (nf : Value) (h : pm_H) : va_W := h.mapIdx (fun k c => (ad k, ps_ce dA ad nf c))
def ps_tys (dA : Nat → ClassId) : List (ClassId × FieldType) := [(dA 0, .int), (dA 1, .long), (dA 2, .byte), (dA 3, .boolean), (dA 4, .object "TurnField$Position"), (dA 5, .array .long)]
theorem ps_cw_at {dA : Nat → ClassId} {ad : Nat → Nat} {nf : Value} {h : pm_H} {o : Nat} {c : va_E} (g : h[o]? = some c) : (ps_cw dA ad nf h)[o]? = some (ad o, ps_ce dA ad nf c) := by
  unfold ps_cw
  rw [List.getElem?_mapIdx, g]
  rfl
theorem ps_cw_len {dA : Nat → ClassId} {ad : Nat → Nat} {nf : Value} {h : pm_H} : (ps_cw dA ad nf h).length = h.length := by
  unfold ps_cw
  rw [List.length_mapIdx]
theorem ps_cw_set {dA : Nat → ClassId} {ad : Nat → Nat} {nf : Value} {h : pm_H} {o : Nat} {c : va_E} : ps_cw dA ad nf (h.set o c) = (ps_cw dA ad nf h).set o (ad o, ps_ce dA ad nf c) := by
  unfold ps_cw
  apply List.ext_getElem?
  intro k
  by_cases e : o = k
  · subst e
    by_cases hl : o < h.length
    · rw [List.getElem?_mapIdx, List.getElem?_set_self hl, List.getElem?_set_self (by rw [List.length_mapIdx]; exact hl)]
      rfl
    · rw [List.getElem?_mapIdx, List.getElem?_eq_none (by rw [List.length_set]; omega), List.getElem?_eq_none (by rw [List.length_set, List.length_mapIdx]; omega)]
      rfl
  · rw [List.getElem?_mapIdx, List.getElem?_set_ne e, List.getElem?_set_ne e, List.getElem?_mapIdx]
theorem ps_cw_app {dA : Nat → ClassId} {ad : Nat → Nat} {nf : Value} {h : pm_H} {c : va_E} : ps_cw dA ad nf (h ++ [c]) = ps_cw dA ad nf h ++ [(ad h.length, ps_ce dA ad nf c)] := by
  unfold ps_cw
  rw [List.mapIdx_append]
  simp
theorem ps_sl_set {h : pm_H} {o : Nat} {c c1 : va_E} (g : h[o]? = some c) (e : pm_sz c1 = pm_sz c) : pm_sl (h.set o c1) = pm_sl h := by
  induction h generalizing o with
  | nil => simp at g
  | cons x r ih =>
    cases o with
    | zero =>
      simp at g
      subst g
      simp [pm_sl, e]
    | succ o =>
      simp at g
      simp [pm_sl, ih g]
theorem ps_sl_app (h g : pm_H) : pm_sl (h ++ g) = pm_sl h + pm_sl g := by
  induction h with
  | nil => simp [pm_sl]
  | cons x r ih => simp [pm_sl, ih]; omega
theorem ps_flt_eq (p : Nat × Value → Bool) : ∀ (l : pm_L) (c : pm_L → Option pm_L), pm_flt p l c = c (l.filter p)
  | [], c => rfl
  | q :: r, c => by
    unfold pm_flt
    cases hp : p q with
    | true => simp [hp, ps_flt_eq p r]
    | false => simp [hp, ps_flt_eq p r]
theorem ps_pck_in (l : pm_L) : ∀ (ks : List Nat) (c : pm_L → Option pm_L) (l1 : pm_L), pm_pck l ks c = some l1 → ∃ t, c t = some l1 ∧ ∀ q ∈ t, q ∈ l
  | [], c, l1, h => ⟨[], h, fun _ z => absurd z List.not_mem_nil⟩
  | k :: ks, c, l1, h => by
    unfold pm_pck at h
    cases hk : l[k]? with
    | none => rw [hk] at h; cases h
    | some q =>
      rw [hk] at h
      obtain ⟨t, h1, h2⟩ := ps_pck_in l ks _ l1 h
      refine ⟨q :: t, h1, fun x hx => ?_⟩
      rcases List.mem_cons.mp hx with e | e
      · rw [e]; exact List.mem_of_getElem? hk
      · exact h2 x e
theorem ps_set_eq : ∀ (fs : List Value) (k : Nat) (v : Value) (c : List Value → Option (List Value)) (fs1 : List Value), pm_setc fs k v c = some fs1 → k < fs.length ∧ c (fs.set k v) = some fs1
  | [], k, v, c, fs1, h => by cases k <;> cases h
  | q :: r, 0, v, c, fs1, h => ⟨by simp, h⟩
  | q :: r, k + 1, v, c, fs1, h => by
    obtain ⟨h1, h2⟩ := ps_set_eq r k v _ fs1 h
    exact ⟨by simp; omega, h2⟩
theorem ps_spl_eq : ∀ (n : Nat) (st acc as rest : List Value), pm_spl n st acc = some (as, rest) → ∃ t, as = t ++ acc ∧ st = t.reverse ++ rest ∧ t.length = n
  | 0, st, acc, as, rest, h => by cases h; exact ⟨[], rfl, rfl, rfl⟩
  | n + 1, [], acc, as, rest, h => by cases h
  | n + 1, v :: st, acc, as, rest, h => by
    obtain ⟨t, h1, h2, h3⟩ := ps_spl_eq n st (v :: acc) as rest h
    exact ⟨t ++ [v], by rw [h1]; simp, by rw [h2]; simp, by simp [h3]⟩
theorem ps_cat_eq (l : List Value) : pm_cat l = (l.map fun v => v.category).sum := by
  induction l with
  | nil => rfl
  | cons v r ih => simp [pm_cat, ih]
/-! THE TABLE IS THE CODE: what is checked by computing -/
noncomputable def ps_T : List Jvm.Cond := lw_tbl.filter goodWord
noncomputable def ps_w (p : Nat) (w : Jvm.Cond) : Bool := decide (lw_tbl[p]? = some w) && goodWord w
theorem ps_w_in {p : Nat} {w : Jvm.Cond} (h : ps_w p w = true) : w ∈ ps_T := by
  unfold ps_w at h
  obtain ⟨h1, h2⟩ := Bool.and_eq_true_iff.mp h
  exact List.mem_filter.mpr ⟨List.mem_of_getElem? (of_decide_eq_true h1), h2⟩
def ps_len : Instr → Nat
  | .bipush _ => 2
  | .ldc _ => 2
  | .iload _ => 2
  | .lload _ => 2
  | .aload _ => 2
  | .istore _ => 2
  | .lstore _ => 2
  | .astore _ => 2
  | .newarray _ => 2
  | .sipush _ => 3
  | .ldc_w _ => 3
  | .ldc2_w _ => 3
  | .iinc _ _ => 3
  | .goto _ => 3
  | .ifCond _ _ => 3
  | .if_icmp _ _ => 3
  | .getfield _ => 3
  | .putfield _ => 3
  | .getstatic _ => 3
  | .invokevirtual _ => 3
  | .invokestatic _ => 3
  | .invokespecial _ => 3
  | .new _ => 3
  | .anewarray _ => 3
  | .multianewarray _ _ => 4
  | _ => 1
def ps_sw : Instr → Bool
  | .tableswitch _ _ _ _ => true
  | .lookupswitch _ _ => true
  | _ => false
def ps_aty (a : Nat) : FieldType := match a with
  | 0 => .int
  | 1 => .long
  | 2 => .byte
  | 3 => .boolean
  | _ => .float
/-- where String constants are named: class, entry, text, which -/
def ps_sr : List (String × Nat × String × Nat) := [("TurnField$Tape", 91, "up", 1000010), ("TurnField$Tape", 95, "exact", 1000011), ("TurnField$Tape", 97, "ruler", 1000012), ("TurnField$Tape", 99, "near", 1000013), ("TurnField$Tape", 69, "heads", 1000014), ("TurnFieldModel", 364, "up", 1000010), ("TurnFieldModel", 370, "exact", 1000011), ("TurnFieldModel", 372, "ruler", 1000012), ("TurnFieldModel", 374, "near", 1000013), ("TurnFieldModel", 388, "heads", 1000014)]
/-- links to private constructors of nest mates -/
def ps_nst : List Jvm.Cond := [Jvm.Cond.methodLinkNest "TurnField" 9 ⟨"TurnField$Position", "<init>", "()V"⟩ "TurnField", Jvm.Cond.methodLinkNest "TurnField$Past" 22 ⟨"TurnField$Position", "<init>", "()V"⟩ "TurnField", Jvm.Cond.methodLinkNest "TurnField" 29 ⟨"TurnField$Tape", "<init>", "()V"⟩ "TurnField", Jvm.Cond.methodLinkNest "TurnField$Tape" 15 ⟨"TurnField$Position", "<init>", "()V"⟩ "TurnField", Jvm.Cond.methodLinkNest "TurnField" 36 ⟨"TurnField$Play", "<init>", "()V"⟩ "TurnField", Jvm.Cond.methodLinkNest "TurnField$Play" 9 ⟨"TurnField$Rule", "<init>", "()V"⟩ "TurnField", Jvm.Cond.methodLinkNest "TurnField" 43 ⟨"TurnField$Lengths", "<init>", "()V"⟩ "TurnField", Jvm.Cond.methodLinkNest "TurnField" 50 ⟨"TurnField$Span", "<init>", "()V"⟩ "TurnField", Jvm.Cond.methodLinkNest "TurnField" 57 ⟨"TurnField$Steps", "<init>", "()V"⟩ "TurnField", Jvm.Cond.methodLinkNest "TurnField" 64 ⟨"TurnField$Polynomials", "<init>", "()V"⟩ "TurnField", Jvm.Cond.methodLinkNest "TurnField" 71 ⟨"TurnField$Curve", "<init>", "()V"⟩ "TurnField"]
def ps_npar (y : MethodName) : Option Nat := (parseMethodDescriptor y.desc).map (fun d => d.parameters.length)
/-- the words of a method itself: kind, code, class initialised, static or instance, selects -/
noncomputable def ps_mok (m2 : pm_M) : Bool := match m2.2.2.2.2.2.1 with
  | [k, p1, p2, p3, p4] => ps_w p1 (.code m2.1 m2.2.1 m2.2.2.1 (pm_ret m2)) && ps_w p2 (.initialized m2.1.cls) && decide (m2.1.cls ≠ "java/lang/invoke/MethodHandle" ∧ m2.1.cls ≠ "java/lang/invoke/VarHandle") && plainName m2.1.cls && Nat.ble m2.2.2.1 40 &&
      (bif Nat.beq k 1 then ps_w p3 (.static m2.1) else bif Nat.beq k 2 then ps_w p3 (.instanceMethod m2.1) && decide (m2.1.name = "<init>") && decide (pm_ret m2 = none) else ps_w p3 (.instanceMethod m2.1) && ps_w p4 (.selects m2.1.cls m2.1 m2.1))
  | _ => false
noncomputable def ps_wok (md : pm_M) (q : pm_I) : Bool := match q with
  | (pc, i, nx, a, b, p) => match i with
    | .getfield n => bif Nat.beq a 100 then bif Nat.beq b 0 then ps_w p (.fieldLink md.1.cls n "java/lang/String" "value" "[B") else ps_w p (.fieldLink md.1.cls n "java/lang/String" "coder" "B") else match pt_cl[a]? with
      | some (C, T, N) => Nat.ble (b + 1) N && ps_w p (.fieldLink md.1.cls n (T b).1 (T b).2.1 (T b).2.2.1)
      | none => false
    | .putfield n => match pt_cl[a]? with
      | some (C, T, N) => Nat.ble (b + 1) N && ps_w p (.fieldLink md.1.cls n (T b).1 (T b).2.1 (T b).2.2.1)
      | none => false
    | .getstatic n => match a with
      | 0 => ps_w p (.fieldLink md.1.cls n "TurnField$Numbers" "LOW" "[J")
      | 1 => ps_w p (.fieldLink md.1.cls n "TurnField$Numbers" "PRIMES" "[J")
      | 2 => ps_w p (.fieldLink md.1.cls n "java/lang/String" "COMPACT_STRINGS" "Z")
      | 3 => ps_w p (.fieldLink md.1.cls n "jdk/internal/util/Preconditions" "SIOOBE_FORMATTER" "Ljava/util/function/BiFunction;")
      | _ => true
    | .invokestatic n => bif Nat.beq a 1001 then ps_w p (.methodLink md.1.cls n Lib.Math.max.name) else bif Nat.beq a 1002 then ps_w p (.methodLink md.1.cls n Lib.Math.min.name) else match pt_M[a]? with
      | some m2 => ps_w p (.methodLink md.1.cls n m2.1) && decide (ps_npar m2.1 = some b)
      | none => true
    | .invokevirtual n => match pt_M[a]? with
      | some m2 => ps_w p (.methodLink md.1.cls n m2.1) && decide (ps_npar m2.1 = some (b - 1))
      | none => true
    | .invokespecial n => bif Nat.beq a 1000 then ps_w p (.methodLink md.1.cls n Lib.objectInit) else match pt_M[a]? with
      | some m2 => (ps_w p (.methodLink md.1.cls n m2.1) || ps_nst.any (fun w => decide (w = Jvm.Cond.methodLinkNest md.1.cls n m2.1 "TurnField"))) && decide (ps_npar m2.1 = some (b - 1))
      | none => true
    | .new n => match pt_cl[a]? with
      | some (C, T, N) => ps_w p (.classLink md.1.cls n C)
      | none => true
    | .newarray ty => Nat.ble a 3 && decide (newarray.typeOf ty = ps_aty a)
    | .anewarray n => ps_w p (.classLink md.1.cls n "TurnField$Position")
    | .multianewarray n _ => ps_w p (.classLink md.1.cls n "[[J")
    | .ldc n => match pt_ldc[a]? with
      | some (.int v) => ps_w p (.constant md.1.cls n v)
      | some (.ref k) => ps_sr.any (fun r => r.1 == md.1.cls && Nat.beq r.2.1 n && Nat.beq r.2.2.2 k)
      | some _ => false
      | none => true
    | .ldc_w n => match pt_ldc[a]? with
      | some (.int v) => ps_w p (.constant md.1.cls n v)
      | some (.ref k) => ps_sr.any (fun r => r.1 == md.1.cls && Nat.beq r.2.1 n && Nat.beq r.2.2.2 k)
      | some _ => false
      | none => true
    | .ldc2_w n => match pt_ldc[a]? with
      | some (.long v) => ps_w p (.constantLong md.1.cls n v)
      | some _ => false
      | none => true
    | .istore k => Nat.ble (k + 1) md.2.2.1
    | .istore_n k => Nat.ble ((k : Nat) + 1) md.2.2.1
    | .astore k => Nat.ble (k + 1) md.2.2.1
    | .astore_n k => Nat.ble ((k : Nat) + 1) md.2.2.1
    | .lstore k => Nat.ble (k + 2) md.2.2.1
    | .lstore_n k => Nat.ble ((k : Nat) + 2) md.2.2.1
    | .iinc k _ => Nat.ble (k + 1) md.2.2.1
    | .goto o => decide ((pc : Int) + o = (a : Int))
    | .ifCond _ o => decide ((pc : Int) + o = (a : Int))
    | .if_icmp _ o => decide ((pc : Int) + o = (a : Int))
    | _ => true
noncomputable def ps_dok (md : pm_M) (q : pm_I) : Bool := decide (decode md.2.1 q.1 = .ok (q.2.1, q.2.2.1 - q.1)) && (ps_sw q.2.1 || Nat.beq q.2.2.1 (q.1 + ps_len q.2.1))
noncomputable def ps_ok (md : pm_M) : Bool := (pm_cd md).all (fun q => ps_dok md q && ps_wok md q)
theorem ps_at_mem : ∀ (cd : List pm_I) (pc : Nat) (x : Instr × Nat × Nat × Nat), pm_at cd pc = some x → ∃ pp, (pc, x.1, x.2.1, x.2.2.1, x.2.2.2, pp) ∈ cd
  | [], pc, x, h => by cases h
  | (k, i, nx, a, b, q) :: r, pc, x, h => by
    unfold pm_at at h
    cases hk : Nat.beq k pc with
    | true =>
      rw [hk] at h
      cases h
      have e : k = pc := Nat.eq_of_beq_eq_true hk
      subst e
      exact ⟨q, List.mem_cons_self⟩
    | false =>
      rw [hk] at h
      obtain ⟨pp, h1⟩ := ps_at_mem r pc x h
      exact ⟨pp, List.mem_cons_of_mem _ h1⟩
theorem ps_at1 {md : pm_M} {pc nx a b : Nat} {i : Instr} (hok : ps_ok md = true) (g : pm_at (pm_cd md) pc = some (i, nx, a, b)) :
    ∃ pp, decode md.2.1 pc = .ok (i, nx - pc) ∧ (ps_sw i = true ∨ nx = pc + ps_len i) ∧ ps_wok md (pc, i, nx, a, b, pp) = true := by
  obtain ⟨pp, hm⟩ := ps_at_mem _ _ _ g
  have h := List.all_eq_true.mp hok _ hm
  obtain ⟨h1, h2⟩ := Bool.and_eq_true_iff.mp h
  obtain ⟨h3, h4⟩ := Bool.and_eq_true_iff.mp h1
  refine ⟨pp, of_decide_eq_true h3, ?_, h2⟩
  rcases Bool.or_eq_true_iff.mp h4 with q | q
  · exact Or.inl q
  · exact Or.inr (Nat.eq_of_beq_eq_true q)
/-- of all but the switches -/
theorem ps_at2 {md : pm_M} {pc nx a b : Nat} {i : Instr} (hok : ps_ok md = true) (g : pm_at (pm_cd md) pc = some (i, nx, a, b)) (hs : ps_sw i = false) :
    ∃ pp, decode md.2.1 pc = .ok (i, ps_len i) ∧ nx = pc + ps_len i ∧ ps_wok md (pc, i, nx, a, b, pp) = true := by
  obtain ⟨pp, h1, h2, h3⟩ := ps_at1 hok g
  rcases h2 with q | q
  · rw [hs] at q; cases q
  · refine ⟨pp, ?_, q, h3⟩
    rw [h1, q, Nat.add_sub_cancel_left]
end
section
noncomputable def ps_own (md : pm_M) : Prop := (ps_ok md && ps_mok md) = true ∨ (md.2.2.2.2.2.1 = [] ∧ ps_ok md = true)
theorem ps_all : ∀ md ∈ pt_M, ps_own md := sorry
end
section
/-! what the machine's states hold of a pure state -/
def ps_sws (A : Nat → Prop) (adk : Nat → Nat) (U : State) : Prop := ∀ r ∈ ps_sr, vk_R r.1 r.2.1 r.2.2.1 (adk r.2.2.2) U
def ps_AOA (U : State) : Prop := (Jvm.Cond.arrayOver (.array .long)).before #[] U = true
/-- given things: the script, tables, String constants, links to nest mates -/
def ps_KC (adk : Nat → Nat) (nf : Value) (kp : pm_K) (A : Nat → Prop) (U : State) (H : Heap) : Prop :=
  va_T .int (adk 1000000) kp.1 (fun j => .int (kp.2 j)) A U H ∧
  va_T .long (adk 1000001) 6 (fun j => .long (pm_low.getD j 0)) A U H ∧
  va_T .long (adk 1000002) 7 (fun j => .long (pm_prm.getD j 0)) A U H ∧
  va_Z "TurnField$Numbers" "LOW" "[J" (.ref (adk 1000001)) A U H ∧
  va_Z "TurnField$Numbers" "PRIMES" "[J" (.ref (adk 1000002)) A U H ∧
  va_Z "java/lang/String" "COMPACT_STRINGS" "Z" (.int 1) A U H ∧
  va_Z "jdk/internal/util/Preconditions" "SIOOBE_FORMATTER" "Ljava/util/function/BiFunction;" nf A U H ∧
  vk_S 5 [2, 5, 5, 4, 5] pm_wds (fun i => adk (1000010 + i)) (fun i => adk (1000030 + i)) A U H ∧
  ps_sws A adk U ∧ (∀ w ∈ ps_nst, va_Nw w U) ∧ va_AO "TurnField$Position" U ∧ ps_AOA U
theorem ps_AOA.moved {u U : State} (hvm : u.vm.Alike U.vm) (h : ps_AOA u) : ps_AOA U := by
  sorry
theorem ps_KC.go {adk : Nat → Nat} {nf : Value} {kp : pm_K} {A : Nat → Prop} {s U : State} {H H1 : Heap} (hW : s.WarmedH U.vm) (hq : ∀ a : Nat, a < H.size → ¬ A a → H1[a]? = H[a]?) (h : ps_KC adk nf kp A s H) : ps_KC adk nf kp A U H1 := by
  obtain ⟨h1, h2, h3, h4, h5, h6, h7, h8, h9, h10, h11, h12⟩ := h
  have hv := hW.alike
  refine ⟨(h1.moved hv).kept hq, (h2.moved hv).kept hq, (h3.moved hv).kept hq, (h4.moved hv).kept hq, (h5.moved hv).kept hq, (h6.moved hv).kept hq, (h7.moved hv).kept hq, (h8.moved hv).kept hq, fun r hr => (h9 r hr).warm hW, fun w hw => ?_, h11.moved hv, h12.moved hv⟩
  have h := h10 w hw
  simp only [ps_nst, List.mem_cons, List.not_mem_nil, or_false] at hw
  rcases hw with rfl | rfl | rfl | rfl | rfl | rfl | rfl | rfl | rfl | rfl | rfl <;> exact va_Nw.warmM hW h
section PSV
variable {p : Program} {l : Launch} {e : Env} {R : Room} {s : State} {m : MethodId} {args : Array Value} {below : List Frame} {meth : Method} {c : Code} {QQ : State → Prop} {md : pm_M} {kp : pm_K} {base : Nat} {adk : Nat → Nat} {nf : Value} {D : va_G} {dA : Nat → ClassId} {hb sb h0 s0 : Nat} {C : pm_C} {Q : Option Value → pm_H → Prop}
/-- what stays through a method's run -/
def ps_E (p : Program) (R : Room) (s : State) (m : MethodId) (args : Array Value) (meth : Method) (c : Code) (md : pm_M) (kp : pm_K) (base : Nat) (adk : Nat → Nat) (nf : Value) (D : va_G) (dA : Nat → ClassId) (hb sb h0 s0 : Nat) : Prop :=
  p.tables.exec = Jvm.exec ∧ c.code = md.2.1 ∧ meth.sig.returnType = pm_ret md ∧ c.maxLocals = md.2.2.1 ∧ s.vm.findClass md.1.cls = some m.cls ∧ (∀ w ∈ ps_T, w.before args s = true) ∧ meth.locks = false ∧ meth.name = md.1.name ∧
  va_K D pt_cl (ps_tys dA) s ∧ ps_KC adk nf kp (fun q => base ≤ q) s s.heap ∧ base ≤ s.heap.size ∧ nf.category = 1 ∧ hb ≤ R.cells + h0 ∧ sb ≤ R.slots + s0 ∧ hb ≤ 100000 ∧ ps_ok md = true ∧ 1 ≤ R.frames ∧ 30 ≤ R.locals
/-- what the machine's state holds of the pure one -/
def ps_In (s : State) (md : pm_M) (base : Nat) (adk : Nat → Nat) (nf : Value) (D : va_G) (dA : Nat → ClassId) (hb sb h0 s0 : Nat) (lv : pm_L) (h : pm_H) (H : Heap) (locs : List Loc) (cells slots : Nat) (ls : Array Slot) : Prop :=
  lv_has ls md.2.2.1 (lv.map (fun q => (q.1, ps_cv (ps_ad base adk) nf q.2))) ∧ va_P D pt_cl (ps_cw dA (ps_ad base adk) nf h) H ∧ va_S (fun q => base ≤ q) s.heap H locs ∧ H.size = base + h.length ∧ h.length ≤ hb ∧ pm_sl h ≤ sb ∧ cells + h0 ≤ h.length ∧ slots + s0 ≤ pm_sl h
def ps_PP (p : Program) (l : Launch) (e : Env) (R : Room) (s : State) (m : MethodId) (args : Array Value) (below : List Frame) (meth : Method) (c : Code) (QQ : State → Prop) (md : pm_M) (base : Nat) (adk : Nat → Nat) (nf : Value) (D : va_G) (dA : Nat → ClassId) (hb sb h0 s0 : Nat) : pm_P := fun pc lv st h =>
  ∀ (H : Heap) (locs : List Loc) (cells slots : Nat) (ls : Array Slot), ps_In s md base adk nf D dA hb sb h0 s0 lv h H locs cells slots ls → W p l e R s m args below meth c H locs cells slots QQ (F0 m pc ls (st.map (ps_cv (ps_ad base adk) nf)))
theorem ps_D {h : pm_H} {A : Nat → Prop} (hl : h.length ≤ 1000000) (hA : ∀ q, base ≤ q → A q) : va_D A (ps_cw dA (ps_ad base adk) nf h) := by
  have key : ∀ (k : Nat) (q : Nat × va_E), (ps_cw dA (ps_ad base adk) nf h)[k]? = some q → k < h.length ∧ q.1 = base + k := by
    intro k q hq
    unfold ps_cw at hq
    rw [List.getElem?_mapIdx] at hq
    cases hk : h[k]? with
    | none => rw [hk] at hq; cases hq
    | some x =>
      rw [hk] at hq
      cases hq
      have h1 := (List.getElem?_eq_some_iff.mp hk).1
      refine ⟨h1, ?_⟩
      unfold ps_ad
      exact if_pos (Nat.lt_of_lt_of_le h1 hl)
  refine ⟨fun i j x y hi hj hxy => ?_, fun k q hk => ?_⟩
  · have h1 := key i x hi
    have h2 := key j y hj
    omega
  · have h1 := key k q hk
    rw [h1.2]
    exact hA _ (by omega)
theorem ps_cv_cat (hnf : nf.category = 1) (ad : Nat → Nat) (v : Value) : (ps_cv ad nf v).category = v.category := by
  cases v <;> first | rfl | exact hnf
theorem ps_cats (hnf : nf.category = 1) (ad : Nat → Nat) (st : List Value) : ((st.map (ps_cv ad nf)).map fun v => v.category).sum = pm_cat st := by
  induction st with
  | nil => rfl
  | cons v r ih => simp only [List.map_cons, List.sum_cons, pm_cat, ih, ps_cv_cat hnf]
theorem ps_lvat {ls : Array Slot} {nL : Nat} {lv : pm_L} {ad : Nat → Nat} (h : lv_has ls nL (lv.map (fun q => (q.1, ps_cv ad nf q.2)))) {j k : Nat} {v : Value} (g : lv[j]? = some (k, v)) : ls[k]? = some (.val (ps_cv ad nf v)) :=
  lv_at h j (by rw [List.getElem?_map, g]; rfl)
theorem ps_beq (a b : Nat) : Nat.beq a b = (a == b) := by
  rw [Bool.eq_iff_iff]
  simp
theorem ps_filt (hnf : nf.category = 1) (ad : Nat → Nat) (lv : pm_L) (k : Nat) : (lv.filter (pm_k1 k)).map (fun q => (q.1, ps_cv ad nf q.2)) = (lv.map (fun q => (q.1, ps_cv ad nf q.2))).filter (fun q => !(q.1 == k) && !(q.1 + 1 == k && q.2.category == 2)) := by
  rw [List.filter_map]
  congr 1
  apply List.filter_congr
  intro q _
  simp only [pm_k1, Function.comp, ps_cv_cat hnf, ps_beq]
theorem ps_filt2 (hnf : nf.category = 1) (ad : Nat → Nat) (lv : pm_L) (k : Nat) : (lv.filter (pm_k2 k)).map (fun q => (q.1, ps_cv ad nf q.2)) = (lv.map (fun q => (q.1, ps_cv ad nf q.2))).filter (fun q => !(q.1 == k) && (!(q.1 == k + 1) && !(q.1 + 1 == k && q.2.category == 2))) := by
  rw [List.filter_map]
  congr 1
  apply List.filter_congr
  intro q _
  simp only [pm_k2, Function.comp, ps_cv_cat hnf, ps_beq]
theorem ps_cst (E : ps_E p R s m args meth c md kp base adk nf D dA hb sb h0 s0) : pr_cst kp md C hb sb Q (ps_PP p l e R s m args below meth c QQ md base adk nf D dA hb sb h0 s0) := by
  obtain ⟨hx, hbb, hr, hml, hown, hts, hlk, hnm, hK, hKC, hbs, hnf, hRc, hRs, hh, hok, hfr, hlo⟩ := E
  intro pc nx a b lv st h i v g0 g1 g2 H locs cells slots ls I
  unfold pm_cst at g1
  split at g1
  · obtain ⟨pp, hd, hn, -⟩ := ps_at2 hok g0 rfl
    cases g1
    subst hn
    exact lv_iconst hx hbb hd rfl (g2 H locs cells slots ls I)
  · obtain ⟨pp, hd, hn, -⟩ := ps_at2 hok g0 rfl
    cases g1
    subst hn
    exact lv_bipush hx hbb hd rfl (g2 H locs cells slots ls I)
  · obtain ⟨pp, hd, hn, -⟩ := ps_at2 hok g0 rfl
    cases g1
    subst hn
    exact lv_sipush hx hbb hd rfl (g2 H locs cells slots ls I)
  · obtain ⟨pp, hd, hn, -⟩ := ps_at2 hok g0 rfl
    cases g1
    subst hn
    exact lv_lconst hx hbb hd rfl (g2 H locs cells slots ls I)
  · cases g1
theorem ps_ld (E : ps_E p R s m args meth c md kp base adk nf D dA hb sb h0 s0) : pr_ld kp md C hb sb Q (ps_PP p l e R s m args below meth c QQ md base adk nf D dA hb sb h0 s0) := by
  obtain ⟨hx, hbb, hr, hml, hown, hts, hlk, hnm, hK, hKC, hbs, hnf, hRc, hRs, hh, hok, hfr, hlo⟩ := E
  intro pc nx a b lv st h i v k j g0 g1 g2 g3 H locs cells slots ls I
  have hl := ps_lvat I.1 g2
  unfold pm_ld at g1
  split at g1
  · obtain ⟨pp, hd, hn, -⟩ := ps_at2 hok g0 rfl
    cases g1
    subst hn
    exact lv_iload hx hbb hd hl (g3 H locs cells slots ls I)
  · obtain ⟨pp, hd, hn, -⟩ := ps_at2 hok g0 rfl
    cases g1
    subst hn
    exact lv_iload_n hx hbb hd rfl hl (g3 H locs cells slots ls I)
  · obtain ⟨pp, hd, hn, -⟩ := ps_at2 hok g0 rfl
    cases g1
    subst hn
    exact lv_lload hx hbb hd hl (g3 H locs cells slots ls I)
  · obtain ⟨pp, hd, hn, -⟩ := ps_at2 hok g0 rfl
    cases g1
    subst hn
    exact lv_lload_n hx hbb hd rfl hl (g3 H locs cells slots ls I)
  · obtain ⟨pp, hd, hn, -⟩ := ps_at2 hok g0 rfl
    cases g1
    subst hn
    exact lv_aload hx hbb hd hl (g3 H locs cells slots ls I)
  · obtain ⟨pp, hd, hn, -⟩ := ps_at2 hok g0 rfl
    cases g1
    subst hn
    exact lv_aload_n hx hbb hd rfl hl (g3 H locs cells slots ls I)
  · cases g1
theorem ps_sto1 (hnf : nf.category = 1) {k : Nat} {v : Value} {lv lv1 : pm_L} (g : pm_sto k v lv = some lv1) (ad : Nat → Nat) : (∃ x, v = .long x ∧ lv1.map (fun q => (q.1, ps_cv ad nf q.2)) = (k, Value.long x) :: (lv.map (fun q => (q.1, ps_cv ad nf q.2))).filter (fun q => !(q.1 == k) && (!(q.1 == k + 1) && !(q.1 + 1 == k && q.2.category == 2)))) ∨
    lv1.map (fun q => (q.1, ps_cv ad nf q.2)) = (k, ps_cv ad nf v) :: (lv.map (fun q => (q.1, ps_cv ad nf q.2))).filter (fun q => !(q.1 == k) && !(q.1 + 1 == k && q.2.category == 2)) := by
  unfold pm_sto at g
  split at g
  · rw [ps_flt_eq] at g
    cases g
    refine Or.inl ⟨_, rfl, ?_⟩
    rw [List.map_cons, ps_filt2 hnf]
    rfl
  · rw [ps_flt_eq] at g
    cases g
    refine Or.inr ?_
    rw [List.map_cons, ps_filt hnf]
  · rw [ps_flt_eq] at g
    cases g
    refine Or.inr ?_
    rw [List.map_cons, ps_filt hnf]
  · cases g
theorem ps_stoi (hnf : nf.category = 1) {k : Nat} {v : Value} {lv lv1 : pm_L} (g : pm_sto k v lv = some lv1) (hv : ∀ x, ¬ v = .long x) (ad : Nat → Nat) : (k, ps_cv ad nf v) :: (lv.map (fun q => (q.1, ps_cv ad nf q.2))).filter (fun q => !(q.1 == k) && !(q.1 + 1 == k && q.2.category == 2)) = lv1.map (fun q => (q.1, ps_cv ad nf q.2)) := by
  rcases ps_sto1 hnf g ad with ⟨x, h, -⟩ | h
  · exact absurd h (hv x)
  · exact h.symm
theorem ps_stol (hnf : nf.category = 1) {k : Nat} {x : Int64} {lv lv1 : pm_L} (g : pm_sto k (.long x) lv = some lv1) (ad : Nat → Nat) : (k, Value.long x) :: (lv.map (fun q => (q.1, ps_cv ad nf q.2))).filter (fun q => !(q.1 == k) && (!(q.1 == k + 1) && !(q.1 + 1 == k && q.2.category == 2))) = lv1.map (fun q => (q.1, ps_cv ad nf q.2)) := by
  unfold pm_sto at g
  dsimp only at g
  rw [ps_flt_eq] at g
  cases g
  rw [List.map_cons, ps_filt2 hnf]
  rfl
theorem ps_sto (E : ps_E p R s m args meth c md kp base adk nf D dA hb sb h0 s0) : pr_sto kp md C hb sb Q (ps_PP p l e R s m args below meth c QQ md base adk nf D dA hb sb h0 s0) := by
  obtain ⟨hx, hbb, hr, hml, hown, hts, hlk, hnm, hK, hKC, hbs, hnf, hRc, hRs, hh, hok, hfr, hlo⟩ := E
  intro pc nx a b lv st h i v k lv1 g0 g1 g2 g3 H locs cells slots ls I
  obtain ⟨I1, I2⟩ := I
  unfold pm_st at g1
  split at g1
  · obtain ⟨pp, hd, hn, hw⟩ := ps_at2 hok g0 rfl
    cases g1
    subst hn
    exact lv_istore hx hbb hd I1 (Nat.le_of_ble_eq_true hw) (ps_stoi hnf g2 (fun x q => by cases q) _) (fun ls1 I3 => g3 H locs cells slots ls1 ⟨I3, I2⟩)
  · obtain ⟨pp, hd, hn, hw⟩ := ps_at2 hok g0 rfl
    cases g1
    subst hn
    exact lv_istore_n hx hbb hd rfl I1 (Nat.le_of_ble_eq_true hw) (ps_stoi hnf g2 (fun x q => by cases q) _) (fun ls1 I3 => g3 H locs cells slots ls1 ⟨I3, I2⟩)
  · obtain ⟨pp, hd, hn, hw⟩ := ps_at2 hok g0 rfl
    cases g1
    subst hn
    exact lv_lstore hx hbb hd I1 (Nat.le_of_ble_eq_true hw) (ps_stol hnf g2 _) (fun ls1 I3 => g3 H locs cells slots ls1 ⟨I3, I2⟩)
  · obtain ⟨pp, hd, hn, hw⟩ := ps_at2 hok g0 rfl
    cases g1
    subst hn
    exact lv_lstore_n hx hbb hd rfl I1 (Nat.le_of_ble_eq_true hw) (ps_stol hnf g2 _) (fun ls1 I3 => g3 H locs cells slots ls1 ⟨I3, I2⟩)
  · obtain ⟨pp, hd, hn, hw⟩ := ps_at2 hok g0 rfl
    cases g1
    subst hn
    exact lv_astore hx hbb hd I1 (Nat.le_of_ble_eq_true hw) (ps_stoi hnf g2 (fun x q => by cases q) _) (fun ls1 I3 => g3 H locs cells slots ls1 ⟨I3, I2⟩)
  · obtain ⟨pp, hd, hn, hw⟩ := ps_at2 hok g0 rfl
    cases g1
    subst hn
    exact lv_astore_n hx hbb hd rfl I1 (Nat.le_of_ble_eq_true hw) (ps_stoi hnf g2 (fun x q => by cases q) _) (fun ls1 I3 => g3 H locs cells slots ls1 ⟨I3, I2⟩)
  · cases g1
theorem ps_inc (E : ps_E p R s m args meth c md kp base adk nf D dA hb sb h0 s0) : pr_inc kp md C hb sb Q (ps_PP p l e R s m args below meth c QQ md base adk nf D dA hb sb h0 s0) := by
  obtain ⟨hx, hbb, hr, hml, hown, hts, hlk, hnm, hK, hKC, hbs, hnf, hRc, hRs, hh, hok, hfr, hlo⟩ := E
  intro pc nx a b lv st h k n x lv1 j g0 g1 g2 g3 H locs cells slots ls I
  obtain ⟨I1, I2⟩ := I
  obtain ⟨pp, hd, hn, hw⟩ := ps_at2 hok g0 rfl
  subst hn
  exact lv_iinc (k := j) hx hbb hd I1 (by rw [List.getElem?_map, g1]; rfl) rfl (Nat.le_of_ble_eq_true hw) (ps_stoi hnf g2 (fun x q => by cases q) _) (fun ls1 I3 => g3 H locs cells slots ls1 ⟨I3, I2⟩)
theorem ps_sub (E : ps_E p R s m args meth c md kp base adk nf D dA hb sb h0 s0) : pr_sub kp md C hb sb Q (ps_PP p l e R s m args below meth c QQ md base adk nf D dA hb sb h0 s0) := by
  intro pc nx a b lv st h ks lv1 g0 g1 H locs cells slots ls I
  obtain ⟨I1, I2⟩ := I
  obtain ⟨t, h1, h2⟩ := ps_pck_in lv ks some lv1 g0
  cases h1
  refine g1 H locs cells slots ls ⟨⟨I1.1, I1.2.1, fun q hq => ?_⟩, I2⟩
  obtain ⟨z, hz, rfl⟩ := List.mem_map.mp hq
  exact I1.2.2 _ (List.mem_map.mpr ⟨z, h2 z hz, rfl⟩)
theorem ps_bop (E : ps_E p R s m args meth c md kp base adk nf D dA hb sb h0 s0) : pr_bop kp md C hb sb Q (ps_PP p l e R s m args below meth c QQ md base adk nf D dA hb sb h0 s0) := by
  obtain ⟨hx, hbb, hr, hml, hown, hts, hlk, hnm, hK, hKC, hbs, hnf, hRc, hRs, hh, hok, hfr, hlo⟩ := E
  intro pc nx a b lv st h i v x y g0 g1 g2 H locs cells slots ls I
  unfold pm_bop at g1
  split at g1
  · obtain ⟨pp, hd, hn, -⟩ := ps_at2 hok g0 rfl
    cases g1
    subst hn
    exact lv_iadd hx hbb hd (g2 H locs cells slots ls I)
  · obtain ⟨pp, hd, hn, -⟩ := ps_at2 hok g0 rfl
    cases g1
    subst hn
    exact lv_isub hx hbb hd (g2 H locs cells slots ls I)
  · obtain ⟨pp, hd, hn, -⟩ := ps_at2 hok g0 rfl
    cases g1
    subst hn
    exact lv_imul hx hbb hd (g2 H locs cells slots ls I)
  · obtain ⟨pp, hd, hn, -⟩ := ps_at2 hok g0 rfl
    cases g1
    subst hn
    exact lv_iand hx hbb hd (g2 H locs cells slots ls I)
  · obtain ⟨pp, hd, hn, -⟩ := ps_at2 hok g0 rfl
    cases g1
    subst hn
    exact lv_ior hx hbb hd (g2 H locs cells slots ls I)
  · obtain ⟨pp, hd, hn, -⟩ := ps_at2 hok g0 rfl
    cases g1
    subst hn
    exact lv_ixor hx hbb hd (g2 H locs cells slots ls I)
  · obtain ⟨pp, hd, hn, -⟩ := ps_at2 hok g0 rfl
    cases g1
    subst hn
    exact lv_ishl hx hbb hd (g2 H locs cells slots ls I)
  · obtain ⟨pp, hd, hn, -⟩ := ps_at2 hok g0 rfl
    cases g1
    subst hn
    exact lv_ishr hx hbb hd (g2 H locs cells slots ls I)
  · obtain ⟨pp, hd, hn, -⟩ := ps_at2 hok g0 rfl
    cases g1
    subst hn
    exact lv_iushr hx hbb hd rfl (g2 H locs cells slots ls I)
  · obtain ⟨pp, hd, hn, -⟩ := ps_at2 hok g0 rfl
    cases g1
    subst hn
    exact lv_ladd hx hbb hd (g2 H locs cells slots ls I)
  · obtain ⟨pp, hd, hn, -⟩ := ps_at2 hok g0 rfl
    cases g1
    subst hn
    exact lv_lsub hx hbb hd (g2 H locs cells slots ls I)
  · obtain ⟨pp, hd, hn, -⟩ := ps_at2 hok g0 rfl
    cases g1
    subst hn
    exact lv_lmul hx hbb hd (g2 H locs cells slots ls I)
  · obtain ⟨pp, hd, hn, -⟩ := ps_at2 hok g0 rfl
    cases g1
    subst hn
    exact lv_land hx hbb hd (g2 H locs cells slots ls I)
  · obtain ⟨pp, hd, hn, -⟩ := ps_at2 hok g0 rfl
    cases g1
    subst hn
    exact lv_lor hx hbb hd (g2 H locs cells slots ls I)
  · obtain ⟨pp, hd, hn, -⟩ := ps_at2 hok g0 rfl
    cases g1
    subst hn
    exact lv_lxor hx hbb hd (g2 H locs cells slots ls I)
  · obtain ⟨pp, hd, hn, -⟩ := ps_at2 hok g0 rfl
    cases g1
    subst hn
    exact lv_lshl hx hbb hd rfl (g2 H locs cells slots ls I)
  · obtain ⟨pp, hd, hn, -⟩ := ps_at2 hok g0 rfl
    cases g1
    subst hn
    exact lv_lshr hx hbb hd rfl (g2 H locs cells slots ls I)
  · obtain ⟨pp, hd, hn, -⟩ := ps_at2 hok g0 rfl
    cases g1
    subst hn
    exact lv_lushr hx hbb hd rfl (g2 H locs cells slots ls I)
  · obtain ⟨pp, hd, hn, -⟩ := ps_at2 hok g0 rfl
    cases g1
    subst hn
    exact W.lcmp hx hbb hd (g2 H locs cells slots ls I)
  · cases g1
theorem ps_dop (E : ps_E p R s m args meth c md kp base adk nf D dA hb sb h0 s0) : pr_dop kp md C hb sb Q (ps_PP p l e R s m args below meth c QQ md base adk nf D dA hb sb h0 s0) := by
  obtain ⟨hx, hbb, hr, hml, hown, hts, hlk, hnm, hK, hKC, hbs, hnf, hRc, hRs, hh, hok, hfr, hlo⟩ := E
  intro pc nx a b lv st h i v x y cc g0 g1 g2 g3 H locs cells slots ls I
  unfold pm_dop at g1
  split at g1
  · obtain ⟨pp, hd, hn, -⟩ := ps_at2 hok g0 rfl
    cases g1
    subst hn
    exact lv_idiv hx hbb hd g2 (g3 H locs cells slots ls I)
  · obtain ⟨pp, hd, hn, -⟩ := ps_at2 hok g0 rfl
    cases g1
    subst hn
    exact lv_irem hx hbb hd g2 (g3 H locs cells slots ls I)
  · obtain ⟨pp, hd, hn, -⟩ := ps_at2 hok g0 rfl
    cases g1
    subst hn
    exact lv_ldiv hx hbb hd g2 (g3 H locs cells slots ls I)
  · obtain ⟨pp, hd, hn, -⟩ := ps_at2 hok g0 rfl
    cases g1
    subst hn
    exact lv_lrem hx hbb hd g2 (g3 H locs cells slots ls I)
  · cases g1
theorem ps_uop (E : ps_E p R s m args meth c md kp base adk nf D dA hb sb h0 s0) : pr_uop kp md C hb sb Q (ps_PP p l e R s m args below meth c QQ md base adk nf D dA hb sb h0 s0) := by
  obtain ⟨hx, hbb, hr, hml, hown, hts, hlk, hnm, hK, hKC, hbs, hnf, hRc, hRs, hh, hok, hfr, hlo⟩ := E
  intro pc nx a b lv st h i v x g0 g1 g2 H locs cells slots ls I
  unfold pm_uop at g1
  split at g1
  · obtain ⟨pp, hd, hn, -⟩ := ps_at2 hok g0 rfl
    cases g1
    subst hn
    exact lv_ineg hx hbb hd (g2 H locs cells slots ls I)
  · obtain ⟨pp, hd, hn, -⟩ := ps_at2 hok g0 rfl
    cases g1
    subst hn
    exact lv_lneg hx hbb hd (g2 H locs cells slots ls I)
  · obtain ⟨pp, hd, hn, -⟩ := ps_at2 hok g0 rfl
    cases g1
    subst hn
    exact lv_i2l hx hbb hd rfl (g2 H locs cells slots ls I)
  · obtain ⟨pp, hd, hn, -⟩ := ps_at2 hok g0 rfl
    cases g1
    subst hn
    exact lv_l2i hx hbb hd rfl (g2 H locs cells slots ls I)
  · obtain ⟨pp, hd, hn, -⟩ := ps_at2 hok g0 rfl
    cases g1
    subst hn
    exact lv_i2b hx hbb hd rfl (g2 H locs cells slots ls I)
  · obtain ⟨pp, hd, hn, -⟩ := ps_at2 hok g0 rfl
    cases g1
    subst hn
    exact lv_i2c hx hbb hd rfl (g2 H locs cells slots ls I)
  · cases g1
theorem ps_sop (E : ps_E p R s m args meth c md kp base adk nf D dA hb sb h0 s0) : pr_sop kp md C hb sb Q (ps_PP p l e R s m args below meth c QQ md base adk nf D dA hb sb h0 s0) := by
  obtain ⟨hx, hbb, hr, hml, hown, hts, hlk, hnm, hK, hKC, hbs, hnf, hRc, hRs, hh, hok, hfr, hlo⟩ := E
  intro pc nx a b lv st h i st1 g0 g1 g2 H locs cells slots ls I
  unfold pm_sop at g1
  split at g1
  · obtain ⟨pp, hd, hn, -⟩ := ps_at2 hok g0 rfl
    subst hn
    rename_i v r
    cases hc : Nat.beq v.category 1 with
    | false => rw [hc] at g1; cases g1
    | true =>
      rw [hc] at g1
      cases g1
      exact lv_dup hx hbb hd (by rw [ps_cv_cat hnf]; exact Nat.eq_of_beq_eq_true hc) (g2 H locs cells slots ls I)
  · obtain ⟨pp, hd, hn, -⟩ := ps_at2 hok g0 rfl
    subst hn
    rename_i v r
    cases hc : Nat.beq v.category 1 with
    | false => rw [hc] at g1; cases g1
    | true =>
      rw [hc] at g1
      cases g1
      exact lv_pop hx hbb hd (by rw [ps_cv_cat hnf]; exact Nat.eq_of_beq_eq_true hc) (g2 H locs cells slots ls I)
  · obtain ⟨pp, hd, hn, -⟩ := ps_at2 hok g0 rfl
    subst hn
    rename_i v r
    cases hc : Nat.beq v.category 2 with
    | true =>
      rw [hc] at g1
      cases g1
      exact lv_dup2_2 hx hbb hd (by rw [ps_cv_cat hnf]; exact Nat.eq_of_beq_eq_true hc) (g2 H locs cells slots ls I)
    | false =>
      rw [hc] at g1
      cases r with
      | nil => cases g1
      | cons w r =>
        dsimp only [cond_false] at g1
        cases hd1 : (Nat.beq v.category 1 && Nat.beq w.category 1) with
        | false => rw [hd1] at g1; cases g1
        | true =>
          rw [hd1] at g1
          cases g1
          obtain ⟨q1, q2⟩ := Bool.and_eq_true_iff.mp hd1
          exact lv_dup2_11 hx hbb hd (by rw [ps_cv_cat hnf]; exact Nat.eq_of_beq_eq_true q1) (by rw [ps_cv_cat hnf]; exact Nat.eq_of_beq_eq_true q2) (g2 H locs cells slots ls I)
  · cases g1
theorem ps_goto (E : ps_E p R s m args meth c md kp base adk nf D dA hb sb h0 s0) : pr_goto kp md C hb sb Q (ps_PP p l e R s m args below meth c QQ md base adk nf D dA hb sb h0 s0) := by
  obtain ⟨hx, hbb, hr, hml, hown, hts, hlk, hnm, hK, hKC, hbs, hnf, hRc, hRs, hh, hok, hfr, hlo⟩ := E
  intro pc nx a b lv st h n g0 g1 H locs cells slots ls I
  obtain ⟨pp, hd, hn, hw⟩ := ps_at2 hok g0 rfl
  exact lv_goto hx hbb hd (of_decide_eq_true hw) (g1 H locs cells slots ls I)
theorem ps_ifc (E : ps_E p R s m args meth c md kp base adk nf D dA hb sb h0 s0) : pr_ifc kp md C hb sb Q (ps_PP p l e R s m args below meth c QQ md base adk nf D dA hb sb h0 s0) := by
  obtain ⟨hx, hbb, hr, hml, hown, hts, hlk, hnm, hK, hKC, hbs, hnf, hRc, hRs, hh, hok, hfr, hlo⟩ := E
  intro pc nx a b lv st h cc n x g0 g1 g2 H locs cells slots ls I
  cases cc
  · obtain ⟨pp, hd, hn, hw⟩ := ps_at2 hok g0 rfl
    subst hn
    exact lv_if_eq hx hbb hd (of_decide_eq_true hw) (fun q => g1 q H locs cells slots ls I) (fun q => g2 q H locs cells slots ls I)
  · obtain ⟨pp, hd, hn, hw⟩ := ps_at2 hok g0 rfl
    subst hn
    exact lv_if_ne hx hbb hd (of_decide_eq_true hw) (fun q => g1 q H locs cells slots ls I) (fun q => g2 (fun z => z q) H locs cells slots ls I)
  · obtain ⟨pp, hd, hn, hw⟩ := ps_at2 hok g0 rfl
    subst hn
    exact lv_if_lt hx hbb hd (of_decide_eq_true hw) (fun q => g1 q H locs cells slots ls I) (fun q => g2 q H locs cells slots ls I)
  · obtain ⟨pp, hd, hn, hw⟩ := ps_at2 hok g0 rfl
    subst hn
    exact lv_if_ge hx hbb hd (of_decide_eq_true hw) (fun q => g1 q H locs cells slots ls I) (fun q => g2 q H locs cells slots ls I)
  · obtain ⟨pp, hd, hn, hw⟩ := ps_at2 hok g0 rfl
    subst hn
    exact lv_if_gt hx hbb hd (of_decide_eq_true hw) (fun q => g1 q H locs cells slots ls I) (fun q => g2 q H locs cells slots ls I)
  · obtain ⟨pp, hd, hn, hw⟩ := ps_at2 hok g0 rfl
    subst hn
    exact lv_if_le hx hbb hd (of_decide_eq_true hw) (fun q => g1 q H locs cells slots ls I) (fun q => g2 q H locs cells slots ls I)
theorem ps_icm (E : ps_E p R s m args meth c md kp base adk nf D dA hb sb h0 s0) : pr_icm kp md C hb sb Q (ps_PP p l e R s m args below meth c QQ md base adk nf D dA hb sb h0 s0) := by
  obtain ⟨hx, hbb, hr, hml, hown, hts, hlk, hnm, hK, hKC, hbs, hnf, hRc, hRs, hh, hok, hfr, hlo⟩ := E
  intro pc nx a b lv st h cc n x y g0 g1 g2 H locs cells slots ls I
  cases cc
  · obtain ⟨pp, hd, hn, hw⟩ := ps_at2 hok g0 rfl
    subst hn
    exact lv_icmp_eq hx hbb hd (of_decide_eq_true hw) (fun q => g1 q H locs cells slots ls I) (fun q => g2 q H locs cells slots ls I)
  · obtain ⟨pp, hd, hn, hw⟩ := ps_at2 hok g0 rfl
    subst hn
    exact lv_icmp_ne hx hbb hd (of_decide_eq_true hw) (fun q => g1 q H locs cells slots ls I) (fun q => g2 (fun z => z q) H locs cells slots ls I)
  · obtain ⟨pp, hd, hn, hw⟩ := ps_at2 hok g0 rfl
    subst hn
    exact lv_icmp_lt hx hbb hd (of_decide_eq_true hw) (fun q => g1 q H locs cells slots ls I) (fun q => g2 q H locs cells slots ls I)
  · obtain ⟨pp, hd, hn, hw⟩ := ps_at2 hok g0 rfl
    subst hn
    exact lv_icmp_ge hx hbb hd (of_decide_eq_true hw) (fun q => g1 q H locs cells slots ls I) (fun q => g2 q H locs cells slots ls I)
  · obtain ⟨pp, hd, hn, hw⟩ := ps_at2 hok g0 rfl
    subst hn
    exact lv_icmp_gt hx hbb hd (of_decide_eq_true hw) (fun q => g1 q H locs cells slots ls I) (fun q => g2 q H locs cells slots ls I)
  · obtain ⟨pp, hd, hn, hw⟩ := ps_at2 hok g0 rfl
    subst hn
    exact lv_icmp_le hx hbb hd (of_decide_eq_true hw) (fun q => g1 q H locs cells slots ls I) (fun q => g2 q H locs cells slots ls I)
theorem ps_tso (E : ps_E p R s m args meth c md kp base adk nf D dA hb sb h0 s0) : pr_tso kp md C hb sb Q (ps_PP p l e R s m args below meth c QQ md base adk nf D dA hb sb h0 s0) := by
  obtain ⟨hx, hbb, hr, hml, hown, hts, hlk, hnm, hK, hKC, hbs, hnf, hRc, hRs, hh, hok, hfr, hlo⟩ := E
  intro pc nx a b lv st h d lo hi os x t g0 g1 g2 g3 H locs cells slots ls I
  obtain ⟨pp, hd, -, -⟩ := ps_at1 hok g0
  exact lv_tableOut hx hbb hd g1 g2 (g3 H locs cells slots ls I)
theorem ps_tsi (E : ps_E p R s m args meth c md kp base adk nf D dA hb sb h0 s0) : pr_tsi kp md C hb sb Q (ps_PP p l e R s m args below meth c QQ md base adk nf D dA hb sb h0 s0) := by
  obtain ⟨hx, hbb, hr, hml, hown, hts, hlk, hnm, hK, hKC, hbs, hnf, hRc, hRs, hh, hok, hfr, hlo⟩ := E
  intro pc nx a b lv st h d lo hi off os x t g0 g1 g2 g3 g4 g5 H locs cells slots ls I
  obtain ⟨pp, hd, -, -⟩ := ps_at1 hok g0
  exact lv_tableIn hx hbb hd g1 g2 g3 g4 (g5 H locs cells slots ls I)
theorem ps_lsw (E : ps_E p R s m args meth c md kp base adk nf D dA hb sb h0 s0) : pr_lsw kp md C hb sb Q (ps_PP p l e R s m args below meth c QQ md base adk nf D dA hb sb h0 s0) := by
  obtain ⟨hx, hbb, hr, hml, hown, hts, hlk, hnm, hK, hKC, hbs, hnf, hRc, hRs, hh, hok, hfr, hlo⟩ := E
  intro pc nx a b lv st h d ps x t g0 g1 g2 g3 H locs cells slots ls I
  obtain ⟨pp, hd, -, -⟩ := ps_at1 hok g0
  exact lv_lookup hx hbb hd g1 rfl g2 (g3 H locs cells slots ls I)
end PSV
end
section
theorem pk_u0 : (List.range 6).all (fun k => ps_w ([456, 458, 460, 462, 464, 466].getD k 0) (u_lay "TurnField$Curve" pt_T0 k)) = true := by decide +kernel
theorem pk_v0 : ps_w 444 (.instantiable "TurnField$Curve" 6) = true ∧ ps_w 119 (.initialized "TurnField$Curve") = true := by decide +kernel
theorem pk_x0 : (∀ k, k < 6 → parseFieldDescriptor (pt_T0 k).2.2.1 = some (pt_t0 k)) ∧ (∀ a, a < 6 → ∀ b, b < 6 → a ≠ b → (pt_T0 a).2.1 ≠ (pt_T0 b).2.1) ∧ (∀ k, k < 6 → (pt_T0 k).1 = "TurnField$Curve") := by decide +kernel
theorem pk_n0 : pm_new 0 = none ∨ ∃ fs, pm_new 0 = some fs ∧ fs.length = 6 ∧ ∀ j, j < 6 → defaultValue (pt_t0 j) = vp_V fs j := Or.inr ⟨_, rfl, rfl, by decide +kernel⟩
theorem pk_u1 : (List.range 10).all (fun k => ps_w ([333, 335, 337, 339, 341, 343, 345, 347, 349, 351].getD k 0) (u_lay "TurnField$Lengths" pt_T1 k)) = true := by decide +kernel
theorem pk_v1 : ps_w 315 (.instantiable "TurnField$Lengths" 10) = true ∧ ps_w 115 (.initialized "TurnField$Lengths") = true := by decide +kernel
theorem pk_x1 : (∀ k, k < 10 → parseFieldDescriptor (pt_T1 k).2.2.1 = some (pt_t1 k)) ∧ (∀ a, a < 10 → ∀ b, b < 10 → a ≠ b → (pt_T1 a).2.1 ≠ (pt_T1 b).2.1) ∧ (∀ k, k < 10 → (pt_T1 k).1 = "TurnField$Lengths") := by decide +kernel
theorem pk_n1 : pm_new 1 = none ∨ ∃ fs, pm_new 1 = some fs ∧ fs.length = 10 ∧ ∀ j, j < 10 → defaultValue (pt_t1 j) = vp_V fs j := Or.inr ⟨_, rfl, rfl, by decide +kernel⟩
theorem pk_u2 : (List.range 3).all (fun k => ps_w ([223, 225, 227].getD k 0) (u_lay "TurnField$Past" pt_T2 k)) = true := by decide +kernel
theorem pk_v2 : ps_w 211 (.instantiable "TurnField$Past" 3) = true ∧ ps_w 111 (.initialized "TurnField$Past") = true := by decide +kernel
theorem pk_x2 : (∀ k, k < 3 → parseFieldDescriptor (pt_T2 k).2.2.1 = some (pt_t2 k)) ∧ (∀ a, a < 3 → ∀ b, b < 3 → a ≠ b → (pt_T2 a).2.1 ≠ (pt_T2 b).2.1) ∧ (∀ k, k < 3 → (pt_T2 k).1 = "TurnField$Past") := by decide +kernel
theorem pk_n2 : pm_new 2 = none ∨ ∃ fs, pm_new 2 = some fs ∧ fs.length = 3 ∧ ∀ j, j < 3 → defaultValue (pt_t2 j) = vp_V fs j := Or.inr ⟨_, rfl, rfl, by decide +kernel⟩
theorem pk_u3 : (List.range 7).all (fun k => ps_w ([299, 301, 303, 305, 307, 309, 311].getD k 0) (u_lay "TurnField$Play" pt_T3 k)) = true := by decide +kernel
theorem pk_v3 : ps_w 258 (.instantiable "TurnField$Play" 7) = true ∧ ps_w 113 (.initialized "TurnField$Play") = true := by decide +kernel
theorem pk_x3 : (∀ k, k < 7 → parseFieldDescriptor (pt_T3 k).2.2.1 = some (pt_t3 k)) ∧ (∀ a, a < 7 → ∀ b, b < 7 → a ≠ b → (pt_T3 a).2.1 ≠ (pt_T3 b).2.1) ∧ (∀ k, k < 7 → (pt_T3 k).1 = "TurnField$Play") := by decide +kernel
theorem pk_n3 : pm_new 3 = none ∨ ∃ fs, pm_new 3 = some fs ∧ fs.length = 7 ∧ ∀ j, j < 7 → defaultValue (pt_t3 j) = vp_V fs j := Or.inr ⟨_, rfl, rfl, by decide +kernel⟩
theorem pk_u4 : (List.range 15).all (fun k => ps_w ([412, 414, 416, 418, 420, 422, 424, 426, 428, 430, 432, 434, 436, 438, 440].getD k 0) (u_lay "TurnField$Polynomials" pt_T4 k)) = true := by decide +kernel
theorem pk_v4 : ps_w 389 (.instantiable "TurnField$Polynomials" 15) = true ∧ ps_w 118 (.initialized "TurnField$Polynomials") = true := by decide +kernel
theorem pk_x4 : (∀ k, k < 15 → parseFieldDescriptor (pt_T4 k).2.2.1 = some (pt_t4 k)) ∧ (∀ a, a < 15 → ∀ b, b < 15 → a ≠ b → (pt_T4 a).2.1 ≠ (pt_T4 b).2.1) ∧ (∀ k, k < 15 → (pt_T4 k).1 = "TurnField$Polynomials") := by decide +kernel
theorem pk_n4 : pm_new 4 = none ∨ ∃ fs, pm_new 4 = some fs ∧ fs.length = 15 ∧ ∀ j, j < 15 → defaultValue (pt_t4 j) = vp_V fs j := Or.inr ⟨_, rfl, rfl, by decide +kernel⟩
theorem pk_u5 : (List.range 12).all (fun k => ps_w ([184, 186, 188, 190, 192, 194, 196, 198, 200, 202, 204, 206].getD k 0) (u_lay "TurnField$Position" pt_T5 k)) = true := by decide +kernel
theorem pk_v5 : ps_w 138 (.instantiable "TurnField$Position" 12) = true ∧ ps_w 110 (.initialized "TurnField$Position") = true := by decide +kernel
theorem pk_x5 : (∀ k, k < 12 → parseFieldDescriptor (pt_T5 k).2.2.1 = some (pt_t5 k)) ∧ (∀ a, a < 12 → ∀ b, b < 12 → a ≠ b → (pt_T5 a).2.1 ≠ (pt_T5 b).2.1) ∧ (∀ k, k < 12 → (pt_T5 k).1 = "TurnField$Position") := by decide +kernel
theorem pk_n5 : pm_new 5 = none ∨ ∃ fs, pm_new 5 = some fs ∧ fs.length = 12 ∧ ∀ j, j < 12 → defaultValue (pt_t5 j) = vp_V fs j := Or.inr ⟨_, rfl, rfl, by decide +kernel⟩
theorem pk_u6 : (List.range 6).all (fun k => ps_w ([275, 277, 279, 281, 283, 285].getD k 0) (u_lay "TurnField$Rule" pt_T6 k)) = true := by decide +kernel
theorem pk_v6 : ps_w 264 (.instantiable "TurnField$Rule" 6) = true ∧ ps_w 114 (.initialized "TurnField$Rule") = true := by decide +kernel
theorem pk_x6 : (∀ k, k < 6 → parseFieldDescriptor (pt_T6 k).2.2.1 = some (pt_t6 k)) ∧ (∀ a, a < 6 → ∀ b, b < 6 → a ≠ b → (pt_T6 a).2.1 ≠ (pt_T6 b).2.1) ∧ (∀ k, k < 6 → (pt_T6 k).1 = "TurnField$Rule") := by decide +kernel
theorem pk_n6 : pm_new 6 = none ∨ ∃ fs, pm_new 6 = some fs ∧ fs.length = 6 ∧ ∀ j, j < 6 → defaultValue (pt_t6 j) = vp_V fs j := Or.inr ⟨_, rfl, rfl, by decide +kernel⟩
theorem pk_u7 : (List.range 2).all (fun k => ps_w ([362, 364].getD k 0) (u_lay "TurnField$Span" pt_T7 k)) = true := by decide +kernel
theorem pk_v7 : ps_w 355 (.instantiable "TurnField$Span" 2) = true ∧ ps_w 116 (.initialized "TurnField$Span") = true := by decide +kernel
theorem pk_x7 : (∀ k, k < 2 → parseFieldDescriptor (pt_T7 k).2.2.1 = some (pt_t7 k)) ∧ (∀ a, a < 2 → ∀ b, b < 2 → a ≠ b → (pt_T7 a).2.1 ≠ (pt_T7 b).2.1) ∧ (∀ k, k < 2 → (pt_T7 k).1 = "TurnField$Span") := by decide +kernel
theorem pk_n7 : pm_new 7 = none ∨ ∃ fs, pm_new 7 = some fs ∧ fs.length = 2 ∧ ∀ j, j < 2 → defaultValue (pt_t7 j) = vp_V fs j := Or.inr ⟨_, rfl, rfl, by decide +kernel⟩
theorem pk_u8 : (List.range 4).all (fun k => ps_w ([379, 381, 383, 385].getD k 0) (u_lay "TurnField$Steps" pt_T8 k)) = true := by decide +kernel
theorem pk_v8 : ps_w 368 (.instantiable "TurnField$Steps" 4) = true ∧ ps_w 117 (.initialized "TurnField$Steps") = true := by decide +kernel
theorem pk_x8 : (∀ k, k < 4 → parseFieldDescriptor (pt_T8 k).2.2.1 = some (pt_t8 k)) ∧ (∀ a, a < 4 → ∀ b, b < 4 → a ≠ b → (pt_T8 a).2.1 ≠ (pt_T8 b).2.1) ∧ (∀ k, k < 4 → (pt_T8 k).1 = "TurnField$Steps") := by decide +kernel
theorem pk_n8 : pm_new 8 = none ∨ ∃ fs, pm_new 8 = some fs ∧ fs.length = 4 ∧ ∀ j, j < 4 → defaultValue (pt_t8 j) = vp_V fs j := Or.inr ⟨_, rfl, rfl, by decide +kernel⟩
theorem pk_u9 : (List.range 5).all (fun k => ps_w ([245, 247, 249, 251, 253].getD k 0) (u_lay "TurnField$Tape" pt_T9 k)) = true := by decide +kernel
theorem pk_v9 : ps_w 231 (.instantiable "TurnField$Tape" 5) = true ∧ ps_w 112 (.initialized "TurnField$Tape") = true := by decide +kernel
theorem pk_x9 : (∀ k, k < 5 → parseFieldDescriptor (pt_T9 k).2.2.1 = some (pt_t9 k)) ∧ (∀ a, a < 5 → ∀ b, b < 5 → a ≠ b → (pt_T9 a).2.1 ≠ (pt_T9 b).2.1) ∧ (∀ k, k < 5 → (pt_T9 k).1 = "TurnField$Tape") := by decide +kernel
theorem pk_n9 : pm_new 9 = none ∨ ∃ fs, pm_new 9 = some fs ∧ fs.length = 5 ∧ ∀ j, j < 5 → defaultValue (pt_t9 j) = vp_V fs j := Or.inr ⟨_, rfl, rfl, by decide +kernel⟩
theorem pk_u10 : (List.range 10).all (fun k => ps_w ([479, 481, 483, 485, 487, 489, 491, 493, 495, 497].getD k 0) (u_lay "TurnField" pt_T10 k)) = true := by decide +kernel
theorem pk_v10 : ps_w 130 (.instantiable "TurnField" 10) = true ∧ ps_w 109 (.initialized "TurnField") = true := by decide +kernel
theorem pk_x10 : (∀ k, k < 10 → parseFieldDescriptor (pt_T10 k).2.2.1 = some (pt_t10 k)) ∧ (∀ a, a < 10 → ∀ b, b < 10 → a ≠ b → (pt_T10 a).2.1 ≠ (pt_T10 b).2.1) ∧ (∀ k, k < 10 → (pt_T10 k).1 = "TurnField") := by decide +kernel
theorem pk_n10 : pm_new 10 = none ∨ ∃ fs, pm_new 10 = some fs ∧ fs.length = 10 ∧ ∀ j, j < 10 → defaultValue (pt_t10 j) = vp_V fs j := Or.inr ⟨_, rfl, rfl, by decide +kernel⟩
theorem pk_u11 : (List.range 44).all (fun k => ps_w ([1354, 1356, 1358, 1360, 1362, 1364, 1366, 1368, 1370, 1372, 1374, 1376, 1378, 1380, 1382, 1384, 1386, 1388, 1390, 1392, 1394, 1396, 1398, 1400, 1402, 1404, 1406, 1408, 1410, 1412, 1414, 1416, 1418, 1420, 1422, 1424, 1426, 1428, 1430, 1432, 1434, 1436, 1438, 1440].getD k 0) (u_lay "TurnFieldModel" pt_T11 k)) = true := by decide +kernel
theorem pk_v11 : ps_w 1281 (.instantiable "TurnFieldModel" 44) = true ∧ ps_w 120 (.initialized "TurnFieldModel") = true := by decide +kernel
theorem pk_x11 : (∀ k, k < 44 → parseFieldDescriptor (pt_T11 k).2.2.1 = some (pt_t11 k)) ∧ (∀ a, a < 44 → ∀ b, b < 44 → a ≠ b → (pt_T11 a).2.1 ≠ (pt_T11 b).2.1) ∧ (∀ k, k < 44 → (pt_T11 k).1 = "TurnFieldModel") := by decide +kernel
theorem pk_n11 : pm_new 11 = none ∨ ∃ fs, pm_new 11 = some fs ∧ fs.length = 44 ∧ ∀ j, j < 44 → defaultValue (pt_t11 j) = vp_V fs j := Or.inr ⟨_, rfl, rfl, by decide +kernel⟩
theorem pk_lay {C : String} {T : u_T} {N : Nat} {pl : List Nat} (h : (List.range N).all (fun k => ps_w (pl.getD k 0) (u_lay C T k)) = true) : ∀ w ∈ u_ws C T N, w ∈ ps_T := by
  intro w hw
  unfold u_ws at hw
  obtain ⟨k, hk, rfl⟩ := List.mem_map.mp hw
  exact ps_w_in (List.all_eq_true.mp h k hk)
/-- what is known of the classes -/
def pk_C (ci : Nat) (C : String) (T : u_T) (N : Nat) : Prop := (∀ w ∈ u_ws C T N, w ∈ ps_T) ∧ (Jvm.Cond.instantiable C N ∈ ps_T ∧ Jvm.Cond.initialized C ∈ ps_T) ∧
  ((∀ k, k < N → parseFieldDescriptor (T k).2.2.1 = some (pm_tyk ci k)) ∧ (∀ a, a < N → ∀ b, b < N → a ≠ b → (T a).2.1 ≠ (T b).2.1) ∧ (∀ k, k < N → (T k).1 = C)) ∧
  (pm_new ci = none ∨ ∃ fs, pm_new ci = some fs ∧ fs.length = N ∧ ∀ j, j < N → defaultValue (pm_tyk ci j) = vp_V fs j)
theorem pk_all : ∀ (ci : Nat) (C : String) (T : u_T) (N : Nat), pt_cl[ci]? = some (C, T, N) → pk_C ci C T N := by
  intro ci C T N h
  match ci, h with
  | 0, h => cases h; exact ⟨pk_lay pk_u0, ⟨ps_w_in pk_v0.1, ps_w_in pk_v0.2⟩, pk_x0, pk_n0⟩
  | 1, h => cases h; exact ⟨pk_lay pk_u1, ⟨ps_w_in pk_v1.1, ps_w_in pk_v1.2⟩, pk_x1, pk_n1⟩
  | 2, h => cases h; exact ⟨pk_lay pk_u2, ⟨ps_w_in pk_v2.1, ps_w_in pk_v2.2⟩, pk_x2, pk_n2⟩
  | 3, h => cases h; exact ⟨pk_lay pk_u3, ⟨ps_w_in pk_v3.1, ps_w_in pk_v3.2⟩, pk_x3, pk_n3⟩
  | 4, h => cases h; exact ⟨pk_lay pk_u4, ⟨ps_w_in pk_v4.1, ps_w_in pk_v4.2⟩, pk_x4, pk_n4⟩
  | 5, h => cases h; exact ⟨pk_lay pk_u5, ⟨ps_w_in pk_v5.1, ps_w_in pk_v5.2⟩, pk_x5, pk_n5⟩
  | 6, h => cases h; exact ⟨pk_lay pk_u6, ⟨ps_w_in pk_v6.1, ps_w_in pk_v6.2⟩, pk_x6, pk_n6⟩
  | 7, h => cases h; exact ⟨pk_lay pk_u7, ⟨ps_w_in pk_v7.1, ps_w_in pk_v7.2⟩, pk_x7, pk_n7⟩
  | 8, h => cases h; exact ⟨pk_lay pk_u8, ⟨ps_w_in pk_v8.1, ps_w_in pk_v8.2⟩, pk_x8, pk_n8⟩
  | 9, h => cases h; exact ⟨pk_lay pk_u9, ⟨ps_w_in pk_v9.1, ps_w_in pk_v9.2⟩, pk_x9, pk_n9⟩
  | 10, h => cases h; exact ⟨pk_lay pk_u10, ⟨ps_w_in pk_v10.1, ps_w_in pk_v10.2⟩, pk_x10, pk_n10⟩
  | 11, h => cases h; exact ⟨pk_lay pk_u11, ⟨ps_w_in pk_v11.1, ps_w_in pk_v11.2⟩, pk_x11, pk_n11⟩
  | k + 12, h => simp [pt_cl] at h
end
section
section PSW
variable {p : Program} {l : Launch} {e : Env} {R : Room} {s : State} {m : MethodId} {args : Array Value} {below : List Frame} {meth : Method} {c : Code} {QQ : State → Prop} {md : pm_M} {kp : pm_K} {base : Nat} {adk : Nat → Nat} {nf : Value} {D : va_G} {dA : Nat → ClassId} {hb sb h0 s0 : Nat} {C : pm_C} {Q : Option Value → pm_H → Prop}
theorem ps_adk {k : Nat} (h : 1000000 ≤ k) : ps_ad base adk k = adk k := if_neg (by omega)
theorem ps_cvk {k : Nat} (h : 1000000 ≤ k) : ps_cv (ps_ad base adk) nf (.ref k) = .ref (adk k) := by
  show Value.ref _ = _
  rw [ps_adk h]
theorem ps_Iset {lv : pm_L} {h : pm_H} {H H1 : Heap} {locs locs1 : List Loc} {cells slots : Nat} {ls : Array Slot} {o : Nat} {c0 c1 : va_E} (I : ps_In s md base adk nf D dA hb sb h0 s0 lv h H locs cells slots ls) (g : h[o]? = some c0) (e : pm_sz c1 = pm_sz c0)
    (hP : va_P D pt_cl (ps_cw dA (ps_ad base adk) nf (h.set o c1)) H1) (hS : va_S (fun q => base ≤ q) s.heap H1 locs1) (hz : H1.size = H.size) : ps_In s md base adk nf D dA hb sb h0 s0 lv (h.set o c1) H1 locs1 cells slots ls := by
  obtain ⟨i1, i2, i3, i4, i5, i6, i7, i8⟩ := I
  refine ⟨i1, hP, hS, ?_, ?_, ?_, ?_, ?_⟩
  · rw [hz, List.length_set]; exact i4
  · rw [List.length_set]; exact i5
  · rw [ps_sl_set g e]; exact i6
  · rw [List.length_set]; exact i7
  · rw [ps_sl_set g e]; exact i8
theorem ps_sr_big : ∀ r ∈ ps_sr, 1000010 ≤ r.2.2.2 ∧ r.2.2.2 ≤ 1000014 := by decide
theorem ps_srf {q : String} {n k : Nat} (h : ps_sr.any (fun r => r.1 == q && Nat.beq r.2.1 n && Nat.beq r.2.2.2 k) = true) : ∃ tx, (q, n, tx, k) ∈ ps_sr := by
  obtain ⟨r, h1, h2⟩ := List.any_eq_true.mp h
  obtain ⟨h3, h4⟩ := Bool.and_eq_true_iff.mp h2
  obtain ⟨h5, h6⟩ := Bool.and_eq_true_iff.mp h3
  obtain ⟨a, b, tx, d⟩ := r
  have e1 : a = q := by simpa using h5
  have e2 : b = n := Nat.eq_of_beq_eq_true h6
  have e3 : d = k := Nat.eq_of_beq_eq_true h4
  subst e1
  subst e2
  subst e3
  exact ⟨tx, h1⟩
theorem ps_ldc (E : ps_E p R s m args meth c md kp base adk nf D dA hb sb h0 s0) : pr_ldc kp md C hb sb Q (ps_PP p l e R s m args below meth c QQ md base adk nf D dA hb sb h0 s0) := by
  obtain ⟨hx, hbb, hr, hml, hown, hts, hlk, hnm, hK, hKC, hbs, hnf, hRc, hRs, hh, hok, hfr, hlo⟩ := E
  intro pc nx a b lv st h i v g0 g1 g2 g3 H locs cells slots ls I
  have hsw := hKC.2.2.2.2.2.2.2.2.1
  unfold pm_isl at g1
  split at g1
  · obtain ⟨pp, hd, hn, hw⟩ := ps_at2 hok g0 rfl
    subst hn
    simp only [ps_wok, g2] at hw
    cases v with
    | int x => exact lv_ldc hx hbb hown (hts _ (ps_w_in hw)) hd (g3 H locs cells slots ls I)
    | ref k =>
      obtain ⟨tx, hm⟩ := ps_srf hw
      have hk := g3 H locs cells slots ls I
      have hbig : 1000010 ≤ k := (ps_sr_big _ hm).1
      rw [List.map_cons, ps_cvk (Nat.le_trans (by decide) hbig)] at hk
      exact va_ldcS hx hbb hown (hsw _ hm) hd hk
    | _ => cases hw
  · obtain ⟨pp, hd, hn, hw⟩ := ps_at2 hok g0 rfl
    subst hn
    simp only [ps_wok, g2] at hw
    cases v with
    | int x => exact lv_ldcw hx hbb hown (hts _ (ps_w_in hw)) hd (g3 H locs cells slots ls I)
    | ref k =>
      obtain ⟨tx, hm⟩ := ps_srf hw
      have hk := g3 H locs cells slots ls I
      have hbig : 1000010 ≤ k := (ps_sr_big _ hm).1
      rw [List.map_cons, ps_cvk (Nat.le_trans (by decide) hbig)] at hk
      intro T hT X
      obtain ⟨t, a1, b1⟩ := hk T hT X
      exact ⟨t, X.ldcStringW hx hown (text := tx) (a := adk k) (hsw _ hm).1 (hsw _ hm).2 (g := F0 m pc ls (st.map (ps_cv (ps_ad base adk) nf))) rfl (by rw [hbb]; exact hd) t a1, b1⟩
    | _ => cases hw
  · obtain ⟨pp, hd, hn, hw⟩ := ps_at2 hok g0 rfl
    subst hn
    simp only [ps_wok, g2] at hw
    cases v with
    | long x => exact lv_ldc2 hx hbb hown (hts _ (ps_w_in hw)) hd (g3 H locs cells slots ls I)
    | _ => cases hw
  · cases g1
theorem ps_fact {ci b : Nat} {n : Nat} {pp : Nat} {k : String} (hw : (match pt_cl[ci]? with
      | some (C, T, N) => Nat.ble (b + 1) N && ps_w pp (.fieldLink k n (T b).1 (T b).2.1 (T b).2.2.1)
      | none => false) = true) : ∃ (C : String) (T : u_T) (N : Nat), pt_cl[ci]? = some (C, T, N) ∧ b < N ∧ Jvm.Cond.fieldLink k n (T b).1 (T b).2.1 (T b).2.2.1 ∈ ps_T := by
  cases hc : pt_cl[ci]? with
  | none => rw [hc] at hw; cases hw
  | some q =>
    obtain ⟨C, T, N⟩ := q
    rw [hc] at hw
    obtain ⟨h1, h2⟩ := Bool.and_eq_true_iff.mp hw
    exact ⟨C, T, N, rfl, Nat.le_of_ble_eq_true h1, ps_w_in h2⟩
theorem ps_get (E : ps_E p R s m args meth c md kp base adk nf D dA hb sb h0 s0) : pr_get kp md C hb sb Q (ps_PP p l e R s m args below meth c QQ md base adk nf D dA hb sb h0 s0) := by
  obtain ⟨hx, hbb, hr, hml, hown, hts, hlk, hnm, hK, hKC, hbs, hnf, hRc, hRs, hh, hok, hfr, hlo⟩ := E
  intro pc nx a b lv st h n o fs v g0 g1 g2 g3 H locs cells slots ls I
  obtain ⟨pp, hd, hn, hw⟩ := ps_at2 hok g0 rfl
  subst hn
  have hP := I.2.1
  have he := ps_cw_at (dA := dA) (ad := ps_ad base adk) (nf := nf) g1
  by_cases ha : a = 100
  · subst ha
    obtain ⟨r, q1, -⟩ := hP o _ he
    cases q1
  · have hw2 : (match pt_cl[a]? with
      | some (C, T, N) => Nat.ble (b + 1) N && ps_w pp (.fieldLink md.1.cls n (T b).1 (T b).2.1 (T b).2.2.1)
      | none => false) = true := by
      simp only [ps_wok] at hw
      rw [show Nat.beq a 100 = false by rw [ps_beq]; simpa using ha] at hw
      exact hw
    obtain ⟨CC, T, N, hc, hbN, hl⟩ := ps_fact hw2
    obtain ⟨k1, k2, k3, k4⟩ := pk_all a CC T N hc
    exact va_get hx hbb hts k1 hown hK hP o he hc b hbN (hts _ hl) (fun _ z => z) (by rw [List.getElem?_map, g2]; rfl) hd (g3 H locs cells slots ls I)
theorem ps_put0 {ci k : Nat} {ty : FieldType} {fin : Bool} {C : String} {T : u_T} {N : Nat} (hc : pt_cl[ci]? = some (C, T, N)) (g : pm_fty ci k = some (ty, fin)) : ty = pm_tyk ci k ∧ fin = (T k).2.2.2 := by
  unfold pm_fty at g
  rw [hc] at g
  dsimp only at g
  cases hq : Nat.ble (k + 1) N with
  | false => rw [hq] at g; cases g
  | true => rw [hq] at g; cases g; exact ⟨rfl, rfl⟩
theorem ps_fit {ad : Nat → Nat} {ty : FieldType} {v : Value} (g : pm_fit ty v) (hv : ∀ k, ¬ v = .retAddr k) : narrow ty (ps_cv ad nf v) = ps_cv ad nf v ∧ fits ty (ps_cv ad nf v) = true := by
  cases v with
  | ref a => exact ⟨by cases ty <;> first | rfl | (have := g.2; cases this), by have := g.2; cases ty <;> first | rfl | cases this⟩
  | retAddr k => exact absurd rfl (hv k)
  | _ => exact g
theorem ps_gek (E : ps_E p R s m args meth c md kp base adk nf D dA hb sb h0 s0) : pr_gek kp md C hb sb Q (ps_PP p l e R s m args below meth c QQ md base adk nf D dA hb sb h0 s0) := by
  obtain ⟨hx, hbb, hr, hml, hown, hts, hlk, hnm, hK, hKC, hbs, hnf, hRc, hRs, hh, hok, hfr, hlo⟩ := E
  intro pc nx a b lv st h n o v g0 g1 g2 g3 H locs cells slots ls I
  obtain ⟨pp, hd, hn, hw⟩ := ps_at2 hok g0 rfl
  subst hn
  subst g1
  have hE := hKC.2.2.2.2.2.2.2.1
  have hk := g3 H locs cells slots ls I
  unfold pm_kfl at g2
  cases hc : (Nat.ble 1000010 o && Nat.ble o 1000014) with
  | false => rw [hc] at g2; cases g2
  | true =>
    rw [hc] at g2
    obtain ⟨q1, q2⟩ := Bool.and_eq_true_iff.mp hc
    have q1 := Nat.le_of_ble_eq_true q1
    have q2 := Nat.le_of_ble_eq_true q2
    obtain ⟨i, rfl⟩ : ∃ i, o = 1000010 + i := ⟨o - 1000010, by omega⟩
    have hi : i < 5 := by omega
    obtain ⟨e1, e2, e3, e4⟩ := hE.1 i hi
    dsimp only [cond_true] at g2
    split at g2
    · cases g2
      rw [List.map_cons, show ps_cv (ps_ad base adk) nf (.ref (1000010 + i + 20)) = .ref (adk (1000030 + i)) by show Value.ref _ = _; rw [ps_adk (by omega)]; congr 2; omega] at hk
      rw [List.map_cons, show ps_cv (ps_ad base adk) nf (.ref (1000010 + i)) = .ref (adk (1000010 + i)) by show Value.ref _ = _; rw [ps_adk (by omega)]]
      exact vk_getf hx hbb e3 I.2.2.1 hown (hts _ (ps_w_in hw)) (fun _ z => z) hd hk
    · cases g2
      rw [List.map_cons, show ps_cv (ps_ad base adk) nf (.ref (1000010 + i)) = .ref (adk (1000010 + i)) by show Value.ref _ = _; rw [ps_adk (by omega)]]
      exact vk_getf hx hbb e2 I.2.2.1 hown (hts _ (ps_w_in hw)) (fun _ z => z) hd hk
    · cases g2
theorem ps_gst (E : ps_E p R s m args meth c md kp base adk nf D dA hb sb h0 s0) : pr_gst kp md C hb sb Q (ps_PP p l e R s m args below meth c QQ md base adk nf D dA hb sb h0 s0) := by
  obtain ⟨hx, hbb, hr, hml, hown, hts, hlk, hnm, hK, hKC, hbs, hnf, hRc, hRs, hh, hok, hfr, hlo⟩ := E
  intro pc nx a b lv st h n v g0 g1 g2 H locs cells slots ls I
  obtain ⟨pp, hd, hn, hw⟩ := ps_at2 hok g0 rfl
  subst hn
  obtain ⟨c1, c2, c3, c4, c5, c6, c7, c8, c9⟩ := hKC
  have hk := g2 H locs cells slots ls I
  unfold pm_gst at g1
  split at g1
  · cases g1
    rw [List.map_cons, show ps_cv (ps_ad base adk) nf (.ref 1000001) = .ref (adk 1000001) by show Value.ref _ = _; rw [ps_adk (by omega)]] at hk
    exact va_gets hx hbb c4 I.2.2.1 hown (hts _ (ps_w_in hw)) (fun _ z => z) hd hk
  · cases g1
    rw [List.map_cons, show ps_cv (ps_ad base adk) nf (.ref 1000002) = .ref (adk 1000002) by show Value.ref _ = _; rw [ps_adk (by omega)]] at hk
    exact va_gets hx hbb c5 I.2.2.1 hown (hts _ (ps_w_in hw)) (fun _ z => z) hd hk
  · cases g1
    exact va_gets hx hbb c6 I.2.2.1 hown (hts _ (ps_w_in hw)) (fun _ z => z) hd hk
  · cases g1
    exact va_gets hx hbb c7 I.2.2.1 hown (hts _ (ps_w_in hw)) (fun _ z => z) hd hk
  · cases g1
theorem ps_lk : ∀ (l : List (Nat × Nat × vp_A)) (o : Nat) (x : Nat × vp_A), pm_lk l o = some x → (o, x) ∈ l
  | [], o, x, g => by cases g
  | q :: r, o, x, g => by
    unfold pm_lk at g
    cases h : Nat.beq q.1 o with
    | true =>
      rw [h] at g
      cases g
      have e : q.1 = o := Nat.eq_of_beq_eq_true h
      subst e
      exact List.mem_cons_self
    | false =>
      rw [h] at g
      exact List.mem_cons_of_mem _ (ps_lk r o x g)
theorem ps_kar {kp : pm_K} {o t n : Nat} {x : (Nat → Int32) ⊕ (Nat → Int64) ⊕ (Nat → UInt32) ⊕ (Nat → UInt64) ⊕ (Nat → Option Nat)} (g : pm_kar kp o = some (t, (n, x))) :
    (o = 1000000 ∧ t = 0 ∧ n = kp.1 ∧ x = .inl kp.2) ∨ (o = 1000001 ∧ t = 1 ∧ n = 6 ∧ x = .inr (.inl (fun i => pm_low.getD i 0))) ∨ (o = 1000002 ∧ t = 1 ∧ n = 7 ∧ x = .inr (.inl (fun i => pm_prm.getD i 0))) ∨
    ∃ i, i < 5 ∧ o = 1000030 + i ∧ t = 2 ∧ n = [2, 5, 5, 4, 5].getD i 0 ∧ x = .inl (fun j => (pm_wds.getD i []).getD j 0) := by
  have h := ps_lk _ _ _ g
  simp only [pm_kt, List.mem_cons, List.not_mem_nil, or_false] at h
  rcases h with h | h | h | h | h | h | h | h
  · cases h; exact Or.inl ⟨rfl, rfl, rfl, rfl⟩
  · cases h; exact Or.inr (Or.inl ⟨rfl, rfl, rfl, rfl⟩)
  · cases h; exact Or.inr (Or.inr (Or.inl ⟨rfl, rfl, rfl, rfl⟩))
  · cases h; exact Or.inr (Or.inr (Or.inr ⟨0, by decide, rfl, rfl, rfl, rfl⟩))
  · cases h; exact Or.inr (Or.inr (Or.inr ⟨1, by decide, rfl, rfl, rfl, rfl⟩))
  · cases h; exact Or.inr (Or.inr (Or.inr ⟨2, by decide, rfl, rfl, rfl, rfl⟩))
  · cases h; exact Or.inr (Or.inr (Or.inr ⟨3, by decide, rfl, rfl, rfl, rfl⟩))
  · cases h; exact Or.inr (Or.inr (Or.inr ⟨4, by decide, rfl, rfl, rfl, rfl⟩))
theorem ps_kil (E : ps_E p R s m args meth c md kp base adk nf D dA hb sb h0 s0) : pr_kil kp md C hb sb Q (ps_PP p l e R s m args below meth c QQ md base adk nf D dA hb sb h0 s0) := by
  obtain ⟨hx, hbb, hr, hml, hown, hts, hlk, hnm, hK, hKC, hbs, hnf, hRc, hRs, hh, hok, hfr, hlo⟩ := E
  intro pc nx a b lv st h o n f j g0 g1 g2 g3 H locs cells slots ls I
  obtain ⟨pp, hd, hn, -⟩ := ps_at2 hok g0 rfl
  subst hn
  rcases ps_kar g1 with ⟨rfl, -, rfl, e⟩ | ⟨-, e, -⟩ | ⟨-, e, -⟩ | ⟨i, -, -, e, -⟩
  · cases e
    rw [List.map_cons, List.map_cons, ps_cvk (by omega)]
    exact va_ti hx hbb hKC.1 I.2.2.1 g2 rfl hd (g3 H locs cells slots ls I)
  · cases e
  · cases e
  · cases e
theorem ps_kbl (E : ps_E p R s m args meth c md kp base adk nf D dA hb sb h0 s0) : pr_kbl kp md C hb sb Q (ps_PP p l e R s m args below meth c QQ md base adk nf D dA hb sb h0 s0) := by
  obtain ⟨hx, hbb, hr, hml, hown, hts, hlk, hnm, hK, hKC, hbs, hnf, hRc, hRs, hh, hok, hfr, hlo⟩ := E
  intro pc nx a b lv st h o n f j g0 g1 g2 g3 H locs cells slots ls I
  obtain ⟨pp, hd, hn, -⟩ := ps_at2 hok g0 rfl
  subst hn
  rcases ps_kar g1 with ⟨-, e, -⟩ | ⟨-, e, -⟩ | ⟨-, e, -⟩ | ⟨i, hi, rfl, -, rfl, e⟩
  · cases e
  · cases e
  · cases e
  · cases e
    rw [List.map_cons, List.map_cons, ps_cvk (by omega)]
    exact va_tb hx hbb (hKC.2.2.2.2.2.2.2.1.1 i hi).2.2.2 I.2.2.1 g2 rfl hd (g3 H locs cells slots ls I)
theorem ps_kll (E : ps_E p R s m args meth c md kp base adk nf D dA hb sb h0 s0) : pr_kll kp md C hb sb Q (ps_PP p l e R s m args below meth c QQ md base adk nf D dA hb sb h0 s0) := by
  obtain ⟨hx, hbb, hr, hml, hown, hts, hlk, hnm, hK, hKC, hbs, hnf, hRc, hRs, hh, hok, hfr, hlo⟩ := E
  intro pc nx a b lv st h o n f j g0 g1 g2 g3 H locs cells slots ls I
  obtain ⟨pp, hd, hn, -⟩ := ps_at2 hok g0 rfl
  subst hn
  rcases ps_kar g1 with ⟨-, e, -⟩ | ⟨rfl, -, rfl, e⟩ | ⟨rfl, -, rfl, e⟩ | ⟨i, -, -, e, -⟩
  · cases e
  · cases e
    rw [List.map_cons, List.map_cons, ps_cvk (by omega)]
    exact va_tl hx hbb hKC.2.1 I.2.2.1 g2 rfl hd (g3 H locs cells slots ls I)
  · cases e
    rw [List.map_cons, List.map_cons, ps_cvk (by omega)]
    exact va_tl hx hbb hKC.2.2.1 I.2.2.1 g2 rfl hd (g3 H locs cells slots ls I)
  · cases e
theorem ps_kle (E : ps_E p R s m args meth c md kp base adk nf D dA hb sb h0 s0) : pr_kle kp md C hb sb Q (ps_PP p l e R s m args below meth c QQ md base adk nf D dA hb sb h0 s0) := by
  obtain ⟨hx, hbb, hr, hml, hown, hts, hlk, hnm, hK, hKC, hbs, hnf, hRc, hRs, hh, hok, hfr, hlo⟩ := E
  intro pc nx a b lv st h o n t x g0 g1 g2 H locs cells slots ls I
  obtain ⟨pp, hd, hn, -⟩ := ps_at2 hok g0 rfl
  subst hn
  rcases ps_kar g1 with ⟨rfl, -, rfl, e⟩ | ⟨rfl, -, rfl, e⟩ | ⟨rfl, -, rfl, e⟩ | ⟨i, hi, rfl, -, rfl, e⟩
  · rw [List.map_cons, ps_cvk (by omega)]
    exact va_tlen hx hbb hKC.1 I.2.2.1 rfl hd (g2 H locs cells slots ls I)
  · rw [List.map_cons, ps_cvk (by omega)]
    exact va_tlen hx hbb hKC.2.1 I.2.2.1 rfl hd (g2 H locs cells slots ls I)
  · rw [List.map_cons, ps_cvk (by omega)]
    exact va_tlen hx hbb hKC.2.2.1 I.2.2.1 rfl hd (g2 H locs cells slots ls I)
  · rw [List.map_cons, ps_cvk (by omega)]
    exact va_tlen hx hbb (hKC.2.2.2.2.2.2.2.1.1 i hi).2.2.2 I.2.2.1 rfl hd (g2 H locs cells slots ls I)
theorem ps_ial (E : ps_E p R s m args meth c md kp base adk nf D dA hb sb h0 s0) : pr_ial kp md C hb sb Q (ps_PP p l e R s m args below meth c QQ md base adk nf D dA hb sb h0 s0) := by
  obtain ⟨hx, hbb, hr, hml, hown, hts, hlk, hnm, hK, hKC, hbs, hnf, hRc, hRs, hh, hok, hfr, hlo⟩ := E
  intro pc nx a b lv st h o n f j g0 g1 g2 g3 H locs cells slots ls I
  obtain ⟨pp, hd, hn, -⟩ := ps_at2 hok g0 rfl
  subst hn
  exact va_iald hx hbb hK I.2.1 o 0 (ps_cw_at (dA := dA) (ad := ps_ad base adk) (nf := nf) g1) rfl g2 hd (g3 H locs cells slots ls I)
theorem ps_bal (E : ps_E p R s m args meth c md kp base adk nf D dA hb sb h0 s0) : pr_bal kp md C hb sb Q (ps_PP p l e R s m args below meth c QQ md base adk nf D dA hb sb h0 s0) := by
  obtain ⟨hx, hbb, hr, hml, hown, hts, hlk, hnm, hK, hKC, hbs, hnf, hRc, hRs, hh, hok, hfr, hlo⟩ := E
  intro pc nx a b lv st h o n f j g0 g1 g2 g3 H locs cells slots ls I
  obtain ⟨pp, hd, hn, -⟩ := ps_at2 hok g0 rfl
  subst hn
  exact va_bald hx hbb hK I.2.1 o 2 (ps_cw_at (dA := dA) (ad := ps_ad base adk) (nf := nf) g1) rfl g2 hd (g3 H locs cells slots ls I)
theorem ps_zal (E : ps_E p R s m args meth c md kp base adk nf D dA hb sb h0 s0) : pr_zal kp md C hb sb Q (ps_PP p l e R s m args below meth c QQ md base adk nf D dA hb sb h0 s0) := by
  obtain ⟨hx, hbb, hr, hml, hown, hts, hlk, hnm, hK, hKC, hbs, hnf, hRc, hRs, hh, hok, hfr, hlo⟩ := E
  intro pc nx a b lv st h o n f j g0 g1 g2 g3 H locs cells slots ls I
  obtain ⟨pp, hd, hn, -⟩ := ps_at2 hok g0 rfl
  subst hn
  exact va_zald hx hbb hK I.2.1 o 3 (ps_cw_at (dA := dA) (ad := ps_ad base adk) (nf := nf) g1) rfl g2 hd (g3 H locs cells slots ls I)
theorem ps_lal (E : ps_E p R s m args meth c md kp base adk nf D dA hb sb h0 s0) : pr_lal kp md C hb sb Q (ps_PP p l e R s m args below meth c QQ md base adk nf D dA hb sb h0 s0) := by
  obtain ⟨hx, hbb, hr, hml, hown, hts, hlk, hnm, hK, hKC, hbs, hnf, hRc, hRs, hh, hok, hfr, hlo⟩ := E
  intro pc nx a b lv st h o n f j g0 g1 g2 g3 H locs cells slots ls I
  obtain ⟨pp, hd, hn, -⟩ := ps_at2 hok g0 rfl
  subst hn
  exact va_lald hx hbb hK I.2.1 o 1 (ps_cw_at (dA := dA) (ad := ps_ad base adk) (nf := nf) g1) rfl g2 hd (g3 H locs cells slots ls I)
theorem ps_len1 (E : ps_E p R s m args meth c md kp base adk nf D dA hb sb h0 s0) : pr_len kp md C hb sb Q (ps_PP p l e R s m args below meth c QQ md base adk nf D dA hb sb h0 s0) := by
  obtain ⟨hx, hbb, hr, hml, hown, hts, hlk, hnm, hK, hKC, hbs, hnf, hRc, hRs, hh, hok, hfr, hlo⟩ := E
  intro pc nx a b lv st h o n t x g0 g1 g2 g3 H locs cells slots ls I
  obtain ⟨pp, hd, hn, -⟩ := ps_at2 hok g0 rfl
  subst hn
  have he := ps_cw_at (dA := dA) (ad := ps_ad base adk) (nf := nf) g1
  have hx1 : ∃ ty, (ps_tys dA)[t]? = some (dA t, ty) := by
    match t, g2 with
    | 0, _ => exact ⟨_, rfl⟩
    | 1, _ => exact ⟨_, rfl⟩
    | 2, _ => exact ⟨_, rfl⟩
    | 3, _ => exact ⟨_, rfl⟩
    | 4, _ => exact ⟨_, rfl⟩
    | 5, _ => exact ⟨_, rfl⟩
    | k + 6, g => omega
  obtain ⟨ty, ht⟩ := hx1
  refine va_alen (x := ps_ca (ps_ad base adk) (n, x)) hx hbb hK I.2.1 o t he ht ?_ hd (g3 H locs cells slots ls I)
  obtain f | f | f | f | f := x <;> rfl
theorem ps_aal (E : ps_E p R s m args meth c md kp base adk nf D dA hb sb h0 s0) : pr_aal kp md C hb sb Q (ps_PP p l e R s m args below meth c QQ md base adk nf D dA hb sb h0 s0) := by
  obtain ⟨hx, hbb, hr, hml, hown, hts, hlk, hnm, hK, hKC, hbs, hnf, hRc, hRs, hh, hok, hfr, hlo⟩ := E
  intro pc nx a b lv st h o n r f j t g0 g1 g2 g3 g4 g5 H locs cells slots ls I
  obtain ⟨pp, hd, hn, -⟩ := ps_at2 hok g0 rfl
  subst hn
  have he := ps_cw_at (dA := dA) (ad := ps_ad base adk) (nf := nf) g1
  have hlt : j.toNatClampNeg < n := Nat.not_le.mp fun q => g3 (Or.inr q)
  have hx1 : ∃ ty, (ps_tys dA)[t]? = some (dA t, ty) ∧ ty.isReference = true := by
    rcases g2 with rfl | rfl
    · exact ⟨_, rfl, rfl⟩
    · exact ⟨_, rfl, rfl⟩
  obtain ⟨ty, ht, hty⟩ := hx1
  have e5 : (arrV (dA t) n (fun k => va_rf ((f k).map (ps_ad base adk)))).slots[j.toNatClampNeg]? = some (.ref (ps_ad base adk r)) := by
    rw [arrV_read _ _ hlt]
    rw [g4]
    rfl
  refine W.aald (v := .ref (ps_ad base adk r)) (ty := ty) hx hbb (I.2.1 o _ he) ((hK.2 t _ ht).1 n (fun k => va_rf ((f k).map (ps_ad base adk)))) hty (fun q => by cases q) (by show ¬ (j < 0 ∨ (arrV _ _ _).slots.size ≤ _); rw [arrV_size]; exact g3) e5 rfl rfl hd (g5 H locs cells slots ls I)
theorem ps_ias (E : ps_E p R s m args meth c md kp base adk nf D dA hb sb h0 s0) : pr_ias kp md C hb sb Q (ps_PP p l e R s m args below meth c QQ md base adk nf D dA hb sb h0 s0) := by
  obtain ⟨hx, hbb, hr, hml, hown, hts, hlk, hnm, hK, hKC, hbs, hnf, hRc, hRs, hh, hok, hfr, hlo⟩ := E
  intro pc nx a b lv st h o n f j x g0 g1 g2 g3 H locs cells slots ls I
  obtain ⟨pp, hd, hn, -⟩ := ps_at2 hok g0 rfl
  subst hn
  have he := ps_cw_at (dA := dA) (ad := ps_ad base adk) (nf := nf) g1
  have hD : va_D (fun q => base ≤ q) (ps_cw dA (ps_ad base adk) nf h) := ps_D (by have := I.2.2.2.2.1; omega) (fun q z => z)
  refine W.iast hx hbb (I.2.1 o _ he) ((hK.2 0 _ rfl).1 n (fun k => .int (f k))) (fun q => by cases q) (by show ¬ (j < 0 ∨ (arrV _ _ _).slots.size ≤ _); rw [arrV_size]; exact g2) rfl rfl hd fun H1 e1 z1 oq => ?_
  refine g3 H1 _ cells slots ls (ps_Iset I g1 (by rfl) ?_ ?_ z1)
  · rw [ps_cw_set]
    refine I.2.1.set hD he ?_ oq
    show H1[_]? = some (vp_cell _ _)
    rw [e1]
    dsimp only [ps_ca]
    rw [vp_cell_i, vp_cell_i, arrV_store]
    congr 2
    funext q
    by_cases hq : q = j.toNatClampNeg
    · subst hq
      simp [updV, upd]
      
    · simp [updV, upd, hq]
  · exact I.2.2.1.put z1 oq (hD.2 o _ he)
theorem ps_bas (E : ps_E p R s m args meth c md kp base adk nf D dA hb sb h0 s0) : pr_bas kp md C hb sb Q (ps_PP p l e R s m args below meth c QQ md base adk nf D dA hb sb h0 s0) := by
  obtain ⟨hx, hbb, hr, hml, hown, hts, hlk, hnm, hK, hKC, hbs, hnf, hRc, hRs, hh, hok, hfr, hlo⟩ := E
  intro pc nx a b lv st h o n f j x g0 g1 g2 g3 H locs cells slots ls I
  obtain ⟨pp, hd, hn, -⟩ := ps_at2 hok g0 rfl
  subst hn
  have he := ps_cw_at (dA := dA) (ad := ps_ad base adk) (nf := nf) g1
  have hD : va_D (fun q => base ≤ q) (ps_cw dA (ps_ad base adk) nf h) := ps_D (by have := I.2.2.2.2.1; omega) (fun q z => z)
  refine W.bast hx hbb (I.2.1 o _ he) ((hK.2 2 _ rfl).1 n (fun k => .int (f k))) (fun q => by cases q) (by show ¬ (j < 0 ∨ (arrV _ _ _).slots.size ≤ _); rw [arrV_size]; exact g2) rfl rfl hd fun H1 e1 z1 oq => ?_
  refine g3 H1 _ cells slots ls (ps_Iset I g1 (by rfl) ?_ ?_ z1)
  · rw [ps_cw_set]
    refine I.2.1.set hD he ?_ oq
    show H1[_]? = some (vp_cell _ _)
    rw [e1]
    dsimp only [ps_ca]
    rw [vp_cell_i, vp_cell_i, arrV_store]
    congr 2
    funext q
    by_cases hq : q = j.toNatClampNeg
    · subst hq
      simp [updV, upd]
      rfl
    · simp [updV, upd, hq]
  · exact I.2.2.1.put z1 oq (hD.2 o _ he)
theorem ps_zas (E : ps_E p R s m args meth c md kp base adk nf D dA hb sb h0 s0) : pr_zas kp md C hb sb Q (ps_PP p l e R s m args below meth c QQ md base adk nf D dA hb sb h0 s0) := by
  obtain ⟨hx, hbb, hr, hml, hown, hts, hlk, hnm, hK, hKC, hbs, hnf, hRc, hRs, hh, hok, hfr, hlo⟩ := E
  intro pc nx a b lv st h o n f j x g0 g1 g2 g3 H locs cells slots ls I
  obtain ⟨pp, hd, hn, -⟩ := ps_at2 hok g0 rfl
  subst hn
  have he := ps_cw_at (dA := dA) (ad := ps_ad base adk) (nf := nf) g1
  have hD : va_D (fun q => base ≤ q) (ps_cw dA (ps_ad base adk) nf h) := ps_D (by have := I.2.2.2.2.1; omega) (fun q z => z)
  refine W.zast hx hbb (I.2.1 o _ he) ((hK.2 3 _ rfl).1 n (fun k => .int (f k))) (fun q => by cases q) (by show ¬ (j < 0 ∨ (arrV _ _ _).slots.size ≤ _); rw [arrV_size]; exact g2) rfl rfl hd fun H1 e1 z1 oq => ?_
  refine g3 H1 _ cells slots ls (ps_Iset I g1 (by rfl) ?_ ?_ z1)
  · rw [ps_cw_set]
    refine I.2.1.set hD he ?_ oq
    show H1[_]? = some (vp_cell _ _)
    rw [e1]
    dsimp only [ps_ca]
    rw [vp_cell_i, vp_cell_i, arrV_store]
    congr 2
    funext q
    by_cases hq : q = j.toNatClampNeg
    · subst hq
      simp [updV, upd]
      rfl
    · simp [updV, upd, hq]
  · exact I.2.2.1.put z1 oq (hD.2 o _ he)
theorem ps_las (E : ps_E p R s m args meth c md kp base adk nf D dA hb sb h0 s0) : pr_las kp md C hb sb Q (ps_PP p l e R s m args below meth c QQ md base adk nf D dA hb sb h0 s0) := by
  obtain ⟨hx, hbb, hr, hml, hown, hts, hlk, hnm, hK, hKC, hbs, hnf, hRc, hRs, hh, hok, hfr, hlo⟩ := E
  intro pc nx a b lv st h o n f j x g0 g1 g2 g3 H locs cells slots ls I
  obtain ⟨pp, hd, hn, -⟩ := ps_at2 hok g0 rfl
  subst hn
  have he := ps_cw_at (dA := dA) (ad := ps_ad base adk) (nf := nf) g1
  have hD : va_D (fun q => base ≤ q) (ps_cw dA (ps_ad base adk) nf h) := ps_D (by have := I.2.2.2.2.1; omega) (fun q z => z)
  refine W.last hx hbb (I.2.1 o _ he) ((hK.2 1 _ rfl).1 n (fun k => .long (f k))) (fun q => by cases q) (by show ¬ (j < 0 ∨ (arrV _ _ _).slots.size ≤ _); rw [arrV_size]; exact g2) rfl rfl hd fun H1 e1 z1 oq => ?_
  refine g3 H1 _ cells slots ls (ps_Iset I g1 (by rfl) ?_ ?_ z1)
  · rw [ps_cw_set]
    refine I.2.1.set hD he ?_ oq
    show H1[_]? = some (vp_cell _ _)
    rw [e1]
    dsimp only [ps_ca]
    rw [vp_cell_l, vp_cell_l, arrV_store]
    congr 2
    funext q
    by_cases hq : q = j.toNatClampNeg
    · subst hq
      simp [updV, vp_updL]
      
    · simp [updV, vp_updL, hq]
  · exact I.2.2.1.put z1 oq (hD.2 o _ he)
end PSW
end
section
theorem ps_mw : ((Jvm.Cond.static Lib.Math.max.name ∈ ps_T ∧ Jvm.Cond.code Lib.Math.max.name Lib.Math.max.code 2 (some .int) ∈ ps_T) ∧ (Jvm.Cond.static Lib.Math.min.name ∈ ps_T ∧ Jvm.Cond.code Lib.Math.min.name Lib.Math.min.code 2 (some .int) ∈ ps_T) ∧ Jvm.Cond.initialized "java/lang/Math" ∈ ps_T) :=
  ⟨⟨ps_w_in (p := 1215) (by decide +kernel), ps_w_in (p := 1216) (by decide +kernel)⟩, ⟨ps_w_in (p := 537) (by decide +kernel), ps_w_in (p := 538) (by decide +kernel)⟩, ps_w_in (p := 121) (by decide +kernel)⟩
theorem ps_ow : Jvm.Cond.instanceMethod Lib.objectInit ∈ ps_T ∧ Jvm.Cond.code Lib.objectInit ⟨#[0xb1]⟩ 1 none ∈ ps_T := ⟨ps_w_in (p := 135) (by decide +kernel), ps_w_in (p := 136) (by decide +kernel)⟩
section PSX
variable {p : Program} {l : Launch} {e : Env} {R : Room} {s : State} {m : MethodId} {args : Array Value} {below : List Frame} {meth : Method} {c : Code} {QQ : State → Prop} {md : pm_M} {kp : pm_K} {base : Nat} {adk : Nat → Nat} {nf : Value} {D : va_G} {dA : Nat → ClassId} {hb sb h0 s0 : Nat} {C : pm_C} {Q : Option Value → pm_H → Prop}
theorem ps_aas (E : ps_E p R s m args meth c md kp base adk nf D dA hb sb h0 s0) : pr_aas kp md C hb sb Q (ps_PP p l e R s m args below meth c QQ md base adk nf D dA hb sb h0 s0) := by
  obtain ⟨hx, hbb, hr, hml, hown, hts, hlk, hnm, hK, hKC, hbs, hnf, hRc, hRs, hh, hok, hfr, hlo⟩ := E
  intro pc nx a b lv st h o n r f j fs g0 g1 g2 g3 g4 H locs cells slots ls I
  obtain ⟨pp, hd, hn, -⟩ := ps_at2 hok g0 rfl
  subst hn
  have he := ps_cw_at (dA := dA) (ad := ps_ad base adk) (nf := nf) g1
  have hv := ps_cw_at (dA := dA) (ad := ps_ad base adk) (nf := nf) g3
  have hD : va_D (fun q => base ≤ q) (ps_cw dA (ps_ad base adk) nf h) := ps_D (by have := I.2.2.2.2.1; omega) (fun q z => z)
  have hlt : j.toNatClampNeg < n := Nat.not_le.mp fun q => g2 (Or.inr q)
  have hj : ¬ j < 0 := fun q => g2 (Or.inl q)
  obtain ⟨r', hr', cellV, k1, k2, k3, -⟩ := I.2.1 r _ hv
  have hr5 : r' = ("TurnField$Position", pt_T5, 12) := (Option.some.inj hr').symm
  subst hr5
  have hcls := (hK.1 5 _ rfl).2
  obtain ⟨kA, comp, q1, q2, q3, -⟩ := (hK.2 4 _ rfl).2
  have hcomp : comp = D.1 5 := Option.some.inj (q3.symm.trans hcls.1)
  subst hcomp
  obtain ⟨kC, hkC, -⟩ := hcls.2
  refine W.aast hx hbb (I.2.1 o _ he) (fun q h => by cases h) (fun h => by cases h) q1 q2 rfl hkC ⟨hj, by show _ < (arrV _ _ _).slots.size; rw [arrV_size]; exact hlt⟩ k1 (fun q h => by rw [k3] at h; cases h) (by rw [k2]; exact hkC) (by rw [k2]; exact va_assign hcls) rfl rfl hd fun H1 e1 z1 oq => ?_
  refine g4 H1 _ cells slots ls (ps_Iset I g1 (by rfl) ?_ ?_ z1)
  · rw [ps_cw_set]
    refine I.2.1.set hD he ?_ oq
    show H1[_]? = some (vp_cell _ _)
    rw [e1]
    dsimp only [ps_ca]
    rw [vp_cell_q, vp_cell_q, arrV_store]
    congr 2
    funext q
    by_cases hq : q = j.toNatClampNeg
    · subst hq
      simp [updV, va_up, va_rf]
    · simp [updV, va_up, hq]
  · exact I.2.2.1.put z1 oq (hD.2 o _ he)
theorem ps_nra {v : Value} {fs fs1 : List Value} {b : Nat} (g : pm_set fs b v = some fs1) : b < fs.length ∧ fs1 = fs.set b v := by
  obtain ⟨h1, h2⟩ := ps_set_eq fs b v some fs1 g
  exact ⟨h1, (Option.some.inj h2).symm⟩
theorem ps_fitr {ty : FieldType} {k : Nat} (g : pm_fit ty (.retAddr k)) : False := by
  have := g.2
  cases ty <;> cases this
theorem ps_put (E : ps_E p R s m args meth c md kp base adk nf D dA hb sb h0 s0) : pr_put kp md C hb sb Q (ps_PP p l e R s m args below meth c QQ md base adk nf D dA hb sb h0 s0) := by
  obtain ⟨hx, hbb, hr, hml, hown, hts, hlk, hnm, hK, hKC, hbs, hnf, hRc, hRs, hh, hok, hfr, hlo⟩ := E
  intro pc nx a b lv st h n o fs fs1 v ty g0 g1 g2 g3 g4 g5 H locs cells slots ls I
  obtain ⟨pp, hd, hn, hw⟩ := ps_at2 hok g0 rfl
  subst hn
  have he := ps_cw_at (dA := dA) (ad := ps_ad base adk) (nf := nf) g1
  obtain ⟨hbl, rfl⟩ := ps_nra g4
  obtain ⟨CC, T, N, hc, hbN, hl⟩ := ps_fact hw
  obtain ⟨k1, k2, k3, k4⟩ := pk_all a CC T N hc
  obtain ⟨e1, e2⟩ := ps_put0 hc g2
  have hD : va_D (fun q => base ≤ q) (ps_cw dA (ps_ad base adk) nf h) := ps_D (by have := I.2.2.2.2.1; omega) (fun q z => z)
  obtain ⟨f1, f2⟩ := ps_fit (nf := nf) (ad := ps_ad base adk) g3 (fun k q => by subst q; exact ps_fitr g3)
  have hap := va_apart (own := md.1.cls) hts k1 (pm_tyk a) k3.1 k3.2.1 hK hc
  obtain ⟨r, h1, cell, q1, q2, q3, q4⟩ := I.2.1 o _ he
  have hr : r = (CC, T, N) := Option.some.inj (h1.symm.trans hc)
  subst hr
  obtain ⟨hS, hfc, kC, hkC, hkind⟩ := hK.1 a _ hc
  obtain ⟨cf, kf, fi, f, hi, hsl⟩ := hS b hbN
  have hlay := hts _ (k1 _ (u_in_lay hbN))
  unfold u_lay at hlay
  rw [if_neg (by rw [← e2]; decide)] at hlay
  have hst := (u_facts hfc hkC (u_lays hts k1 hbN) hi).1
  have h6 := u_store hfc hkC hkind hlay hi (by rw [k3.1 b hbN, ← e1]) f1 f2
  refine W.putK hx hbb (f := f) ⟨hown, hts _ hl, ⟨_, _, _, hi⟩, hst⟩ (by rw [q2]; exact h6) q1 q3 (by rw [hsl]; exact k2_hasslot (q4 b hbN)) rfl rfl hd fun H' z1 z2 z3 => ?_
  rw [hsl] at z1 ⊢
  refine g5 H' _ cells slots ls (ps_Iset I g1 (by show (fs.set b v).length = _; rw [List.length_set]; rfl) ?_ (I.2.2.1.put z2 z3 (hD.2 o _ he)) z2)
  rw [ps_cw_set]
  have key := I.2.1.set hD he (e := .inr (a, (fs.map (ps_cv (ps_ad base adk) nf)).set b (ps_cv (ps_ad base adk) nf v))) ⟨_, hc, t_OB.to (V := updV (vp_V (fs.map (ps_cv (ps_ad base adk) nf))) b (ps_cv (ps_ad base adk) nf v)) ⟨_, z1, q2, q3, t_set q4 hap hbN _⟩ (fun j _ => vp_updV_set (by rw [List.length_map]; exact hbl) _ j)⟩ z3
  rw [show ps_ce dA (ps_ad base adk) nf (.inr (a, fs.set b v)) = .inr (a, (fs.map (ps_cv (ps_ad base adk) nf)).set b (ps_cv (ps_ad base adk) nf v)) by show Sum.inr (a, (fs.set b v).map _) = _; rw [List.map_set]]
  exact key
theorem ps_puf (E : ps_E p R s m args meth c md kp base adk nf D dA hb sb h0 s0) : pr_puf kp md C hb sb Q (ps_PP p l e R s m args below meth c QQ md base adk nf D dA hb sb h0 s0) := by
  obtain ⟨hx, hbb, hr, hml, hown, hts, hlk, hnm, hK, hKC, hbs, hnf, hRc, hRs, hh, hok, hfr, hlo⟩ := E
  intro pc nx a b lv st h n o fs fs1 v ty g0 g1 g2 gi g3 g4 g5 H locs cells slots ls I
  obtain ⟨pp, hd, hn, hw⟩ := ps_at2 hok g0 rfl
  subst hn
  have he := ps_cw_at (dA := dA) (ad := ps_ad base adk) (nf := nf) g1
  obtain ⟨hbl, rfl⟩ := ps_nra g4
  obtain ⟨CC, T, N, hc, hbN, hl⟩ := ps_fact hw
  obtain ⟨k1, k2, k3, k4⟩ := pk_all a CC T N hc
  obtain ⟨e1, e2⟩ := ps_put0 hc g2
  have hD : va_D (fun q => base ≤ q) (ps_cw dA (ps_ad base adk) nf h) := ps_D (by have := I.2.2.2.2.1; omega) (fun q z => z)
  obtain ⟨f1, f2⟩ := ps_fit (nf := nf) (ad := ps_ad base adk) g3 (fun k q => by subst q; exact ps_fitr g3)
  have hap := va_apart (own := md.1.cls) hts k1 (pm_tyk a) k3.1 k3.2.1 hK hc
  obtain ⟨r, h1, cell, q1, q2, q3, q4⟩ := I.2.1 o _ he
  have hr : r = (CC, T, N) := Option.some.inj (h1.symm.trans hc)
  subst hr
  have hdecl : (T b).1 = md.1.cls := by
    have := gi.2
    rw [hc] at this
    rw [k3.2.2 b hbN]
    exact Option.some.inj this
  obtain ⟨hS, hfc, kC, hkC, hkind⟩ := hK.1 a _ hc
  obtain ⟨cf, kf, fi, f, hi, hsl⟩ := hS b hbN
  have hlay := hts _ (k1 _ (u_in_lay hbN))
  unfold u_lay at hlay
  rw [if_pos e2.symm] at hlay
  have hst := (u_facts hfc hkC (u_lays hts k1 hbN) hi).1
  have hcf : m.cls = cf := by
    obtain ⟨_, _, c', _, _, _, -, -, hf', -, -, -, hown2, -⟩ := Cond.laysFinal_spec hlay
    have e1 : c' = cf := by have := hi.symm.trans hf'; simp at this; exact this.1.symm
    rw [hdecl] at hown2
    rw [← e1]; exact Option.some.inj (hown.symm.trans hown2)
  have h6 := u_fits hfc hkC hkind (Or.inr hlay) hi (by rw [k3.1 b hbN, ← e1]) f1 f2
  refine W.putFinK hx hbb hown (hts _ hl) hi hst hcf (by rw [hnm]; exact gi.1) (by rw [q2]; exact h6) q1 q3 (by rw [hsl]; exact k2_hasslot (q4 b hbN)) rfl rfl hd fun H' z1 z2 z3 => ?_
  rw [hsl] at z1 ⊢
  refine g5 H' _ cells slots ls (ps_Iset I g1 (by show (fs.set b v).length = _; rw [List.length_set]; rfl) ?_ (I.2.2.1.put z2 z3 (hD.2 o _ he)) z2)
  rw [ps_cw_set]
  have key := I.2.1.set hD he (e := .inr (a, (fs.map (ps_cv (ps_ad base adk) nf)).set b (ps_cv (ps_ad base adk) nf v))) ⟨_, hc, t_OB.to (V := updV (vp_V (fs.map (ps_cv (ps_ad base adk) nf))) b (ps_cv (ps_ad base adk) nf v)) ⟨_, z1, q2, q3, t_set q4 hap hbN _⟩ (fun j _ => vp_updV_set (by rw [List.length_map]; exact hbl) _ j)⟩ z3
  rw [show ps_ce dA (ps_ad base adk) nf (.inr (a, fs.set b v)) = .inr (a, (fs.map (ps_cv (ps_ad base adk) nf)).set b (ps_cv (ps_ad base adk) nf v)) by show Sum.inr (a, (fs.set b v).map _) = _; rw [List.map_set]]
  exact key
theorem ps_mmx (E : ps_E p R s m args meth c md kp base adk nf D dA hb sb h0 s0) : pr_mmx kp md C hb sb Q (ps_PP p l e R s m args below meth c QQ md base adk nf D dA hb sb h0 s0) := by
  obtain ⟨hx, hbb, hr, hml, hown, hts, hlk, hnm, hK, hKC, hbs, hnf, hRc, hRs, hh, hok, hfr, hlo⟩ := E
  intro pc nx a b lv st h n x y g0 g1 g2 g3 H locs cells slots ls I
  obtain ⟨pp, hd, hn, hw⟩ := ps_at2 hok g0 rfl
  subst hn
  subst g1
  obtain ⟨w1, w2, w3⟩ := ps_mw
  exact va_mmax hx hbb (by rw [hml]; exact I.1.1.symm) hown (hts _ (ps_w_in hw)) (hts _ w1.1) (hts _ w3) (hts _ w1.2) hfr (by rw [ps_cats hnf]; omega) (by have := I.2.2.2.2.1; have := I.2.2.2.2.2.2.1; omega) (by have := I.2.2.2.2.2.1; have := I.2.2.2.2.2.2.2; omega) hd (g3 H locs cells slots ls I)
theorem ps_mmn (E : ps_E p R s m args meth c md kp base adk nf D dA hb sb h0 s0) : pr_mmn kp md C hb sb Q (ps_PP p l e R s m args below meth c QQ md base adk nf D dA hb sb h0 s0) := by
  obtain ⟨hx, hbb, hr, hml, hown, hts, hlk, hnm, hK, hKC, hbs, hnf, hRc, hRs, hh, hok, hfr, hlo⟩ := E
  intro pc nx a b lv st h n x y g0 g1 g2 g3 H locs cells slots ls I
  obtain ⟨pp, hd, hn, hw⟩ := ps_at2 hok g0 rfl
  subst hn
  subst g1
  obtain ⟨w1, w2, w3⟩ := ps_mw
  exact va_mmin hx hbb (by rw [hml]; exact I.1.1.symm) hown (hts _ (ps_w_in hw)) (hts _ w2.1) (hts _ w3) (hts _ w2.2) hfr (by rw [ps_cats hnf]; omega) (by have := I.2.2.2.2.1; have := I.2.2.2.2.2.2.1; omega) (by have := I.2.2.2.2.2.1; have := I.2.2.2.2.2.2.2; omega) hd (g3 H locs cells slots ls I)
theorem ps_obj (E : ps_E p R s m args meth c md kp base adk nf D dA hb sb h0 s0) : pr_obj kp md C hb sb Q (ps_PP p l e R s m args below meth c QQ md base adk nf D dA hb sb h0 s0) := by
  obtain ⟨hx, hbb, hr, hml, hown, hts, hlk, hnm, hK, hKC, hbs, hnf, hRc, hRs, hh, hok, hfr, hlo⟩ := E
  intro pc nx a b lv st h n o g0 g1 gc g2 H locs cells slots ls I
  obtain ⟨pp, hd, hn, hw⟩ := ps_at2 hok g0 rfl
  subst hn
  subst g1
  refine W.objInit hx hbb hown (hts _ (ps_w_in hw)) (hts _ ps_ow.1) (hts _ ps_ow.2) rfl (by rw [hml]; exact I.1.1) rfl hd hfr (by show 2 * (F0 m pc ls _).monitorRoom + _ + 12 ≤ _; have := lv_room (pc := pc) (ls := ls) (m := m) (rest := (Value.ref o :: st).map (ps_cv (ps_ad base adk) nf)) (st := st.map (ps_cv (ps_ad base adk) nf)) (by rw [ps_cats hnf]; exact gc); omega) ?_
  exact g2 H locs cells slots ls I
end PSX
end
section
theorem ps_arw : ∀ a, a ≤ 3 → Jvm.Cond.arrayClass (ps_aty a) ∈ ps_T
  | 0, _ => ps_w_in (p := 288) (by decide +kernel)
  | 1, _ => ps_w_in (p := 209) (by decide +kernel)
  | 2, _ => ps_w_in (p := 256) (by decide +kernel)
  | 3, _ => ps_w_in (p := 1443) (by decide +kernel)
  | k + 4, h => by omega
section PSY
variable {p : Program} {l : Launch} {e : Env} {R : Room} {s : State} {m : MethodId} {args : Array Value} {below : List Frame} {meth : Method} {c : Code} {QQ : State → Prop} {md : pm_M} {kp : pm_K} {base : Nat} {adk : Nat → Nat} {nf : Value} {D : va_G} {dA : Nat → ClassId} {hb sb h0 s0 : Nat} {C : pm_C} {Q : Option Value → pm_H → Prop}
theorem ps_adh {k : Nat} (h : k < 1000000) : ps_ad base adk k = base + k := if_pos h
theorem ps_new (E : ps_E p R s m args meth c md kp base adk nf D dA hb sb h0 s0) : pr_new kp md C hb sb Q (ps_PP p l e R s m args below meth c QQ md base adk nf D dA hb sb h0 s0) := by
  obtain ⟨hx, hbb, hr, hml, hown, hts, hlk, hnm, hK, hKC, hbs, hnf, hRc, hRs, hh, hok, hfr, hlo⟩ := E
  intro pc nx a b lv st h n fs g0 g1 g2 g3 g4 g5 g6 H locs cells slots ls I
  obtain ⟨pp, hd, hn, hw⟩ := ps_at2 hok g0 rfl
  subst hn
  obtain ⟨i1, i2, i3, i4, i5, i6, i7, i8⟩ := I
  cases hc : pt_cl[a]? with
  | none =>
    have ha : 12 ≤ a := by
      have := List.getElem?_eq_none_iff.mp hc
      exact this
    match a, ha, g2 with
    | k + 12, _, g2 => cases g2
  | some q =>
    obtain ⟨CC, T, N⟩ := q
    obtain ⟨k1, k2, k3, k4⟩ := pk_all a CC T N hc
    have hw2 : ps_w pp (.classLink md.1.cls n CC) = true := by
      simp only [ps_wok, hc] at hw
      exact hw
    rcases k4 with q | ⟨fs2, q1, q2, q3⟩
    · rw [q] at g2; cases g2
    · have ef : fs2 = fs := Option.some.inj (q1.symm.trans g2)
      subst ef
      have hKn := hK.1 a _ hc
      refine W.newcK hx hbb hown (hts _ (ps_w_in hw2)) (hts _ k2.1) (hts _ k2.2) rfl hd (by omega) (by omega) hKn.2.1 rfl fun H1 kC hkC e1 z1 o1 => ?_
      have hk : ∀ (k : Nat) (x : Nat × va_E), (ps_cw dA (ps_ad base adk) nf h)[k]? = some x → H1[x.1]? = H[x.1]? := fun k x hx => o1 x.1 ((i2 k x hx).lt)
      have hf2 : ∀ j, j < N → defaultValue (pm_tyk a j) = vp_V (fs2.map (ps_cv (ps_ad base adk) nf)) j := fun j hj => by
        rw [q3 j hj]
        unfold vp_V
        rw [List.getD_eq_getElem?_getD, List.getD_eq_getElem?_getD, List.getElem?_map]
        have hj2 : j < fs2.length := by omega
        rw [List.getElem?_eq_getElem hj2]
        show fs2[j] = ps_cv _ _ fs2[j]
        have h9 := q3 j hj
        unfold vp_V at h9
        rw [List.getD_eq_getElem?_getD, List.getElem?_eq_getElem hj2] at h9
        have h10 : fs2[j] = defaultValue (pm_tyk a j) := h9.symm
        rw [h10]
        cases pm_tyk a j <;> rfl
      have e7 : ps_ad base adk h.length = H.size := by rw [ps_adh (by omega), i4]
      have key := g6 H1 locs (cells + 1) (slots + N) ls ⟨i1, ?_, ⟨Nat.le_trans i3.1 (by omega), fun x h1 h2 => (o1 x (Nat.lt_of_lt_of_le h1 i3.1)).trans (i3.2.1 x h1 h2), i3.2.2⟩, ?_, ?_, ?_, ?_, ?_⟩
      · rw [List.map_cons, show ps_cv (ps_ad base adk) nf (.ref h.length) = .ref H.size by show Value.ref _ = _; rw [e7]] at key
        exact key
      · rw [ps_cw_app, e7]
        refine (i2.kept hk).app (fun k x hx => ?_)
        have hz : k < 1 := (List.getElem?_eq_some_iff.mp hx).1
        rw [show k = 0 by omega] at hx
        cases hx
        exact ⟨_, hc, (u_born (pm_tyk a) hts k1 hKn hkC e1 k3.1).to hf2⟩
      · rw [z1, i4, List.length_append]; show _ = base + (h.length + 1); omega
      · rw [List.length_append]; exact g3
      · rw [ps_sl_app]; show _ + (fs2.length + 0) ≤ _; omega
      · rw [List.length_append]; show _ ≤ h.length + 1; omega
      · rw [ps_sl_app]; show _ ≤ _ + (fs2.length + 0); omega
theorem ps_nwa (E : ps_E p R s m args meth c md kp base adk nf D dA hb sb h0 s0) : pr_nwa kp md C hb sb Q (ps_PP p l e R s m args below meth c QQ md base adk nf D dA hb sb h0 s0) := by
  obtain ⟨hx, hbb, hr, hml, hown, hts, hlk, hnm, hK, hKC, hbs, hnf, hRc, hRs, hh, hok, hfr, hlo⟩ := E
  intro pc nx a b lv st h ty n N g0 g1 g2 g3 g4 g5 g6 g7 g8 H locs cells slots ls I
  obtain ⟨pp, hd, hn, hw⟩ := ps_at2 hok g0 rfl
  subst hn
  obtain ⟨i1, i2, i3, i4, i5, i6, i7, i8⟩ := I
  obtain ⟨w1, w2⟩ := Bool.and_eq_true_iff.mp hw
  have w1 := Nat.le_of_ble_eq_true w1
  have w2 : newarray.typeOf ty = ps_aty a := of_decide_eq_true w2
  have hcb : N * componentBytes (newarray.typeOf ty) ≤ 536870912 := by
    have : componentBytes (newarray.typeOf ty) ≤ 8 := by cases ty <;> decide
    calc N * componentBytes (newarray.typeOf ty) ≤ N * 8 := Nat.mul_le_mul_left _ this
      _ ≤ 1000000 * 8 := Nat.mul_le_mul_right _ g4
      _ ≤ 536870912 := by decide
  have harr : Jvm.Cond.arrayClass (newarray.typeOf ty) ∈ ps_T := by
    rw [w2]
    have := ps_arw a w1
    exact this
  refine va_newaK hx hbb (hts _ harr) rfl hd rfl g2 g3 hcb (by omega) (by omega) rfl fun H1 cA e1 z1 o1 hAr hNm => ?_
  have hk : ∀ (k : Nat) (x : Nat × va_E), (ps_cw dA (ps_ad base adk) nf h)[k]? = some x → H1[x.1]? = H[x.1]? := fun k x hx => o1 x.1 ((i2 k x hx).lt)
  have e7 : ps_ad base adk h.length = H.size := by rw [ps_adh (by omega), i4]
  have hty : (ps_tys dA)[a]? = some (dA a, newarray.typeOf ty) ∧ ∀ cA : ClassId, va_at D pt_cl (H.size, .inl (cA, ps_ca (ps_ad base adk) (N, pm_zer a))) H1 = (H1[H.size]? = some (arrV cA N (fun _ => defaultValue (newarray.typeOf ty)))) := by
    rw [w2]
    match a, w1 with
    | 0, _ => exact ⟨rfl, fun _ => rfl⟩
    | 1, _ => exact ⟨rfl, fun _ => rfl⟩
    | 2, _ => exact ⟨rfl, fun _ => rfl⟩
    | 3, _ => exact ⟨rfl, fun _ => rfl⟩
    | k + 4, w => omega
  have hcA : cA = dA a := by
    have h1 := (hK.2 a _ hty.1).2
    have h2 : s.vm.findClass ("[" ++ (newarray.typeOf ty).toString) = some (dA a) := by
      cases ty <;> exact h1
    exact Option.some.inj (hNm.symm.trans h2)
  subst hcA
  have key := g8 H1 locs (cells + 1) (slots + N) ls ⟨i1, ?_, ⟨Nat.le_trans i3.1 (by omega), fun x h1 h2 => (o1 x (Nat.lt_of_lt_of_le h1 i3.1)).trans (i3.2.1 x h1 h2), i3.2.2⟩, ?_, ?_, ?_, ?_, ?_⟩
  · rw [List.map_cons, show ps_cv (ps_ad base adk) nf (.ref h.length) = .ref H.size by show Value.ref _ = _; rw [e7]] at key
    exact key
  · rw [ps_cw_app, e7]
    refine (i2.kept hk).app (fun k x hx => ?_)
    have hz : k < 1 := (List.getElem?_eq_some_iff.mp hx).1
    rw [show k = 0 by omega] at hx
    cases hx
    show va_at D pt_cl (H.size, .inl (dA a, ps_ca (ps_ad base adk) (N, pm_zer a))) H1
    rw [hty.2]
    exact e1
  · rw [z1, i4, List.length_append]; show _ = base + (h.length + 1); omega
  · rw [List.length_append]; exact g5
  · rw [ps_sl_app]; show _ + (N + 0) ≤ _; omega
  · rw [List.length_append]; show _ ≤ h.length + 1; omega
  · rw [ps_sl_app]; show _ ≤ _ + (N + 0); omega
theorem ps_nwr (E : ps_E p R s m args meth c md kp base adk nf D dA hb sb h0 s0) : pr_nwr kp md C hb sb Q (ps_PP p l e R s m args below meth c QQ md base adk nf D dA hb sb h0 s0) := by
  obtain ⟨hx, hbb, hr, hml, hown, hts, hlk, hnm, hK, hKC, hbs, hnf, hRc, hRs, hh, hok, hfr, hlo⟩ := E
  intro pc nx a b lv st h i n N g0 g1 g2 g3 g4 g5 g6 g7 g8 H locs cells slots ls I
  obtain ⟨pp, hd, hn, hw⟩ := ps_at2 hok g0 rfl
  subst hn
  obtain ⟨i1, i2, i3, i4, i5, i6, i7, i8⟩ := I
  have hover := hKC.2.2.2.2.2.2.2.2.2.2.1
  subst g3
  refine W.anew hx hbb hown (hts _ (ps_w_in hw)) (va_AO.use hover) rfl hd rfl g2 (by omega) (by omega) (by omega) fun cA kA comp f1 f2 f3 f4 => ?_
  generalize hH1 : H.push ({ cls := cA, slots := Array.replicate n.toNatClampNeg .null, vm := .none } : Cell) = H1
  have z1 : H1.size = H.size + 1 := by rw [← hH1, Array.size_push]
  have e1 : H1[H.size]? = some (arrV cA n.toNatClampNeg (fun _ => .null)) := by rw [← hH1, Array.getElem?_push_size, ← arrV_new]
  have o1 : ∀ q : Nat, q < H.size → H1[q]? = H[q]? := fun q hq => by rw [← hH1, Array.getElem?_push, if_neg (Nat.ne_of_lt hq)]
  have hk : ∀ (k : Nat) (x : Nat × va_E), (ps_cw dA (ps_ad base adk) nf h)[k]? = some x → H1[x.1]? = H[x.1]? := fun k x hx => o1 x.1 ((i2 k x hx).lt)
  have e7 : ps_ad base adk h.length = H.size := by rw [ps_adh (by omega), i4]
  have hcA : cA = dA 4 := by
    obtain ⟨kA2, comp2, -, -, -, h4⟩ := (hK.2 4 _ rfl).2
    exact Option.some.inj (f1.symm.trans h4)
  subst hcA
  have key := g8 H1 locs (cells + 1) (slots + n.toNatClampNeg) ls ⟨i1, ?_, ⟨Nat.le_trans i3.1 (by omega), fun x h1 h2 => (o1 x (Nat.lt_of_lt_of_le h1 i3.1)).trans (i3.2.1 x h1 h2), i3.2.2⟩, ?_, ?_, ?_, ?_, ?_⟩
  · rw [List.map_cons, show ps_cv (ps_ad base adk) nf (.ref h.length) = .ref H.size by show Value.ref _ = _; rw [e7]] at key
    exact key
  · rw [ps_cw_app, e7]
    refine (i2.kept hk).app (fun k x hx => ?_)
    have hz : k < 1 := (List.getElem?_eq_some_iff.mp hx).1
    rw [show k = 0 by omega] at hx
    cases hx
    exact e1
  · rw [z1, i4, List.length_append]; show _ = base + (h.length + 1); omega
  · rw [List.length_append]; exact g5
  · rw [ps_sl_app]; show _ + (n.toNatClampNeg + 0) ≤ _; omega
  · rw [List.length_append]; show _ ≤ h.length + 1; omega
  · rw [ps_sl_app]; show _ ≤ _ + (n.toNatClampNeg + 0); omega
theorem ps_nwm (E : ps_E p R s m args meth c md kp base adk nf D dA hb sb h0 s0) : pr_nwm kp md C hb sb Q (ps_PP p l e R s m args below meth c QQ md base adk nf D dA hb sb h0 s0) := sorry
end PSY
end
section
/-! CALLS, ENDS, THE WHOLE -/
noncomputable def ps_Pc (base : Nat) (adk : Nat → Nat) (nf : Value) (D : va_G) (dA : Nat → ClassId) (kp : pm_K) (as : List Value) (h : pm_H) : Array Value → State → Prop :=
  va_Pc (as.map (ps_cv (ps_ad base adk) nf)) (fun U => U.heap.size = base + h.length ∧ va_P D pt_cl (ps_cw dA (ps_ad base adk) nf h) U.heap ∧ va_K D pt_cl (ps_tys dA) U ∧ ps_KC adk nf kp (fun q => base ≤ q) U U.heap)
def ps_Qc (base : Nat) (adk : Nat → Nat) (nf : Value) (D : va_G) (dA : Nat → ClassId) (r : Option Value) (h1 : pm_H) : Array Value → State → Outcome → State → Prop := fun _ st oc t =>
  oc = .returned (r.map (ps_cv (ps_ad base adk) nf)) ∧ va_P D pt_cl (ps_cw dA (ps_ad base adk) nf h1) t.heap ∧ t.heap.size = base + h1.length ∧ va_F (fun q => base ≤ q) st t
def ps_rm (d : Nat) (h h1 : pm_H) : Room := { frames := d, cells := h1.length - h.length, slots := pm_sl h1 - pm_sl h, locals := 60 * d }
theorem ps_blind {base : Nat} {adk : Nat → Nat} {nf : Value} {D : va_G} {dA : Nat → ClassId} {kp : pm_K} {as : List Value} {h : pm_H} : FrameBlind (ps_Pc base adk nf D dA kp as h) := fun a U g mk q => by
  obtain ⟨q0, q1, q2, q3, q4⟩ := q
  exact ⟨q0, q1, q2, va_K.moved (u := U) (U := U.calling g mk a) (Vm.Alike.refl U.vm) q3, ps_KC.go (s := U) (U := U.calling g mk a) (State.WarmedH.refl U) (fun _ _ _ => rfl) q4⟩
/-- what is known of a relation of calls -/
def ps_CS (l : Launch) (kp : pm_K) (base : Nat) (adk : Nat → Nat) (nf : Value) (D : va_G) (dA : Nat → ClassId) (d : Nat) (C : pm_C) : Prop := ∀ (k : Nat) (as : List Value) (h : pm_H) (r : Option Value) (h1 : pm_H), C k as h r h1 → ∀ m2, pt_M[k]? = some m2 → (ps_ok m2 && ps_mok m2) = true →
  h1.length ≤ 100000 →
  Met l m2.1 (.code m2.1 m2.2.1 m2.2.2.1 (pm_ret m2) :: ps_T) (ps_rm d h h1) (ps_Pc base adk nf D dA kp as h) (ps_Qc base adk nf D dA r h1) (h1.length - h.length) (pm_sl h1 - pm_sl h) (fun q => base ≤ q) ∧
    h.length ≤ h1.length ∧ pm_sl h ≤ pm_sl h1 ∧ (pm_al m2 = false → h1.length = h.length ∧ pm_sl h1 = pm_sl h)
theorem ps_T_good {m2 : pm_M} (hok : (ps_ok m2 && ps_mok m2) = true) : GoodIn ps_T (.code m2.1 m2.2.1 m2.2.2.1 (pm_ret m2) :: ps_T) := by
  have hg : ∀ w ∈ ps_T, w ∈ ps_T ∧ ((w.onTables && w.keeps) = true ∨ ∃ ty, w = .arrayClass ty) := fun w hw => ⟨hw, good_of_word (List.mem_filter.mp hw).2⟩
  intro w hw
  rcases List.mem_cons.mp hw with rfl | h
  · refine hg _ ?_
    obtain ⟨-, h2⟩ := Bool.and_eq_true_iff.mp hok
    unfold ps_mok at h2
    split at h2
    · simp only [Bool.and_eq_true] at h2
      exact ps_w_in h2.1.1.1.1.1
    · cases h2
  · exact hg w h
/-- the words of a method -/
theorem ps_mw2 {m2 : pm_M} (hok : (ps_ok m2 && ps_mok m2) = true) : Jvm.Cond.code m2.1 m2.2.1 m2.2.2.1 (pm_ret m2) ∈ ps_T ∧ Jvm.Cond.initialized m2.1.cls ∈ ps_T ∧ (m2.1.cls ≠ "java/lang/invoke/MethodHandle" ∧ m2.1.cls ≠ "java/lang/invoke/VarHandle") ∧ plainName m2.1.cls = true ∧ m2.2.2.1 ≤ 40 ∧
    (pm_kind m2 = 1 → Jvm.Cond.static m2.1 ∈ ps_T) ∧ (pm_kind m2 = 2 → Jvm.Cond.instanceMethod m2.1 ∈ ps_T ∧ m2.1.name = "<init>" ∧ pm_ret m2 = none) ∧ (pm_kind m2 = 0 → Jvm.Cond.instanceMethod m2.1 ∈ ps_T ∧ Jvm.Cond.selects m2.1.cls m2.1 m2.1 ∈ ps_T) := by
  obtain ⟨-, h2⟩ := Bool.and_eq_true_iff.mp hok
  unfold ps_mok at h2
  split at h2
  · rename_i k p1 p2 p3 p4 hk
    simp only [Bool.and_eq_true] at h2
    obtain ⟨⟨⟨⟨⟨a1, a2⟩, a3⟩, a4⟩, a5⟩, a6⟩ := h2
    have e : pm_kind m2 = k := by unfold pm_kind; rw [hk]; rfl
    rw [e]
    refine ⟨ps_w_in a1, ps_w_in a2, of_decide_eq_true a3, a4, Nat.le_of_ble_eq_true a5, fun q => ?_, fun q => ?_, fun q => ?_⟩
    · subst q; exact ps_w_in a6
    · subst q
      dsimp only [Nat.beq, cond_true, cond_false] at a6
      simp only [Bool.and_eq_true] at a6
      exact ⟨ps_w_in a6.1.1, of_decide_eq_true a6.1.2, of_decide_eq_true a6.2⟩
    · subst q
      dsimp only [Nat.beq, cond_true, cond_false] at a6
      simp only [Bool.and_eq_true] at a6
      exact ⟨ps_w_in a6.1, ps_w_in a6.2⟩
  · cases h2
section PSZ
variable {p : Program} {l : Launch} {e : Env} {R : Room} {s : State} {m : MethodId} {args : Array Value} {below : List Frame} {meth : Method} {c : Code} {QQ : State → Prop} {md : pm_M} {kp : pm_K} {base : Nat} {adk : Nat → Nat} {nf : Value} {D : va_G} {dA : Nat → ClassId} {hb sb h0 s0 : Nat} {C : pm_C} {Q : Option Value → pm_H → Prop}
theorem ps_callg {H : Heap} {locs : List Loc} {cells slots mc ms pc : Nat} {ls : Array Slot} {st0 rest : List Value} {a : Array Value} {r : Option Value} {h1 : pm_H} (hbs : base ≤ s.heap.size)
    (hr : va_Run p l e R s m args below meth c H locs cells slots mc ms (F0 m pc ls st0) rest (ps_Qc base adk nf D dA r h1 a) (fun q => base ≤ q)) (hS : va_S (fun q => base ≤ q) s.heap H locs)
    (kk : ∀ (H1 : Heap) (locs1 : List Loc), va_P D pt_cl (ps_cw dA (ps_ad base adk) nf h1) H1 → H1.size = base + h1.length → va_S (fun q => base ≤ q) s.heap H1 locs1 → W p l e R s m args below meth c H1 locs1 (cells + mc) (slots + ms) QQ (F0 m (pc + 3) ls ((r.map (ps_cv (ps_ad base adk) nf)).toList ++ rest))) :
    W p l e R s m args below meth c H locs cells slots QQ (F0 m pc ls st0) := by
  intro T hT X
  obtain ⟨v, st₀, t, T', L, q0, X', hL, e1, e2, ⟨hv, hp, hz, hzz, hk⟩, st⟩ := hr T hT X
  cases hv
  rw [q0] at hzz hk
  obtain ⟨t2, a1, b1⟩ := kk T'.heap (locs ++ L) (by rw [e1]; exact hp) (by rw [e1]; exact hz)
    ⟨Nat.le_trans hS.1 (by rw [e1]; exact hzz), fun q h1 h2 => by rw [e1, hk q (Nat.lt_of_lt_of_le h1 hS.1) h2]; exact hS.2.1 q h1 h2, fun q hq => by
      rcases List.mem_append.mp hq with h | h
      · exact hS.2.2 q h
      · exact hL q h⟩ T' rfl X'
  exact ⟨t2, st t2 a1, b1⟩
theorem ps_pu (ad : Nat → Nat) (r : Option Value) (rest : List Value) : (r.map (ps_cv ad nf)).toList ++ rest.map (ps_cv ad nf) = (pm_pu r rest).map (ps_cv ad nf) := by
  cases r <;> rfl
theorem ps_kst {k n : Nat} (h : pm_knd k n) : ∃ m2, pt_M[k]? = some m2 ∧ pm_kind m2 = n := by
  unfold pm_knd at h
  cases hk : pt_M[k]? with
  | none => rw [hk] at h; cases h
  | some m2 => rw [hk] at h; exact ⟨m2, rfl, Option.some.inj h⟩
theorem ps_okk {k n : Nat} {m2 : pm_M} (h : pt_M[k]? = some m2) (hn : pm_kind m2 = n + 1 ∨ m2.2.2.2.2.2.1 ≠ []) : (ps_ok m2 && ps_mok m2) = true := by
  rcases ps_all m2 (List.mem_of_getElem? h) with q | q
  · exact q
  · rcases hn with hn | hn
    · unfold pm_kind at hn
      rw [q.1] at hn
      cases hn
    · exact absurd q.1 hn
theorem ps_room {h h1 : pm_H} {cells slots : Nat} {x : Prop} (hbh : h1.length ≤ hb) (hsb : pm_sl h1 ≤ sb) (i7 : cells + h0 ≤ h.length) (i8 : slots + s0 ≤ pm_sl h) (e1 : h.length ≤ h1.length) (e2 : pm_sl h ≤ pm_sl h1) (hRc : hb ≤ R.cells + h0) (hRs : sb ≤ R.slots + s0) :
    cells + (h1.length - h.length) ≤ R.cells ∧ slots + (pm_sl h1 - pm_sl h) ≤ R.slots := by omega
theorem ps_lN {m2 : pm_M} {n : Nat} (h : ps_npar m2.1 = some n) : (parseMethodDescriptor m2.1.desc).map (fun d => d.parameters.length) = some n := h
theorem ps_cls (hCS : ∃ d, ps_CS l kp base adk nf D dA d C ∧ d + 1 ≤ R.frames ∧ 59 + 60 * d ≤ R.locals) (E : ps_E p R s m args meth c md kp base adk nf D dA hb sb h0 s0) : pr_cls kp md C hb sb Q (ps_PP p l e R s m args below meth c QQ md base adk nf D dA hb sb h0 s0) := by
  obtain ⟨hx, hbb, hr, hml, hown, hts, hlk, hnm, hK, hKC, hbs, hnf, hRc, hRs, hh, hok, hfr, hlo⟩ := E
  obtain ⟨d, hC, hd1, hd2⟩ := hCS
  intro pc nx a b lv st h i n as rest r h1 g0 g1 g2 g3 g4 g5 g6 g7 H locs cells slots ls I
  subst g1
  obtain ⟨pp, hd, hn, hw⟩ := ps_at2 hok g0 rfl
  subst hn
  obtain ⟨m2, hm, hk⟩ := ps_kst g2
  have hok2 := ps_okk (n := 0) hm (Or.inl hk)
  obtain ⟨i1, i2, i3, i4, i5, i6, i7, i8⟩ := I
  have hal : pm_mal a = pm_al m2 := by unfold pm_mal; rw [hm]
  have hbd : ∀ q : h.length ≤ h1.length ∧ pm_sl h ≤ pm_sl h1 ∧ (pm_al m2 = false → h1.length = h.length ∧ pm_sl h1 = pm_sl h), h1.length ≤ hb ∧ pm_sl h1 ≤ sb := fun q => by
    rcases g5 with z | z
    · rw [hal] at z
      have := q.2.2 z
      omega
    · exact ⟨z.2.1, z.2.2⟩
  sorry
end PSZ
end
section
/-! the shape of the heap behind the constructors; printed by wip/whole/g/lay.py -/
def qm_lay : List (Nat × Nat) := [(110, 0), (105, 0), (1, 8), (1, 16), (102, 0), (4, 10), (105, 0), (1, 8), (1, 16), (105, 0), (1, 8), (1, 16), (105, 0), (1, 8), (1, 16), (105, 0), (1, 8), (1, 16), (105, 0), (1, 8), (1, 16), (105, 0), (1, 8), (1, 16), (105, 0), (1, 8), (1, 16), (105, 0), (1, 8), (1, 16), (105, 0), (1, 8), (1, 16), (105, 0), (1, 8), (1, 16), (4, 2), (105, 0), (1, 8), (1, 16), (105, 0), (1, 8), (1, 16), (109, 0), (2, 120), (105, 0), (1, 8), (1, 16), (103, 0), (106, 0), (0, 12), (0, 12), (0, 2048), (1, 64), (106, 0), (0, 12), (0, 12), (0, 2048), (1, 64), (0, 4096), (101, 0), (0, 4096), (0, 256), (0, 13), (107, 0), (1, 64), (1, 64), (108, 0), (1, 32), (0, 4), (104, 0), (1, 4), (1, 4), (1, 4), (1, 16), (1, 16), (1, 16), (1, 16), (1, 16), (5, 16), (1, 16), (1, 16), (1, 16), (1, 16), (1, 16), (1, 16), (1, 16), (1, 16), (1, 16), (1, 16), (1, 16), (1, 16), (1, 16), (1, 16), (1, 16), (1, 16), (5, 8), (1, 16), (1, 16), (1, 16), (1, 16), (1, 16), (1, 16), (1, 16), (1, 16), (0, 7), (1, 8), (100, 0), (1, 8), (1, 8), (1, 4), (1, 8), (111, 0), (1, 33), (1, 330), (1, 66), (3, 2), (1, 4096), (1, 7), (1, 66), (1, 64), (1, 64), (1, 64), (1, 4), (1, 4), (1, 4), (1, 5), (1, 32), (0, 4), (2, 120), (0, 2), (0, 2), (0, 2), (0, 24), (3, 65536), (0, 36), (0, 36), (3, 4096), (0, 4096), (0, 13), (0, 4096)]
def qm_rft : List (List Nat) := [[1, 4, 36, 43, 48, 60, 64, 67, 70, 107], [0, 0, 0, 0, 0, 0, 0, 2, 0, 0, 3, 0], [], [], [5, 0, 0], [6, 9, 12, 15, 18, 21, 24, 27, 30, 33], [0, 0, 0, 0, 0, 0, 0, 7, 0, 0, 8, 0], [], [], [0, 0, 0, 0, 0, 0, 0, 10, 0, 0, 11, 0], [], [], [0, 0, 0, 0, 0, 0, 0, 13, 0, 0, 14, 0], [], [], [0, 0, 0, 0, 0, 0, 0, 16, 0, 0, 17, 0], [], [], [0, 0, 0, 0, 0, 0, 0, 19, 0, 0, 20, 0], [], [], [0, 0, 0, 0, 0, 0, 0, 22, 0, 0, 23, 0], [], [], [0, 0, 0, 0, 0, 0, 0, 25, 0, 0, 26, 0], [], [], [0, 0, 0, 0, 0, 0, 0, 28, 0, 0, 29, 0], [], [], [0, 0, 0, 0, 0, 0, 0, 31, 0, 0, 32, 0], [], [], [0, 0, 0, 0, 0, 0, 0, 34, 0, 0, 35, 0], [], [], [37, 40], [0, 0, 0, 0, 0, 0, 0, 38, 0, 0, 39, 0], [], [], [0, 0, 0, 0, 0, 0, 0, 41, 0, 0, 42, 0], [], [], [44, 45, 0, 0, 0], [], [0, 0, 0, 0, 0, 0, 0, 46, 0, 0, 47, 0], [], [], [49, 54, 59, 0, 0, 0, 0], [50, 51, 52, 53, 0, 0], [], [], [], [], [55, 56, 57, 58, 0, 0], [], [], [], [], [], [61, 62, 63, 0, 0, 0, 0, 0, 0, 0], [], [], [], [65, 66], [], [], [68, 69, 0, 0], [], [], [71, 72, 73, 74, 75, 76, 77, 78, 79, 96, 105, 106, 0, 0, 0], [], [], [], [], [], [], [], [], [80, 81, 82, 83, 84, 85, 86, 87, 88, 89, 90, 91, 92, 93, 94, 95], [], [], [], [], [], [], [], [], [], [], [], [], [], [], [], [], [97, 98, 99, 100, 101, 102, 103, 104], [], [], [], [], [], [], [], [], [], [], [108, 109, 110, 111, 0, 0], [], [], [], [], [113, 114, 0, 115, 116, 117, 118, 119, 120, 121, 122, 123, 124, 0, 0, 125, 126, 0, 0, 127, 128, 0, 0, 129, 0, 0, 0, 0, 130, 131, 132, 0, 133, 134, 135, 136, 0, 0, 0, 0, 137, 138, 139, 140], [], [], [], [], [], [], [], [], [], [], [], [], [], [], [], [], [], [], [], [], [], [], [], [], [], [], [], []]
/-- kinds of fields: 0 int, 1 long, 2 reference -/
def qm_kst : List (List Nat) := [[2, 2, 2, 2, 0, 0], [2, 2, 2, 0, 0, 0, 0, 0, 0, 0], [2, 0, 0], [2, 2, 2, 0, 0, 0, 0], [2, 2, 2, 2, 2, 2, 2, 2, 2, 2, 2, 2, 0, 0, 0], [0, 0, 0, 0, 0, 0, 1, 2, 0, 0, 2, 0], [2, 2, 2, 2, 0, 0], [2, 2], [2, 2, 0, 1], [2, 2, 0, 0, 0], [2, 2, 2, 2, 2, 2, 2, 2, 2, 2], [2, 2, 0, 2, 2, 2, 2, 2, 2, 2, 2, 2, 2, 0, 0, 2, 2, 0, 0, 2, 2, 0, 1, 2, 0, 0, 0, 0, 2, 2, 2, 1, 2, 2, 2, 2, 0, 0, 0, 0, 2, 2, 2, 2]]
/-! THE PURE MACHINE OVER NUMBERS: the heap's shape stands still; memory is one function for ints, one for longs -/
abbrev qm_M : Type := (Nat → Nat → Int32) × (Nat → Nat → Int64)
abbrev qm_R : Type := Option Value × qm_M
def qm_nth {α : Type} : List α → Nat → α → α
  | [], _, d => d
  | x :: _, 0, _ => x
  | _ :: r, k + 1, d => qm_nth r k d
theorem qm_nth_eq {α : Type} : ∀ (l : List α) (k : Nat) (d : α), qm_nth l k d = (l[k]?).getD d
  | [], k, d => by simp [qm_nth]
  | x :: r, 0, d => by simp [qm_nth]
  | x :: r, k + 1, d => by simp [qm_nth, qm_nth_eq r k d]
def qm_kn (o : Nat) : Nat × Nat := qm_nth qm_lay o (99, 0)
def qm_isO (o ci : Nat) : Bool := Nat.beq (qm_kn o).1 (100 + ci)
def qm_isL (o t : Nat) : Bool := Nat.beq (qm_kn o).1 t
def qm_nl (o : Nat) : Nat := (qm_kn o).2
/-- given arrays: two tables, the bytes of five words -/
def qm_gv (o : Nat) : Nat × Nat := bif Nat.beq o 1000001 then (1, 6) else bif Nat.beq o 1000002 then (1, 7) else
  bif Nat.beq o 1000030 then (2, 2) else bif Nat.beq o 1000031 then (2, 5) else bif Nat.beq o 1000032 then (2, 5) else bif Nat.beq o 1000033 then (2, 4) else bif Nat.beq o 1000034 then (2, 5) else (99, 0)
def qm_gk (o : Nat) : Nat × Nat := bif Nat.ble 1000000 o then qm_gv o else qm_kn o
def qm_isA (o t : Nat) : Bool := Nat.beq (qm_gk o).1 t
def qm_n (o : Nat) : Nat := (qm_gk o).2
def qm_rf (o i : Nat) : Nat := qm_nth (qm_nth qm_rft o []) i 0
def qm_ks (ci : Nat) : List Nat := qm_nth qm_kst ci []
def qm_gw (o i : Nat) : Int32 := qm_nth (qm_nth pm_wds (o - 1000030) []) i 0
def qm_gI (m : qm_M) (o i : Nat) : Int32 := bif Nat.ble 1000000 o then qm_gw o i else m.1 o i
def qm_gL (m : qm_M) (o i : Nat) : Int64 := bif Nat.ble 1000000 o then (bif Nat.beq o 1000001 then qm_nth pm_low i 0 else qm_nth pm_prm i 0) else m.2 o i
def qm_sI (m : qm_M) (o j : Nat) (x : Int32) : qm_M := (fun a => bif Nat.beq a o then upd (m.1 o) j x else m.1 a, m.2)
def qm_sL (m : qm_M) (o j : Nat) (x : Int64) : qm_M := (m.1, fun a => bif Nat.beq a o then vp_updL (m.2 o) j x else m.2 a)
def qm_in (j : Int32) (n : Nat) : Bool := bif decide (j < 0) then false else Nat.ble (j.toNatClampNeg + 1) n
theorem qm_in_ok {j : Int32} {n : Nat} (h : qm_in j n = true) : vp_in j n := by
  unfold qm_in at h
  intro q
  cases hj : decide (j < 0) with
  | true => rw [hj] at h; cases h
  | false =>
    rw [hj] at h
    have h1 := Nat.le_of_ble_eq_true h
    rcases q with q | q
    · simp [q] at hj
    · omega
/-! the heap of a memory -/
def qm_fv (m : qm_M) (o i k : Nat) : Value := match k with
  | 0 => .int (m.1 o i)
  | 1 => .long (m.2 o i)
  | _ => .ref (qm_rf o i)
def qm_fs (m : qm_M) (o : Nat) : List Nat → Nat → List Value
  | [], _ => []
  | k :: r, i => qm_fv m o i k :: qm_fs m o r (i + 1)
def qm_cell (m : qm_M) (o : Nat) (e : Nat × Nat) : va_E := bif Nat.ble 100 e.1 then .inr (e.1 - 100, qm_fs m o (qm_ks (e.1 - 100)) 0) else
  bif Nat.beq e.1 1 then .inl (1, (e.2, .inr (.inl (m.2 o)))) else bif Nat.ble 4 e.1 then .inl (e.1, (e.2, .inr (.inr (.inr (.inr (fun j => bif Nat.ble (j + 1) e.2 then some (qm_rf o j) else none)))))) else
  .inl (e.1, (e.2, .inl (m.1 o)))
def qm_hpl (m : qm_M) : List (Nat × Nat) → Nat → pm_H
  | [], _ => []
  | e :: r, o => qm_cell m o e :: qm_hpl m r (o + 1)
def qm_hp (m : qm_M) : pm_H := qm_hpl m qm_lay 0
theorem qm_hpl_at (m : qm_M) : ∀ (l : List (Nat × Nat)) (o k : Nat), (qm_hpl m l o)[k]? = (l[k]?).map (qm_cell m (o + k))
  | [], o, k => by simp [qm_hpl]
  | e :: r, o, 0 => by simp [qm_hpl]
  | e :: r, o, k + 1 => by simp [qm_hpl, qm_hpl_at m r (o + 1) k, Nat.add_assoc, Nat.add_comm 1 k]
theorem qm_hp_at (m : qm_M) (k : Nat) : (qm_hp m)[k]? = (qm_lay[k]?).map (qm_cell m k) := by
  unfold qm_hp
  rw [qm_hpl_at, Nat.zero_add]
theorem qm_fs_at (m : qm_M) (o : Nat) : ∀ (l : List Nat) (i b : Nat), (qm_fs m o l i)[b]? = (l[b]?).map (qm_fv m o (i + b))
  | [], i, b => by simp [qm_fs]
  | k :: r, i, 0 => by simp [qm_fs]
  | k :: r, i, b + 1 => by simp [qm_fs, qm_fs_at m o r (i + 1) b, Nat.add_assoc, Nat.add_comm 1 b]
theorem qm_fs_len (m : qm_M) (o : Nat) : ∀ (l : List Nat) (i : Nat), (qm_fs m o l i).length = l.length
  | [], i => rfl
  | k :: r, i => by simp [qm_fs, qm_fs_len m o r (i + 1)]
theorem qm_cell_eq {m m1 : qm_M} {o : Nat} {e : Nat × Nat} (h1 : m1.1 o = m.1 o) (h2 : m1.2 o = m.2 o) : qm_cell m1 o e = qm_cell m o e := by
  have hf : ∀ i k, qm_fv m1 o i k = qm_fv m o i k := fun i k => by
    unfold qm_fv
    rw [h1, h2]
  have hs : ∀ (l : List Nat) (i : Nat), qm_fs m1 o l i = qm_fs m o l i := fun l => by
    induction l with
    | nil => intro i; rfl
    | cons k r ih => intro i; unfold qm_fs; rw [hf, ih]
  unfold qm_cell
  rw [h1, h2, hs]
theorem qm_hp_set {m m1 : qm_M} {o : Nat} {e : Nat × Nat} (h : qm_lay[o]? = some e) (h1 : ∀ a, a ≠ o → m1.1 a = m.1 a ∧ m1.2 a = m.2 a) : (qm_hp m).set o (qm_cell m1 o e) = qm_hp m1 := by
  apply List.ext_getElem?
  intro k
  by_cases hk : o = k
  · subst hk
    have hl : o < (qm_hp m).length := by
      have := qm_hp_at m o
      rw [h] at this
      exact (List.getElem?_eq_some_iff.mp this).1
    rw [List.getElem?_set_self hl, qm_hp_at, h]
    rfl
  · rw [List.getElem?_set_ne hk, qm_hp_at, qm_hp_at]
    have := h1 k (Ne.symm hk)
    congr 1
    funext e
    exact (qm_cell_eq this.1 this.2).symm
theorem qm_isL_at {o t : Nat} (h : qm_isL o t = true) (ht : t ≠ 99) : ∃ n, qm_lay[o]? = some (t, n) ∧ qm_nl o = n := by
  unfold qm_isL qm_kn at h
  unfold qm_nl qm_kn
  rw [qm_nth_eq] at h ⊢
  have h := Nat.eq_of_beq_eq_true h
  cases hk : qm_lay[o]? with
  | none => rw [hk] at h; exact absurd h.symm ht
  | some e =>
    rw [hk] at h
    exact ⟨e.2, by rw [← h]; rfl, rfl⟩
theorem qm_isO_at {o ci : Nat} (h : qm_isO o ci = true) : ∃ n, qm_lay[o]? = some (100 + ci, n) := by
  obtain ⟨n, h1, -⟩ := qm_isL_at (t := 100 + ci) h (by omega)
  exact ⟨n, h1⟩
/-! the machine -/
abbrev qe_F : Type := List Value → qm_M → Option qm_R
/-- what calls answer: which method, kind (0 virtual, 1 static, 3 of a String), class, what kind of result, the answer -/
abbrev qe_T : Type := List (Nat × Nat × Nat × Nat × qe_F)
abbrev qe_K : Type := Nat → pm_L → List Value → qm_M → Option qm_R
def qe_b {α : Type} (b : Bool) (x : Option α) : Option α := bif b then x else none
def qe_get {α : Type} : pm_L → Nat → (Value → Option α) → Option α
  | [], _, _ => none
  | q :: r, k, c => bif Nat.beq q.1 k then c q.2 else qe_get r k c
def qe_flt {α : Type} (p : Nat × Value → Bool) : pm_L → (pm_L → Option α) → Option α
  | [], c => c []
  | q :: r, c => bif p q then qe_flt p r (fun t => c (q :: t)) else qe_flt p r c
def qe_sto {α : Type} (k : Nat) (v : Value) (l : pm_L) (c : pm_L → Option α) : Option α := match v with
  | .long x => qe_flt (pm_k2 k) l (fun t => c ((k, .long x) :: t))
  | .int x => qe_flt (pm_k1 k) l (fun t => c ((k, .int x) :: t))
  | .ref x => qe_flt (pm_k1 k) l (fun t => c ((k, .ref x) :: t))
  | _ => none
def qe_pick {α : Type} : List Nat → pm_L → (List Value → Option α) → Option α
  | [], _, c => c []
  | k :: ks, l, c => qe_get l k (fun v => qe_pick ks l (fun vs => c (v :: vs)))
def qe_zip : List Nat → List Value → pm_L
  | k :: ks, v :: vs => (k, v) :: qe_zip ks vs
  | _, _ => []
abbrev qe_P : Type := List Value → List Value → qm_M → Option qm_R
/-- places, the locals that count there, what is answered from there on -/
abbrev qe_B : Type := List (Nat × List Nat × qe_P)
def qe_stop : qe_B → Nat → Option (List Nat × qe_P)
  | [], _ => none
  | q :: r, pc => bif Nat.beq q.1 pc then some q.2 else qe_stop r pc
def qe_look : qe_T → Nat → Option (Nat × Nat × Nat × qe_F)
  | [], _ => none
  | q :: r, k => bif Nat.beq q.1 k then some q.2 else qe_look r k
def qe_spl {α : Type} : Nat → List Value → List Value → (List Value → List Value → Option α) → Option α
  | 0, st, acc, c => c acc st
  | _ + 1, [], _, _ => none
  | n + 1, v :: st, acc, c => qe_spl n st (v :: acc) c
def qe_rV {α : Type} (r : Option qm_R) (k : qm_M → Option α) : Option α := match r with
  | some (none, m) => k m
  | _ => none
def qe_rI {α : Type} (r : Option qm_R) (k : Int32 → qm_M → Option α) : Option α := match r with
  | some (some (.int v), m) => k v m
  | _ => none
def qe_rL {α : Type} (r : Option qm_R) (k : Int64 → qm_M → Option α) : Option α := match r with
  | some (some (.long v), m) => k v m
  | _ => none
def qe_rR {α : Type} (r : Option qm_R) (k : Nat → qm_M → Option α) : Option α := match r with
  | some (some (.ref v), m) => k v m
  | _ => none
def qe_ret {α : Type} (ret : Nat) (r : Option qm_R) (rest : List Value) (k : List Value → qm_M → Option α) : Option α := match ret with
  | 0 => qe_rV r (fun m => k rest m)
  | 1 => qe_rI r (fun v m => k (.int v :: rest) m)
  | 2 => qe_rL r (fun v m => k (.long v :: rest) m)
  | 3 => qe_rR r (fun v m => k (.ref v :: rest) m)
  | _ => none
def qe_ldk : Instr → Option Nat
  | .iload k => some k
  | .iload_n k => some (k : Nat)
  | .lload k => some k
  | .lload_n k => some (k : Nat)
  | .aload k => some k
  | .aload_n k => some (k : Nat)
  | _ => none
def qe_dop {α : Type} (i : Instr) (y x : Value) (c : Value → Option α) : Option α := match i, y, x with
  | .idiv, .int y, .int x => qe_b (!decide (y = 0)) (c (.int (x / y)))
  | .irem, .int y, .int x => qe_b (!decide (y = 0)) (c (.int (x - x / y * y)))
  | .ldiv, .long y, .long x => qe_b (!decide (y = 0)) (c (.long (x / y)))
  | .lrem, .long y, .long x => qe_b (!decide (y = 0)) (c (.long (x - x / y * y)))
  | _, _, _ => none
def qe_if {α : Type} (c : Jvm.ClassFile.Cond) (x y : Int32) (A B : Option α) : Option α := match c with
  | .eq => if x = y then A else B
  | .ne => if x = y then B else A
  | .lt => if x < y then A else B
  | .ge => if x < y then B else A
  | .gt => if y < x then A else B
  | .le => if y < x then B else A
def qe_tsw {α : Type} (x : Int32) (K : Nat → Option α) (pc : Nat) (d : Nat) : Int → List Int → Option α
  | _, [] => K (pc + d)
  | v, off :: r => match off with
    | .ofNat k => if x.toInt = v then K (pc + k) else qe_tsw x K pc d (v + 1) r
    | _ => none
def qe_lsw {α : Type} (x : Int32) (K : Nat → Option α) (pc : Nat) (d : Nat) : List (Int × Int) → Option α
  | [] => K (pc + d)
  | q :: r => match q.2 with
    | .ofNat k => if x.toInt = q.1 then K (pc + k) else qe_lsw x K pc d r
    | _ => none
def qm_ni (ty : FieldType) (v : Int32) : Bool := match ty with
  | .int => true
  | .boolean => decide (v &&& 1 = v)
  | .char => decide (v.toUInt32.toUInt16.toUInt32.toInt32 = v)
  | .byte => decide (v.toInt8.toInt32 = v)
  | _ => false
def qm_fi (ty : FieldType) (v : Int32) : Bool := match ty with
  | .int => true
  | .boolean => v == 0 || v == 1
  | _ => false
theorem qm_ni_ok {ty : FieldType} {v : Int32} (h : qm_ni ty v = true) : narrow ty (.int v) = .int v := by
  unfold qm_ni at h
  split at h
  · rfl
  · show Value.int _ = _; rw [of_decide_eq_true h]
  · show Value.int _ = _; rw [of_decide_eq_true h]
  · show Value.int _ = _; rw [of_decide_eq_true h]
  · cases h
theorem qm_fi_ok {ty : FieldType} {v : Int32} (h : qm_fi ty v = true) : pm_fit ty (.int v) := by
  unfold qm_fi at h
  split at h
  · exact ⟨rfl, rfl⟩
  · refine ⟨?_, h⟩
    rcases Bool.or_eq_true_iff.mp h with q | q
    · rw [show v = 0 by simpa using q]; rfl
    · rw [show v = 1 by simpa using q]; rfl
  · cases h
section QE
variable (sc : Option pm_K) (md : pm_M) (T : qe_T) (i : Instr) (nx a b pc : Nat) (lv : pm_L) (st : List Value) (m : qm_M) (K : qe_K)
noncomputable def qe_s0 : Option qm_R := match pm_cst i with
  | some v => K nx lv (v :: st) m
  | none => none
noncomputable def qe_s1 : Option qm_R := bif pm_isl i then match pt_ldc[a]? with
  | some v => K nx lv (v :: st) m
  | none => none
  else none
noncomputable def qe_s2 : Option qm_R := match qe_ldk i with
  | some k => qe_get lv k (fun v => match pm_ld i v with
    | some k2 => qe_b (Nat.beq k2 k) (K nx lv (v :: st) m)
    | none => none)
  | none => none
noncomputable def qe_s3 : Option qm_R := match st with
  | v :: r => match pm_st i v with
    | some k => qe_sto k v lv (fun l1 => K nx l1 r m)
    | none => none
  | [] => none
noncomputable def qe_s4 : Option qm_R := match st with
  | y :: x :: r => match pm_bop i y x with
    | some v => K nx lv (v :: r) m
    | none => none
  | _ => none
noncomputable def qe_s5 : Option qm_R := match st with
  | y :: x :: r => qe_dop i y x (fun v => K nx lv (v :: r) m)
  | _ => none
noncomputable def qe_s6 : Option qm_R := match st with
  | x :: r => match pm_uop i x with
    | some v => K nx lv (v :: r) m
    | none => none
  | _ => none
noncomputable def qe_s7 : Option qm_R := match pm_sop i st with
  | some st1 => K nx lv st1 m
  | none => none
noncomputable def qe_s8 : Option qm_R := match i with
  | .iinc k n => qe_get lv k (fun v => match v with
    | .int x => qe_sto k (.int (x + Int32.ofInt n)) lv (fun l1 => K nx l1 st m)
    | _ => none)
  | _ => none
noncomputable def qe_s9 : Option qm_R := match i with
  | .goto _ => K a lv st m
  | _ => none
noncomputable def qe_s10 : Option qm_R := match i, st with
  | .ifCond c _, .int x :: r => qe_if c x 0 (K a lv r m) (K nx lv r m)
  | _, _ => none
noncomputable def qe_s11 : Option qm_R := match i, st with
  | .if_icmp c _, .int y :: .int x :: r => qe_if c x y (K a lv r m) (K nx lv r m)
  | _, _ => none
noncomputable def qe_s12 : Option qm_R := match i, st with
  | .tableswitch (.ofNat d) lo hi os, .int x :: r => qe_b (decide (hi + 1 = lo + os.size)) (qe_tsw x (fun t => K t lv r m) pc d lo os.toList)
  | _, _ => none
noncomputable def qe_s13 : Option qm_R := match i, st with
  | .lookupswitch (.ofNat d) ps, .int x :: r => qe_b ((ps.toList.zip (ps.toList.drop 1)).all (fun (a, next) => a.1 < next.1)) (qe_lsw x (fun t => K t lv r m) pc d ps.toList)
  | _, _ => none
noncomputable def qe_s14 : Option qm_R := match i, st with
  | .getfield _, .ref o :: r => bif Nat.beq a 100 then qe_b (Nat.ble 1000010 o && Nat.ble o 1000014) (match b with
      | 0 => K nx lv (.ref (o + 20) :: r) m
      | 1 => K nx lv (.int 0 :: r) m
      | _ => none)
    else qe_b (qm_isO o a) (match qm_nth (qm_ks a) b 9 with
      | 0 => K nx lv (.int (m.1 o b) :: r) m
      | 1 => K nx lv (.long (m.2 o b) :: r) m
      | 2 => K nx lv (.ref (qm_rf o b) :: r) m
      | _ => none)
  | _, _ => none
noncomputable def qe_s15 : Option qm_R := match i, st with
  | .putfield _, v :: .ref o :: r => qe_b (qm_isO o a) (match pm_fty a b with
    | some (ty, false) => (match v with
      | .int x => qe_b (qm_fi ty x) (qe_b (Nat.beq (qm_nth (qm_ks a) b 9) 0) (K nx lv r (qm_sI m o b x)))
      | .long x => qe_b (Nat.beq (qm_nth (qm_ks a) b 9) 1) (match ty with
        | .long => K nx lv r (qm_sL m o b x)
        | _ => none)
      | _ => none)
    | _ => none)
  | _, _ => none
noncomputable def qe_s16 : Option qm_R := match st with
  | .int j :: .ref o :: r => match sc with
    | some kp => bif Nat.beq o 1000000 then qe_b (qm_in j kp.1) (K nx lv (.int (kp.2 j.toNatClampNeg) :: r) m) else none
    | none => qe_b (qm_isL o 0) (qe_b (qm_in j (qm_nl o)) (K nx lv (.int (m.1 o j.toNatClampNeg) :: r) m))
  | _ => none
noncomputable def qe_s17 : Option qm_R := match st with
  | .int j :: .ref o :: r => qe_b (qm_isA o 2 || qm_isL o 3) (qe_b (qm_in j (qm_n o)) (K nx lv (.int (qm_gI m o j.toNatClampNeg) :: r) m))
  | _ => none
noncomputable def qe_s18 : Option qm_R := match st with
  | .int j :: .ref o :: r => qe_b (qm_isA o 1) (qe_b (qm_in j (qm_n o)) (K nx lv (.long (qm_gL m o j.toNatClampNeg) :: r) m))
  | _ => none
noncomputable def qe_s19 : Option qm_R := match st with
  | .int j :: .ref o :: r => qe_b (qm_isL o 4 || qm_isL o 5) (qe_b (qm_in j (qm_nl o)) (K nx lv (.ref (qm_rf o j.toNatClampNeg) :: r) m))
  | _ => none
noncomputable def qe_s20 : Option qm_R := match st with
  | .int x :: .int j :: .ref o :: r => qe_b (qm_isL o 0) (qe_b (qm_in j (qm_nl o)) (K nx lv r (qm_sI m o j.toNatClampNeg x)))
  | _ => none
noncomputable def qe_s21 : Option qm_R := match st with
  | .int x :: .int j :: .ref o :: r => bif qm_isL o 2 then qe_b (qm_in j (qm_nl o)) (K nx lv r (qm_sI m o j.toNatClampNeg (vp_nar .byte x))) else qe_b (qm_isL o 3) (qe_b (qm_in j (qm_nl o)) (K nx lv r (qm_sI m o j.toNatClampNeg (vp_nar .boolean x))))
  | _ => none
noncomputable def qe_s22 : Option qm_R := match st with
  | .long x :: .int j :: .ref o :: r => qe_b (qm_isL o 1) (qe_b (qm_in j (qm_nl o)) (K nx lv r (qm_sL m o j.toNatClampNeg x)))
  | _ => none
noncomputable def qe_s23 : Option qm_R := match st with
  | .ref o :: r => match sc with
    | some kp => bif Nat.beq o 1000000 then K nx lv (.int (Int32.ofNat kp.1) :: r) m else none
    | none => qe_b (Nat.ble (qm_gk o).1 5) (K nx lv (.int (Int32.ofNat (qm_n o)) :: r) m)
  | _ => none
noncomputable def qe_s24 : Option qm_R := bif Nat.beq a 1001 then (match st with
    | .int y :: .int x :: r => qe_b (Nat.ble (pm_cat r) 8) (K nx lv (.int (if x < y then y else x) :: r) m)
    | _ => none)
  else bif Nat.beq a 1002 then (match st with
    | .int y :: .int x :: r => qe_b (Nat.ble (pm_cat r) 8) (K nx lv (.int (if y < x then y else x) :: r) m)
    | _ => none)
  else match qe_look T a with
    | some (knd, _, ret, f) => qe_b (Nat.beq knd 1) (qe_spl b st [] (fun as rest => qe_b (Nat.ble (pm_cat rest) 8) (qe_ret ret (f as m) rest (fun st1 m1 => K nx lv st1 m1))))
    | none => none
noncomputable def qe_s25 : Option qm_R := match qe_look T a with
    | some (knd, ci, ret, f) => qe_spl b st [] (fun as rest => match as with
      | .ref o :: _ => qe_b (Nat.ble (pm_cat rest) 8) (qe_b (match knd with
        | 0 => qm_isO o ci
        | 3 => Nat.ble 1000010 o && Nat.ble o 1000014
        | _ => false) (qe_ret ret (f as m) rest (fun st1 m1 => K nx lv st1 m1)))
      | _ => none)
    | none => none
noncomputable def qe_s26 : Option qm_R := match st with
  | [.int v] => match pm_ret md with
    | some ty => qe_b (qm_ni ty v) (some (some (.int v), m))
    | none => none
  | _ => none
noncomputable def qe_s27 : Option qm_R := match st with
  | [.long v] => match pm_ret md with
    | some .long => some (some (.long v), m)
    | _ => none
  | _ => none
noncomputable def qe_s28 : Option qm_R := match st with
  | [.ref v] => match pm_ret md with
    | some (.object _) => some (some (.ref v), m)
    | _ => none
  | _ => none
noncomputable def qe_s29 : Option qm_R := match st with
  | [] => match pm_ret md with
    | none => some (none, m)
    | _ => none
  | _ => none
noncomputable def qe_s30 : Option qm_R := match pm_gst a with
  | some v => K nx lv (v :: st) m
  | none => none
noncomputable def qe_step : Option qm_R := match i with
  | .iconst _ | .bipush _ | .sipush _ | .lconst _ => qe_s0 i nx lv st m K
  | .ldc _ | .ldc_w _ | .ldc2_w _ => qe_s1 i nx a lv st m K
  | .iload _ | .iload_n _ | .lload _ | .lload_n _ | .aload _ | .aload_n _ => qe_s2 i nx lv st m K
  | .istore _ | .istore_n _ | .lstore _ | .lstore_n _ | .astore _ | .astore_n _ => qe_s3 i nx lv st m K
  | .iadd | .isub | .imul | .iand | .ior | .ixor | .ishl | .ishr | .iushr | .ladd | .lsub | .lmul | .land | .lor | .lxor | .lshl | .lshr | .lushr | .lcmp => qe_s4 i nx lv st m K
  | .idiv | .irem | .ldiv | .lrem => qe_s5 i nx lv st m K
  | .ineg | .lneg | .i2l | .l2i | .i2b | .i2c => qe_s6 i nx lv st m K
  | .dup | .pop | .dup2 => qe_s7 i nx lv st m K
  | .iinc _ _ => qe_s8 i nx lv st m K
  | .goto _ => qe_s9 i a lv st m K
  | .ifCond _ _ => qe_s10 i nx a lv st m K
  | .if_icmp _ _ => qe_s11 i nx a lv st m K
  | .tableswitch _ _ _ _ => qe_s12 i pc lv st m K
  | .lookupswitch _ _ => qe_s13 i pc lv st m K
  | .getfield _ => qe_s14 i nx a b lv st m K
  | .putfield _ => qe_s15 i nx a b lv st m K
  | .iaload => qe_s16 sc nx lv st m K
  | .baload => qe_s17 nx lv st m K
  | .laload => qe_s18 nx lv st m K
  | .aaload => qe_s19 nx lv st m K
  | .iastore => qe_s20 nx lv st m K
  | .bastore => qe_s21 nx lv st m K
  | .lastore => qe_s22 nx lv st m K
  | .arraylength => qe_s23 sc nx lv st m K
  | .invokestatic _ => qe_s24 T nx a b lv st m K
  | .invokevirtual _ => qe_s25 T nx a b lv st m K
  | .ireturn => qe_s26 md st m
  | .lreturn => qe_s27 md st m
  | .areturn => qe_s28 md st m
  | .return_ => qe_s29 md st m
  | .getstatic _ => qe_s30 nx a lv st m K
  | _ => none
end QE
def qe_go (B : qe_B) (f : qe_K) : qe_K := fun pc lv st m => match qe_stop B pc with
  | some (ks, p) => qe_pick ks lv (fun vs => p vs st m)
  | none => f pc lv st m
/-- runs on to the next place of B, or to the method's end -/
noncomputable def qe_ev (sc : Option pm_K) (md : pm_M) (T : qe_T) (B : qe_B) : Nat → qe_K
  | 0 => fun _ _ _ _ => none
  | n + 1 => fun pc lv st m => match pm_at (pm_cd md) pc with
    | some (i, nx, a, b) => qe_step sc md T i nx a b pc lv st m (qe_go B (qe_ev sc md T B n))
    | none => none
def qo_ishl (x y : Int32) : Int32 := x <<< (y &&& 31)
def qo_ishr (x y : Int32) : Int32 := x >>> (y &&& 31)
def qo_iushr (x y : Int32) : Int32 := (x.toUInt32 >>> (y.toUInt32 &&& Int32.toUInt32 31)).toInt32
def qo_lshl (x : Int64) (y : Int32) : Int64 := x <<< (y.toInt64 &&& 63)
def qo_lshr (x : Int64) (y : Int32) : Int64 := x >>> (y.toInt64 &&& 63)
def qo_lushr (x : Int64) (y : Int32) : Int64 := (x.toUInt64 >>> (y.toInt64.toUInt64 &&& Int64.toUInt64 63)).toInt64
def qo_irem (x y : Int32) : Int32 := x - x / y * y
def qo_lrem (x y : Int64) : Int64 := x - x / y * y
def qo_i2c (x : Int32) : Int32 := (x.toUInt32 % 65536).toInt32
def qo_max (x y : Int32) : Int32 := if x < y then y else x
def qo_min (x y : Int32) : Int32 := if y < x then y else x
end
section
/-! SOUNDNESS of the machine over numbers -/
def qe_V (kp : pm_K) (md : pm_M) (d : Nat) (x : qm_R) (pc : Nat) (lv : pm_L) (st : List Value) (m : qm_M) : Prop := pm_W kp md (pm_X kp d) (qm_hp x.2).length (pm_sl (qm_hp x.2)) (fun r h => r = x.1 ∧ h = qm_hp x.2) pc lv st (qm_hp m)
def qe_GE (kp : pm_K) (d : Nat) (e : Nat × Nat × Nat × Nat × qe_F) : Prop := pm_mal e.1 = false ∧ (e.2.1 = 1 → pm_knd e.1 1) ∧ (e.2.1 = 0 → pm_knd e.1 0 ∧ pm_mci e.1 = some e.2.2.1) ∧ (e.2.1 = 3 → pm_knd e.1 0 ∧ pm_mst e.1 = true) ∧
  ∀ as m x, e.2.2.2.2 as m = some x → pm_X kp d e.1 as (qm_hp m) x.1 (qm_hp x.2)
def qe_G (kp : pm_K) (d : Nat) (T : qe_T) : Prop := ∀ e ∈ T, qe_GE kp d e
/-- what E answers, the method answers from here on -/
def qe_J (kp : pm_K) (md : pm_M) (d : Nat) (E : Option qm_R) (pc : Nat) (lv : pm_L) (st : List Value) (m : qm_M) : Prop := ∀ x, E = some x → qe_V kp md d x pc lv st m
def qe_KG (kp : pm_K) (md : pm_M) (d : Nat) (K : qe_K) : Prop := ∀ pc lv st m, qe_J kp md d (K pc lv st m) pc lv st m
theorem qe_b_some {α : Type} {b : Bool} {e : Option α} {x : α} (h : qe_b b e = some x) : b = true ∧ e = some x := by
  cases b with
  | true => exact ⟨rfl, h⟩
  | false => cases h
theorem qe_get_some {α : Type} : ∀ {l : pm_L} {k : Nat} {c : Value → Option α} {x : α}, qe_get l k c = some x → ∃ (j : Nat) (v : Value), l[j]? = some (k, v) ∧ c v = some x
  | [], k, c, x, h => by cases h
  | q :: r, k, c, x, h => by
    unfold qe_get at h
    cases hb : Nat.beq q.1 k with
    | true =>
      rw [hb] at h
      have e := Nat.eq_of_beq_eq_true hb
      subst e
      exact ⟨0, q.2, rfl, h⟩
    | false =>
      rw [hb] at h
      obtain ⟨j, v, h1, h2⟩ := qe_get_some h
      exact ⟨j + 1, v, h1, h2⟩
theorem qe_flt_eq {α : Type} (p : Nat × Value → Bool) : ∀ (l : pm_L) (c : pm_L → Option α), qe_flt p l c = c (l.filter p)
  | [], c => rfl
  | q :: r, c => by
    unfold qe_flt
    cases hp : p q with
    | true => simp [hp, qe_flt_eq p r]
    | false => simp [hp, qe_flt_eq p r]
theorem pm_flt_eq (p : Nat × Value → Bool) : ∀ (l : pm_L) (c : pm_L → Option pm_L), pm_flt p l c = c (l.filter p)
  | [], c => rfl
  | q :: r, c => by
    unfold pm_flt
    cases hp : p q with
    | true => simp [hp, pm_flt_eq p r]
    | false => simp [hp, pm_flt_eq p r]
theorem qe_sto_some {α : Type} {k : Nat} {v : Value} {l : pm_L} {c : pm_L → Option α} {x : α} (h : qe_sto k v l c = some x) : ∃ l1, pm_sto k v l = some l1 ∧ c l1 = some x := by
  unfold qe_sto at h
  unfold pm_sto
  split at h
  · rw [qe_flt_eq] at h; exact ⟨_, by dsimp only; rw [pm_flt_eq], h⟩
  · rw [qe_flt_eq] at h; exact ⟨_, by dsimp only; rw [pm_flt_eq], h⟩
  · rw [qe_flt_eq] at h; exact ⟨_, by dsimp only; rw [pm_flt_eq], h⟩
  · cases h
theorem qe_spl_some {α : Type} : ∀ {n : Nat} {st acc : List Value} {c : List Value → List Value → Option α} {x : α}, qe_spl n st acc c = some x → ∃ as rest, pm_spl n st acc = some (as, rest) ∧ c as rest = some x
  | 0, st, acc, c, x, h => ⟨acc, st, rfl, h⟩
  | n + 1, [], acc, c, x, h => by cases h
  | n + 1, v :: st, acc, c, x, h => qe_spl_some (n := n) (st := st) h
theorem qe_look_mem : ∀ {T : qe_T} {k : Nat} {q : Nat × Nat × Nat × qe_F}, qe_look T k = some q → (k, q) ∈ T
  | [], k, q, h => by cases h
  | e :: r, k, q, h => by
    unfold qe_look at h
    cases hb : Nat.beq e.1 k with
    | true =>
      rw [hb] at h
      have e1 := Nat.eq_of_beq_eq_true hb
      cases h
      subst e1
      exact List.mem_cons_self
    | false =>
      rw [hb] at h
      exact List.mem_cons_of_mem _ (qe_look_mem h)
theorem qe_pick_some {α : Type} : ∀ {ks : List Nat} {l : pm_L} {c : List Value → Option α} {x : α}, qe_pick ks l c = some x → ∃ vs, c vs = some x ∧ ∀ q ∈ qe_zip ks vs, q ∈ l
  | [], l, c, x, h => ⟨[], h, fun q hq => absurd hq List.not_mem_nil⟩
  | k :: ks, l, c, x, h => by
    obtain ⟨j, v, h1, h2⟩ := qe_get_some (show qe_get l k (fun v => qe_pick ks l (fun vs => c (v :: vs))) = some x from h)
    obtain ⟨vs, h3, h4⟩ := qe_pick_some h2
    refine ⟨v :: vs, h3, fun q hq => ?_⟩
    rcases List.mem_cons.mp (show q ∈ (k, v) :: qe_zip ks vs from hq) with e | e
    · rw [e]; exact List.mem_of_getElem? h1
    · exact h4 q e
theorem qe_pck : ∀ (l1 l : pm_L) (c : pm_L → Option pm_L), (∀ q ∈ l1, q ∈ l) → ∃ js, pm_pck l js c = c l1
  | [], l, c, h => ⟨[], rfl⟩
  | q :: r, l, c, h => by
    obtain ⟨j, hj⟩ := List.getElem?_of_mem (h q List.mem_cons_self)
    obtain ⟨js, h1⟩ := qe_pck r l (fun t => c (q :: t)) (fun x hx => h x (List.mem_cons_of_mem _ hx))
    refine ⟨j :: js, ?_⟩
    unfold pm_pck
    rw [hj]
    exact h1
theorem qe_if_some {α : Type} {c : Jvm.ClassFile.Cond} {x y : Int32} {A B : Option α} {z : α} (h : qe_if c x y A B = some z) : (pm_cnd c x y → A = some z) ∧ (¬ pm_cnd c x y → B = some z) := by
  cases c
  · unfold qe_if at h
    dsimp only at h
    by_cases q : x = y
    · rw [if_pos q] at h; exact ⟨fun _ => h, fun n => absurd q n⟩
    · rw [if_neg q] at h; exact ⟨fun p => absurd p q, fun _ => h⟩
  · unfold qe_if at h
    dsimp only at h
    by_cases q : x = y
    · rw [if_pos q] at h; exact ⟨fun p => absurd q p, fun _ => h⟩
    · rw [if_neg q] at h; exact ⟨fun _ => h, fun n => absurd q n⟩
  · unfold qe_if at h
    dsimp only at h
    by_cases q : x < y
    · rw [if_pos q] at h; exact ⟨fun _ => h, fun n => absurd q n⟩
    · rw [if_neg q] at h; exact ⟨fun p => absurd p q, fun _ => h⟩
  · unfold qe_if at h
    dsimp only at h
    by_cases q : x < y
    · rw [if_pos q] at h; exact ⟨fun p => absurd q (Int32.not_lt.mpr p), fun _ => h⟩
    · rw [if_neg q] at h; exact ⟨fun _ => h, fun n => absurd (Int32.not_lt.mp q) n⟩
  · unfold qe_if at h
    dsimp only at h
    by_cases q : y < x
    · rw [if_pos q] at h; exact ⟨fun _ => h, fun n => absurd q n⟩
    · rw [if_neg q] at h; exact ⟨fun p => absurd p q, fun _ => h⟩
  · unfold qe_if at h
    dsimp only at h
    by_cases q : y < x
    · rw [if_pos q] at h; exact ⟨fun p => absurd q (Int32.not_lt.mpr p), fun _ => h⟩
    · rw [if_neg q] at h; exact ⟨fun _ => h, fun n => absurd (Int32.not_lt.mp q) n⟩
theorem qe_tsw_some {α : Type} {x : Int32} {K : Nat → Option α} {pc d : Nat} {z : α} : ∀ {l : List Int} {v : Int}, qe_tsw x K pc d v l = some z →
    (∃ (j k : Nat), l[j]? = some (Int.ofNat k) ∧ x.toInt = v + j ∧ K (pc + k) = some z) ∨ ((∀ j : Nat, j < l.length → x.toInt ≠ v + j) ∧ K (pc + d) = some z)
  | [], v, h => Or.inr ⟨fun j hj => absurd hj (Nat.not_lt_zero j), h⟩
  | off :: r, v, h => by
    unfold qe_tsw at h
    cases off with
    | negSucc k => cases h
    | ofNat k =>
      dsimp only at h
      by_cases q : x.toInt = v
      · rw [if_pos q] at h
        exact Or.inl ⟨0, k, rfl, by simp [q], h⟩
      · rw [if_neg q] at h
        rcases qe_tsw_some h with ⟨j, k1, h1, h2, h3⟩ | ⟨h1, h2⟩
        · exact Or.inl ⟨j + 1, k1, h1, by rw [h2]; simp; omega, h3⟩
        · refine Or.inr ⟨fun j hj => ?_, h2⟩
          cases j with
          | zero => simpa using q
          | succ j =>
            have := h1 j (by simpa using hj)
            intro e
            apply this
            rw [e]
            simp
            omega
theorem qe_lsw_some {α : Type} {x : Int32} {K : Nat → Option α} {pc d : Nat} {z : α} : ∀ {l : List (Int × Int)}, qe_lsw x K pc d l = some z →
    ∃ t : Nat, (pc : Int) + Op.lookupswitch.offset l (Int.ofNat d) x.toInt = (t : Int) ∧ K t = some z
  | [], h => ⟨pc + d, by simp [Op.lookupswitch.offset_nil], h⟩
  | (v, off) :: r, h => by
    unfold qe_lsw at h
    cases off with
    | negSucc k => cases h
    | ofNat k =>
      dsimp only at h
      rw [Op.lookupswitch.offset_cons]
      by_cases q : x.toInt = v
      · rw [if_pos q] at h
        rw [if_pos q.symm]
        exact ⟨pc + k, by simp, h⟩
      · rw [if_neg q] at h
        rw [if_neg (Ne.symm q)]
        exact qe_lsw_some h
section QS
variable {kp : pm_K} {sc : Option pm_K} {md : pm_M} {d : Nat} {T : qe_T} {i : Instr} {nx a b pc : Nat} {lv : pm_L} {st : List Value} {m : qm_M} {K : qe_K} {x : qm_R}
theorem qt_0 (hK : qe_KG kp md d K) (g : pm_at (pm_cd md) pc = some (i, nx, a, b)) (h : qe_s0 i nx lv st m K = some x) : qe_V kp md d x pc lv st m := by
  unfold qe_s0 at h
  split at h
  · rename_i v hv; exact pq_cst g hv (hK _ _ _ _ _ h)
  · cases h
theorem qt_1 (hK : qe_KG kp md d K) (g : pm_at (pm_cd md) pc = some (i, nx, a, b)) (h : qe_s1 i nx a lv st m K = some x) : qe_V kp md d x pc lv st m := by
  unfold qe_s1 at h
  cases hi : pm_isl i with
  | false => rw [hi] at h; cases h
  | true =>
    rw [hi] at h
    dsimp only [cond_true] at h
    split at h
    · rename_i v hv; exact pq_ldc g hi hv (hK _ _ _ _ _ h)
    · cases h
theorem qt_2 (hK : qe_KG kp md d K) (g : pm_at (pm_cd md) pc = some (i, nx, a, b)) (h : qe_s2 i nx lv st m K = some x) : qe_V kp md d x pc lv st m := by
  unfold qe_s2 at h
  split at h
  · rename_i k hk
    obtain ⟨j, v, h1, h2⟩ := qe_get_some h
    split at h2
    · rename_i k2 hk2
      obtain ⟨h3, h4⟩ := qe_b_some h2
      have e := Nat.eq_of_beq_eq_true h3
      subst e
      exact pq_ld j g hk2 h1 (hK _ _ _ _ _ h4)
    · cases h2
  · cases h
theorem qt_3 (hK : qe_KG kp md d K) (g : pm_at (pm_cd md) pc = some (i, nx, a, b)) (h : qe_s3 i nx lv st m K = some x) : qe_V kp md d x pc lv st m := by
  unfold qe_s3 at h
  split at h
  · rename_i v r
    split at h
    · rename_i k hk
      obtain ⟨l1, h1, h2⟩ := qe_sto_some h
      exact pq_sto g hk h1 (hK _ _ _ _ _ h2)
    · cases h
  · cases h
theorem qt_4 (hK : qe_KG kp md d K) (g : pm_at (pm_cd md) pc = some (i, nx, a, b)) (h : qe_s4 i nx lv st m K = some x) : qe_V kp md d x pc lv st m := by
  unfold qe_s4 at h
  split at h
  · split at h
    · rename_i v hv; exact pq_bop g hv (hK _ _ _ _ _ h)
    · cases h
  · cases h
theorem qe_dop_some {α : Type} {i : Instr} {y x : Value} {c : Value → Option α} {z : α} (h : qe_dop i y x c = some z) : ∃ v q, pm_dop i y x = some (v, q) ∧ q ∧ c v = some z := by
  unfold qe_dop at h
  split at h
  · obtain ⟨h1, h2⟩ := qe_b_some h; exact ⟨_, _, rfl, by simpa using h1, h2⟩
  · obtain ⟨h1, h2⟩ := qe_b_some h; exact ⟨_, _, rfl, by simpa using h1, h2⟩
  · obtain ⟨h1, h2⟩ := qe_b_some h; exact ⟨_, _, rfl, by simpa using h1, h2⟩
  · obtain ⟨h1, h2⟩ := qe_b_some h; exact ⟨_, _, rfl, by simpa using h1, h2⟩
  · cases h
theorem qt_5 (hK : qe_KG kp md d K) (g : pm_at (pm_cd md) pc = some (i, nx, a, b)) (h : qe_s5 i nx lv st m K = some x) : qe_V kp md d x pc lv st m := by
  unfold qe_s5 at h
  split at h
  · obtain ⟨v, q, h1, h2, h3⟩ := qe_dop_some h
    exact pq_dop g h1 h2 (hK _ _ _ _ _ h3)
  · cases h
theorem qt_6 (hK : qe_KG kp md d K) (g : pm_at (pm_cd md) pc = some (i, nx, a, b)) (h : qe_s6 i nx lv st m K = some x) : qe_V kp md d x pc lv st m := by
  unfold qe_s6 at h
  split at h
  · split at h
    · rename_i v hv; exact pq_uop g hv (hK _ _ _ _ _ h)
    · cases h
  · cases h
theorem qt_7 (hK : qe_KG kp md d K) (g : pm_at (pm_cd md) pc = some (i, nx, a, b)) (h : qe_s7 i nx lv st m K = some x) : qe_V kp md d x pc lv st m := by
  unfold qe_s7 at h
  split at h
  · rename_i v hv; exact pq_sop g hv (hK _ _ _ _ _ h)
  · cases h
theorem qt_8 (hK : qe_KG kp md d K) (g : pm_at (pm_cd md) pc = some (i, nx, a, b)) (h : qe_s8 i nx lv st m K = some x) : qe_V kp md d x pc lv st m := by
  unfold qe_s8 at h
  split at h
  · obtain ⟨j, v, h1, h2⟩ := qe_get_some h
    split at h2
    · obtain ⟨l1, h3, h4⟩ := qe_sto_some h2
      exact pq_inc j g h1 h3 (hK _ _ _ _ _ h4)
    · cases h2
  · cases h
theorem qt_9 (hK : qe_KG kp md d K) (g : pm_at (pm_cd md) pc = some (i, nx, a, b)) (h : qe_s9 i a lv st m K = some x) : qe_V kp md d x pc lv st m := by
  unfold qe_s9 at h
  split at h
  · exact pq_goto g (hK _ _ _ _ _ h)
  · cases h
theorem qt_10 (hK : qe_KG kp md d K) (g : pm_at (pm_cd md) pc = some (i, nx, a, b)) (h : qe_s10 i nx a lv st m K = some x) : qe_V kp md d x pc lv st m := by
  unfold qe_s10 at h
  split at h
  · obtain ⟨h1, h2⟩ := qe_if_some h
    exact pq_ifc g (fun q => hK _ _ _ _ _ (h1 q)) (fun q => hK _ _ _ _ _ (h2 q))
  · cases h
theorem qt_11 (hK : qe_KG kp md d K) (g : pm_at (pm_cd md) pc = some (i, nx, a, b)) (h : qe_s11 i nx a lv st m K = some x) : qe_V kp md d x pc lv st m := by
  unfold qe_s11 at h
  split at h
  · obtain ⟨h1, h2⟩ := qe_if_some h
    exact pq_icm g (fun q => hK _ _ _ _ _ (h1 q)) (fun q => hK _ _ _ _ _ (h2 q))
  · cases h
theorem qt_12 (hK : qe_KG kp md d K) (g : pm_at (pm_cd md) pc = some (i, nx, a, b)) (h : qe_s12 i pc lv st m K = some x) : qe_V kp md d x pc lv st m := by
  unfold qe_s12 at h
  split at h
  · rename_i dd lo hi os y r
    obtain ⟨h0, h1⟩ := qe_b_some h
    have h0 : hi + 1 = lo + os.size := of_decide_eq_true h0
    rcases qe_tsw_some h1 with ⟨j, k, h2, h3, h4⟩ | ⟨h2, h3⟩
    · have hj : j < os.size := by
        have := (List.getElem?_eq_some_iff.mp h2).1
        simpa using this
      refine pq_tsi (off := Int.ofNat k) (t := pc + k) g (by omega) (by omega) ?_ (by simp) (hK _ _ _ _ _ h4)
      rw [show (y.toInt - lo).toNat = j by omega]
      rw [← Array.getElem?_toList]
      exact h2
    · refine pq_tso (t := pc + dd) g ?_ (by simp) (hK _ _ _ _ _ h3)
      by_cases q : y.toInt < lo
      · exact Or.inl q
      · refine Or.inr (Int.not_le.mp fun q2 => ?_)
        exact h2 (y.toInt - lo).toNat (by simp; omega) (by omega)
  · cases h
theorem qt_13 (hK : qe_KG kp md d K) (g : pm_at (pm_cd md) pc = some (i, nx, a, b)) (h : qe_s13 i pc lv st m K = some x) : qe_V kp md d x pc lv st m := by
  unfold qe_s13 at h
  split at h
  · obtain ⟨h0, h1⟩ := qe_b_some h
    obtain ⟨t, h2, h3⟩ := qe_lsw_some h1
    exact pq_lsw g h0 h2 (hK _ _ _ _ _ h3)
  · cases h
theorem qm_obj {m : qm_M} {o ci : Nat} (h : qm_isO o ci = true) : (qm_hp m)[o]? = some (.inr (ci, qm_fs m o (qm_ks ci) 0)) := by
  obtain ⟨n, h1⟩ := qm_isO_at h
  rw [qm_hp_at, h1]
  unfold qm_cell
  have e : Nat.ble 100 (100 + ci) = true := Nat.ble_eq_true_of_le (by omega)
  simp [e]
theorem qt_14 (hK : qe_KG kp md d K) (g : pm_at (pm_cd md) pc = some (i, nx, a, b)) (h : qe_s14 i nx a b lv st m K = some x) : qe_V kp md d x pc lv st m := by
  unfold qe_s14 at h
  split at h
  · rename_i n o r
    cases ha : Nat.beq a 100 with
    | true =>
      rw [ha] at h
      obtain ⟨h1, h2⟩ := qe_b_some h
      split at h2
      · exact pq_gek g (Nat.eq_of_beq_eq_true ha) (by unfold pm_kfl; rw [h1]; rfl) (hK _ _ _ _ _ h2)
      · exact pq_gek g (Nat.eq_of_beq_eq_true ha) (by unfold pm_kfl; rw [h1]; rfl) (hK _ _ _ _ _ h2)
      · cases h2
    | false =>
      rw [ha] at h
      obtain ⟨h1, h2⟩ := qe_b_some h
      have hb : ∀ k, qm_nth (qm_ks a) b 9 = k → k ≠ 9 → (qm_fs m o (qm_ks a) 0)[b]? = some (qm_fv m o b k) := fun k hk hn => by
        rw [qm_fs_at, Nat.zero_add]
        rw [qm_nth_eq] at hk
        cases hl : (qm_ks a)[b]? with
        | none => rw [hl] at hk; exact absurd hk.symm hn
        | some z => rw [hl] at hk; rw [← hk]; rfl
      split at h2
      · rename_i q; exact pq_get g (qm_obj h1) (hb 0 q (by decide)) (hK _ _ _ _ _ h2)
      · rename_i q; exact pq_get g (qm_obj h1) (hb 1 q (by decide)) (hK _ _ _ _ _ h2)
      · rename_i q; exact pq_get g (qm_obj h1) (hb 2 q (by decide)) (hK _ _ _ _ _ h2)
      · cases h2
  · cases h
theorem pm_setc_some : ∀ (fs : List Value) (k : Nat) (v : Value) (c : List Value → Option (List Value)), k < fs.length → pm_setc fs k v c = c (fs.set k v)
  | [], k, v, c, h => absurd h (Nat.not_lt_zero _)
  | q :: r, 0, v, c, h => rfl
  | q :: r, k + 1, v, c, h => by
    unfold pm_setc
    rw [pm_setc_some r k v _ (by simpa using h)]
    rfl
theorem qm_nth_lt {α : Type} {l : List α} {k : Nat} {d v : α} (h : qm_nth l k d = v) (hv : v ≠ d) : l[k]? = some v := by
  rw [qm_nth_eq] at h
  cases hl : l[k]? with
  | none => rw [hl] at h; exact absurd h.symm hv
  | some z => rw [hl] at h; rw [← h]; rfl
theorem qm_fs_setI {m : qm_M} {o b : Nat} {y : Int32} {l : List Nat} (h : l[b]? = some 0) : (qm_fs m o l 0).set b (.int y) = qm_fs (qm_sI m o b y) o l 0 := by
  apply List.ext_getElem?
  intro k
  by_cases hk : b = k
  · subst hk
    have hl : b < (qm_fs m o l 0).length := by rw [qm_fs_len]; exact (List.getElem?_eq_some_iff.mp h).1
    rw [List.getElem?_set_self hl, qm_fs_at, h]
    simp [qm_fv, qm_sI, upd]
  · rw [List.getElem?_set_ne hk, qm_fs_at, qm_fs_at]
    congr 1
    funext e
    have : k ≠ b := Ne.symm hk
    simp only [Nat.zero_add]
    unfold qm_fv
    split
    · simp [qm_sI, upd, this]
    · simp [qm_sI]
    · rfl
theorem qm_fs_setL {m : qm_M} {o b : Nat} {y : Int64} {l : List Nat} (h : l[b]? = some 1) : (qm_fs m o l 0).set b (.long y) = qm_fs (qm_sL m o b y) o l 0 := by
  apply List.ext_getElem?
  intro k
  by_cases hk : b = k
  · subst hk
    have hl : b < (qm_fs m o l 0).length := by rw [qm_fs_len]; exact (List.getElem?_eq_some_iff.mp h).1
    rw [List.getElem?_set_self hl, qm_fs_at, h]
    simp [qm_fv, qm_sL, vp_updL]
  · rw [List.getElem?_set_ne hk, qm_fs_at, qm_fs_at]
    congr 1
    funext e
    have : k ≠ b := Ne.symm hk
    simp only [Nat.zero_add]
    unfold qm_fv
    split
    · simp [qm_sL]
    · simp [qm_sL, vp_updL, this]
    · rfl
theorem qm_sI_other {m : qm_M} {o j : Nat} {y : Int32} : ∀ a, a ≠ o → (qm_sI m o j y).1 a = m.1 a ∧ (qm_sI m o j y).2 a = m.2 a := fun a h => by
  have e : Nat.beq a o = false := by rw [Bool.eq_false_iff]; exact fun q => h (Nat.eq_of_beq_eq_true q)
  simp [qm_sI, e]
theorem qm_sL_other {m : qm_M} {o j : Nat} {y : Int64} : ∀ a, a ≠ o → (qm_sL m o j y).1 a = m.1 a ∧ (qm_sL m o j y).2 a = m.2 a := fun a h => by
  have e : Nat.beq a o = false := by rw [Bool.eq_false_iff]; exact fun q => h (Nat.eq_of_beq_eq_true q)
  simp [qm_sL, e]
theorem qt_15 (hK : qe_KG kp md d K) (g : pm_at (pm_cd md) pc = some (i, nx, a, b)) (h : qe_s15 i nx a b lv st m K = some x) : qe_V kp md d x pc lv st m := by
  unfold qe_s15 at h
  split at h
  · rename_i n v o r
    obtain ⟨h1, h2⟩ := qe_b_some h
    obtain ⟨N, hL⟩ := qm_isO_at h1
    have e : Nat.ble 100 (100 + a) = true := Nat.ble_eq_true_of_le (by omega)
    split at h2
    · rename_i ty hty
      split at h2
      · rename_i y
        obtain ⟨h3, h4⟩ := qe_b_some h2
        obtain ⟨h5, h6⟩ := qe_b_some h4
        have h7 := qm_nth_lt (Nat.eq_of_beq_eq_true h5) (by decide)
        have hl : b < (qm_fs m o (qm_ks a) 0).length := by rw [qm_fs_len]; exact (List.getElem?_eq_some_iff.mp h7).1
        refine pq_put g (qm_obj h1) hty (qm_fi_ok h3) (pm_setc_some _ _ _ _ hl) ?_
        have hs := qm_hp_set (m := m) (m1 := qm_sI m o b y) hL qm_sI_other
        rw [qm_fs_setI h7]
        have hc : qm_cell (qm_sI m o b y) o (100 + a, N) = .inr (a, qm_fs (qm_sI m o b y) o (qm_ks a) 0) := by
          unfold qm_cell
          simp [e]
        rw [hc] at hs
        rw [hs]
        exact hK _ _ _ _ _ h6
      · rename_i y
        obtain ⟨h5, h6⟩ := qe_b_some h2
        have h7 := qm_nth_lt (Nat.eq_of_beq_eq_true h5) (by decide)
        have hl : b < (qm_fs m o (qm_ks a) 0).length := by rw [qm_fs_len]; exact (List.getElem?_eq_some_iff.mp h7).1
        split at h6
        · refine pq_put g (qm_obj h1) hty ⟨rfl, rfl⟩ (pm_setc_some _ _ _ _ hl) ?_
          have hs := qm_hp_set (m := m) (m1 := qm_sL m o b y) hL qm_sL_other
          rw [qm_fs_setL h7]
          have hc : qm_cell (qm_sL m o b y) o (100 + a, N) = .inr (a, qm_fs (qm_sL m o b y) o (qm_ks a) 0) := by
            unfold qm_cell
            simp [e]
          rw [hc] at hs
          rw [hs]
          exact hK _ _ _ _ _ h6
        · cases h6
      · cases h2
    · cases h2
  · cases h
theorem qm_ints {m : qm_M} {o t n : Nat} (h : qm_lay[o]? = some (t, n)) (ht : t = 0 ∨ t = 2 ∨ t = 3) : (qm_hp m)[o]? = some (.inl (t, (n, .inl (m.1 o)))) := by
  rw [qm_hp_at, h]
  rcases ht with rfl | rfl | rfl <;> rfl
theorem qm_cell_i {m : qm_M} {o t n : Nat} (ht : t = 0 ∨ t = 2 ∨ t = 3) : qm_cell m o (t, n) = .inl (t, (n, .inl (m.1 o))) := by
  rcases ht with rfl | rfl | rfl <;> rfl
theorem qm_cell_l {m : qm_M} {o n : Nat} : qm_cell m o (1, n) = .inl (1, (n, .inr (.inl (m.2 o)))) := rfl
theorem qm_sI_self (m : qm_M) (o j : Nat) (y : Int32) : (qm_sI m o j y).1 o = upd (m.1 o) j y := by simp [qm_sI]
theorem qm_sL_self (m : qm_M) (o j : Nat) (y : Int64) : (qm_sL m o j y).2 o = vp_updL (m.2 o) j y := by simp [qm_sL]
set_option maxRecDepth 100000 in
theorem qm_kar {kp : pm_K} : ∀ k, k < 5 → pm_kar kp (1000030 + k) = some (2, ([2, 5, 5, 4, 5].getD k 0, .inl (fun i => (pm_wds.getD k []).getD i 0)))
  | 0, _ => rfl
  | 1, _ => rfl
  | 2, _ => rfl
  | 3, _ => rfl
  | 4, _ => rfl
  | k + 5, h => by omega
theorem qm_longs {m : qm_M} {o n : Nat} (h : qm_lay[o]? = some (1, n)) : (qm_hp m)[o]? = some (.inl (1, (n, .inr (.inl (m.2 o))))) := by
  rw [qm_hp_at, h]
  rfl
theorem qt_16 (hsc : ∀ q, sc = some q → q = kp) (hK : qe_KG kp md d K) (g : pm_at (pm_cd md) pc = some (.iaload, nx, a, b)) (h : qe_s16 sc nx lv st m K = some x) : qe_V kp md d x pc lv st m := by
  unfold qe_s16 at h
  split at h
  · rename_i j o r
    cases sc with
    | some q =>
      have e := hsc q rfl
      subst e
      dsimp only at h
      cases ho : Nat.beq o 1000000 with
      | false => rw [ho] at h; cases h
      | true =>
        rw [ho] at h
        have e := Nat.eq_of_beq_eq_true ho
        subst e
        rw [cond_true] at h
        obtain ⟨h1, h2⟩ := qe_b_some h
        exact pq_kil g rfl (qm_in_ok h1) (hK _ _ _ _ _ h2)
    | none =>
      dsimp only at h
      obtain ⟨h1, h2⟩ := qe_b_some h
      obtain ⟨h3, h4⟩ := qe_b_some h2
      obtain ⟨n, hL, hn⟩ := qm_isL_at h1 (by decide)
      rw [hn] at h3
      exact pq_ial g (qm_ints hL (Or.inl rfl)) (qm_in_ok h3) (hK _ _ _ _ _ h4)
  · cases h
theorem qm_small {o : Nat} {e : Nat × Nat} (h : qm_lay[o]? = some e) : Nat.ble 1000000 o = false := by
  have h1 := (List.getElem?_eq_some_iff.mp h).1
  have h2 : qm_lay.length = 141 := by decide +kernel
  rw [Bool.eq_false_iff]
  intro q
  have := Nat.le_of_ble_eq_true q
  omega
theorem qm_gv_some {o t : Nat} (h : Nat.beq (qm_gv o).1 t = true) (ht : t ≠ 99) : (o = 1000001 ∧ qm_gv o = (1, 6)) ∨ (o = 1000002 ∧ qm_gv o = (1, 7)) ∨ ∃ j, j < 5 ∧ o = 1000030 + j ∧ qm_gv o = (2, [2, 5, 5, 4, 5].getD j 0) := by
  by_cases h1 : o = 1000001
  · exact Or.inl ⟨h1, by rw [h1]; rfl⟩
  by_cases h2 : o = 1000002
  · exact Or.inr (Or.inl ⟨h2, by rw [h2]; rfl⟩)
  by_cases h3 : o = 1000030
  · exact Or.inr (Or.inr ⟨0, by decide, h3, by rw [h3]; rfl⟩)
  by_cases h4 : o = 1000031
  · exact Or.inr (Or.inr ⟨1, by decide, h4, by rw [h4]; rfl⟩)
  by_cases h5 : o = 1000032
  · exact Or.inr (Or.inr ⟨2, by decide, h5, by rw [h5]; rfl⟩)
  by_cases h6 : o = 1000033
  · exact Or.inr (Or.inr ⟨3, by decide, h6, by rw [h6]; rfl⟩)
  by_cases h7 : o = 1000034
  · exact Or.inr (Or.inr ⟨4, by decide, h7, by rw [h7]; rfl⟩)
  exfalso
  have nb : ∀ k, o ≠ k → Nat.beq o k = false := fun k q => by rw [Bool.eq_false_iff]; exact fun z => q (Nat.eq_of_beq_eq_true z)
  unfold qm_gv at h
  rw [nb _ h1, nb _ h2, nb _ h3, nb _ h4, nb _ h5, nb _ h6, nb _ h7] at h
  exact ht (Nat.eq_of_beq_eq_true h).symm
theorem qt_17 (hK : qe_KG kp md d K) (g : pm_at (pm_cd md) pc = some (.baload, nx, a, b)) (h : qe_s17 nx lv st m K = some x) : qe_V kp md d x pc lv st m := by
  unfold qe_s17 at h
  split at h
  · rename_i j o r
    obtain ⟨h1, h2⟩ := qe_b_some h
    obtain ⟨h3, h4⟩ := qe_b_some h2
    cases hb : Nat.ble 1000000 o with
    | false =>
      have e1 : qm_gk o = qm_kn o := by unfold qm_gk; rw [hb]; first | rw [cond_true] | rw [cond_false]
      have e2 : qm_gI m o j.toNatClampNeg = m.1 o j.toNatClampNeg := by unfold qm_gI; rw [hb]; first | rw [cond_true] | rw [cond_false]
      unfold qm_n at h3
      unfold qm_isA at h1
      rw [e1] at h1 h3
      rw [e2] at h4
      rcases Bool.or_eq_true_iff.mp h1 with q | q
      · obtain ⟨n, hL, hn⟩ := qm_isL_at (t := 2) q (by decide)
        unfold qm_nl at hn
        rw [hn] at h3
        exact pq_bal g (qm_ints hL (Or.inr (Or.inl rfl))) (qm_in_ok h3) (hK _ _ _ _ _ h4)
      · obtain ⟨n, hL, hn⟩ := qm_isL_at (t := 3) q (by decide)
        unfold qm_nl at hn
        rw [hn] at h3
        exact pq_zal g (qm_ints hL (Or.inr (Or.inr rfl))) (qm_in_ok h3) (hK _ _ _ _ _ h4)
    | true =>
      have e1 : qm_gk o = qm_gv o := by unfold qm_gk; rw [hb]; first | rw [cond_true] | rw [cond_false]
      have e2 : qm_gI m o j.toNatClampNeg = qm_gw o j.toNatClampNeg := by unfold qm_gI; rw [hb]; first | rw [cond_true] | rw [cond_false]
      unfold qm_n at h3
      unfold qm_isA at h1
      rw [e1] at h1 h3
      rw [e2] at h4
      rcases Bool.or_eq_true_iff.mp h1 with q | q
      · rcases qm_gv_some q (by decide) with ⟨rfl, -⟩ | ⟨rfl, -⟩ | ⟨k, hk, rfl, hg⟩
        · cases q
        · cases q
        · rw [hg] at h3
          have e3 : qm_gw (1000030 + k) j.toNatClampNeg = (pm_wds.getD k []).getD j.toNatClampNeg 0 := by
            unfold qm_gw
            rw [qm_nth_eq, qm_nth_eq, List.getD_eq_getElem?_getD, List.getD_eq_getElem?_getD, Nat.add_sub_cancel_left]
          rw [e3] at h4
          exact pq_kbl (f := fun i => (pm_wds.getD k []).getD i 0) (n := [2, 5, 5, 4, 5].getD k 0) g (qm_kar k hk) (qm_in_ok h3) (hK _ _ _ _ _ h4)
      · obtain ⟨n, hL, hn⟩ := qm_isL_at (t := 3) q (by decide)
        rw [qm_small hL] at hb
        cases hb
  · cases h
theorem qt_18 (hK : qe_KG kp md d K) (g : pm_at (pm_cd md) pc = some (.laload, nx, a, b)) (h : qe_s18 nx lv st m K = some x) : qe_V kp md d x pc lv st m := by
  unfold qe_s18 at h
  split at h
  · rename_i j o r
    obtain ⟨h1, h2⟩ := qe_b_some h
    obtain ⟨h3, h4⟩ := qe_b_some h2
    cases hb : Nat.ble 1000000 o with
    | false =>
      have e1 : qm_gk o = qm_kn o := by unfold qm_gk; rw [hb]; first | rw [cond_true] | rw [cond_false]
      have e2 : qm_gL m o j.toNatClampNeg = m.2 o j.toNatClampNeg := by unfold qm_gL; rw [hb, cond_false]
      unfold qm_n at h3
      unfold qm_isA at h1
      rw [e1] at h1 h3
      rw [e2] at h4
      obtain ⟨n, hL, hn⟩ := qm_isL_at (t := 1) h1 (by decide)
      unfold qm_nl at hn
      rw [hn] at h3
      exact pq_lal g (qm_longs hL) (qm_in_ok h3) (hK _ _ _ _ _ h4)
    | true =>
      have e1 : qm_gk o = qm_gv o := by unfold qm_gk; rw [hb]; first | rw [cond_true] | rw [cond_false]
      unfold qm_n at h3
      unfold qm_isA at h1
      rw [e1] at h1 h3
      rcases qm_gv_some h1 (by decide) with ⟨rfl, hg⟩ | ⟨rfl, hg⟩ | ⟨k, hk, rfl, hg⟩
      · rw [hg] at h3
        have e3 : qm_gL m 1000001 j.toNatClampNeg = pm_low.getD j.toNatClampNeg 0 := by
          rw [List.getD_eq_getElem?_getD, ← qm_nth_eq]; rfl
        rw [e3] at h4
        exact pq_kll (f := fun i => pm_low.getD i 0) g rfl (qm_in_ok h3) (hK _ _ _ _ _ h4)
      · rw [hg] at h3
        have e3 : qm_gL m 1000002 j.toNatClampNeg = pm_prm.getD j.toNatClampNeg 0 := by
          rw [List.getD_eq_getElem?_getD, ← qm_nth_eq]; rfl
        rw [e3] at h4
        exact pq_kll (f := fun i => pm_prm.getD i 0) g rfl (qm_in_ok h3) (hK _ _ _ _ _ h4)
      · rw [hg] at h1
        cases h1
  · cases h
theorem qt_19 (hK : qe_KG kp md d K) (g : pm_at (pm_cd md) pc = some (.aaload, nx, a, b)) (h : qe_s19 nx lv st m K = some x) : qe_V kp md d x pc lv st m := by
  unfold qe_s19 at h
  split at h
  · rename_i j o r
    obtain ⟨h1, h2⟩ := qe_b_some h
    obtain ⟨h3, h4⟩ := qe_b_some h2
    have key : ∀ t, (t = 4 ∨ t = 5) → qm_isL o t = true → qe_V kp md d x pc lv (.int j :: .ref o :: r) m := fun t ht q => by
      obtain ⟨n, hL, hn⟩ := qm_isL_at q (by omega)
      rw [hn] at h3
      have hc : (qm_hp m)[o]? = some (.inl (t, (n, .inr (.inr (.inr (.inr (fun j => bif Nat.ble (j + 1) n then some (qm_rf o j) else none))))))) := by
        rw [qm_hp_at, hL]
        rcases ht with rfl | rfl <;> rfl
      have hin := qm_in_ok h3
      have hlt : j.toNatClampNeg + 1 ≤ n := Nat.not_le.mp fun q => hin (Or.inr q)
      exact pq_aal g hc ht hin (by rw [Nat.ble_eq_true_of_le hlt]; rfl) (hK _ _ _ _ _ h4)
    rcases Bool.or_eq_true_iff.mp h1 with q | q
    · exact key 4 (Or.inl rfl) q
    · exact key 5 (Or.inr rfl) q
  · cases h
theorem qt_20 (hK : qe_KG kp md d K) (g : pm_at (pm_cd md) pc = some (.iastore, nx, a, b)) (h : qe_s20 nx lv st m K = some x) : qe_V kp md d x pc lv st m := by
  unfold qe_s20 at h
  split at h
  · rename_i y j o r
    obtain ⟨h1, h2⟩ := qe_b_some h
    obtain ⟨h3, h4⟩ := qe_b_some h2
    obtain ⟨n, hL, hn⟩ := qm_isL_at h1 (by decide)
    rw [hn] at h3
    refine pq_ias g (qm_ints hL (Or.inl rfl)) (qm_in_ok h3) ?_
    have hs := qm_hp_set (m := m) (m1 := qm_sI m o j.toNatClampNeg y) hL qm_sI_other
    rw [show qm_cell (qm_sI m o j.toNatClampNeg y) o (0, n) = .inl (0, (n, .inl (upd (m.1 o) j.toNatClampNeg y))) by rw [qm_cell_i (Or.inl rfl), qm_sI_self]] at hs
    rw [hs]
    exact hK _ _ _ _ _ h4
  · cases h
theorem qt_21 (hK : qe_KG kp md d K) (g : pm_at (pm_cd md) pc = some (.bastore, nx, a, b)) (h : qe_s21 nx lv st m K = some x) : qe_V kp md d x pc lv st m := by
  unfold qe_s21 at h
  split at h
  · rename_i y j o r
    cases hq : qm_isL o 2 with
    | true =>
      rw [hq] at h
      obtain ⟨h3, h4⟩ := qe_b_some h
      obtain ⟨n, hL, hn⟩ := qm_isL_at hq (by decide)
      rw [hn] at h3
      refine pq_bas g (qm_ints hL (Or.inr (Or.inl rfl))) (qm_in_ok h3) ?_
      have hs := qm_hp_set (m := m) (m1 := qm_sI m o j.toNatClampNeg (vp_nar .byte y)) hL qm_sI_other
      rw [show qm_cell (qm_sI m o j.toNatClampNeg (vp_nar .byte y)) o (2, n) = .inl (2, (n, .inl (upd (m.1 o) j.toNatClampNeg (vp_nar .byte y)))) by rw [qm_cell_i (Or.inr (Or.inl rfl)), qm_sI_self]] at hs
      rw [hs]
      exact hK _ _ _ _ _ h4
    | false =>
      rw [hq] at h
      obtain ⟨h1, h2⟩ := qe_b_some h
      obtain ⟨h3, h4⟩ := qe_b_some h2
      obtain ⟨n, hL, hn⟩ := qm_isL_at h1 (by decide)
      rw [hn] at h3
      refine pq_zas g (qm_ints hL (Or.inr (Or.inr rfl))) (qm_in_ok h3) ?_
      have hs := qm_hp_set (m := m) (m1 := qm_sI m o j.toNatClampNeg (vp_nar .boolean y)) hL qm_sI_other
      rw [show qm_cell (qm_sI m o j.toNatClampNeg (vp_nar .boolean y)) o (3, n) = .inl (3, (n, .inl (upd (m.1 o) j.toNatClampNeg (vp_nar .boolean y)))) by rw [qm_cell_i (Or.inr (Or.inr rfl)), qm_sI_self]] at hs
      rw [hs]
      exact hK _ _ _ _ _ h4
  · cases h
theorem qt_22 (hK : qe_KG kp md d K) (g : pm_at (pm_cd md) pc = some (.lastore, nx, a, b)) (h : qe_s22 nx lv st m K = some x) : qe_V kp md d x pc lv st m := by
  unfold qe_s22 at h
  split at h
  · rename_i y j o r
    obtain ⟨h1, h2⟩ := qe_b_some h
    obtain ⟨h3, h4⟩ := qe_b_some h2
    obtain ⟨n, hL, hn⟩ := qm_isL_at h1 (by decide)
    rw [hn] at h3
    refine pq_las g (qm_longs hL) (qm_in_ok h3) ?_
    have hs := qm_hp_set (m := m) (m1 := qm_sL m o j.toNatClampNeg y) hL qm_sL_other
    rw [show qm_cell (qm_sL m o j.toNatClampNeg y) o (1, n) = .inl (1, (n, .inr (.inl (vp_updL (m.2 o) j.toNatClampNeg y)))) by rw [qm_cell_l, qm_sL_self]] at hs
    rw [hs]
    exact hK _ _ _ _ _ h4
  · cases h
theorem qt_23 (hsc : ∀ q, sc = some q → q = kp) (hK : qe_KG kp md d K) (g : pm_at (pm_cd md) pc = some (.arraylength, nx, a, b)) (h : qe_s23 sc nx lv st m K = some x) : qe_V kp md d x pc lv st m := by
  unfold qe_s23 at h
  split at h
  · rename_i o r
    cases sc with
    | some q =>
      have e := hsc q rfl
      subst e
      dsimp only at h
      cases ho : Nat.beq o 1000000 with
      | false => rw [ho] at h; cases h
      | true =>
        rw [ho] at h
        have e := Nat.eq_of_beq_eq_true ho
        subst e
        exact pq_kle g rfl (hK _ _ _ _ _ h)
    | none =>
      dsimp only at h
      obtain ⟨h1, h2⟩ := qe_b_some h
      have h1 := Nat.le_of_ble_eq_true h1
      cases hb : Nat.ble 1000000 o with
      | false =>
        have e1 : qm_gk o = qm_kn o := by unfold qm_gk; rw [hb]; first | rw [cond_true] | rw [cond_false]
        unfold qm_n at h2
        rw [e1] at h1 h2
        have hq : qm_isL o (qm_kn o).1 = true := Nat.beq_refl _
        obtain ⟨n, hL, hn⟩ := qm_isL_at hq (by omega)
        unfold qm_nl at hn
        rw [hn] at h2
        have hc : ∃ y, (qm_hp m)[o]? = some (.inl ((qm_kn o).1, (n, y))) := by
          rw [qm_hp_at, hL]
          generalize (qm_kn o).1 = t at h1
          match t, h1 with
          | 0, _ => exact ⟨_, rfl⟩
          | 1, _ => exact ⟨_, rfl⟩
          | 2, _ => exact ⟨_, rfl⟩
          | 3, _ => exact ⟨_, rfl⟩
          | 4, _ => exact ⟨_, rfl⟩
          | 5, _ => exact ⟨_, rfl⟩
          | k + 6, h => omega
        obtain ⟨y, hc⟩ := hc
        exact pq_len g hc (by omega) (hK _ _ _ _ _ h2)
      | true =>
        have e1 : qm_gk o = qm_gv o := by unfold qm_gk; rw [hb]; first | rw [cond_true] | rw [cond_false]
        unfold qm_n at h2
        rw [e1] at h1 h2
        have hq : Nat.beq (qm_gv o).1 (qm_gv o).1 = true := Nat.beq_refl _
        rcases qm_gv_some hq (by omega) with ⟨rfl, hg⟩ | ⟨rfl, hg⟩ | ⟨k, hk, rfl, hg⟩
        · exact pq_kle g rfl (hK _ _ _ _ _ h2)
        · exact pq_kle g rfl (hK _ _ _ _ _ h2)
        · rw [hg] at h2
          exact pq_kle g (qm_kar k hk) (hK _ _ _ _ _ h2)
  · cases h
theorem qe_ret_some {α : Type} {ret : Nat} {r : Option qm_R} {rest : List Value} {k : List Value → qm_M → Option α} {z : α} (h : qe_ret ret r rest k = some z) : ∃ y, r = some y ∧ k (pm_pu y.1 rest) y.2 = some z := by
  unfold qe_ret at h
  split at h
  · unfold qe_rV at h
    split at h
    · exact ⟨_, rfl, h⟩
    · cases h
  · unfold qe_rI at h
    split at h
    · exact ⟨_, rfl, h⟩
    · cases h
  · unfold qe_rL at h
    split at h
    · exact ⟨_, rfl, h⟩
    · cases h
  · unfold qe_rR at h
    split at h
    · exact ⟨_, rfl, h⟩
    · cases h
  · cases h
theorem qt_24 (hT : qe_G kp d T) (hK : qe_KG kp md d K) {n : Nat} (g : pm_at (pm_cd md) pc = some (.invokestatic n, nx, a, b)) (h : qe_s24 T nx a b lv st m K = some x) : qe_V kp md d x pc lv st m := by
  unfold qe_s24 at h
  cases h1 : Nat.beq a 1001 with
  | true =>
    rw [h1] at h
    dsimp only [cond_true] at h
    split at h
    · obtain ⟨h3, h4⟩ := qe_b_some h
      exact pq_mmx g (Nat.eq_of_beq_eq_true h1) (Nat.le_of_ble_eq_true h3) (hK _ _ _ _ _ h4)
    · cases h
  | false =>
    rw [h1] at h
    dsimp only [cond_false] at h
    cases h2 : Nat.beq a 1002 with
    | true =>
      rw [h2] at h
      dsimp only [cond_true] at h
      split at h
      · obtain ⟨h3, h4⟩ := qe_b_some h
        exact pq_mmn g (Nat.eq_of_beq_eq_true h2) (Nat.le_of_ble_eq_true h3) (hK _ _ _ _ _ h4)
      · cases h
    | false =>
      rw [h2] at h
      dsimp only [cond_false] at h
      split at h
      · rename_i knd ci ret f hl
        obtain ⟨h3, h4⟩ := qe_b_some h
        obtain ⟨as, rest, h5, h6⟩ := qe_spl_some h4
        obtain ⟨h7, h8⟩ := qe_b_some h6
        obtain ⟨y, h9, h10⟩ := qe_ret_some h8
        obtain ⟨g1, g2, g3, g4, g5⟩ := hT _ (qe_look_mem hl)
        exact pq_cls g rfl (g2 (Nat.eq_of_beq_eq_true h3)) h5 (Nat.le_of_ble_eq_true h7) (Or.inl g1) (g5 as m y h9) (hK _ _ _ _ _ h10)
      · cases h
theorem qt_25 (hT : qe_G kp d T) (hK : qe_KG kp md d K) {n : Nat} (g : pm_at (pm_cd md) pc = some (.invokevirtual n, nx, a, b)) (h : qe_s25 T nx a b lv st m K = some x) : qe_V kp md d x pc lv st m := by
  unfold qe_s25 at h
  split at h
  · rename_i knd ci ret f hl
    obtain ⟨as, rest, h5, h6⟩ := qe_spl_some h
    split at h6
    · rename_i o as1
      obtain ⟨h7, h8⟩ := qe_b_some h6
      obtain ⟨h11, h12⟩ := qe_b_some h8
      obtain ⟨y, h9, h10⟩ := qe_ret_some h12
      obtain ⟨g1, g2, g3, g4, g5⟩ := hT _ (qe_look_mem hl)
      split at h11
      · obtain ⟨g6, g7⟩ := g3 rfl
        exact pq_clv g (Or.inl ⟨rfl, g6⟩) h5 (Nat.le_of_ble_eq_true h7) (qm_obj h11) g7 (Or.inl g1) (g5 _ m y h9) (hK _ _ _ _ _ h10)
      · obtain ⟨g6, g7⟩ := g4 rfl
        obtain ⟨q1, q2⟩ := Bool.and_eq_true_iff.mp h11
        exact pq_clk g g6 g7 h5 (Nat.le_of_ble_eq_true h7) (Nat.le_of_ble_eq_true q1) (Nat.le_of_ble_eq_true q2) g1 (g5 _ m y h9) (hK _ _ _ _ _ h10)
      · cases h11
    · cases h6
  · cases h
theorem qt_26 (g : pm_at (pm_cd md) pc = some (.ireturn, nx, a, b)) (h : qe_s26 md st m = some x) : qe_V kp md d x pc lv st m := by
  unfold qe_s26 at h
  split at h
  · split at h
    · rename_i ty hty
      obtain ⟨h1, h2⟩ := qe_b_some h
      cases h2
      exact pq_irt g hty (qm_ni_ok h1) ⟨rfl, rfl⟩
    · cases h
  · cases h
theorem qt_27 (g : pm_at (pm_cd md) pc = some (.lreturn, nx, a, b)) (h : qe_s27 md st m = some x) : qe_V kp md d x pc lv st m := by
  unfold qe_s27 at h
  split at h
  · split at h
    · rename_i hty
      cases h
      exact pq_lrt g hty ⟨rfl, rfl⟩
    · cases h
  · cases h
theorem qt_28 (g : pm_at (pm_cd md) pc = some (.areturn, nx, a, b)) (h : qe_s28 md st m = some x) : qe_V kp md d x pc lv st m := by
  unfold qe_s28 at h
  split at h
  · split at h
    · rename_i hty
      cases h
      exact pq_art g hty ⟨rfl, rfl⟩
    · cases h
  · cases h
theorem qt_29 (g : pm_at (pm_cd md) pc = some (.return_, nx, a, b)) (h : qe_s29 md st m = some x) : qe_V kp md d x pc lv st m := by
  unfold qe_s29 at h
  split at h
  · split at h
    · rename_i hty
      cases h
      exact pq_vrt g hty ⟨rfl, rfl⟩
    · cases h
  · cases h
theorem qt_30 (hK : qe_KG kp md d K) {n : Nat} (g : pm_at (pm_cd md) pc = some (.getstatic n, nx, a, b)) (h : qe_s30 nx a lv st m K = some x) : qe_V kp md d x pc lv st m := by
  unfold qe_s30 at h
  split at h
  · rename_i v hv; exact pq_gst g hv (hK _ _ _ _ _ h)
  · cases h
theorem qt_step (hsc : ∀ q, sc = some q → q = kp) (hT : qe_G kp d T) (hK : qe_KG kp md d K) (g : pm_at (pm_cd md) pc = some (i, nx, a, b)) (h : qe_step sc md T i nx a b pc lv st m K = some x) : qe_V kp md d x pc lv st m := by
  unfold qe_step at h
  split at h
  all_goals first
    | exact qt_0 hK g h
    | exact qt_1 hK g h
    | exact qt_2 hK g h
    | exact qt_3 hK g h
    | exact qt_4 hK g h
    | exact qt_5 hK g h
    | exact qt_6 hK g h
    | exact qt_7 hK g h
    | exact qt_8 hK g h
    | exact qt_9 hK g h
    | exact qt_10 hK g h
    | exact qt_11 hK g h
    | exact qt_12 hK g h
    | exact qt_13 hK g h
    | exact qt_14 hK g h
    | exact qt_15 hK g h
    | exact qt_16 hsc hK g h
    | exact qt_17 hK g h
    | exact qt_18 hK g h
    | exact qt_19 hK g h
    | exact qt_20 hK g h
    | exact qt_21 hK g h
    | exact qt_22 hK g h
    | exact qt_23 hsc hK g h
    | exact qt_24 hT hK g h
    | exact qt_25 hT hK g h
    | exact qt_26 g h
    | exact qt_27 g h
    | exact qt_28 g h
    | exact qt_29 g h
    | exact qt_30 hK g h
    | cases h
/-- what is known at the places of B -/
def qe_BE (kp : pm_K) (md : pm_M) (d : Nat) (q : Nat × List Nat × qe_P) : Prop := ∀ vs st m, qe_J kp md d (q.2.2 vs st m) q.1 (qe_zip q.2.1 vs) st m
def qe_BG (kp : pm_K) (md : pm_M) (d : Nat) (B : qe_B) : Prop := ∀ q ∈ B, qe_BE kp md d q
theorem qe_stop_mem : ∀ {B : qe_B} {pc : Nat} {ks : List Nat × qe_P}, qe_stop B pc = some ks → (pc, ks) ∈ B
  | [], pc, ks, h => by cases h
  | q :: r, pc, ks, h => by
    unfold qe_stop at h
    cases hb : Nat.beq q.1 pc with
    | true =>
      rw [hb] at h
      have e := Nat.eq_of_beq_eq_true hb
      cases h
      subst e
      exact List.mem_cons_self
    | false =>
      rw [hb] at h
      exact List.mem_cons_of_mem _ (qe_stop_mem h)
theorem qe_go_ok {B : qe_B} {f : qe_K} (hB : qe_BG kp md d B) (hf : qe_KG kp md d f) : qe_KG kp md d (qe_go B f) := by
  intro pc lv st m x h
  unfold qe_go at h
  split at h
  · rename_i ks p hs
    obtain ⟨vs, h1, h2⟩ := qe_pick_some h
    obtain ⟨js, h3⟩ := qe_pck (qe_zip ks vs) lv some h2
    exact pq_sub (nx := 0) (a := 0) (b := 0) js h3 (hB _ (qe_stop_mem hs) vs st m x h1)
  · exact hf pc lv st m x h
theorem qe_ev_ok (hsc : ∀ q, sc = some q → q = kp) (hT : qe_G kp d T) {B : qe_B} (hB : qe_BG kp md d B) : ∀ n, qe_KG kp md d (qe_ev sc md T B n)
  | 0 => fun _ _ _ _ _ h => by cases h
  | n + 1 => fun pc lv st m x h => by
    unfold qe_ev at h
    split at h
    · rename_i i nx a b g
      exact qt_step hsc hT (qe_go_ok hB (qe_ev_ok hsc hT hB n)) g h
    · cases h
/-- without the script -/
theorem qe_run {B : qe_B} {pc : Nat} {lv : pm_L} {st : List Value} {m : qm_M} {E : Option qm_R} {n : Nat} (hT : qe_G kp d T) (hB : qe_BG kp md d B) (e : E = qe_ev none md T B n pc lv st m) : qe_J kp md d E pc lv st m := fun x h =>
  qe_ev_ok (sc := none) (fun _ q => nomatch q) hT hB n pc lv st m x (by rw [← e]; exact h)
theorem qe_none {pc : Nat} {lv : pm_L} {st : List Value} {m : qm_M} {E : Option qm_R} (e : E = none) : qe_J kp md d E pc lv st m := fun x h => by
  rw [e] at h
  cases h
noncomputable def qe_chk (k knd ci : Nat) : Bool := match pt_M[k]? with
  | some md => !(pm_al md) && Nat.beq (pm_kind md) (bif Nat.beq knd 1 then 1 else 0) && (bif Nat.beq knd 0 then decide (pm_mci k = some ci) else true) && (bif Nat.beq knd 3 then md.1.cls == "java/lang/String" else true)
  | none => false
theorem qe_entry {k knd ci ret : Nat} {f : qe_F} (h : qe_chk k knd ci = true) (hf : ∀ as m x, f as m = some x → pm_X kp d k as (qm_hp m) x.1 (qm_hp x.2)) : qe_GE kp d (k, knd, ci, ret, f) := by
  unfold qe_chk at h
  cases hk : pt_M[k]? with
  | none => rw [hk] at h; cases h
  | some md =>
    rw [hk] at h
    simp only [Bool.and_eq_true] at h
    obtain ⟨⟨⟨h1, h2⟩, h3⟩, h4⟩ := h
    have e := Nat.eq_of_beq_eq_true h2
    refine ⟨?_, fun q => ?_, fun q => ?_, fun q => ?_, hf⟩
    · unfold pm_mal; dsimp only; rw [hk]; simpa using h1
    · dsimp only at q; subst q; unfold pm_knd; dsimp only; rw [hk]; show some _ = _; rw [e]; rfl
    · dsimp only at q; subst q
      refine ⟨by unfold pm_knd; dsimp only; rw [hk]; show some _ = _; rw [e]; rfl, ?_⟩
      exact of_decide_eq_true h3
    · dsimp only at q; subst q
      refine ⟨by unfold pm_knd; dsimp only; rw [hk]; show some _ = _; rw [e]; rfl, ?_⟩
      unfold pm_mst; dsimp only; rw [hk]; exact h4
theorem qe_G0 : qe_G kp d [] := fun _ h => absurd h List.not_mem_nil
theorem qe_G1 {e : Nat × Nat × Nat × Nat × qe_F} (h : qe_GE kp d e) (hr : qe_G kp d T) : qe_G kp d (e :: T) := List.forall_mem_cons.mpr ⟨h, hr⟩
theorem qe_B0 : qe_BG kp md d [] := fun _ h => absurd h List.not_mem_nil
theorem qe_B1 {q : Nat × List Nat × qe_P} {B : qe_B} (h : qe_BE kp md d q) (hr : qe_BG kp md d B) : qe_BG kp md d (q :: B) := List.forall_mem_cons.mpr ⟨h, hr⟩
end QS
theorem qe_sub {kp : pm_K} {md : pm_M} {d pc : Nat} {l1 lv : pm_L} {st : List Value} {m : qm_M} {E : Option qm_R} (h : ∀ q ∈ l1, q ∈ lv) (g : qe_J kp md d E pc l1 st m) : qe_J kp md d E pc lv st m := fun x e => by
  obtain ⟨js, h3⟩ := qe_pck l1 lv some h
  exact pq_sub (nx := 0) (a := 0) (b := 0) js h3 (g x e)
theorem qe_at {kp : pm_K} {d d1 : Nat} {e : Nat × Nat × Nat × Nat × qe_F} (h : d1 = d) (g : qe_GE kp d1 e) : qe_GE kp d e := h ▸ g
end
section
def qw_l (f : Int64 → qm_M → Option qm_R) : qe_F := fun as m => match as with
  | [.long a0] => f a0 m
  | _ => none
theorem qw_l_ok {kp : pm_K} {md : pm_M} {d k : Nat} {f : Int64 → qm_M → Option qm_R} (g : pt_M[k]? = some md) (h : ∀ (a0 : Int64) (m : qm_M), qe_J kp md d (f a0 m) 0 [(0, .long a0)] [] m) : ∀ as m x, qw_l f as m = some x → pm_X kp (d + 1) k as (qm_hp m) x.1 (qm_hp x.2) := by
  intro as m x e
  unfold qw_l at e
  split at e
  · exact pm_Xi md _ g rfl (h _ _ _ e)
  · cases e
def qw_li (f : Int64 → Int32 → qm_M → Option qm_R) : qe_F := fun as m => match as with
  | [.long a0, .int a1] => f a0 a1 m
  | _ => none
theorem qw_li_ok {kp : pm_K} {md : pm_M} {d k : Nat} {f : Int64 → Int32 → qm_M → Option qm_R} (g : pt_M[k]? = some md) (h : ∀ (a0 : Int64) (a1 : Int32) (m : qm_M), qe_J kp md d (f a0 a1 m) 0 [(0, .long a0), (2, .int a1)] [] m) : ∀ as m x, qw_li f as m = some x → pm_X kp (d + 1) k as (qm_hp m) x.1 (qm_hp x.2) := by
  intro as m x e
  unfold qw_li at e
  split at e
  · exact pm_Xi md _ g rfl (h _ _ _ _ e)
  · cases e
def qw_ll (f : Int64 → Int64 → qm_M → Option qm_R) : qe_F := fun as m => match as with
  | [.long a0, .long a1] => f a0 a1 m
  | _ => none
theorem qw_ll_ok {kp : pm_K} {md : pm_M} {d k : Nat} {f : Int64 → Int64 → qm_M → Option qm_R} (g : pt_M[k]? = some md) (h : ∀ (a0 : Int64) (a1 : Int64) (m : qm_M), qe_J kp md d (f a0 a1 m) 0 [(0, .long a0), (2, .long a1)] [] m) : ∀ as m x, qw_ll f as m = some x → pm_X kp (d + 1) k as (qm_hp m) x.1 (qm_hp x.2) := by
  intro as m x e
  unfold qw_ll at e
  split at e
  · exact pm_Xi md _ g rfl (h _ _ _ _ e)
  · cases e
def qw_lli (f : Int64 → Int64 → Int32 → qm_M → Option qm_R) : qe_F := fun as m => match as with
  | [.long a0, .long a1, .int a2] => f a0 a1 a2 m
  | _ => none
theorem qw_lli_ok {kp : pm_K} {md : pm_M} {d k : Nat} {f : Int64 → Int64 → Int32 → qm_M → Option qm_R} (g : pt_M[k]? = some md) (h : ∀ (a0 : Int64) (a1 : Int64) (a2 : Int32) (m : qm_M), qe_J kp md d (f a0 a1 a2 m) 0 [(0, .long a0), (2, .long a1), (4, .int a2)] [] m) : ∀ as m x, qw_lli f as m = some x → pm_X kp (d + 1) k as (qm_hp m) x.1 (qm_hp x.2) := by
  intro as m x e
  unfold qw_lli at e
  split at e
  · exact pm_Xi md _ g rfl (h _ _ _ _ _ e)
  · cases e
def qp_iill_ (f : Int32 → Int32 → Int64 → Int64 → qm_M → Option qm_R) : qe_P := fun vs st m => match vs, st with
  | [.int a0, .int a1, .long a2, .long a3], [] => f a0 a1 a2 a3 m
  | _, _ => none
theorem qp_iill__ok {kp : pm_K} {md : pm_M} {d pc : Nat} {n0 n1 n2 n3 : Nat} {f : Int32 → Int32 → Int64 → Int64 → qm_M → Option qm_R} (h : ∀ (a0 : Int32) (a1 : Int32) (a2 : Int64) (a3 : Int64) (m : qm_M), qe_J kp md d (f a0 a1 a2 a3 m) pc [(n0, .int a0), (n1, .int a1), (n2, .long a2), (n3, .long a3)] [] m) : qe_BE kp md d (pc, [n0, n1, n2, n3], qp_iill_ f) := by
  intro vs st m x e
  dsimp only at e ⊢
  unfold qp_iill_ at e
  split at e
  · exact h _ _ _ _ _ _ e
  · cases e
def qp_ili_ (f : Int32 → Int64 → Int32 → qm_M → Option qm_R) : qe_P := fun vs st m => match vs, st with
  | [.int a0, .long a1, .int a2], [] => f a0 a1 a2 m
  | _, _ => none
theorem qp_ili__ok {kp : pm_K} {md : pm_M} {d pc : Nat} {n0 n1 n2 : Nat} {f : Int32 → Int64 → Int32 → qm_M → Option qm_R} (h : ∀ (a0 : Int32) (a1 : Int64) (a2 : Int32) (m : qm_M), qe_J kp md d (f a0 a1 a2 m) pc [(n0, .int a0), (n1, .long a1), (n2, .int a2)] [] m) : qe_BE kp md d (pc, [n0, n1, n2], qp_ili_ f) := by
  intro vs st m x e
  dsimp only at e ⊢
  unfold qp_ili_ at e
  split at e
  · exact h _ _ _ _ _ e
  · cases e
def qp_li_ (f : Int64 → Int32 → qm_M → Option qm_R) : qe_P := fun vs st m => match vs, st with
  | [.long a0, .int a1], [] => f a0 a1 m
  | _, _ => none
theorem qp_li__ok {kp : pm_K} {md : pm_M} {d pc : Nat} {n0 n1 : Nat} {f : Int64 → Int32 → qm_M → Option qm_R} (h : ∀ (a0 : Int64) (a1 : Int32) (m : qm_M), qe_J kp md d (f a0 a1 m) pc [(n0, .long a0), (n1, .int a1)] [] m) : qe_BE kp md d (pc, [n0, n1], qp_li_ f) := by
  intro vs st m x e
  dsimp only at e ⊢
  unfold qp_li_ at e
  split at e
  · exact h _ _ _ _ e
  · cases e
def qp_lli_ (f : Int64 → Int64 → Int32 → qm_M → Option qm_R) : qe_P := fun vs st m => match vs, st with
  | [.long a0, .long a1, .int a2], [] => f a0 a1 a2 m
  | _, _ => none
theorem qp_lli__ok {kp : pm_K} {md : pm_M} {d pc : Nat} {n0 n1 n2 : Nat} {f : Int64 → Int64 → Int32 → qm_M → Option qm_R} (h : ∀ (a0 : Int64) (a1 : Int64) (a2 : Int32) (m : qm_M), qe_J kp md d (f a0 a1 a2 m) pc [(n0, .long a0), (n1, .long a1), (n2, .int a2)] [] m) : qe_BE kp md d (pc, [n0, n1, n2], qp_lli_ f) := by
  intro vs st m x e
  dsimp only at e ⊢
  unfold qp_lli_ at e
  split at e
  · exact h _ _ _ _ _ e
  · cases e
/-! TurnField$Numbers.below(JJ)Z -/
noncomputable def T_Nu_below : qe_T := []
def X_Nu_below_e (v0 : Int64) (v2 : Int64) (m : qm_M) : Option qm_R :=
  if (lg_cmp (v0 ^^^ (-9223372036854775808 : Int64)) (v2 ^^^ (-9223372036854775808 : Int64))) < 0 then
    some (some (.int (1 : Int32)), m)
  else
    some (some (.int (0 : Int32)), m)
set_option maxRecDepth 100000 in
theorem xg_Nu_below_e {kp : pm_K} {d : Nat} (hT : qe_G kp d (T_Nu_below)) (v0 : Int64) (v2 : Int64) (m : qm_M) : qe_J kp md_Nu_below d (X_Nu_below_e v0 v2 m) 0 [(0, .long v0), (2, .long v2)] [] m := qe_run (B := []) (n := 1000) hT qe_B0 rfl
def F_Nu_below (v0 : Int64) (v2 : Int64) (m : qm_M) : Option qm_R := X_Nu_below_e v0 v2 m
theorem fj_Nu_below {kp : pm_K} {d : Nat} (hT : qe_G kp d (T_Nu_below)) (v0 : Int64) (v2 : Int64) (m : qm_M) : qe_J kp md_Nu_below d (F_Nu_below v0 v2 m) 0 [(0, .long v0), (2, .long v2)] [] m := xg_Nu_below_e hT v0 v2 m
theorem fg_Nu_below {kp : pm_K} (d : Nat) : qe_GE kp (d + 1) (20, 1, 0, 1, qw_ll F_Nu_below) := qe_entry (by decide +kernel) (qw_ll_ok (d := d + 0) rfl (fj_Nu_below qe_G0))
/-! TurnField$Numbers.levelOf(J)I -/
noncomputable def T_Nu_levelOf : qe_T := []
def X_Nu_levelOf_2 (l2 : Int64 → Int32 → qm_M → Option qm_R) (v0 : Int64) (v2 : Int32) (m : qm_M) : Option qm_R :=
  if v2 < (6 : Int32) then
    if (lg_cmp (qo_lushr v0 (qo_ishl (1 : Int32) v2)) (0 : Int64)) = 0 then
      some (some (.int v2), m)
    else
      l2 v0 (v2 + (1 : Int32)) m
  else
    some (some (.int (6 : Int32)), m)
set_option maxRecDepth 100000 in
theorem xg_Nu_levelOf_2 {kp : pm_K} {d : Nat} {l2 : Int64 → Int32 → qm_M → Option qm_R} (hT : qe_G kp d (T_Nu_levelOf)) (h2 : ∀ (v0 : Int64) (v2 : Int32) (m : qm_M), qe_J kp md_Nu_levelOf d (l2 v0 v2 m) 2 [(0, .long v0), (2, .int v2)] [] m) (v0 : Int64) (v2 : Int32) (m : qm_M) : qe_J kp md_Nu_levelOf d (X_Nu_levelOf_2 l2 v0 v2 m) 2 [(0, .long v0), (2, .int v2)] [] m := qe_run (B := [(2, [0, 2], qp_li_ l2)]) (n := 1000) hT (qe_B1 (qp_li__ok h2) qe_B0) rfl
def L_Nu_levelOf_2 : Nat → Int64 → Int32 → qm_M → Option qm_R
  | 0, _, _, _ => none
  | n + 1, v0, v2, m => X_Nu_levelOf_2 (L_Nu_levelOf_2 n) v0 v2 m
theorem lg_Nu_levelOf_2 {kp : pm_K} {d : Nat} (hT : qe_G kp d (T_Nu_levelOf)) : ∀ (n : Nat) (v0 : Int64) (v2 : Int32) (m : qm_M), qe_J kp md_Nu_levelOf d (L_Nu_levelOf_2 n v0 v2 m) 2 [(0, .long v0), (2, .int v2)] [] m
  | 0, v0, v2, m => qe_none rfl
  | n + 1, v0, v2, m => xg_Nu_levelOf_2 hT (lg_Nu_levelOf_2 hT n) v0 v2 m
def X_Nu_levelOf_e (l2 : Int64 → Int32 → qm_M → Option qm_R) (v0 : Int64) (m : qm_M) : Option qm_R :=
  l2 v0 (0 : Int32) m
set_option maxRecDepth 100000 in
theorem xg_Nu_levelOf_e {kp : pm_K} {d : Nat} {l2 : Int64 → Int32 → qm_M → Option qm_R} (hT : qe_G kp d (T_Nu_levelOf)) (h2 : ∀ (v0 : Int64) (v2 : Int32) (m : qm_M), qe_J kp md_Nu_levelOf d (l2 v0 v2 m) 2 [(0, .long v0), (2, .int v2)] [] m) (v0 : Int64) (m : qm_M) : qe_J kp md_Nu_levelOf d (X_Nu_levelOf_e l2 v0 m) 0 [(0, .long v0)] [] m := qe_run (B := [(2, [0, 2], qp_li_ l2)]) (n := 1000) hT (qe_B1 (qp_li__ok h2) qe_B0) rfl
def F_Nu_levelOf (v0 : Int64) (m : qm_M) : Option qm_R := X_Nu_levelOf_e (L_Nu_levelOf_2 1000000) v0 m
theorem fj_Nu_levelOf {kp : pm_K} {d : Nat} (hT : qe_G kp d (T_Nu_levelOf)) (v0 : Int64) (m : qm_M) : qe_J kp md_Nu_levelOf d (F_Nu_levelOf v0 m) 0 [(0, .long v0)] [] m := xg_Nu_levelOf_e hT (lg_Nu_levelOf_2 hT 1000000) v0 m
theorem fg_Nu_levelOf {kp : pm_K} (d : Nat) : qe_GE kp (d + 1) (21, 1, 0, 1, qw_l F_Nu_levelOf) := qe_entry (by decide +kernel) (qw_l_ok (d := d + 0) rfl (fj_Nu_levelOf qe_G0))
/-! TurnField$Numbers.toppedBy(JI)J -/
noncomputable def T_Nu_toppedBy (f_Nu_lifted : Int64 → Int32 → qm_M → Option qm_R) : qe_T := [(24, 1, 0, 2, qw_li f_Nu_lifted)]
def X_Nu_toppedBy_5 (f_Nu_lifted : Int64 → Int32 → qm_M → Option qm_R) (l5 : Int32 → Int64 → Int32 → qm_M → Option qm_R) (v2 : Int32) (v3 : Int64) (v5 : Int32) (m : qm_M) : Option qm_R :=
  if v5 < v2 then
    qe_rL (f_Nu_lifted v3 v5 m) fun x1 m1 =>
    l5 v2 x1 (v5 + (1 : Int32)) m1
  else
    some (some (.long v3), m)
set_option maxRecDepth 100000 in
theorem xg_Nu_toppedBy_5 {kp : pm_K} {d : Nat} {f_Nu_lifted : Int64 → Int32 → qm_M → Option qm_R} {l5 : Int32 → Int64 → Int32 → qm_M → Option qm_R} (hT : qe_G kp d (T_Nu_toppedBy f_Nu_lifted)) (h5 : ∀ (v2 : Int32) (v3 : Int64) (v5 : Int32) (m : qm_M), qe_J kp md_Nu_toppedBy d (l5 v2 v3 v5 m) 5 [(2, .int v2), (3, .long v3), (5, .int v5)] [] m) (v2 : Int32) (v3 : Int64) (v5 : Int32) (m : qm_M) : qe_J kp md_Nu_toppedBy d (X_Nu_toppedBy_5 f_Nu_lifted l5 v2 v3 v5 m) 5 [(2, .int v2), (3, .long v3), (5, .int v5)] [] m := qe_run (B := [(5, [2, 3, 5], qp_ili_ l5)]) (n := 1000) hT (qe_B1 (qp_ili__ok h5) qe_B0) rfl
def L_Nu_toppedBy_5 (R : Int64 → Int32 → qm_M → Option qm_R) : Nat → Int32 → Int64 → Int32 → qm_M → Option qm_R
  | 0, _, _, _, _ => none
  | n + 1, v2, v3, v5, m => X_Nu_toppedBy_5 R (L_Nu_toppedBy_5 R n) v2 v3 v5 m
theorem lg_Nu_toppedBy_5 {kp : pm_K} {d : Nat} {R : Int64 → Int32 → qm_M → Option qm_R} (hT : qe_G kp d (T_Nu_toppedBy R)) : ∀ (n : Nat) (v2 : Int32) (v3 : Int64) (v5 : Int32) (m : qm_M), qe_J kp md_Nu_toppedBy d (L_Nu_toppedBy_5 R n v2 v3 v5 m) 5 [(2, .int v2), (3, .long v3), (5, .int v5)] [] m
  | 0, v2, v3, v5, m => qe_none rfl
  | n + 1, v2, v3, v5, m => xg_Nu_toppedBy_5 hT (lg_Nu_toppedBy_5 hT n) v2 v3 v5 m
def X_Nu_toppedBy_e (f_Nu_lifted : Int64 → Int32 → qm_M → Option qm_R) (l5 : Int32 → Int64 → Int32 → qm_M → Option qm_R) (v0 : Int64) (v2 : Int32) (m : qm_M) : Option qm_R :=
  l5 v2 v0 (0 : Int32) m
set_option maxRecDepth 100000 in
theorem xg_Nu_toppedBy_e {kp : pm_K} {d : Nat} {f_Nu_lifted : Int64 → Int32 → qm_M → Option qm_R} {l5 : Int32 → Int64 → Int32 → qm_M → Option qm_R} (hT : qe_G kp d (T_Nu_toppedBy f_Nu_lifted)) (h5 : ∀ (v2 : Int32) (v3 : Int64) (v5 : Int32) (m : qm_M), qe_J kp md_Nu_toppedBy d (l5 v2 v3 v5 m) 5 [(2, .int v2), (3, .long v3), (5, .int v5)] [] m) (v0 : Int64) (v2 : Int32) (m : qm_M) : qe_J kp md_Nu_toppedBy d (X_Nu_toppedBy_e f_Nu_lifted l5 v0 v2 m) 0 [(0, .long v0), (2, .int v2)] [] m := qe_run (B := [(5, [2, 3, 5], qp_ili_ l5)]) (n := 1000) hT (qe_B1 (qp_ili__ok h5) qe_B0) rfl
def B_Nu_toppedBy (R : Int64 → Int32 → qm_M → Option qm_R) (v0 : Int64) (v2 : Int32) (m : qm_M) : Option qm_R := X_Nu_toppedBy_e R (L_Nu_toppedBy_5 R 1000000) v0 v2 m
theorem fj_Nu_toppedBy {kp : pm_K} {d : Nat} {R : Int64 → Int32 → qm_M → Option qm_R} (hT : qe_G kp d (T_Nu_toppedBy R)) (v0 : Int64) (v2 : Int32) (m : qm_M) : qe_J kp md_Nu_toppedBy d (B_Nu_toppedBy R v0 v2 m) 0 [(0, .long v0), (2, .int v2)] [] m := xg_Nu_toppedBy_e hT (lg_Nu_toppedBy_5 hT 1000000) v0 v2 m
theorem eg_Nu_toppedBy {kp : pm_K} {d : Nat} {R : Int64 → Int32 → qm_M → Option qm_R} (hR : qe_GE kp d (24, 1, 0, 2, qw_li R)) : qe_GE kp (d + 1) (25, 1, 0, 2, qw_li (B_Nu_toppedBy R)) := qe_entry (by decide +kernel) (qw_li_ok rfl (fj_Nu_toppedBy (qe_G1 hR qe_G0)))
/-! TurnField$Numbers.lifted(JI)J -/
noncomputable def T_Nu_lifted (f_Nu_toppedBy : Int64 → Int32 → qm_M → Option qm_R) : qe_T := [(25, 1, 0, 2, qw_li f_Nu_toppedBy)]
def X_Nu_lifted_e (f_Nu_toppedBy : Int64 → Int32 → qm_M → Option qm_R) (v0 : Int64) (v2 : Int32) (m : qm_M) : Option qm_R :=
  if (lg_cmp v0 (0 : Int64)) = 0 then
    some (some (.long v0), m)
  else
    if v2 < 0 then
      some (some (.long v0), m)
    else
      if (5 : Int32) < v2 then
        some (some (.long v0), m)
      else
        qe_b (qm_in v2 6) (
        let x1 : Int64 := ((qo_lushr v0 (qo_ishl (1 : Int32) v2)) &&& (qm_gL m 1000001 (Int32.toNatClampNeg v2)))
        qe_b (qm_in v2 6) (
        let x2 : Int64 := (v0 &&& (qm_gL m 1000001 (Int32.toNatClampNeg v2)))
        qe_rL (f_Nu_toppedBy x1 v2 m) fun x3 m1 =>
        some (some (.long ((qo_lshl (x1 ^^^ x2) (qo_ishl (1 : Int32) v2)) ^^^ x3)), m1)))
set_option maxRecDepth 100000 in
theorem xg_Nu_lifted_e {kp : pm_K} {d : Nat} {f_Nu_toppedBy : Int64 → Int32 → qm_M → Option qm_R} (hT : qe_G kp d (T_Nu_lifted f_Nu_toppedBy)) (v0 : Int64) (v2 : Int32) (m : qm_M) : qe_J kp md_Nu_lifted d (X_Nu_lifted_e f_Nu_toppedBy v0 v2 m) 0 [(0, .long v0), (2, .int v2)] [] m := qe_run (B := []) (n := 1000) hT qe_B0 rfl
def B_Nu_lifted (R : Int64 → Int32 → qm_M → Option qm_R) (v0 : Int64) (v2 : Int32) (m : qm_M) : Option qm_R := X_Nu_lifted_e (B_Nu_toppedBy R) v0 v2 m
theorem fj_Nu_lifted {kp : pm_K} {d : Nat} {R : Int64 → Int32 → qm_M → Option qm_R} (hT : qe_G kp d (T_Nu_lifted (B_Nu_toppedBy R))) (v0 : Int64) (v2 : Int32) (m : qm_M) : qe_J kp md_Nu_lifted d (B_Nu_lifted R v0 v2 m) 0 [(0, .long v0), (2, .int v2)] [] m := xg_Nu_lifted_e hT v0 v2 m
def F_Nu_lifted : Nat → Int64 → Int32 → qm_M → Option qm_R
  | 0, _, _, _ => none
  | n + 1, v0, v2, m => B_Nu_lifted (F_Nu_lifted n) v0 v2 m
theorem er_Nu_lifted {kp : pm_K} (d : Nat) : ∀ n : Nat, qe_GE kp (d + 2 * n + 1) (24, 1, 0, 2, qw_li (F_Nu_lifted n))
  | 0 => qe_entry (by decide +kernel) (qw_li_ok (d := d + 0) rfl (fun v0 v2 m => qe_none rfl))
  | n + 1 => by
    have ih := er_Nu_lifted (kp := kp) d n
    exact qe_at (d1 := d + 2 * n + 2 + 1) (by omega) (qe_entry (by decide +kernel) (qw_li_ok (d := d + 2 * n + 2) rfl (fj_Nu_lifted (qe_G1 (eg_Nu_toppedBy ih) qe_G0))))
theorem fg_Nu_lifted {kp : pm_K} (d : Nat) : qe_GE kp (d + 21) (24, 1, 0, 2, qw_li (F_Nu_lifted 10)) := er_Nu_lifted d 10
def F_Nu_toppedBy (n : Nat) : Int64 → Int32 → qm_M → Option qm_R := B_Nu_toppedBy (F_Nu_lifted n)
theorem fg_Nu_toppedBy {kp : pm_K} (d : Nat) : qe_GE kp (d + 22) (25, 1, 0, 2, qw_li (F_Nu_toppedBy 10)) := eg_Nu_toppedBy (fg_Nu_lifted d)
/-! TurnField$Numbers.sharedOut(JJI)J -/
noncomputable def T_Nu_sharedOut (f_Nu_sharedOut : Int64 → Int64 → Int32 → qm_M → Option qm_R) (f_Nu_lifted : Int64 → Int32 → qm_M → Option qm_R) : qe_T := [(23, 1, 0, 2, qw_lli f_Nu_sharedOut), (24, 1, 0, 2, qw_li f_Nu_lifted)]
def X_Nu_sharedOut_e (f_Nu_sharedOut : Int64 → Int64 → Int32 → qm_M → Option qm_R) (f_Nu_lifted : Int64 → Int32 → qm_M → Option qm_R) (v0 : Int64) (v2 : Int64) (v4 : Int32) (m : qm_M) : Option qm_R :=
  if (lg_cmp v2 (0 : Int64)) = 0 then
    some (some (.long (0 : Int64)), m)
  else
    if (lg_cmp v2 (1 : Int64)) = 0 then
      some (some (.long v0), m)
    else
      if 0 < v4 then
        let x1 : Int64 := (qo_lushr v2 (qo_ishl (1 : Int32) (v4 - (1 : Int32))))
        if (lg_cmp x1 (0 : Int64)) = 0 then
          qe_rL (f_Nu_sharedOut v0 v2 (v4 - (1 : Int32)) m) fun x2 m1 =>
          some (some (.long x2), m1)
        else
          qe_b (qm_in (v4 - (1 : Int32)) 6) (
          let x3 : Int64 := (v2 &&& (qm_gL m 1000001 (Int32.toNatClampNeg (v4 - (1 : Int32)))))
          qe_rL (f_Nu_sharedOut v0 x3 (v4 - (1 : Int32)) m) fun x4 m2 =>
          qe_rL (f_Nu_sharedOut v0 x1 (v4 - (1 : Int32)) m2) fun x5 m3 =>
          qe_rL (f_Nu_lifted x5 (v4 - (1 : Int32)) m3) fun x6 m4 =>
          some (some (.long (x4 ^^^ x6)), m4))
      else
        some (some (.long v0), m)
set_option maxRecDepth 100000 in
theorem xg_Nu_sharedOut_e {kp : pm_K} {d : Nat} {f_Nu_sharedOut : Int64 → Int64 → Int32 → qm_M → Option qm_R} {f_Nu_lifted : Int64 → Int32 → qm_M → Option qm_R} (hT : qe_G kp d (T_Nu_sharedOut f_Nu_sharedOut f_Nu_lifted)) (v0 : Int64) (v2 : Int64) (v4 : Int32) (m : qm_M) : qe_J kp md_Nu_sharedOut d (X_Nu_sharedOut_e f_Nu_sharedOut f_Nu_lifted v0 v2 v4 m) 0 [(0, .long v0), (2, .long v2), (4, .int v4)] [] m := qe_run (B := []) (n := 1000) hT qe_B0 rfl
def B_Nu_sharedOut (R : Int64 → Int64 → Int32 → qm_M → Option qm_R) (v0 : Int64) (v2 : Int64) (v4 : Int32) (m : qm_M) : Option qm_R := X_Nu_sharedOut_e R (F_Nu_lifted 10) v0 v2 v4 m
theorem fj_Nu_sharedOut {kp : pm_K} {d : Nat} {R : Int64 → Int64 → Int32 → qm_M → Option qm_R} (hT : qe_G kp d (T_Nu_sharedOut R (F_Nu_lifted 10))) (v0 : Int64) (v2 : Int64) (v4 : Int32) (m : qm_M) : qe_J kp md_Nu_sharedOut d (B_Nu_sharedOut R v0 v2 v4 m) 0 [(0, .long v0), (2, .long v2), (4, .int v4)] [] m := xg_Nu_sharedOut_e hT v0 v2 v4 m
def F_Nu_sharedOut : Nat → Int64 → Int64 → Int32 → qm_M → Option qm_R
  | 0, _, _, _, _ => none
  | n + 1, v0, v2, v4, m => B_Nu_sharedOut (F_Nu_sharedOut n) v0 v2 v4 m
theorem er_Nu_sharedOut {kp : pm_K} (d : Nat) : ∀ n : Nat, qe_GE kp (d + 1 * n + 22) (23, 1, 0, 2, qw_lli (F_Nu_sharedOut n))
  | 0 => qe_entry (by decide +kernel) (qw_lli_ok (d := d + 21) rfl (fun v0 v2 v4 m => qe_none rfl))
  | n + 1 => by
    have ih := er_Nu_sharedOut (kp := kp) d n
    exact qe_at (d1 := d + 1 * n + 22 + 1) (by omega) (qe_entry (by decide +kernel) (qw_lli_ok (d := d + 1 * n + 22) rfl (fj_Nu_sharedOut (qe_G1 ih (qe_G1 (qe_at (by omega) (fg_Nu_lifted (d + 1 * n + 1))) qe_G0)))))
theorem fg_Nu_sharedOut {kp : pm_K} (d : Nat) : qe_GE kp (d + 32) (23, 1, 0, 2, qw_lli (F_Nu_sharedOut 10)) := er_Nu_sharedOut d 10
/-! TurnField$Numbers.product(JJ)J -/
noncomputable def T_Nu_product (f_Nu_below : Int64 → Int64 → qm_M → Option qm_R) (f_Nu_sharedOut : Int64 → Int64 → Int32 → qm_M → Option qm_R) : qe_T := [(20, 1, 0, 1, qw_ll f_Nu_below), (23, 1, 0, 2, qw_lli f_Nu_sharedOut)]
def X_Nu_product_e (f_Nu_below : Int64 → Int64 → qm_M → Option qm_R) (f_Nu_sharedOut : Int64 → Int64 → Int32 → qm_M → Option qm_R) (v0 : Int64) (v2 : Int64) (m : qm_M) : Option qm_R :=
  qe_rI (f_Nu_below v0 v2 m) fun x1 m1 =>
  if x1 = 0 then
    qe_rL (f_Nu_sharedOut v0 v2 (6 : Int32) m1) fun x2 m2 =>
    some (some (.long x2), m2)
  else
    qe_rL (f_Nu_sharedOut v2 v0 (6 : Int32) m1) fun x3 m3 =>
    some (some (.long x3), m3)
set_option maxRecDepth 100000 in
theorem xg_Nu_product_e {kp : pm_K} {d : Nat} {f_Nu_below : Int64 → Int64 → qm_M → Option qm_R} {f_Nu_sharedOut : Int64 → Int64 → Int32 → qm_M → Option qm_R} (hT : qe_G kp d (T_Nu_product f_Nu_below f_Nu_sharedOut)) (v0 : Int64) (v2 : Int64) (m : qm_M) : qe_J kp md_Nu_product d (X_Nu_product_e f_Nu_below f_Nu_sharedOut v0 v2 m) 0 [(0, .long v0), (2, .long v2)] [] m := qe_run (B := []) (n := 1000) hT qe_B0 rfl
def F_Nu_product (v0 : Int64) (v2 : Int64) (m : qm_M) : Option qm_R := X_Nu_product_e F_Nu_below (F_Nu_sharedOut 10) v0 v2 m
theorem fj_Nu_product {kp : pm_K} {d : Nat} (hT : qe_G kp d (T_Nu_product F_Nu_below (F_Nu_sharedOut 10))) (v0 : Int64) (v2 : Int64) (m : qm_M) : qe_J kp md_Nu_product d (F_Nu_product v0 v2 m) 0 [(0, .long v0), (2, .long v2)] [] m := xg_Nu_product_e hT v0 v2 m
theorem fg_Nu_product {kp : pm_K} (d : Nat) : qe_GE kp (d + 33) (22, 1, 0, 2, qw_ll F_Nu_product) := qe_entry (by decide +kernel) (qw_ll_ok (d := d + 32) rfl (fj_Nu_product (qe_G1 (fg_Nu_below (d + 31)) (qe_G1 (fg_Nu_sharedOut (d + 0)) qe_G0))))
/-! TurnField$Numbers.square(J)J -/
noncomputable def T_Nu_square (f_Nu_toppedBy : Int64 → Int32 → qm_M → Option qm_R) : qe_T := [(25, 1, 0, 2, qw_li f_Nu_toppedBy)]
def X_Nu_square_5 (f_Nu_toppedBy : Int64 → Int32 → qm_M → Option qm_R) (l5 : Int64 → Int32 → qm_M → Option qm_R) (v2 : Int64) (v4 : Int32) (m : qm_M) : Option qm_R :=
  if v4 < (6 : Int32) then
    qe_b (qm_in v4 6) (
    qe_rL (f_Nu_toppedBy ((qo_lushr v2 (qo_ishl (1 : Int32) v4)) &&& (qm_gL m 1000001 (Int32.toNatClampNeg v4))) v4 m) fun x1 m1 =>
    l5 (v2 ^^^ x1) (v4 + (1 : Int32)) m1)
  else
    some (some (.long v2), m)
set_option maxRecDepth 100000 in
theorem xg_Nu_square_5 {kp : pm_K} {d : Nat} {f_Nu_toppedBy : Int64 → Int32 → qm_M → Option qm_R} {l5 : Int64 → Int32 → qm_M → Option qm_R} (hT : qe_G kp d (T_Nu_square f_Nu_toppedBy)) (h5 : ∀ (v2 : Int64) (v4 : Int32) (m : qm_M), qe_J kp md_Nu_square d (l5 v2 v4 m) 5 [(2, .long v2), (4, .int v4)] [] m) (v2 : Int64) (v4 : Int32) (m : qm_M) : qe_J kp md_Nu_square d (X_Nu_square_5 f_Nu_toppedBy l5 v2 v4 m) 5 [(2, .long v2), (4, .int v4)] [] m := qe_run (B := [(5, [2, 4], qp_li_ l5)]) (n := 1000) hT (qe_B1 (qp_li__ok h5) qe_B0) rfl
def L_Nu_square_5 : Nat → Int64 → Int32 → qm_M → Option qm_R
  | 0, _, _, _ => none
  | n + 1, v2, v4, m => X_Nu_square_5 (F_Nu_toppedBy 10) (L_Nu_square_5 n) v2 v4 m
theorem lg_Nu_square_5 {kp : pm_K} {d : Nat} (hT : qe_G kp d (T_Nu_square (F_Nu_toppedBy 10))) : ∀ (n : Nat) (v2 : Int64) (v4 : Int32) (m : qm_M), qe_J kp md_Nu_square d (L_Nu_square_5 n v2 v4 m) 5 [(2, .long v2), (4, .int v4)] [] m
  | 0, v2, v4, m => qe_none rfl
  | n + 1, v2, v4, m => xg_Nu_square_5 hT (lg_Nu_square_5 hT n) v2 v4 m
def X_Nu_square_e (f_Nu_toppedBy : Int64 → Int32 → qm_M → Option qm_R) (l5 : Int64 → Int32 → qm_M → Option qm_R) (v0 : Int64) (m : qm_M) : Option qm_R :=
  l5 v0 (0 : Int32) m
set_option maxRecDepth 100000 in
theorem xg_Nu_square_e {kp : pm_K} {d : Nat} {f_Nu_toppedBy : Int64 → Int32 → qm_M → Option qm_R} {l5 : Int64 → Int32 → qm_M → Option qm_R} (hT : qe_G kp d (T_Nu_square f_Nu_toppedBy)) (h5 : ∀ (v2 : Int64) (v4 : Int32) (m : qm_M), qe_J kp md_Nu_square d (l5 v2 v4 m) 5 [(2, .long v2), (4, .int v4)] [] m) (v0 : Int64) (m : qm_M) : qe_J kp md_Nu_square d (X_Nu_square_e f_Nu_toppedBy l5 v0 m) 0 [(0, .long v0)] [] m := qe_run (B := [(5, [2, 4], qp_li_ l5)]) (n := 1000) hT (qe_B1 (qp_li__ok h5) qe_B0) rfl
def F_Nu_square (v0 : Int64) (m : qm_M) : Option qm_R := X_Nu_square_e (F_Nu_toppedBy 10) (L_Nu_square_5 1000000) v0 m
theorem fj_Nu_square {kp : pm_K} {d : Nat} (hT : qe_G kp d (T_Nu_square (F_Nu_toppedBy 10))) (v0 : Int64) (m : qm_M) : qe_J kp md_Nu_square d (F_Nu_square v0 m) 0 [(0, .long v0)] [] m := xg_Nu_square_e hT (lg_Nu_square_5 hT 1000000) v0 m
theorem fg_Nu_square {kp : pm_K} (d : Nat) : qe_GE kp (d + 23) (26, 1, 0, 2, qw_l F_Nu_square) := qe_entry (by decide +kernel) (qw_l_ok (d := d + 22) rfl (fj_Nu_square (qe_G1 (fg_Nu_toppedBy (d + 0)) qe_G0)))
/-! TurnField$Numbers.halvedIn(JI)J -/
noncomputable def T_Nu_halvedIn (f_Nu_halvedIn : Int64 → Int32 → qm_M → Option qm_R) (f_Nu_toppedBy : Int64 → Int32 → qm_M → Option qm_R) : qe_T := [(31, 1, 0, 2, qw_li f_Nu_halvedIn), (25, 1, 0, 2, qw_li f_Nu_toppedBy)]
def X_Nu_halvedIn_91 (f_Nu_halvedIn : Int64 → Int32 → qm_M → Option qm_R) (f_Nu_toppedBy : Int64 → Int32 → qm_M → Option qm_R) (v2 : Int32) (v3 : Int32) (v6 : Int64) (v8 : Int64) (m : qm_M) : Option qm_R :=
  qe_rL (f_Nu_halvedIn v8 (v2 - (1 : Int32)) m) fun x1 m1 =>
  some (some (.long ((qo_lshl v6 v3) ||| x1)), m1)
set_option maxRecDepth 100000 in
theorem xg_Nu_halvedIn_91 {kp : pm_K} {d : Nat} {f_Nu_halvedIn : Int64 → Int32 → qm_M → Option qm_R} {f_Nu_toppedBy : Int64 → Int32 → qm_M → Option qm_R} (hT : qe_G kp d (T_Nu_halvedIn f_Nu_halvedIn f_Nu_toppedBy)) (v2 : Int32) (v3 : Int32) (v6 : Int64) (v8 : Int64) (m : qm_M) : qe_J kp md_Nu_halvedIn d (X_Nu_halvedIn_91 f_Nu_halvedIn f_Nu_toppedBy v2 v3 v6 v8 m) 91 [(2, .int v2), (3, .int v3), (6, .long v6), (8, .long v8)] [] m := qe_run (B := []) (n := 1000) hT qe_B0 rfl
def L_Nu_halvedIn_91 (R : Int64 → Int32 → qm_M → Option qm_R) (v2 : Int32) (v3 : Int32) (v6 : Int64) (v8 : Int64) (m : qm_M) : Option qm_R := X_Nu_halvedIn_91 R (F_Nu_toppedBy 10) v2 v3 v6 v8 m
theorem lg_Nu_halvedIn_91 {kp : pm_K} {d : Nat} {R : Int64 → Int32 → qm_M → Option qm_R} (hT : qe_G kp d (T_Nu_halvedIn R (F_Nu_toppedBy 10))) (v2 : Int32) (v3 : Int32) (v6 : Int64) (v8 : Int64) (m : qm_M) : qe_J kp md_Nu_halvedIn d (L_Nu_halvedIn_91 R v2 v3 v6 v8 m) 91 [(2, .int v2), (3, .int v3), (6, .long v6), (8, .long v8)] [] m := xg_Nu_halvedIn_91 hT v2 v3 v6 v8 m
def X_Nu_halvedIn_e (f_Nu_halvedIn : Int64 → Int32 → qm_M → Option qm_R) (f_Nu_toppedBy : Int64 → Int32 → qm_M → Option qm_R) (l91 : Int32 → Int32 → Int64 → Int64 → qm_M → Option qm_R) (v0 : Int64) (v2 : Int32) (m : qm_M) : Option qm_R :=
  if (lg_cmp v0 (0 : Int64)) = 0 then
    some (some (.long (0 : Int64)), m)
  else
    if 0 < v2 then
      if (6 : Int32) < v2 then
        some (some (.long (0 : Int64)), m)
      else
        let x1 : Int64 := (qo_lushr v0 (qo_ishl (1 : Int32) (v2 - (1 : Int32))))
        qe_rL (f_Nu_halvedIn x1 (v2 - (1 : Int32)) m) fun x2 m1 =>
        qe_b (qm_in (v2 - (1 : Int32)) 6) (
        qe_rL (f_Nu_toppedBy (x2 ^^^ x1) (v2 - (1 : Int32)) m1) fun x3 m2 =>
        let x4 : Int64 := ((v0 &&& (qm_gL m1 1000001 (Int32.toNatClampNeg (v2 - (1 : Int32))))) ^^^ x3)
        if (lg_cmp ((qo_lushr x4 ((qo_ishl (1 : Int32) (v2 - (1 : Int32))) - (1 : Int32))) &&& (1 : Int64)) (0 : Int64)) = 0 then
          l91 v2 (qo_ishl (1 : Int32) (v2 - (1 : Int32))) x2 x4 m2
        else
          let x5 : Int64 := (x4 ^^^ (qo_lshl (1 : Int64) ((qo_ishl (1 : Int32) (v2 - (1 : Int32))) - (1 : Int32))))
          l91 v2 (qo_ishl (1 : Int32) (v2 - (1 : Int32))) (x2 ^^^ (1 : Int64)) x5 m2)
    else
      some (some (.long (0 : Int64)), m)
set_option maxRecDepth 100000 in
theorem xg_Nu_halvedIn_e {kp : pm_K} {d : Nat} {f_Nu_halvedIn : Int64 → Int32 → qm_M → Option qm_R} {f_Nu_toppedBy : Int64 → Int32 → qm_M → Option qm_R} {l91 : Int32 → Int32 → Int64 → Int64 → qm_M → Option qm_R} (hT : qe_G kp d (T_Nu_halvedIn f_Nu_halvedIn f_Nu_toppedBy)) (h91 : ∀ (v2 : Int32) (v3 : Int32) (v6 : Int64) (v8 : Int64) (m : qm_M), qe_J kp md_Nu_halvedIn d (l91 v2 v3 v6 v8 m) 91 [(2, .int v2), (3, .int v3), (6, .long v6), (8, .long v8)] [] m) (v0 : Int64) (v2 : Int32) (m : qm_M) : qe_J kp md_Nu_halvedIn d (X_Nu_halvedIn_e f_Nu_halvedIn f_Nu_toppedBy l91 v0 v2 m) 0 [(0, .long v0), (2, .int v2)] [] m := qe_run (B := [(91, [2, 3, 6, 8], qp_iill_ l91)]) (n := 1000) hT (qe_B1 (qp_iill__ok h91) qe_B0) rfl
def B_Nu_halvedIn (R : Int64 → Int32 → qm_M → Option qm_R) (v0 : Int64) (v2 : Int32) (m : qm_M) : Option qm_R := X_Nu_halvedIn_e R (F_Nu_toppedBy 10) (L_Nu_halvedIn_91 R) v0 v2 m
theorem fj_Nu_halvedIn {kp : pm_K} {d : Nat} {R : Int64 → Int32 → qm_M → Option qm_R} (hT : qe_G kp d (T_Nu_halvedIn R (F_Nu_toppedBy 10))) (v0 : Int64) (v2 : Int32) (m : qm_M) : qe_J kp md_Nu_halvedIn d (B_Nu_halvedIn R v0 v2 m) 0 [(0, .long v0), (2, .int v2)] [] m := xg_Nu_halvedIn_e hT (lg_Nu_halvedIn_91 hT) v0 v2 m
def F_Nu_halvedIn : Nat → Int64 → Int32 → qm_M → Option qm_R
  | 0, _, _, _ => none
  | n + 1, v0, v2, m => B_Nu_halvedIn (F_Nu_halvedIn n) v0 v2 m
theorem er_Nu_halvedIn {kp : pm_K} (d : Nat) : ∀ n : Nat, qe_GE kp (d + 1 * n + 23) (31, 1, 0, 2, qw_li (F_Nu_halvedIn n))
  | 0 => qe_entry (by decide +kernel) (qw_li_ok (d := d + 22) rfl (fun v0 v2 m => qe_none rfl))
  | n + 1 => by
    have ih := er_Nu_halvedIn (kp := kp) d n
    exact qe_at (d1 := d + 1 * n + 23 + 1) (by omega) (qe_entry (by decide +kernel) (qw_li_ok (d := d + 1 * n + 23) rfl (fj_Nu_halvedIn (qe_G1 ih (qe_G1 (qe_at (by omega) (fg_Nu_toppedBy (d + 1 * n + 1))) qe_G0)))))
theorem fg_Nu_halvedIn {kp : pm_K} (d : Nat) : qe_GE kp (d + 33) (31, 1, 0, 2, qw_li (F_Nu_halvedIn 10)) := er_Nu_halvedIn d 10
/-! TurnField$Numbers.inverted(J)J -/
noncomputable def T_Nu_inverted (f_Nu_product : Int64 → Int64 → qm_M → Option qm_R) (f_Nu_square : Int64 → qm_M → Option qm_R) (f_Nu_toppedBy : Int64 → Int32 → qm_M → Option qm_R) : qe_T := [(22, 1, 0, 2, qw_ll f_Nu_product), (26, 1, 0, 2, qw_l f_Nu_square), (25, 1, 0, 2, qw_li f_Nu_toppedBy)]
def X_Nu_inverted_8 (f_Nu_product : Int64 → Int64 → qm_M → Option qm_R) (f_Nu_square : Int64 → qm_M → Option qm_R) (f_Nu_toppedBy : Int64 → Int32 → qm_M → Option qm_R) (l8 : Int64 → Int64 → Int32 → qm_M → Option qm_R) (v2 : Int64) (v4 : Int64) (v6 : Int32) (m : qm_M) : Option qm_R :=
  if v6 < 0 then
    if (lg_cmp v4 (0 : Int64)) = 0 then
      some (some (.long (0 : Int64)), m)
    else
      some (some (.long v2), m)
  else
    if (lg_cmp (qo_lushr v4 (qo_ishl (1 : Int32) v6)) (0 : Int64)) = 0 then
      l8 v2 v4 (v6 + (-1 : Int32)) m
    else
      qe_b (qm_in v6 6) (
      let x1 : Int64 := (v4 &&& (qm_gL m 1000001 (Int32.toNatClampNeg v6)))
      qe_rL (f_Nu_product v2 (v4 ^^^ (qo_lushr v4 (qo_ishl (1 : Int32) v6))) m) fun x2 m1 =>
      qe_rL (f_Nu_product x1 (x1 ^^^ (qo_lushr v4 (qo_ishl (1 : Int32) v6))) m1) fun x3 m2 =>
      qe_rL (f_Nu_square (qo_lushr v4 (qo_ishl (1 : Int32) v6)) m2) fun x4 m3 =>
      qe_rL (f_Nu_toppedBy x4 v6 m3) fun x5 m4 =>
      l8 x2 (x3 ^^^ x5) (v6 + (-1 : Int32)) m4)
set_option maxRecDepth 100000 in
theorem xg_Nu_inverted_8 {kp : pm_K} {d : Nat} {f_Nu_product : Int64 → Int64 → qm_M → Option qm_R} {f_Nu_square : Int64 → qm_M → Option qm_R} {f_Nu_toppedBy : Int64 → Int32 → qm_M → Option qm_R} {l8 : Int64 → Int64 → Int32 → qm_M → Option qm_R} (hT : qe_G kp d (T_Nu_inverted f_Nu_product f_Nu_square f_Nu_toppedBy)) (h8 : ∀ (v2 : Int64) (v4 : Int64) (v6 : Int32) (m : qm_M), qe_J kp md_Nu_inverted d (l8 v2 v4 v6 m) 8 [(2, .long v2), (4, .long v4), (6, .int v6)] [] m) (v2 : Int64) (v4 : Int64) (v6 : Int32) (m : qm_M) : qe_J kp md_Nu_inverted d (X_Nu_inverted_8 f_Nu_product f_Nu_square f_Nu_toppedBy l8 v2 v4 v6 m) 8 [(2, .long v2), (4, .long v4), (6, .int v6)] [] m := qe_run (B := [(8, [2, 4, 6], qp_lli_ l8)]) (n := 1000) hT (qe_B1 (qp_lli__ok h8) qe_B0) rfl
def L_Nu_inverted_8 : Nat → Int64 → Int64 → Int32 → qm_M → Option qm_R
  | 0, _, _, _, _ => none
  | n + 1, v2, v4, v6, m => X_Nu_inverted_8 F_Nu_product F_Nu_square (F_Nu_toppedBy 10) (L_Nu_inverted_8 n) v2 v4 v6 m
theorem lg_Nu_inverted_8 {kp : pm_K} {d : Nat} (hT : qe_G kp d (T_Nu_inverted F_Nu_product F_Nu_square (F_Nu_toppedBy 10))) : ∀ (n : Nat) (v2 : Int64) (v4 : Int64) (v6 : Int32) (m : qm_M), qe_J kp md_Nu_inverted d (L_Nu_inverted_8 n v2 v4 v6 m) 8 [(2, .long v2), (4, .long v4), (6, .int v6)] [] m
  | 0, v2, v4, v6, m => qe_none rfl
  | n + 1, v2, v4, v6, m => xg_Nu_inverted_8 hT (lg_Nu_inverted_8 hT n) v2 v4 v6 m
def X_Nu_inverted_e (f_Nu_product : Int64 → Int64 → qm_M → Option qm_R) (f_Nu_square : Int64 → qm_M → Option qm_R) (f_Nu_toppedBy : Int64 → Int32 → qm_M → Option qm_R) (l8 : Int64 → Int64 → Int32 → qm_M → Option qm_R) (v0 : Int64) (m : qm_M) : Option qm_R :=
  l8 (1 : Int64) v0 (5 : Int32) m
set_option maxRecDepth 100000 in
theorem xg_Nu_inverted_e {kp : pm_K} {d : Nat} {f_Nu_product : Int64 → Int64 → qm_M → Option qm_R} {f_Nu_square : Int64 → qm_M → Option qm_R} {f_Nu_toppedBy : Int64 → Int32 → qm_M → Option qm_R} {l8 : Int64 → Int64 → Int32 → qm_M → Option qm_R} (hT : qe_G kp d (T_Nu_inverted f_Nu_product f_Nu_square f_Nu_toppedBy)) (h8 : ∀ (v2 : Int64) (v4 : Int64) (v6 : Int32) (m : qm_M), qe_J kp md_Nu_inverted d (l8 v2 v4 v6 m) 8 [(2, .long v2), (4, .long v4), (6, .int v6)] [] m) (v0 : Int64) (m : qm_M) : qe_J kp md_Nu_inverted d (X_Nu_inverted_e f_Nu_product f_Nu_square f_Nu_toppedBy l8 v0 m) 0 [(0, .long v0)] [] m := qe_run (B := [(8, [2, 4, 6], qp_lli_ l8)]) (n := 1000) hT (qe_B1 (qp_lli__ok h8) qe_B0) rfl
def F_Nu_inverted (v0 : Int64) (m : qm_M) : Option qm_R := X_Nu_inverted_e F_Nu_product F_Nu_square (F_Nu_toppedBy 10) (L_Nu_inverted_8 1000000) v0 m
theorem fj_Nu_inverted {kp : pm_K} {d : Nat} (hT : qe_G kp d (T_Nu_inverted F_Nu_product F_Nu_square (F_Nu_toppedBy 10))) (v0 : Int64) (m : qm_M) : qe_J kp md_Nu_inverted d (F_Nu_inverted v0 m) 0 [(0, .long v0)] [] m := xg_Nu_inverted_e hT (lg_Nu_inverted_8 hT 1000000) v0 m
theorem fg_Nu_inverted {kp : pm_K} (d : Nat) : qe_GE kp (d + 34) (28, 1, 0, 2, qw_l F_Nu_inverted) := qe_entry (by decide +kernel) (qw_l_ok (d := d + 33) rfl (fj_Nu_inverted (qe_G1 (fg_Nu_product (d + 0)) (qe_G1 (fg_Nu_square (d + 10)) (qe_G1 (fg_Nu_toppedBy (d + 11)) qe_G0)))))
end
section
theorem zz_last : True := trivial
end
