-- ===== PART A: goes FIRST, ahead of the names: the tables' words, and 'selects' of the private methods out of them =====
/-- a private method of a class that the tables say can be made, by its rows of tables_1 -/
def lw_okq (q : MethodName × Nat) : Prop := (q.1.cls ≠ "java/lang/invoke/MethodHandle" ∧ q.1.cls ≠ "java/lang/invoke/VarHandle") ∧ Cond.instantiable q.1.cls q.2 ∈ tables_1 ∧ Cond.privateMethod q.1 ∈ tables_1 ∧ Cond.instanceMethod q.1 ∈ tables_1
theorem lw_p0 : lw_okq (⟨"SmallerOut$Log", "forgetOldest", "()V"⟩, 6) := ⟨⟨by decide +kernel, by decide +kernel⟩, List.mem_of_getElem? (i := 273) (by decide +kernel), List.mem_of_getElem? (i := 468) (by decide +kernel), List.mem_of_getElem? (i := 469) (by decide +kernel)⟩
theorem lw_p1 : lw_okq (⟨"SmallerOut", "ofPerson", "(II)I"⟩, 12) := ⟨⟨by decide +kernel, by decide +kernel⟩, List.mem_of_getElem? (i := 18) (by decide +kernel), List.mem_of_getElem? (i := 482) (by decide +kernel), List.mem_of_getElem? (i := 483) (by decide +kernel)⟩
theorem lw_p2 : lw_okq (⟨"SmallerOut$Tape", "line", "()V"⟩, 6) := ⟨⟨by decide +kernel, by decide +kernel⟩, List.mem_of_getElem? (i := 88) (by decide +kernel), List.mem_of_getElem? (i := 511) (by decide +kernel), List.mem_of_getElem? (i := 512) (by decide +kernel)⟩
theorem lw_p3 : lw_okq (⟨"SmallerOut$Tape", "level", "(II)V"⟩, 6) := ⟨⟨by decide +kernel, by decide +kernel⟩, List.mem_of_getElem? (i := 88) (by decide +kernel), List.mem_of_getElem? (i := 515) (by decide +kernel), List.mem_of_getElem? (i := 516) (by decide +kernel)⟩
theorem lw_p4 : lw_okq (⟨"SmallerOut$Tape", "operand", "(I)V"⟩, 6) := ⟨⟨by decide +kernel, by decide +kernel⟩, List.mem_of_getElem? (i := 88) (by decide +kernel), List.mem_of_getElem? (i := 519) (by decide +kernel), List.mem_of_getElem? (i := 520) (by decide +kernel)⟩
theorem lw_p5 : lw_okq (⟨"SmallerOut$Tape", "next", "()I"⟩, 6) := ⟨⟨by decide +kernel, by decide +kernel⟩, List.mem_of_getElem? (i := 88) (by decide +kernel), List.mem_of_getElem? (i := 523) (by decide +kernel), List.mem_of_getElem? (i := 524) (by decide +kernel)⟩
theorem lw_p6 : lw_okq (⟨"SmallerOut$Tape", "number", "()V"⟩, 6) := ⟨⟨by decide +kernel, by decide +kernel⟩, List.mem_of_getElem? (i := 88) (by decide +kernel), List.mem_of_getElem? (i := 530) (by decide +kernel), List.mem_of_getElem? (i := 531) (by decide +kernel)⟩
theorem lw_p7 : lw_okq (⟨"SmallerOut$Tape", "write", "(I)V"⟩, 6) := ⟨⟨by decide +kernel, by decide +kernel⟩, List.mem_of_getElem? (i := 88) (by decide +kernel), List.mem_of_getElem? (i := 534) (by decide +kernel), List.mem_of_getElem? (i := 535) (by decide +kernel)⟩
theorem lw_p8 : lw_okq (⟨"SmallerOut$Tape", "fail", "()V"⟩, 6) := ⟨⟨by decide +kernel, by decide +kernel⟩, List.mem_of_getElem? (i := 88) (by decide +kernel), List.mem_of_getElem? (i := 541) (by decide +kernel), List.mem_of_getElem? (i := 542) (by decide +kernel)⟩
theorem lw_p9 : lw_okq (⟨"SmallerOut$Passes", "isLawful", "(III)Z"⟩, 6) := ⟨⟨by decide +kernel, by decide +kernel⟩, List.mem_of_getElem? (i := 135) (by decide +kernel), List.mem_of_getElem? (i := 574) (by decide +kernel), List.mem_of_getElem? (i := 575) (by decide +kernel)⟩
theorem lw_p10 : lw_okq (⟨"SmallerOut$Law", "push", "(I)V"⟩, 4) := ⟨⟨by decide +kernel, by decide +kernel⟩, List.mem_of_getElem? (i := 116) (by decide +kernel), List.mem_of_getElem? (i := 586) (by decide +kernel), List.mem_of_getElem? (i := 587) (by decide +kernel)⟩
theorem lw_p11 : lw_okq (⟨"SmallerOut$Law", "pop", "()I"⟩, 4) := ⟨⟨by decide +kernel, by decide +kernel⟩, List.mem_of_getElem? (i := 116) (by decide +kernel), List.mem_of_getElem? (i := 590) (by decide +kernel), List.mem_of_getElem? (i := 591) (by decide +kernel)⟩
theorem lw_p12 : lw_okq (⟨"SmallerOut$Law", "endOfLine", "(I)I"⟩, 4) := ⟨⟨by decide +kernel, by decide +kernel⟩, List.mem_of_getElem? (i := 116) (by decide +kernel), List.mem_of_getElem? (i := 594) (by decide +kernel), List.mem_of_getElem? (i := 595) (by decide +kernel)⟩
theorem lw_p13 : lw_okq (⟨"SmallerOut$Law", "work", "(I)V"⟩, 4) := ⟨⟨by decide +kernel, by decide +kernel⟩, List.mem_of_getElem? (i := 116) (by decide +kernel), List.mem_of_getElem? (i := 598) (by decide +kernel), List.mem_of_getElem? (i := 599) (by decide +kernel)⟩
theorem lw_p14 : lw_okq (⟨"SmallerOut$Passes", "partnersOf", "(II)I"⟩, 6) := ⟨⟨by decide +kernel, by decide +kernel⟩, List.mem_of_getElem? (i := 135) (by decide +kernel), List.mem_of_getElem? (i := 614) (by decide +kernel), List.mem_of_getElem? (i := 615) (by decide +kernel)⟩
theorem lw_p15 : lw_okq (⟨"SmallerOut$Steps", "listAt", "(LSmallerOut$Passes;II)V"⟩, 4) := ⟨⟨by decide +kernel, by decide +kernel⟩, List.mem_of_getElem? (i := 174) (by decide +kernel), List.mem_of_getElem? (i := 627) (by decide +kernel), List.mem_of_getElem? (i := 628) (by decide +kernel)⟩
def lw_privs_1 : List (MethodName × Nat) := [(⟨"SmallerOut$Log", "forgetOldest", "()V"⟩, 6), (⟨"SmallerOut", "ofPerson", "(II)I"⟩, 12), (⟨"SmallerOut$Tape", "line", "()V"⟩, 6), (⟨"SmallerOut$Tape", "level", "(II)V"⟩, 6), (⟨"SmallerOut$Tape", "operand", "(I)V"⟩, 6), (⟨"SmallerOut$Tape", "next", "()I"⟩, 6), (⟨"SmallerOut$Tape", "number", "()V"⟩, 6), (⟨"SmallerOut$Tape", "write", "(I)V"⟩, 6), (⟨"SmallerOut$Tape", "fail", "()V"⟩, 6), (⟨"SmallerOut$Passes", "isLawful", "(III)Z"⟩, 6), (⟨"SmallerOut$Law", "push", "(I)V"⟩, 4), (⟨"SmallerOut$Law", "pop", "()I"⟩, 4), (⟨"SmallerOut$Law", "endOfLine", "(I)I"⟩, 4), (⟨"SmallerOut$Law", "work", "(I)V"⟩, 4), (⟨"SmallerOut$Passes", "partnersOf", "(II)I"⟩, 6), (⟨"SmallerOut$Steps", "listAt", "(LSmallerOut$Passes;II)V"⟩, 4)]
theorem lw_r1 : ∀ q ∈ lw_privs_1, lw_okq q := List.forall_mem_cons.mpr ⟨lw_p0, List.forall_mem_cons.mpr ⟨lw_p1, List.forall_mem_cons.mpr ⟨lw_p2, List.forall_mem_cons.mpr ⟨lw_p3, List.forall_mem_cons.mpr ⟨lw_p4, List.forall_mem_cons.mpr ⟨lw_p5, List.forall_mem_cons.mpr ⟨lw_p6, List.forall_mem_cons.mpr ⟨lw_p7, List.forall_mem_cons.mpr ⟨lw_p8, List.forall_mem_cons.mpr ⟨lw_p9, List.forall_mem_cons.mpr ⟨lw_p10, List.forall_mem_cons.mpr ⟨lw_p11, List.forall_mem_cons.mpr ⟨lw_p12, List.forall_mem_cons.mpr ⟨lw_p13, List.forall_mem_cons.mpr ⟨lw_p14, List.forall_mem_cons.mpr ⟨lw_p15, fun _ h => absurd h List.not_mem_nil⟩⟩⟩⟩⟩⟩⟩⟩⟩⟩⟩⟩⟩⟩⟩⟩
theorem lw_p16 : lw_okq (⟨"SmallerOut$Search", "forget", "()V"⟩, 9) := ⟨⟨by decide +kernel, by decide +kernel⟩, List.mem_of_getElem? (i := 168) (by decide +kernel), List.mem_of_getElem? (i := 656) (by decide +kernel), List.mem_of_getElem? (i := 657) (by decide +kernel)⟩
theorem lw_p17 : lw_okq (⟨"SmallerOut$Search", "note", "(III)Z"⟩, 9) := ⟨⟨by decide +kernel, by decide +kernel⟩, List.mem_of_getElem? (i := 168) (by decide +kernel), List.mem_of_getElem? (i := 660) (by decide +kernel), List.mem_of_getElem? (i := 661) (by decide +kernel)⟩
theorem lw_p18 : lw_okq (⟨"SmallerOut$Search", "slotOf", "(I)I"⟩, 9) := ⟨⟨by decide +kernel, by decide +kernel⟩, List.mem_of_getElem? (i := 168) (by decide +kernel), List.mem_of_getElem? (i := 664) (by decide +kernel), List.mem_of_getElem? (i := 665) (by decide +kernel)⟩
theorem lw_p19 : lw_okq (⟨"SmallerOut$Search", "placeOf", "(I)I"⟩, 9) := ⟨⟨by decide +kernel, by decide +kernel⟩, List.mem_of_getElem? (i := 168) (by decide +kernel), List.mem_of_getElem? (i := 670) (by decide +kernel), List.mem_of_getElem? (i := 671) (by decide +kernel)⟩
theorem lw_p20 : lw_okq (⟨"SmallerOut$Search", "countWays", "(LSmallerOut$Passes;)V"⟩, 9) := ⟨⟨by decide +kernel, by decide +kernel⟩, List.mem_of_getElem? (i := 168) (by decide +kernel), List.mem_of_getElem? (i := 682) (by decide +kernel), List.mem_of_getElem? (i := 683) (by decide +kernel)⟩
theorem lw_p21 : lw_okq (⟨"SmallerOut", "isGoal", "(II)Z"⟩, 12) := ⟨⟨by decide +kernel, by decide +kernel⟩, List.mem_of_getElem? (i := 18) (by decide +kernel), List.mem_of_getElem? (i := 698) (by decide +kernel), List.mem_of_getElem? (i := 699) (by decide +kernel)⟩
theorem lw_p22 : lw_okq (⟨"SmallerOut", "fewestTo", "(II)I"⟩, 12) := ⟨⟨by decide +kernel, by decide +kernel⟩, List.mem_of_getElem? (i := 18) (by decide +kernel), List.mem_of_getElem? (i := 706) (by decide +kernel), List.mem_of_getElem? (i := 707) (by decide +kernel)⟩
theorem lw_p23 : lw_okq (⟨"SmallerOut$Evening", "tryOne", "(LSmallerOut$Passes;LSmallerOut$Steps;)Z"⟩, 4) := ⟨⟨by decide +kernel, by decide +kernel⟩, List.mem_of_getElem? (i := 232) (by decide +kernel), List.mem_of_getElem? (i := 749) (by decide +kernel), List.mem_of_getElem? (i := 750) (by decide +kernel)⟩
theorem lw_p24 : lw_okq (⟨"SmallerOut$Evening", "draw", "(I)I"⟩, 4) := ⟨⟨by decide +kernel, by decide +kernel⟩, List.mem_of_getElem? (i := 232) (by decide +kernel), List.mem_of_getElem? (i := 753) (by decide +kernel), List.mem_of_getElem? (i := 754) (by decide +kernel)⟩
theorem lw_p25 : lw_okq (⟨"SmallerOut$Acts", "own", "(III)I"⟩, 5) := ⟨⟨by decide +kernel, by decide +kernel⟩, List.mem_of_getElem? (i := 300) (by decide +kernel), List.mem_of_getElem? (i := 826) (by decide +kernel), List.mem_of_getElem? (i := 827) (by decide +kernel)⟩
theorem lw_p26 : lw_okq (⟨"SmallerOut$Acts", "run", "(IIII)I"⟩, 5) := ⟨⟨by decide +kernel, by decide +kernel⟩, List.mem_of_getElem? (i := 300) (by decide +kernel), List.mem_of_getElem? (i := 830) (by decide +kernel), List.mem_of_getElem? (i := 831) (by decide +kernel)⟩
theorem lw_p27 : lw_okq (⟨"SmallerOut$Acts", "note", "(I)V"⟩, 5) := ⟨⟨by decide +kernel, by decide +kernel⟩, List.mem_of_getElem? (i := 300) (by decide +kernel), List.mem_of_getElem? (i := 838) (by decide +kernel), List.mem_of_getElem? (i := 839) (by decide +kernel)⟩
theorem lw_p28 : lw_okq (⟨"SmallerOut$Acts", "runUpper", "(III)I"⟩, 5) := ⟨⟨by decide +kernel, by decide +kernel⟩, List.mem_of_getElem? (i := 300) (by decide +kernel), List.mem_of_getElem? (i := 842) (by decide +kernel), List.mem_of_getElem? (i := 843) (by decide +kernel)⟩
theorem lw_p29 : lw_okq (⟨"SmallerOut$Acts", "runLower", "(III)I"⟩, 5) := ⟨⟨by decide +kernel, by decide +kernel⟩, List.mem_of_getElem? (i := 300) (by decide +kernel), List.mem_of_getElem? (i := 846) (by decide +kernel), List.mem_of_getElem? (i := 847) (by decide +kernel)⟩
theorem lw_p30 : lw_okq (⟨"SmallerOut", "elementRefusal", "(II)I"⟩, 12) := ⟨⟨by decide +kernel, by decide +kernel⟩, List.mem_of_getElem? (i := 18) (by decide +kernel), List.mem_of_getElem? (i := 883) (by decide +kernel), List.mem_of_getElem? (i := 884) (by decide +kernel)⟩
theorem lw_p31 : lw_okq (⟨"SmallerOut$Shelf", "narrowed", "(J)J"⟩, 4) := ⟨⟨by decide +kernel, by decide +kernel⟩, List.mem_of_getElem? (i := 326) (by decide +kernel), List.mem_of_getElem? (i := 892) (by decide +kernel), List.mem_of_getElem? (i := 893) (by decide +kernel)⟩
def lw_privs_2 : List (MethodName × Nat) := [(⟨"SmallerOut$Search", "forget", "()V"⟩, 9), (⟨"SmallerOut$Search", "note", "(III)Z"⟩, 9), (⟨"SmallerOut$Search", "slotOf", "(I)I"⟩, 9), (⟨"SmallerOut$Search", "placeOf", "(I)I"⟩, 9), (⟨"SmallerOut$Search", "countWays", "(LSmallerOut$Passes;)V"⟩, 9), (⟨"SmallerOut", "isGoal", "(II)Z"⟩, 12), (⟨"SmallerOut", "fewestTo", "(II)I"⟩, 12), (⟨"SmallerOut$Evening", "tryOne", "(LSmallerOut$Passes;LSmallerOut$Steps;)Z"⟩, 4), (⟨"SmallerOut$Evening", "draw", "(I)I"⟩, 4), (⟨"SmallerOut$Acts", "own", "(III)I"⟩, 5), (⟨"SmallerOut$Acts", "run", "(IIII)I"⟩, 5), (⟨"SmallerOut$Acts", "note", "(I)V"⟩, 5), (⟨"SmallerOut$Acts", "runUpper", "(III)I"⟩, 5), (⟨"SmallerOut$Acts", "runLower", "(III)I"⟩, 5), (⟨"SmallerOut", "elementRefusal", "(II)I"⟩, 12), (⟨"SmallerOut$Shelf", "narrowed", "(J)J"⟩, 4)]
theorem lw_r2 : ∀ q ∈ lw_privs_2, lw_okq q := List.forall_mem_cons.mpr ⟨lw_p16, List.forall_mem_cons.mpr ⟨lw_p17, List.forall_mem_cons.mpr ⟨lw_p18, List.forall_mem_cons.mpr ⟨lw_p19, List.forall_mem_cons.mpr ⟨lw_p20, List.forall_mem_cons.mpr ⟨lw_p21, List.forall_mem_cons.mpr ⟨lw_p22, List.forall_mem_cons.mpr ⟨lw_p23, List.forall_mem_cons.mpr ⟨lw_p24, List.forall_mem_cons.mpr ⟨lw_p25, List.forall_mem_cons.mpr ⟨lw_p26, List.forall_mem_cons.mpr ⟨lw_p27, List.forall_mem_cons.mpr ⟨lw_p28, List.forall_mem_cons.mpr ⟨lw_p29, List.forall_mem_cons.mpr ⟨lw_p30, List.forall_mem_cons.mpr ⟨lw_p31, fun _ h => absurd h List.not_mem_nil⟩⟩⟩⟩⟩⟩⟩⟩⟩⟩⟩⟩⟩⟩⟩⟩
theorem lw_p32 : lw_okq (⟨"SmallerOutModel", "isRoom", "(I)Z"⟩, 57) := ⟨⟨by decide +kernel, by decide +kernel⟩, List.mem_of_getElem? (i := 927) (by decide +kernel), List.mem_of_getElem? (i := 1115) (by decide +kernel), List.mem_of_getElem? (i := 1116) (by decide +kernel)⟩
theorem lw_p33 : lw_okq (⟨"SmallerOutModel", "addPerson", "(II)I"⟩, 57) := ⟨⟨by decide +kernel, by decide +kernel⟩, List.mem_of_getElem? (i := 927) (by decide +kernel), List.mem_of_getElem? (i := 1126) (by decide +kernel), List.mem_of_getElem? (i := 1127) (by decide +kernel)⟩
theorem lw_p34 : lw_okq (⟨"SmallerOutModel", "lays", "(III)V"⟩, 57) := ⟨⟨by decide +kernel, by decide +kernel⟩, List.mem_of_getElem? (i := 927) (by decide +kernel), List.mem_of_getElem? (i := 1144) (by decide +kernel), List.mem_of_getElem? (i := 1145) (by decide +kernel)⟩
theorem lw_p35 : lw_okq (⟨"SmallerOutModel", "isPerson", "(I)Z"⟩, 57) := ⟨⟨by decide +kernel, by decide +kernel⟩, List.mem_of_getElem? (i := 927) (by decide +kernel), List.mem_of_getElem? (i := 1156) (by decide +kernel), List.mem_of_getElem? (i := 1157) (by decide +kernel)⟩
theorem lw_p36 : lw_okq (⟨"SmallerOutModel", "become", "(III)I"⟩, 57) := ⟨⟨by decide +kernel, by decide +kernel⟩, List.mem_of_getElem? (i := 927) (by decide +kernel), List.mem_of_getElem? (i := 1160) (by decide +kernel), List.mem_of_getElem? (i := 1161) (by decide +kernel)⟩
theorem lw_p37 : lw_okq (⟨"SmallerOutModel", "valueAt", "(II)I"⟩, 57) := ⟨⟨by decide +kernel, by decide +kernel⟩, List.mem_of_getElem? (i := 927) (by decide +kernel), List.mem_of_getElem? (i := 1164) (by decide +kernel), List.mem_of_getElem? (i := 1165) (by decide +kernel)⟩
theorem lw_p38 : lw_okq (⟨"SmallerOutModel", "isDoor", "(I)Z"⟩, 57) := ⟨⟨by decide +kernel, by decide +kernel⟩, List.mem_of_getElem? (i := 927) (by decide +kernel), List.mem_of_getElem? (i := 1168) (by decide +kernel), List.mem_of_getElem? (i := 1169) (by decide +kernel)⟩
theorem lw_p39 : lw_okq (⟨"SmallerOutModel", "height", "(III)I"⟩, 57) := ⟨⟨by decide +kernel, by decide +kernel⟩, List.mem_of_getElem? (i := 927) (by decide +kernel), List.mem_of_getElem? (i := 1184) (by decide +kernel), List.mem_of_getElem? (i := 1185) (by decide +kernel)⟩
theorem lw_p40 : lw_okq (⟨"SmallerOutModel", "whoIn", "(I)I"⟩, 57) := ⟨⟨by decide +kernel, by decide +kernel⟩, List.mem_of_getElem? (i := 927) (by decide +kernel), List.mem_of_getElem? (i := 1188) (by decide +kernel), List.mem_of_getElem? (i := 1189) (by decide +kernel)⟩
theorem lw_p41 : lw_okq (⟨"SmallerOutModel", "readText", "(I)I"⟩, 57) := ⟨⟨by decide +kernel, by decide +kernel⟩, List.mem_of_getElem? (i := 927) (by decide +kernel), List.mem_of_getElem? (i := 1200) (by decide +kernel), List.mem_of_getElem? (i := 1201) (by decide +kernel)⟩
theorem lw_p42 : lw_okq (⟨"SmallerOutModel", "line", "()V"⟩, 57) := ⟨⟨by decide +kernel, by decide +kernel⟩, List.mem_of_getElem? (i := 927) (by decide +kernel), List.mem_of_getElem? (i := 1204) (by decide +kernel), List.mem_of_getElem? (i := 1205) (by decide +kernel)⟩
theorem lw_p43 : lw_okq (⟨"SmallerOutModel", "either", "()V"⟩, 57) := ⟨⟨by decide +kernel, by decide +kernel⟩, List.mem_of_getElem? (i := 927) (by decide +kernel), List.mem_of_getElem? (i := 1208) (by decide +kernel), List.mem_of_getElem? (i := 1209) (by decide +kernel)⟩
theorem lw_p44 : lw_okq (⟨"SmallerOutModel", "both", "()V"⟩, 57) := ⟨⟨by decide +kernel, by decide +kernel⟩, List.mem_of_getElem? (i := 927) (by decide +kernel), List.mem_of_getElem? (i := 1212) (by decide +kernel), List.mem_of_getElem? (i := 1213) (by decide +kernel)⟩
theorem lw_p45 : lw_okq (⟨"SmallerOutModel", "compared", "()V"⟩, 57) := ⟨⟨by decide +kernel, by decide +kernel⟩, List.mem_of_getElem? (i := 927) (by decide +kernel), List.mem_of_getElem? (i := 1216) (by decide +kernel), List.mem_of_getElem? (i := 1217) (by decide +kernel)⟩
theorem lw_p46 : lw_okq (⟨"SmallerOutModel", "sum", "()V"⟩, 57) := ⟨⟨by decide +kernel, by decide +kernel⟩, List.mem_of_getElem? (i := 927) (by decide +kernel), List.mem_of_getElem? (i := 1220) (by decide +kernel), List.mem_of_getElem? (i := 1221) (by decide +kernel)⟩
theorem lw_p47 : lw_okq (⟨"SmallerOutModel", "product", "()V"⟩, 57) := ⟨⟨by decide +kernel, by decide +kernel⟩, List.mem_of_getElem? (i := 927) (by decide +kernel), List.mem_of_getElem? (i := 1224) (by decide +kernel), List.mem_of_getElem? (i := 1225) (by decide +kernel)⟩
def lw_privs_3 : List (MethodName × Nat) := [(⟨"SmallerOutModel", "isRoom", "(I)Z"⟩, 57), (⟨"SmallerOutModel", "addPerson", "(II)I"⟩, 57), (⟨"SmallerOutModel", "lays", "(III)V"⟩, 57), (⟨"SmallerOutModel", "isPerson", "(I)Z"⟩, 57), (⟨"SmallerOutModel", "become", "(III)I"⟩, 57), (⟨"SmallerOutModel", "valueAt", "(II)I"⟩, 57), (⟨"SmallerOutModel", "isDoor", "(I)Z"⟩, 57), (⟨"SmallerOutModel", "height", "(III)I"⟩, 57), (⟨"SmallerOutModel", "whoIn", "(I)I"⟩, 57), (⟨"SmallerOutModel", "readText", "(I)I"⟩, 57), (⟨"SmallerOutModel", "line", "()V"⟩, 57), (⟨"SmallerOutModel", "either", "()V"⟩, 57), (⟨"SmallerOutModel", "both", "()V"⟩, 57), (⟨"SmallerOutModel", "compared", "()V"⟩, 57), (⟨"SmallerOutModel", "sum", "()V"⟩, 57), (⟨"SmallerOutModel", "product", "()V"⟩, 57)]
theorem lw_r3 : ∀ q ∈ lw_privs_3, lw_okq q := List.forall_mem_cons.mpr ⟨lw_p32, List.forall_mem_cons.mpr ⟨lw_p33, List.forall_mem_cons.mpr ⟨lw_p34, List.forall_mem_cons.mpr ⟨lw_p35, List.forall_mem_cons.mpr ⟨lw_p36, List.forall_mem_cons.mpr ⟨lw_p37, List.forall_mem_cons.mpr ⟨lw_p38, List.forall_mem_cons.mpr ⟨lw_p39, List.forall_mem_cons.mpr ⟨lw_p40, List.forall_mem_cons.mpr ⟨lw_p41, List.forall_mem_cons.mpr ⟨lw_p42, List.forall_mem_cons.mpr ⟨lw_p43, List.forall_mem_cons.mpr ⟨lw_p44, List.forall_mem_cons.mpr ⟨lw_p45, List.forall_mem_cons.mpr ⟨lw_p46, List.forall_mem_cons.mpr ⟨lw_p47, fun _ h => absurd h List.not_mem_nil⟩⟩⟩⟩⟩⟩⟩⟩⟩⟩⟩⟩⟩⟩⟩⟩
theorem lw_p48 : lw_okq (⟨"SmallerOutModel", "operand", "()V"⟩, 57) := ⟨⟨by decide +kernel, by decide +kernel⟩, List.mem_of_getElem? (i := 927) (by decide +kernel), List.mem_of_getElem? (i := 1228) (by decide +kernel), List.mem_of_getElem? (i := 1229) (by decide +kernel)⟩
theorem lw_p49 : lw_okq (⟨"SmallerOutModel", "look", "()I"⟩, 57) := ⟨⟨by decide +kernel, by decide +kernel⟩, List.mem_of_getElem? (i := 927) (by decide +kernel), List.mem_of_getElem? (i := 1232) (by decide +kernel), List.mem_of_getElem? (i := 1233) (by decide +kernel)⟩
theorem lw_p50 : lw_okq (⟨"SmallerOutModel", "addStep", "(II)V"⟩, 57) := ⟨⟨by decide +kernel, by decide +kernel⟩, List.mem_of_getElem? (i := 927) (by decide +kernel), List.mem_of_getElem? (i := 1239) (by decide +kernel), List.mem_of_getElem? (i := 1240) (by decide +kernel)⟩
theorem lw_p51 : lw_okq (⟨"SmallerOutModel", "opens", "()Z"⟩, 57) := ⟨⟨by decide +kernel, by decide +kernel⟩, List.mem_of_getElem? (i := 927) (by decide +kernel), List.mem_of_getElem? (i := 1243) (by decide +kernel), List.mem_of_getElem? (i := 1244) (by decide +kernel)⟩
theorem lw_p52 : lw_okq (⟨"SmallerOutModel", "faulty", "()V"⟩, 57) := ⟨⟨by decide +kernel, by decide +kernel⟩, List.mem_of_getElem? (i := 927) (by decide +kernel), List.mem_of_getElem? (i := 1247) (by decide +kernel), List.mem_of_getElem? (i := 1248) (by decide +kernel)⟩
theorem lw_p53 : lw_okq (⟨"SmallerOutModel", "figure", "()V"⟩, 57) := ⟨⟨by decide +kernel, by decide +kernel⟩, List.mem_of_getElem? (i := 927) (by decide +kernel), List.mem_of_getElem? (i := 1251) (by decide +kernel), List.mem_of_getElem? (i := 1252) (by decide +kernel)⟩
theorem lw_p54 : lw_okq (⟨"SmallerOutModel", "areTwo", "(I)Z"⟩, 57) := ⟨⟨by decide +kernel, by decide +kernel⟩, List.mem_of_getElem? (i := 927) (by decide +kernel), List.mem_of_getElem? (i := 1259) (by decide +kernel), List.mem_of_getElem? (i := 1260) (by decide +kernel)⟩
theorem lw_p55 : lw_okq (⟨"SmallerOutModel", "findNow", "()V"⟩, 57) := ⟨⟨by decide +kernel, by decide +kernel⟩, List.mem_of_getElem? (i := 927) (by decide +kernel), List.mem_of_getElem? (i := 1263) (by decide +kernel), List.mem_of_getElem? (i := 1264) (by decide +kernel)⟩
theorem lw_p56 : lw_okq (⟨"SmallerOutModel", "findMay", "(III)V"⟩, 57) := ⟨⟨by decide +kernel, by decide +kernel⟩, List.mem_of_getElem? (i := 927) (by decide +kernel), List.mem_of_getElem? (i := 1267) (by decide +kernel), List.mem_of_getElem? (i := 1268) (by decide +kernel)⟩
theorem lw_p57 : lw_okq (⟨"SmallerOutModel", "asks", "(IZII)Z"⟩, 57) := ⟨⟨by decide +kernel, by decide +kernel⟩, List.mem_of_getElem? (i := 927) (by decide +kernel), List.mem_of_getElem? (i := 1271) (by decide +kernel), List.mem_of_getElem? (i := 1272) (by decide +kernel)⟩
theorem lw_p58 : lw_okq (⟨"SmallerOutModel", "gives", "(I)I"⟩, 57) := ⟨⟨by decide +kernel, by decide +kernel⟩, List.mem_of_getElem? (i := 927) (by decide +kernel), List.mem_of_getElem? (i := 1275) (by decide +kernel), List.mem_of_getElem? (i := 1276) (by decide +kernel)⟩
theorem lw_p59 : lw_okq (⟨"SmallerOutModel", "worked", "(III)I"⟩, 57) := ⟨⟨by decide +kernel, by decide +kernel⟩, List.mem_of_getElem? (i := 927) (by decide +kernel), List.mem_of_getElem? (i := 1279) (by decide +kernel), List.mem_of_getElem? (i := 1280) (by decide +kernel)⟩
theorem lw_p60 : lw_okq (⟨"SmallerOutModel", "can", "(IIII)Z"⟩, 57) := ⟨⟨by decide +kernel, by decide +kernel⟩, List.mem_of_getElem? (i := 927) (by decide +kernel), List.mem_of_getElem? (i := 1286) (by decide +kernel), List.mem_of_getElem? (i := 1287) (by decide +kernel)⟩
theorem lw_p61 : lw_okq (⟨"SmallerOutModel", "noGoal", "()V"⟩, 57) := ⟨⟨by decide +kernel, by decide +kernel⟩, List.mem_of_getElem? (i := 927) (by decide +kernel), List.mem_of_getElem? (i := 1309) (by decide +kernel), List.mem_of_getElem? (i := 1310) (by decide +kernel)⟩
theorem lw_p62 : lw_okq (⟨"SmallerOutModel", "findAll", "(II)V"⟩, 57) := ⟨⟨by decide +kernel, by decide +kernel⟩, List.mem_of_getElem? (i := 927) (by decide +kernel), List.mem_of_getElem? (i := 1313) (by decide +kernel), List.mem_of_getElem? (i := 1314) (by decide +kernel)⟩
theorem lw_p63 : lw_okq (⟨"SmallerOutModel", "meet", "(II)V"⟩, 57) := ⟨⟨by decide +kernel, by decide +kernel⟩, List.mem_of_getElem? (i := 927) (by decide +kernel), List.mem_of_getElem? (i := 1317) (by decide +kernel), List.mem_of_getElem? (i := 1318) (by decide +kernel)⟩
def lw_privs_4 : List (MethodName × Nat) := [(⟨"SmallerOutModel", "operand", "()V"⟩, 57), (⟨"SmallerOutModel", "look", "()I"⟩, 57), (⟨"SmallerOutModel", "addStep", "(II)V"⟩, 57), (⟨"SmallerOutModel", "opens", "()Z"⟩, 57), (⟨"SmallerOutModel", "faulty", "()V"⟩, 57), (⟨"SmallerOutModel", "figure", "()V"⟩, 57), (⟨"SmallerOutModel", "areTwo", "(I)Z"⟩, 57), (⟨"SmallerOutModel", "findNow", "()V"⟩, 57), (⟨"SmallerOutModel", "findMay", "(III)V"⟩, 57), (⟨"SmallerOutModel", "asks", "(IZII)Z"⟩, 57), (⟨"SmallerOutModel", "gives", "(I)I"⟩, 57), (⟨"SmallerOutModel", "worked", "(III)I"⟩, 57), (⟨"SmallerOutModel", "can", "(IIII)Z"⟩, 57), (⟨"SmallerOutModel", "noGoal", "()V"⟩, 57), (⟨"SmallerOutModel", "findAll", "(II)V"⟩, 57), (⟨"SmallerOutModel", "meet", "(II)V"⟩, 57)]
theorem lw_r4 : ∀ q ∈ lw_privs_4, lw_okq q := List.forall_mem_cons.mpr ⟨lw_p48, List.forall_mem_cons.mpr ⟨lw_p49, List.forall_mem_cons.mpr ⟨lw_p50, List.forall_mem_cons.mpr ⟨lw_p51, List.forall_mem_cons.mpr ⟨lw_p52, List.forall_mem_cons.mpr ⟨lw_p53, List.forall_mem_cons.mpr ⟨lw_p54, List.forall_mem_cons.mpr ⟨lw_p55, List.forall_mem_cons.mpr ⟨lw_p56, List.forall_mem_cons.mpr ⟨lw_p57, List.forall_mem_cons.mpr ⟨lw_p58, List.forall_mem_cons.mpr ⟨lw_p59, List.forall_mem_cons.mpr ⟨lw_p60, List.forall_mem_cons.mpr ⟨lw_p61, List.forall_mem_cons.mpr ⟨lw_p62, List.forall_mem_cons.mpr ⟨lw_p63, fun _ h => absurd h List.not_mem_nil⟩⟩⟩⟩⟩⟩⟩⟩⟩⟩⟩⟩⟩⟩⟩⟩
theorem lw_p64 : lw_okq (⟨"SmallerOutModel", "longest", "()I"⟩, 57) := ⟨⟨by decide +kernel, by decide +kernel⟩, List.mem_of_getElem? (i := 927) (by decide +kernel), List.mem_of_getElem? (i := 1321) (by decide +kernel), List.mem_of_getElem? (i := 1322) (by decide +kernel)⟩
theorem lw_p65 : lw_okq (⟨"SmallerOutModel", "leads", "(II)V"⟩, 57) := ⟨⟨by decide +kernel, by decide +kernel⟩, List.mem_of_getElem? (i := 927) (by decide +kernel), List.mem_of_getElem? (i := 1325) (by decide +kernel), List.mem_of_getElem? (i := 1326) (by decide +kernel)⟩
theorem lw_p66 : lw_okq (⟨"SmallerOutModel", "isRest", "(I)Z"⟩, 57) := ⟨⟨by decide +kernel, by decide +kernel⟩, List.mem_of_getElem? (i := 927) (by decide +kernel), List.mem_of_getElem? (i := 1329) (by decide +kernel), List.mem_of_getElem? (i := 1330) (by decide +kernel)⟩
theorem lw_p67 : lw_okq (⟨"SmallerOutModel", "isGoal", "(II)Z"⟩, 57) := ⟨⟨by decide +kernel, by decide +kernel⟩, List.mem_of_getElem? (i := 927) (by decide +kernel), List.mem_of_getElem? (i := 1341) (by decide +kernel), List.mem_of_getElem? (i := 1342) (by decide +kernel)⟩
theorem lw_p68 : lw_okq (⟨"SmallerOutModel", "goal", "(II)V"⟩, 57) := ⟨⟨by decide +kernel, by decide +kernel⟩, List.mem_of_getElem? (i := 927) (by decide +kernel), List.mem_of_getElem? (i := 1345) (by decide +kernel), List.mem_of_getElem? (i := 1346) (by decide +kernel)⟩
theorem lw_p69 : lw_okq (⟨"SmallerOutModel", "draw", "(I)I"⟩, 57) := ⟨⟨by decide +kernel, by decide +kernel⟩, List.mem_of_getElem? (i := 927) (by decide +kernel), List.mem_of_getElem? (i := 1372) (by decide +kernel), List.mem_of_getElem? (i := 1373) (by decide +kernel)⟩
theorem lw_p70 : lw_okq (⟨"SmallerOutModel", "rowFault", "(I)I"⟩, 57) := ⟨⟨by decide +kernel, by decide +kernel⟩, List.mem_of_getElem? (i := 927) (by decide +kernel), List.mem_of_getElem? (i := 1387) (by decide +kernel), List.mem_of_getElem? (i := 1388) (by decide +kernel)⟩
theorem lw_p71 : lw_okq (⟨"SmallerOutModel", "isBody", "(I)Z"⟩, 57) := ⟨⟨by decide +kernel, by decide +kernel⟩, List.mem_of_getElem? (i := 927) (by decide +kernel), List.mem_of_getElem? (i := 1415) (by decide +kernel), List.mem_of_getElem? (i := 1416) (by decide +kernel)⟩
theorem lw_p72 : lw_okq (⟨"SmallerOutModel", "letting", "(II)I"⟩, 57) := ⟨⟨by decide +kernel, by decide +kernel⟩, List.mem_of_getElem? (i := 927) (by decide +kernel), List.mem_of_getElem? (i := 1419) (by decide +kernel), List.mem_of_getElem? (i := 1420) (by decide +kernel)⟩
theorem lw_p73 : lw_okq (⟨"SmallerOutModel", "ran", "(I)V"⟩, 57) := ⟨⟨by decide +kernel, by decide +kernel⟩, List.mem_of_getElem? (i := 927) (by decide +kernel), List.mem_of_getElem? (i := 1426) (by decide +kernel), List.mem_of_getElem? (i := 1427) (by decide +kernel)⟩
theorem lw_p74 : lw_okq (⟨"SmallerOutModel", "plainLets", "(II)I"⟩, 57) := ⟨⟨by decide +kernel, by decide +kernel⟩, List.mem_of_getElem? (i := 927) (by decide +kernel), List.mem_of_getElem? (i := 1430) (by decide +kernel), List.mem_of_getElem? (i := 1431) (by decide +kernel)⟩
theorem lw_p75 : lw_okq (⟨"SmallerOutModel", "toldLets", "(II)I"⟩, 57) := ⟨⟨by decide +kernel, by decide +kernel⟩, List.mem_of_getElem? (i := 927) (by decide +kernel), List.mem_of_getElem? (i := 1434) (by decide +kernel), List.mem_of_getElem? (i := 1435) (by decide +kernel)⟩
theorem lw_p76 : lw_okq (⟨"SmallerOutModel", "barring", "(II)I"⟩, 57) := ⟨⟨by decide +kernel, by decide +kernel⟩, List.mem_of_getElem? (i := 927) (by decide +kernel), List.mem_of_getElem? (i := 1438) (by decide +kernel), List.mem_of_getElem? (i := 1439) (by decide +kernel)⟩
theorem lw_p77 : lw_okq (⟨"SmallerOutModel", "downBars", "(II)I"⟩, 57) := ⟨⟨by decide +kernel, by decide +kernel⟩, List.mem_of_getElem? (i := 927) (by decide +kernel), List.mem_of_getElem? (i := 1442) (by decide +kernel), List.mem_of_getElem? (i := 1443) (by decide +kernel)⟩
theorem lw_p78 : lw_okq (⟨"SmallerOutModel", "plainBars", "(II)I"⟩, 57) := ⟨⟨by decide +kernel, by decide +kernel⟩, List.mem_of_getElem? (i := 927) (by decide +kernel), List.mem_of_getElem? (i := 1446) (by decide +kernel), List.mem_of_getElem? (i := 1447) (by decide +kernel)⟩
theorem lw_p79 : lw_okq (⟨"SmallerOutModel", "turning", "(II)I"⟩, 57) := ⟨⟨by decide +kernel, by decide +kernel⟩, List.mem_of_getElem? (i := 927) (by decide +kernel), List.mem_of_getElem? (i := 1450) (by decide +kernel), List.mem_of_getElem? (i := 1451) (by decide +kernel)⟩
def lw_privs_5 : List (MethodName × Nat) := [(⟨"SmallerOutModel", "longest", "()I"⟩, 57), (⟨"SmallerOutModel", "leads", "(II)V"⟩, 57), (⟨"SmallerOutModel", "isRest", "(I)Z"⟩, 57), (⟨"SmallerOutModel", "isGoal", "(II)Z"⟩, 57), (⟨"SmallerOutModel", "goal", "(II)V"⟩, 57), (⟨"SmallerOutModel", "draw", "(I)I"⟩, 57), (⟨"SmallerOutModel", "rowFault", "(I)I"⟩, 57), (⟨"SmallerOutModel", "isBody", "(I)Z"⟩, 57), (⟨"SmallerOutModel", "letting", "(II)I"⟩, 57), (⟨"SmallerOutModel", "ran", "(I)V"⟩, 57), (⟨"SmallerOutModel", "plainLets", "(II)I"⟩, 57), (⟨"SmallerOutModel", "toldLets", "(II)I"⟩, 57), (⟨"SmallerOutModel", "barring", "(II)I"⟩, 57), (⟨"SmallerOutModel", "downBars", "(II)I"⟩, 57), (⟨"SmallerOutModel", "plainBars", "(II)I"⟩, 57), (⟨"SmallerOutModel", "turning", "(II)I"⟩, 57)]
theorem lw_r5 : ∀ q ∈ lw_privs_5, lw_okq q := List.forall_mem_cons.mpr ⟨lw_p64, List.forall_mem_cons.mpr ⟨lw_p65, List.forall_mem_cons.mpr ⟨lw_p66, List.forall_mem_cons.mpr ⟨lw_p67, List.forall_mem_cons.mpr ⟨lw_p68, List.forall_mem_cons.mpr ⟨lw_p69, List.forall_mem_cons.mpr ⟨lw_p70, List.forall_mem_cons.mpr ⟨lw_p71, List.forall_mem_cons.mpr ⟨lw_p72, List.forall_mem_cons.mpr ⟨lw_p73, List.forall_mem_cons.mpr ⟨lw_p74, List.forall_mem_cons.mpr ⟨lw_p75, List.forall_mem_cons.mpr ⟨lw_p76, List.forall_mem_cons.mpr ⟨lw_p77, List.forall_mem_cons.mpr ⟨lw_p78, List.forall_mem_cons.mpr ⟨lw_p79, fun _ h => absurd h List.not_mem_nil⟩⟩⟩⟩⟩⟩⟩⟩⟩⟩⟩⟩⟩⟩⟩⟩
theorem lw_p80 : lw_okq (⟨"SmallerOutModel", "alikeTurns", "(II)I"⟩, 57) := ⟨⟨by decide +kernel, by decide +kernel⟩, List.mem_of_getElem? (i := 927) (by decide +kernel), List.mem_of_getElem? (i := 1454) (by decide +kernel), List.mem_of_getElem? (i := 1455) (by decide +kernel)⟩
theorem lw_p81 : lw_okq (⟨"SmallerOutModel", "plainTurns", "(II)I"⟩, 57) := ⟨⟨by decide +kernel, by decide +kernel⟩, List.mem_of_getElem? (i := 927) (by decide +kernel), List.mem_of_getElem? (i := 1458) (by decide +kernel), List.mem_of_getElem? (i := 1459) (by decide +kernel)⟩
theorem lw_p82 : lw_okq (⟨"SmallerOutModel", "telling", "(II)I"⟩, 57) := ⟨⟨by decide +kernel, by decide +kernel⟩, List.mem_of_getElem? (i := 927) (by decide +kernel), List.mem_of_getElem? (i := 1462) (by decide +kernel), List.mem_of_getElem? (i := 1463) (by decide +kernel)⟩
theorem lw_p83 : lw_okq (⟨"SmallerOutModel", "plainTells", "(II)I"⟩, 57) := ⟨⟨by decide +kernel, by decide +kernel⟩, List.mem_of_getElem? (i := 927) (by decide +kernel), List.mem_of_getElem? (i := 1466) (by decide +kernel), List.mem_of_getElem? (i := 1467) (by decide +kernel)⟩
theorem lw_p84 : lw_okq (⟨"SmallerOutModel", "whyNoPlace", "(II)I"⟩, 57) := ⟨⟨by decide +kernel, by decide +kernel⟩, List.mem_of_getElem? (i := 927) (by decide +kernel), List.mem_of_getElem? (i := 1486) (by decide +kernel), List.mem_of_getElem? (i := 1487) (by decide +kernel)⟩
def lw_privs_6 : List (MethodName × Nat) := [(⟨"SmallerOutModel", "alikeTurns", "(II)I"⟩, 57), (⟨"SmallerOutModel", "plainTurns", "(II)I"⟩, 57), (⟨"SmallerOutModel", "telling", "(II)I"⟩, 57), (⟨"SmallerOutModel", "plainTells", "(II)I"⟩, 57), (⟨"SmallerOutModel", "whyNoPlace", "(II)I"⟩, 57)]
theorem lw_r6 : ∀ q ∈ lw_privs_6, lw_okq q := List.forall_mem_cons.mpr ⟨lw_p80, List.forall_mem_cons.mpr ⟨lw_p81, List.forall_mem_cons.mpr ⟨lw_p82, List.forall_mem_cons.mpr ⟨lw_p83, List.forall_mem_cons.mpr ⟨lw_p84, fun _ h => absurd h List.not_mem_nil⟩⟩⟩⟩⟩
def lw_privs : List (MethodName × Nat) := lw_privs_1 ++ (lw_privs_2 ++ (lw_privs_3 ++ (lw_privs_4 ++ (lw_privs_5 ++ (lw_privs_6)))))
def lw_tbl : List Cond := k2_sels lw_privs ++ tables_1
theorem lw_privs_ok : ∀ q ∈ lw_privs, lw_okq q := by
  show ∀ q ∈ lw_privs_1 ++ (lw_privs_2 ++ (lw_privs_3 ++ (lw_privs_4 ++ (lw_privs_5 ++ (lw_privs_6))))), lw_okq q
  exact List.forall_mem_append.mpr ⟨lw_r1, List.forall_mem_append.mpr ⟨lw_r2, List.forall_mem_append.mpr ⟨lw_r3, List.forall_mem_append.mpr ⟨lw_r4, List.forall_mem_append.mpr ⟨lw_r5, lw_r6⟩⟩⟩⟩⟩
def RX0 : String := "SmallerOut$Acts"
def TX0 : u_T := fun k => match k with
  | 0 => ("SmallerOut$Acts", "kinds", "[I", true)
  | 1 => ("SmallerOut$Acts", "bodies", "I", false)
  | 2 => ("SmallerOut$Acts", "numbers", "[I", true)
  | 3 => ("SmallerOut$Acts", "ran", "I", false)
  | _ => ("SmallerOut$Acts", "self", "I", false)
def tyX0 : Nat → FieldType := fun k => match k with
  | 0 => .array .int
  | 1 => .int
  | 2 => .array .int
  | 3 => .int
  | _ => .int
abbrev wsX00 : List Cond := u_ws RX0 TX0 5
theorem nmX0 : ∀ a, a < 5 → ∀ b, b < 5 → a ≠ b → (TX0 a).2.1 ≠ (TX0 b).2.1 := by decide +kernel
theorem tyX0_ok : ∀ k, k < 5 → parseFieldDescriptor (TX0 k).2.2.1 = some (tyX0 k) := by decide +kernel
abbrev cX0_init : ByteArray := prog_2_method_1_code
def yX0_init : MethodName := ⟨RX0, "<init>", "()V"⟩
abbrev cX0_hasBody : ByteArray := prog_2_method_2_code
def yX0_hasBody : MethodName := ⟨RX0, "hasBody", "(I)Z"⟩
abbrev cX0_addBody : ByteArray := prog_2_method_3_code
def yX0_addBody : MethodName := ⟨RX0, "addBody", "(I)I"⟩
abbrev cX0_kindOf : ByteArray := prog_2_method_4_code
def yX0_kindOf : MethodName := ⟨RX0, "kindOf", "(I)I"⟩
abbrev cX0_isUnder : ByteArray := prog_2_method_5_code
def yX0_isUnder : MethodName := ⟨RX0, "isUnder", "(II)Z"⟩
abbrev cX0_traced : ByteArray := prog_2_method_6_code
def yX0_traced : MethodName := ⟨RX0, "traced", "()I"⟩
abbrev cX0_perform : ByteArray := prog_2_method_7_code
def yX0_perform : MethodName := ⟨RX0, "perform", "(III)I"⟩
abbrev cX0_own : ByteArray := prog_2_method_8_code
def yX0_own : MethodName := ⟨RX0, "own", "(III)I"⟩
abbrev cX0_run : ByteArray := prog_2_method_9_code
def yX0_run : MethodName := ⟨RX0, "run", "(IIII)I"⟩
abbrev cX0_note : ByteArray := prog_2_method_10_code
def yX0_note : MethodName := ⟨RX0, "note", "(I)V"⟩
abbrev cX0_runUpper : ByteArray := prog_2_method_11_code
def yX0_runUpper : MethodName := ⟨RX0, "runUpper", "(III)I"⟩
abbrev cX0_runLower : ByteArray := prog_2_method_12_code
def yX0_runLower : MethodName := ⟨RX0, "runLower", "(III)I"⟩
def RX1 : String := "SmallerOut$Evening"
def TX1 : u_T := fun k => match k with
  | 0 => ("SmallerOut$Evening", "z", "I", false)
  | 1 => ("SmallerOut$Evening", "code", "I", false)
  | 2 => ("SmallerOut$Evening", "changed", "I", false)
  | _ => ("SmallerOut$Evening", "restedAfter", "I", false)
def tyX1 : Nat → FieldType := fun k => match k with
  | 0 => .int
  | 1 => .int
  | 2 => .int
  | _ => .int
abbrev wsX10 : List Cond := u_ws RX1 TX1 4
theorem nmX1 : ∀ a, a < 4 → ∀ b, b < 4 → a ≠ b → (TX1 a).2.1 ≠ (TX1 b).2.1 := by decide +kernel
theorem tyX1_ok : ∀ k, k < 4 → parseFieldDescriptor (TX1 k).2.2.1 = some (tyX1 k) := by decide +kernel
abbrev cX1_init : ByteArray := prog_3_method_1_code
def yX1_init : MethodName := ⟨RX1, "<init>", "()V"⟩
abbrev cX1_pass : ByteArray := prog_3_method_2_code
def yX1_pass : MethodName := ⟨RX1, "pass", "(LSmallerOut$Passes;LSmallerOut$Steps;III)V"⟩
abbrev cX1_tryOne : ByteArray := prog_3_method_3_code
def yX1_tryOne : MethodName := ⟨RX1, "tryOne", "(LSmallerOut$Passes;LSmallerOut$Steps;)Z"⟩
abbrev cX1_draw : ByteArray := prog_3_method_4_code
def yX1_draw : MethodName := ⟨RX1, "draw", "(I)I"⟩
abbrev cX1_oneOf : ByteArray := prog_3_method_5_code
def yX1_oneOf : MethodName := ⟨RX1, "oneOf", "(II)I"⟩
def RX2 : String := "SmallerOut$House"
def TX2 : u_T := fun k => match k with
  | 0 => ("SmallerOut$House", "rooms", "I", false)
  | 1 => ("SmallerOut$House", "doors", "I", false)
  | 2 => ("SmallerOut$House", "persons", "I", false)
  | 3 => ("SmallerOut$House", "wearer", "I", false)
  | 4 => ("SmallerOut$House", "add", "I", false)
  | 5 => ("SmallerOut$House", "from", "[I", true)
  | 6 => ("SmallerOut$House", "to", "[I", true)
  | 7 => ("SmallerOut$House", "kind", "[I", true)
  | 8 => ("SmallerOut$House", "size", "[I", true)
  | 9 => ("SmallerOut$House", "grows", "[I", true)
  | _ => ("SmallerOut$House", "place", "[I", true)
def tyX2 : Nat → FieldType := fun k => match k with
  | 0 => .int
  | 1 => .int
  | 2 => .int
  | 3 => .int
  | 4 => .int
  | 5 => .array .int
  | 6 => .array .int
  | 7 => .array .int
  | 8 => .array .int
  | 9 => .array .int
  | _ => .array .int
abbrev wsX20 : List Cond := u_ws RX2 TX2 11
theorem nmX2 : ∀ a, a < 11 → ∀ b, b < 11 → a ≠ b → (TX2 a).2.1 ≠ (TX2 b).2.1 := by decide +kernel
theorem tyX2_ok : ∀ k, k < 11 → parseFieldDescriptor (TX2 k).2.2.1 = some (tyX2 k) := by decide +kernel
abbrev cX2_init : ByteArray := prog_4_method_1_code
def yX2_init : MethodName := ⟨RX2, "<init>", "()V"⟩
abbrev cX2_hasRoom : ByteArray := prog_4_method_2_code
def yX2_hasRoom : MethodName := ⟨RX2, "hasRoom", "(I)Z"⟩
abbrev cX2_hasDoor : ByteArray := prog_4_method_3_code
def yX2_hasDoor : MethodName := ⟨RX2, "hasDoor", "(I)Z"⟩
abbrev cX2_hasPerson : ByteArray := prog_4_method_4_code
def yX2_hasPerson : MethodName := ⟨RX2, "hasPerson", "(I)Z"⟩
abbrev cX2_canCome : ByteArray := prog_4_method_5_code
def yX2_canCome : MethodName := ⟨RX2, "canCome", "(II)Z"⟩
abbrev cX2_addDoor : ByteArray := prog_4_method_6_code
def yX2_addDoor : MethodName := ⟨RX2, "addDoor", "(III)I"⟩
abbrev cX2_addPerson : ByteArray := prog_4_method_7_code
def yX2_addPerson : MethodName := ⟨RX2, "addPerson", "(II)I"⟩
abbrev cX2_height : ByteArray := prog_4_method_8_code
def yX2_height : MethodName := ⟨RX2, "height", "(III)I"⟩
abbrev cX2_whoIn : ByteArray := prog_4_method_9_code
def yX2_whoIn : MethodName := ⟨RX2, "whoIn", "(I)I"⟩
abbrev cX2_arrangement : ByteArray := prog_4_method_10_code
def yX2_arrangement : MethodName := ⟨RX2, "arrangement", "()I"⟩
abbrev cX2_number : ByteArray := prog_4_method_11_code
def yX2_number : MethodName := ⟨RX2, "number", "(II)I"⟩
abbrev cX2_canBecome : ByteArray := prog_4_method_12_code
def yX2_canBecome : MethodName := ⟨RX2, "canBecome", "(II)Z"⟩
abbrev cX2_setNumber : ByteArray := prog_4_method_13_code
def yX2_setNumber : MethodName := ⟨RX2, "setNumber", "(III)V"⟩
def RX3 : String := "SmallerOut$Image"
def TX3 : u_T := fun k => match k with
  | 0 => ("SmallerOut$Image", "place", "[I", true)
  | 1 => ("SmallerOut$Image", "known", "I", false)
  | 2 => ("SmallerOut$Image", "wearer", "I", false)
  | _ => ("SmallerOut$Image", "isThere", "Z", false)
def tyX3 : Nat → FieldType := fun k => match k with
  | 0 => .array .int
  | 1 => .int
  | 2 => .int
  | _ => .boolean
abbrev wsX30 : List Cond := u_ws RX3 TX3 4
theorem nmX3 : ∀ a, a < 4 → ∀ b, b < 4 → a ≠ b → (TX3 a).2.1 ≠ (TX3 b).2.1 := by decide +kernel
theorem tyX3_ok : ∀ k, k < 4 → parseFieldDescriptor (TX3 k).2.2.1 = some (tyX3 k) := by decide +kernel
abbrev cX3_init : ByteArray := prog_5_method_1_code
def yX3_init : MethodName := ⟨RX3, "<init>", "()V"⟩
abbrev cX3_take : ByteArray := prog_5_method_2_code
def yX3_take : MethodName := ⟨RX3, "take", "(LSmallerOut$House;)I"⟩
abbrev cX3_layBack : ByteArray := prog_5_method_3_code
def yX3_layBack : MethodName := ⟨RX3, "layBack", "(LSmallerOut$House;)I"⟩
def RX4 : String := "SmallerOut$Law"
def TX4 : u_T := fun k => match k with
  | 0 => ("SmallerOut$Law", "signs", "[I", true)
  | 1 => ("SmallerOut$Law", "length", "I", false)
  | 2 => ("SmallerOut$Law", "stack", "[I", true)
  | _ => ("SmallerOut$Law", "high", "I", false)
def tyX4 : Nat → FieldType := fun k => match k with
  | 0 => .array .int
  | 1 => .int
  | 2 => .array .int
  | _ => .int
abbrev wsX40 : List Cond := u_ws RX4 TX4 4
theorem nmX4 : ∀ a, a < 4 → ∀ b, b < 4 → a ≠ b → (TX4 a).2.1 ≠ (TX4 b).2.1 := by decide +kernel
theorem tyX4_ok : ∀ k, k < 4 → parseFieldDescriptor (TX4 k).2.2.1 = some (tyX4 k) := by decide +kernel
abbrev cX4_init : ByteArray := prog_6_method_1_code
def yX4_init : MethodName := ⟨RX4, "<init>", "()V"⟩
abbrev cX4_becomes : ByteArray := prog_6_method_2_code
def yX4_becomes : MethodName := ⟨RX4, "becomes", "([II)V"⟩
abbrev cX4_isTold : ByteArray := prog_6_method_3_code
def yX4_isTold : MethodName := ⟨RX4, "isTold", "()Z"⟩
abbrev cX4_value : ByteArray := prog_6_method_4_code
def yX4_value : MethodName := ⟨RX4, "value", "(IIIIII)I"⟩
abbrev cX4_endOfLine : ByteArray := prog_6_method_5_code
def yX4_endOfLine : MethodName := ⟨RX4, "endOfLine", "(I)I"⟩
abbrev cX4_work : ByteArray := prog_6_method_6_code
def yX4_work : MethodName := ⟨RX4, "work", "(I)V"⟩
abbrev cX4_joined : ByteArray := prog_6_method_7_code
def yX4_joined : MethodName := ⟨RX4, "joined", "(III)I"⟩
abbrev cX4_push : ByteArray := prog_6_method_8_code
def yX4_push : MethodName := ⟨RX4, "push", "(I)V"⟩
abbrev cX4_pop : ByteArray := prog_6_method_9_code
def yX4_pop : MethodName := ⟨RX4, "pop", "()I"⟩
def RX5 : String := "SmallerOut$Log"
def TX5 : u_T := fun k => match k with
  | 0 => ("SmallerOut$Log", "number", "[I", true)
  | 1 => ("SmallerOut$Log", "what", "[I", true)
  | 2 => ("SmallerOut$Log", "was", "[I", true)
  | 3 => ("SmallerOut$Log", "became", "[I", true)
  | 4 => ("SmallerOut$Log", "done", "I", false)
  | _ => ("SmallerOut$Log", "undone", "I", false)
def tyX5 : Nat → FieldType := fun k => match k with
  | 0 => .array .int
  | 1 => .array .int
  | 2 => .array .int
  | 3 => .array .int
  | 4 => .int
  | _ => .int
abbrev wsX50 : List Cond := u_ws RX5 TX5 6
theorem nmX5 : ∀ a, a < 6 → ∀ b, b < 6 → a ≠ b → (TX5 a).2.1 ≠ (TX5 b).2.1 := by decide +kernel
theorem tyX5_ok : ∀ k, k < 6 → parseFieldDescriptor (TX5 k).2.2.1 = some (tyX5 k) := by decide +kernel
abbrev cX5_init : ByteArray := prog_7_method_1_code
def yX5_init : MethodName := ⟨RX5, "<init>", "()V"⟩
abbrev cX5_write : ByteArray := prog_7_method_2_code
def yX5_write : MethodName := ⟨RX5, "write", "(IIII)V"⟩
abbrev cX5_forgetOldest : ByteArray := prog_7_method_3_code
def yX5_forgetOldest : MethodName := ⟨RX5, "forgetOldest", "()V"⟩
abbrev cX5_takeBack : ByteArray := prog_7_method_4_code
def yX5_takeBack : MethodName := ⟨RX5, "takeBack", "(LSmallerOut$House;)V"⟩
abbrev cX5_doAgain : ByteArray := prog_7_method_5_code
def yX5_doAgain : MethodName := ⟨RX5, "doAgain", "(LSmallerOut$House;)V"⟩
def RX6 : String := "SmallerOut$Passes"
def TX6 : u_T := fun k => match k with
  | 0 => ("SmallerOut$Passes", "house", "LSmallerOut$House;", true)
  | 1 => ("SmallerOut$Passes", "law", "LSmallerOut$Law;", true)
  | 2 => ("SmallerOut$Passes", "from", "[I", true)
  | 3 => ("SmallerOut$Passes", "to", "[I", true)
  | 4 => ("SmallerOut$Passes", "height", "[I", true)
  | _ => ("SmallerOut$Passes", "partners", "[I", true)
def tyX6 : Nat → FieldType := fun k => match k with
  | 0 => .object "SmallerOut$House"
  | 1 => .object "SmallerOut$Law"
  | 2 => .array .int
  | 3 => .array .int
  | 4 => .array .int
  | _ => .array .int
abbrev wsX60 : List Cond := u_ws RX6 TX6 6
theorem nmX6 : ∀ a, a < 6 → ∀ b, b < 6 → a ≠ b → (TX6 a).2.1 ≠ (TX6 b).2.1 := by decide +kernel
theorem tyX6_ok : ∀ k, k < 6 → parseFieldDescriptor (TX6 k).2.2.1 = some (tyX6 k) := by decide +kernel
abbrev cX6_init : ByteArray := prog_8_method_1_code
def yX6_init : MethodName := ⟨RX6, "<init>", "(LSmallerOut$House;LSmallerOut$Law;)V"⟩
abbrev cX6_look : ByteArray := prog_8_method_2_code
def yX6_look : MethodName := ⟨RX6, "look", "(III)V"⟩
abbrev cX6_weigh : ByteArray := prog_8_method_3_code
def yX6_weigh : MethodName := ⟨RX6, "weigh", "(III)V"⟩
abbrev cX6_partnersOf : ByteArray := prog_8_method_4_code
def yX6_partnersOf : MethodName := ⟨RX6, "partnersOf", "(II)I"⟩
abbrev cX6_onlyWith : ByteArray := prog_8_method_5_code
def yX6_onlyWith : MethodName := ⟨RX6, "onlyWith", "(I)V"⟩
abbrev cX6_isLawful : ByteArray := prog_8_method_6_code
def yX6_isLawful : MethodName := ⟨RX6, "isLawful", "(III)Z"⟩
abbrev cX6_mayBe : ByteArray := prog_8_method_7_code
def yX6_mayBe : MethodName := ⟨RX6, "mayBe", "(IIII)Z"⟩
abbrev cX6_changed : ByteArray := prog_8_method_8_code
def yX6_changed : MethodName := ⟨RX6, "changed", "(IIII)I"⟩
def RX7 : String := "SmallerOut$Search"
def TX7 : u_T := fun k => match k with
  | 0 => ("SmallerOut$Search", "steps", "LSmallerOut$Steps;", true)
  | 1 => ("SmallerOut$Search", "codes", "[I", true)
  | 2 => ("SmallerOut$Search", "distance", "[I", true)
  | 3 => ("SmallerOut$Search", "lead", "[I", true)
  | 4 => ("SmallerOut$Search", "waits", "[I", true)
  | 5 => ("SmallerOut$Search", "path", "[I", true)
  | 6 => ("SmallerOut$Search", "order", "[I", true)
  | 7 => ("SmallerOut$Search", "slots", "[I", true)
  | _ => ("SmallerOut$Search", "found", "I", false)
def tyX7 : Nat → FieldType := fun k => match k with
  | 0 => .object "SmallerOut$Steps"
  | 1 => .array .int
  | 2 => .array .int
  | 3 => .array .int
  | 4 => .array .int
  | 5 => .array .int
  | 6 => .array .int
  | 7 => .array .int
  | _ => .int
abbrev wsX70 : List Cond := u_ws RX7 TX7 9
theorem nmX7 : ∀ a, a < 9 → ∀ b, b < 9 → a ≠ b → (TX7 a).2.1 ≠ (TX7 b).2.1 := by decide +kernel
theorem tyX7_ok : ∀ k, k < 9 → parseFieldDescriptor (TX7 k).2.2.1 = some (tyX7 k) := by decide +kernel
abbrev cX7_init : ByteArray := prog_9_method_1_code
def yX7_init : MethodName := ⟨RX7, "<init>", "()V"⟩
abbrev cX7_spreadOut : ByteArray := prog_9_method_2_code
def yX7_spreadOut : MethodName := ⟨RX7, "spreadOut", "(LSmallerOut$Passes;I)V"⟩
abbrev cX7_fewestTill : ByteArray := prog_9_method_3_code
def yX7_fewestTill : MethodName := ⟨RX7, "fewestTill", "(LSmallerOut$Passes;III)I"⟩
abbrev cX7_find : ByteArray := prog_9_method_4_code
def yX7_find : MethodName := ⟨RX7, "find", "(LSmallerOut$Passes;III)I"⟩
abbrev cX7_forget : ByteArray := prog_9_method_5_code
def yX7_forget : MethodName := ⟨RX7, "forget", "()V"⟩
abbrev cX7_note : ByteArray := prog_9_method_6_code
def yX7_note : MethodName := ⟨RX7, "note", "(III)Z"⟩
abbrev cX7_placeOf : ByteArray := prog_9_method_7_code
def yX7_placeOf : MethodName := ⟨RX7, "placeOf", "(I)I"⟩
abbrev cX7_slotOf : ByteArray := prog_9_method_8_code
def yX7_slotOf : MethodName := ⟨RX7, "slotOf", "(I)I"⟩
abbrev cX7_rests : ByteArray := prog_9_method_9_code
def yX7_rests : MethodName := ⟨RX7, "rests", "(LSmallerOut$Passes;)I"⟩
abbrev cX7_longest : ByteArray := prog_9_method_10_code
def yX7_longest : MethodName := ⟨RX7, "longest", "(LSmallerOut$Passes;)I"⟩
abbrev cX7_countWays : ByteArray := prog_9_method_11_code
def yX7_countWays : MethodName := ⟨RX7, "countWays", "(LSmallerOut$Passes;)V"⟩
def RX8 : String := "SmallerOut$Shelf"
def TX8 : u_T := fun k => match k with
  | 0 => ("SmallerOut$Shelf", "bodyHeld", "I", false)
  | 1 => ("SmallerOut$Shelf", "sort", "I", false)
  | 2 => ("SmallerOut$Shelf", "length", "I", false)
  | _ => ("SmallerOut$Shelf", "elements", "[J", true)
def tyX8 : Nat → FieldType := fun k => match k with
  | 0 => .int
  | 1 => .int
  | 2 => .int
  | _ => .array .long
abbrev wsX80 : List Cond := u_ws RX8 TX8 4
theorem nmX8 : ∀ a, a < 4 → ∀ b, b < 4 → a ≠ b → (TX8 a).2.1 ≠ (TX8 b).2.1 := by decide +kernel
theorem tyX8_ok : ∀ k, k < 4 → parseFieldDescriptor (TX8 k).2.2.1 = some (tyX8 k) := by decide +kernel
abbrev cX8_init : ByteArray := prog_10_method_1_code
def yX8_init : MethodName := ⟨RX8, "<init>", "()V"⟩
abbrev cX8_isEmpty : ByteArray := prog_10_method_2_code
def yX8_isEmpty : MethodName := ⟨RX8, "isEmpty", "()Z"⟩
abbrev cX8_rowRefusal : ByteArray := prog_10_method_3_code
def yX8_rowRefusal : MethodName := ⟨RX8, "rowRefusal", "()I"⟩
abbrev cX8_bytesRefusal : ByteArray := prog_10_method_4_code
def yX8_bytesRefusal : MethodName := ⟨RX8, "bytesRefusal", "()I"⟩
abbrev cX8_holdBody : ByteArray := prog_10_method_5_code
def yX8_holdBody : MethodName := ⟨RX8, "holdBody", "(I)V"⟩
abbrev cX8_holdRow : ByteArray := prog_10_method_6_code
def yX8_holdRow : MethodName := ⟨RX8, "holdRow", "(II)V"⟩
abbrev cX8_hasPart : ByteArray := prog_10_method_7_code
def yX8_hasPart : MethodName := ⟨RX8, "hasPart", "(II)Z"⟩
abbrev cX8_at : ByteArray := prog_10_method_8_code
def yX8_at : MethodName := ⟨RX8, "at", "(I)J"⟩
abbrev cX8_set : ByteArray := prog_10_method_9_code
def yX8_set : MethodName := ⟨RX8, "set", "(IJ)V"⟩
abbrev cX8_narrowed : ByteArray := prog_10_method_10_code
def yX8_narrowed : MethodName := ⟨RX8, "narrowed", "(J)J"⟩
def RX9 : String := "SmallerOut$Steps"
def TX9 : u_T := fun k => match k with
  | 0 => ("SmallerOut$Steps", "move", "[I", true)
  | 1 => ("SmallerOut$Steps", "next", "[I", true)
  | 2 => ("SmallerOut$Steps", "inRoom", "[I", true)
  | _ => ("SmallerOut$Steps", "count", "I", false)
def tyX9 : Nat → FieldType := fun k => match k with
  | 0 => .array .int
  | 1 => .array .int
  | 2 => .array .int
  | _ => .int
abbrev wsX90 : List Cond := u_ws RX9 TX9 4
theorem nmX9 : ∀ a, a < 4 → ∀ b, b < 4 → a ≠ b → (TX9 a).2.1 ≠ (TX9 b).2.1 := by decide +kernel
theorem tyX9_ok : ∀ k, k < 4 → parseFieldDescriptor (TX9 k).2.2.1 = some (tyX9 k) := by decide +kernel
abbrev cX9_init : ByteArray := prog_11_method_1_code
def yX9_init : MethodName := ⟨RX9, "<init>", "()V"⟩
abbrev cX9_list : ByteArray := prog_11_method_2_code
def yX9_list : MethodName := ⟨RX9, "list", "(LSmallerOut$Passes;I)V"⟩
abbrev cX9_seat : ByteArray := prog_11_method_3_code
def yX9_seat : MethodName := ⟨RX9, "seat", "(II)V"⟩
abbrev cX9_listAt : ByteArray := prog_11_method_4_code
def yX9_listAt : MethodName := ⟨RX9, "listAt", "(LSmallerOut$Passes;II)V"⟩
def RX10 : String := "SmallerOut$Tape"
def TX10 : u_T := fun k => match k with
  | 0 => ("SmallerOut$Tape", "bytes", "[I", true)
  | 1 => ("SmallerOut$Tape", "length", "I", false)
  | 2 => ("SmallerOut$Tape", "draft", "[I", true)
  | 3 => ("SmallerOut$Tape", "drafted", "I", false)
  | 4 => ("SmallerOut$Tape", "at", "I", false)
  | _ => ("SmallerOut$Tape", "fault", "I", false)
def tyX10 : Nat → FieldType := fun k => match k with
  | 0 => .array .int
  | 1 => .int
  | 2 => .array .int
  | 3 => .int
  | 4 => .int
  | _ => .int
abbrev wsX100 : List Cond := u_ws RX10 TX10 6
theorem nmX10 : ∀ a, a < 6 → ∀ b, b < 6 → a ≠ b → (TX10 a).2.1 ≠ (TX10 b).2.1 := by decide +kernel
theorem tyX10_ok : ∀ k, k < 6 → parseFieldDescriptor (TX10 k).2.2.1 = some (tyX10 k) := by decide +kernel
abbrev cX10_init : ByteArray := prog_12_method_1_code
def yX10_init : MethodName := ⟨RX10, "<init>", "()V"⟩
abbrev cX10_take : ByteArray := prog_12_method_2_code
def yX10_take : MethodName := ⟨RX10, "take", "(I)Z"⟩
abbrev cX10_read : ByteArray := prog_12_method_3_code
def yX10_read : MethodName := ⟨RX10, "read", "()I"⟩
abbrev cX10_line : ByteArray := prog_12_method_4_code
def yX10_line : MethodName := ⟨RX10, "line", "()V"⟩
abbrev cX10_level : ByteArray := prog_12_method_5_code
def yX10_level : MethodName := ⟨RX10, "level", "(II)V"⟩
abbrev cX10_operand : ByteArray := prog_12_method_6_code
def yX10_operand : MethodName := ⟨RX10, "operand", "(I)V"⟩
abbrev cX10_number : ByteArray := prog_12_method_7_code
def yX10_number : MethodName := ⟨RX10, "number", "()V"⟩
abbrev cX10_isDigit : ByteArray := prog_12_method_8_code
def yX10_isDigit : MethodName := ⟨RX10, "isDigit", "(I)Z"⟩
abbrev cX10_isName : ByteArray := prog_12_method_9_code
def yX10_isName : MethodName := ⟨RX10, "isName", "(I)Z"⟩
abbrev cX10_isJoint : ByteArray := prog_12_method_10_code
def yX10_isJoint : MethodName := ⟨RX10, "isJoint", "(II)Z"⟩
abbrev cX10_next : ByteArray := prog_12_method_11_code
def yX10_next : MethodName := ⟨RX10, "next", "()I"⟩
abbrev cX10_fail : ByteArray := prog_12_method_12_code
def yX10_fail : MethodName := ⟨RX10, "fail", "()V"⟩
abbrev cX10_write : ByteArray := prog_12_method_13_code
def yX10_write : MethodName := ⟨RX10, "write", "(I)V"⟩
def RX11 : String := "SmallerOut"
def TX11 : u_T := fun k => match k with
  | 0 => ("SmallerOut", "house", "LSmallerOut$House;", true)
  | 1 => ("SmallerOut", "tape", "LSmallerOut$Tape;", true)
  | 2 => ("SmallerOut", "theLaw", "LSmallerOut$Law;", true)
  | 3 => ("SmallerOut", "passes", "LSmallerOut$Passes;", true)
  | 4 => ("SmallerOut", "search", "LSmallerOut$Search;", true)
  | 5 => ("SmallerOut", "evening", "LSmallerOut$Evening;", true)
  | 6 => ("SmallerOut", "kept", "LSmallerOut$Image;", true)
  | 7 => ("SmallerOut", "log", "LSmallerOut$Log;", true)
  | 8 => ("SmallerOut", "acts", "LSmallerOut$Acts;", true)
  | 9 => ("SmallerOut", "shelves", "[LSmallerOut$Shelf;", true)
  | 10 => ("SmallerOut", "changesLed", "I", false)
  | _ => ("SmallerOut", "latestLed", "I", false)
def tyX11 : Nat → FieldType := fun k => match k with
  | 0 => .object "SmallerOut$House"
  | 1 => .object "SmallerOut$Tape"
  | 2 => .object "SmallerOut$Law"
  | 3 => .object "SmallerOut$Passes"
  | 4 => .object "SmallerOut$Search"
  | 5 => .object "SmallerOut$Evening"
  | 6 => .object "SmallerOut$Image"
  | 7 => .object "SmallerOut$Log"
  | 8 => .object "SmallerOut$Acts"
  | 9 => .array (.object "SmallerOut$Shelf")
  | 10 => .int
  | _ => .int
abbrev wsX110 : List Cond := u_ws RX11 TX11 12
theorem nmX11 : ∀ a, a < 12 → ∀ b, b < 12 → a ≠ b → (TX11 a).2.1 ≠ (TX11 b).2.1 := by decide +kernel
theorem tyX11_ok : ∀ k, k < 12 → parseFieldDescriptor (TX11 k).2.2.1 = some (tyX11 k) := by decide +kernel
abbrev cX11_init : ByteArray := prog_1_method_1_code
def yX11_init : MethodName := ⟨RX11, "<init>", "()V"⟩
abbrev cX11_room : ByteArray := prog_1_method_2_code
def yX11_room : MethodName := ⟨RX11, "room", "()I"⟩
abbrev cX11_door : ByteArray := prog_1_method_3_code
def yX11_door : MethodName := ⟨RX11, "door", "(II)I"⟩
abbrev cX11_person : ByteArray := prog_1_method_4_code
def yX11_person : MethodName := ⟨RX11, "person", "(II)I"⟩
abbrev cX11_people : ByteArray := prog_1_method_5_code
def yX11_people : MethodName := ⟨RX11, "people", "(III)I"⟩
abbrev cX11_mend : ByteArray := prog_1_method_6_code
def yX11_mend : MethodName := ⟨RX11, "mend", "(III)I"⟩
abbrev cX11_wear : ByteArray := prog_1_method_7_code
def yX11_wear : MethodName := ⟨RX11, "wear", "(I)I"⟩
abbrev cX11_of : ByteArray := prog_1_method_8_code
def yX11_of : MethodName := ⟨RX11, "of", "(II)I"⟩
abbrev cX11_ofPerson : ByteArray := prog_1_method_9_code
def yX11_ofPerson : MethodName := ⟨RX11, "ofPerson", "(II)I"⟩
abbrev cX11_feed : ByteArray := prog_1_method_10_code
def yX11_feed : MethodName := ⟨RX11, "feed", "(I)I"⟩
abbrev cX11_law : ByteArray := prog_1_method_11_code
def yX11_law : MethodName := ⟨RX11, "law", "()I"⟩
abbrev cX11_may : ByteArray := prog_1_method_12_code
def yX11_may : MethodName := ⟨RX11, "may", "(II)I"⟩
abbrev cX11_changes : ByteArray := prog_1_method_13_code
def yX11_changes : MethodName := ⟨RX11, "changes", "(I)I"⟩
abbrev cX11_change : ByteArray := prog_1_method_14_code
def yX11_change : MethodName := ⟨RX11, "change", "(II)I"⟩
abbrev cX11_led : ByteArray := prog_1_method_15_code
def yX11_led : MethodName := ⟨RX11, "led", "(I)I"⟩
abbrev cX11_reach : ByteArray := prog_1_method_16_code
def yX11_reach : MethodName := ⟨RX11, "reach", "(I)I"⟩
abbrev cX11_canBe : ByteArray := prog_1_method_17_code
def yX11_canBe : MethodName := ⟨RX11, "canBe", "(I)I"⟩
abbrev cX11_fewest : ByteArray := prog_1_method_18_code
def yX11_fewest : MethodName := ⟨RX11, "fewest", "(III)I"⟩
abbrev cX11_first : ByteArray := prog_1_method_19_code
def yX11_first : MethodName := ⟨RX11, "first", "(II)I"⟩
abbrev cX11_turn : ByteArray := prog_1_method_20_code
def yX11_turn : MethodName := ⟨RX11, "turn", "(II)I"⟩
abbrev cX11_boots : ByteArray := prog_1_method_21_code
def yX11_boots : MethodName := ⟨RX11, "boots", "(III)I"⟩
abbrev cX11_month : ByteArray := prog_1_method_22_code
def yX11_month : MethodName := ⟨RX11, "month", "(II)I"⟩
abbrev cX11_isGoal : ByteArray := prog_1_method_23_code
def yX11_isGoal : MethodName := ⟨RX11, "isGoal", "(II)Z"⟩
abbrev cX11_fewestTo : ByteArray := prog_1_method_24_code
def yX11_fewestTo : MethodName := ⟨RX11, "fewestTo", "(II)I"⟩
abbrev cX11_tries : ByteArray := prog_1_method_25_code
def yX11_tries : MethodName := ⟨RX11, "tries", "(IIII)I"⟩
abbrev cX11_judge : ByteArray := prog_1_method_26_code
def yX11_judge : MethodName := ⟨RX11, "judge", "(I)I"⟩
abbrev cX11_seen : ByteArray := prog_1_method_27_code
def yX11_seen : MethodName := ⟨RX11, "seen", "(I)I"⟩
abbrev cX11_image : ByteArray := prog_1_method_28_code
def yX11_image : MethodName := ⟨RX11, "image", "()I"⟩
abbrev cX11_back : ByteArray := prog_1_method_29_code
def yX11_back : MethodName := ⟨RX11, "back", "()I"⟩
abbrev cX11_undo : ByteArray := prog_1_method_30_code
def yX11_undo : MethodName := ⟨RX11, "undo", "()I"⟩
abbrev cX11_redo : ByteArray := prog_1_method_31_code
def yX11_redo : MethodName := ⟨RX11, "redo", "()I"⟩
abbrev cX11_body : ByteArray := prog_1_method_32_code
def yX11_body : MethodName := ⟨RX11, "body", "(I)I"⟩
abbrev cX11_act : ByteArray := prog_1_method_33_code
def yX11_act : MethodName := ⟨RX11, "act", "(III)I"⟩
abbrev cX11_trace : ByteArray := prog_1_method_34_code
def yX11_trace : MethodName := ⟨RX11, "trace", "(I)I"⟩
abbrev cX11_keep : ByteArray := prog_1_method_35_code
def yX11_keep : MethodName := ⟨RX11, "keep", "(II)I"⟩
abbrev cX11_row : ByteArray := prog_1_method_36_code
def yX11_row : MethodName := ⟨RX11, "row", "(III)I"⟩
abbrev cX11_put : ByteArray := prog_1_method_37_code
def yX11_put : MethodName := ⟨RX11, "put", "(IIJ)I"⟩
abbrev cX11_element : ByteArray := prog_1_method_38_code
def yX11_element : MethodName := ⟨RX11, "element", "(II)J"⟩
abbrev cX11_elementRefusal : ByteArray := prog_1_method_39_code
def yX11_elementRefusal : MethodName := ⟨RX11, "elementRefusal", "(II)I"⟩
abbrev cX11_shift : ByteArray := prog_1_method_40_code
def yX11_shift : MethodName := ⟨RX11, "shift", "(IIIII)I"⟩
abbrev cX11_taken : ByteArray := prog_1_method_41_code
def yX11_taken : MethodName := ⟨RX11, "taken", "(II)I"⟩
abbrev cX11_count : ByteArray := prog_1_method_42_code
def yX11_count : MethodName := ⟨RX11, "count", "(I)I"⟩
abbrev cX11_isShelf : ByteArray := prog_1_method_43_code
def yX11_isShelf : MethodName := ⟨RX11, "isShelf", "(I)Z"⟩
abbrev cX11_roomIn : ByteArray := prog_1_method_44_code
def yX11_roomIn : MethodName := ⟨RX11, "roomIn", "(II)I"⟩
abbrev cX11_pattern : ByteArray := prog_1_method_45_code
def yX11_pattern : MethodName := ⟨RX11, "pattern", "(I)I"⟩
def RX12 : String := "SmallerOutModel"
def TX12 : u_T := fun k => match k with
  | 0 => ("SmallerOutModel", "code", "I", false)
  | 1 => ("SmallerOutModel", "rooms", "I", false)
  | 2 => ("SmallerOutModel", "doors", "I", false)
  | 3 => ("SmallerOutModel", "from1", "[I", true)
  | 4 => ("SmallerOutModel", "to1", "[I", true)
  | 5 => ("SmallerOutModel", "kindOf", "[I", true)
  | 6 => ("SmallerOutModel", "people", "I", false)
  | 7 => ("SmallerOutModel", "tall", "[I", true)
  | 8 => ("SmallerOutModel", "grows", "[I", true)
  | 9 => ("SmallerOutModel", "arranged", "I", false)
  | 10 => ("SmallerOutModel", "boots1", "I", false)
  | 11 => ("SmallerOutModel", "add", "I", false)
  | 12 => ("SmallerOutModel", "doneMany", "I", false)
  | 13 => ("SmallerOutModel", "undoneMany", "I", false)
  | 14 => ("SmallerOutModel", "changeOf", "[I", true)
  | 15 => ("SmallerOutModel", "changeAt", "[I", true)
  | 16 => ("SmallerOutModel", "before", "[I", true)
  | 17 => ("SmallerOutModel", "behind", "[I", true)
  | 18 => ("SmallerOutModel", "tape", "[B", true)
  | 19 => ("SmallerOutModel", "taped", "I", false)
  | 20 => ("SmallerOutModel", "here", "I", false)
  | 21 => ("SmallerOutModel", "fault", "I", false)
  | 22 => ("SmallerOutModel", "open", "I", false)
  | 23 => ("SmallerOutModel", "laid", "I", false)
  | 24 => ("SmallerOutModel", "act", "[B", true)
  | 25 => ("SmallerOutModel", "with", "[I", true)
  | 26 => ("SmallerOutModel", "lineMany", "[I", true)
  | 27 => ("SmallerOutModel", "testEnd", "[S", true)
  | 28 => ("SmallerOutModel", "lineEnd", "[S", true)
  | 29 => ("SmallerOutModel", "facts", "[I", true)
  | 30 => ("SmallerOutModel", "pile", "[I", true)
  | 31 => ("SmallerOutModel", "hasLaw", "Z", false)
  | 32 => ("SmallerOutModel", "may1", "[Z", true)
  | 33 => ("SmallerOutModel", "goesFrom", "[I", true)
  | 34 => ("SmallerOutModel", "goesTo", "[I", true)
  | 35 => ("SmallerOutModel", "changed", "I", false)
  | 36 => ("SmallerOutModel", "latest", "I", false)
  | 37 => ("SmallerOutModel", "far", "[S", true)
  | 38 => ("SmallerOutModel", "row", "[S", true)
  | 39 => ("SmallerOutModel", "comes", "[B", true)
  | 40 => ("SmallerOutModel", "met", "I", false)
  | 41 => ("SmallerOutModel", "goalMask", "I", false)
  | 42 => ("SmallerOutModel", "goalIs", "I", false)
  | 43 => ("SmallerOutModel", "farGoal", "I", false)
  | 44 => ("SmallerOutModel", "drawn", "I", false)
  | 45 => ("SmallerOutModel", "hasImage", "Z", false)
  | 46 => ("SmallerOutModel", "keptPeople", "I", false)
  | 47 => ("SmallerOutModel", "keptArranged", "I", false)
  | 48 => ("SmallerOutModel", "keptBoots", "I", false)
  | 49 => ("SmallerOutModel", "bodies", "I", false)
  | 50 => ("SmallerOutModel", "kind", "[I", true)
  | 51 => ("SmallerOutModel", "traces", "I", false)
  | 52 => ("SmallerOutModel", "traced", "[I", true)
  | 53 => ("SmallerOutModel", "holds", "[I", true)
  | 54 => ("SmallerOutModel", "size", "[I", true)
  | 55 => ("SmallerOutModel", "elements", "[J", true)
  | _ => ("SmallerOutModel", "shifted", "[J", true)
def tyX12 : Nat → FieldType := fun k => match k with
  | 0 => .int
  | 1 => .int
  | 2 => .int
  | 3 => .array .int
  | 4 => .array .int
  | 5 => .array .int
  | 6 => .int
  | 7 => .array .int
  | 8 => .array .int
  | 9 => .int
  | 10 => .int
  | 11 => .int
  | 12 => .int
  | 13 => .int
  | 14 => .array .int
  | 15 => .array .int
  | 16 => .array .int
  | 17 => .array .int
  | 18 => .array .byte
  | 19 => .int
  | 20 => .int
  | 21 => .int
  | 22 => .int
  | 23 => .int
  | 24 => .array .byte
  | 25 => .array .int
  | 26 => .array .int
  | 27 => .array .short
  | 28 => .array .short
  | 29 => .array .int
  | 30 => .array .int
  | 31 => .boolean
  | 32 => .array .boolean
  | 33 => .array .int
  | 34 => .array .int
  | 35 => .int
  | 36 => .int
  | 37 => .array .short
  | 38 => .array .short
  | 39 => .array .byte
  | 40 => .int
  | 41 => .int
  | 42 => .int
  | 43 => .int
  | 44 => .int
  | 45 => .boolean
  | 46 => .int
  | 47 => .int
  | 48 => .int
  | 49 => .int
  | 50 => .array .int
  | 51 => .int
  | 52 => .array .int
  | 53 => .array .int
  | 54 => .array .int
  | 55 => .array .long
  | _ => .array .long
abbrev wsX120 : List Cond := u_ws RX12 TX12 57
theorem nmX12 : ∀ a, a < 57 → ∀ b, b < 57 → a ≠ b → (TX12 a).2.1 ≠ (TX12 b).2.1 := by decide +kernel
theorem tyX12_ok : ∀ k, k < 57 → parseFieldDescriptor (TX12 k).2.2.1 = some (tyX12 k) := by decide +kernel
abbrev cX12_init : ByteArray := prog_14_method_1_code
def yX12_init : MethodName := ⟨RX12, "<init>", "()V"⟩
abbrev cX12_in : ByteArray := prog_14_method_3_code
def yX12_in : MethodName := ⟨RX12, "in", "(III)Z"⟩
abbrev cX12_bitsOf : ByteArray := prog_14_method_4_code
def yX12_bitsOf : MethodName := ⟨RX12, "bitsOf", "(I)I"⟩
abbrev cX12_isRoom : ByteArray := prog_14_method_5_code
def yX12_isRoom : MethodName := ⟨RX12, "isRoom", "(I)Z"⟩
abbrev cX12_isDoor : ByteArray := prog_14_method_6_code
def yX12_isDoor : MethodName := ⟨RX12, "isDoor", "(I)Z"⟩
abbrev cX12_isPerson : ByteArray := prog_14_method_7_code
def yX12_isPerson : MethodName := ⟨RX12, "isPerson", "(I)Z"⟩
abbrev cX12_roomIn : ByteArray := prog_14_method_8_code
def yX12_roomIn : MethodName := ⟨RX12, "roomIn", "(II)I"⟩
abbrev cX12_put1 : ByteArray := prog_14_method_9_code
def yX12_put1 : MethodName := ⟨RX12, "put1", "(III)I"⟩
abbrev cX12_room : ByteArray := prog_14_method_10_code
def yX12_room : MethodName := ⟨RX12, "room", "()I"⟩
abbrev cX12_door : ByteArray := prog_14_method_11_code
def yX12_door : MethodName := ⟨RX12, "door", "(II)I"⟩
abbrev cX12_addPerson : ByteArray := prog_14_method_12_code
def yX12_addPerson : MethodName := ⟨RX12, "addPerson", "(II)I"⟩
abbrev cX12_person : ByteArray := prog_14_method_13_code
def yX12_person : MethodName := ⟨RX12, "person", "(II)I"⟩
abbrev cX12_people : ByteArray := prog_14_method_14_code
def yX12_people : MethodName := ⟨RX12, "people", "(III)I"⟩
abbrev cX12_valueAt : ByteArray := prog_14_method_15_code
def yX12_valueAt : MethodName := ⟨RX12, "valueAt", "(II)I"⟩
abbrev cX12_lays : ByteArray := prog_14_method_16_code
def yX12_lays : MethodName := ⟨RX12, "lays", "(III)V"⟩
abbrev cX12_become : ByteArray := prog_14_method_17_code
def yX12_become : MethodName := ⟨RX12, "become", "(III)I"⟩
abbrev cX12_undo : ByteArray := prog_14_method_18_code
def yX12_undo : MethodName := ⟨RX12, "undo", "()I"⟩
abbrev cX12_redo : ByteArray := prog_14_method_19_code
def yX12_redo : MethodName := ⟨RX12, "redo", "()I"⟩
abbrev cX12_mend : ByteArray := prog_14_method_20_code
def yX12_mend : MethodName := ⟨RX12, "mend", "(III)I"⟩
abbrev cX12_wear : ByteArray := prog_14_method_21_code
def yX12_wear : MethodName := ⟨RX12, "wear", "(I)I"⟩
abbrev cX12_whoIn : ByteArray := prog_14_method_22_code
def yX12_whoIn : MethodName := ⟨RX12, "whoIn", "(I)I"⟩
abbrev cX12_of : ByteArray := prog_14_method_23_code
def yX12_of : MethodName := ⟨RX12, "of", "(II)I"⟩
abbrev cX12_feed : ByteArray := prog_14_method_24_code
def yX12_feed : MethodName := ⟨RX12, "feed", "(I)I"⟩
abbrev cX12_look : ByteArray := prog_14_method_25_code
def yX12_look : MethodName := ⟨RX12, "look", "()I"⟩
abbrev cX12_faulty : ByteArray := prog_14_method_26_code
def yX12_faulty : MethodName := ⟨RX12, "faulty", "()V"⟩
abbrev cX12_addStep : ByteArray := prog_14_method_27_code
def yX12_addStep : MethodName := ⟨RX12, "addStep", "(II)V"⟩
abbrev cX12_nameOf : ByteArray := prog_14_method_28_code
def yX12_nameOf : MethodName := ⟨RX12, "nameOf", "(I)I"⟩
abbrev cX12_opens : ByteArray := prog_14_method_29_code
def yX12_opens : MethodName := ⟨RX12, "opens", "()Z"⟩
abbrev cX12_figure : ByteArray := prog_14_method_30_code
def yX12_figure : MethodName := ⟨RX12, "figure", "()V"⟩
abbrev cX12_operand : ByteArray := prog_14_method_31_code
def yX12_operand : MethodName := ⟨RX12, "operand", "()V"⟩
abbrev cX12_product : ByteArray := prog_14_method_32_code
def yX12_product : MethodName := ⟨RX12, "product", "()V"⟩
abbrev cX12_sum : ByteArray := prog_14_method_33_code
def yX12_sum : MethodName := ⟨RX12, "sum", "()V"⟩
abbrev cX12_compared : ByteArray := prog_14_method_34_code
def yX12_compared : MethodName := ⟨RX12, "compared", "()V"⟩
abbrev cX12_both : ByteArray := prog_14_method_35_code
def yX12_both : MethodName := ⟨RX12, "both", "()V"⟩
abbrev cX12_either : ByteArray := prog_14_method_36_code
def yX12_either : MethodName := ⟨RX12, "either", "()V"⟩
abbrev cX12_line : ByteArray := prog_14_method_37_code
def yX12_line : MethodName := ⟨RX12, "line", "()V"⟩
abbrev cX12_readText : ByteArray := prog_14_method_38_code
def yX12_readText : MethodName := ⟨RX12, "readText", "(I)I"⟩
abbrev cX12_twoOf : ByteArray := prog_14_method_39_code
def yX12_twoOf : MethodName := ⟨RX12, "twoOf", "(III)I"⟩
abbrev cX12_worked : ByteArray := prog_14_method_40_code
def yX12_worked : MethodName := ⟨RX12, "worked", "(III)I"⟩
abbrev cX12_gives : ByteArray := prog_14_method_41_code
def yX12_gives : MethodName := ⟨RX12, "gives", "(I)I"⟩
abbrev cX12_law : ByteArray := prog_14_method_42_code
def yX12_law : MethodName := ⟨RX12, "law", "()I"⟩
abbrev cX12_height : ByteArray := prog_14_method_43_code
def yX12_height : MethodName := ⟨RX12, "height", "(III)I"⟩
abbrev cX12_asks : ByteArray := prog_14_method_44_code
def yX12_asks : MethodName := ⟨RX12, "asks", "(IZII)Z"⟩
abbrev cX12_findMay : ByteArray := prog_14_method_45_code
def yX12_findMay : MethodName := ⟨RX12, "findMay", "(III)V"⟩
abbrev cX12_findNow : ByteArray := prog_14_method_46_code
def yX12_findNow : MethodName := ⟨RX12, "findNow", "()V"⟩
abbrev cX12_can : ByteArray := prog_14_method_47_code
def yX12_can : MethodName := ⟨RX12, "can", "(IIII)Z"⟩
abbrev cX12_swapped : ByteArray := prog_14_method_48_code
def yX12_swapped : MethodName := ⟨RX12, "swapped", "(III)I"⟩
abbrev cX12_areTwo : ByteArray := prog_14_method_49_code
def yX12_areTwo : MethodName := ⟨RX12, "areTwo", "(I)Z"⟩
abbrev cX12_may : ByteArray := prog_14_method_50_code
def yX12_may : MethodName := ⟨RX12, "may", "(II)I"⟩
abbrev cX12_changes : ByteArray := prog_14_method_51_code
def yX12_changes : MethodName := ⟨RX12, "changes", "(I)I"⟩
abbrev cX12_change : ByteArray := prog_14_method_52_code
def yX12_change : MethodName := ⟨RX12, "change", "(II)I"⟩
abbrev cX12_led : ByteArray := prog_14_method_53_code
def yX12_led : MethodName := ⟨RX12, "led", "(I)I"⟩
abbrev cX12_meet : ByteArray := prog_14_method_54_code
def yX12_meet : MethodName := ⟨RX12, "meet", "(II)V"⟩
abbrev cX12_findAll : ByteArray := prog_14_method_55_code
def yX12_findAll : MethodName := ⟨RX12, "findAll", "(II)V"⟩
abbrev cX12_noGoal : ByteArray := prog_14_method_56_code
def yX12_noGoal : MethodName := ⟨RX12, "noGoal", "()V"⟩
abbrev cX12_goal : ByteArray := prog_14_method_57_code
def yX12_goal : MethodName := ⟨RX12, "goal", "(II)V"⟩
abbrev cX12_isRest : ByteArray := prog_14_method_58_code
def yX12_isRest : MethodName := ⟨RX12, "isRest", "(I)Z"⟩
abbrev cX12_longest : ByteArray := prog_14_method_59_code
def yX12_longest : MethodName := ⟨RX12, "longest", "()I"⟩
abbrev cX12_leads : ByteArray := prog_14_method_60_code
def yX12_leads : MethodName := ⟨RX12, "leads", "(II)V"⟩
abbrev cX12_reach : ByteArray := prog_14_method_61_code
def yX12_reach : MethodName := ⟨RX12, "reach", "(I)I"⟩
abbrev cX12_canBe : ByteArray := prog_14_method_62_code
def yX12_canBe : MethodName := ⟨RX12, "canBe", "(I)I"⟩
abbrev cX12_isGoal : ByteArray := prog_14_method_63_code
def yX12_isGoal : MethodName := ⟨RX12, "isGoal", "(II)Z"⟩
abbrev cX12_fewest : ByteArray := prog_14_method_64_code
def yX12_fewest : MethodName := ⟨RX12, "fewest", "(III)I"⟩
abbrev cX12_first : ByteArray := prog_14_method_65_code
def yX12_first : MethodName := ⟨RX12, "first", "(II)I"⟩
abbrev cX12_turn : ByteArray := prog_14_method_66_code
def yX12_turn : MethodName := ⟨RX12, "turn", "(II)I"⟩
abbrev cX12_boots : ByteArray := prog_14_method_67_code
def yX12_boots : MethodName := ⟨RX12, "boots", "(III)I"⟩
abbrev cX12_month : ByteArray := prog_14_method_68_code
def yX12_month : MethodName := ⟨RX12, "month", "(II)I"⟩
abbrev cX12_draw : ByteArray := prog_14_method_69_code
def yX12_draw : MethodName := ⟨RX12, "draw", "(I)I"⟩
abbrev cX12_countIn : ByteArray := prog_14_method_70_code
def yX12_countIn : MethodName := ⟨RX12, "countIn", "(III)I"⟩
abbrev cX12_oneIn : ByteArray := prog_14_method_71_code
def yX12_oneIn : MethodName := ⟨RX12, "oneIn", "(III)I"⟩
abbrev cX12_tries : ByteArray := prog_14_method_72_code
def yX12_tries : MethodName := ⟨RX12, "tries", "(IIII)I"⟩
abbrev cX12_rowFault : ByteArray := prog_14_method_73_code
def yX12_rowFault : MethodName := ⟨RX12, "rowFault", "(I)I"⟩
abbrev cX12_judge : ByteArray := prog_14_method_74_code
def yX12_judge : MethodName := ⟨RX12, "judge", "(I)I"⟩
abbrev cX12_seen : ByteArray := prog_14_method_75_code
def yX12_seen : MethodName := ⟨RX12, "seen", "(I)I"⟩
abbrev cX12_image : ByteArray := prog_14_method_76_code
def yX12_image : MethodName := ⟨RX12, "image", "()I"⟩
abbrev cX12_back : ByteArray := prog_14_method_77_code
def yX12_back : MethodName := ⟨RX12, "back", "()I"⟩
abbrev cX12_isBody : ByteArray := prog_14_method_78_code
def yX12_isBody : MethodName := ⟨RX12, "isBody", "(I)Z"⟩
abbrev cX12_ran : ByteArray := prog_14_method_79_code
def yX12_ran : MethodName := ⟨RX12, "ran", "(I)V"⟩
abbrev cX12_trace : ByteArray := prog_14_method_80_code
def yX12_trace : MethodName := ⟨RX12, "trace", "(I)I"⟩
abbrev cX12_body : ByteArray := prog_14_method_81_code
def yX12_body : MethodName := ⟨RX12, "body", "(I)I"⟩
abbrev cX12_isUnder : ByteArray := prog_14_method_82_code
def yX12_isUnder : MethodName := ⟨RX12, "isUnder", "(II)Z"⟩
abbrev cX12_plainLets : ByteArray := prog_14_method_83_code
def yX12_plainLets : MethodName := ⟨RX12, "plainLets", "(II)I"⟩
abbrev cX12_toldLets : ByteArray := prog_14_method_84_code
def yX12_toldLets : MethodName := ⟨RX12, "toldLets", "(II)I"⟩
abbrev cX12_letting : ByteArray := prog_14_method_85_code
def yX12_letting : MethodName := ⟨RX12, "letting", "(II)I"⟩
abbrev cX12_plainBars : ByteArray := prog_14_method_86_code
def yX12_plainBars : MethodName := ⟨RX12, "plainBars", "(II)I"⟩
abbrev cX12_downBars : ByteArray := prog_14_method_87_code
def yX12_downBars : MethodName := ⟨RX12, "downBars", "(II)I"⟩
abbrev cX12_barring : ByteArray := prog_14_method_88_code
def yX12_barring : MethodName := ⟨RX12, "barring", "(II)I"⟩
abbrev cX12_plainTurns : ByteArray := prog_14_method_89_code
def yX12_plainTurns : MethodName := ⟨RX12, "plainTurns", "(II)I"⟩
abbrev cX12_alikeTurns : ByteArray := prog_14_method_90_code
def yX12_alikeTurns : MethodName := ⟨RX12, "alikeTurns", "(II)I"⟩
abbrev cX12_turning : ByteArray := prog_14_method_91_code
def yX12_turning : MethodName := ⟨RX12, "turning", "(II)I"⟩
abbrev cX12_plainTells : ByteArray := prog_14_method_92_code
def yX12_plainTells : MethodName := ⟨RX12, "plainTells", "(II)I"⟩
abbrev cX12_telling : ByteArray := prog_14_method_93_code
def yX12_telling : MethodName := ⟨RX12, "telling", "(II)I"⟩
abbrev cX12_act : ByteArray := prog_14_method_94_code
def yX12_act : MethodName := ⟨RX12, "act", "(III)I"⟩
abbrev cX12_count : ByteArray := prog_14_method_95_code
def yX12_count : MethodName := ⟨RX12, "count", "(I)I"⟩
abbrev cX12_isShelf : ByteArray := prog_14_method_96_code
def yX12_isShelf : MethodName := ⟨RX12, "isShelf", "(I)Z"⟩
abbrev cX12_keep : ByteArray := prog_14_method_97_code
def yX12_keep : MethodName := ⟨RX12, "keep", "(II)I"⟩
abbrev cX12_row : ByteArray := prog_14_method_98_code
def yX12_row : MethodName := ⟨RX12, "row", "(III)I"⟩
abbrev cX12_whyNoPlace : ByteArray := prog_14_method_99_code
def yX12_whyNoPlace : MethodName := ⟨RX12, "whyNoPlace", "(II)I"⟩
abbrev cX12_put : ByteArray := prog_14_method_100_code
def yX12_put : MethodName := ⟨RX12, "put", "(IIJ)I"⟩
abbrev cX12_element : ByteArray := prog_14_method_101_code
def yX12_element : MethodName := ⟨RX12, "element", "(II)J"⟩
abbrev cX12_shift : ByteArray := prog_14_method_102_code
def yX12_shift : MethodName := ⟨RX12, "shift", "(IIIII)I"⟩
abbrev cX12_taken : ByteArray := prog_14_method_103_code
def yX12_taken : MethodName := ⟨RX12, "taken", "(II)I"⟩
def RJ6 : String := "java/lang/Integer"
abbrev cJ6_bitCount_0f7a4 : ByteArray := prog_15_method_49_code
def yJ6_bitCount_0f7a4 : MethodName := ⟨RJ6, "bitCount", "(I)I"⟩
def RJ9 : String := "java/lang/Math"
abbrev cJ9_max_7cf53 : ByteArray := prog_16_method_65_code
def yJ9_max_7cf53 : MethodName := ⟨RJ9, "max", "(II)I"⟩
abbrev cJ9_min_7cf53 : ByteArray := prog_16_method_69_code
def yJ9_min_7cf53 : MethodName := ⟨RJ9, "min", "(II)I"⟩
def RJ10 : String := "java/lang/System"
def RL : String := "SmallerOutLaw"
abbrev cL_law : ByteArray := code
abbrev am_cl : List vw_C := [(RX0, TX0, 5), (RX1, TX1, 4), (RX2, TX2, 11), (RX3, TX3, 4), (RX4, TX4, 4), (RX5, TX5, 6), (RX6, TX6, 6), (RX7, TX7, 9), (RX8, TX8, 4), (RX9, TX9, 4), (RX10, TX10, 6), (RX11, TX11, 12), (RX12, TX12, 57)]
def am_AW : List Cond := lw_tbl.filter goodWord
