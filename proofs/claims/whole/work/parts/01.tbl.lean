-- ===== PART A: goes FIRST, ahead of the names: the tables' words, and 'selects' of the private methods out of them =====
/-- a private method of a class that the tables say can be made, by its rows of tables_1 -/
def lw_okq (q : MethodName × Nat) : Prop := (q.1.cls ≠ "java/lang/invoke/MethodHandle" ∧ q.1.cls ≠ "java/lang/invoke/VarHandle") ∧ Cond.instantiable q.1.cls q.2 ∈ tables_1 ∧ Cond.privateMethod q.1 ∈ tables_1 ∧ Cond.instanceMethod q.1 ∈ tables_1
theorem lw_p0 : lw_okq (⟨"SaltFigures", "forget", "()V"⟩, 9) := ⟨⟨by decide +kernel, by decide +kernel⟩, List.mem_of_getElem? (i := 23) (by decide +kernel), List.mem_of_getElem? (i := 381) (by decide +kernel), List.mem_of_getElem? (i := 382) (by decide +kernel)⟩
theorem lw_p1 : lw_okq (⟨"SaltFigures", "canAct", "(III)Z"⟩, 9) := ⟨⟨by decide +kernel, by decide +kernel⟩, List.mem_of_getElem? (i := 23) (by decide +kernel), List.mem_of_getElem? (i := 417) (by decide +kernel), List.mem_of_getElem? (i := 418) (by decide +kernel)⟩
theorem lw_p2 : lw_okq (⟨"SaltFigures", "keep", "()V"⟩, 9) := ⟨⟨by decide +kernel, by decide +kernel⟩, List.mem_of_getElem? (i := 23) (by decide +kernel), List.mem_of_getElem? (i := 426) (by decide +kernel), List.mem_of_getElem? (i := 427) (by decide +kernel)⟩
theorem lw_p3 : lw_okq (⟨"SaltFigures", "keptAt", "(I)LSaltFigures$Figures;"⟩, 9) := ⟨⟨by decide +kernel, by decide +kernel⟩, List.mem_of_getElem? (i := 23) (by decide +kernel), List.mem_of_getElem? (i := 430) (by decide +kernel), List.mem_of_getElem? (i := 431) (by decide +kernel)⟩
theorem lw_p4 : lw_okq (⟨"SaltFigures$Days", "readWords", "(LSaltFigures$Figures;I)V"⟩, 4) := ⟨⟨by decide +kernel, by decide +kernel⟩, List.mem_of_getElem? (i := 256) (by decide +kernel), List.mem_of_getElem? (i := 456) (by decide +kernel), List.mem_of_getElem? (i := 457) (by decide +kernel)⟩
theorem lw_p5 : lw_okq (⟨"SaltFigures$Days", "usual", "(I)I"⟩, 4) := ⟨⟨by decide +kernel, by decide +kernel⟩, List.mem_of_getElem? (i := 256) (by decide +kernel), List.mem_of_getElem? (i := 466) (by decide +kernel), List.mem_of_getElem? (i := 467) (by decide +kernel)⟩
theorem lw_p6 : lw_okq (⟨"SaltFigures$Days", "weather", "(LSaltFigures$Figures;)I"⟩, 4) := ⟨⟨by decide +kernel, by decide +kernel⟩, List.mem_of_getElem? (i := 256) (by decide +kernel), List.mem_of_getElem? (i := 524) (by decide +kernel), List.mem_of_getElem? (i := 525) (by decide +kernel)⟩
theorem lw_p7 : lw_okq (⟨"SaltFigures$Days", "cattleCome", "(LSaltFigures$Figures;I)V"⟩, 4) := ⟨⟨by decide +kernel, by decide +kernel⟩, List.mem_of_getElem? (i := 256) (by decide +kernel), List.mem_of_getElem? (i := 536) (by decide +kernel), List.mem_of_getElem? (i := 537) (by decide +kernel)⟩
theorem lw_p8 : lw_okq (⟨"SaltFigures$Days", "runOff", "(LSaltFigures$Figures;I)V"⟩, 4) := ⟨⟨by decide +kernel, by decide +kernel⟩, List.mem_of_getElem? (i := 256) (by decide +kernel), List.mem_of_getElem? (i := 566) (by decide +kernel), List.mem_of_getElem? (i := 567) (by decide +kernel)⟩
theorem lw_p9 : lw_okq (⟨"SaltFigures$Reader", "next", "()V"⟩, 13) := ⟨⟨by decide +kernel, by decide +kernel⟩, List.mem_of_getElem? (i := 293) (by decide +kernel), List.mem_of_getElem? (i := 598) (by decide +kernel), List.mem_of_getElem? (i := 599) (by decide +kernel)⟩
theorem lw_p10 : lw_okq (⟨"SaltFigures$Reader", "keyword", "()I"⟩, 13) := ⟨⟨by decide +kernel, by decide +kernel⟩, List.mem_of_getElem? (i := 293) (by decide +kernel), List.mem_of_getElem? (i := 608) (by decide +kernel), List.mem_of_getElem? (i := 609) (by decide +kernel)⟩
theorem lw_p11 : lw_okq (⟨"SaltFigures$Reader", "begins", "(I)Z"⟩, 13) := ⟨⟨by decide +kernel, by decide +kernel⟩, List.mem_of_getElem? (i := 293) (by decide +kernel), List.mem_of_getElem? (i := 725) (by decide +kernel), List.mem_of_getElem? (i := 726) (by decide +kernel)⟩
theorem lw_p12 : lw_okq (⟨"SaltFigures$Reader", "fail", "(I)V"⟩, 13) := ⟨⟨by decide +kernel, by decide +kernel⟩, List.mem_of_getElem? (i := 293) (by decide +kernel), List.mem_of_getElem? (i := 729) (by decide +kernel), List.mem_of_getElem? (i := 730) (by decide +kernel)⟩
theorem lw_p13 : lw_okq (⟨"SaltFigures$Reader", "sum", "()V"⟩, 13) := ⟨⟨by decide +kernel, by decide +kernel⟩, List.mem_of_getElem? (i := 293) (by decide +kernel), List.mem_of_getElem? (i := 737) (by decide +kernel), List.mem_of_getElem? (i := 738) (by decide +kernel)⟩
theorem lw_p14 : lw_okq (⟨"SaltFigures$Reader", "operand", "()V"⟩, 13) := ⟨⟨by decide +kernel, by decide +kernel⟩, List.mem_of_getElem? (i := 293) (by decide +kernel), List.mem_of_getElem? (i := 741) (by decide +kernel), List.mem_of_getElem? (i := 742) (by decide +kernel)⟩
theorem lw_p15 : lw_okq (⟨"SaltFigures$Reader", "number", "(III)I"⟩, 13) := ⟨⟨by decide +kernel, by decide +kernel⟩, List.mem_of_getElem? (i := 293) (by decide +kernel), List.mem_of_getElem? (i := 749) (by decide +kernel), List.mem_of_getElem? (i := 750) (by decide +kernel)⟩
def lw_privs_1 : List (MethodName × Nat) := [(⟨"SaltFigures", "forget", "()V"⟩, 9), (⟨"SaltFigures", "canAct", "(III)Z"⟩, 9), (⟨"SaltFigures", "keep", "()V"⟩, 9), (⟨"SaltFigures", "keptAt", "(I)LSaltFigures$Figures;"⟩, 9), (⟨"SaltFigures$Days", "readWords", "(LSaltFigures$Figures;I)V"⟩, 4), (⟨"SaltFigures$Days", "usual", "(I)I"⟩, 4), (⟨"SaltFigures$Days", "weather", "(LSaltFigures$Figures;)I"⟩, 4), (⟨"SaltFigures$Days", "cattleCome", "(LSaltFigures$Figures;I)V"⟩, 4), (⟨"SaltFigures$Days", "runOff", "(LSaltFigures$Figures;I)V"⟩, 4), (⟨"SaltFigures$Reader", "next", "()V"⟩, 13), (⟨"SaltFigures$Reader", "keyword", "()I"⟩, 13), (⟨"SaltFigures$Reader", "begins", "(I)Z"⟩, 13), (⟨"SaltFigures$Reader", "fail", "(I)V"⟩, 13), (⟨"SaltFigures$Reader", "sum", "()V"⟩, 13), (⟨"SaltFigures$Reader", "operand", "()V"⟩, 13), (⟨"SaltFigures$Reader", "number", "(III)I"⟩, 13)]
theorem lw_r1 : ∀ q ∈ lw_privs_1, lw_okq q := List.forall_mem_cons.mpr ⟨lw_p0, List.forall_mem_cons.mpr ⟨lw_p1, List.forall_mem_cons.mpr ⟨lw_p2, List.forall_mem_cons.mpr ⟨lw_p3, List.forall_mem_cons.mpr ⟨lw_p4, List.forall_mem_cons.mpr ⟨lw_p5, List.forall_mem_cons.mpr ⟨lw_p6, List.forall_mem_cons.mpr ⟨lw_p7, List.forall_mem_cons.mpr ⟨lw_p8, List.forall_mem_cons.mpr ⟨lw_p9, List.forall_mem_cons.mpr ⟨lw_p10, List.forall_mem_cons.mpr ⟨lw_p11, List.forall_mem_cons.mpr ⟨lw_p12, List.forall_mem_cons.mpr ⟨lw_p13, List.forall_mem_cons.mpr ⟨lw_p14, List.forall_mem_cons.mpr ⟨lw_p15, fun _ h => absurd h List.not_mem_nil⟩⟩⟩⟩⟩⟩⟩⟩⟩⟩⟩⟩⟩⟩⟩⟩
theorem lw_p16 : lw_okq (⟨"SaltFigures$Reader", "condition", "(I)V"⟩, 13) := ⟨⟨by decide +kernel, by decide +kernel⟩, List.mem_of_getElem? (i := 293) (by decide +kernel), List.mem_of_getElem? (i := 757) (by decide +kernel), List.mem_of_getElem? (i := 758) (by decide +kernel)⟩
theorem lw_p17 : lw_okq (⟨"SaltFigures$Reader", "comparison", "(I)V"⟩, 13) := ⟨⟨by decide +kernel, by decide +kernel⟩, List.mem_of_getElem? (i := 293) (by decide +kernel), List.mem_of_getElem? (i := 761) (by decide +kernel), List.mem_of_getElem? (i := 762) (by decide +kernel)⟩
theorem lw_p18 : lw_okq (⟨"SaltFigures$Reader", "take", "(I)V"⟩, 13) := ⟨⟨by decide +kernel, by decide +kernel⟩, List.mem_of_getElem? (i := 293) (by decide +kernel), List.mem_of_getElem? (i := 765) (by decide +kernel), List.mem_of_getElem? (i := 766) (by decide +kernel)⟩
theorem lw_p19 : lw_okq (⟨"SaltFigures$Reader", "ends", "(IIII)V"⟩, 13) := ⟨⟨by decide +kernel, by decide +kernel⟩, List.mem_of_getElem? (i := 293) (by decide +kernel), List.mem_of_getElem? (i := 773) (by decide +kernel), List.mem_of_getElem? (i := 774) (by decide +kernel)⟩
theorem lw_p20 : lw_okq (⟨"SaltFigures$Reader", "whom", "(I)I"⟩, 13) := ⟨⟨by decide +kernel, by decide +kernel⟩, List.mem_of_getElem? (i := 293) (by decide +kernel), List.mem_of_getElem? (i := 781) (by decide +kernel), List.mem_of_getElem? (i := 782) (by decide +kernel)⟩
theorem lw_p21 : lw_okq (⟨"SaltFigures", "accept", "(I)V"⟩, 9) := ⟨⟨by decide +kernel, by decide +kernel⟩, List.mem_of_getElem? (i := 23) (by decide +kernel), List.mem_of_getElem? (i := 793) (by decide +kernel), List.mem_of_getElem? (i := 794) (by decide +kernel)⟩
theorem lw_p22 : lw_okq (⟨"SaltFigures$Texts", "takeHeirs", "([II)V"⟩, 5) := ⟨⟨by decide +kernel, by decide +kernel⟩, List.mem_of_getElem? (i := 94) (by decide +kernel), List.mem_of_getElem? (i := 807) (by decide +kernel), List.mem_of_getElem? (i := 808) (by decide +kernel)⟩
theorem lw_p23 : lw_okq (⟨"SaltFigures$Texts", "countHeirs", "()V"⟩, 5) := ⟨⟨by decide +kernel, by decide +kernel⟩, List.mem_of_getElem? (i := 94) (by decide +kernel), List.mem_of_getElem? (i := 811) (by decide +kernel), List.mem_of_getElem? (i := 812) (by decide +kernel)⟩
theorem lw_p24 : lw_okq (⟨"SaltFigures$Thinker", "lowest", "()I"⟩, 3) := ⟨⟨by decide +kernel, by decide +kernel⟩, List.mem_of_getElem? (i := 277) (by decide +kernel), List.mem_of_getElem? (i := 950) (by decide +kernel), List.mem_of_getElem? (i := 951) (by decide +kernel)⟩
theorem lw_p25 : lw_okq (⟨"SaltFigures$Thinker", "nextCorner", "(I)I"⟩, 3) := ⟨⟨by decide +kernel, by decide +kernel⟩, List.mem_of_getElem? (i := 277) (by decide +kernel), List.mem_of_getElem? (i := 954) (by decide +kernel), List.mem_of_getElem? (i := 955) (by decide +kernel)⟩
theorem lw_p26 : lw_okq (⟨"SaltFigures$Thinker", "apart", "(II)I"⟩, 3) := ⟨⟨by decide +kernel, by decide +kernel⟩, List.mem_of_getElem? (i := 277) (by decide +kernel), List.mem_of_getElem? (i := 959) (by decide +kernel), List.mem_of_getElem? (i := 960) (by decide +kernel)⟩
theorem lw_p27 : lw_okq (⟨"SaltFigures$Thinker", "laidWays", "()I"⟩, 3) := ⟨⟨by decide +kernel, by decide +kernel⟩, List.mem_of_getElem? (i := 277) (by decide +kernel), List.mem_of_getElem? (i := 994) (by decide +kernel), List.mem_of_getElem? (i := 995) (by decide +kernel)⟩
theorem lw_p28 : lw_okq (⟨"SaltFigures$Thinker", "weighed", "(I)I"⟩, 3) := ⟨⟨by decide +kernel, by decide +kernel⟩, List.mem_of_getElem? (i := 277) (by decide +kernel), List.mem_of_getElem? (i := 998) (by decide +kernel), List.mem_of_getElem? (i := 999) (by decide +kernel)⟩
theorem lw_p29 : lw_okq (⟨"SaltFigures$Thinker", "atOnce", "(I)I"⟩, 3) := ⟨⟨by decide +kernel, by decide +kernel⟩, List.mem_of_getElem? (i := 277) (by decide +kernel), List.mem_of_getElem? (i := 1049) (by decide +kernel), List.mem_of_getElem? (i := 1050) (by decide +kernel)⟩
theorem lw_p30 : lw_okq (⟨"SaltFigures$Thinker", "tellShortly", "(I)I"⟩, 3) := ⟨⟨by decide +kernel, by decide +kernel⟩, List.mem_of_getElem? (i := 277) (by decide +kernel), List.mem_of_getElem? (i := 1075) (by decide +kernel), List.mem_of_getElem? (i := 1076) (by decide +kernel)⟩
theorem lw_p31 : lw_okq (⟨"SaltFigures$Thinker", "isLit", "(II)Z"⟩, 3) := ⟨⟨by decide +kernel, by decide +kernel⟩, List.mem_of_getElem? (i := 277) (by decide +kernel), List.mem_of_getElem? (i := 1134) (by decide +kernel), List.mem_of_getElem? (i := 1135) (by decide +kernel)⟩
def lw_privs_2 : List (MethodName × Nat) := [(⟨"SaltFigures$Reader", "condition", "(I)V"⟩, 13), (⟨"SaltFigures$Reader", "comparison", "(I)V"⟩, 13), (⟨"SaltFigures$Reader", "take", "(I)V"⟩, 13), (⟨"SaltFigures$Reader", "ends", "(IIII)V"⟩, 13), (⟨"SaltFigures$Reader", "whom", "(I)I"⟩, 13), (⟨"SaltFigures", "accept", "(I)V"⟩, 9), (⟨"SaltFigures$Texts", "takeHeirs", "([II)V"⟩, 5), (⟨"SaltFigures$Texts", "countHeirs", "()V"⟩, 5), (⟨"SaltFigures$Thinker", "lowest", "()I"⟩, 3), (⟨"SaltFigures$Thinker", "nextCorner", "(I)I"⟩, 3), (⟨"SaltFigures$Thinker", "apart", "(II)I"⟩, 3), (⟨"SaltFigures$Thinker", "laidWays", "()I"⟩, 3), (⟨"SaltFigures$Thinker", "weighed", "(I)I"⟩, 3), (⟨"SaltFigures$Thinker", "atOnce", "(I)I"⟩, 3), (⟨"SaltFigures$Thinker", "tellShortly", "(I)I"⟩, 3), (⟨"SaltFigures$Thinker", "isLit", "(II)Z"⟩, 3)]
theorem lw_r2 : ∀ q ∈ lw_privs_2, lw_okq q := List.forall_mem_cons.mpr ⟨lw_p16, List.forall_mem_cons.mpr ⟨lw_p17, List.forall_mem_cons.mpr ⟨lw_p18, List.forall_mem_cons.mpr ⟨lw_p19, List.forall_mem_cons.mpr ⟨lw_p20, List.forall_mem_cons.mpr ⟨lw_p21, List.forall_mem_cons.mpr ⟨lw_p22, List.forall_mem_cons.mpr ⟨lw_p23, List.forall_mem_cons.mpr ⟨lw_p24, List.forall_mem_cons.mpr ⟨lw_p25, List.forall_mem_cons.mpr ⟨lw_p26, List.forall_mem_cons.mpr ⟨lw_p27, List.forall_mem_cons.mpr ⟨lw_p28, List.forall_mem_cons.mpr ⟨lw_p29, List.forall_mem_cons.mpr ⟨lw_p30, List.forall_mem_cons.mpr ⟨lw_p31, fun _ h => absurd h List.not_mem_nil⟩⟩⟩⟩⟩⟩⟩⟩⟩⟩⟩⟩⟩⟩⟩⟩
theorem lw_p32 : lw_okq (⟨"SaltFiguresModel", "isIn", "(III)Z"⟩, 69) := ⟨⟨by decide +kernel, by decide +kernel⟩, List.mem_of_getElem? (i := 1201) (by decide +kernel), List.mem_of_getElem? (i := 1427) (by decide +kernel), List.mem_of_getElem? (i := 1428) (by decide +kernel)⟩
theorem lw_p33 : lw_okq (⟨"SaltFiguresModel", "isPerson", "(I)Z"⟩, 69) := ⟨⟨by decide +kernel, by decide +kernel⟩, List.mem_of_getElem? (i := 1201) (by decide +kernel), List.mem_of_getElem? (i := 1435) (by decide +kernel), List.mem_of_getElem? (i := 1436) (by decide +kernel)⟩
theorem lw_p34 : lw_okq (⟨"SaltFiguresModel", "isAlive", "(I)Z"⟩, 69) := ⟨⟨by decide +kernel, by decide +kernel⟩, List.mem_of_getElem? (i := 1201) (by decide +kernel), List.mem_of_getElem? (i := 1439) (by decide +kernel), List.mem_of_getElem? (i := 1440) (by decide +kernel)⟩
theorem lw_p35 : lw_okq (⟨"SaltFiguresModel", "types", "(I)V"⟩, 69) := ⟨⟨by decide +kernel, by decide +kernel⟩, List.mem_of_getElem? (i := 1201) (by decide +kernel), List.mem_of_getElem? (i := 1447) (by decide +kernel), List.mem_of_getElem? (i := 1448) (by decide +kernel)⟩
theorem lw_p36 : lw_okq (⟨"SaltFiguresModel", "readsText", "(I)I"⟩, 69) := ⟨⟨by decide +kernel, by decide +kernel⟩, List.mem_of_getElem? (i := 1201) (by decide +kernel), List.mem_of_getElem? (i := 1459) (by decide +kernel), List.mem_of_getElem? (i := 1460) (by decide +kernel)⟩
theorem lw_p37 : lw_okq (⟨"SaltFiguresModel", "reads", "()V"⟩, 69) := ⟨⟨by decide +kernel, by decide +kernel⟩, List.mem_of_getElem? (i := 1201) (by decide +kernel), List.mem_of_getElem? (i := 1463) (by decide +kernel), List.mem_of_getElem? (i := 1464) (by decide +kernel)⟩
theorem lw_p38 : lw_okq (⟨"SaltFiguresModel", "raw", "(I)I"⟩, 69) := ⟨⟨by decide +kernel, by decide +kernel⟩, List.mem_of_getElem? (i := 1201) (by decide +kernel), List.mem_of_getElem? (i := 1467) (by decide +kernel), List.mem_of_getElem? (i := 1468) (by decide +kernel)⟩
theorem lw_p39 : lw_okq (⟨"SaltFiguresModel", "isLetter", "(I)Z"⟩, 69) := ⟨⟨by decide +kernel, by decide +kernel⟩, List.mem_of_getElem? (i := 1201) (by decide +kernel), List.mem_of_getElem? (i := 1471) (by decide +kernel), List.mem_of_getElem? (i := 1472) (by decide +kernel)⟩
theorem lw_p40 : lw_okq (⟨"SaltFiguresModel", "wordAt", "(II)I"⟩, 69) := ⟨⟨by decide +kernel, by decide +kernel⟩, List.mem_of_getElem? (i := 1201) (by decide +kernel), List.mem_of_getElem? (i := 1475) (by decide +kernel), List.mem_of_getElem? (i := 1476) (by decide +kernel)⟩
theorem lw_p41 : lw_okq (⟨"SaltFiguresModel", "isDigit", "(I)Z"⟩, 69) := ⟨⟨by decide +kernel, by decide +kernel⟩, List.mem_of_getElem? (i := 1201) (by decide +kernel), List.mem_of_getElem? (i := 1479) (by decide +kernel), List.mem_of_getElem? (i := 1480) (by decide +kernel)⟩
theorem lw_p42 : lw_okq (⟨"SaltFiguresModel", "isMarkSign", "(I)Z"⟩, 69) := ⟨⟨by decide +kernel, by decide +kernel⟩, List.mem_of_getElem? (i := 1201) (by decide +kernel), List.mem_of_getElem? (i := 1483) (by decide +kernel), List.mem_of_getElem? (i := 1484) (by decide +kernel)⟩
theorem lw_p43 : lw_okq (⟨"SaltFiguresModel", "readTable", "()I"⟩, 69) := ⟨⟨by decide +kernel, by decide +kernel⟩, List.mem_of_getElem? (i := 1201) (by decide +kernel), List.mem_of_getElem? (i := 1487) (by decide +kernel), List.mem_of_getElem? (i := 1488) (by decide +kernel)⟩
theorem lw_p44 : lw_okq (⟨"SaltFiguresModel", "isWord", "(I)Z"⟩, 69) := ⟨⟨by decide +kernel, by decide +kernel⟩, List.mem_of_getElem? (i := 1201) (by decide +kernel), List.mem_of_getElem? (i := 1491) (by decide +kernel), List.mem_of_getElem? (i := 1492) (by decide +kernel)⟩
theorem lw_p45 : lw_okq (⟨"SaltFiguresModel", "errs", "(I)I"⟩, 69) := ⟨⟨by decide +kernel, by decide +kernel⟩, List.mem_of_getElem? (i := 1201) (by decide +kernel), List.mem_of_getElem? (i := 1495) (by decide +kernel), List.mem_of_getElem? (i := 1496) (by decide +kernel)⟩
theorem lw_p46 : lw_okq (⟨"SaltFiguresModel", "readTold", "(III)I"⟩, 69) := ⟨⟨by decide +kernel, by decide +kernel⟩, List.mem_of_getElem? (i := 1201) (by decide +kernel), List.mem_of_getElem? (i := 1499) (by decide +kernel), List.mem_of_getElem? (i := 1500) (by decide +kernel)⟩
theorem lw_p47 : lw_okq (⟨"SaltFiguresModel", "readNumber", "(II)I"⟩, 69) := ⟨⟨by decide +kernel, by decide +kernel⟩, List.mem_of_getElem? (i := 1201) (by decide +kernel), List.mem_of_getElem? (i := 1503) (by decide +kernel), List.mem_of_getElem? (i := 1504) (by decide +kernel)⟩
def lw_privs_3 : List (MethodName × Nat) := [(⟨"SaltFiguresModel", "isIn", "(III)Z"⟩, 69), (⟨"SaltFiguresModel", "isPerson", "(I)Z"⟩, 69), (⟨"SaltFiguresModel", "isAlive", "(I)Z"⟩, 69), (⟨"SaltFiguresModel", "types", "(I)V"⟩, 69), (⟨"SaltFiguresModel", "readsText", "(I)I"⟩, 69), (⟨"SaltFiguresModel", "reads", "()V"⟩, 69), (⟨"SaltFiguresModel", "raw", "(I)I"⟩, 69), (⟨"SaltFiguresModel", "isLetter", "(I)Z"⟩, 69), (⟨"SaltFiguresModel", "wordAt", "(II)I"⟩, 69), (⟨"SaltFiguresModel", "isDigit", "(I)Z"⟩, 69), (⟨"SaltFiguresModel", "isMarkSign", "(I)Z"⟩, 69), (⟨"SaltFiguresModel", "readTable", "()I"⟩, 69), (⟨"SaltFiguresModel", "isWord", "(I)Z"⟩, 69), (⟨"SaltFiguresModel", "errs", "(I)I"⟩, 69), (⟨"SaltFiguresModel", "readTold", "(III)I"⟩, 69), (⟨"SaltFiguresModel", "readNumber", "(II)I"⟩, 69)]
theorem lw_r3 : ∀ q ∈ lw_privs_3, lw_okq q := List.forall_mem_cons.mpr ⟨lw_p32, List.forall_mem_cons.mpr ⟨lw_p33, List.forall_mem_cons.mpr ⟨lw_p34, List.forall_mem_cons.mpr ⟨lw_p35, List.forall_mem_cons.mpr ⟨lw_p36, List.forall_mem_cons.mpr ⟨lw_p37, List.forall_mem_cons.mpr ⟨lw_p38, List.forall_mem_cons.mpr ⟨lw_p39, List.forall_mem_cons.mpr ⟨lw_p40, List.forall_mem_cons.mpr ⟨lw_p41, List.forall_mem_cons.mpr ⟨lw_p42, List.forall_mem_cons.mpr ⟨lw_p43, List.forall_mem_cons.mpr ⟨lw_p44, List.forall_mem_cons.mpr ⟨lw_p45, List.forall_mem_cons.mpr ⟨lw_p46, List.forall_mem_cons.mpr ⟨lw_p47, fun _ h => absurd h List.not_mem_nil⟩⟩⟩⟩⟩⟩⟩⟩⟩⟩⟩⟩⟩⟩⟩⟩
theorem lw_p48 : lw_okq (⟨"SaltFiguresModel", "readMark", "(I)I"⟩, 69) := ⟨⟨by decide +kernel, by decide +kernel⟩, List.mem_of_getElem? (i := 1201) (by decide +kernel), List.mem_of_getElem? (i := 1507) (by decide +kernel), List.mem_of_getElem? (i := 1508) (by decide +kernel)⟩
theorem lw_p49 : lw_okq (⟨"SaltFiguresModel", "isSign", "(I)Z"⟩, 69) := ⟨⟨by decide +kernel, by decide +kernel⟩, List.mem_of_getElem? (i := 1201) (by decide +kernel), List.mem_of_getElem? (i := 1511) (by decide +kernel), List.mem_of_getElem? (i := 1512) (by decide +kernel)⟩
theorem lw_p50 : lw_okq (⟨"SaltFiguresModel", "readWeather", "()I"⟩, 69) := ⟨⟨by decide +kernel, by decide +kernel⟩, List.mem_of_getElem? (i := 1201) (by decide +kernel), List.mem_of_getElem? (i := 1515) (by decide +kernel), List.mem_of_getElem? (i := 1516) (by decide +kernel)⟩
theorem lw_p51 : lw_okq (⟨"SaltFiguresModel", "readDeed", "(I)I"⟩, 69) := ⟨⟨by decide +kernel, by decide +kernel⟩, List.mem_of_getElem? (i := 1201) (by decide +kernel), List.mem_of_getElem? (i := 1519) (by decide +kernel), List.mem_of_getElem? (i := 1520) (by decide +kernel)⟩
theorem lw_p52 : lw_okq (⟨"SaltFiguresModel", "kindOfDeed", "()I"⟩, 69) := ⟨⟨by decide +kernel, by decide +kernel⟩, List.mem_of_getElem? (i := 1201) (by decide +kernel), List.mem_of_getElem? (i := 1523) (by decide +kernel), List.mem_of_getElem? (i := 1524) (by decide +kernel)⟩
theorem lw_p53 : lw_okq (⟨"SaltFiguresModel", "readHeirs", "()I"⟩, 69) := ⟨⟨by decide +kernel, by decide +kernel⟩, List.mem_of_getElem? (i := 1201) (by decide +kernel), List.mem_of_getElem? (i := 1527) (by decide +kernel), List.mem_of_getElem? (i := 1528) (by decide +kernel)⟩
theorem lw_p54 : lw_okq (⟨"SaltFiguresModel", "readHeir", "()I"⟩, 69) := ⟨⟨by decide +kernel, by decide +kernel⟩, List.mem_of_getElem? (i := 1201) (by decide +kernel), List.mem_of_getElem? (i := 1531) (by decide +kernel), List.mem_of_getElem? (i := 1532) (by decide +kernel)⟩
theorem lw_p55 : lw_okq (⟨"SaltFiguresModel", "readLaw", "()I"⟩, 69) := ⟨⟨by decide +kernel, by decide +kernel⟩, List.mem_of_getElem? (i := 1201) (by decide +kernel), List.mem_of_getElem? (i := 1535) (by decide +kernel), List.mem_of_getElem? (i := 1536) (by decide +kernel)⟩
theorem lw_p56 : lw_okq (⟨"SaltFiguresModel", "isLineWord", "()Z"⟩, 69) := ⟨⟨by decide +kernel, by decide +kernel⟩, List.mem_of_getElem? (i := 1201) (by decide +kernel), List.mem_of_getElem? (i := 1539) (by decide +kernel), List.mem_of_getElem? (i := 1540) (by decide +kernel)⟩
theorem lw_p57 : lw_okq (⟨"SaltFiguresModel", "readSum", "()I"⟩, 69) := ⟨⟨by decide +kernel, by decide +kernel⟩, List.mem_of_getElem? (i := 1201) (by decide +kernel), List.mem_of_getElem? (i := 1543) (by decide +kernel), List.mem_of_getElem? (i := 1544) (by decide +kernel)⟩
theorem lw_p58 : lw_okq (⟨"SaltFiguresModel", "readProduct", "()I"⟩, 69) := ⟨⟨by decide +kernel, by decide +kernel⟩, List.mem_of_getElem? (i := 1201) (by decide +kernel), List.mem_of_getElem? (i := 1547) (by decide +kernel), List.mem_of_getElem? (i := 1548) (by decide +kernel)⟩
theorem lw_p59 : lw_okq (⟨"SaltFiguresModel", "readUnit", "()I"⟩, 69) := ⟨⟨by decide +kernel, by decide +kernel⟩, List.mem_of_getElem? (i := 1201) (by decide +kernel), List.mem_of_getElem? (i := 1551) (by decide +kernel), List.mem_of_getElem? (i := 1552) (by decide +kernel)⟩
theorem lw_p60 : lw_okq (⟨"SaltFiguresModel", "canAsk", "(I)Z"⟩, 69) := ⟨⟨by decide +kernel, by decide +kernel⟩, List.mem_of_getElem? (i := 1201) (by decide +kernel), List.mem_of_getElem? (i := 1555) (by decide +kernel), List.mem_of_getElem? (i := 1556) (by decide +kernel)⟩
theorem lw_p61 : lw_okq (⟨"SaltFiguresModel", "emits", "(II)V"⟩, 69) := ⟨⟨by decide +kernel, by decide +kernel⟩, List.mem_of_getElem? (i := 1201) (by decide +kernel), List.mem_of_getElem? (i := 1559) (by decide +kernel), List.mem_of_getElem? (i := 1560) (by decide +kernel)⟩
theorem lw_p62 : lw_okq (⟨"SaltFiguresModel", "readAny", "()I"⟩, 69) := ⟨⟨by decide +kernel, by decide +kernel⟩, List.mem_of_getElem? (i := 1201) (by decide +kernel), List.mem_of_getElem? (i := 1563) (by decide +kernel), List.mem_of_getElem? (i := 1564) (by decide +kernel)⟩
theorem lw_p63 : lw_okq (⟨"SaltFiguresModel", "waits", "(I)V"⟩, 69) := ⟨⟨by decide +kernel, by decide +kernel⟩, List.mem_of_getElem? (i := 1201) (by decide +kernel), List.mem_of_getElem? (i := 1567) (by decide +kernel), List.mem_of_getElem? (i := 1568) (by decide +kernel)⟩
def lw_privs_4 : List (MethodName × Nat) := [(⟨"SaltFiguresModel", "readMark", "(I)I"⟩, 69), (⟨"SaltFiguresModel", "isSign", "(I)Z"⟩, 69), (⟨"SaltFiguresModel", "readWeather", "()I"⟩, 69), (⟨"SaltFiguresModel", "readDeed", "(I)I"⟩, 69), (⟨"SaltFiguresModel", "kindOfDeed", "()I"⟩, 69), (⟨"SaltFiguresModel", "readHeirs", "()I"⟩, 69), (⟨"SaltFiguresModel", "readHeir", "()I"⟩, 69), (⟨"SaltFiguresModel", "readLaw", "()I"⟩, 69), (⟨"SaltFiguresModel", "isLineWord", "()Z"⟩, 69), (⟨"SaltFiguresModel", "readSum", "()I"⟩, 69), (⟨"SaltFiguresModel", "readProduct", "()I"⟩, 69), (⟨"SaltFiguresModel", "readUnit", "()I"⟩, 69), (⟨"SaltFiguresModel", "canAsk", "(I)Z"⟩, 69), (⟨"SaltFiguresModel", "emits", "(II)V"⟩, 69), (⟨"SaltFiguresModel", "readAny", "()I"⟩, 69), (⟨"SaltFiguresModel", "waits", "(I)V"⟩, 69)]
theorem lw_r4 : ∀ q ∈ lw_privs_4, lw_okq q := List.forall_mem_cons.mpr ⟨lw_p48, List.forall_mem_cons.mpr ⟨lw_p49, List.forall_mem_cons.mpr ⟨lw_p50, List.forall_mem_cons.mpr ⟨lw_p51, List.forall_mem_cons.mpr ⟨lw_p52, List.forall_mem_cons.mpr ⟨lw_p53, List.forall_mem_cons.mpr ⟨lw_p54, List.forall_mem_cons.mpr ⟨lw_p55, List.forall_mem_cons.mpr ⟨lw_p56, List.forall_mem_cons.mpr ⟨lw_p57, List.forall_mem_cons.mpr ⟨lw_p58, List.forall_mem_cons.mpr ⟨lw_p59, List.forall_mem_cons.mpr ⟨lw_p60, List.forall_mem_cons.mpr ⟨lw_p61, List.forall_mem_cons.mpr ⟨lw_p62, List.forall_mem_cons.mpr ⟨lw_p63, fun _ h => absurd h List.not_mem_nil⟩⟩⟩⟩⟩⟩⟩⟩⟩⟩⟩⟩⟩⟩⟩⟩
theorem lw_p64 : lw_okq (⟨"SaltFiguresModel", "readCompared", "()I"⟩, 69) := ⟨⟨by decide +kernel, by decide +kernel⟩, List.mem_of_getElem? (i := 1201) (by decide +kernel), List.mem_of_getElem? (i := 1571) (by decide +kernel), List.mem_of_getElem? (i := 1572) (by decide +kernel)⟩
theorem lw_p65 : lw_okq (⟨"SaltFiguresModel", "settles", "(I)V"⟩, 69) := ⟨⟨by decide +kernel, by decide +kernel⟩, List.mem_of_getElem? (i := 1201) (by decide +kernel), List.mem_of_getElem? (i := 1575) (by decide +kernel), List.mem_of_getElem? (i := 1576) (by decide +kernel)⟩
theorem lw_p66 : lw_okq (⟨"SaltFiguresModel", "takesLaw", "(I)V"⟩, 69) := ⟨⟨by decide +kernel, by decide +kernel⟩, List.mem_of_getElem? (i := 1201) (by decide +kernel), List.mem_of_getElem? (i := 1579) (by decide +kernel), List.mem_of_getElem? (i := 1580) (by decide +kernel)⟩
theorem lw_p67 : lw_okq (⟨"SaltFiguresModel", "takesOther", "(II)V"⟩, 69) := ⟨⟨by decide +kernel, by decide +kernel⟩, List.mem_of_getElem? (i := 1201) (by decide +kernel), List.mem_of_getElem? (i := 1583) (by decide +kernel), List.mem_of_getElem? (i := 1584) (by decide +kernel)⟩
theorem lw_p68 : lw_okq (⟨"SaltFiguresModel", "takesTable", "(I)V"⟩, 69) := ⟨⟨by decide +kernel, by decide +kernel⟩, List.mem_of_getElem? (i := 1201) (by decide +kernel), List.mem_of_getElem? (i := 1587) (by decide +kernel), List.mem_of_getElem? (i := 1588) (by decide +kernel)⟩
theorem lw_p69 : lw_okq (⟨"SaltFiguresModel", "whoHas", "(I)I"⟩, 69) := ⟨⟨by decide +kernel, by decide +kernel⟩, List.mem_of_getElem? (i := 1201) (by decide +kernel), List.mem_of_getElem? (i := 1591) (by decide +kernel), List.mem_of_getElem? (i := 1592) (by decide +kernel)⟩
theorem lw_p70 : lw_okq (⟨"SaltFiguresModel", "seatOf", "(I)I"⟩, 69) := ⟨⟨by decide +kernel, by decide +kernel⟩, List.mem_of_getElem? (i := 1201) (by decide +kernel), List.mem_of_getElem? (i := 1595) (by decide +kernel), List.mem_of_getElem? (i := 1596) (by decide +kernel)⟩
theorem lw_p71 : lw_okq (⟨"SaltFiguresModel", "canAct", "(III)Z"⟩, 69) := ⟨⟨by decide +kernel, by decide +kernel⟩, List.mem_of_getElem? (i := 1201) (by decide +kernel), List.mem_of_getElem? (i := 1607) (by decide +kernel), List.mem_of_getElem? (i := 1608) (by decide +kernel)⟩
theorem lw_p72 : lw_okq (⟨"SaltFiguresModel", "keepsAhead", "()V"⟩, 69) := ⟨⟨by decide +kernel, by decide +kernel⟩, List.mem_of_getElem? (i := 1201) (by decide +kernel), List.mem_of_getElem? (i := 1611) (by decide +kernel), List.mem_of_getElem? (i := 1612) (by decide +kernel)⟩
theorem lw_p73 : lw_okq (⟨"SaltFiguresModel", "isSpilt", "(I)V"⟩, 69) := ⟨⟨by decide +kernel, by decide +kernel⟩, List.mem_of_getElem? (i := 1201) (by decide +kernel), List.mem_of_getElem? (i := 1615) (by decide +kernel), List.mem_of_getElem? (i := 1616) (by decide +kernel)⟩
theorem lw_p74 : lw_okq (⟨"SaltFiguresModel", "throwsOf", "(I)I"⟩, 69) := ⟨⟨by decide +kernel, by decide +kernel⟩, List.mem_of_getElem? (i := 1201) (by decide +kernel), List.mem_of_getElem? (i := 1619) (by decide +kernel), List.mem_of_getElem? (i := 1620) (by decide +kernel)⟩
theorem lw_p75 : lw_okq (⟨"SaltFiguresModel", "asks", "(I)V"⟩, 69) := ⟨⟨by decide +kernel, by decide +kernel⟩, List.mem_of_getElem? (i := 1201) (by decide +kernel), List.mem_of_getElem? (i := 1623) (by decide +kernel), List.mem_of_getElem? (i := 1624) (by decide +kernel)⟩
theorem lw_p76 : lw_okq (⟨"SaltFiguresModel", "besideOf", "(I)I"⟩, 69) := ⟨⟨by decide +kernel, by decide +kernel⟩, List.mem_of_getElem? (i := 1201) (by decide +kernel), List.mem_of_getElem? (i := 1627) (by decide +kernel), List.mem_of_getElem? (i := 1628) (by decide +kernel)⟩
theorem lw_p77 : lw_okq (⟨"SaltFiguresModel", "heirsOf", "(I)I"⟩, 69) := ⟨⟨by decide +kernel, by decide +kernel⟩, List.mem_of_getElem? (i := 1201) (by decide +kernel), List.mem_of_getElem? (i := 1631) (by decide +kernel), List.mem_of_getElem? (i := 1632) (by decide +kernel)⟩
theorem lw_p78 : lw_okq (⟨"SaltFiguresModel", "lawTells", "(III)I"⟩, 69) := ⟨⟨by decide +kernel, by decide +kernel⟩, List.mem_of_getElem? (i := 1201) (by decide +kernel), List.mem_of_getElem? (i := 1635) (by decide +kernel), List.mem_of_getElem? (i := 1636) (by decide +kernel)⟩
theorem lw_p79 : lw_okq (⟨"SaltFiguresModel", "lineOf", "(I)I"⟩, 69) := ⟨⟨by decide +kernel, by decide +kernel⟩, List.mem_of_getElem? (i := 1201) (by decide +kernel), List.mem_of_getElem? (i := 1639) (by decide +kernel), List.mem_of_getElem? (i := 1640) (by decide +kernel)⟩
def lw_privs_5 : List (MethodName × Nat) := [(⟨"SaltFiguresModel", "readCompared", "()I"⟩, 69), (⟨"SaltFiguresModel", "settles", "(I)V"⟩, 69), (⟨"SaltFiguresModel", "takesLaw", "(I)V"⟩, 69), (⟨"SaltFiguresModel", "takesOther", "(II)V"⟩, 69), (⟨"SaltFiguresModel", "takesTable", "(I)V"⟩, 69), (⟨"SaltFiguresModel", "whoHas", "(I)I"⟩, 69), (⟨"SaltFiguresModel", "seatOf", "(I)I"⟩, 69), (⟨"SaltFiguresModel", "canAct", "(III)Z"⟩, 69), (⟨"SaltFiguresModel", "keepsAhead", "()V"⟩, 69), (⟨"SaltFiguresModel", "isSpilt", "(I)V"⟩, 69), (⟨"SaltFiguresModel", "throwsOf", "(I)I"⟩, 69), (⟨"SaltFiguresModel", "asks", "(I)V"⟩, 69), (⟨"SaltFiguresModel", "besideOf", "(I)I"⟩, 69), (⟨"SaltFiguresModel", "heirsOf", "(I)I"⟩, 69), (⟨"SaltFiguresModel", "lawTells", "(III)I"⟩, 69), (⟨"SaltFiguresModel", "lineOf", "(I)I"⟩, 69)]
theorem lw_r5 : ∀ q ∈ lw_privs_5, lw_okq q := List.forall_mem_cons.mpr ⟨lw_p64, List.forall_mem_cons.mpr ⟨lw_p65, List.forall_mem_cons.mpr ⟨lw_p66, List.forall_mem_cons.mpr ⟨lw_p67, List.forall_mem_cons.mpr ⟨lw_p68, List.forall_mem_cons.mpr ⟨lw_p69, List.forall_mem_cons.mpr ⟨lw_p70, List.forall_mem_cons.mpr ⟨lw_p71, List.forall_mem_cons.mpr ⟨lw_p72, List.forall_mem_cons.mpr ⟨lw_p73, List.forall_mem_cons.mpr ⟨lw_p74, List.forall_mem_cons.mpr ⟨lw_p75, List.forall_mem_cons.mpr ⟨lw_p76, List.forall_mem_cons.mpr ⟨lw_p77, List.forall_mem_cons.mpr ⟨lw_p78, List.forall_mem_cons.mpr ⟨lw_p79, fun _ h => absurd h List.not_mem_nil⟩⟩⟩⟩⟩⟩⟩⟩⟩⟩⟩⟩⟩⟩⟩⟩
theorem lw_p80 : lw_okq (⟨"SaltFiguresModel", "runs", "(III)I"⟩, 69) := ⟨⟨by decide +kernel, by decide +kernel⟩, List.mem_of_getElem? (i := 1201) (by decide +kernel), List.mem_of_getElem? (i := 1643) (by decide +kernel), List.mem_of_getElem? (i := 1644) (by decide +kernel)⟩
theorem lw_p81 : lw_okq (⟨"SaltFiguresModel", "twoOf", "(III)I"⟩, 69) := ⟨⟨by decide +kernel, by decide +kernel⟩, List.mem_of_getElem? (i := 1201) (by decide +kernel), List.mem_of_getElem? (i := 1647) (by decide +kernel), List.mem_of_getElem? (i := 1648) (by decide +kernel)⟩
theorem lw_p82 : lw_okq (⟨"SaltFiguresModel", "held", "(III)I"⟩, 69) := ⟨⟨by decide +kernel, by decide +kernel⟩, List.mem_of_getElem? (i := 1201) (by decide +kernel), List.mem_of_getElem? (i := 1651) (by decide +kernel), List.mem_of_getElem? (i := 1652) (by decide +kernel)⟩
theorem lw_p83 : lw_okq (⟨"SaltFiguresModel", "gets", "(II)I"⟩, 69) := ⟨⟨by decide +kernel, by decide +kernel⟩, List.mem_of_getElem? (i := 1201) (by decide +kernel), List.mem_of_getElem? (i := 1655) (by decide +kernel), List.mem_of_getElem? (i := 1656) (by decide +kernel)⟩
theorem lw_p84 : lw_okq (⟨"SaltFiguresModel", "lesser", "(II)I"⟩, 69) := ⟨⟨by decide +kernel, by decide +kernel⟩, List.mem_of_getElem? (i := 1201) (by decide +kernel), List.mem_of_getElem? (i := 1659) (by decide +kernel), List.mem_of_getElem? (i := 1660) (by decide +kernel)⟩
theorem lw_p85 : lw_okq (⟨"SaltFiguresModel", "notes", "(III)V"⟩, 69) := ⟨⟨by decide +kernel, by decide +kernel⟩, List.mem_of_getElem? (i := 1201) (by decide +kernel), List.mem_of_getElem? (i := 1663) (by decide +kernel), List.mem_of_getElem? (i := 1664) (by decide +kernel)⟩
theorem lw_p86 : lw_okq (⟨"SaltFiguresModel", "isSwept", "(I)V"⟩, 69) := ⟨⟨by decide +kernel, by decide +kernel⟩, List.mem_of_getElem? (i := 1201) (by decide +kernel), List.mem_of_getElem? (i := 1667) (by decide +kernel), List.mem_of_getElem? (i := 1668) (by decide +kernel)⟩
theorem lw_p87 : lw_okq (⟨"SaltFiguresModel", "dies", "(I)V"⟩, 69) := ⟨⟨by decide +kernel, by decide +kernel⟩, List.mem_of_getElem? (i := 1201) (by decide +kernel), List.mem_of_getElem? (i := 1671) (by decide +kernel), List.mem_of_getElem? (i := 1672) (by decide +kernel)⟩
theorem lw_p88 : lw_okq (⟨"SaltFiguresModel", "goesBy", "()I"⟩, 69) := ⟨⟨by decide +kernel, by decide +kernel⟩, List.mem_of_getElem? (i := 1201) (by decide +kernel), List.mem_of_getElem? (i := 1679) (by decide +kernel), List.mem_of_getElem? (i := 1680) (by decide +kernel)⟩
theorem lw_p89 : lw_okq (⟨"SaltFiguresModel", "comes", "(I)I"⟩, 69) := ⟨⟨by decide +kernel, by decide +kernel⟩, List.mem_of_getElem? (i := 1201) (by decide +kernel), List.mem_of_getElem? (i := 1683) (by decide +kernel), List.mem_of_getElem? (i := 1684) (by decide +kernel)⟩
theorem lw_p90 : lw_okq (⟨"SaltFiguresModel", "cattleLick", "(I)V"⟩, 69) := ⟨⟨by decide +kernel, by decide +kernel⟩, List.mem_of_getElem? (i := 1201) (by decide +kernel), List.mem_of_getElem? (i := 1687) (by decide +kernel), List.mem_of_getElem? (i := 1688) (by decide +kernel)⟩
theorem lw_p91 : lw_okq (⟨"SaltFiguresModel", "tallest", "()I"⟩, 69) := ⟨⟨by decide +kernel, by decide +kernel⟩, List.mem_of_getElem? (i := 1201) (by decide +kernel), List.mem_of_getElem? (i := 1691) (by decide +kernel), List.mem_of_getElem? (i := 1692) (by decide +kernel)⟩
theorem lw_p92 : lw_okq (⟨"SaltFiguresModel", "feast", "()I"⟩, 69) := ⟨⟨by decide +kernel, by decide +kernel⟩, List.mem_of_getElem? (i := 1201) (by decide +kernel), List.mem_of_getElem? (i := 1695) (by decide +kernel), List.mem_of_getElem? (i := 1696) (by decide +kernel)⟩
theorem lw_p93 : lw_okq (⟨"SaltFiguresModel", "spillsOf", "(I)I"⟩, 69) := ⟨⟨by decide +kernel, by decide +kernel⟩, List.mem_of_getElem? (i := 1201) (by decide +kernel), List.mem_of_getElem? (i := 1699) (by decide +kernel), List.mem_of_getElem? (i := 1700) (by decide +kernel)⟩
theorem lw_p94 : lw_okq (⟨"SaltFiguresModel", "happens", "(I)Z"⟩, 69) := ⟨⟨by decide +kernel, by decide +kernel⟩, List.mem_of_getElem? (i := 1201) (by decide +kernel), List.mem_of_getElem? (i := 1703) (by decide +kernel), List.mem_of_getElem? (i := 1704) (by decide +kernel)⟩
theorem lw_p95 : lw_okq (⟨"SaltFiguresModel", "draw", "(I)I"⟩, 69) := ⟨⟨by decide +kernel, by decide +kernel⟩, List.mem_of_getElem? (i := 1201) (by decide +kernel), List.mem_of_getElem? (i := 1707) (by decide +kernel), List.mem_of_getElem? (i := 1708) (by decide +kernel)⟩
def lw_privs_6 : List (MethodName × Nat) := [(⟨"SaltFiguresModel", "runs", "(III)I"⟩, 69), (⟨"SaltFiguresModel", "twoOf", "(III)I"⟩, 69), (⟨"SaltFiguresModel", "held", "(III)I"⟩, 69), (⟨"SaltFiguresModel", "gets", "(II)I"⟩, 69), (⟨"SaltFiguresModel", "lesser", "(II)I"⟩, 69), (⟨"SaltFiguresModel", "notes", "(III)V"⟩, 69), (⟨"SaltFiguresModel", "isSwept", "(I)V"⟩, 69), (⟨"SaltFiguresModel", "dies", "(I)V"⟩, 69), (⟨"SaltFiguresModel", "goesBy", "()I"⟩, 69), (⟨"SaltFiguresModel", "comes", "(I)I"⟩, 69), (⟨"SaltFiguresModel", "cattleLick", "(I)V"⟩, 69), (⟨"SaltFiguresModel", "tallest", "()I"⟩, 69), (⟨"SaltFiguresModel", "feast", "()I"⟩, 69), (⟨"SaltFiguresModel", "spillsOf", "(I)I"⟩, 69), (⟨"SaltFiguresModel", "happens", "(I)Z"⟩, 69), (⟨"SaltFiguresModel", "draw", "(I)I"⟩, 69)]
theorem lw_r6 : ∀ q ∈ lw_privs_6, lw_okq q := List.forall_mem_cons.mpr ⟨lw_p80, List.forall_mem_cons.mpr ⟨lw_p81, List.forall_mem_cons.mpr ⟨lw_p82, List.forall_mem_cons.mpr ⟨lw_p83, List.forall_mem_cons.mpr ⟨lw_p84, List.forall_mem_cons.mpr ⟨lw_p85, List.forall_mem_cons.mpr ⟨lw_p86, List.forall_mem_cons.mpr ⟨lw_p87, List.forall_mem_cons.mpr ⟨lw_p88, List.forall_mem_cons.mpr ⟨lw_p89, List.forall_mem_cons.mpr ⟨lw_p90, List.forall_mem_cons.mpr ⟨lw_p91, List.forall_mem_cons.mpr ⟨lw_p92, List.forall_mem_cons.mpr ⟨lw_p93, List.forall_mem_cons.mpr ⟨lw_p94, List.forall_mem_cons.mpr ⟨lw_p95, fun _ h => absurd h List.not_mem_nil⟩⟩⟩⟩⟩⟩⟩⟩⟩⟩⟩⟩⟩⟩⟩⟩
theorem lw_p96 : lw_okq (⟨"SaltFiguresModel", "runsOff", "(I)V"⟩, 69) := ⟨⟨by decide +kernel, by decide +kernel⟩, List.mem_of_getElem? (i := 1201) (by decide +kernel), List.mem_of_getElem? (i := 1713) (by decide +kernel), List.mem_of_getElem? (i := 1714) (by decide +kernel)⟩
theorem lw_p97 : lw_okq (⟨"SaltFiguresModel", "runsOf", "(I)I"⟩, 69) := ⟨⟨by decide +kernel, by decide +kernel⟩, List.mem_of_getElem? (i := 1201) (by decide +kernel), List.mem_of_getElem? (i := 1717) (by decide +kernel), List.mem_of_getElem? (i := 1718) (by decide +kernel)⟩
theorem lw_p98 : lw_okq (⟨"SaltFiguresModel", "thinks", "()V"⟩, 69) := ⟨⟨by decide +kernel, by decide +kernel⟩, List.mem_of_getElem? (i := 1201) (by decide +kernel), List.mem_of_getElem? (i := 1733) (by decide +kernel), List.mem_of_getElem? (i := 1734) (by decide +kernel)⟩
theorem lw_p99 : lw_okq (⟨"SaltFiguresModel", "sumOf", "(I)I"⟩, 69) := ⟨⟨by decide +kernel, by decide +kernel⟩, List.mem_of_getElem? (i := 1201) (by decide +kernel), List.mem_of_getElem? (i := 1737) (by decide +kernel), List.mem_of_getElem? (i := 1738) (by decide +kernel)⟩
theorem lw_p100 : lw_okq (⟨"SaltFiguresModel", "endsThought", "()V"⟩, 69) := ⟨⟨by decide +kernel, by decide +kernel⟩, List.mem_of_getElem? (i := 1201) (by decide +kernel), List.mem_of_getElem? (i := 1741) (by decide +kernel), List.mem_of_getElem? (i := 1742) (by decide +kernel)⟩
theorem lw_p101 : lw_okq (⟨"SaltFiguresModel", "doorHigh", "(I)I"⟩, 69) := ⟨⟨by decide +kernel, by decide +kernel⟩, List.mem_of_getElem? (i := 1201) (by decide +kernel), List.mem_of_getElem? (i := 1754) (by decide +kernel), List.mem_of_getElem? (i := 1755) (by decide +kernel)⟩
theorem lw_p102 : lw_okq (⟨"SaltFiguresModel", "isDate", "(III)Z"⟩, 69) := ⟨⟨by decide +kernel, by decide +kernel⟩, List.mem_of_getElem? (i := 1201) (by decide +kernel), List.mem_of_getElem? (i := 1762) (by decide +kernel), List.mem_of_getElem? (i := 1763) (by decide +kernel)⟩
theorem lw_p103 : lw_okq (⟨"SaltFiguresModel", "daysOfMonth", "(II)I"⟩, 69) := ⟨⟨by decide +kernel, by decide +kernel⟩, List.mem_of_getElem? (i := 1201) (by decide +kernel), List.mem_of_getElem? (i := 1766) (by decide +kernel), List.mem_of_getElem? (i := 1767) (by decide +kernel)⟩
theorem lw_p104 : lw_okq (⟨"SaltFiguresModel", "isLeap", "(I)Z"⟩, 69) := ⟨⟨by decide +kernel, by decide +kernel⟩, List.mem_of_getElem? (i := 1201) (by decide +kernel), List.mem_of_getElem? (i := 1770) (by decide +kernel), List.mem_of_getElem? (i := 1771) (by decide +kernel)⟩
theorem lw_p105 : lw_okq (⟨"SaltFiguresModel", "dayNumber", "(III)I"⟩, 69) := ⟨⟨by decide +kernel, by decide +kernel⟩, List.mem_of_getElem? (i := 1201) (by decide +kernel), List.mem_of_getElem? (i := 1774) (by decide +kernel), List.mem_of_getElem? (i := 1775) (by decide +kernel)⟩
theorem lw_p106 : lw_okq (⟨"SaltFiguresModel", "dayOfWeek", "(I)I"⟩, 69) := ⟨⟨by decide +kernel, by decide +kernel⟩, List.mem_of_getElem? (i := 1201) (by decide +kernel), List.mem_of_getElem? (i := 1783) (by decide +kernel), List.mem_of_getElem? (i := 1784) (by decide +kernel)⟩
theorem lw_p107 : lw_okq (⟨"SaltFiguresModel", "areaOf", "(III)I"⟩, 69) := ⟨⟨by decide +kernel, by decide +kernel⟩, List.mem_of_getElem? (i := 1201) (by decide +kernel), List.mem_of_getElem? (i := 1795) (by decide +kernel), List.mem_of_getElem? (i := 1796) (by decide +kernel)⟩
theorem lw_p108 : lw_okq (⟨"SaltFiguresModel", "isEdge", "(II)Z"⟩, 69) := ⟨⟨by decide +kernel, by decide +kernel⟩, List.mem_of_getElem? (i := 1201) (by decide +kernel), List.mem_of_getElem? (i := 1803) (by decide +kernel), List.mem_of_getElem? (i := 1804) (by decide +kernel)⟩
theorem lw_p109 : lw_okq (⟨"SaltFiguresModel", "isBetween", "(III)Z"⟩, 69) := ⟨⟨by decide +kernel, by decide +kernel⟩, List.mem_of_getElem? (i := 1201) (by decide +kernel), List.mem_of_getElem? (i := 1807) (by decide +kernel), List.mem_of_getElem? (i := 1808) (by decide +kernel)⟩
theorem lw_p110 : lw_okq (⟨"SaltFiguresModel", "turnedOf", "(I)I"⟩, 69) := ⟨⟨by decide +kernel, by decide +kernel⟩, List.mem_of_getElem? (i := 1201) (by decide +kernel), List.mem_of_getElem? (i := 1816) (by decide +kernel), List.mem_of_getElem? (i := 1817) (by decide +kernel)⟩
theorem lw_p111 : lw_okq (⟨"SaltFiguresModel", "waysOfScales", "(I)I"⟩, 69) := ⟨⟨by decide +kernel, by decide +kernel⟩, List.mem_of_getElem? (i := 1201) (by decide +kernel), List.mem_of_getElem? (i := 1829) (by decide +kernel), List.mem_of_getElem? (i := 1830) (by decide +kernel)⟩
def lw_privs_7 : List (MethodName × Nat) := [(⟨"SaltFiguresModel", "runsOff", "(I)V"⟩, 69), (⟨"SaltFiguresModel", "runsOf", "(I)I"⟩, 69), (⟨"SaltFiguresModel", "thinks", "()V"⟩, 69), (⟨"SaltFiguresModel", "sumOf", "(I)I"⟩, 69), (⟨"SaltFiguresModel", "endsThought", "()V"⟩, 69), (⟨"SaltFiguresModel", "doorHigh", "(I)I"⟩, 69), (⟨"SaltFiguresModel", "isDate", "(III)Z"⟩, 69), (⟨"SaltFiguresModel", "daysOfMonth", "(II)I"⟩, 69), (⟨"SaltFiguresModel", "isLeap", "(I)Z"⟩, 69), (⟨"SaltFiguresModel", "dayNumber", "(III)I"⟩, 69), (⟨"SaltFiguresModel", "dayOfWeek", "(I)I"⟩, 69), (⟨"SaltFiguresModel", "areaOf", "(III)I"⟩, 69), (⟨"SaltFiguresModel", "isEdge", "(II)Z"⟩, 69), (⟨"SaltFiguresModel", "isBetween", "(III)Z"⟩, 69), (⟨"SaltFiguresModel", "turnedOf", "(I)I"⟩, 69), (⟨"SaltFiguresModel", "waysOfScales", "(I)I"⟩, 69)]
theorem lw_r7 : ∀ q ∈ lw_privs_7, lw_okq q := List.forall_mem_cons.mpr ⟨lw_p96, List.forall_mem_cons.mpr ⟨lw_p97, List.forall_mem_cons.mpr ⟨lw_p98, List.forall_mem_cons.mpr ⟨lw_p99, List.forall_mem_cons.mpr ⟨lw_p100, List.forall_mem_cons.mpr ⟨lw_p101, List.forall_mem_cons.mpr ⟨lw_p102, List.forall_mem_cons.mpr ⟨lw_p103, List.forall_mem_cons.mpr ⟨lw_p104, List.forall_mem_cons.mpr ⟨lw_p105, List.forall_mem_cons.mpr ⟨lw_p106, List.forall_mem_cons.mpr ⟨lw_p107, List.forall_mem_cons.mpr ⟨lw_p108, List.forall_mem_cons.mpr ⟨lw_p109, List.forall_mem_cons.mpr ⟨lw_p110, List.forall_mem_cons.mpr ⟨lw_p111, fun _ h => absurd h List.not_mem_nil⟩⟩⟩⟩⟩⟩⟩⟩⟩⟩⟩⟩⟩⟩⟩⟩
theorem lw_p112 : lw_okq (⟨"SaltFiguresModel", "added", "(II)I"⟩, 69) := ⟨⟨by decide +kernel, by decide +kernel⟩, List.mem_of_getElem? (i := 1201) (by decide +kernel), List.mem_of_getElem? (i := 1841) (by decide +kernel), List.mem_of_getElem? (i := 1842) (by decide +kernel)⟩
theorem lw_p113 : lw_okq (⟨"SaltFiguresModel", "common", "(II)I"⟩, 69) := ⟨⟨by decide +kernel, by decide +kernel⟩, List.mem_of_getElem? (i := 1201) (by decide +kernel), List.mem_of_getElem? (i := 1862) (by decide +kernel), List.mem_of_getElem? (i := 1863) (by decide +kernel)⟩
theorem lw_p114 : lw_okq (⟨"SaltFiguresModel", "isDry", "(I)Z"⟩, 69) := ⟨⟨by decide +kernel, by decide +kernel⟩, List.mem_of_getElem? (i := 1201) (by decide +kernel), List.mem_of_getElem? (i := 1866) (by decide +kernel), List.mem_of_getElem? (i := 1867) (by decide +kernel)⟩
theorem lw_p115 : lw_okq (⟨"SaltFiguresModel", "tellsOne", "(I)I"⟩, 69) := ⟨⟨by decide +kernel, by decide +kernel⟩, List.mem_of_getElem? (i := 1201) (by decide +kernel), List.mem_of_getElem? (i := 1874) (by decide +kernel), List.mem_of_getElem? (i := 1875) (by decide +kernel)⟩
theorem lw_p116 : lw_okq (⟨"SaltFiguresModel", "tellsOf", "(I)I"⟩, 69) := ⟨⟨by decide +kernel, by decide +kernel⟩, List.mem_of_getElem? (i := 1201) (by decide +kernel), List.mem_of_getElem? (i := 1878) (by decide +kernel), List.mem_of_getElem? (i := 1879) (by decide +kernel)⟩
theorem lw_p117 : lw_okq (⟨"SaltFiguresModel", "isLit", "(II)Z"⟩, 69) := ⟨⟨by decide +kernel, by decide +kernel⟩, List.mem_of_getElem? (i := 1201) (by decide +kernel), List.mem_of_getElem? (i := 1902) (by decide +kernel), List.mem_of_getElem? (i := 1903) (by decide +kernel)⟩
theorem lw_p118 : lw_okq (⟨"SaltFiguresModel", "steepPlace", "()I"⟩, 69) := ⟨⟨by decide +kernel, by decide +kernel⟩, List.mem_of_getElem? (i := 1201) (by decide +kernel), List.mem_of_getElem? (i := 1914) (by decide +kernel), List.mem_of_getElem? (i := 1915) (by decide +kernel)⟩
theorem lw_p119 : lw_okq (⟨"SaltFiguresModel", "goodTaking", "(I)I"⟩, 69) := ⟨⟨by decide +kernel, by decide +kernel⟩, List.mem_of_getElem? (i := 1201) (by decide +kernel), List.mem_of_getElem? (i := 1922) (by decide +kernel), List.mem_of_getElem? (i := 1923) (by decide +kernel)⟩
theorem lw_p120 : lw_okq (⟨"SaltFiguresModel", "keeps", "(I)I"⟩, 69) := ⟨⟨by decide +kernel, by decide +kernel⟩, List.mem_of_getElem? (i := 1201) (by decide +kernel), List.mem_of_getElem? (i := 1930) (by decide +kernel), List.mem_of_getElem? (i := 1931) (by decide +kernel)⟩
theorem lw_p121 : lw_okq (⟨"SaltFiguresModel", "keepsTold", "()V"⟩, 69) := ⟨⟨by decide +kernel, by decide +kernel⟩, List.mem_of_getElem? (i := 1201) (by decide +kernel), List.mem_of_getElem? (i := 1934) (by decide +kernel), List.mem_of_getElem? (i := 1935) (by decide +kernel)⟩
theorem lw_p122 : lw_okq (⟨"SaltFiguresModel", "keepsLaw", "()V"⟩, 69) := ⟨⟨by decide +kernel, by decide +kernel⟩, List.mem_of_getElem? (i := 1201) (by decide +kernel), List.mem_of_getElem? (i := 1938) (by decide +kernel), List.mem_of_getElem? (i := 1939) (by decide +kernel)⟩
theorem lw_p123 : lw_okq (⟨"SaltFiguresModel", "aliveSet", "()I"⟩, 69) := ⟨⟨by decide +kernel, by decide +kernel⟩, List.mem_of_getElem? (i := 1201) (by decide +kernel), List.mem_of_getElem? (i := 1946) (by decide +kernel), List.mem_of_getElem? (i := 1947) (by decide +kernel)⟩
def lw_privs_8 : List (MethodName × Nat) := [(⟨"SaltFiguresModel", "added", "(II)I"⟩, 69), (⟨"SaltFiguresModel", "common", "(II)I"⟩, 69), (⟨"SaltFiguresModel", "isDry", "(I)Z"⟩, 69), (⟨"SaltFiguresModel", "tellsOne", "(I)I"⟩, 69), (⟨"SaltFiguresModel", "tellsOf", "(I)I"⟩, 69), (⟨"SaltFiguresModel", "isLit", "(II)Z"⟩, 69), (⟨"SaltFiguresModel", "steepPlace", "()I"⟩, 69), (⟨"SaltFiguresModel", "goodTaking", "(I)I"⟩, 69), (⟨"SaltFiguresModel", "keeps", "(I)I"⟩, 69), (⟨"SaltFiguresModel", "keepsTold", "()V"⟩, 69), (⟨"SaltFiguresModel", "keepsLaw", "()V"⟩, 69), (⟨"SaltFiguresModel", "aliveSet", "()I"⟩, 69)]
theorem lw_r8 : ∀ q ∈ lw_privs_8, lw_okq q := List.forall_mem_cons.mpr ⟨lw_p112, List.forall_mem_cons.mpr ⟨lw_p113, List.forall_mem_cons.mpr ⟨lw_p114, List.forall_mem_cons.mpr ⟨lw_p115, List.forall_mem_cons.mpr ⟨lw_p116, List.forall_mem_cons.mpr ⟨lw_p117, List.forall_mem_cons.mpr ⟨lw_p118, List.forall_mem_cons.mpr ⟨lw_p119, List.forall_mem_cons.mpr ⟨lw_p120, List.forall_mem_cons.mpr ⟨lw_p121, List.forall_mem_cons.mpr ⟨lw_p122, List.forall_mem_cons.mpr ⟨lw_p123, fun _ h => absurd h List.not_mem_nil⟩⟩⟩⟩⟩⟩⟩⟩⟩⟩⟩⟩
def lw_privs : List (MethodName × Nat) := lw_privs_1 ++ (lw_privs_2 ++ (lw_privs_3 ++ (lw_privs_4 ++ (lw_privs_5 ++ (lw_privs_6 ++ (lw_privs_7 ++ (lw_privs_8)))))))
def lw_tbl : List Cond := k2_sels lw_privs ++ tables_1
theorem lw_privs_ok : ∀ q ∈ lw_privs, lw_okq q := by
  show ∀ q ∈ lw_privs_1 ++ (lw_privs_2 ++ (lw_privs_3 ++ (lw_privs_4 ++ (lw_privs_5 ++ (lw_privs_6 ++ (lw_privs_7 ++ (lw_privs_8))))))), lw_okq q
  exact List.forall_mem_append.mpr ⟨lw_r1, List.forall_mem_append.mpr ⟨lw_r2, List.forall_mem_append.mpr ⟨lw_r3, List.forall_mem_append.mpr ⟨lw_r4, List.forall_mem_append.mpr ⟨lw_r5, List.forall_mem_append.mpr ⟨lw_r6, List.forall_mem_append.mpr ⟨lw_r7, lw_r8⟩⟩⟩⟩⟩⟩⟩
def RX0 : String := "SaltFigures$Days"
def TX0 : u_T := fun k => match k with
  | 0 => ("SaltFigures$Days", "port", "LSaltFigures$Port;", true)
  | 1 => ("SaltFigures$Days", "texts", "LSaltFigures$Texts;", true)
  | 2 => ("SaltFigures$Days", "words", "[I", true)
  | _ => ("SaltFigures$Days", "before", "[I", true)
def tyX0 : Nat → FieldType := fun k => match k with
  | 0 => .object "SaltFigures$Port"
  | 1 => .object "SaltFigures$Texts"
  | 2 => .array .int
  | _ => .array .int
theorem nmX0 : ∀ a, a < 4 → ∀ b, b < 4 → a ≠ b → (TX0 a).2.1 ≠ (TX0 b).2.1 := by decide +kernel
theorem tyX0_ok : ∀ k, k < 4 → parseFieldDescriptor (TX0 k).2.2.1 = some (tyX0 k) := by decide +kernel
def RX1 : String := "SaltFigures$Figures"
def TX1 : u_T := fun k => match k with
  | 0 => ("SaltFigures$Figures", "thinking", "Z", true)
  | 1 => ("SaltFigures$Figures", "persons", "[I", true)
  | 2 => ("SaltFigures$Figures", "holders", "[I", true)
  | 3 => ("SaltFigures$Figures", "count", "I", false)
  | 4 => ("SaltFigures$Figures", "wet", "I", false)
  | 5 => ("SaltFigures$Figures", "run", "I", false)
  | 6 => ("SaltFigures$Figures", "swept", "I", false)
  | 7 => ("SaltFigures$Figures", "day", "I", false)
  | 8 => ("SaltFigures$Figures", "state", "I", false)
  | _ => ("SaltFigures$Figures", "lines", "I", false)
def tyX1 : Nat → FieldType := fun k => match k with
  | 0 => .boolean
  | 1 => .array .int
  | 2 => .array .int
  | 3 => .int
  | 4 => .int
  | 5 => .int
  | 6 => .int
  | 7 => .int
  | 8 => .int
  | _ => .int
theorem nmX1 : ∀ a, a < 10 → ∀ b, b < 10 → a ≠ b → (TX1 a).2.1 ≠ (TX1 b).2.1 := by decide +kernel
theorem tyX1_ok : ∀ k, k < 10 → parseFieldDescriptor (TX1 k).2.2.1 = some (tyX1 k) := by decide +kernel
def RX2 : String := "SaltFigures$Law"
def TX2 : u_T := fun k => match k with
  | 0 => ("SaltFigures$Law", "lines", "I", false)
  | 1 => ("SaltFigures$Law", "size", "I", false)
  | 2 => ("SaltFigures$Law", "word", "[I", true)
  | 3 => ("SaltFigures$Law", "start", "[I", true)
  | 4 => ("SaltFigures$Law", "when", "[I", true)
  | 5 => ("SaltFigures$Law", "stop", "[I", true)
  | 6 => ("SaltFigures$Law", "code", "[I", true)
  | _ => ("SaltFigures$Law", "stack", "[I", true)
def tyX2 : Nat → FieldType := fun k => match k with
  | 0 => .int
  | 1 => .int
  | 2 => .array .int
  | 3 => .array .int
  | 4 => .array .int
  | 5 => .array .int
  | 6 => .array .int
  | _ => .array .int
theorem nmX2 : ∀ a, a < 8 → ∀ b, b < 8 → a ≠ b → (TX2 a).2.1 ≠ (TX2 b).2.1 := by decide +kernel
theorem tyX2_ok : ∀ k, k < 8 → parseFieldDescriptor (TX2 k).2.2.1 = some (tyX2 k) := by decide +kernel
def RX3 : String := "SaltFigures$Port"
def TX3 : u_T := fun k => match k with
  | 0 => ("SaltFigures$Port", "figures", "LSaltFigures$Figures;", true)
  | 1 => ("SaltFigures$Port", "rows", "[I", true)
  | 2 => ("SaltFigures$Port", "texts", "LSaltFigures$Texts;", true)
  | _ => ("SaltFigures$Port", "told", "LSaltFigures$Told;", true)
def tyX3 : Nat → FieldType := fun k => match k with
  | 0 => .object "SaltFigures$Figures"
  | 1 => .array .int
  | 2 => .object "SaltFigures$Texts"
  | _ => .object "SaltFigures$Told"
theorem nmX3 : ∀ a, a < 4 → ∀ b, b < 4 → a ≠ b → (TX3 a).2.1 ≠ (TX3 b).2.1 := by decide +kernel
theorem tyX3_ok : ∀ k, k < 4 → parseFieldDescriptor (TX3 k).2.2.1 = some (tyX3 k) := by decide +kernel
def RX4 : String := "SaltFigures$Reader"
def TX4 : u_T := fun k => match k with
  | 0 => ("SaltFigures$Reader", "tape", "[I", true)
  | 1 => ("SaltFigures$Reader", "length", "I", false)
  | 2 => ("SaltFigures$Reader", "limit", "I", false)
  | 3 => ("SaltFigures$Reader", "kind", "I", false)
  | 4 => ("SaltFigures$Reader", "value", "I", false)
  | 5 => ("SaltFigures$Reader", "from", "I", false)
  | 6 => ("SaltFigures$Reader", "to", "I", false)
  | 7 => ("SaltFigures$Reader", "persons", "I", false)
  | 8 => ("SaltFigures$Reader", "fault", "I", false)
  | 9 => ("SaltFigures$Reader", "place", "I", false)
  | 10 => ("SaltFigures$Reader", "lines", "I", false)
  | 11 => ("SaltFigures$Reader", "law", "LSaltFigures$Law;", true)
  | _ => ("SaltFigures$Reader", "rows", "[I", true)
def tyX4 : Nat → FieldType := fun k => match k with
  | 0 => .array .int
  | 1 => .int
  | 2 => .int
  | 3 => .int
  | 4 => .int
  | 5 => .int
  | 6 => .int
  | 7 => .int
  | 8 => .int
  | 9 => .int
  | 10 => .int
  | 11 => .object "SaltFigures$Law"
  | _ => .array .int
theorem nmX4 : ∀ a, a < 13 → ∀ b, b < 13 → a ≠ b → (TX4 a).2.1 ≠ (TX4 b).2.1 := by decide +kernel
theorem tyX4_ok : ∀ k, k < 13 → parseFieldDescriptor (TX4 k).2.2.1 = some (tyX4 k) := by decide +kernel
def RX5 : String := "SaltFigures$Row"
def TX5 : u_T := fun k => match k with
  | 0 => ("SaltFigures$Row", "least", "I", true)
  | 1 => ("SaltFigures$Row", "most", "I", true)
  | 2 => ("SaltFigures$Row", "values", "[I", true)
  | _ => ("SaltFigures$Row", "size", "I", false)
def tyX5 : Nat → FieldType := fun k => match k with
  | 0 => .int
  | 1 => .int
  | 2 => .array .int
  | _ => .int
theorem nmX5 : ∀ a, a < 4 → ∀ b, b < 4 → a ≠ b → (TX5 a).2.1 ≠ (TX5 b).2.1 := by decide +kernel
theorem tyX5_ok : ∀ k, k < 4 → parseFieldDescriptor (TX5 k).2.2.1 = some (tyX5 k) := by decide +kernel
def RX6 : String := "SaltFigures$Sums"
def TX6 : u_T := fun k => match k with
  | _ => ("", "", "", false)
def tyX6 : Nat → FieldType := fun k => match k with
  | _ => .int
theorem nmX6 : ∀ a, a < 0 → ∀ b, b < 0 → a ≠ b → (TX6 a).2.1 ≠ (TX6 b).2.1 := by decide +kernel
theorem tyX6_ok : ∀ k, k < 0 → parseFieldDescriptor (TX6 k).2.2.1 = some (tyX6 k) := by decide +kernel
def RX7 : String := "SaltFigures$Texts"
def TX7 : u_T := fun k => match k with
  | 0 => ("SaltFigures$Texts", "law", "LSaltFigures$Law;", true)
  | 1 => ("SaltFigures$Texts", "weather", "[I", true)
  | 2 => ("SaltFigures$Texts", "heirs", "[I", true)
  | 3 => ("SaltFigures$Texts", "heirOfMany", "[I", true)
  | _ => ("SaltFigures$Texts", "lines", "[I", true)
def tyX7 : Nat → FieldType := fun k => match k with
  | 0 => .object "SaltFigures$Law"
  | 1 => .array .int
  | 2 => .array .int
  | 3 => .array .int
  | _ => .array .int
theorem nmX7 : ∀ a, a < 5 → ∀ b, b < 5 → a ≠ b → (TX7 a).2.1 ≠ (TX7 b).2.1 := by decide +kernel
theorem tyX7_ok : ∀ k, k < 5 → parseFieldDescriptor (TX7 k).2.2.1 = some (tyX7 k) := by decide +kernel
def RX8 : String := "SaltFigures$Thinker"
def TX8 : u_T := fun k => match k with
  | 0 => ("SaltFigures$Thinker", "told", "LSaltFigures$Told;", true)
  | 1 => ("SaltFigures$Thinker", "scratch", "[I", true)
  | _ => ("SaltFigures$Thinker", "other", "[I", true)
def tyX8 : Nat → FieldType := fun k => match k with
  | 0 => .object "SaltFigures$Told"
  | 1 => .array .int
  | _ => .array .int
theorem nmX8 : ∀ a, a < 3 → ∀ b, b < 3 → a ≠ b → (TX8 a).2.1 ≠ (TX8 b).2.1 := by decide +kernel
theorem tyX8_ok : ∀ k, k < 3 → parseFieldDescriptor (TX8 k).2.2.1 = some (tyX8 k) := by decide +kernel
def RX9 : String := "SaltFigures$Told"
def TX9 : u_T := fun k => match k with
  | 0 => ("SaltFigures$Told", "since", "I", false)
  | 1 => ("SaltFigures$Told", "xs", "LSaltFigures$Row;", true)
  | 2 => ("SaltFigures$Told", "ys", "LSaltFigures$Row;", true)
  | 3 => ("SaltFigures$Told", "weights", "LSaltFigures$Row;", true)
  | 4 => ("SaltFigures$Told", "first", "LSaltFigures$Row;", true)
  | 5 => ("SaltFigures$Told", "second", "LSaltFigures$Row;", true)
  | 6 => ("SaltFigures$Told", "periods", "LSaltFigures$Row;", true)
  | 7 => ("SaltFigures$Told", "stages", "LSaltFigures$Row;", true)
  | 8 => ("SaltFigures$Told", "places", "LSaltFigures$Row;", true)
  | 9 => ("SaltFigures$Told", "heights", "LSaltFigures$Row;", true)
  | _ => ("SaltFigures$Told", "heap", "LSaltFigures$Row;", true)
def tyX9 : Nat → FieldType := fun k => match k with
  | 0 => .int
  | 1 => .object "SaltFigures$Row"
  | 2 => .object "SaltFigures$Row"
  | 3 => .object "SaltFigures$Row"
  | 4 => .object "SaltFigures$Row"
  | 5 => .object "SaltFigures$Row"
  | 6 => .object "SaltFigures$Row"
  | 7 => .object "SaltFigures$Row"
  | 8 => .object "SaltFigures$Row"
  | 9 => .object "SaltFigures$Row"
  | _ => .object "SaltFigures$Row"
theorem nmX9 : ∀ a, a < 11 → ∀ b, b < 11 → a ≠ b → (TX9 a).2.1 ≠ (TX9 b).2.1 := by decide +kernel
theorem tyX9_ok : ∀ k, k < 11 → parseFieldDescriptor (TX9 k).2.2.1 = some (tyX9 k) := by decide +kernel
def RX10 : String := "SaltFigures"
def TX10 : u_T := fun k => match k with
  | 0 => ("SaltFigures", "port", "LSaltFigures$Port;", true)
  | 1 => ("SaltFigures", "picture", "LSaltFigures$Port;", false)
  | 2 => ("SaltFigures", "course", "LSaltFigures$Days;", true)
  | 3 => ("SaltFigures", "thought", "LSaltFigures$Figures;", true)
  | 4 => ("SaltFigures", "thinker", "LSaltFigures$Thinker;", true)
  | 5 => ("SaltFigures", "reader", "LSaltFigures$Reader;", true)
  | 6 => ("SaltFigures", "kept", "[LSaltFigures$Figures;", true)
  | 7 => ("SaltFigures", "nextKept", "I", false)
  | _ => ("SaltFigures", "undoable", "I", false)
def tyX10 : Nat → FieldType := fun k => match k with
  | 0 => .object "SaltFigures$Port"
  | 1 => .object "SaltFigures$Port"
  | 2 => .object "SaltFigures$Days"
  | 3 => .object "SaltFigures$Figures"
  | 4 => .object "SaltFigures$Thinker"
  | 5 => .object "SaltFigures$Reader"
  | 6 => .array (.object "SaltFigures$Figures")
  | 7 => .int
  | _ => .int
theorem nmX10 : ∀ a, a < 9 → ∀ b, b < 9 → a ≠ b → (TX10 a).2.1 ≠ (TX10 b).2.1 := by decide +kernel
theorem tyX10_ok : ∀ k, k < 9 → parseFieldDescriptor (TX10 k).2.2.1 = some (tyX10 k) := by decide +kernel
def RX11 : String := "SaltFiguresModel"
def TX11 : u_T := fun k => match k with
  | 0 => ("SaltFiguresModel", "told", "I", false)
  | 1 => ("SaltFiguresModel", "now", "[I", true)
  | 2 => ("SaltFiguresModel", "rows", "[I", true)
  | 3 => ("SaltFiguresModel", "undoable", "I", false)
  | 4 => ("SaltFiguresModel", "waiting", "[I", true)
  | 5 => ("SaltFiguresModel", "isThought", "Z", false)
  | 6 => ("SaltFiguresModel", "persons", "I", false)
  | 7 => ("SaltFiguresModel", "book", "[I", true)
  | 8 => ("SaltFiguresModel", "tape", "[I", true)
  | 9 => ("SaltFiguresModel", "taped", "I", false)
  | 10 => ("SaltFiguresModel", "spot", "I", false)
  | 11 => ("SaltFiguresModel", "from", "I", false)
  | 12 => ("SaltFiguresModel", "token", "I", false)
  | 13 => ("SaltFiguresModel", "value", "I", false)
  | 14 => ("SaltFiguresModel", "words", "[I", true)
  | 15 => ("SaltFiguresModel", "lineMany", "[I", true)
  | 16 => ("SaltFiguresModel", "lineWord", "[I", true)
  | 17 => ("SaltFiguresModel", "lineFrom", "[I", true)
  | 18 => ("SaltFiguresModel", "lineWhen", "[I", true)
  | 19 => ("SaltFiguresModel", "lineTo", "[I", true)
  | 20 => ("SaltFiguresModel", "op", "[I", true)
  | 21 => ("SaltFiguresModel", "arg", "[I", true)
  | 22 => ("SaltFiguresModel", "which", "I", false)
  | 23 => ("SaltFiguresModel", "codes", "I", false)
  | 24 => ("SaltFiguresModel", "open", "I", false)
  | 25 => ("SaltFiguresModel", "pending", "[I", true)
  | 26 => ("SaltFiguresModel", "pendings", "I", false)
  | 27 => ("SaltFiguresModel", "readFault", "I", false)
  | 28 => ("SaltFiguresModel", "readPlace", "I", false)
  | 29 => ("SaltFiguresModel", "faultKind", "I", false)
  | 30 => ("SaltFiguresModel", "faultPlace", "I", false)
  | 31 => ("SaltFiguresModel", "tableMany", "I", false)
  | 32 => ("SaltFiguresModel", "tableSeat", "[I", true)
  | 33 => ("SaltFiguresModel", "tablePerson", "[I", true)
  | 34 => ("SaltFiguresModel", "deedMany", "I", false)
  | 35 => ("SaltFiguresModel", "deeds", "[I", true)
  | 36 => ("SaltFiguresModel", "heirMany", "I", false)
  | 37 => ("SaltFiguresModel", "heirUp", "[I", true)
  | 38 => ("SaltFiguresModel", "asked", "[I", true)
  | 39 => ("SaltFiguresModel", "stack", "[I", true)
  | 40 => ("SaltFiguresModel", "lickedNow", "[I", true)
  | 41 => ("SaltFiguresModel", "dateNumber", "I", false)
  | 42 => ("SaltFiguresModel", "pointMany", "I", false)
  | 43 => ("SaltFiguresModel", "pointX", "[I", true)
  | 44 => ("SaltFiguresModel", "pointY", "[I", true)
  | 45 => ("SaltFiguresModel", "weightMany", "I", false)
  | 46 => ("SaltFiguresModel", "weights", "[I", true)
  | 47 => ("SaltFiguresModel", "slabWays", "[I", true)
  | 48 => ("SaltFiguresModel", "rowMany", "[I", true)
  | 49 => ("SaltFiguresModel", "rowNumbers", "[I", true)
  | 50 => ("SaltFiguresModel", "shadowWays", "[I", true)
  | 51 => ("SaltFiguresModel", "dripMany", "I", false)
  | 52 => ("SaltFiguresModel", "dripsBy", "[I", true)
  | 53 => ("SaltFiguresModel", "tellsNow", "[I", true)
  | 54 => ("SaltFiguresModel", "tellsNext", "[I", true)
  | 55 => ("SaltFiguresModel", "stageMany", "I", false)
  | 56 => ("SaltFiguresModel", "stages", "[I", true)
  | 57 => ("SaltFiguresModel", "voyageWays", "[I", true)
  | 58 => ("SaltFiguresModel", "postMany", "I", false)
  | 59 => ("SaltFiguresModel", "postAt", "[I", true)
  | 60 => ("SaltFiguresModel", "postHigh", "[I", true)
  | 61 => ("SaltFiguresModel", "heapMany", "I", false)
  | 62 => ("SaltFiguresModel", "heaps", "[I", true)
  | 63 => ("SaltFiguresModel", "heapNow", "[I", true)
  | 64 => ("SaltFiguresModel", "doesWin", "[I", true)
  | 65 => ("SaltFiguresModel", "isTaking", "Z", false)
  | 66 => ("SaltFiguresModel", "hasImage", "Z", false)
  | 67 => ("SaltFiguresModel", "keptAt", "I", false)
  | _ => ("SaltFiguresModel", "images", "[I", true)
def tyX11 : Nat → FieldType := fun k => match k with
  | 0 => .int
  | 1 => .array .int
  | 2 => .array .int
  | 3 => .int
  | 4 => .array .int
  | 5 => .boolean
  | 6 => .int
  | 7 => .array .int
  | 8 => .array .int
  | 9 => .int
  | 10 => .int
  | 11 => .int
  | 12 => .int
  | 13 => .int
  | 14 => .array .int
  | 15 => .array .int
  | 16 => .array .int
  | 17 => .array .int
  | 18 => .array .int
  | 19 => .array .int
  | 20 => .array .int
  | 21 => .array .int
  | 22 => .int
  | 23 => .int
  | 24 => .int
  | 25 => .array .int
  | 26 => .int
  | 27 => .int
  | 28 => .int
  | 29 => .int
  | 30 => .int
  | 31 => .int
  | 32 => .array .int
  | 33 => .array .int
  | 34 => .int
  | 35 => .array .int
  | 36 => .int
  | 37 => .array .int
  | 38 => .array .int
  | 39 => .array .int
  | 40 => .array .int
  | 41 => .int
  | 42 => .int
  | 43 => .array .int
  | 44 => .array .int
  | 45 => .int
  | 46 => .array .int
  | 47 => .array .int
  | 48 => .array .int
  | 49 => .array .int
  | 50 => .array .int
  | 51 => .int
  | 52 => .array .int
  | 53 => .array .int
  | 54 => .array .int
  | 55 => .int
  | 56 => .array .int
  | 57 => .array .int
  | 58 => .int
  | 59 => .array .int
  | 60 => .array .int
  | 61 => .int
  | 62 => .array .int
  | 63 => .array .int
  | 64 => .array .int
  | 65 => .boolean
  | 66 => .boolean
  | 67 => .int
  | _ => .array .int
theorem nmX11 : ∀ a, a < 69 → ∀ b, b < 69 → a ≠ b → (TX11 a).2.1 ≠ (TX11 b).2.1 := by decide +kernel
theorem tyX11_ok : ∀ k, k < 69 → parseFieldDescriptor (TX11 k).2.2.1 = some (tyX11 k) := by decide +kernel
abbrev vwCl : List vw_C := [(RX0, TX0, 4), (RX1, TX1, 10), (RX2, TX2, 8), (RX3, TX3, 4), (RX4, TX4, 13), (RX5, TX5, 4), (RX7, TX7, 5), (RX8, TX8, 3), (RX9, TX9, 11), (RX10, TX10, 9), (RX11, TX11, 69)]
