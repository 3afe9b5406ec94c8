section
-- ===== PART A: goes FIRST, ahead of the names: the tables' words, and 'selects' of the private methods out of them =====
/-- a private method of a class that the tables say can be made, by its rows of tables_1 -/
def lw_okq (q : MethodName × Nat) : Prop := (q.1.cls ≠ "java/lang/invoke/MethodHandle" ∧ q.1.cls ≠ "java/lang/invoke/VarHandle") ∧ Cond.instantiable q.1.cls q.2 ∈ tables_1 ∧ Cond.privateMethod q.1 ∈ tables_1 ∧ Cond.instanceMethod q.1 ∈ tables_1
theorem lw_p0 : lw_okq (⟨"PaneAcross", "shelfAt", "(I)LPaneAcross$Shelf;"⟩, 9) := ⟨⟨by decide +kernel, by decide +kernel⟩, List.mem_of_getElem? (i := 17) (by decide +kernel), List.mem_of_getElem? (i := 369) (by decide +kernel), List.mem_of_getElem? (i := 370) (by decide +kernel)⟩
theorem lw_p1 : lw_okq (⟨"PaneAcross", "addFrom", "(LPaneAcross$Shelf;I)Z"⟩, 9) := ⟨⟨by decide +kernel, by decide +kernel⟩, List.mem_of_getElem? (i := 17) (by decide +kernel), List.mem_of_getElem? (i := 385) (by decide +kernel), List.mem_of_getElem? (i := 386) (by decide +kernel)⟩
theorem lw_p2 : lw_okq (⟨"PaneAcross$Changes", "dropOldest", "()V"⟩, 5) := ⟨⟨by decide +kernel, by decide +kernel⟩, List.mem_of_getElem? (i := 143) (by decide +kernel), List.mem_of_getElem? (i := 414) (by decide +kernel), List.mem_of_getElem? (i := 415) (by decide +kernel)⟩
theorem lw_p3 : lw_okq (⟨"PaneAcross$Law", "readLine", "()V"⟩, 12) := ⟨⟨by decide +kernel, by decide +kernel⟩, List.mem_of_getElem? (i := 43) (by decide +kernel), List.mem_of_getElem? (i := 459) (by decide +kernel), List.mem_of_getElem? (i := 460) (by decide +kernel)⟩
theorem lw_p4 : lw_okq (⟨"PaneAcross$Law", "readBinary", "(II)V"⟩, 12) := ⟨⟨by decide +kernel, by decide +kernel⟩, List.mem_of_getElem? (i := 43) (by decide +kernel), List.mem_of_getElem? (i := 463) (by decide +kernel), List.mem_of_getElem? (i := 464) (by decide +kernel)⟩
theorem lw_p5 : lw_okq (⟨"PaneAcross$Law", "readOperand", "(I)V"⟩, 12) := ⟨⟨by decide +kernel, by decide +kernel⟩, List.mem_of_getElem? (i := 43) (by decide +kernel), List.mem_of_getElem? (i := 467) (by decide +kernel), List.mem_of_getElem? (i := 468) (by decide +kernel)⟩
theorem lw_p6 : lw_okq (⟨"PaneAcross$Law", "next", "()I"⟩, 12) := ⟨⟨by decide +kernel, by decide +kernel⟩, List.mem_of_getElem? (i := 43) (by decide +kernel), List.mem_of_getElem? (i := 471) (by decide +kernel), List.mem_of_getElem? (i := 472) (by decide +kernel)⟩
theorem lw_p7 : lw_okq (⟨"PaneAcross$Law", "readNumber", "()V"⟩, 12) := ⟨⟨by decide +kernel, by decide +kernel⟩, List.mem_of_getElem? (i := 43) (by decide +kernel), List.mem_of_getElem? (i := 478) (by decide +kernel), List.mem_of_getElem? (i := 479) (by decide +kernel)⟩
theorem lw_p8 : lw_okq (⟨"PaneAcross$Law", "addStep", "(II)V"⟩, 12) := ⟨⟨by decide +kernel, by decide +kernel⟩, List.mem_of_getElem? (i := 43) (by decide +kernel), List.mem_of_getElem? (i := 482) (by decide +kernel), List.mem_of_getElem? (i := 483) (by decide +kernel)⟩
theorem lw_p9 : lw_okq (⟨"PaneAcross$Strains", "workedOut", "(III)I"⟩, 8) := ⟨⟨by decide +kernel, by decide +kernel⟩, List.mem_of_getElem? (i := 87) (by decide +kernel), List.mem_of_getElem? (i := 517) (by decide +kernel), List.mem_of_getElem? (i := 518) (by decide +kernel)⟩
theorem lw_p10 : lw_okq (⟨"PaneAcross$Law", "push", "(I)V"⟩, 12) := ⟨⟨by decide +kernel, by decide +kernel⟩, List.mem_of_getElem? (i := 43) (by decide +kernel), List.mem_of_getElem? (i := 529) (by decide +kernel), List.mem_of_getElem? (i := 530) (by decide +kernel)⟩
theorem lw_p11 : lw_okq (⟨"PaneAcross$Law", "pop", "()I"⟩, 12) := ⟨⟨by decide +kernel, by decide +kernel⟩, List.mem_of_getElem? (i := 43) (by decide +kernel), List.mem_of_getElem? (i := 533) (by decide +kernel), List.mem_of_getElem? (i := 534) (by decide +kernel)⟩
theorem lw_p12 : lw_okq (⟨"PaneAcross", "walkRefused", "(LPaneAcross$Shelf;)I"⟩, 9) := ⟨⟨by decide +kernel, by decide +kernel⟩, List.mem_of_getElem? (i := 17) (by decide +kernel), List.mem_of_getElem? (i := 553) (by decide +kernel), List.mem_of_getElem? (i := 554) (by decide +kernel)⟩
theorem lw_p13 : lw_okq (⟨"PaneAcross$Walks", "bestAhead", "(II)I"⟩, 9) := ⟨⟨by decide +kernel, by decide +kernel⟩, List.mem_of_getElem? (i := 167) (by decide +kernel), List.mem_of_getElem? (i := 601) (by decide +kernel), List.mem_of_getElem? (i := 602) (by decide +kernel)⟩
theorem lw_p14 : lw_okq (⟨"PaneAcross$Walks", "turnedAhead", "(III)I"⟩, 9) := ⟨⟨by decide +kernel, by decide +kernel⟩, List.mem_of_getElem? (i := 167) (by decide +kernel), List.mem_of_getElem? (i := 605) (by decide +kernel), List.mem_of_getElem? (i := 606) (by decide +kernel)⟩
theorem lw_p15 : lw_okq (⟨"PaneAcross$Walks", "setAhead", "(III)V"⟩, 9) := ⟨⟨by decide +kernel, by decide +kernel⟩, List.mem_of_getElem? (i := 167) (by decide +kernel), List.mem_of_getElem? (i := 610) (by decide +kernel), List.mem_of_getElem? (i := 611) (by decide +kernel)⟩
def lw_privs_1 : List (MethodName × Nat) := [(⟨"PaneAcross", "shelfAt", "(I)LPaneAcross$Shelf;"⟩, 9), (⟨"PaneAcross", "addFrom", "(LPaneAcross$Shelf;I)Z"⟩, 9), (⟨"PaneAcross$Changes", "dropOldest", "()V"⟩, 5), (⟨"PaneAcross$Law", "readLine", "()V"⟩, 12), (⟨"PaneAcross$Law", "readBinary", "(II)V"⟩, 12), (⟨"PaneAcross$Law", "readOperand", "(I)V"⟩, 12), (⟨"PaneAcross$Law", "next", "()I"⟩, 12), (⟨"PaneAcross$Law", "readNumber", "()V"⟩, 12), (⟨"PaneAcross$Law", "addStep", "(II)V"⟩, 12), (⟨"PaneAcross$Strains", "workedOut", "(III)I"⟩, 8), (⟨"PaneAcross$Law", "push", "(I)V"⟩, 12), (⟨"PaneAcross$Law", "pop", "()I"⟩, 12), (⟨"PaneAcross", "walkRefused", "(LPaneAcross$Shelf;)I"⟩, 9), (⟨"PaneAcross$Walks", "bestAhead", "(II)I"⟩, 9), (⟨"PaneAcross$Walks", "turnedAhead", "(III)I"⟩, 9), (⟨"PaneAcross$Walks", "setAhead", "(III)V"⟩, 9)]
theorem lw_r1 : ∀ q ∈ lw_privs_1, lw_okq q := List.forall_mem_cons.mpr ⟨lw_p0, List.forall_mem_cons.mpr ⟨lw_p1, List.forall_mem_cons.mpr ⟨lw_p2, List.forall_mem_cons.mpr ⟨lw_p3, List.forall_mem_cons.mpr ⟨lw_p4, List.forall_mem_cons.mpr ⟨lw_p5, List.forall_mem_cons.mpr ⟨lw_p6, List.forall_mem_cons.mpr ⟨lw_p7, List.forall_mem_cons.mpr ⟨lw_p8, List.forall_mem_cons.mpr ⟨lw_p9, List.forall_mem_cons.mpr ⟨lw_p10, List.forall_mem_cons.mpr ⟨lw_p11, List.forall_mem_cons.mpr ⟨lw_p12, List.forall_mem_cons.mpr ⟨lw_p13, List.forall_mem_cons.mpr ⟨lw_p14, List.forall_mem_cons.mpr ⟨lw_p15, fun _ h => absurd h List.not_mem_nil⟩⟩⟩⟩⟩⟩⟩⟩⟩⟩⟩⟩⟩⟩⟩⟩
theorem lw_p16 : lw_okq (⟨"PaneAcross$Walks", "reachBy", "(II)V"⟩, 9) := ⟨⟨by decide +kernel, by decide +kernel⟩, List.mem_of_getElem? (i := 167) (by decide +kernel), List.mem_of_getElem? (i := 629) (by decide +kernel), List.mem_of_getElem? (i := 630) (by decide +kernel)⟩
theorem lw_p17 : lw_okq (⟨"PaneAcross$Walks", "borne", "(III)I"⟩, 9) := ⟨⟨by decide +kernel, by decide +kernel⟩, List.mem_of_getElem? (i := 167) (by decide +kernel), List.mem_of_getElem? (i := 634) (by decide +kernel), List.mem_of_getElem? (i := 635) (by decide +kernel)⟩
theorem lw_p18 : lw_okq (⟨"PaneAcross$Walks", "reachedShop", "()I"⟩, 9) := ⟨⟨by decide +kernel, by decide +kernel⟩, List.mem_of_getElem? (i := 167) (by decide +kernel), List.mem_of_getElem? (i := 641) (by decide +kernel), List.mem_of_getElem? (i := 642) (by decide +kernel)⟩
theorem lw_p19 : lw_okq (⟨"PaneAcross$Walks", "drawOne", "(II)V"⟩, 9) := ⟨⟨by decide +kernel, by decide +kernel⟩, List.mem_of_getElem? (i := 167) (by decide +kernel), List.mem_of_getElem? (i := 751) (by decide +kernel), List.mem_of_getElem? (i := 752) (by decide +kernel)⟩
theorem lw_p20 : lw_okq (⟨"PaneAcross$Deeds", "bear", "(IZ)I"⟩, 5) := ⟨⟨by decide +kernel, by decide +kernel⟩, List.mem_of_getElem? (i := 215) (by decide +kernel), List.mem_of_getElem? (i := 765) (by decide +kernel), List.mem_of_getElem? (i := 766) (by decide +kernel)⟩
theorem lw_p21 : lw_okq (⟨"PaneAcross$Deeds", "arrive", "()V"⟩, 5) := ⟨⟨by decide +kernel, by decide +kernel⟩, List.mem_of_getElem? (i := 215) (by decide +kernel), List.mem_of_getElem? (i := 774) (by decide +kernel), List.mem_of_getElem? (i := 775) (by decide +kernel)⟩
theorem lw_p22 : lw_okq (⟨"PaneAcross$Paces", "run", "(IIII)I"⟩, 6) := ⟨⟨by decide +kernel, by decide +kernel⟩, List.mem_of_getElem? (i := 288) (by decide +kernel), List.mem_of_getElem? (i := 860) (by decide +kernel), List.mem_of_getElem? (i := 861) (by decide +kernel)⟩
theorem lw_p23 : lw_okq (⟨"PaneAcross$Paces", "runBody", "(IIII)I"⟩, 6) := ⟨⟨by decide +kernel, by decide +kernel⟩, List.mem_of_getElem? (i := 288) (by decide +kernel), List.mem_of_getElem? (i := 874) (by decide +kernel), List.mem_of_getElem? (i := 875) (by decide +kernel)⟩
theorem lw_p24 : lw_okq (⟨"PaneAcross$Shelf", "fitted", "(J)J"⟩, 4) := ⟨⟨by decide +kernel, by decide +kernel⟩, List.mem_of_getElem? (i := 119) (by decide +kernel), List.mem_of_getElem? (i := 921) (by decide +kernel), List.mem_of_getElem? (i := 922) (by decide +kernel)⟩
theorem lw_p25 : lw_okq (⟨"PaneAcrossModel", "adds", "(III)V"⟩, 44) := ⟨⟨by decide +kernel, by decide +kernel⟩, List.mem_of_getElem? (i := 946) (by decide +kernel), List.mem_of_getElem? (i := 1107) (by decide +kernel), List.mem_of_getElem? (i := 1108) (by decide +kernel)⟩
theorem lw_p26 : lw_okq (⟨"PaneAcrossModel", "placeOf", "(II)I"⟩, 44) := ⟨⟨by decide +kernel, by decide +kernel⟩, List.mem_of_getElem? (i := 946) (by decide +kernel), List.mem_of_getElem? (i := 1123) (by decide +kernel), List.mem_of_getElem? (i := 1124) (by decide +kernel)⟩
theorem lw_p27 : lw_okq (⟨"PaneAcrossModel", "isPlace", "(I)Z"⟩, 44) := ⟨⟨by decide +kernel, by decide +kernel⟩, List.mem_of_getElem? (i := 946) (by decide +kernel), List.mem_of_getElem? (i := 1128) (by decide +kernel), List.mem_of_getElem? (i := 1129) (by decide +kernel)⟩
theorem lw_p28 : lw_okq (⟨"PaneAcrossModel", "becomes", "(II)I"⟩, 44) := ⟨⟨by decide +kernel, by decide +kernel⟩, List.mem_of_getElem? (i := 946) (by decide +kernel), List.mem_of_getElem? (i := 1144) (by decide +kernel), List.mem_of_getElem? (i := 1145) (by decide +kernel)⟩
theorem lw_p29 : lw_okq (⟨"PaneAcrossModel", "windAt", "(II)I"⟩, 44) := ⟨⟨by decide +kernel, by decide +kernel⟩, List.mem_of_getElem? (i := 946) (by decide +kernel), List.mem_of_getElem? (i := 1157) (by decide +kernel), List.mem_of_getElem? (i := 1158) (by decide +kernel)⟩
theorem lw_p30 : lw_okq (⟨"PaneAcrossModel", "workOut", "(II)I"⟩, 44) := ⟨⟨by decide +kernel, by decide +kernel⟩, List.mem_of_getElem? (i := 946) (by decide +kernel), List.mem_of_getElem? (i := 1170) (by decide +kernel), List.mem_of_getElem? (i := 1171) (by decide +kernel)⟩
theorem lw_p31 : lw_okq (⟨"PaneAcrossModel", "either", "()I"⟩, 44) := ⟨⟨by decide +kernel, by decide +kernel⟩, List.mem_of_getElem? (i := 946) (by decide +kernel), List.mem_of_getElem? (i := 1174) (by decide +kernel), List.mem_of_getElem? (i := 1175) (by decide +kernel)⟩
def lw_privs_2 : List (MethodName × Nat) := [(⟨"PaneAcross$Walks", "reachBy", "(II)V"⟩, 9), (⟨"PaneAcross$Walks", "borne", "(III)I"⟩, 9), (⟨"PaneAcross$Walks", "reachedShop", "()I"⟩, 9), (⟨"PaneAcross$Walks", "drawOne", "(II)V"⟩, 9), (⟨"PaneAcross$Deeds", "bear", "(IZ)I"⟩, 5), (⟨"PaneAcross$Deeds", "arrive", "()V"⟩, 5), (⟨"PaneAcross$Paces", "run", "(IIII)I"⟩, 6), (⟨"PaneAcross$Paces", "runBody", "(IIII)I"⟩, 6), (⟨"PaneAcross$Shelf", "fitted", "(J)J"⟩, 4), (⟨"PaneAcrossModel", "adds", "(III)V"⟩, 44), (⟨"PaneAcrossModel", "placeOf", "(II)I"⟩, 44), (⟨"PaneAcrossModel", "isPlace", "(I)Z"⟩, 44), (⟨"PaneAcrossModel", "becomes", "(II)I"⟩, 44), (⟨"PaneAcrossModel", "windAt", "(II)I"⟩, 44), (⟨"PaneAcrossModel", "workOut", "(II)I"⟩, 44), (⟨"PaneAcrossModel", "either", "()I"⟩, 44)]
theorem lw_r2 : ∀ q ∈ lw_privs_2, lw_okq q := List.forall_mem_cons.mpr ⟨lw_p16, List.forall_mem_cons.mpr ⟨lw_p17, List.forall_mem_cons.mpr ⟨lw_p18, List.forall_mem_cons.mpr ⟨lw_p19, List.forall_mem_cons.mpr ⟨lw_p20, List.forall_mem_cons.mpr ⟨lw_p21, List.forall_mem_cons.mpr ⟨lw_p22, List.forall_mem_cons.mpr ⟨lw_p23, List.forall_mem_cons.mpr ⟨lw_p24, List.forall_mem_cons.mpr ⟨lw_p25, List.forall_mem_cons.mpr ⟨lw_p26, List.forall_mem_cons.mpr ⟨lw_p27, List.forall_mem_cons.mpr ⟨lw_p28, List.forall_mem_cons.mpr ⟨lw_p29, List.forall_mem_cons.mpr ⟨lw_p30, List.forall_mem_cons.mpr ⟨lw_p31, fun _ h => absurd h List.not_mem_nil⟩⟩⟩⟩⟩⟩⟩⟩⟩⟩⟩⟩⟩⟩⟩⟩
theorem lw_p32 : lw_okq (⟨"PaneAcrossModel", "both", "()I"⟩, 44) := ⟨⟨by decide +kernel, by decide +kernel⟩, List.mem_of_getElem? (i := 946) (by decide +kernel), List.mem_of_getElem? (i := 1178) (by decide +kernel), List.mem_of_getElem? (i := 1179) (by decide +kernel)⟩
theorem lw_p33 : lw_okq (⟨"PaneAcrossModel", "compared", "()I"⟩, 44) := ⟨⟨by decide +kernel, by decide +kernel⟩, List.mem_of_getElem? (i := 946) (by decide +kernel), List.mem_of_getElem? (i := 1182) (by decide +kernel), List.mem_of_getElem? (i := 1183) (by decide +kernel)⟩
theorem lw_p34 : lw_okq (⟨"PaneAcrossModel", "sums", "()I"⟩, 44) := ⟨⟨by decide +kernel, by decide +kernel⟩, List.mem_of_getElem? (i := 946) (by decide +kernel), List.mem_of_getElem? (i := 1186) (by decide +kernel), List.mem_of_getElem? (i := 1187) (by decide +kernel)⟩
theorem lw_p35 : lw_okq (⟨"PaneAcrossModel", "product", "()I"⟩, 44) := ⟨⟨by decide +kernel, by decide +kernel⟩, List.mem_of_getElem? (i := 946) (by decide +kernel), List.mem_of_getElem? (i := 1190) (by decide +kernel), List.mem_of_getElem? (i := 1191) (by decide +kernel)⟩
theorem lw_p36 : lw_okq (⟨"PaneAcrossModel", "one", "()I"⟩, 44) := ⟨⟨by decide +kernel, by decide +kernel⟩, List.mem_of_getElem? (i := 946) (by decide +kernel), List.mem_of_getElem? (i := 1194) (by decide +kernel), List.mem_of_getElem? (i := 1195) (by decide +kernel)⟩
theorem lw_p37 : lw_okq (⟨"PaneAcrossModel", "byteAt", "()I"⟩, 44) := ⟨⟨by decide +kernel, by decide +kernel⟩, List.mem_of_getElem? (i := 946) (by decide +kernel), List.mem_of_getElem? (i := 1198) (by decide +kernel), List.mem_of_getElem? (i := 1199) (by decide +kernel)⟩
theorem lw_p38 : lw_okq (⟨"PaneAcrossModel", "wrong", "()I"⟩, 44) := ⟨⟨by decide +kernel, by decide +kernel⟩, List.mem_of_getElem? (i := 946) (by decide +kernel), List.mem_of_getElem? (i := 1202) (by decide +kernel), List.mem_of_getElem? (i := 1203) (by decide +kernel)⟩
theorem lw_p39 : lw_okq (⟨"PaneAcrossModel", "takes", "(I)Z"⟩, 44) := ⟨⟨by decide +kernel, by decide +kernel⟩, List.mem_of_getElem? (i := 946) (by decide +kernel), List.mem_of_getElem? (i := 1206) (by decide +kernel), List.mem_of_getElem? (i := 1207) (by decide +kernel)⟩
theorem lw_p40 : lw_okq (⟨"PaneAcrossModel", "strainAt", "(III)I"⟩, 44) := ⟨⟨by decide +kernel, by decide +kernel⟩, List.mem_of_getElem? (i := 946) (by decide +kernel), List.mem_of_getElem? (i := 1217) (by decide +kernel), List.mem_of_getElem? (i := 1218) (by decide +kernel)⟩
theorem lw_p41 : lw_okq (⟨"PaneAcrossModel", "bytesIs", "(I)I"⟩, 44) := ⟨⟨by decide +kernel, by decide +kernel⟩, List.mem_of_getElem? (i := 946) (by decide +kernel), List.mem_of_getElem? (i := 1225) (by decide +kernel), List.mem_of_getElem? (i := 1226) (by decide +kernel)⟩
theorem lw_p42 : lw_okq (⟨"PaneAcrossModel", "walkIs", "(I)I"⟩, 44) := ⟨⟨by decide +kernel, by decide +kernel⟩, List.mem_of_getElem? (i := 946) (by decide +kernel), List.mem_of_getElem? (i := 1233) (by decide +kernel), List.mem_of_getElem? (i := 1234) (by decide +kernel)⟩
theorem lw_p43 : lw_okq (⟨"PaneAcrossModel", "walks", "(III)V"⟩, 44) := ⟨⟨by decide +kernel, by decide +kernel⟩, List.mem_of_getElem? (i := 946) (by decide +kernel), List.mem_of_getElem? (i := 1237) (by decide +kernel), List.mem_of_getElem? (i := 1238) (by decide +kernel)⟩
theorem lw_p44 : lw_okq (⟨"PaneAcrossModel", "heldBy", "(II)I"⟩, 44) := ⟨⟨by decide +kernel, by decide +kernel⟩, List.mem_of_getElem? (i := 946) (by decide +kernel), List.mem_of_getElem? (i := 1241) (by decide +kernel), List.mem_of_getElem? (i := 1242) (by decide +kernel)⟩
theorem lw_p45 : lw_okq (⟨"PaneAcrossModel", "bears", "()I"⟩, 44) := ⟨⟨by decide +kernel, by decide +kernel⟩, List.mem_of_getElem? (i := 946) (by decide +kernel), List.mem_of_getElem? (i := 1245) (by decide +kernel), List.mem_of_getElem? (i := 1246) (by decide +kernel)⟩
theorem lw_p46 : lw_okq (⟨"PaneAcrossModel", "passes", "(I)I"⟩, 44) := ⟨⟨by decide +kernel, by decide +kernel⟩, List.mem_of_getElem? (i := 946) (by decide +kernel), List.mem_of_getElem? (i := 1249) (by decide +kernel), List.mem_of_getElem? (i := 1250) (by decide +kernel)⟩
theorem lw_p47 : lw_okq (⟨"PaneAcrossModel", "fillsLeast", "(I)V"⟩, 44) := ⟨⟨by decide +kernel, by decide +kernel⟩, List.mem_of_getElem? (i := 946) (by decide +kernel), List.mem_of_getElem? (i := 1263) (by decide +kernel), List.mem_of_getElem? (i := 1264) (by decide +kernel)⟩
def lw_privs_3 : List (MethodName × Nat) := [(⟨"PaneAcrossModel", "both", "()I"⟩, 44), (⟨"PaneAcrossModel", "compared", "()I"⟩, 44), (⟨"PaneAcrossModel", "sums", "()I"⟩, 44), (⟨"PaneAcrossModel", "product", "()I"⟩, 44), (⟨"PaneAcrossModel", "one", "()I"⟩, 44), (⟨"PaneAcrossModel", "byteAt", "()I"⟩, 44), (⟨"PaneAcrossModel", "wrong", "()I"⟩, 44), (⟨"PaneAcrossModel", "takes", "(I)Z"⟩, 44), (⟨"PaneAcrossModel", "strainAt", "(III)I"⟩, 44), (⟨"PaneAcrossModel", "bytesIs", "(I)I"⟩, 44), (⟨"PaneAcrossModel", "walkIs", "(I)I"⟩, 44), (⟨"PaneAcrossModel", "walks", "(III)V"⟩, 44), (⟨"PaneAcrossModel", "heldBy", "(II)I"⟩, 44), (⟨"PaneAcrossModel", "bears", "()I"⟩, 44), (⟨"PaneAcrossModel", "passes", "(I)I"⟩, 44), (⟨"PaneAcrossModel", "fillsLeast", "(I)V"⟩, 44)]
theorem lw_r3 : ∀ q ∈ lw_privs_3, lw_okq q := List.forall_mem_cons.mpr ⟨lw_p32, List.forall_mem_cons.mpr ⟨lw_p33, List.forall_mem_cons.mpr ⟨lw_p34, List.forall_mem_cons.mpr ⟨lw_p35, List.forall_mem_cons.mpr ⟨lw_p36, List.forall_mem_cons.mpr ⟨lw_p37, List.forall_mem_cons.mpr ⟨lw_p38, List.forall_mem_cons.mpr ⟨lw_p39, List.forall_mem_cons.mpr ⟨lw_p40, List.forall_mem_cons.mpr ⟨lw_p41, List.forall_mem_cons.mpr ⟨lw_p42, List.forall_mem_cons.mpr ⟨lw_p43, List.forall_mem_cons.mpr ⟨lw_p44, List.forall_mem_cons.mpr ⟨lw_p45, List.forall_mem_cons.mpr ⟨lw_p46, List.forall_mem_cons.mpr ⟨lw_p47, fun _ h => absurd h List.not_mem_nil⟩⟩⟩⟩⟩⟩⟩⟩⟩⟩⟩⟩⟩⟩⟩⟩
theorem lw_p48 : lw_okq (⟨"PaneAcrossModel", "bestHeld", "(II)I"⟩, 44) := ⟨⟨by decide +kernel, by decide +kernel⟩, List.mem_of_getElem? (i := 946) (by decide +kernel), List.mem_of_getElem? (i := 1267) (by decide +kernel), List.mem_of_getElem? (i := 1268) (by decide +kernel)⟩
theorem lw_p49 : lw_okq (⟨"PaneAcrossModel", "turned", "(II)I"⟩, 44) := ⟨⟨by decide +kernel, by decide +kernel⟩, List.mem_of_getElem? (i := 946) (by decide +kernel), List.mem_of_getElem? (i := 1271) (by decide +kernel), List.mem_of_getElem? (i := 1272) (by decide +kernel)⟩
theorem lw_p50 : lw_okq (⟨"PaneAcrossModel", "begins1", "(I)V"⟩, 44) := ⟨⟨by decide +kernel, by decide +kernel⟩, List.mem_of_getElem? (i := 946) (by decide +kernel), List.mem_of_getElem? (i := 1279) (by decide +kernel), List.mem_of_getElem? (i := 1280) (by decide +kernel)⟩
theorem lw_p51 : lw_okq (⟨"PaneAcrossModel", "minuteGoes", "(I)V"⟩, 44) := ⟨⟨by decide +kernel, by decide +kernel⟩, List.mem_of_getElem? (i := 946) (by decide +kernel), List.mem_of_getElem? (i := 1283) (by decide +kernel), List.mem_of_getElem? (i := 1284) (by decide +kernel)⟩
theorem lw_p52 : lw_okq (⟨"PaneAcrossModel", "restedAt", "(II)I"⟩, 44) := ⟨⟨by decide +kernel, by decide +kernel⟩, List.mem_of_getElem? (i := 946) (by decide +kernel), List.mem_of_getElem? (i := 1287) (by decide +kernel), List.mem_of_getElem? (i := 1288) (by decide +kernel)⟩
theorem lw_p53 : lw_okq (⟨"PaneAcrossModel", "pacedTo", "(II)I"⟩, 44) := ⟨⟨by decide +kernel, by decide +kernel⟩, List.mem_of_getElem? (i := 946) (by decide +kernel), List.mem_of_getElem? (i := 1291) (by decide +kernel), List.mem_of_getElem? (i := 1292) (by decide +kernel)⟩
theorem lw_p54 : lw_okq (⟨"PaneAcrossModel", "freeWays", "(II)J"⟩, 44) := ⟨⟨by decide +kernel, by decide +kernel⟩, List.mem_of_getElem? (i := 946) (by decide +kernel), List.mem_of_getElem? (i := 1319) (by decide +kernel), List.mem_of_getElem? (i := 1320) (by decide +kernel)⟩
theorem lw_p55 : lw_okq (⟨"PaneAcrossModel", "lineOf", "()J"⟩, 44) := ⟨⟨by decide +kernel, by decide +kernel⟩, List.mem_of_getElem? (i := 946) (by decide +kernel), List.mem_of_getElem? (i := 1323) (by decide +kernel), List.mem_of_getElem? (i := 1324) (by decide +kernel)⟩
theorem lw_p56 : lw_okq (⟨"PaneAcrossModel", "firstFalse", "(III)I"⟩, 44) := ⟨⟨by decide +kernel, by decide +kernel⟩, List.mem_of_getElem? (i := 946) (by decide +kernel), List.mem_of_getElem? (i := 1349) (by decide +kernel), List.mem_of_getElem? (i := 1350) (by decide +kernel)⟩
theorem lw_p57 : lw_okq (⟨"PaneAcrossModel", "minuteIs", "(IZ)I"⟩, 44) := ⟨⟨by decide +kernel, by decide +kernel⟩, List.mem_of_getElem? (i := 946) (by decide +kernel), List.mem_of_getElem? (i := 1366) (by decide +kernel), List.mem_of_getElem? (i := 1367) (by decide +kernel)⟩
theorem lw_p58 : lw_okq (⟨"PaneAcrossModel", "isBody", "(I)Z"⟩, 44) := ⟨⟨by decide +kernel, by decide +kernel⟩, List.mem_of_getElem? (i := 946) (by decide +kernel), List.mem_of_getElem? (i := 1399) (by decide +kernel), List.mem_of_getElem? (i := 1400) (by decide +kernel)⟩
theorem lw_p59 : lw_okq (⟨"PaneAcrossModel", "goesAs", "(II)I"⟩, 44) := ⟨⟨by decide +kernel, by decide +kernel⟩, List.mem_of_getElem? (i := 946) (by decide +kernel), List.mem_of_getElem? (i := 1403) (by decide +kernel), List.mem_of_getElem? (i := 1404) (by decide +kernel)⟩
theorem lw_p60 : lw_okq (⟨"PaneAcrossModel", "begins", "(I)V"⟩, 44) := ⟨⟨by decide +kernel, by decide +kernel⟩, List.mem_of_getElem? (i := 946) (by decide +kernel), List.mem_of_getElem? (i := 1407) (by decide +kernel), List.mem_of_getElem? (i := 1408) (by decide +kernel)⟩
theorem lw_p61 : lw_okq (⟨"PaneAcrossModel", "strainsAs", "(II)I"⟩, 44) := ⟨⟨by decide +kernel, by decide +kernel⟩, List.mem_of_getElem? (i := 946) (by decide +kernel), List.mem_of_getElem? (i := 1411) (by decide +kernel), List.mem_of_getElem? (i := 1412) (by decide +kernel)⟩
theorem lw_p62 : lw_okq (⟨"PaneAcrossModel", "leansAs", "(II)I"⟩, 44) := ⟨⟨by decide +kernel, by decide +kernel⟩, List.mem_of_getElem? (i := 946) (by decide +kernel), List.mem_of_getElem? (i := 1415) (by decide +kernel), List.mem_of_getElem? (i := 1416) (by decide +kernel)⟩
theorem lw_p63 : lw_okq (⟨"PaneAcrossModel", "tellsAs", "(II)I"⟩, 44) := ⟨⟨by decide +kernel, by decide +kernel⟩, List.mem_of_getElem? (i := 946) (by decide +kernel), List.mem_of_getElem? (i := 1419) (by decide +kernel), List.mem_of_getElem? (i := 1420) (by decide +kernel)⟩
def lw_privs_4 : List (MethodName × Nat) := [(⟨"PaneAcrossModel", "bestHeld", "(II)I"⟩, 44), (⟨"PaneAcrossModel", "turned", "(II)I"⟩, 44), (⟨"PaneAcrossModel", "begins1", "(I)V"⟩, 44), (⟨"PaneAcrossModel", "minuteGoes", "(I)V"⟩, 44), (⟨"PaneAcrossModel", "restedAt", "(II)I"⟩, 44), (⟨"PaneAcrossModel", "pacedTo", "(II)I"⟩, 44), (⟨"PaneAcrossModel", "freeWays", "(II)J"⟩, 44), (⟨"PaneAcrossModel", "lineOf", "()J"⟩, 44), (⟨"PaneAcrossModel", "firstFalse", "(III)I"⟩, 44), (⟨"PaneAcrossModel", "minuteIs", "(IZ)I"⟩, 44), (⟨"PaneAcrossModel", "isBody", "(I)Z"⟩, 44), (⟨"PaneAcrossModel", "goesAs", "(II)I"⟩, 44), (⟨"PaneAcrossModel", "begins", "(I)V"⟩, 44), (⟨"PaneAcrossModel", "strainsAs", "(II)I"⟩, 44), (⟨"PaneAcrossModel", "leansAs", "(II)I"⟩, 44), (⟨"PaneAcrossModel", "tellsAs", "(II)I"⟩, 44)]
theorem lw_r4 : ∀ q ∈ lw_privs_4, lw_okq q := List.forall_mem_cons.mpr ⟨lw_p48, List.forall_mem_cons.mpr ⟨lw_p49, List.forall_mem_cons.mpr ⟨lw_p50, List.forall_mem_cons.mpr ⟨lw_p51, List.forall_mem_cons.mpr ⟨lw_p52, List.forall_mem_cons.mpr ⟨lw_p53, List.forall_mem_cons.mpr ⟨lw_p54, List.forall_mem_cons.mpr ⟨lw_p55, List.forall_mem_cons.mpr ⟨lw_p56, List.forall_mem_cons.mpr ⟨lw_p57, List.forall_mem_cons.mpr ⟨lw_p58, List.forall_mem_cons.mpr ⟨lw_p59, List.forall_mem_cons.mpr ⟨lw_p60, List.forall_mem_cons.mpr ⟨lw_p61, List.forall_mem_cons.mpr ⟨lw_p62, List.forall_mem_cons.mpr ⟨lw_p63, fun _ h => absurd h List.not_mem_nil⟩⟩⟩⟩⟩⟩⟩⟩⟩⟩⟩⟩⟩⟩⟩⟩
theorem lw_p64 : lw_okq (⟨"PaneAcrossModel", "refusal", "(II)I"⟩, 44) := ⟨⟨by decide +kernel, by decide +kernel⟩, List.mem_of_getElem? (i := 946) (by decide +kernel), List.mem_of_getElem? (i := 1440) (by decide +kernel), List.mem_of_getElem? (i := 1441) (by decide +kernel)⟩
theorem lw_p65 : lw_okq (⟨"PaneAcrossModel", "kindOf", "(I)I"⟩, 44) := ⟨⟨by decide +kernel, by decide +kernel⟩, List.mem_of_getElem? (i := 946) (by decide +kernel), List.mem_of_getElem? (i := 1459) (by decide +kernel), List.mem_of_getElem? (i := 1460) (by decide +kernel)⟩
def lw_privs_5 : List (MethodName × Nat) := [(⟨"PaneAcrossModel", "refusal", "(II)I"⟩, 44), (⟨"PaneAcrossModel", "kindOf", "(I)I"⟩, 44)]
theorem lw_r5 : ∀ q ∈ lw_privs_5, lw_okq q := List.forall_mem_cons.mpr ⟨lw_p64, List.forall_mem_cons.mpr ⟨lw_p65, fun _ h => absurd h List.not_mem_nil⟩⟩
def lw_privs : List (MethodName × Nat) := lw_privs_1 ++ (lw_privs_2 ++ (lw_privs_3 ++ (lw_privs_4 ++ (lw_privs_5))))
def lw_tbl : List Cond := k2_sels lw_privs ++ tables_1
theorem lw_privs_ok : ∀ q ∈ lw_privs, lw_okq q := by
  show ∀ q ∈ lw_privs_1 ++ (lw_privs_2 ++ (lw_privs_3 ++ (lw_privs_4 ++ (lw_privs_5)))), lw_okq q
  exact List.forall_mem_append.mpr ⟨lw_r1, List.forall_mem_append.mpr ⟨lw_r2, List.forall_mem_append.mpr ⟨lw_r3, List.forall_mem_append.mpr ⟨lw_r4, lw_r5⟩⟩⟩⟩
end
section
def RX0 : String := "PaneAcross$Chances"
def TX0 : u_T := fun k => match k with
  | _ => ("PaneAcross$Chances", "street", "LPaneAcross$Street;", true)
def tyX0 : Nat → FieldType := fun k => match k with
  | _ => .object "PaneAcross$Street"
abbrev wsX00 : List Cond := u_ws RX0 TX0 1
theorem nmX0 : ∀ a, a < 1 → ∀ b, b < 1 → a ≠ b → (TX0 a).2.1 ≠ (TX0 b).2.1 := by decide +kernel
theorem tyX0_ok : ∀ k, k < 1 → parseFieldDescriptor (TX0 k).2.2.1 = some (tyX0 k) := by decide +kernel
abbrev cX0_init : ByteArray := prog_2_method_1_code
def yX0_init : MethodName := ⟨RX0, "<init>", "(LPaneAcross$Street;)V"⟩
abbrev cX0_allWays : ByteArray := prog_2_method_2_code
def yX0_allWays : MethodName := ⟨RX0, "allWays", "()J"⟩
abbrev cX0_freeWays : ByteArray := prog_2_method_3_code
def yX0_freeWays : MethodName := ⟨RX0, "freeWays", "(II)J"⟩
abbrev cX0_bestWatched : ByteArray := prog_2_method_4_code
def yX0_bestWatched : MethodName := ⟨RX0, "bestWatched", "()I"⟩
abbrev cX0_partOf : ByteArray := prog_2_method_5_code
def yX0_partOf : MethodName := ⟨RX0, "partOf", "(JJI)J"⟩
def RX1 : String := "PaneAcross$Changes"
def TX1 : u_T := fun k => match k with
  | 0 => ("PaneAcross$Changes", "slots", "[I", true)
  | 1 => ("PaneAcross$Changes", "were", "[I", true)
  | 2 => ("PaneAcross$Changes", "became", "[I", true)
  | 3 => ("PaneAcross$Changes", "size", "I", false)
  | _ => ("PaneAcross$Changes", "done", "I", false)
def tyX1 : Nat → FieldType := fun k => match k with
  | 0 => .array .int
  | 1 => .array .int
  | 2 => .array .int
  | 3 => .int
  | _ => .int
abbrev wsX10 : List Cond := u_ws RX1 TX1 5
theorem nmX1 : ∀ a, a < 5 → ∀ b, b < 5 → a ≠ b → (TX1 a).2.1 ≠ (TX1 b).2.1 := by decide +kernel
theorem tyX1_ok : ∀ k, k < 5 → parseFieldDescriptor (TX1 k).2.2.1 = some (tyX1 k) := by decide +kernel
abbrev cX1_init : ByteArray := prog_3_method_1_code
def yX1_init : MethodName := ⟨RX1, "<init>", "()V"⟩
abbrev cX1_note : ByteArray := prog_3_method_2_code
def yX1_note : MethodName := ⟨RX1, "note", "(III)V"⟩
abbrev cX1_dropOldest : ByteArray := prog_3_method_3_code
def yX1_dropOldest : MethodName := ⟨RX1, "dropOldest", "()V"⟩
abbrev cX1_stepBack : ByteArray := prog_3_method_4_code
def yX1_stepBack : MethodName := ⟨RX1, "stepBack", "(LPaneAcross$Street;)V"⟩
abbrev cX1_stepOn : ByteArray := prog_3_method_5_code
def yX1_stepOn : MethodName := ⟨RX1, "stepOn", "(LPaneAcross$Street;)V"⟩
def RX2 : String := "PaneAcross$Deeds"
def TX2 : u_T := fun k => match k with
  | 0 => ("PaneAcross$Deeds", "street", "LPaneAcross$Street;", true)
  | 1 => ("PaneAcross$Deeds", "strains", "LPaneAcross$Strains;", true)
  | 2 => ("PaneAcross$Deeds", "now", "LPaneAcross$Led;", true)
  | 3 => ("PaneAcross$Deeds", "kept", "LPaneAcross$Led;", true)
  | _ => ("PaneAcross$Deeds", "isKept", "Z", false)
def tyX2 : Nat → FieldType := fun k => match k with
  | 0 => .object "PaneAcross$Street"
  | 1 => .object "PaneAcross$Strains"
  | 2 => .object "PaneAcross$Led"
  | 3 => .object "PaneAcross$Led"
  | _ => .boolean
abbrev wsX20 : List Cond := u_ws RX2 TX2 5
theorem nmX2 : ∀ a, a < 5 → ∀ b, b < 5 → a ≠ b → (TX2 a).2.1 ≠ (TX2 b).2.1 := by decide +kernel
theorem tyX2_ok : ∀ k, k < 5 → parseFieldDescriptor (TX2 k).2.2.1 = some (tyX2 k) := by decide +kernel
abbrev cX2_init : ByteArray := prog_4_method_1_code
def yX2_init : MethodName := ⟨RX2, "<init>", "(LPaneAcross$Street;LPaneAcross$Strains;)V"⟩
abbrev cX2_setOut : ByteArray := prog_4_method_2_code
def yX2_setOut : MethodName := ⟨RX2, "setOut", "(II)I"⟩
abbrev cX2_goOn : ByteArray := prog_4_method_3_code
def yX2_goOn : MethodName := ⟨RX2, "goOn", "(I)I"⟩
abbrev cX2_stay : ByteArray := prog_4_method_4_code
def yX2_stay : MethodName := ⟨RX2, "stay", "(I)I"⟩
abbrev cX2_bear : ByteArray := prog_4_method_5_code
def yX2_bear : MethodName := ⟨RX2, "bear", "(IZ)I"⟩
abbrev cX2_arrive : ByteArray := prog_4_method_6_code
def yX2_arrive : MethodName := ⟨RX2, "arrive", "()V"⟩
def RX3 : String := "PaneAcross$Law"
def TX3 : u_T := fun k => match k with
  | 0 => ("PaneAcross$Law", "tape", "[I", true)
  | 1 => ("PaneAcross$Law", "fed", "I", false)
  | 2 => ("PaneAcross$Law", "steps", "[I", true)
  | 3 => ("PaneAcross$Law", "values", "[I", true)
  | 4 => ("PaneAcross$Law", "length", "I", false)
  | 5 => ("PaneAcross$Law", "newSteps", "[I", true)
  | 6 => ("PaneAcross$Law", "newValues", "[I", true)
  | 7 => ("PaneAcross$Law", "newLength", "I", false)
  | 8 => ("PaneAcross$Law", "at", "I", false)
  | 9 => ("PaneAcross$Law", "fault", "I", false)
  | 10 => ("PaneAcross$Law", "pile", "[I", true)
  | _ => ("PaneAcross$Law", "piled", "I", false)
def tyX3 : Nat → FieldType := fun k => match k with
  | 0 => .array .int
  | 1 => .int
  | 2 => .array .int
  | 3 => .array .int
  | 4 => .int
  | 5 => .array .int
  | 6 => .array .int
  | 7 => .int
  | 8 => .int
  | 9 => .int
  | 10 => .array .int
  | _ => .int
abbrev wsX30 : List Cond := u_ws RX3 TX3 12
theorem nmX3 : ∀ a, a < 12 → ∀ b, b < 12 → a ≠ b → (TX3 a).2.1 ≠ (TX3 b).2.1 := by decide +kernel
theorem tyX3_ok : ∀ k, k < 12 → parseFieldDescriptor (TX3 k).2.2.1 = some (tyX3 k) := by decide +kernel
abbrev cX3_init : ByteArray := prog_5_method_1_code
def yX3_init : MethodName := ⟨RX3, "<init>", "()V"⟩
abbrev cX3_isTold : ByteArray := prog_5_method_2_code
def yX3_isTold : MethodName := ⟨RX3, "isTold", "()Z"⟩
abbrev cX3_take : ByteArray := prog_5_method_3_code
def yX3_take : MethodName := ⟨RX3, "take", "(I)I"⟩
abbrev cX3_readTape : ByteArray := prog_5_method_4_code
def yX3_readTape : MethodName := ⟨RX3, "readTape", "()I"⟩
abbrev cX3_readLine : ByteArray := prog_5_method_5_code
def yX3_readLine : MethodName := ⟨RX3, "readLine", "()V"⟩
abbrev cX3_readBinary : ByteArray := prog_5_method_6_code
def yX3_readBinary : MethodName := ⟨RX3, "readBinary", "(II)V"⟩
abbrev cX3_readOperand : ByteArray := prog_5_method_7_code
def yX3_readOperand : MethodName := ⟨RX3, "readOperand", "(I)V"⟩
abbrev cX3_readNumber : ByteArray := prog_5_method_8_code
def yX3_readNumber : MethodName := ⟨RX3, "readNumber", "()V"⟩
abbrev cX3_next : ByteArray := prog_5_method_9_code
def yX3_next : MethodName := ⟨RX3, "next", "()I"⟩
abbrev cX3_addStep : ByteArray := prog_5_method_10_code
def yX3_addStep : MethodName := ⟨RX3, "addStep", "(II)V"⟩
abbrev cX3_isDigit : ByteArray := prog_5_method_11_code
def yX3_isDigit : MethodName := ⟨RX3, "isDigit", "(I)Z"⟩
abbrev cX3_nameOf : ByteArray := prog_5_method_12_code
def yX3_nameOf : MethodName := ⟨RX3, "nameOf", "(I)I"⟩
abbrev cX3_levelOf : ByteArray := prog_5_method_13_code
def yX3_levelOf : MethodName := ⟨RX3, "levelOf", "(I)I"⟩
abbrev cX3_worth : ByteArray := prog_5_method_14_code
def yX3_worth : MethodName := ⟨RX3, "worth", "([I)I"⟩
abbrev cX3_both : ByteArray := prog_5_method_15_code
def yX3_both : MethodName := ⟨RX3, "both", "(III)I"⟩
abbrev cX3_push : ByteArray := prog_5_method_16_code
def yX3_push : MethodName := ⟨RX3, "push", "(I)V"⟩
abbrev cX3_pop : ByteArray := prog_5_method_17_code
def yX3_pop : MethodName := ⟨RX3, "pop", "()I"⟩
def RX4 : String := "PaneAcross$Led"
def TX4 : u_T := fun k => match k with
  | 0 => ("PaneAcross$Led", "isOn", "Z", false)
  | 1 => ("PaneAcross$Led", "place", "I", false)
  | 2 => ("PaneAcross$Led", "minute", "I", false)
  | 3 => ("PaneAcross$Led", "held", "I", false)
  | 4 => ("PaneAcross$Led", "all", "I", false)
  | 5 => ("PaneAcross$Led", "arrived", "I", false)
  | 6 => ("PaneAcross$Led", "cracked", "I", false)
  | 7 => ("PaneAcross$Led", "paced", "I", false)
  | 8 => ("PaneAcross$Led", "rested", "I", false)
  | _ => ("PaneAcross$Led", "least", "I", false)
def tyX4 : Nat → FieldType := fun k => match k with
  | 0 => .boolean
  | 1 => .int
  | 2 => .int
  | 3 => .int
  | 4 => .int
  | 5 => .int
  | 6 => .int
  | 7 => .int
  | 8 => .int
  | _ => .int
abbrev wsX40 : List Cond := u_ws RX4 TX4 10
theorem nmX4 : ∀ a, a < 10 → ∀ b, b < 10 → a ≠ b → (TX4 a).2.1 ≠ (TX4 b).2.1 := by decide +kernel
theorem tyX4_ok : ∀ k, k < 10 → parseFieldDescriptor (TX4 k).2.2.1 = some (tyX4 k) := by decide +kernel
abbrev cX4_init : ByteArray := prog_6_method_1_code
def yX4_init : MethodName := ⟨RX4, "<init>", "()V"⟩
abbrev cX4_becomeLike : ByteArray := prog_6_method_2_code
def yX4_becomeLike : MethodName := ⟨RX4, "becomeLike", "(LPaneAcross$Led;)V"⟩
abbrev cX4_told : ByteArray := prog_6_method_3_code
def yX4_told : MethodName := ⟨RX4, "told", "(I)I"⟩
def RX5 : String := "PaneAcross$Paces"
def TX5 : u_T := fun k => match k with
  | 0 => ("PaneAcross$Paces", "kinds", "[I", true)
  | 1 => ("PaneAcross$Paces", "bodies", "I", false)
  | 2 => ("PaneAcross$Paces", "traced", "[I", true)
  | 3 => ("PaneAcross$Paces", "ran", "I", false)
  | 4 => ("PaneAcross$Paces", "self", "I", false)
  | _ => ("PaneAcross$Paces", "selfKind", "I", false)
def tyX5 : Nat → FieldType := fun k => match k with
  | 0 => .array .int
  | 1 => .int
  | 2 => .array .int
  | 3 => .int
  | 4 => .int
  | _ => .int
abbrev wsX50 : List Cond := u_ws RX5 TX5 6
theorem nmX5 : ∀ a, a < 6 → ∀ b, b < 6 → a ≠ b → (TX5 a).2.1 ≠ (TX5 b).2.1 := by decide +kernel
theorem tyX5_ok : ∀ k, k < 6 → parseFieldDescriptor (TX5 k).2.2.1 = some (tyX5 k) := by decide +kernel
abbrev cX5_init : ByteArray := prog_7_method_1_code
def yX5_init : MethodName := ⟨RX5, "<init>", "()V"⟩
abbrev cX5_has : ByteArray := prog_7_method_2_code
def yX5_has : MethodName := ⟨RX5, "has", "(I)Z"⟩
abbrev cX5_add : ByteArray := prog_7_method_3_code
def yX5_add : MethodName := ⟨RX5, "add", "(I)I"⟩
abbrev cX5_kindOf : ByteArray := prog_7_method_4_code
def yX5_kindOf : MethodName := ⟨RX5, "kindOf", "(I)I"⟩
abbrev cX5_isUnder : ByteArray := prog_7_method_5_code
def yX5_isUnder : MethodName := ⟨RX5, "isUnder", "(II)Z"⟩
abbrev cX5_above : ByteArray := prog_7_method_6_code
def yX5_above : MethodName := ⟨RX5, "above", "(I)I"⟩
abbrev cX5_own : ByteArray := prog_7_method_7_code
def yX5_own : MethodName := ⟨RX5, "own", "(II)I"⟩
abbrev cX5_ranAs : ByteArray := prog_7_method_8_code
def yX5_ranAs : MethodName := ⟨RX5, "ranAs", "(I)I"⟩
abbrev cX5_perform : ByteArray := prog_7_method_9_code
def yX5_perform : MethodName := ⟨RX5, "perform", "(III)I"⟩
abbrev cX5_run : ByteArray := prog_7_method_10_code
def yX5_run : MethodName := ⟨RX5, "run", "(IIII)I"⟩
abbrev cX5_runBody : ByteArray := prog_7_method_11_code
def yX5_runBody : MethodName := ⟨RX5, "runBody", "(IIII)I"⟩
def RX6 : String := "PaneAcross$Shelf"
def TX6 : u_T := fun k => match k with
  | 0 => ("PaneAcross$Shelf", "holds", "I", false)
  | 1 => ("PaneAcross$Shelf", "body", "I", false)
  | 2 => ("PaneAcross$Shelf", "length", "I", false)
  | _ => ("PaneAcross$Shelf", "cells", "[J", true)
def tyX6 : Nat → FieldType := fun k => match k with
  | 0 => .int
  | 1 => .int
  | 2 => .int
  | _ => .array .long
abbrev wsX60 : List Cond := u_ws RX6 TX6 4
theorem nmX6 : ∀ a, a < 4 → ∀ b, b < 4 → a ≠ b → (TX6 a).2.1 ≠ (TX6 b).2.1 := by decide +kernel
theorem tyX6_ok : ∀ k, k < 4 → parseFieldDescriptor (TX6 k).2.2.1 = some (tyX6 k) := by decide +kernel
abbrev cX6_init : ByteArray := prog_8_method_1_code
def yX6_init : MethodName := ⟨RX6, "<init>", "()V"⟩
abbrev cX6_isEmpty : ByteArray := prog_8_method_2_code
def yX6_isEmpty : MethodName := ⟨RX6, "isEmpty", "()Z"⟩
abbrev cX6_holdsRow : ByteArray := prog_8_method_3_code
def yX6_holdsRow : MethodName := ⟨RX6, "holdsRow", "()Z"⟩
abbrev cX6_holdsBytes : ByteArray := prog_8_method_4_code
def yX6_holdsBytes : MethodName := ⟨RX6, "holdsBytes", "()Z"⟩
abbrev cX6_holdBody : ByteArray := prog_8_method_5_code
def yX6_holdBody : MethodName := ⟨RX6, "holdBody", "(I)V"⟩
abbrev cX6_holdRow : ByteArray := prog_8_method_6_code
def yX6_holdRow : MethodName := ⟨RX6, "holdRow", "(II)V"⟩
abbrev cX6_left : ByteArray := prog_8_method_7_code
def yX6_left : MethodName := ⟨RX6, "left", "(I)I"⟩
abbrev cX6_cell : ByteArray := prog_8_method_8_code
def yX6_cell : MethodName := ⟨RX6, "cell", "(I)J"⟩
abbrev cX6_write : ByteArray := prog_8_method_9_code
def yX6_write : MethodName := ⟨RX6, "write", "(IJ)V"⟩
abbrev cX6_fitted : ByteArray := prog_8_method_10_code
def yX6_fitted : MethodName := ⟨RX6, "fitted", "(J)J"⟩
abbrev cX6_heldAt : ByteArray := prog_8_method_11_code
def yX6_heldAt : MethodName := ⟨RX6, "heldAt", "(I)I"⟩
def RX7 : String := "PaneAcross$Strains"
def TX7 : u_T := fun k => match k with
  | 0 => ("PaneAcross$Strains", "street", "LPaneAcross$Street;", true)
  | 1 => ("PaneAcross$Strains", "law", "LPaneAcross$Law;", true)
  | 2 => ("PaneAcross$Strains", "names", "[I", true)
  | 3 => ("PaneAcross$Strains", "known", "[I", true)
  | 4 => ("PaneAcross$Strains", "men", "I", false)
  | 5 => ("PaneAcross$Strains", "scratch", "I", false)
  | 6 => ("PaneAcross$Strains", "more", "I", false)
  | _ => ("PaneAcross$Strains", "limit", "I", false)
def tyX7 : Nat → FieldType := fun k => match k with
  | 0 => .object "PaneAcross$Street"
  | 1 => .object "PaneAcross$Law"
  | 2 => .array .int
  | 3 => .array .int
  | 4 => .int
  | 5 => .int
  | 6 => .int
  | _ => .int
abbrev wsX70 : List Cond := u_ws RX7 TX7 8
theorem nmX7 : ∀ a, a < 8 → ∀ b, b < 8 → a ≠ b → (TX7 a).2.1 ≠ (TX7 b).2.1 := by decide +kernel
theorem tyX7_ok : ∀ k, k < 8 → parseFieldDescriptor (TX7 k).2.2.1 = some (tyX7 k) := by decide +kernel
abbrev cX7_init : ByteArray := prog_9_method_1_code
def yX7_init : MethodName := ⟨RX7, "<init>", "(LPaneAcross$Street;LPaneAcross$Law;)V"⟩
abbrev cX7_suppose : ByteArray := prog_9_method_2_code
def yX7_suppose : MethodName := ⟨RX7, "suppose", "(III)V"⟩
abbrev cX7_supposeNow : ByteArray := prog_9_method_3_code
def yX7_supposeNow : MethodName := ⟨RX7, "supposeNow", "()V"⟩
abbrev cX7_isTooMuch : ByteArray := prog_9_method_4_code
def yX7_isTooMuch : MethodName := ⟨RX7, "isTooMuch", "(I)Z"⟩
abbrev cX7_left : ByteArray := prog_9_method_5_code
def yX7_left : MethodName := ⟨RX7, "left", "(I)I"⟩
abbrev cX7_inMinute : ByteArray := prog_9_method_6_code
def yX7_inMinute : MethodName := ⟨RX7, "inMinute", "(III)I"⟩
abbrev cX7_workedOut : ByteArray := prog_9_method_7_code
def yX7_workedOut : MethodName := ⟨RX7, "workedOut", "(III)I"⟩
def RX8 : String := "PaneAcross$Street"
def TX8 : u_T := fun k => match k with
  | 0 => ("PaneAcross$Street", "numbers", "[I", true)
  | _ => ("PaneAcross$Street", "places", "I", false)
def tyX8 : Nat → FieldType := fun k => match k with
  | 0 => .array .int
  | _ => .int
abbrev wsX80 : List Cond := u_ws RX8 TX8 2
theorem nmX8 : ∀ a, a < 2 → ∀ b, b < 2 → a ≠ b → (TX8 a).2.1 ≠ (TX8 b).2.1 := by decide +kernel
theorem tyX8_ok : ∀ k, k < 2 → parseFieldDescriptor (TX8 k).2.2.1 = some (tyX8 k) := by decide +kernel
abbrev cX8_init : ByteArray := prog_10_method_1_code
def yX8_init : MethodName := ⟨RX8, "<init>", "()V"⟩
abbrev cX8_has : ByteArray := prog_10_method_2_code
def yX8_has : MethodName := ⟨RX8, "has", "(I)Z"⟩
abbrev cX8_add : ByteArray := prog_10_method_3_code
def yX8_add : MethodName := ⟨RX8, "add", "(III)I"⟩
abbrev cX8_slotOf : ByteArray := prog_10_method_4_code
def yX8_slotOf : MethodName := ⟨RX8, "slotOf", "(II)I"⟩
abbrev cX8_read : ByteArray := prog_10_method_5_code
def yX8_read : MethodName := ⟨RX8, "read", "(I)I"⟩
abbrev cX8_write : ByteArray := prog_10_method_6_code
def yX8_write : MethodName := ⟨RX8, "write", "(II)V"⟩
abbrev cX8_number : ByteArray := prog_10_method_7_code
def yX8_number : MethodName := ⟨RX8, "number", "(II)I"⟩
abbrev cX8_isGusty : ByteArray := prog_10_method_8_code
def yX8_isGusty : MethodName := ⟨RX8, "isGusty", "(II)Z"⟩
abbrev cX8_windIn : ByteArray := prog_10_method_9_code
def yX8_windIn : MethodName := ⟨RX8, "windIn", "(II)I"⟩
def RX9 : String := "PaneAcross$Walks"
def TX9 : u_T := fun k => match k with
  | 0 => ("PaneAcross$Walks", "street", "LPaneAcross$Street;", true)
  | 1 => ("PaneAcross$Walks", "strains", "LPaneAcross$Strains;", true)
  | 2 => ("PaneAcross$Walks", "ahead", "[I", true)
  | 3 => ("PaneAcross$Walks", "reached", "[I", true)
  | 4 => ("PaneAcross$Walks", "crackedAt", "I", false)
  | 5 => ("PaneAcross$Walks", "greatest", "I", false)
  | 6 => ("PaneAcross$Walks", "cameThere", "I", false)
  | 7 => ("PaneAcross$Walks", "passedPlaces", "I", false)
  | _ => ("PaneAcross$Walks", "z", "I", false)
def tyX9 : Nat → FieldType := fun k => match k with
  | 0 => .object "PaneAcross$Street"
  | 1 => .object "PaneAcross$Strains"
  | 2 => .array .int
  | 3 => .array .int
  | 4 => .int
  | 5 => .int
  | 6 => .int
  | 7 => .int
  | _ => .int
abbrev wsX90 : List Cond := u_ws RX9 TX9 9
theorem nmX9 : ∀ a, a < 9 → ∀ b, b < 9 → a ≠ b → (TX9 a).2.1 ≠ (TX9 b).2.1 := by decide +kernel
theorem tyX9_ok : ∀ k, k < 9 → parseFieldDescriptor (TX9 k).2.2.1 = some (tyX9 k) := by decide +kernel
abbrev cX9_init : ByteArray := prog_11_method_1_code
def yX9_init : MethodName := ⟨RX9, "<init>", "(LPaneAcross$Street;LPaneAcross$Strains;)V"⟩
abbrev cX9_passes : ByteArray := prog_11_method_2_code
def yX9_passes : MethodName := ⟨RX9, "passes", "(LPaneAcross$Shelf;)Z"⟩
abbrev cX9_follow : ByteArray := prog_11_method_3_code
def yX9_follow : MethodName := ⟨RX9, "follow", "(LPaneAcross$Shelf;II)V"⟩
abbrev cX9_bestStart : ByteArray := prog_11_method_4_code
def yX9_bestStart : MethodName := ⟨RX9, "bestStart", "(LPaneAcross$Shelf;)I"⟩
abbrev cX9_fewestMen : ByteArray := prog_11_method_5_code
def yX9_fewestMen : MethodName := ⟨RX9, "fewestMen", "(LPaneAcross$Shelf;I)I"⟩
abbrev cX9_nearestVan : ByteArray := prog_11_method_6_code
def yX9_nearestVan : MethodName := ⟨RX9, "nearestVan", "(LPaneAcross$Shelf;I)I"⟩
abbrev cX9_leastMoreGust : ByteArray := prog_11_method_7_code
def yX9_leastMoreGust : MethodName := ⟨RX9, "leastMoreGust", "(LPaneAcross$Shelf;I)I"⟩
abbrev cX9_greatestScratch : ByteArray := prog_11_method_8_code
def yX9_greatestScratch : MethodName := ⟨RX9, "greatestScratch", "(LPaneAcross$Shelf;I)I"⟩
abbrev cX9_lookAhead : ByteArray := prog_11_method_9_code
def yX9_lookAhead : MethodName := ⟨RX9, "lookAhead", "(I)V"⟩
abbrev cX9_setAhead : ByteArray := prog_11_method_10_code
def yX9_setAhead : MethodName := ⟨RX9, "setAhead", "(III)V"⟩
abbrev cX9_turnedAhead : ByteArray := prog_11_method_11_code
def yX9_turnedAhead : MethodName := ⟨RX9, "turnedAhead", "(III)I"⟩
abbrev cX9_leastAhead : ByteArray := prog_11_method_12_code
def yX9_leastAhead : MethodName := ⟨RX9, "leastAhead", "(II)I"⟩
abbrev cX9_bestAhead : ByteArray := prog_11_method_13_code
def yX9_bestAhead : MethodName := ⟨RX9, "bestAhead", "(II)I"⟩
abbrev cX9_bestHold : ByteArray := prog_11_method_14_code
def yX9_bestHold : MethodName := ⟨RX9, "bestHold", "()J"⟩
abbrev cX9_fewestMinutes : ByteArray := prog_11_method_15_code
def yX9_fewestMinutes : MethodName := ⟨RX9, "fewestMinutes", "(I)I"⟩
abbrev cX9_leastWithin : ByteArray := prog_11_method_16_code
def yX9_leastWithin : MethodName := ⟨RX9, "leastWithin", "(II)I"⟩
abbrev cX9_reachedShop : ByteArray := prog_11_method_17_code
def yX9_reachedShop : MethodName := ⟨RX9, "reachedShop", "()I"⟩
abbrev cX9_reachBy : ByteArray := prog_11_method_18_code
def yX9_reachBy : MethodName := ⟨RX9, "reachBy", "(II)V"⟩
abbrev cX9_borne : ByteArray := prog_11_method_19_code
def yX9_borne : MethodName := ⟨RX9, "borne", "(III)I"⟩
abbrev cX9_minutesLike : ByteArray := prog_11_method_20_code
def yX9_minutesLike : MethodName := ⟨RX9, "minutesLike", "(LPaneAcross$Shelf;I)J"⟩
abbrev cX9_firstUnlike : ByteArray := prog_11_method_21_code
def yX9_firstUnlike : MethodName := ⟨RX9, "firstUnlike", "(LPaneAcross$Shelf;II)I"⟩
abbrev cX9_draw : ByteArray := prog_11_method_22_code
def yX9_draw : MethodName := ⟨RX9, "draw", "(III)V"⟩
abbrev cX9_drawOne : ByteArray := prog_11_method_23_code
def yX9_drawOne : MethodName := ⟨RX9, "drawOne", "(II)V"⟩
def RX10 : String := "PaneAcross"
def TX10 : u_T := fun k => match k with
  | 0 => ("PaneAcross", "street", "LPaneAcross$Street;", true)
  | 1 => ("PaneAcross", "changes", "LPaneAcross$Changes;", true)
  | 2 => ("PaneAcross", "rule", "LPaneAcross$Law;", true)
  | 3 => ("PaneAcross", "strains", "LPaneAcross$Strains;", true)
  | 4 => ("PaneAcross", "walks", "LPaneAcross$Walks;", true)
  | 5 => ("PaneAcross", "chances", "LPaneAcross$Chances;", true)
  | 6 => ("PaneAcross", "deeds", "LPaneAcross$Deeds;", true)
  | 7 => ("PaneAcross", "paces", "LPaneAcross$Paces;", true)
  | _ => ("PaneAcross", "shelves", "[LPaneAcross$Shelf;", true)
def tyX10 : Nat → FieldType := fun k => match k with
  | 0 => .object "PaneAcross$Street"
  | 1 => .object "PaneAcross$Changes"
  | 2 => .object "PaneAcross$Law"
  | 3 => .object "PaneAcross$Strains"
  | 4 => .object "PaneAcross$Walks"
  | 5 => .object "PaneAcross$Chances"
  | 6 => .object "PaneAcross$Deeds"
  | 7 => .object "PaneAcross$Paces"
  | _ => .array (.object "PaneAcross$Shelf")
abbrev wsX100 : List Cond := u_ws RX10 TX10 9
theorem nmX10 : ∀ a, a < 9 → ∀ b, b < 9 → a ≠ b → (TX10 a).2.1 ≠ (TX10 b).2.1 := by decide +kernel
theorem tyX10_ok : ∀ k, k < 9 → parseFieldDescriptor (TX10 k).2.2.1 = some (tyX10 k) := by decide +kernel
abbrev cX10_init : ByteArray := prog_1_method_1_code
def yX10_init : MethodName := ⟨RX10, "<init>", "()V"⟩
abbrev cX10_place : ByteArray := prog_1_method_2_code
def yX10_place : MethodName := ⟨RX10, "place", "(II)I"⟩
abbrev cX10_places : ByteArray := prog_1_method_3_code
def yX10_places : MethodName := ⟨RX10, "places", "(III)I"⟩
abbrev cX10_addFrom : ByteArray := prog_1_method_4_code
def yX10_addFrom : MethodName := ⟨RX10, "addFrom", "(LPaneAcross$Shelf;I)Z"⟩
abbrev cX10_mend : ByteArray := prog_1_method_5_code
def yX10_mend : MethodName := ⟨RX10, "mend", "(III)I"⟩
abbrev cX10_of : ByteArray := prog_1_method_6_code
def yX10_of : MethodName := ⟨RX10, "of", "(II)I"⟩
abbrev cX10_wind : ByteArray := prog_1_method_7_code
def yX10_wind : MethodName := ⟨RX10, "wind", "(II)I"⟩
abbrev cX10_feed : ByteArray := prog_1_method_8_code
def yX10_feed : MethodName := ⟨RX10, "feed", "(I)I"⟩
abbrev cX10_law : ByteArray := prog_1_method_9_code
def yX10_law : MethodName := ⟨RX10, "law", "()I"⟩
abbrev cX10_strain : ByteArray := prog_1_method_10_code
def yX10_strain : MethodName := ⟨RX10, "strain", "(II)I"⟩
abbrev cX10_walk : ByteArray := prog_1_method_11_code
def yX10_walk : MethodName := ⟨RX10, "walk", "(III)I"⟩
abbrev cX10_start : ByteArray := prog_1_method_12_code
def yX10_start : MethodName := ⟨RX10, "start", "(II)I"⟩
abbrev cX10_hold : ByteArray := prog_1_method_13_code
def yX10_hold : MethodName := ⟨RX10, "hold", "(II)J"⟩
abbrev cX10_soonest : ByteArray := prog_1_method_14_code
def yX10_soonest : MethodName := ⟨RX10, "soonest", "(I)I"⟩
abbrev cX10_safest : ByteArray := prog_1_method_15_code
def yX10_safest : MethodName := ⟨RX10, "safest", "(II)I"⟩
abbrev cX10_menFor : ByteArray := prog_1_method_16_code
def yX10_menFor : MethodName := ⟨RX10, "menFor", "(II)I"⟩
abbrev cX10_van : ByteArray := prog_1_method_17_code
def yX10_van : MethodName := ⟨RX10, "van", "(II)I"⟩
abbrev cX10_windFrom : ByteArray := prog_1_method_18_code
def yX10_windFrom : MethodName := ⟨RX10, "windFrom", "(II)I"⟩
abbrev cX10_scratchFor : ByteArray := prog_1_method_19_code
def yX10_scratchFor : MethodName := ⟨RX10, "scratchFor", "(II)I"⟩
abbrev cX10_free : ByteArray := prog_1_method_20_code
def yX10_free : MethodName := ⟨RX10, "free", "(I)J"⟩
abbrev cX10_watch : ByteArray := prog_1_method_21_code
def yX10_watch : MethodName := ⟨RX10, "watch", "(I)J"⟩
abbrev cX10_earlier : ByteArray := prog_1_method_22_code
def yX10_earlier : MethodName := ⟨RX10, "earlier", "(II)J"⟩
abbrev cX10_cost : ByteArray := prog_1_method_23_code
def yX10_cost : MethodName := ⟨RX10, "cost", "(III)J"⟩
abbrev cX10_begun : ByteArray := prog_1_method_24_code
def yX10_begun : MethodName := ⟨RX10, "begun", "(II)J"⟩
abbrev cX10_judge : ByteArray := prog_1_method_25_code
def yX10_judge : MethodName := ⟨RX10, "judge", "(II)I"⟩
abbrev cX10_drawn : ByteArray := prog_1_method_26_code
def yX10_drawn : MethodName := ⟨RX10, "drawn", "(III)I"⟩
abbrev cX10_out : ByteArray := prog_1_method_27_code
def yX10_out : MethodName := ⟨RX10, "out", "(II)I"⟩
abbrev cX10_pace : ByteArray := prog_1_method_28_code
def yX10_pace : MethodName := ⟨RX10, "pace", "(I)I"⟩
abbrev cX10_rest : ByteArray := prog_1_method_29_code
def yX10_rest : MethodName := ⟨RX10, "rest", "(I)I"⟩
abbrev cX10_led : ByteArray := prog_1_method_30_code
def yX10_led : MethodName := ⟨RX10, "led", "(I)I"⟩
abbrev cX10_image : ByteArray := prog_1_method_31_code
def yX10_image : MethodName := ⟨RX10, "image", "()I"⟩
abbrev cX10_back : ByteArray := prog_1_method_32_code
def yX10_back : MethodName := ⟨RX10, "back", "()I"⟩
abbrev cX10_undo : ByteArray := prog_1_method_33_code
def yX10_undo : MethodName := ⟨RX10, "undo", "()I"⟩
abbrev cX10_redo : ByteArray := prog_1_method_34_code
def yX10_redo : MethodName := ⟨RX10, "redo", "()I"⟩
abbrev cX10_body : ByteArray := prog_1_method_35_code
def yX10_body : MethodName := ⟨RX10, "body", "(I)I"⟩
abbrev cX10_act : ByteArray := prog_1_method_36_code
def yX10_act : MethodName := ⟨RX10, "act", "(III)I"⟩
abbrev cX10_trace : ByteArray := prog_1_method_37_code
def yX10_trace : MethodName := ⟨RX10, "trace", "(I)I"⟩
abbrev cX10_keep : ByteArray := prog_1_method_38_code
def yX10_keep : MethodName := ⟨RX10, "keep", "(II)I"⟩
abbrev cX10_row : ByteArray := prog_1_method_39_code
def yX10_row : MethodName := ⟨RX10, "row", "(III)I"⟩
abbrev cX10_put : ByteArray := prog_1_method_40_code
def yX10_put : MethodName := ⟨RX10, "put", "(IIJ)I"⟩
abbrev cX10_element : ByteArray := prog_1_method_41_code
def yX10_element : MethodName := ⟨RX10, "element", "(II)J"⟩
abbrev cX10_shift : ByteArray := prog_1_method_42_code
def yX10_shift : MethodName := ⟨RX10, "shift", "(IIIII)I"⟩
abbrev cX10_taken : ByteArray := prog_1_method_43_code
def yX10_taken : MethodName := ⟨RX10, "taken", "(II)I"⟩
abbrev cX10_count : ByteArray := prog_1_method_44_code
def yX10_count : MethodName := ⟨RX10, "count", "(I)I"⟩
abbrev cX10_isWithin : ByteArray := prog_1_method_45_code
def yX10_isWithin : MethodName := ⟨RX10, "isWithin", "(III)Z"⟩
abbrev cX10_isMinute : ByteArray := prog_1_method_46_code
def yX10_isMinute : MethodName := ⟨RX10, "isMinute", "(I)Z"⟩
abbrev cX10_isHold : ByteArray := prog_1_method_47_code
def yX10_isHold : MethodName := ⟨RX10, "isHold", "(I)Z"⟩
abbrev cX10_isAsSaid : ByteArray := prog_1_method_48_code
def yX10_isAsSaid : MethodName := ⟨RX10, "isAsSaid", "(II)Z"⟩
abbrev cX10_shelfAt : ByteArray := prog_1_method_49_code
def yX10_shelfAt : MethodName := ⟨RX10, "shelfAt", "(I)LPaneAcross$Shelf;"⟩
abbrev cX10_walkRefused : ByteArray := prog_1_method_50_code
def yX10_walkRefused : MethodName := ⟨RX10, "walkRefused", "(LPaneAcross$Shelf;)I"⟩
abbrev cX10_longRefusal : ByteArray := prog_1_method_51_code
def yX10_longRefusal : MethodName := ⟨RX10, "longRefusal", "(I)J"⟩
abbrev cX10_elementRefused : ByteArray := prog_1_method_52_code
def yX10_elementRefused : MethodName := ⟨RX10, "elementRefused", "(LPaneAcross$Shelf;I)I"⟩
def RX11 : String := "PaneAcrossModel"
def TX11 : u_T := fun k => match k with
  | 0 => ("PaneAcrossModel", "may", "[I", true)
  | 1 => ("PaneAcrossModel", "changeAt", "[I", true)
  | 2 => ("PaneAcrossModel", "changeWas", "[I", true)
  | 3 => ("PaneAcrossModel", "changeIs", "[I", true)
  | 4 => ("PaneAcrossModel", "keptMany", "I", false)
  | 5 => ("PaneAcrossModel", "done", "I", false)
  | 6 => ("PaneAcrossModel", "places", "I", false)
  | 7 => ("PaneAcrossModel", "moreGust", "I", false)
  | 8 => ("PaneAcrossModel", "tape", "[I", true)
  | 9 => ("PaneAcrossModel", "tapeMany", "I", false)
  | 10 => ("PaneAcrossModel", "text", "[I", true)
  | 11 => ("PaneAcrossModel", "textMany", "I", false)
  | 12 => ("PaneAcrossModel", "base", "I", false)
  | 13 => ("PaneAcrossModel", "at", "I", false)
  | 14 => ("PaneAcrossModel", "ends", "I", false)
  | 15 => ("PaneAcrossModel", "fault", "I", false)
  | 16 => ("PaneAcrossModel", "opened", "I", false)
  | 17 => ("PaneAcrossModel", "names", "[I", true)
  | 18 => ("PaneAcrossModel", "crackedIn", "I", false)
  | 19 => ("PaneAcrossModel", "mostStrain", "I", false)
  | 20 => ("PaneAcrossModel", "leastFrom", "[I", true)
  | 21 => ("PaneAcrossModel", "leastIn", "[I", true)
  | 22 => ("PaneAcrossModel", "leastThen", "[I", true)
  | 23 => ("PaneAcrossModel", "onPlace", "I", false)
  | 24 => ("PaneAcrossModel", "onMinute", "I", false)
  | 25 => ("PaneAcrossModel", "onHeld", "I", false)
  | 26 => ("PaneAcrossModel", "onStrain", "I", false)
  | 27 => ("PaneAcrossModel", "ledArrived", "I", false)
  | 28 => ("PaneAcrossModel", "ledCracked", "I", false)
  | 29 => ("PaneAcrossModel", "ledPaces", "I", false)
  | 30 => ("PaneAcrossModel", "ledRests", "I", false)
  | 31 => ("PaneAcrossModel", "ledLeft", "I", false)
  | 32 => ("PaneAcrossModel", "isKept", "Z", false)
  | 33 => ("PaneAcrossModel", "image", "[I", true)
  | 34 => ("PaneAcrossModel", "bodies", "I", false)
  | 35 => ("PaneAcrossModel", "bodyKind", "[I", true)
  | 36 => ("PaneAcrossModel", "trace", "[I", true)
  | 37 => ("PaneAcrossModel", "ran", "I", false)
  | 38 => ("PaneAcrossModel", "ownKind", "I", false)
  | 39 => ("PaneAcrossModel", "ownNumber", "I", false)
  | 40 => ("PaneAcrossModel", "shelf", "[I", true)
  | 41 => ("PaneAcrossModel", "many", "[I", true)
  | 42 => ("PaneAcrossModel", "items", "[J", true)
  | _ => ("PaneAcrossModel", "carried", "[J", true)
def tyX11 : Nat → FieldType := fun k => match k with
  | 0 => .array .int
  | 1 => .array .int
  | 2 => .array .int
  | 3 => .array .int
  | 4 => .int
  | 5 => .int
  | 6 => .int
  | 7 => .int
  | 8 => .array .int
  | 9 => .int
  | 10 => .array .int
  | 11 => .int
  | 12 => .int
  | 13 => .int
  | 14 => .int
  | 15 => .int
  | 16 => .int
  | 17 => .array .int
  | 18 => .int
  | 19 => .int
  | 20 => .array .int
  | 21 => .array .int
  | 22 => .array .int
  | 23 => .int
  | 24 => .int
  | 25 => .int
  | 26 => .int
  | 27 => .int
  | 28 => .int
  | 29 => .int
  | 30 => .int
  | 31 => .int
  | 32 => .boolean
  | 33 => .array .int
  | 34 => .int
  | 35 => .array .int
  | 36 => .array .int
  | 37 => .int
  | 38 => .int
  | 39 => .int
  | 40 => .array .int
  | 41 => .array .int
  | 42 => .array .long
  | _ => .array .long
abbrev wsX110 : List Cond := u_ws RX11 TX11 44
theorem nmX11 : ∀ a, a < 44 → ∀ b, b < 44 → a ≠ b → (TX11 a).2.1 ≠ (TX11 b).2.1 := by decide +kernel
theorem tyX11_ok : ∀ k, k < 44 → parseFieldDescriptor (TX11 k).2.2.1 = some (tyX11 k) := by decide +kernel
abbrev cX11_within : ByteArray := prog_13_method_1_code
def yX11_within : MethodName := ⟨RX11, "within", "(JJJ)Z"⟩
abbrev cX11_init : ByteArray := prog_13_method_2_code
def yX11_init : MethodName := ⟨RX11, "<init>", "()V"⟩
abbrev cX11_becomes : ByteArray := prog_13_method_3_code
def yX11_becomes : MethodName := ⟨RX11, "becomes", "(II)I"⟩
abbrev cX11_undo : ByteArray := prog_13_method_4_code
def yX11_undo : MethodName := ⟨RX11, "undo", "()I"⟩
abbrev cX11_redo : ByteArray := prog_13_method_5_code
def yX11_redo : MethodName := ⟨RX11, "redo", "()I"⟩
abbrev cX11_isPlace : ByteArray := prog_13_method_6_code
def yX11_isPlace : MethodName := ⟨RX11, "isPlace", "(I)Z"⟩
abbrev cX11_isHeld : ByteArray := prog_13_method_7_code
def yX11_isHeld : MethodName := ⟨RX11, "isHeld", "(J)Z"⟩
abbrev cX11_isMinute : ByteArray := prog_13_method_8_code
def yX11_isMinute : MethodName := ⟨RX11, "isMinute", "(I)Z"⟩
abbrev cX11_adds : ByteArray := prog_13_method_9_code
def yX11_adds : MethodName := ⟨RX11, "adds", "(III)V"⟩
abbrev cX11_isOne : ByteArray := prog_13_method_10_code
def yX11_isOne : MethodName := ⟨RX11, "isOne", "(JJJ)Z"⟩
abbrev cX11_place : ByteArray := prog_13_method_11_code
def yX11_place : MethodName := ⟨RX11, "place", "(II)I"⟩
abbrev cX11_places : ByteArray := prog_13_method_12_code
def yX11_places : MethodName := ⟨RX11, "places", "(III)I"⟩
abbrev cX11_placeOf : ByteArray := prog_13_method_13_code
def yX11_placeOf : MethodName := ⟨RX11, "placeOf", "(II)I"⟩
abbrev cX11_mayBecome : ByteArray := prog_13_method_14_code
def yX11_mayBecome : MethodName := ⟨RX11, "mayBecome", "(II)Z"⟩
abbrev cX11_mend : ByteArray := prog_13_method_15_code
def yX11_mend : MethodName := ⟨RX11, "mend", "(III)I"⟩
abbrev cX11_of : ByteArray := prog_13_method_16_code
def yX11_of : MethodName := ⟨RX11, "of", "(II)I"⟩
abbrev cX11_windAt : ByteArray := prog_13_method_17_code
def yX11_windAt : MethodName := ⟨RX11, "windAt", "(II)I"⟩
abbrev cX11_wind : ByteArray := prog_13_method_18_code
def yX11_wind : MethodName := ⟨RX11, "wind", "(II)I"⟩
abbrev cX11_feed : ByteArray := prog_13_method_19_code
def yX11_feed : MethodName := ⟨RX11, "feed", "(I)I"⟩
abbrev cX11_byteAt : ByteArray := prog_13_method_20_code
def yX11_byteAt : MethodName := ⟨RX11, "byteAt", "()I"⟩
abbrev cX11_wrong : ByteArray := prog_13_method_21_code
def yX11_wrong : MethodName := ⟨RX11, "wrong", "()I"⟩
abbrev cX11_takes : ByteArray := prog_13_method_22_code
def yX11_takes : MethodName := ⟨RX11, "takes", "(I)Z"⟩
abbrev cX11_either : ByteArray := prog_13_method_23_code
def yX11_either : MethodName := ⟨RX11, "either", "()I"⟩
abbrev cX11_both : ByteArray := prog_13_method_24_code
def yX11_both : MethodName := ⟨RX11, "both", "()I"⟩
abbrev cX11_compared : ByteArray := prog_13_method_25_code
def yX11_compared : MethodName := ⟨RX11, "compared", "()I"⟩
abbrev cX11_sums : ByteArray := prog_13_method_26_code
def yX11_sums : MethodName := ⟨RX11, "sums", "()I"⟩
abbrev cX11_product : ByteArray := prog_13_method_27_code
def yX11_product : MethodName := ⟨RX11, "product", "()I"⟩
abbrev cX11_nameOf : ByteArray := prog_13_method_28_code
def yX11_nameOf : MethodName := ⟨RX11, "nameOf", "(I)I"⟩
abbrev cX11_one : ByteArray := prog_13_method_29_code
def yX11_one : MethodName := ⟨RX11, "one", "()I"⟩
abbrev cX11_workOut : ByteArray := prog_13_method_30_code
def yX11_workOut : MethodName := ⟨RX11, "workOut", "(II)I"⟩
abbrev cX11_law : ByteArray := prog_13_method_31_code
def yX11_law : MethodName := ⟨RX11, "law", "()I"⟩
abbrev cX11_strainAt : ByteArray := prog_13_method_32_code
def yX11_strainAt : MethodName := ⟨RX11, "strainAt", "(III)I"⟩
abbrev cX11_strain : ByteArray := prog_13_method_33_code
def yX11_strain : MethodName := ⟨RX11, "strain", "(II)I"⟩
abbrev cX11_bears : ByteArray := prog_13_method_34_code
def yX11_bears : MethodName := ⟨RX11, "bears", "()I"⟩
abbrev cX11_bytesIs : ByteArray := prog_13_method_35_code
def yX11_bytesIs : MethodName := ⟨RX11, "bytesIs", "(I)I"⟩
abbrev cX11_walkIs : ByteArray := prog_13_method_36_code
def yX11_walkIs : MethodName := ⟨RX11, "walkIs", "(I)I"⟩
abbrev cX11_heldBy : ByteArray := prog_13_method_37_code
def yX11_heldBy : MethodName := ⟨RX11, "heldBy", "(II)I"⟩
abbrev cX11_walks : ByteArray := prog_13_method_38_code
def yX11_walks : MethodName := ⟨RX11, "walks", "(III)V"⟩
abbrev cX11_passes : ByteArray := prog_13_method_39_code
def yX11_passes : MethodName := ⟨RX11, "passes", "(I)I"⟩
abbrev cX11_walk : ByteArray := prog_13_method_40_code
def yX11_walk : MethodName := ⟨RX11, "walk", "(III)I"⟩
abbrev cX11_start : ByteArray := prog_13_method_41_code
def yX11_start : MethodName := ⟨RX11, "start", "(II)I"⟩
abbrev cX11_turned : ByteArray := prog_13_method_42_code
def yX11_turned : MethodName := ⟨RX11, "turned", "(II)I"⟩
abbrev cX11_bestHeld : ByteArray := prog_13_method_43_code
def yX11_bestHeld : MethodName := ⟨RX11, "bestHeld", "(II)I"⟩
abbrev cX11_fillsLeast : ByteArray := prog_13_method_44_code
def yX11_fillsLeast : MethodName := ⟨RX11, "fillsLeast", "(I)V"⟩
abbrev cX11_hold : ByteArray := prog_13_method_45_code
def yX11_hold : MethodName := ⟨RX11, "hold", "(II)J"⟩
abbrev cX11_begins1 : ByteArray := prog_13_method_46_code
def yX11_begins1 : MethodName := ⟨RX11, "begins1", "(I)V"⟩
abbrev cX11_restedAt : ByteArray := prog_13_method_47_code
def yX11_restedAt : MethodName := ⟨RX11, "restedAt", "(II)I"⟩
abbrev cX11_pacedTo : ByteArray := prog_13_method_48_code
def yX11_pacedTo : MethodName := ⟨RX11, "pacedTo", "(II)I"⟩
abbrev cX11_minuteGoes : ByteArray := prog_13_method_49_code
def yX11_minuteGoes : MethodName := ⟨RX11, "minuteGoes", "(I)V"⟩
abbrev cX11_soonest : ByteArray := prog_13_method_50_code
def yX11_soonest : MethodName := ⟨RX11, "soonest", "(I)I"⟩
abbrev cX11_safest : ByteArray := prog_13_method_51_code
def yX11_safest : MethodName := ⟨RX11, "safest", "(II)I"⟩
abbrev cX11_menFor : ByteArray := prog_13_method_52_code
def yX11_menFor : MethodName := ⟨RX11, "menFor", "(II)I"⟩
abbrev cX11_van : ByteArray := prog_13_method_53_code
def yX11_van : MethodName := ⟨RX11, "van", "(II)I"⟩
abbrev cX11_windFrom : ByteArray := prog_13_method_54_code
def yX11_windFrom : MethodName := ⟨RX11, "windFrom", "(II)I"⟩
abbrev cX11_scratchFor : ByteArray := prog_13_method_55_code
def yX11_scratchFor : MethodName := ⟨RX11, "scratchFor", "(II)I"⟩
abbrev cX11_commonOf : ByteArray := prog_13_method_56_code
def yX11_commonOf : MethodName := ⟨RX11, "commonOf", "(JJ)J"⟩
abbrev cX11_partOf : ByteArray := prog_13_method_57_code
def yX11_partOf : MethodName := ⟨RX11, "partOf", "(JJI)J"⟩
abbrev cX11_lineOf : ByteArray := prog_13_method_58_code
def yX11_lineOf : MethodName := ⟨RX11, "lineOf", "()J"⟩
abbrev cX11_freeWays : ByteArray := prog_13_method_59_code
def yX11_freeWays : MethodName := ⟨RX11, "freeWays", "(II)J"⟩
abbrev cX11_free : ByteArray := prog_13_method_60_code
def yX11_free : MethodName := ⟨RX11, "free", "(I)J"⟩
abbrev cX11_watch : ByteArray := prog_13_method_61_code
def yX11_watch : MethodName := ⟨RX11, "watch", "(I)J"⟩
abbrev cX11_earlier : ByteArray := prog_13_method_62_code
def yX11_earlier : MethodName := ⟨RX11, "earlier", "(II)J"⟩
abbrev cX11_cost : ByteArray := prog_13_method_63_code
def yX11_cost : MethodName := ⟨RX11, "cost", "(III)J"⟩
abbrev cX11_firstFalse : ByteArray := prog_13_method_64_code
def yX11_firstFalse : MethodName := ⟨RX11, "firstFalse", "(III)I"⟩
abbrev cX11_begun : ByteArray := prog_13_method_65_code
def yX11_begun : MethodName := ⟨RX11, "begun", "(II)J"⟩
abbrev cX11_judge : ByteArray := prog_13_method_66_code
def yX11_judge : MethodName := ⟨RX11, "judge", "(II)I"⟩
abbrev cX11_drawn : ByteArray := prog_13_method_67_code
def yX11_drawn : MethodName := ⟨RX11, "drawn", "(III)I"⟩
abbrev cX11_minuteIs : ByteArray := prog_13_method_68_code
def yX11_minuteIs : MethodName := ⟨RX11, "minuteIs", "(IZ)I"⟩
abbrev cX11_out : ByteArray := prog_13_method_69_code
def yX11_out : MethodName := ⟨RX11, "out", "(II)I"⟩
abbrev cX11_pace : ByteArray := prog_13_method_70_code
def yX11_pace : MethodName := ⟨RX11, "pace", "(I)I"⟩
abbrev cX11_rest : ByteArray := prog_13_method_71_code
def yX11_rest : MethodName := ⟨RX11, "rest", "(I)I"⟩
abbrev cX11_led : ByteArray := prog_13_method_72_code
def yX11_led : MethodName := ⟨RX11, "led", "(I)I"⟩
abbrev cX11_image : ByteArray := prog_13_method_73_code
def yX11_image : MethodName := ⟨RX11, "image", "()I"⟩
abbrev cX11_back : ByteArray := prog_13_method_74_code
def yX11_back : MethodName := ⟨RX11, "back", "()I"⟩
abbrev cX11_isBody : ByteArray := prog_13_method_75_code
def yX11_isBody : MethodName := ⟨RX11, "isBody", "(I)Z"⟩
abbrev cX11_kindOf : ByteArray := prog_13_method_76_code
def yX11_kindOf : MethodName := ⟨RX11, "kindOf", "(I)I"⟩
abbrev cX11_body : ByteArray := prog_13_method_77_code
def yX11_body : MethodName := ⟨RX11, "body", "(I)I"⟩
abbrev cX11_above : ByteArray := prog_13_method_78_code
def yX11_above : MethodName := ⟨RX11, "above", "(I)I"⟩
abbrev cX11_begins : ByteArray := prog_13_method_79_code
def yX11_begins : MethodName := ⟨RX11, "begins", "(I)V"⟩
abbrev cX11_goesAs : ByteArray := prog_13_method_80_code
def yX11_goesAs : MethodName := ⟨RX11, "goesAs", "(II)I"⟩
abbrev cX11_strainsAs : ByteArray := prog_13_method_81_code
def yX11_strainsAs : MethodName := ⟨RX11, "strainsAs", "(II)I"⟩
abbrev cX11_leansAs : ByteArray := prog_13_method_82_code
def yX11_leansAs : MethodName := ⟨RX11, "leansAs", "(II)I"⟩
abbrev cX11_tellsAs : ByteArray := prog_13_method_83_code
def yX11_tellsAs : MethodName := ⟨RX11, "tellsAs", "(II)I"⟩
abbrev cX11_act : ByteArray := prog_13_method_84_code
def yX11_act : MethodName := ⟨RX11, "act", "(III)I"⟩
abbrev cX11_trace : ByteArray := prog_13_method_85_code
def yX11_trace : MethodName := ⟨RX11, "trace", "(I)I"⟩
abbrev cX11_isShelf : ByteArray := prog_13_method_86_code
def yX11_isShelf : MethodName := ⟨RX11, "isShelf", "(I)Z"⟩
abbrev cX11_keep : ByteArray := prog_13_method_87_code
def yX11_keep : MethodName := ⟨RX11, "keep", "(II)I"⟩
abbrev cX11_row : ByteArray := prog_13_method_88_code
def yX11_row : MethodName := ⟨RX11, "row", "(III)I"⟩
abbrev cX11_refusal : ByteArray := prog_13_method_89_code
def yX11_refusal : MethodName := ⟨RX11, "refusal", "(II)I"⟩
abbrev cX11_asSort : ByteArray := prog_13_method_90_code
def yX11_asSort : MethodName := ⟨RX11, "asSort", "(IJ)J"⟩
abbrev cX11_put : ByteArray := prog_13_method_91_code
def yX11_put : MethodName := ⟨RX11, "put", "(IIJ)I"⟩
abbrev cX11_element : ByteArray := prog_13_method_92_code
def yX11_element : MethodName := ⟨RX11, "element", "(II)J"⟩
abbrev cX11_shift : ByteArray := prog_13_method_93_code
def yX11_shift : MethodName := ⟨RX11, "shift", "(IIIII)I"⟩
abbrev cX11_taken : ByteArray := prog_13_method_94_code
def yX11_taken : MethodName := ⟨RX11, "taken", "(II)I"⟩
abbrev cX11_count : ByteArray := prog_13_method_95_code
def yX11_count : MethodName := ⟨RX11, "count", "(I)I"⟩
def RJ9 : String := "java/lang/Math"
def TJ9 : u_T := fun k => match k with
  | _ => ("", "", "", false)
def tyJ9 : Nat → FieldType := fun k => match k with
  | _ => .int
abbrev wsJ90 : List Cond := u_ws RJ9 TJ9 0
theorem nmJ9 : ∀ a, a < 0 → ∀ b, b < 0 → a ≠ b → (TJ9 a).2.1 ≠ (TJ9 b).2.1 := by decide +kernel
theorem tyJ9_ok : ∀ k, k < 0 → parseFieldDescriptor (TJ9 k).2.2.1 = some (tyJ9 k) := by decide +kernel
abbrev cJ9_max_7cf53 : ByteArray := prog_14_method_65_code
def yJ9_max_7cf53 : MethodName := ⟨RJ9, "max", "(II)I"⟩
abbrev cJ9_min_7cf53 : ByteArray := prog_14_method_69_code
def yJ9_min_7cf53 : MethodName := ⟨RJ9, "min", "(II)I"⟩
def RJ10 : String := "java/lang/System"
def TJ10 : u_T := fun k => match k with
  | _ => ("", "", "", false)
def tyJ10 : Nat → FieldType := fun k => match k with
  | _ => .int
abbrev wsJ100 : List Cond := u_ws RJ10 TJ10 0
theorem nmJ10 : ∀ a, a < 0 → ∀ b, b < 0 → a ≠ b → (TJ10 a).2.1 ≠ (TJ10 b).2.1 := by decide +kernel
theorem tyJ10_ok : ∀ k, k < 0 → parseFieldDescriptor (TJ10 k).2.2.1 = some (tyJ10 k) := by decide +kernel
def RJ7 : String := "java/util/Arrays"
def TJ7 : u_T := fun k => match k with
  | _ => ("", "", "", false)
def tyJ7 : Nat → FieldType := fun k => match k with
  | _ => .int
abbrev wsJ70 : List Cond := u_ws RJ7 TJ7 0
theorem nmJ7 : ∀ a, a < 0 → ∀ b, b < 0 → a ≠ b → (TJ7 a).2.1 ≠ (TJ7 b).2.1 := by decide +kernel
theorem tyJ7_ok : ∀ k, k < 0 → parseFieldDescriptor (TJ7 k).2.2.1 = some (tyJ7 k) := by decide +kernel
abbrev cJ7_fill_d0a16 : ByteArray := prog_16_method_101_code
def yJ7_fill_d0a16 : MethodName := ⟨RJ7, "fill", "([JJ)V"⟩
abbrev cJ7_fill_53178 : ByteArray := prog_16_method_103_code
def yJ7_fill_53178 : MethodName := ⟨RJ7, "fill", "([II)V"⟩
def RL : String := "PaneAcrossLaw"
abbrev vwCl : List vw_C := [(RX0, TX0, 1), (RX1, TX1, 5), (RX2, TX2, 5), (RX3, TX3, 12), (RX4, TX4, 10), (RX5, TX5, 6), (RX6, TX6, 4), (RX7, TX7, 8), (RX8, TX8, 2), (RX9, TX9, 9), (RX10, TX10, 9), (RX11, TX11, 44)]
end
section
/-! THE LAYER: a small machine over a fixed lay-out of objects and arrays, sound for W. A cell is a pair (t, j): the j-th of its kind t. Numbers of all cells: SS. -/
abbrev AV : Type := Value ⊕ (Nat × Nat)
abbrev SS : Type := (Nat → Nat → Nat → Int32) × (Nat → Nat → Nat → Int32) × (Nat → Nat → Nat → Int64)
abbrev aI (x : Int32) : AV := .inl (.int x)
abbrev aJ (x : Int64) : AV := .inl (.long x)
abbrev aR (t j : Nat) : AV := .inr (t, j)
abbrev aN : AV := .inl .null
/-- what a kind of cell is: an object of a class, its fields (none: a number; some (t, b): the cell t, of the same place or the first), or an array: 0 of ints, 1 of longs, k + 2 of references to the cells of kind k; and how many of the kind there are -/
abbrev aSp : Type := (Nat × List (Option (Nat × Bool))) ⊕ (Nat × Nat)
abbrev aLy : Type := List (Nat × aSp)
abbrev aMp : Type := Nat → Nat → Nat
abbrev aCs : Type := ClassId × ClassId × ClassId
def rv (ad : aMp) : AV → Value
  | .inl v => v
  | .inr q => .ref (ad q.1 q.2)
def aFv (ad : aMp) (σ : SS) (t j k : Nat) : Option (Nat × Bool) → Value
  | none => .int (σ.1 t j k)
  | some (t2, b) => .ref (ad t2 (if b = true then j else 0))
def aFs (ad : aMp) (σ : SS) (t j : Nat) : Nat → List (Option (Nat × Bool)) → List Value
  | _, [] => []
  | k, f :: r => aFv ad σ t j k f :: aFs ad σ t j (k + 1) r
def aCell (cs : aCs) (ad : aMp) (σ : SS) (t j : Nat) : aSp → va_E
  | .inl (c, fl) => .inr (c, aFs ad σ t j 0 fl)
  | .inr (0, n) => .inl (cs.1, n, .inl (σ.2.1 t j))
  | .inr (1, n) => .inl (cs.2.1, n, .inr (.inl (σ.2.2 t j)))
  | .inr (k + 2, n) => .inl (cs.2.2, n, .inr (.inr (.inr (.inr (fun i => some (ad k i))))))
def aRow (t : Nat) : Nat → List (Nat × Nat)
  | 0 => []
  | n + 1 => aRow t n ++ [(t, n)]
def aIds : Nat → aLy → List (Nat × Nat)
  | _, [] => []
  | t, q :: r => aRow t q.1 ++ aIds (t + 1) r
def aSpOf (Λ : aLy) (t : Nat) : aSp := match Λ[t]? with
  | some q => q.2
  | none => .inr (0, 0)
def aWc (Λ : aLy) (cs : aCs) (ad : aMp) (σ : SS) (q : Nat × Nat) : va_E := aCell cs ad σ q.1 q.2 (aSpOf Λ q.1)
def aWl (Λ : aLy) (cs : aCs) (ad : aMp) (σ : SS) : va_W := (aIds 0 Λ).map (fun q => (ad q.1 q.2, aWc Λ cs ad σ q))
def sI (σ : SS) (t j k : Nat) (v : Int32) : SS := (fun a b c => if a = t ∧ b = j ∧ c = k then v else σ.1 a b c, σ.2.1, σ.2.2)
def sA (σ : SS) (t j i : Nat) (v : Int32) : SS := (σ.1, fun a b c => if a = t ∧ b = j ∧ c = i then v else σ.2.1 a b c, σ.2.2)
def sL (σ : SS) (t j i : Nat) (v : Int64) : SS := (σ.1, σ.2.1, fun a b c => if a = t ∧ b = j ∧ c = i then v else σ.2.2 a b c)
def sAf (σ : SS) (t j : Nat) (f : Nat → Int32) : SS := (σ.1, fun a b c => if a = t ∧ b = j then f c else σ.2.1 a b c, σ.2.2)
def sLf (σ : SS) (t j : Nat) (f : Nat → Int64) : SS := (σ.1, σ.2.1, fun a b c => if a = t ∧ b = j then f c else σ.2.2 a b c)
theorem aFs_len (ad : aMp) (σ : SS) (t j : Nat) : ∀ (fl : List (Option (Nat × Bool))) (i : Nat), (aFs ad σ t j i fl).length = fl.length
  | [], _ => rfl
  | _ :: r, i => by simp [aFs, aFs_len ad σ t j r (i + 1)]
theorem aFs_get (ad : aMp) (σ : SS) (t j : Nat) : ∀ (fl : List (Option (Nat × Bool))) (i k : Nat) {f : Option (Nat × Bool)}, fl[k]? = some f → (aFs ad σ t j i fl)[k]? = some (aFv ad σ t j (i + k) f)
  | [], _, _, _, h => by simp at h
  | g :: r, i, 0, f, h => by
    simp at h
    simp [aFs, h]
  | g :: r, i, k + 1, f, h => by
    have h1 : r[k]? = some f := by simpa using h
    have h2 := aFs_get ad σ t j r (i + 1) k h1
    rw [show i + 1 + k = i + (k + 1) by omega] at h2
    simpa [aFs] using h2
theorem aFs_eq {ad : aMp} {σ σ' : SS} {t j : Nat} (h : ∀ k, σ'.1 t j k = σ.1 t j k) : ∀ (fl : List (Option (Nat × Bool))) (i : Nat), aFs ad σ' t j i fl = aFs ad σ t j i fl
  | [], _ => rfl
  | g :: r, i => by
    have e : aFv ad σ' t j i g = aFv ad σ t j i g := by
      cases g with
      | none => simp [aFv, h]
      | some q => rfl
    simp [aFs, e, aFs_eq h r (i + 1)]
theorem aFs_set {ad : aMp} {σ : SS} {t j : Nat} {v : Int32} : ∀ (fl : List (Option (Nat × Bool))) (i k : Nat), fl[k]? = some none → (aFs ad σ t j i fl).set k (.int v) = aFs ad (sI σ t j (i + k) v) t j i fl
  | [], _, _, h => by simp at h
  | g :: r, i, 0, h => by
    simp at h
    subst h
    have e : ∀ (l : List (Option (Nat × Bool))) (n : Nat), i < n → aFs ad (sI σ t j i v) t j n l = aFs ad σ t j n l := by
      intro l
      induction l with
      | nil => intros; rfl
      | cons g l ih =>
        intro n hn
        have e : aFv ad (sI σ t j i v) t j n g = aFv ad σ t j n g := by
          cases g with
          | none =>
            have hne : ¬ n = i := by omega
            simp [aFv, sI, hne]
          | some q => rfl
        simp [aFs, e, ih (n + 1) (by omega)]
    simp [aFs, aFv, e r (i + 1) (by omega)]
    simp [sI]
  | g :: r, i, k + 1, h => by
    have h1 : r[k]? = some none := by simpa using h
    have h2 := aFs_set (ad := ad) (σ := σ) (t := t) (j := j) (v := v) r (i + 1) k h1
    rw [show i + 1 + k = i + (k + 1) by omega] at h2
    have e : aFv ad (sI σ t j (i + (k + 1)) v) t j i g = aFv ad σ t j i g := by
      cases g with
      | none =>
        have hne : ¬ i = i + (k + 1) := by omega
        simp [aFv, sI]
      | some q => rfl
    simp [aFs, e, h2]
theorem aRow_mem {t n : Nat} {q : Nat × Nat} : q ∈ aRow t n ↔ q.1 = t ∧ q.2 < n := by
  induction n with
  | zero => simp [aRow]
  | succ n ih =>
    simp only [aRow, List.mem_append, ih, List.mem_singleton]
    obtain ⟨a, b⟩ := q
    simp only [Prod.mk.injEq]
    omega
theorem aIds_mem : ∀ (Λ : aLy) (i : Nat) {q : Nat × Nat}, q ∈ aIds i Λ ↔ ∃ r, Λ[q.1 - i]? = some r ∧ i ≤ q.1 ∧ q.2 < r.1
  | [], i, q => by simp [aIds]
  | p :: r, i, q => by
    simp only [aIds, List.mem_append, aRow_mem, aIds_mem r (i + 1)]
    constructor
    · rintro (⟨h1, h2⟩ | ⟨s, h1, h2, h3⟩)
      · exact ⟨p, by rw [h1, Nat.sub_self]; rfl, by omega, h2⟩
      · refine ⟨s, ?_, by omega, h3⟩
        rw [show q.1 - i = (q.1 - (i + 1)) + 1 by omega]
        simpa using h1
    · rintro ⟨s, h1, h2, h3⟩
      by_cases he : q.1 = i
      · left
        rw [he, Nat.sub_self] at h1
        cases h1
        exact ⟨he, h3⟩
      · right
        refine ⟨s, ?_, by omega, h3⟩
        rw [show q.1 - i = (q.1 - (i + 1)) + 1 by omega] at h1
        simpa using h1
theorem aRow_nd (t n : Nat) : (aRow t n).Nodup := by
  induction n with
  | zero => simp [aRow]
  | succ n ih =>
    refine List.nodup_append.mpr ⟨ih, by simp, ?_⟩
    intro a ha b hb
    rw [List.mem_singleton.mp hb]
    intro e
    subst e
    have := (aRow_mem.mp ha).2
    simp at this
theorem aIds_nd : ∀ (Λ : aLy) (i : Nat), (aIds i Λ).Nodup
  | [], _ => by simp [aIds]
  | p :: r, i => by
    refine List.nodup_append.mpr ⟨aRow_nd i p.1, aIds_nd r (i + 1), ?_⟩
    intro a ha b hb e
    subst e
    have h1 := (aRow_mem.mp ha).1
    obtain ⟨s, -, h2, -⟩ := (aIds_mem r (i + 1)).mp hb
    omega
theorem aIds_at {Λ : aLy} {t j n : Nat} {sp : aSp} (h : Λ[t]? = some (n, sp)) (hj : j < n) : ∃ p : Nat, (aIds 0 Λ)[p]? = some (t, j) := by
  have : (t, j) ∈ aIds 0 Λ := (aIds_mem Λ 0).mpr ⟨(n, sp), by simpa using h, by omega, hj⟩
  exact List.getElem?_of_mem this
theorem aWl_at {Λ : aLy} {cs : aCs} {ad : aMp} {σ : SS} {t j n : Nat} {sp : aSp} (h : Λ[t]? = some (n, sp)) (hj : j < n) : ∃ p : Nat, (aIds 0 Λ)[p]? = some (t, j) ∧ (aWl Λ cs ad σ)[p]? = some (ad t j, aCell cs ad σ t j sp) := by
  obtain ⟨p, hp⟩ := aIds_at h hj
  refine ⟨p, hp, ?_⟩
  unfold aWl
  rw [List.getElem?_map, hp]
  simp [aWc, aSpOf, h]
/-- one cell changed: the list of the new numbers -/
theorem aWl_set {Λ : aLy} {cs : aCs} {ad : aMp} {σ σ' : SS} {t j p : Nat} (hp : (aIds 0 Λ)[p]? = some (t, j)) (ho : ∀ q : Nat × Nat, q ≠ (t, j) → aWc Λ cs ad σ' q = aWc Λ cs ad σ q) : (aWl Λ cs ad σ).set p (ad t j, aWc Λ cs ad σ' (t, j)) = aWl Λ cs ad σ' := by
  have key : ∀ (l : List (Nat × Nat)) (p : Nat), l[p]? = some (t, j) → l.Nodup → (l.map (fun q => (ad q.1 q.2, aWc Λ cs ad σ q))).set p (ad t j, aWc Λ cs ad σ' (t, j)) = l.map (fun q => (ad q.1 q.2, aWc Λ cs ad σ' q)) := by
    intro l
    induction l with
    | nil => intro p hp; simp at hp
    | cons a l ih =>
      intro p hp hnd
      obtain ⟨h1, h2⟩ := List.nodup_cons.mp hnd
      cases p with
      | zero =>
        simp at hp
        subst hp
        simp only [List.map_cons, List.set_cons_zero]
        congr 1
        refine List.map_congr_left fun q hq => ?_
        rw [ho q (fun e => h1 (by rw [← e]; exact hq))]
      | succ p =>
        have hp' : l[p]? = some (t, j) := by simpa using hp
        have hne : a ≠ (t, j) := fun e => h1 (by rw [e]; exact List.mem_of_getElem? hp')
        simp only [List.map_cons, List.set_cons_succ]
        rw [ih p hp' h2, ho a hne]
  exact key _ _ hp (aIds_nd Λ 0)
theorem aWc_sI {Λ : aLy} {cs : aCs} {ad : aMp} {σ : SS} {t j k : Nat} {v : Int32} (q : Nat × Nat) (hq : q ≠ (t, j)) : aWc Λ cs ad (sI σ t j k v) q = aWc Λ cs ad σ q := by
  obtain ⟨a, b⟩ := q
  have hne : ¬ (a = t ∧ b = j) := fun ⟨h1, h2⟩ => hq (by rw [h1, h2])
  have e : ∀ k', (sI σ t j k v).1 a b k' = σ.1 a b k' := fun k' => if_neg (fun ⟨h1, h2, _⟩ => hne ⟨h1, h2⟩)
  unfold aWc
  match aSpOf Λ a with
  | .inl (c, fl) => simp [aCell, aFs_eq e]
  | .inr (0, n) => rfl
  | .inr (1, n) => rfl
  | .inr (k + 2, n) => rfl
theorem aWc_A {Λ : aLy} {cs : aCs} {ad : aMp} {σ σ' : SS} {t j : Nat} (h1 : σ'.1 = σ.1) (h3 : σ'.2.2 = σ.2.2) (h2 : ∀ a b, ¬ (a = t ∧ b = j) → σ'.2.1 a b = σ.2.1 a b) (q : Nat × Nat) (hq : q ≠ (t, j)) : aWc Λ cs ad σ' q = aWc Λ cs ad σ q := by
  obtain ⟨a, b⟩ := q
  have hne : ¬ (a = t ∧ b = j) := fun ⟨h1, h2⟩ => hq (by rw [h1, h2])
  unfold aWc
  match aSpOf Λ a with
  | .inl (c, fl) =>
    have e : ∀ k', σ'.1 a b k' = σ.1 a b k' := fun k' => by rw [h1]
    simp [aCell, aFs_eq e]
  | .inr (0, n) => simp [aCell, h2 a b hne]
  | .inr (1, n) => simp [aCell, h3]
  | .inr (k + 2, n) => rfl
theorem aWc_L {Λ : aLy} {cs : aCs} {ad : aMp} {σ σ' : SS} {t j : Nat} (h1 : σ'.1 = σ.1) (h3 : σ'.2.1 = σ.2.1) (h2 : ∀ a b, ¬ (a = t ∧ b = j) → σ'.2.2 a b = σ.2.2 a b) (q : Nat × Nat) (hq : q ≠ (t, j)) : aWc Λ cs ad σ' q = aWc Λ cs ad σ q := by
  obtain ⟨a, b⟩ := q
  have hne : ¬ (a = t ∧ b = j) := fun ⟨h1, h2⟩ => hq (by rw [h1, h2])
  unfold aWc
  match aSpOf Λ a with
  | .inl (c, fl) =>
    have e : ∀ k', σ'.1 a b k' = σ.1 a b k' := fun k' => by rw [h1]
    simp [aCell, aFs_eq e]
  | .inr (0, n) => simp [aCell, h3]
  | .inr (1, n) => simp [aCell, h2 a b hne]
  | .inr (k + 2, n) => rfl
/-! locals by their places: none: nothing is known -/
def aHas (ad : aMp) (L : Array Slot) (nL : Nat) (ls : List (Option AV)) : Prop := L.size = nL ∧ lv_wf L ∧ ∀ (j : Nat) (v : AV), ls[j]? = some (some v) → L[j]? = some (.val (rv ad v))
def aEnt (ad : aMp) : Nat → List (Option AV) → List (Nat × Value)
  | _, [] => []
  | i, none :: r => aEnt ad (i + 1) r
  | i, some v :: r => (i, rv ad v) :: aEnt ad (i + 1) r
theorem aEnt_mem {ad : aMp} : ∀ (ls : List (Option AV)) (i : Nat) {q : Nat × Value}, q ∈ aEnt ad i ls ↔ ∃ v, i ≤ q.1 ∧ ls[q.1 - i]? = some (some v) ∧ q.2 = rv ad v
  | [], i, q => by simp [aEnt]
  | none :: r, i, q => by
    rw [aEnt, aEnt_mem r (i + 1)]
    constructor
    · rintro ⟨v, h1, h2, h3⟩
      refine ⟨v, by omega, ?_, h3⟩
      rw [show q.1 - i = (q.1 - (i + 1)) + 1 by omega]
      simpa using h2
    · rintro ⟨v, h1, h2, h3⟩
      by_cases he : q.1 = i
      · rw [he, Nat.sub_self] at h2
        simp at h2
      · refine ⟨v, by omega, ?_, h3⟩
        rw [show q.1 - i = (q.1 - (i + 1)) + 1 by omega] at h2
        simpa using h2
  | some w :: r, i, q => by
    rw [aEnt, List.mem_cons, aEnt_mem r (i + 1)]
    constructor
    · rintro (h | ⟨v, h1, h2, h3⟩)
      · subst h
        exact ⟨w, Nat.le_refl _, by simp, rfl⟩
      · refine ⟨v, by omega, ?_, h3⟩
        rw [show q.1 - i = (q.1 - (i + 1)) + 1 by omega]
        simpa using h2
    · rintro ⟨v, h1, h2, h3⟩
      by_cases he : q.1 = i
      · left
        rw [he, Nat.sub_self] at h2
        simp at h2
        obtain ⟨a, b⟩ := q
        simp at he h3
        rw [he, h3, h2]
      · right
        refine ⟨v, by omega, ?_, h3⟩
        rw [show q.1 - i = (q.1 - (i + 1)) + 1 by omega] at h2
        simpa using h2
theorem aHas.lv {ad : aMp} {L : Array Slot} {nL : Nat} {ls : List (Option AV)} (h : aHas ad L nL ls) : lv_has L nL (aEnt ad 0 ls) := ⟨h.1, h.2.1, fun q hq => by
  obtain ⟨v, -, h1, h2⟩ := (aEnt_mem ls 0).mp hq
  rw [h2]
  exact h.2.2 _ _ (by simpa using h1)⟩
def aLong : AV → Bool
  | .inl (.long _) => true
  | .inl (.double _) => true
  | _ => false
theorem aLong_cat (ad : aMp) (v : AV) : ((rv ad v).category == 2) = aLong v := by
  match v with
  | .inl w => cases w <;> rfl
  | .inr q => rfl
/-- a store: what stood there goes, and a long whose second half stood there -/
def aPut (ls : List (Option AV)) : Nat → AV → List (Option AV)
  | 0, v => ls.set 0 (some v)
  | k + 1, v => match ls[k]? with
    | some (some w) => cond (aLong w) ((ls.set k none).set (k + 1) (some v)) (ls.set (k + 1) (some v))
    | _ => ls.set (k + 1) (some v)
def aPut2 (ls : List (Option AV)) (i : Nat) (v : AV) : List (Option AV) := (aPut ls i v).set (i + 1) none
theorem set_get {α : Type} {l : List α} {i j : Nat} {v w : α} (h : (l.set i v)[j]? = some w) : (j = i ∧ w = v) ∨ (j ≠ i ∧ l[j]? = some w) := by
  rw [List.getElem?_set] at h
  by_cases hj : i = j
  · rw [if_pos hj] at h
    by_cases hl : i < l.length
    · rw [if_pos hl] at h
      exact Or.inl ⟨hj.symm, (Option.some.inj h).symm⟩
    · rw [if_neg hl] at h
      cases h
  · rw [if_neg hj] at h
    exact Or.inr ⟨fun e => hj e.symm, h⟩
theorem aPut_get {ls : List (Option AV)} {i : Nat} {v : AV} {j : Nat} {w : AV} (h : (aPut ls i v)[j]? = some (some w)) : (j = i ∧ w = v) ∨ (j ≠ i ∧ ls[j]? = some (some w) ∧ ¬ (j + 1 = i ∧ aLong w = true)) := by
  cases i with
  | zero =>
    rcases set_get h with ⟨h1, h2⟩ | ⟨h1, h2⟩
    · exact Or.inl ⟨h1, Option.some.inj h2⟩
    · exact Or.inr ⟨h1, h2, by omega⟩
  | succ k =>
    simp only [aPut] at h
    split at h
    · rename_i u hu
      cases hl : aLong u with
      | true =>
        rw [hl] at h
        rcases set_get h with ⟨h1, h2⟩ | ⟨h1, h2⟩
        · exact Or.inl ⟨h1, Option.some.inj h2⟩
        · rcases set_get h2 with ⟨h3, h4⟩ | ⟨h3, h4⟩
          · cases h4
          · exact Or.inr ⟨h1, h4, by omega⟩
      | false =>
        rw [hl] at h
        rcases set_get h with ⟨h1, h2⟩ | ⟨h1, h2⟩
        · exact Or.inl ⟨h1, Option.some.inj h2⟩
        · refine Or.inr ⟨h1, h2, fun ⟨e1, e2⟩ => ?_⟩
          rw [show j = k by omega, hu] at h2
          cases h2
          rw [hl] at e2
          cases e2
    · rename_i hu
      rcases set_get h with ⟨h1, h2⟩ | ⟨h1, h2⟩
      · exact Or.inl ⟨h1, Option.some.inj h2⟩
      · refine Or.inr ⟨h1, h2, fun ⟨e1, e2⟩ => ?_⟩
        rw [show j = k by omega] at h2
        exact hu _ h2
theorem aPut2_get {ls : List (Option AV)} {i : Nat} {v : AV} {j : Nat} {w : AV} (h : (aPut2 ls i v)[j]? = some (some w)) : (j = i ∧ w = v) ∨ (j ≠ i ∧ j ≠ i + 1 ∧ ls[j]? = some (some w) ∧ ¬ (j + 1 = i ∧ aLong w = true)) := by
  rcases set_get h with ⟨h1, h2⟩ | ⟨h1, h2⟩
  · cases h2
  · rcases aPut_get h2 with h3 | ⟨h3, h4, h5⟩
    · exact Or.inl h3
    · exact Or.inr ⟨h3, h1, h4, h5⟩
theorem aHas_put {ad : aMp} {L' : Array Slot} {nL i : Nat} {v : AV} {ls : List (Option AV)} (h : lv_has L' nL ((i, rv ad v) :: (aEnt ad 0 ls).filter (fun q => !(q.1 == i) && !(q.1 + 1 == i && q.2.category == 2)))) : aHas ad L' nL (aPut ls i v) := by
  refine ⟨h.1, h.2.1, fun j w hw => ?_⟩
  rcases aPut_get hw with ⟨h1, h2⟩ | ⟨h1, h2, h3⟩
  · subst h1; subst h2
    exact h.2.2 (j, rv ad w) List.mem_cons_self
  · refine h.2.2 (j, rv ad w) (List.mem_cons_of_mem _ (List.mem_filter.mpr ⟨(aEnt_mem ls 0).mpr ⟨w, Nat.zero_le _, by simpa using h2, rfl⟩, ?_⟩))
    rw [aLong_cat]
    have e1 : (j == i) = false := by simpa using h1
    have e2 : (j + 1 == i && aLong w) = false := by
      cases hb : aLong w with
      | false => simp
      | true =>
        have : ¬ j + 1 = i := fun e => h3 ⟨e, hb⟩
        simpa using this
    rw [e1, e2]
    rfl
theorem aHas_put2 {ad : aMp} {L' : Array Slot} {nL i : Nat} {v : AV} {ls : List (Option AV)} (h : lv_has L' nL ((i, rv ad v) :: (aEnt ad 0 ls).filter (fun q => !(q.1 == i) && (!(q.1 == i + 1) && !(q.1 + 1 == i && q.2.category == 2))))) : aHas ad L' nL (aPut2 ls i v) := by
  refine ⟨h.1, h.2.1, fun j w hw => ?_⟩
  rcases aPut2_get hw with ⟨h1, h2⟩ | ⟨h1, h0, h2, h3⟩
  · subst h1; subst h2
    exact h.2.2 (j, rv ad w) List.mem_cons_self
  · refine h.2.2 (j, rv ad w) (List.mem_cons_of_mem _ (List.mem_filter.mpr ⟨(aEnt_mem ls 0).mpr ⟨w, Nat.zero_le _, by simpa using h2, rfl⟩, ?_⟩))
    rw [aLong_cat]
    have e1 : (j == i) = false := by simpa using h1
    have e0 : (j == i + 1) = false := by simpa using h0
    have e2 : (j + 1 == i && aLong w) = false := by
      cases hb : aLong w with
      | false => simp
      | true =>
        have : ¬ j + 1 = i := fun e => h3 ⟨e, hb⟩
        simpa using this
    rw [e1, e0, e2]
    rfl
/-- less is known: by a mask -/
def aMsk : List Bool → List (Option AV) → List (Option AV)
  | true :: m, a :: r => a :: aMsk m r
  | false :: m, _ :: r => none :: aMsk m r
  | _, _ => []
theorem aMsk_get : ∀ (m : List Bool) (ls : List (Option AV)) (j : Nat) {w : AV}, (aMsk m ls)[j]? = some (some w) → ls[j]? = some (some w)
  | [], ls, j, w, h => by simp [aMsk] at h
  | true :: m, [], j, w, h => by simp [aMsk] at h
  | false :: m, [], j, w, h => by simp [aMsk] at h
  | true :: m, a :: r, 0, w, h => by simpa [aMsk] using h
  | true :: m, a :: r, j + 1, w, h => by
    have := aMsk_get m r j (w := w) (by simpa [aMsk] using h)
    simpa using this
  | false :: m, a :: r, 0, w, h => by simp [aMsk] at h
  | false :: m, a :: r, j + 1, w, h => by
    have := aMsk_get m r j (w := w) (by simpa [aMsk] using h)
    simpa using this
theorem aHas_sub {ad : aMp} {L : Array Slot} {nL : Nat} {ls ls' : List (Option AV)} (h : aHas ad L nL ls) (hs : ∀ (j : Nat) (w : AV), ls'[j]? = some (some w) → ls[j]? = some (some w)) : aHas ad L nL ls' := ⟨h.1, h.2.1, fun j v hv => h.2.2 j v (hs j v hv)⟩
/-! the static arrays: cells (100 + k, 0) -/
def aStC : Nat → String
  | 0 => "PaneAcross"
  | 1 => "PaneAcross"
  | _ => "PaneAcross$Paces"
def aStN : Nat → String
  | 0 => "LOWEST"
  | 1 => "HIGHEST"
  | 2 => "ABOVE"
  | _ => "OWN"
def aStV : Nat → List Int32
  | 0 => [0, 0, 1, 0, 0, 0, 0, 1, 0, 0, 0]
  | 1 => [30, 30, 60, 60, 9, 12, 3, 6, 999, 99, 999]
  | 2 => [-1, 0, 0, 2, 1, 3, 0, 4]
  | _ => [1, 10, 11, 2, 20, 0, 0, 0, 0, 30, 0, 0, 0, 41, 40, 0, 0, 0, 50, 0, 0, 0, 0, 60, 70, 0, 0, 0, 0, 80, 0, 81]
def aStF (k : Nat) (i : Nat) : Int32 := (aStV k).getD i 0
def aStL : Nat → Nat
  | 0 => 11
  | 1 => 11
  | 2 => 8
  | _ => 32
/-- the two private static methods that nest mates call -/
def aNw (U : State) : Prop := va_Nw (.methodLinkNest RX8 23 yX10_isWithin "PaneAcross") U ∧ va_Nw (.methodLinkNest RX6 39 yX10_isHold "PaneAcross") U
def aSt (ad : aMp) (A : Nat → Prop) (U : State) (H : Heap) : Prop := (∀ k, k < 4 → va_Z (aStC k) (aStN k) "[I" (.ref (ad (100 + k) 0)) A U H ∧ va_T .int (ad (100 + k) 0) (aStL k) (fun i => .int (aStF k i)) A U H) ∧ aNw U
end
section
/-! THE JUDGEMENT XW: from a place of a method's code, with locals, stack and numbers as told, the machine comes to Q. And XM: a method, called so, answers so and leaves the numbers so. -/
abbrev XC : Type := (Program × Launch × Env × Room) × (State × MethodId × Array Value × List Frame × Method × Code) × ((State → Prop) × Nat × Nat × Nat) × (va_G × aCs × aMp × (Nat → Prop) × aLy)
def XW (Γ : XC) (pc : Nat) (ls : List (Option AV)) (st : List AV) (σ : SS) : Prop := match Γ with
  | ((p, l, e, R), (s, m, args, below, meth, c), (Q, cells, slots, nL), (D, cs, ad, A, Λ)) =>
    ∀ (H : Heap) (locs : List Loc) (L : Array Slot), va_P D vwCl (aWl Λ cs ad σ) H → va_D A (aWl Λ cs ad σ) → va_S A s.heap H locs → aHas ad L nL ls →
      W p l e R s m args below meth c H locs cells slots Q (F0 m pc L (st.map (rv ad)))
/-- the good words of the tables: every method's words -/
def GW : List Cond := lw_tbl.filter goodWord
theorem GW_in {w : Cond} (h : w ∈ lw_tbl) (hg : goodWord w = true) : w ∈ GW := List.mem_filter.mpr ⟨h, hg⟩
theorem GW_0 {w : Cond} (n : Nat) (h : (k2_sels lw_privs)[n]? = some w) (hg : goodWord w = true) : w ∈ GW := GW_in (List.mem_append_left _ (List.mem_of_getElem? h)) hg
theorem GW_1 {w : Cond} (n : Nat) (h : tables_1_1[n]? = some w) (hg : goodWord w = true) : w ∈ GW := GW_in (List.mem_append_right _ (List.mem_append_left _ (List.mem_of_getElem? h))) hg
theorem GW_2 {w : Cond} (n : Nat) (h : tables_1_2[n]? = some w) (hg : goodWord w = true) : w ∈ GW := GW_in (List.mem_append_right _ (List.mem_append_right _ (List.mem_append_left _ (List.mem_of_getElem? h)))) hg
theorem GW_3 {w : Cond} (n : Nat) (h : tables_1_3[n]? = some w) (hg : goodWord w = true) : w ∈ GW := GW_in (List.mem_append_right _ (List.mem_append_right _ (List.mem_append_right _ (List.mem_append_left _ (List.mem_of_getElem? h))))) hg
theorem GW_4 {w : Cond} (n : Nat) (h : tables_1_4[n]? = some w) (hg : goodWord w = true) : w ∈ GW := GW_in (List.mem_append_right _ (List.mem_append_right _ (List.mem_append_right _ (List.mem_append_right _ (List.mem_append_left _ (List.mem_of_getElem? h)))))) hg
theorem GW_5 {w : Cond} (n : Nat) (h : tables_1_5[n]? = some w) (hg : goodWord w = true) : w ∈ GW := GW_in (List.mem_append_right _ (List.mem_append_right _ (List.mem_append_right _ (List.mem_append_right _ (List.mem_append_right _ (List.mem_append_left _ (List.mem_of_getElem? h))))))) hg
theorem GW_6 {w : Cond} (n : Nat) (h : tables_1_6[n]? = some w) (hg : goodWord w = true) : w ∈ GW := GW_in (List.mem_append_right _ (List.mem_append_right _ (List.mem_append_right _ (List.mem_append_right _ (List.mem_append_right _ (List.mem_append_right _ (List.mem_append_left _ (List.mem_of_getElem? h)))))))) hg
theorem GW_7 {w : Cond} (n : Nat) (h : tables_1_7[n]? = some w) (hg : goodWord w = true) : w ∈ GW := GW_in (List.mem_append_right _ (List.mem_append_right _ (List.mem_append_right _ (List.mem_append_right _ (List.mem_append_right _ (List.mem_append_right _ (List.mem_append_right _ (List.mem_of_getElem? h)))))))) hg
theorem GW_good : GoodIn GW GW := fun w hw => ⟨hw, good_of_word (List.mem_filter.mp hw).2⟩
def aTys (cs : aCs) : List (ClassId × FieldType) := [(cs.1, .int), (cs.2.1, .long), (cs.2.2, .object "PaneAcross$Shelf")]
/-- what holds all through a method's body -/
def XG (Γ : XC) (cc : ByteArray) (own : String) (d : Nat) : Prop := match Γ with
  | ((p, l, e, R), (s, m, args, below, meth, c), (Q, cells, slots, nL), (D, cs, ad, A, Λ)) =>
    p.tables.exec = Jvm.exec ∧ c.code = cc ∧ c.maxLocals = nL ∧ s.vm.findClass own = some m.cls ∧ (∀ w ∈ GW, w.before args s = true) ∧ va_K D vwCl (aTys cs) s ∧ aSt ad A s s.heap ∧
    d ≤ R.frames ∧ 64 * d ≤ R.locals ∧ cells ≤ R.cells ∧ slots ≤ R.slots ∧ 1 ≤ d
def xL (Γ : XC) : aLy := match Γ with
  | (_, _, _, (_, _, _, _, Λ)) => Λ
def xN (Γ : XC) : Nat := match Γ with
  | (_, _, (_, _, _, nL), _) => nL
theorem XW.loc {Γ : XC} {pc : Nat} {ls ls' : List (Option AV)} {st : List AV} {σ : SS} (m : List Bool) (h : aMsk m ls = ls') (k : XW Γ pc ls' st σ) : XW Γ pc ls st σ := by
  obtain ⟨⟨p, l, e, R⟩, ⟨s, m', args, below, meth, c⟩, ⟨Q, cells, slots, nL⟩, ⟨D, cs, ad, A, Λ⟩⟩ := Γ
  intro H locs L hP hD hS hL
  subst h
  exact k H locs L hP hD hS (aHas_sub hL (fun j w hw => aMsk_get _ _ _ hw))
def aLen : Instr → Nat
  | .bipush _ => 2
  | .ldc _ => 2
  | .iload _ => 2
  | .lload _ => 2
  | .aload _ => 2
  | .istore _ => 2
  | .lstore _ => 2
  | .astore _ => 2
  | .sipush _ => 3
  | .ldc_w _ => 3
  | .ldc2_w _ => 3
  | .iinc _ _ => 3
  | .goto _ => 3
  | .getfield _ => 3
  | .putfield _ => 3
  | .getstatic _ => 3
  | .invokestatic _ => 3
  | .invokevirtual _ => 3
  | .invokespecial _ => 3
  | .if_icmp _ _ => 3
  | .ifCond _ _ => 3
  | .ifnull _ => 3
  | .ifnonnull _ => 3
  | _ => 1
/-! one instruction that neither branches nor calls: the state behind it, and what must hold that it can be run -/
def aFd {α : Type} : List (Nat × α) → Nat → Option α
  | [], _ => none
  | q :: r, i => cond (Nat.beq q.1 i) (some q.2) (aFd r i)
theorem aFd_mem {α : Type} : ∀ {l : List (Nat × α)} {i : Nat} {v : α}, aFd l i = some v → (i, v) ∈ l
  | [], i, v, h => by simp [aFd] at h
  | q :: r, i, v, h => by
    unfold aFd at h
    cases hb : Nat.beq q.1 i with
    | true =>
      rw [hb] at h
      have e := Nat.eq_of_beq_eq_true hb
      obtain ⟨a, b⟩ := q
      simp at h e
      rw [e, h]
      exact List.mem_cons_self
    | false =>
      rw [hb] at h
      exact List.mem_cons_of_mem _ (aFd_mem h)
/-- a class's links: fields (class, place, whether a number may be put), statics, int and long constants, max (true) and min -/
abbrev aKt : Type := List (Nat × Nat × Nat × Bool × Nat) × List (Nat × Nat × Nat) × List (Nat × Int32 × Nat) × List (Nat × Int64 × Nat) × List (Nat × Bool × Nat)
def fldP (own : String) (q : Nat × Nat × Nat × Bool × Nat) : Prop := match vwCl[q.2.1]? with
  | some (C, T, N) => q.2.2.1 < N ∧ Cond.fieldLink own q.1 C (T q.2.2.1).2.1 (T q.2.2.1).2.2.1 ∈ GW ∧ (T q.2.2.1).1 = C ∧ (q.2.2.2.1 = true → (T q.2.2.1).2.2.2 = false ∧ parseFieldDescriptor (T q.2.2.1).2.2.1 = some .int)
  | none => False
theorem fldP_of {own C : String} {T : u_T} {x ci k N nw : Nat} {b : Bool} (hc : vwCl[ci]? = some (C, T, N)) (h1 : k < N) (h2 : Cond.fieldLink own x C (T k).2.1 (T k).2.2.1 ∈ GW) (h3 : (T k).1 = C) (h4 : (!b || (!(T k).2.2.2 && decide (parseFieldDescriptor (T k).2.2.1 = some .int))) = true) : fldP own (x, ci, k, b, nw) := by
  unfold fldP
  dsimp only
  rw [hc]
  refine ⟨h1, h2, h3, fun hb => ?_⟩
  subst hb
  simpa using h4
def stcP (own : String) (q : Nat × Nat × Nat) : Prop := q.2.1 < 4 ∧ Cond.fieldLink own q.1 (aStC q.2.1) (aStN q.2.1) "[I" ∈ GW
def mthP (own : String) (q : Nat × Bool × Nat) : Prop := match q.2.1 with
  | true => Cond.methodLink own q.1 Lib.Math.max.name ∈ GW
  | false => Cond.methodLink own q.1 Lib.Math.min.name ∈ GW
def KOK (own : String) (K : aKt) : Prop := (∀ q ∈ K.1, fldP own q) ∧ (∀ q ∈ K.2.1, stcP own q) ∧ (∀ q ∈ K.2.2.1, Cond.constant own q.1 q.2.1 ∈ GW) ∧ (∀ q ∈ K.2.2.2.1, Cond.constantLong own q.1 q.2.1 ∈ GW) ∧ (∀ q ∈ K.2.2.2.2, mthP own q)
abbrev aSte : Type := Nat × List (Option AV) × List AV × SS
def aJmp (pc : Nat) (off : Int) : Nat := ((pc : Int) + off).toNat
/-- which cells there are: the only one of its kind, or the j-th under a condition -/
def aJok : Nat → Nat → Option (List Prop)
  | 0, _ => none
  | 1, 0 => some []
  | 1, _ + 1 => none
  | n + 2, j => some [j < n + 2]
def aAll : List Prop → Prop
  | [] => True
  | p :: r => p ∧ aAll r
theorem aAll_app : ∀ {l1 l2 : List Prop}, aAll (l1 ++ l2) → aAll l1 ∧ aAll l2
  | [], _, h => ⟨trivial, h⟩
  | _ :: _, _, h => ⟨⟨h.1, (aAll_app h.2).1⟩, (aAll_app h.2).2⟩
def ex1 (K : aKt) (Λ : aLy) (N : Nat) (i : Instr) : aSte → Option (aSte × List Prop)
  | (pc, ls, st, σ) => match i with
    | .aconst_null => some ((pc + 1, ls, aN :: st, σ), [])
    | .iconst v => some ((pc + 1, ls, aI (Int32.ofInt v) :: st, σ), [])
    | .bipush v => some ((pc + 2, ls, aI (Int8.ofInt v).toInt32 :: st, σ), [])
    | .sipush v => some ((pc + 3, ls, aI (Int16.ofInt v).toInt32 :: st, σ), [])
    | .lconst v => some ((pc + 1, ls, aJ (Int64.ofNat (v : Nat)) :: st, σ), [])
    | .ldc x => match aFd K.2.2.1 x with
      | some (v, _) => some ((pc + 2, ls, aI v :: st, σ), [])
      | none => none
    | .ldc_w x => match aFd K.2.2.1 x with
      | some (v, _) => some ((pc + 3, ls, aI v :: st, σ), [])
      | none => none
    | .ldc2_w x => match aFd K.2.2.2.1 x with
      | some (v, _) => some ((pc + 3, ls, aJ v :: st, σ), [])
      | none => none
    | .iload_n k => match ls[(k : Nat)]? with
      | some (some (.inl (.int x))) => some ((pc + 1, ls, aI x :: st, σ), [])
      | _ => none
    | .iload k => match ls[k]? with
      | some (some (.inl (.int x))) => some ((pc + 2, ls, aI x :: st, σ), [])
      | _ => none
    | .lload_n k => match ls[(k : Nat)]? with
      | some (some (.inl (.long x))) => some ((pc + 1, ls, aJ x :: st, σ), [])
      | _ => none
    | .lload k => match ls[k]? with
      | some (some (.inl (.long x))) => some ((pc + 2, ls, aJ x :: st, σ), [])
      | _ => none
    | .aload_n k => match ls[(k : Nat)]? with
      | some (some (.inr q)) => some ((pc + 1, ls, .inr q :: st, σ), [])
      | some (some (.inl .null)) => some ((pc + 1, ls, aN :: st, σ), [])
      | _ => none
    | .aload k => match ls[k]? with
      | some (some (.inr q)) => some ((pc + 2, ls, .inr q :: st, σ), [])
      | some (some (.inl .null)) => some ((pc + 2, ls, aN :: st, σ), [])
      | _ => none
    | .istore_n k => match st with
      | .inl (.int x) :: r => cond (Nat.ble N k) none (some ((pc + 1, aPut ls k (aI x), r, σ), []))
      | _ => none
    | .istore k => match st with
      | .inl (.int x) :: r => cond (Nat.ble N k) none (some ((pc + 2, aPut ls k (aI x), r, σ), []))
      | _ => none
    | .lstore_n k => match st with
      | .inl (.long x) :: r => cond (Nat.ble N (k + 1)) none (some ((pc + 1, aPut2 ls k (aJ x), r, σ), []))
      | _ => none
    | .lstore k => match st with
      | .inl (.long x) :: r => cond (Nat.ble N (k + 1)) none (some ((pc + 2, aPut2 ls k (aJ x), r, σ), []))
      | _ => none
    | .astore_n k => match st with
      | .inr q :: r => cond (Nat.ble N k) none (some ((pc + 1, aPut ls k (.inr q), r, σ), []))
      | .inl .null :: r => cond (Nat.ble N k) none (some ((pc + 1, aPut ls k aN, r, σ), []))
      | _ => none
    | .astore k => match st with
      | .inr q :: r => cond (Nat.ble N k) none (some ((pc + 2, aPut ls k (.inr q), r, σ), []))
      | .inl .null :: r => cond (Nat.ble N k) none (some ((pc + 2, aPut ls k aN, r, σ), []))
      | _ => none
    | .iinc k v => match ls[k]? with
      | some (some (.inl (.int x))) => some ((pc + 3, aPut ls k (aI (x + Int32.ofInt v)), st, σ), [])
      | _ => none
    | .goto off => cond (Nat.beq (aJmp pc off) 0) none (some ((aJmp pc off, ls, st, σ), []))
    | .dup => match st with
      | .inl (.int x) :: r => some ((pc + 1, ls, aI x :: aI x :: r, σ), [])
      | .inr q :: r => some ((pc + 1, ls, .inr q :: .inr q :: r, σ), [])
      | _ => none
    | .dup_x1 => match st with
      | .inl (.int x) :: .inl (.int y) :: r => some ((pc + 1, ls, aI x :: aI y :: aI x :: r, σ), [])
      | .inl (.int x) :: .inr q :: r => some ((pc + 1, ls, aI x :: .inr q :: aI x :: r, σ), [])
      | _ => none
    | .iadd => match st with
      | .inl (.int y) :: .inl (.int x) :: r => some ((pc + 1, ls, aI (x + y) :: r, σ), [])
      | _ => none
    | .isub => match st with
      | .inl (.int y) :: .inl (.int x) :: r => some ((pc + 1, ls, aI (x - y) :: r, σ), [])
      | _ => none
    | .imul => match st with
      | .inl (.int y) :: .inl (.int x) :: r => some ((pc + 1, ls, aI (x * y) :: r, σ), [])
      | _ => none
    | .iand => match st with
      | .inl (.int y) :: .inl (.int x) :: r => some ((pc + 1, ls, aI (x &&& y) :: r, σ), [])
      | _ => none
    | .ixor => match st with
      | .inl (.int y) :: .inl (.int x) :: r => some ((pc + 1, ls, aI (x ^^^ y) :: r, σ), [])
      | _ => none
    | .idiv => match st with
      | .inl (.int y) :: .inl (.int x) :: r => some ((pc + 1, ls, aI (x / y) :: r, σ), [¬ y = 0])
      | _ => none
    | .irem => match st with
      | .inl (.int y) :: .inl (.int x) :: r => some ((pc + 1, ls, aI (x - x / y * y) :: r, σ), [¬ y = 0])
      | _ => none
    | .ineg => match st with
      | .inl (.int x) :: r => some ((pc + 1, ls, aI (-x) :: r, σ), [])
      | _ => none
    | .iushr => match st with
      | .inl (.int y) :: .inl (.int x) :: r => some ((pc + 1, ls, aI (x.toUInt32 >>> (y.toUInt32 &&& Int32.toUInt32 31)).toInt32 :: r, σ), [])
      | _ => none
    | .ladd => match st with
      | .inl (.long y) :: .inl (.long x) :: r => some ((pc + 1, ls, aJ (x + y) :: r, σ), [])
      | _ => none
    | .lsub => match st with
      | .inl (.long y) :: .inl (.long x) :: r => some ((pc + 1, ls, aJ (x - y) :: r, σ), [])
      | _ => none
    | .lmul => match st with
      | .inl (.long y) :: .inl (.long x) :: r => some ((pc + 1, ls, aJ (x * y) :: r, σ), [])
      | _ => none
    | .land => match st with
      | .inl (.long y) :: .inl (.long x) :: r => some ((pc + 1, ls, aJ (x &&& y) :: r, σ), [])
      | _ => none
    | .lor => match st with
      | .inl (.long y) :: .inl (.long x) :: r => some ((pc + 1, ls, aJ (x ||| y) :: r, σ), [])
      | _ => none
    | .ldiv => match st with
      | .inl (.long y) :: .inl (.long x) :: r => some ((pc + 1, ls, aJ (x / y) :: r, σ), [¬ y = 0])
      | _ => none
    | .lrem => match st with
      | .inl (.long y) :: .inl (.long x) :: r => some ((pc + 1, ls, aJ (x - x / y * y) :: r, σ), [¬ y = 0])
      | _ => none
    | .lshl => match st with
      | .inl (.int y) :: .inl (.long x) :: r => some ((pc + 1, ls, aJ (x <<< (y.toInt64 &&& 63)) :: r, σ), [])
      | _ => none
    | .lcmp => match st with
      | .inl (.long y) :: .inl (.long x) :: r => some ((pc + 1, ls, aI (lg_cmp x y) :: r, σ), [])
      | _ => none
    | .i2l => match st with
      | .inl (.int x) :: r => some ((pc + 1, ls, aJ x.toInt64 :: r, σ), [])
      | _ => none
    | .l2i => match st with
      | .inl (.long x) :: r => some ((pc + 1, ls, aI x.toInt32 :: r, σ), [])
      | _ => none
    | .i2b => match st with
      | .inl (.int x) :: r => some ((pc + 1, ls, aI x.toInt8.toInt32 :: r, σ), [])
      | _ => none
    | .i2s => match st with
      | .inl (.int x) :: r => some ((pc + 1, ls, aI x.toInt16.toInt32 :: r, σ), [])
      | _ => none
    | .getfield x => match st with
      | .inr (t, j) :: r => match aFd K.1 x, Λ[t]? with
        | some (ci, k, _, _), some (cn, .inl (c, fl)) => match fl[k]?, aJok cn j with
          | some none, some P => cond (Nat.beq ci c) (some ((pc + 3, ls, aI (σ.1 t j k) :: r, σ), P)) none
          | some (some (t2, b)), some P => cond (Nat.beq ci c) (some ((pc + 3, ls, aR t2 (cond b j 0) :: r, σ), P)) none
          | _, _ => none
        | _, _ => none
      | _ => none
    | .putfield x => match st with
      | .inl (.int v) :: .inr (t, j) :: r => match aFd K.1 x, Λ[t]? with
        | some (ci, k, true, _), some (cn, .inl (c, fl)) => match fl[k]?, aJok cn j with
          | some none, some P => cond (Nat.beq ci c) (some ((pc + 3, ls, r, sI σ t j k v), P)) none
          | _, _ => none
        | _, _ => none
      | _ => none
    | .getstatic x => match aFd K.2.1 x with
      | some (k, _) => some ((pc + 3, ls, aR (100 + k) 0 :: st, σ), [])
      | none => none
    | .invokestatic x => match st with
      | .inl (.int y) :: .inl (.int z) :: r => match aFd K.2.2.2.2 x with
        | some (true, _) => some ((pc + 3, ls, aI (if z < y then y else z) :: r, σ), [(r.map (fun v => (rv (fun _ _ => 0) v).category)).sum ≤ 8])
        | some (false, _) => some ((pc + 3, ls, aI (if y < z then y else z) :: r, σ), [(r.map (fun v => (rv (fun _ _ => 0) v).category)).sum ≤ 8])
        | none => none
      | _ => none
    | .arraylength => match st with
      | .inr (t, j) :: r => cond (Nat.ble 100 t) (cond (Nat.ble 104 t) none (some ((pc + 1, ls, aI (Int32.ofNat (aStL (t - 100))) :: r, σ), [j = 0]))) (match Λ[t]? with
        | some (cn, .inr (_, z)) => match aJok cn j with
          | some P => some ((pc + 1, ls, aI (Int32.ofNat z) :: r, σ), P)
          | none => none
        | _ => none)
      | _ => none
    | .iaload => match st with
      | .inl (.int x) :: .inr (t, j) :: r => cond (Nat.ble 100 t) (cond (Nat.ble 104 t) none (some ((pc + 1, ls, aI (aStF (t - 100) x.toNatClampNeg) :: r, σ), [j = 0, vp_in x (aStL (t - 100))]))) (match Λ[t]? with
        | some (cn, .inr (0, z)) => match aJok cn j with
          | some P => some ((pc + 1, ls, aI (σ.2.1 t j x.toNatClampNeg) :: r, σ), P ++ [vp_in x z])
          | none => none
        | _ => none)
      | _ => none
    | .laload => match st with
      | .inl (.int x) :: .inr (t, j) :: r => match Λ[t]? with
        | some (cn, .inr (1, z)) => match aJok cn j with
          | some P => some ((pc + 1, ls, aJ (σ.2.2 t j x.toNatClampNeg) :: r, σ), P ++ [vp_in x z])
          | none => none
        | _ => none
      | _ => none
    | .aaload => match st with
      | .inl (.int x) :: .inr (t, j) :: r => match Λ[t]? with
        | some (cn, .inr (k + 2, z)) => match aJok cn j with
          | some P => some ((pc + 1, ls, aR k x.toNatClampNeg :: r, σ), P ++ [vp_in x z])
          | none => none
        | _ => none
      | _ => none
    | .iastore => match st with
      | .inl (.int v) :: .inl (.int x) :: .inr (t, j) :: r => match Λ[t]? with
        | some (cn, .inr (0, z)) => match aJok cn j with
          | some P => some ((pc + 1, ls, r, sA σ t j x.toNatClampNeg v), P ++ [vp_in x z])
          | none => none
        | _ => none
      | _ => none
    | .lastore => match st with
      | .inl (.long v) :: .inl (.int x) :: .inr (t, j) :: r => match Λ[t]? with
        | some (cn, .inr (1, z)) => match aJok cn j with
          | some P => some ((pc + 1, ls, r, sL σ t j x.toNatClampNeg v), P ++ [vp_in x z])
          | none => none
        | _ => none
      | _ => none
    | _ => none
end
section
theorem aJok_lt {n j : Nat} {P : List Prop} (h : aJok n j = some P) (hp : aAll P) : j < n := by
  match n, j, h with
  | 1, 0, _ => omega
  | n + 2, j, h =>
    simp only [aJok] at h
    cases h
    exact hp.1
def aVf (σ : SS) (t j k : Nat) : Option (Nat × Bool) → AV
  | none => aI (σ.1 t j k)
  | some (t2, b) => aR t2 (cond b j 0)
theorem aVf_rv (ad : aMp) (σ : SS) (t j k : Nat) (f : Option (Nat × Bool)) : aFv ad σ t j k f = rv ad (aVf σ t j k f) := by
  match f with
  | none => rfl
  | some (t2, true) => rfl
  | some (t2, false) => rfl
theorem cl_ws0 : ∀ w ∈ u_ws RX0 TX0 1, w ∈ GW := by
  intro w hw
  obtain ⟨k, hk, rfl⟩ := List.mem_map.mp hw
  have hk := List.mem_range.mp hk
  match k, hk with
  | 0, _ => exact GW_1 211 rfl rfl
  | n + 1, h => exact absurd h (by omega)
theorem cl_ws1 : ∀ w ∈ u_ws RX1 TX1 5, w ∈ GW := by
  intro w hw
  obtain ⟨k, hk, rfl⟩ := List.mem_map.mp hw
  have hk := List.mem_range.mp hk
  match k, hk with
  | 0, _ => exact GW_1 155 rfl rfl
  | 1, _ => exact GW_1 157 rfl rfl
  | 2, _ => exact GW_1 159 rfl rfl
  | 3, _ => exact GW_1 161 rfl rfl
  | 4, _ => exact GW_1 163 rfl rfl
  | n + 5, h => exact absurd h (by omega)
theorem cl_ws2 : ∀ w ∈ u_ws RX2 TX2 5, w ∈ GW := by
  intro w hw
  obtain ⟨k, hk, rfl⟩ := List.mem_map.mp hw
  have hk := List.mem_range.mp hk
  match k, hk with
  | 0, _ => exact GW_2 36 rfl rfl
  | 1, _ => exact GW_2 38 rfl rfl
  | 2, _ => exact GW_2 40 rfl rfl
  | 3, _ => exact GW_2 42 rfl rfl
  | 4, _ => exact GW_2 44 rfl rfl
  | n + 5, h => exact absurd h (by omega)
theorem cl_ws3 : ∀ w ∈ u_ws RX3 TX3 12, w ∈ GW := by
  intro w hw
  obtain ⟨k, hk, rfl⟩ := List.mem_map.mp hw
  have hk := List.mem_range.mp hk
  match k, hk with
  | 0, _ => exact GW_1 61 rfl rfl
  | 1, _ => exact GW_1 63 rfl rfl
  | 2, _ => exact GW_1 65 rfl rfl
  | 3, _ => exact GW_1 67 rfl rfl
  | 4, _ => exact GW_1 69 rfl rfl
  | 5, _ => exact GW_1 71 rfl rfl
  | 6, _ => exact GW_1 73 rfl rfl
  | 7, _ => exact GW_1 75 rfl rfl
  | 8, _ => exact GW_1 77 rfl rfl
  | 9, _ => exact GW_1 79 rfl rfl
  | 10, _ => exact GW_1 81 rfl rfl
  | 11, _ => exact GW_1 83 rfl rfl
  | n + 12, h => exact absurd h (by omega)
theorem cl_ws4 : ∀ w ∈ u_ws RX4 TX4 10, w ∈ GW := by
  intro w hw
  obtain ⟨k, hk, rfl⟩ := List.mem_map.mp hw
  have hk := List.mem_range.mp hk
  match k, hk with
  | 0, _ => exact GW_2 8 rfl rfl
  | 1, _ => exact GW_2 10 rfl rfl
  | 2, _ => exact GW_2 12 rfl rfl
  | 3, _ => exact GW_2 14 rfl rfl
  | 4, _ => exact GW_2 16 rfl rfl
  | 5, _ => exact GW_2 18 rfl rfl
  | 6, _ => exact GW_2 20 rfl rfl
  | 7, _ => exact GW_2 22 rfl rfl
  | 8, _ => exact GW_2 24 rfl rfl
  | 9, _ => exact GW_2 26 rfl rfl
  | n + 10, h => exact absurd h (by omega)
theorem cl_ws5 : ∀ w ∈ u_ws RX5 TX5 6, w ∈ GW := by
  intro w hw
  obtain ⟨k, hk, rfl⟩ := List.mem_map.mp hw
  have hk := List.mem_range.mp hk
  match k, hk with
  | 0, _ => exact GW_2 61 rfl rfl
  | 1, _ => exact GW_2 63 rfl rfl
  | 2, _ => exact GW_2 65 rfl rfl
  | 3, _ => exact GW_2 67 rfl rfl
  | 4, _ => exact GW_2 69 rfl rfl
  | 5, _ => exact GW_2 71 rfl rfl
  | n + 6, h => exact absurd h (by omega)
theorem cl_ws6 : ∀ w ∈ u_ws RX6 TX6 4, w ∈ GW := by
  intro w hw
  obtain ⟨k, hk, rfl⟩ := List.mem_map.mp hw
  have hk := List.mem_range.mp hk
  match k, hk with
  | 0, _ => exact GW_1 132 rfl rfl
  | 1, _ => exact GW_1 134 rfl rfl
  | 2, _ => exact GW_1 136 rfl rfl
  | 3, _ => exact GW_1 138 rfl rfl
  | n + 4, h => exact absurd h (by omega)
theorem cl_ws7 : ∀ w ∈ u_ws RX7 TX7 8, w ∈ GW := by
  intro w hw
  obtain ⟨k, hk, rfl⟩ := List.mem_map.mp hw
  have hk := List.mem_range.mp hk
  match k, hk with
  | 0, _ => exact GW_1 100 rfl rfl
  | 1, _ => exact GW_1 102 rfl rfl
  | 2, _ => exact GW_1 104 rfl rfl
  | 3, _ => exact GW_1 106 rfl rfl
  | 4, _ => exact GW_1 108 rfl rfl
  | 5, _ => exact GW_1 110 rfl rfl
  | 6, _ => exact GW_1 112 rfl rfl
  | 7, _ => exact GW_1 114 rfl rfl
  | n + 8, h => exact absurd h (by omega)
theorem cl_ws8 : ∀ w ∈ u_ws RX8 TX8 2, w ∈ GW := by
  intro w hw
  obtain ⟨k, hk, rfl⟩ := List.mem_map.mp hw
  have hk := List.mem_range.mp hk
  match k, hk with
  | 0, _ => exact GW_1 36 rfl rfl
  | 1, _ => exact GW_1 38 rfl rfl
  | n + 2, h => exact absurd h (by omega)
theorem cl_ws9 : ∀ w ∈ u_ws RX9 TX9 9, w ∈ GW := by
  intro w hw
  obtain ⟨k, hk, rfl⟩ := List.mem_map.mp hw
  have hk := List.mem_range.mp hk
  match k, hk with
  | 0, _ => exact GW_1 185 rfl rfl
  | 1, _ => exact GW_1 187 rfl rfl
  | 2, _ => exact GW_1 189 rfl rfl
  | 3, _ => exact GW_1 191 rfl rfl
  | 4, _ => exact GW_1 193 rfl rfl
  | 5, _ => exact GW_1 195 rfl rfl
  | 6, _ => exact GW_1 197 rfl rfl
  | 7, _ => exact GW_1 199 rfl rfl
  | 8, _ => exact GW_1 201 rfl rfl
  | n + 9, h => exact absurd h (by omega)
theorem cl_ws10 : ∀ w ∈ u_ws RX10 TX10 9, w ∈ GW := by
  intro w hw
  obtain ⟨k, hk, rfl⟩ := List.mem_map.mp hw
  have hk := List.mem_range.mp hk
  match k, hk with
  | 0, _ => exact GW_2 83 rfl rfl
  | 1, _ => exact GW_2 85 rfl rfl
  | 2, _ => exact GW_2 87 rfl rfl
  | 3, _ => exact GW_2 89 rfl rfl
  | 4, _ => exact GW_2 91 rfl rfl
  | 5, _ => exact GW_2 93 rfl rfl
  | 6, _ => exact GW_2 95 rfl rfl
  | 7, _ => exact GW_2 97 rfl rfl
  | 8, _ => exact GW_2 99 rfl rfl
  | n + 9, h => exact absurd h (by omega)
theorem cl_ws11 : ∀ w ∈ u_ws RX11 TX11 44, w ∈ GW := by
  intro w hw
  obtain ⟨k, hk, rfl⟩ := List.mem_map.mp hw
  have hk := List.mem_range.mp hk
  match k, hk with
  | 0, _ => exact GW_5 36 rfl rfl
  | 1, _ => exact GW_5 38 rfl rfl
  | 2, _ => exact GW_5 40 rfl rfl
  | 3, _ => exact GW_5 42 rfl rfl
  | 4, _ => exact GW_5 44 rfl rfl
  | 5, _ => exact GW_5 46 rfl rfl
  | 6, _ => exact GW_5 48 rfl rfl
  | 7, _ => exact GW_5 50 rfl rfl
  | 8, _ => exact GW_5 52 rfl rfl
  | 9, _ => exact GW_5 54 rfl rfl
  | 10, _ => exact GW_5 56 rfl rfl
  | 11, _ => exact GW_5 58 rfl rfl
  | 12, _ => exact GW_5 60 rfl rfl
  | 13, _ => exact GW_5 62 rfl rfl
  | 14, _ => exact GW_5 64 rfl rfl
  | 15, _ => exact GW_5 66 rfl rfl
  | 16, _ => exact GW_5 68 rfl rfl
  | 17, _ => exact GW_5 70 rfl rfl
  | 18, _ => exact GW_5 72 rfl rfl
  | 19, _ => exact GW_5 74 rfl rfl
  | 20, _ => exact GW_5 76 rfl rfl
  | 21, _ => exact GW_5 78 rfl rfl
  | 22, _ => exact GW_5 80 rfl rfl
  | 23, _ => exact GW_5 82 rfl rfl
  | 24, _ => exact GW_5 84 rfl rfl
  | 25, _ => exact GW_5 86 rfl rfl
  | 26, _ => exact GW_5 88 rfl rfl
  | 27, _ => exact GW_5 90 rfl rfl
  | 28, _ => exact GW_5 92 rfl rfl
  | 29, _ => exact GW_5 94 rfl rfl
  | 30, _ => exact GW_5 96 rfl rfl
  | 31, _ => exact GW_5 98 rfl rfl
  | 32, _ => exact GW_5 100 rfl rfl
  | 33, _ => exact GW_5 102 rfl rfl
  | 34, _ => exact GW_5 104 rfl rfl
  | 35, _ => exact GW_5 106 rfl rfl
  | 36, _ => exact GW_5 108 rfl rfl
  | 37, _ => exact GW_5 110 rfl rfl
  | 38, _ => exact GW_5 112 rfl rfl
  | 39, _ => exact GW_5 114 rfl rfl
  | 40, _ => exact GW_5 116 rfl rfl
  | 41, _ => exact GW_5 118 rfl rfl
  | 42, _ => exact GW_5 120 rfl rfl
  | 43, _ => exact GW_5 122 rfl rfl
  | n + 44, h => exact absurd h (by omega)
theorem cl_ws : ∀ (ci : Nat) (C : String) (T : u_T) (N : Nat), vwCl[ci]? = some (C, T, N) → ∀ w ∈ u_ws C T N, w ∈ GW := by
  intro ci C T N h w hw
  match ci, h with
  | 0, h => cases h; exact cl_ws0 w hw
  | 1, h => cases h; exact cl_ws1 w hw
  | 2, h => cases h; exact cl_ws2 w hw
  | 3, h => cases h; exact cl_ws3 w hw
  | 4, h => cases h; exact cl_ws4 w hw
  | 5, h => cases h; exact cl_ws5 w hw
  | 6, h => cases h; exact cl_ws6 w hw
  | 7, h => cases h; exact cl_ws7 w hw
  | 8, h => cases h; exact cl_ws8 w hw
  | 9, h => cases h; exact cl_ws9 w hw
  | 10, h => cases h; exact cl_ws10 w hw
  | 11, h => cases h; exact cl_ws11 w hw
  | n + 12, h => simp [vwCl] at h
theorem cl_ty : ∀ (ci : Nat) (C : String) (T : u_T) (N : Nat), vwCl[ci]? = some (C, T, N) → ∃ ty : Nat → FieldType, (∀ k, k < N → parseFieldDescriptor (T k).2.2.1 = some (ty k)) ∧ ∀ a, a < N → ∀ b, b < N → a ≠ b → (T a).2.1 ≠ (T b).2.1 := by
  intro ci C T N h
  match ci, h with
  | 0, h => cases h; exact ⟨_, tyX0_ok, nmX0⟩
  | 1, h => cases h; exact ⟨_, tyX1_ok, nmX1⟩
  | 2, h => cases h; exact ⟨_, tyX2_ok, nmX2⟩
  | 3, h => cases h; exact ⟨_, tyX3_ok, nmX3⟩
  | 4, h => cases h; exact ⟨_, tyX4_ok, nmX4⟩
  | 5, h => cases h; exact ⟨_, tyX5_ok, nmX5⟩
  | 6, h => cases h; exact ⟨_, tyX6_ok, nmX6⟩
  | 7, h => cases h; exact ⟨_, tyX7_ok, nmX7⟩
  | 8, h => cases h; exact ⟨_, tyX8_ok, nmX8⟩
  | 9, h => cases h; exact ⟨_, tyX9_ok, nmX9⟩
  | 10, h => cases h; exact ⟨_, tyX10_ok, nmX10⟩
  | 11, h => cases h; exact ⟨_, tyX11_ok, nmX11⟩
  | n + 12, h => simp [vwCl] at h
theorem GW_mx : Cond.static Lib.Math.max.name ∈ GW ∧ Cond.static Lib.Math.min.name ∈ GW ∧ Cond.initialized "java/lang/Math" ∈ GW ∧ Cond.code Lib.Math.max.name Lib.Math.max.code 2 (some .int) ∈ GW ∧ Cond.code Lib.Math.min.name Lib.Math.min.code 2 (some .int) ∈ GW :=
  ⟨GW_3 63 rfl rfl, GW_3 60 rfl rfl, GW_1 15 rfl rfl, GW_3 64 rfl rfl, GW_3 61 rfl rfl⟩
end
section
theorem sA_ne {σ : SS} {t j i a b : Nat} {v : Int32} (h : ¬ (a = t ∧ b = j)) : (sA σ t j i v).2.1 a b = σ.2.1 a b := by
  funext c
  exact if_neg (fun q => h ⟨q.1, q.2.1⟩)
theorem sL_ne {σ : SS} {t j i a b : Nat} {v : Int64} (h : ¬ (a = t ∧ b = j)) : (sL σ t j i v).2.2 a b = σ.2.2 a b := by
  funext c
  exact if_neg (fun q => h ⟨q.1, q.2.1⟩)
theorem sAf_ne {σ : SS} {t j a b : Nat} {f : Nat → Int32} (h : ¬ (a = t ∧ b = j)) : (sAf σ t j f).2.1 a b = σ.2.1 a b := by
  funext c
  exact if_neg h
theorem sLf_ne {σ : SS} {t j a b : Nat} {f : Nat → Int64} (h : ¬ (a = t ∧ b = j)) : (sLf σ t j f).2.2 a b = σ.2.2 a b := by
  funext c
  exact if_neg h
section XR
variable {Γ : XC} {cc : ByteArray} {own : String} {d pc : Nat} {ls : List (Option AV)} {r : List AV} {σ : SS}
theorem XW.getf (G : XG Γ cc own d) {x ci k t j cn nw : Nat} {b : Bool} {fl : List (Option (Nat × Bool))} {f : Option (Nat × Bool)} (hf : fldP own (x, ci, k, b, nw)) (hl : (xL Γ)[t]? = some (cn, .inl (ci, fl))) (hk : fl[k]? = some f) (hj : j < cn) (hd : decode cc pc = .ok (.getfield x, 3)) (kk : XW Γ (pc + 3) ls (aVf σ t j k f :: r) σ) : XW Γ pc ls (aR t j :: r) σ := by
  obtain ⟨⟨p, l, e, R⟩, ⟨s, m, args, below, meth, c⟩, ⟨Q, cells, slots, nL⟩, ⟨D, cs, ad, A, Λ⟩⟩ := Γ
  obtain ⟨hx, hb, hml, hown, hts, hK, hst, -⟩ := G
  intro H locs L hP hD hS hL
  have hl : Λ[t]? = some (cn, .inl (ci, fl)) := hl
  unfold fldP at hf
  dsimp only at hf
  split at hf
  · rename_i C T N hc
    obtain ⟨h1, h2, h3, -⟩ := hf
    obtain ⟨q0, -, hq⟩ := aWl_at (cs := cs) (ad := ad) (σ := σ) hl hj
    refine va_get (D := D) (ci := ci) (v := rv ad (aVf σ t j k f)) (C := C) (T := T) (N := N) (ref := C) hx hb hts (cl_ws ci C T N hc) hown hK hP q0 hq hc k h1 (hts _ h2) (fun y hy => by rw [h3] at hy; exact hy) ?_ hd (kk H locs L hP hD hS hL)
    rw [aFs_get ad σ t j fl 0 k hk, aVf_rv, Nat.zero_add]
  · cases hf
theorem XW.putf (G : XG Γ cc own d) {x ci k t j cn nw : Nat} {fl : List (Option (Nat × Bool))} {v : Int32} (hf : fldP own (x, ci, k, true, nw)) (hl : (xL Γ)[t]? = some (cn, .inl (ci, fl))) (hk : fl[k]? = some none) (hj : j < cn) (hd : decode cc pc = .ok (.putfield x, 3)) (kk : XW Γ (pc + 3) ls r (sI σ t j k v)) : XW Γ pc ls (aI v :: aR t j :: r) σ := by
  obtain ⟨⟨p, l, e, R⟩, ⟨s, m, args, below, meth, c⟩, ⟨Q, cells, slots, nL⟩, ⟨D, cs, ad, A, Λ⟩⟩ := Γ
  obtain ⟨hx, hb, hml, hown, hts, hK, hst, -⟩ := G
  intro H locs L hP hD hS hL
  have hl : Λ[t]? = some (cn, .inl (ci, fl)) := hl
  unfold fldP at hf
  dsimp only at hf
  split at hf
  · rename_i C T N hc
    obtain ⟨h1, h2, h3, h45⟩ := hf
    obtain ⟨h4, h5⟩ := h45 rfl
    obtain ⟨ty, hty, hnm⟩ := cl_ty ci C T N hc
    obtain ⟨q0, hq1, hq⟩ := aWl_at (cs := cs) (ad := ad) (σ := σ) hl hj
    refine va_put (D := D) (ci := ci) (v := .int v) (ty := .int) (C := C) (T := T) (N := N) (ref := C) hx hb hts (cl_ws ci C T N hc) ty hty hnm hown hK hP hD hS q0 hq hc k h1 (hts _ h2) (fun y hy => by rw [h3] at hy; exact hy) h4 h5 rfl rfl (by rw [aFs_len]; exact (List.getElem?_eq_some_iff.mp hk).1) hd (fun H1 locs1 hP1 hD1 hS1 => ?_)
    have e : (aWl Λ cs ad σ).set q0 (ad t j, .inr (ci, (aFs ad σ t j 0 fl).set k (.int v))) = aWl Λ cs ad (sI σ t j k v) := by
      rw [← aWl_set hq1 (fun q hq => aWc_sI q hq), aFs_set fl 0 k hk, Nat.zero_add]
      simp [aWc, aSpOf, show Λ[t]? = some (cn, .inl (ci, fl)) from hl, aCell]
    rw [e] at hP1 hD1
    exact kk H1 locs1 L hP1 hD1 hS1 hL
  · cases hf
theorem XW.iald (G : XG Γ cc own d) {t j cn n : Nat} {x : Int32} (hl : (xL Γ)[t]? = some (cn, .inr (0, n))) (hj : j < cn) (hin : vp_in x n) (hd : decode cc pc = .ok (.iaload, 1)) (kk : XW Γ (pc + 1) ls (aI (σ.2.1 t j x.toNatClampNeg) :: r) σ) : XW Γ pc ls (aI x :: aR t j :: r) σ := by
  obtain ⟨⟨p, l, e, R⟩, ⟨s, m, args, below, meth, c⟩, ⟨Q, cells, slots, nL⟩, ⟨D, cs, ad, A, Λ⟩⟩ := Γ
  obtain ⟨hx, hb, hml, hown, hts, hK, hst, -⟩ := G
  intro H locs L hP hD hS hL
  have hl : Λ[t]? = some (cn, .inr (0, n)) := hl
  obtain ⟨q0, -, hq⟩ := aWl_at (cs := cs) (ad := ad) (σ := σ) hl hj
  exact va_iald (D := D) (f := σ.2.1 t j) hx hb hK hP q0 0 hq rfl hin hd (kk H locs L hP hD hS hL)
theorem XW.lald (G : XG Γ cc own d) {t j cn n : Nat} {x : Int32} (hl : (xL Γ)[t]? = some (cn, .inr (1, n))) (hj : j < cn) (hin : vp_in x n) (hd : decode cc pc = .ok (.laload, 1)) (kk : XW Γ (pc + 1) ls (aJ (σ.2.2 t j x.toNatClampNeg) :: r) σ) : XW Γ pc ls (aI x :: aR t j :: r) σ := by
  obtain ⟨⟨p, l, e, R⟩, ⟨s, m, args, below, meth, c⟩, ⟨Q, cells, slots, nL⟩, ⟨D, cs, ad, A, Λ⟩⟩ := Γ
  obtain ⟨hx, hb, hml, hown, hts, hK, hst, -⟩ := G
  intro H locs L hP hD hS hL
  have hl : Λ[t]? = some (cn, .inr (1, n)) := hl
  obtain ⟨q0, -, hq⟩ := aWl_at (cs := cs) (ad := ad) (σ := σ) hl hj
  exact va_lald (D := D) (f := σ.2.2 t j) hx hb hK hP q0 1 hq rfl hin hd (kk H locs L hP hD hS hL)
theorem XW.aald (G : XG Γ cc own d) {t j cn n k : Nat} {x : Int32} (hl : (xL Γ)[t]? = some (cn, .inr (k + 2, n))) (hj : j < cn) (hin : vp_in x n) (hd : decode cc pc = .ok (.aaload, 1)) (kk : XW Γ (pc + 1) ls (aR k x.toNatClampNeg :: r) σ) : XW Γ pc ls (aI x :: aR t j :: r) σ := by
  obtain ⟨⟨p, l, e, R⟩, ⟨s, m, args, below, meth, c⟩, ⟨Q, cells, slots, nL⟩, ⟨D, cs, ad, A, Λ⟩⟩ := Γ
  obtain ⟨hx, hb, hml, hown, hts, hK, hst, -⟩ := G
  intro H locs L hP hD hS hL
  have hl : Λ[t]? = some (cn, .inr (k + 2, n)) := hl
  obtain ⟨q0, -, hq⟩ := aWl_at (cs := cs) (ad := ad) (σ := σ) hl hj
  exact va_aldq (D := D) (f := fun i => some (ad k i)) hx hb hK hP q0 2 hq rfl hin hd (kk H locs L hP hD hS hL)
theorem XW.alen (G : XG Γ cc own d) {t j cn n k : Nat} (hl : (xL Γ)[t]? = some (cn, .inr (k, n))) (hj : j < cn) (hd : decode cc pc = .ok (.arraylength, 1)) (kk : XW Γ (pc + 1) ls (aI (Int32.ofNat n) :: r) σ) : XW Γ pc ls (aR t j :: r) σ := by
  obtain ⟨⟨p, l, e, R⟩, ⟨s, m, args, below, meth, c⟩, ⟨Q, cells, slots, nL⟩, ⟨D, cs, ad, A, Λ⟩⟩ := Γ
  obtain ⟨hx, hb, hml, hown, hts, hK, hst, -⟩ := G
  intro H locs L hP hD hS hL
  have hl : Λ[t]? = some (cn, .inr (k, n)) := hl
  obtain ⟨q0, -, hq⟩ := aWl_at (cs := cs) (ad := ad) (σ := σ) hl hj
  match k, hq with
  | 0, hq => exact va_alen (D := D) hx hb hK hP q0 0 hq rfl rfl hd (kk H locs L hP hD hS hL)
  | 1, hq => exact va_alen (D := D) hx hb hK hP q0 1 hq rfl rfl hd (kk H locs L hP hD hS hL)
  | k + 2, hq => exact va_alen (D := D) hx hb hK hP q0 2 hq rfl rfl hd (kk H locs L hP hD hS hL)
theorem XW.iast (G : XG Γ cc own d) {t j cn n : Nat} {x v : Int32} (hl : (xL Γ)[t]? = some (cn, .inr (0, n))) (hj : j < cn) (hin : vp_in x n) (hd : decode cc pc = .ok (.iastore, 1)) (kk : XW Γ (pc + 1) ls r (sA σ t j x.toNatClampNeg v)) : XW Γ pc ls (aI v :: aI x :: aR t j :: r) σ := by
  obtain ⟨⟨p, l, e, R⟩, ⟨s, m, args, below, meth, c⟩, ⟨Q, cells, slots, nL⟩, ⟨D, cs, ad, A, Λ⟩⟩ := Γ
  obtain ⟨hx, hb, hml, hown, hts, hK, hst, -⟩ := G
  intro H locs L hP hD hS hL
  have hl : Λ[t]? = some (cn, .inr (0, n)) := hl
  obtain ⟨q0, hq1, hq⟩ := aWl_at (cs := cs) (ad := ad) (σ := σ) hl hj
  refine va_iast (D := D) (f := σ.2.1 t j) hx hb hK hP hD hS q0 0 hq rfl hin hd (fun H1 locs1 hP1 hD1 hS1 => ?_)
  have e2 : upd (σ.2.1 t j) x.toNatClampNeg v = (sA σ t j x.toNatClampNeg v).2.1 t j := by
    funext i
    simp [upd, sA]
  have e : (aWl Λ cs ad σ).set q0 (ad t j, .inl (cs.1, n, .inl (upd (σ.2.1 t j) x.toNatClampNeg v))) = aWl Λ cs ad (sA σ t j x.toNatClampNeg v) := by
    rw [← aWl_set (σ := σ) (σ' := sA σ t j x.toNatClampNeg v) hq1 (fun q hq => aWc_A (σ := σ) (σ' := sA σ t j x.toNatClampNeg v) rfl rfl (fun a b hab => sA_ne hab) q hq), e2]
    simp [aWc, aSpOf, show Λ[t]? = some (cn, .inr (0, n)) from hl, aCell]
  rw [e] at hP1 hD1
  exact kk H1 locs1 L hP1 hD1 hS1 hL
theorem XW.last (G : XG Γ cc own d) {t j cn n : Nat} {x : Int32} {v : Int64} (hl : (xL Γ)[t]? = some (cn, .inr (1, n))) (hj : j < cn) (hin : vp_in x n) (hd : decode cc pc = .ok (.lastore, 1)) (kk : XW Γ (pc + 1) ls r (sL σ t j x.toNatClampNeg v)) : XW Γ pc ls (aJ v :: aI x :: aR t j :: r) σ := by
  obtain ⟨⟨p, l, e, R⟩, ⟨s, m, args, below, meth, c⟩, ⟨Q, cells, slots, nL⟩, ⟨D, cs, ad, A, Λ⟩⟩ := Γ
  obtain ⟨hx, hb, hml, hown, hts, hK, hst, -⟩ := G
  intro H locs L hP hD hS hL
  have hl : Λ[t]? = some (cn, .inr (1, n)) := hl
  obtain ⟨q0, hq1, hq⟩ := aWl_at (cs := cs) (ad := ad) (σ := σ) hl hj
  refine va_last (D := D) (f := σ.2.2 t j) hx hb hK hP hD hS q0 1 hq rfl hin hd (fun H1 locs1 hP1 hD1 hS1 => ?_)
  have e2 : vp_updL (σ.2.2 t j) x.toNatClampNeg v = (sL σ t j x.toNatClampNeg v).2.2 t j := by
    funext i
    simp [vp_updL, sL]
  have e : (aWl Λ cs ad σ).set q0 (ad t j, .inl (cs.2.1, n, .inr (.inl (vp_updL (σ.2.2 t j) x.toNatClampNeg v)))) = aWl Λ cs ad (sL σ t j x.toNatClampNeg v) := by
    rw [← aWl_set (σ := σ) (σ' := sL σ t j x.toNatClampNeg v) hq1 (fun q hq => aWc_L (σ := σ) (σ' := sL σ t j x.toNatClampNeg v) rfl rfl (fun a b hab => sL_ne hab) q hq), e2]
    simp [aWc, aSpOf, show Λ[t]? = some (cn, .inr (1, n)) from hl, aCell]
  rw [e] at hP1 hD1
  exact kk H1 locs1 L hP1 hD1 hS1 hL
theorem XW.gets (G : XG Γ cc own d) {x k nw : Nat} (hf : stcP own (x, k, nw)) (hd : decode cc pc = .ok (.getstatic x, 3)) (kk : XW Γ (pc + 3) ls (aR (100 + k) 0 :: r) σ) : XW Γ pc ls r σ := by
  obtain ⟨⟨p, l, e, R⟩, ⟨s, m, args, below, meth, c⟩, ⟨Q, cells, slots, nL⟩, ⟨D, cs, ad, A, Λ⟩⟩ := Γ
  obtain ⟨hx, hb, hml, hown, hts, hK, hst, -⟩ := G
  intro H locs L hP hD hS hL
  exact va_gets hx hb (hst.1 k hf.1).1 hS hown (hts _ hf.2) (fun y hy => hy) hd (kk H locs L hP hD hS hL)
theorem XW.stld (G : XG Γ cc own d) {k : Nat} {x : Int32} (hk : k < 4) (hin : vp_in x (aStL k)) (hd : decode cc pc = .ok (.iaload, 1)) (kk : XW Γ (pc + 1) ls (aI (aStF k x.toNatClampNeg) :: r) σ) : XW Γ pc ls (aI x :: aR (100 + k) 0 :: r) σ := by
  obtain ⟨⟨p, l, e, R⟩, ⟨s, m, args, below, meth, c⟩, ⟨Q, cells, slots, nL⟩, ⟨D, cs, ad, A, Λ⟩⟩ := Γ
  obtain ⟨hx, hb, hml, hown, hts, hK, hst, -⟩ := G
  intro H locs L hP hD hS hL
  exact va_ti hx hb (hst.1 k hk).2 hS hin rfl hd (kk H locs L hP hD hS hL)
theorem XW.stlen (G : XG Γ cc own d) {k : Nat} (hk : k < 4) (hd : decode cc pc = .ok (.arraylength, 1)) (kk : XW Γ (pc + 1) ls (aI (Int32.ofNat (aStL k)) :: r) σ) : XW Γ pc ls (aR (100 + k) 0 :: r) σ := by
  obtain ⟨⟨p, l, e, R⟩, ⟨s, m, args, below, meth, c⟩, ⟨Q, cells, slots, nL⟩, ⟨D, cs, ad, A, Λ⟩⟩ := Γ
  obtain ⟨hx, hb, hml, hown, hts, hK, hst, -⟩ := G
  intro H locs L hP hD hS hL
  exact va_tlen hx hb (hst.1 k hk).2 hS rfl hd (kk H locs L hP hD hS hL)
theorem aCat_eq (ad1 ad2 : aMp) (r : List AV) : ((r.map (rv ad1)).map fun v => v.category) = r.map (fun v => (rv ad2 v).category) := by
  rw [List.map_map]
  refine List.map_congr_left fun v _ => ?_
  match v with
  | .inl w => rfl
  | .inr q => rfl
theorem XW.mmax (G : XG Γ cc own d) {x : Nat} {y z : Int32} (hf : Cond.methodLink own x Lib.Math.max.name ∈ GW) (hw : (r.map (fun v => (rv (fun _ _ => 0) v).category)).sum ≤ 8) (hd : decode cc pc = .ok (.invokestatic x, 3)) (kk : XW Γ (pc + 3) ls (aI (if z < y then y else z) :: r) σ) : XW Γ pc ls (aI y :: aI z :: r) σ := by
  obtain ⟨⟨p, l, e, R⟩, ⟨s, m, args, below, meth, c⟩, ⟨Q, cells, slots, nL⟩, ⟨D, cs, ad, A, Λ⟩⟩ := Γ
  obtain ⟨hx, hb, hml, hown, hts, hK, hst, g1, g2, g3, g4, g5⟩ := G
  intro H locs L hP hD hS hL
  rw [← aCat_eq ad] at hw
  exact va_mmax hx hb (hml.trans hL.1.symm) hown (hts _ hf) (hts _ GW_mx.1) (hts _ GW_mx.2.2.1) (hts _ GW_mx.2.2.2.1) (by omega) (by omega) g3 g4 hd (kk H locs L hP hD hS hL)
theorem XW.mmin (G : XG Γ cc own d) {x : Nat} {y z : Int32} (hf : Cond.methodLink own x Lib.Math.min.name ∈ GW) (hw : (r.map (fun v => (rv (fun _ _ => 0) v).category)).sum ≤ 8) (hd : decode cc pc = .ok (.invokestatic x, 3)) (kk : XW Γ (pc + 3) ls (aI (if y < z then y else z) :: r) σ) : XW Γ pc ls (aI y :: aI z :: r) σ := by
  obtain ⟨⟨p, l, e, R⟩, ⟨s, m, args, below, meth, c⟩, ⟨Q, cells, slots, nL⟩, ⟨D, cs, ad, A, Λ⟩⟩ := Γ
  obtain ⟨hx, hb, hml, hown, hts, hK, hst, g1, g2, g3, g4, g5⟩ := G
  intro H locs L hP hD hS hL
  rw [← aCat_eq ad] at hw
  exact va_mmin hx hb (hml.trans hL.1.symm) hown (hts _ hf) (hts _ GW_mx.2.1) (hts _ GW_mx.2.2.1) (hts _ GW_mx.2.2.2.2) (by omega) (by omega) g3 g4 hd (kk H locs L hP hD hS hL)
end XR
end
section
section XS
theorem ex1_ok {Γ : XC} {cc : ByteArray} {own : String} {d : Nat} {K : aKt} (G : XG Γ cc own d) (hK : KOK own K) {i : Instr} {pc : Nat} {ls : List (Option AV)} {st : List AV} {σ : SS} {s' : aSte} {P : List Prop} (hd : decode cc pc = .ok (i, aLen i)) (he : ex1 K (xL Γ) (xN Γ) i (pc, ls, st, σ) = some (s', P)) (hp : aAll P) (kk : XW Γ s'.1 s'.2.1 s'.2.2.1 s'.2.2.2) : XW Γ pc ls st σ := by
  have G0 := G
  obtain ⟨⟨p, l, e, R⟩, ⟨s, m, args, below, meth, c⟩, ⟨Q, cells, slots, nL⟩, ⟨D, cs, ad, A, Λ⟩⟩ := Γ
  obtain ⟨hx, hb, hml, hown, hts, hKK, hst, -⟩ := G
  have eN : xN ((p, l, e, R), (s, m, args, below, meth, c), (Q, cells, slots, nL), (D, cs, ad, A, Λ)) = nL := rfl
  cases i <;> try (exfalso; simp only [ex1] at he; cases he; done)
  case iadd =>
    simp only [ex1] at he
    split at he
    · cases he
      intro H locs L hP hD hS hL
      exact lv_iadd hx hb hd (kk H locs L hP hD hS hL)
    · cases he
  case isub =>
    simp only [ex1] at he
    split at he
    · cases he
      intro H locs L hP hD hS hL
      exact lv_isub hx hb hd (kk H locs L hP hD hS hL)
    · cases he
  case imul =>
    simp only [ex1] at he
    split at he
    · cases he
      intro H locs L hP hD hS hL
      exact lv_imul hx hb hd (kk H locs L hP hD hS hL)
    · cases he
  case iand =>
    simp only [ex1] at he
    split at he
    · cases he
      intro H locs L hP hD hS hL
      exact lv_iand hx hb hd (kk H locs L hP hD hS hL)
    · cases he
  case ixor =>
    simp only [ex1] at he
    split at he
    · cases he
      intro H locs L hP hD hS hL
      exact lv_ixor hx hb hd (kk H locs L hP hD hS hL)
    · cases he
  case ladd =>
    simp only [ex1] at he
    split at he
    · cases he
      intro H locs L hP hD hS hL
      exact lv_ladd hx hb hd (kk H locs L hP hD hS hL)
    · cases he
  case lsub =>
    simp only [ex1] at he
    split at he
    · cases he
      intro H locs L hP hD hS hL
      exact lv_lsub hx hb hd (kk H locs L hP hD hS hL)
    · cases he
  case lmul =>
    simp only [ex1] at he
    split at he
    · cases he
      intro H locs L hP hD hS hL
      exact lv_lmul hx hb hd (kk H locs L hP hD hS hL)
    · cases he
  case land =>
    simp only [ex1] at he
    split at he
    · cases he
      intro H locs L hP hD hS hL
      exact lv_land hx hb hd (kk H locs L hP hD hS hL)
    · cases he
  case lor =>
    simp only [ex1] at he
    split at he
    · cases he
      intro H locs L hP hD hS hL
      exact lv_lor hx hb hd (kk H locs L hP hD hS hL)
    · cases he
  case lcmp =>
    simp only [ex1] at he
    split at he
    · cases he
      intro H locs L hP hD hS hL
      exact W.lcmp hx hb hd (kk H locs L hP hD hS hL)
    · cases he
  case ineg =>
    simp only [ex1] at he
    split at he
    · cases he
      intro H locs L hP hD hS hL
      exact lv_ineg hx hb hd (kk H locs L hP hD hS hL)
    · cases he
  case idiv =>
    simp only [ex1] at he
    split at he
    · cases he
      intro H locs L hP hD hS hL
      exact lv_idiv hx hb hd hp.1 (kk H locs L hP hD hS hL)
    · cases he
  case irem =>
    simp only [ex1] at he
    split at he
    · cases he
      intro H locs L hP hD hS hL
      exact lv_irem hx hb hd hp.1 (kk H locs L hP hD hS hL)
    · cases he
  case ldiv =>
    simp only [ex1] at he
    split at he
    · cases he
      intro H locs L hP hD hS hL
      exact lv_ldiv hx hb hd hp.1 (kk H locs L hP hD hS hL)
    · cases he
  case lrem =>
    simp only [ex1] at he
    split at he
    · cases he
      intro H locs L hP hD hS hL
      exact lv_lrem hx hb hd hp.1 (kk H locs L hP hD hS hL)
    · cases he
  case i2b =>
    simp only [ex1] at he
    split at he
    · cases he
      intro H locs L hP hD hS hL
      exact lv_i2b hx hb hd rfl (kk H locs L hP hD hS hL)
    · cases he
  case i2l =>
    simp only [ex1] at he
    split at he
    · cases he
      intro H locs L hP hD hS hL
      exact lv_i2l hx hb hd rfl (kk H locs L hP hD hS hL)
    · cases he
  case i2s =>
    simp only [ex1] at he
    split at he
    · cases he
      intro H locs L hP hD hS hL
      exact lv_i2s hx hb hd rfl (kk H locs L hP hD hS hL)
    · cases he
  case iushr =>
    simp only [ex1] at he
    split at he
    · cases he
      intro H locs L hP hD hS hL
      exact lv_iushr hx hb hd rfl (kk H locs L hP hD hS hL)
    · cases he
  case l2i =>
    simp only [ex1] at he
    split at he
    · cases he
      intro H locs L hP hD hS hL
      exact lv_l2i hx hb hd rfl (kk H locs L hP hD hS hL)
    · cases he
  case lshl =>
    simp only [ex1] at he
    split at he
    · cases he
      intro H locs L hP hD hS hL
      exact lv_lshl hx hb hd rfl (kk H locs L hP hD hS hL)
    · cases he
  case aconst_null =>
    simp only [ex1] at he
    cases he
    intro H locs L hP hD hS hL
    exact lv_null hx hb hd (kk H locs L hP hD hS hL)
  case iconst v =>
    simp only [ex1] at he
    cases he
    intro H locs L hP hD hS hL
    exact lv_iconst hx hb hd rfl (kk H locs L hP hD hS hL)
  case bipush v =>
    simp only [ex1] at he
    cases he
    intro H locs L hP hD hS hL
    exact lv_bipush hx hb hd rfl (kk H locs L hP hD hS hL)
  case sipush v =>
    simp only [ex1] at he
    cases he
    intro H locs L hP hD hS hL
    exact lv_sipush hx hb hd rfl (kk H locs L hP hD hS hL)
  case lconst v =>
    simp only [ex1] at he
    cases he
    intro H locs L hP hD hS hL
    exact lv_lconst hx hb hd rfl (kk H locs L hP hD hS hL)
  case ldc x =>
    simp only [ex1] at he
    split at he
    · rename_i v nw hv
      cases he
      intro H locs L hP hD hS hL
      exact W.ldc hx hb hown (hts _ (hK.2.2.1 _ (aFd_mem hv))) rfl hd (kk H locs L hP hD hS hL)
    · cases he
  case ldc_w x =>
    simp only [ex1] at he
    split at he
    · rename_i v nw hv
      cases he
      intro H locs L hP hD hS hL
      exact lv_ldcw hx hb hown (hts _ (hK.2.2.1 _ (aFd_mem hv))) hd (kk H locs L hP hD hS hL)
    · cases he
  case ldc2_w x =>
    simp only [ex1] at he
    split at he
    · rename_i v nw hv
      cases he
      intro H locs L hP hD hS hL
      exact W.ldc2 hx hb hown (hts _ (hK.2.2.2.1 _ (aFd_mem hv))) rfl hd (kk H locs L hP hD hS hL)
    · cases he
  case iload_n k =>
    simp only [ex1] at he
    split at he
    · rename_i x hv
      cases he
      intro H locs L hP hD hS hL
      exact lv_iload_n hx hb hd rfl (hL.2.2 _ _ hv) (kk H locs L hP hD hS hL)
    · cases he
  case iload k =>
    simp only [ex1] at he
    split at he
    · rename_i x hv
      cases he
      intro H locs L hP hD hS hL
      exact lv_iload hx hb hd (hL.2.2 _ _ hv) (kk H locs L hP hD hS hL)
    · cases he
  case lload_n k =>
    simp only [ex1] at he
    split at he
    · rename_i x hv
      cases he
      intro H locs L hP hD hS hL
      exact lv_lload_n hx hb hd rfl (hL.2.2 _ _ hv) (kk H locs L hP hD hS hL)
    · cases he
  case lload k =>
    simp only [ex1] at he
    split at he
    · rename_i x hv
      cases he
      intro H locs L hP hD hS hL
      exact lv_lload hx hb hd (hL.2.2 _ _ hv) (kk H locs L hP hD hS hL)
    · cases he
  case aload_n k =>
    simp only [ex1] at he
    split at he
    · rename_i q hv
      cases he
      intro H locs L hP hD hS hL
      exact lv_aload_n hx hb hd rfl (hL.2.2 _ _ hv) (kk H locs L hP hD hS hL)
    · rename_i hv
      cases he
      intro H locs L hP hD hS hL
      exact lv_aload_nN hx hb hd rfl (hL.2.2 _ _ hv) (kk H locs L hP hD hS hL)
    · cases he
  case aload k =>
    simp only [ex1] at he
    split at he
    · rename_i q hv
      cases he
      intro H locs L hP hD hS hL
      exact lv_aload hx hb hd (hL.2.2 _ _ hv) (kk H locs L hP hD hS hL)
    · rename_i hv
      cases he
      intro H locs L hP hD hS hL
      exact lv_aloadN hx hb hd (hL.2.2 _ _ hv) (kk H locs L hP hD hS hL)
    · cases he
  case istore_n k =>
    simp only [ex1] at he
    split at he
    · cases hb2 : Nat.ble nL ((k : Nat)) with
      | true =>
        rw [eN, hb2] at he
        cases he
      | false =>
        rw [eN, hb2] at he
        have hlt : (k : Nat) < nL := by
          have := Nat.not_le_of_not_ble_eq_true (fun z => by rw [hb2] at z; cases z)
          omega
        cases he
        intro H locs L hP hD hS hL
        exact lv_istore_n hx hb hd rfl hL.lv hlt rfl (fun L2 hL2 => kk H locs L2 hP hD hS (aHas_put hL2))
    · cases he
  case istore k =>
    simp only [ex1] at he
    split at he
    · cases hb2 : Nat.ble nL (k) with
      | true =>
        rw [eN, hb2] at he
        cases he
      | false =>
        rw [eN, hb2] at he
        have hlt : k < nL := by
          have := Nat.not_le_of_not_ble_eq_true (fun z => by rw [hb2] at z; cases z)
          omega
        cases he
        intro H locs L hP hD hS hL
        exact lv_istore hx hb hd hL.lv hlt rfl (fun L2 hL2 => kk H locs L2 hP hD hS (aHas_put hL2))
    · cases he
  case lstore_n k =>
    simp only [ex1] at he
    split at he
    · cases hb2 : Nat.ble nL ((k : Nat) + 1) with
      | true =>
        rw [eN, hb2] at he
        cases he
      | false =>
        rw [eN, hb2] at he
        have hlt : (k : Nat) + 1 < nL := by
          have := Nat.not_le_of_not_ble_eq_true (fun z => by rw [hb2] at z; cases z)
          omega
        cases he
        intro H locs L hP hD hS hL
        exact lv_lstore_n hx hb hd rfl hL.lv hlt rfl (fun L2 hL2 => kk H locs L2 hP hD hS (aHas_put2 hL2))
    · cases he
  case lstore k =>
    simp only [ex1] at he
    split at he
    · cases hb2 : Nat.ble nL (k + 1) with
      | true =>
        rw [eN, hb2] at he
        cases he
      | false =>
        rw [eN, hb2] at he
        have hlt : k + 1 < nL := by
          have := Nat.not_le_of_not_ble_eq_true (fun z => by rw [hb2] at z; cases z)
          omega
        cases he
        intro H locs L hP hD hS hL
        exact lv_lstore hx hb hd hL.lv hlt rfl (fun L2 hL2 => kk H locs L2 hP hD hS (aHas_put2 hL2))
    · cases he
  case astore_n k =>
    simp only [ex1] at he
    split at he
    · cases hb2 : Nat.ble nL ((k : Nat)) with
      | true =>
        rw [eN, hb2] at he
        cases he
      | false =>
        rw [eN, hb2] at he
        have hlt : (k : Nat) < nL := by
          have := Nat.not_le_of_not_ble_eq_true (fun z => by rw [hb2] at z; cases z)
          omega
        cases he
        intro H locs L hP hD hS hL
        exact lv_astore_n hx hb hd rfl hL.lv hlt rfl (fun L2 hL2 => kk H locs L2 hP hD hS (aHas_put hL2))
    · cases hb2 : Nat.ble nL ((k : Nat)) with
      | true =>
        rw [eN, hb2] at he
        cases he
      | false =>
        rw [eN, hb2] at he
        have hlt : (k : Nat) < nL := by
          have := Nat.not_le_of_not_ble_eq_true (fun z => by rw [hb2] at z; cases z)
          omega
        cases he
        intro H locs L hP hD hS hL
        exact lv_astore_nN hx hb hd rfl hL.lv hlt rfl (fun L2 hL2 => kk H locs L2 hP hD hS (aHas_put hL2))
    · cases he
  case astore k =>
    simp only [ex1] at he
    split at he
    · cases hb2 : Nat.ble nL (k) with
      | true =>
        rw [eN, hb2] at he
        cases he
      | false =>
        rw [eN, hb2] at he
        have hlt : k < nL := by
          have := Nat.not_le_of_not_ble_eq_true (fun z => by rw [hb2] at z; cases z)
          omega
        cases he
        intro H locs L hP hD hS hL
        exact lv_astore hx hb hd hL.lv hlt rfl (fun L2 hL2 => kk H locs L2 hP hD hS (aHas_put hL2))
    · cases hb2 : Nat.ble nL (k) with
      | true =>
        rw [eN, hb2] at he
        cases he
      | false =>
        rw [eN, hb2] at he
        have hlt : k < nL := by
          have := Nat.not_le_of_not_ble_eq_true (fun z => by rw [hb2] at z; cases z)
          omega
        cases he
        intro H locs L hP hD hS hL
        exact lv_astoreN hx hb hd hL.lv hlt rfl (fun L2 hL2 => kk H locs L2 hP hD hS (aHas_put hL2))
    · cases he
  case iinc k v =>
    simp only [ex1] at he
    split at he
    · rename_i x hv
      cases he
      intro H locs L hP hD hS hL
      have hm : (k, Value.int x) ∈ aEnt ad 0 ls := (aEnt_mem ls 0).mpr ⟨_, Nat.zero_le _, by simpa using hv, rfl⟩
      obtain ⟨z, hz⟩ := List.getElem?_of_mem hm
      have hlt : k < nL := by
        have h1 := hL.2.2 _ _ hv
        rw [← hL.1]
        exact (Array.getElem?_eq_some_iff.mp h1).1
      exact lv_iinc hx hb hd hL.lv hz rfl hlt rfl (fun L2 hL2 => kk H locs L2 hP hD hS (aHas_put hL2))
    · cases he
  case goto off =>
    simp only [ex1] at he
    cases hb2 : Nat.beq (aJmp pc off) 0 with
    | true =>
      rw [hb2] at he
      cases he
    | false =>
      rw [hb2] at he
      cases he
      intro H locs L hP hD hS hL
      refine lv_goto (tgt := aJmp pc off) hx hb hd ?_ (kk H locs L hP hD hS hL)
      have h1 : aJmp pc off ≠ 0 := fun z => by rw [z] at hb2; cases hb2
      unfold aJmp at h1 ⊢
      omega
  case dup =>
    simp only [ex1] at he
    split at he
    · cases he
      intro H locs L hP hD hS hL
      exact lv_dup hx hb hd rfl (kk H locs L hP hD hS hL)
    · cases he
      intro H locs L hP hD hS hL
      exact lv_dup hx hb hd rfl (kk H locs L hP hD hS hL)
    · cases he
  case dup_x1 =>
    simp only [ex1] at he
    split at he
    · cases he
      intro H locs L hP hD hS hL
      exact lv_dup_x1 hx hb hd rfl rfl (kk H locs L hP hD hS hL)
    · cases he
      intro H locs L hP hD hS hL
      exact lv_dup_x1 hx hb hd rfl rfl (kk H locs L hP hD hS hL)
    · cases he
  case getfield x =>
    simp only [ex1] at he
    split at he
    · rename_i t j r
      split at he
      · rename_i ci k b nw cn c2 fl hf hl
        split at he
        · rename_i P2 hk hj
          cases hc : Nat.beq ci c2 with
          | true =>
            rw [hc] at he
            have e := Nat.eq_of_beq_eq_true hc
            subst e
            cases he
            exact XW.getf G0 (hK.1 _ (aFd_mem hf)) hl hk (aJok_lt hj hp) hd kk
          | false =>
            rw [hc] at he
            cases he
        · rename_i t2 b2 P2 hk hj
          cases hc : Nat.beq ci c2 with
          | true =>
            rw [hc] at he
            have e := Nat.eq_of_beq_eq_true hc
            subst e
            cases he
            exact XW.getf G0 (hK.1 _ (aFd_mem hf)) hl hk (aJok_lt hj hp) hd kk
          | false =>
            rw [hc] at he
            cases he
        · cases he
      · cases he
    · cases he
  case putfield x =>
    simp only [ex1] at he
    split at he
    · rename_i v t j r
      split at he
      · rename_i ci k nw cn c2 fl hf hl
        split at he
        · rename_i P2 hk hj
          cases hc : Nat.beq ci c2 with
          | true =>
            rw [hc] at he
            have e := Nat.eq_of_beq_eq_true hc
            subst e
            cases he
            exact XW.putf G0 (hK.1 _ (aFd_mem hf)) hl hk (aJok_lt hj hp) hd kk
          | false =>
            rw [hc] at he
            cases he
        · cases he
      · cases he
    · cases he
  case getstatic x =>
    simp only [ex1] at he
    split at he
    · rename_i k nw hf
      cases he
      exact XW.gets G0 (hK.2.1 _ (aFd_mem hf)) hd kk
    · cases he
  case invokestatic x =>
    simp only [ex1] at he
    split at he
    · rename_i y z r
      split at he
      · rename_i nw hf
        cases he
        exact XW.mmax G0 (hK.2.2.2.2 _ (aFd_mem hf)) hp.1 hd kk
      · rename_i nw hf
        cases he
        exact XW.mmin G0 (hK.2.2.2.2 _ (aFd_mem hf)) hp.1 hd kk
      · cases he
    · cases he
  case arraylength =>
    simp only [ex1] at he
    split at he
    · rename_i t j r
      cases h1 : Nat.ble 100 t with
      | true =>
        rw [h1] at he
        cases h2 : Nat.ble 104 t with
        | true =>
          rw [h2] at he
          cases he
        | false =>
          rw [h2] at he
          have g1 := Nat.le_of_ble_eq_true h1
          have g2 : t < 104 := by
            have := Nat.not_le_of_not_ble_eq_true (fun z => by rw [h2] at z; cases z)
            omega
          obtain ⟨k, rfl⟩ : ∃ k, t = 100 + k := ⟨t - 100, by omega⟩
          have g3 : 100 + k - 100 = k := by omega
          rw [g3] at he
          cases he
          obtain ⟨rfl, -⟩ := hp
          exact XW.stlen G0 (by omega) hd kk
      | false =>
        rw [h1] at he
        dsimp only [cond_false] at he
        split at he
        · rename_i cn k2 z hl
          split at he
          · rename_i P2 hj
            cases he
            exact XW.alen G0 hl (aJok_lt hj hp) hd kk
          · cases he
        · cases he
    · cases he
  case iaload =>
    simp only [ex1] at he
    split at he
    · rename_i x t j r
      cases h1 : Nat.ble 100 t with
      | true =>
        rw [h1] at he
        cases h2 : Nat.ble 104 t with
        | true =>
          rw [h2] at he
          cases he
        | false =>
          rw [h2] at he
          have g1 := Nat.le_of_ble_eq_true h1
          have g2 : t < 104 := by
            have := Nat.not_le_of_not_ble_eq_true (fun z => by rw [h2] at z; cases z)
            omega
          obtain ⟨k, rfl⟩ : ∃ k, t = 100 + k := ⟨t - 100, by omega⟩
          have g3 : 100 + k - 100 = k := by omega
          rw [g3] at he
          cases he
          obtain ⟨rfl, hp, -⟩ := hp
          exact XW.stld G0 (by omega) hp hd kk
      | false =>
        rw [h1] at he
        dsimp only [cond_false] at he
        split at he
        · rename_i cn z hl
          split at he
          · rename_i P2 hj
            cases he
            exact XW.iald G0 hl (aJok_lt hj (aAll_app hp).1) (aAll_app hp).2.1 hd kk
          · cases he
        · cases he
    · cases he
  case laload =>
    simp only [ex1] at he
    split at he
    · rename_i x t j r
      split at he
      · rename_i cn z hl
        split at he
        · rename_i P2 hj
          cases he
          exact XW.lald G0 hl (aJok_lt hj (aAll_app hp).1) (aAll_app hp).2.1 hd kk
        · cases he
      · cases he
    · cases he
  case aaload =>
    simp only [ex1] at he
    split at he
    · rename_i x t j r
      split at he
      · rename_i cn k2 z hl
        split at he
        · rename_i P2 hj
          cases he
          exact XW.aald G0 hl (aJok_lt hj (aAll_app hp).1) (aAll_app hp).2.1 hd kk
        · cases he
      · cases he
    · cases he
  case iastore =>
    simp only [ex1] at he
    split at he
    · rename_i v x t j r
      split at he
      · rename_i cn z hl
        split at he
        · rename_i P2 hj
          cases he
          exact XW.iast G0 hl (aJok_lt hj (aAll_app hp).1) (aAll_app hp).2.1 hd kk
        · cases he
      · cases he
    · cases he
  case lastore =>
    simp only [ex1] at he
    split at he
    · rename_i v x t j r
      split at he
      · rename_i cn z hl
        split at he
        · rename_i P2 hj
          cases he
          exact XW.last G0 hl (aJok_lt hj (aAll_app hp).1) (aAll_app hp).2.1 hd kk
        · cases he
      · cases he
    · cases he
end XS
end
section
/-! rules over the small machine: blocks, branches, calls, ends -/
def exL (K : aKt) (Λ : aLy) (N : Nat) : List (Nat × Instr) → aSte → Option (aSte × List Prop)
  | [], s => some (s, [])
  | q :: r, s => cond (Nat.beq q.1 s.1) (match ex1 K Λ N q.2 s with
    | some (s2, P) => match exL K Λ N r s2 with
      | some (s3, P2) => some (s3, P ++ P2)
      | none => none
    | none => none) none
def decB (cc : ByteArray) (b : List (Nat × Instr)) : Bool := b.all (fun q => decide (decode cc q.1 = .ok (q.2, aLen q.2)))
/-- all that a method's body rests on -/
def XB (Γ : XC) (cc : ByteArray) (own : String) (d : Nat) (K : aKt) (Λ : aLy) (N : Nat) : Prop := XG Γ cc own d ∧ KOK own K ∧ xL Γ = Λ ∧ xN Γ = N
section XB
variable {Γ : XC} {cc : ByteArray} {own : String} {d N : Nat} {K : aKt} {Λ : aLy}
theorem XW.blk (B : XB Γ cc own d K Λ N) : ∀ (b : List (Nat × Instr)) {pc : Nat} {ls : List (Option AV)} {st : List AV} {σ : SS} {s' : aSte} {P : List Prop}, decB cc b = true → exL K Λ N b (pc, ls, st, σ) = some (s', P) → aAll P → XW Γ s'.1 s'.2.1 s'.2.2.1 s'.2.2.2 → XW Γ pc ls st σ
  | [], pc, ls, st, σ, s', P, _, he, _, k => by
    cases he
    exact k
  | q :: r, pc, ls, st, σ, s', P, hb, he, hp, k => by
    simp only [decB, List.all_cons, Bool.and_eq_true, decide_eq_true_eq] at hb
    unfold exL at he
    cases hq : Nat.beq q.1 (pc, ls, st, σ).1 with
    | false =>
      rw [hq] at he
      cases he
    | true =>
      rw [hq] at he
      have e := Nat.eq_of_beq_eq_true hq
      dsimp only at e
      dsimp only [cond_true] at he
      split at he
      · rename_i s2 P1 h1
        split at he
        · rename_i s3 P2 h2
          cases he
          obtain ⟨g1, g2⟩ := aAll_app hp
          rw [e] at hb
          obtain ⟨G, hK, hΛ, hN⟩ := B
          refine ex1_ok G hK hb.1 (by rw [hΛ, hN]; exact h1) g1 ?_
          exact XW.blk ⟨G, hK, hΛ, hN⟩ r (by simpa only [decB] using hb.2) h2 g2 k
        · cases he
      · cases he
/-- a branch: when it is taken, what is left of the stack, how far -/
def brn : Instr → List AV → Option (Prop × List AV × Int)
  | .if_icmp .eq off, .inl (.int y) :: .inl (.int x) :: r => some (x = y, r, off)
  | .if_icmp .ne off, .inl (.int y) :: .inl (.int x) :: r => some (¬ x = y, r, off)
  | .if_icmp .lt off, .inl (.int y) :: .inl (.int x) :: r => some (x < y, r, off)
  | .if_icmp .ge off, .inl (.int y) :: .inl (.int x) :: r => some (y ≤ x, r, off)
  | .if_icmp .gt off, .inl (.int y) :: .inl (.int x) :: r => some (y < x, r, off)
  | .if_icmp .le off, .inl (.int y) :: .inl (.int x) :: r => some (x ≤ y, r, off)
  | .ifCond .eq off, .inl (.int x) :: r => some (x = 0, r, off)
  | .ifCond .ne off, .inl (.int x) :: r => some (¬ x = 0, r, off)
  | .ifCond .lt off, .inl (.int x) :: r => some (x < 0, r, off)
  | .ifCond .ge off, .inl (.int x) :: r => some (0 ≤ x, r, off)
  | .ifCond .gt off, .inl (.int x) :: r => some (0 < x, r, off)
  | .ifCond .le off, .inl (.int x) :: r => some (x ≤ 0, r, off)
  | _, _ => none
theorem XW.br (B : XB Γ cc own d K Λ N) {i : Instr} {pc tgt : Nat} {ls : List (Option AV)} {st st2 : List AV} {σ : SS} {q : Prop} {off : Int} (hd : decode cc pc = .ok (i, 3)) (hb : brn i st = some (q, st2, off)) (ht : (pc : Int) + off = (tgt : Int)) (kt : q → XW Γ tgt ls st2 σ) (kf : ¬ q → XW Γ (pc + 3) ls st2 σ) : XW Γ pc ls st σ := by
  obtain ⟨⟨p, l, e, R⟩, ⟨s, m, args, below, meth, c⟩, ⟨Q, cells, slots, nL⟩, ⟨D, cs, ad, A, Λ'⟩⟩ := Γ
  obtain ⟨⟨hx, hcb, -⟩, -⟩ := B
  unfold brn at hb
  split at hb <;> first | (cases hb; done) | skip
  all_goals (cases hb; intro H locs L hP hD hS hL)
  · exact lv_icmp_eq hx hcb hd ht (fun h => kt h H locs L hP hD hS hL) (fun h => kf h H locs L hP hD hS hL)
  · exact lv_icmp_ne hx hcb hd ht (fun h => kt h H locs L hP hD hS hL) (fun h => kf (fun z => z h) H locs L hP hD hS hL)
  · exact lv_icmp_lt hx hcb hd ht (fun h => kt h H locs L hP hD hS hL) (fun h => kf h H locs L hP hD hS hL)
  · exact lv_icmp_ge hx hcb hd ht (fun h => kt h H locs L hP hD hS hL) (fun h => kf h H locs L hP hD hS hL)
  · exact lv_icmp_gt hx hcb hd ht (fun h => kt h H locs L hP hD hS hL) (fun h => kf h H locs L hP hD hS hL)
  · exact lv_icmp_le hx hcb hd ht (fun h => kt h H locs L hP hD hS hL) (fun h => kf h H locs L hP hD hS hL)
  · exact lv_if_eq hx hcb hd ht (fun h => kt h H locs L hP hD hS hL) (fun h => kf h H locs L hP hD hS hL)
  · exact lv_if_ne hx hcb hd ht (fun h => kt h H locs L hP hD hS hL) (fun h => kf (fun z => z h) H locs L hP hD hS hL)
  · exact lv_if_lt hx hcb hd ht (fun h => kt h H locs L hP hD hS hL) (fun h => kf h H locs L hP hD hS hL)
  · exact lv_if_ge hx hcb hd ht (fun h => kt h H locs L hP hD hS hL) (fun h => kf h H locs L hP hD hS hL)
  · exact lv_if_gt hx hcb hd ht (fun h => kt h H locs L hP hD hS hL) (fun h => kf h H locs L hP hD hS hL)
  · exact lv_if_le hx hcb hd ht (fun h => kt h H locs L hP hD hS hL) (fun h => kf h H locs L hP hD hS hL)
/-- a block and the branch at its end -/
theorem XW.bb (B : XB Γ cc own d K Λ N) (b : List (Nat × Instr)) (hdb : decB cc b = true) {i : Instr} {pc pc1 tgt : Nat} {ls ls1 : List (Option AV)} {st st1 st2 : List AV} {σ σ1 : SS} {P : List Prop} {q : Prop} {off : Int} (he : exL K Λ N b (pc, ls, st, σ) = some ((pc1, ls1, st1, σ1), P)) (hp : aAll P) (hd : decode cc pc1 = .ok (i, 3)) (hb : brn i st1 = some (q, st2, off)) (ht : (pc1 : Int) + off = (tgt : Int)) (kt : q → XW Γ tgt ls1 st2 σ1) (kf : ¬ q → XW Γ (pc1 + 3) ls1 st2 σ1) : XW Γ pc ls st σ :=
  XW.blk B b hdb he hp (XW.br B hd hb ht kt kf)
/-- the same, of a branch that is taken where two are unlike -/
theorem XW.bn (B : XB Γ cc own d K Λ N) (b : List (Nat × Instr)) (hdb : decB cc b = true) {i : Instr} {pc pc1 tgt : Nat} {ls ls1 : List (Option AV)} {st st1 st2 : List AV} {σ σ1 : SS} {P : List Prop} {q : Prop} {off : Int} (he : exL K Λ N b (pc, ls, st, σ) = some ((pc1, ls1, st1, σ1), P)) (hp : aAll P) (hd : decode cc pc1 = .ok (i, 3)) (hb : brn i st1 = some (¬ q, st2, off)) (ht : (pc1 : Int) + off = (tgt : Int)) (kf : q → XW Γ (pc1 + 3) ls1 st2 σ1) (kt : ¬ q → XW Γ tgt ls1 st2 σ1) : XW Γ pc ls st σ :=
  XW.blk B b hdb he hp (XW.br B hd hb ht kt (fun h => kf (Classical.not_not.mp h)))
/-- a block -/
theorem XW.bk (B : XB Γ cc own d K Λ N) (b : List (Nat × Instr)) (hdb : decB cc b = true) {pc pc1 : Nat} {ls ls1 : List (Option AV)} {st st1 : List AV} {σ σ1 : SS} {P : List Prop} (he : exL K Λ N b (pc, ls, st, σ) = some ((pc1, ls1, st1, σ1), P)) (hp : aAll P) (k : XW Γ pc1 ls1 st1 σ1) : XW Γ pc ls st σ :=
  XW.blk B b hdb he hp k
theorem XW.nullR (B : XB Γ cc own d K Λ N) {pc t j : Nat} {off : Int} {ls : List (Option AV)} {st : List AV} {σ : SS} (hd : decode cc pc = .ok (.ifnull off, 3)) (k : XW Γ (pc + 3) ls st σ) : XW Γ pc ls (aR t j :: st) σ := by
  obtain ⟨⟨p, l, e, R⟩, ⟨s, m, args, below, meth, c⟩, ⟨Q, cells, slots, nL⟩, ⟨D, cs, ad, A, Λ'⟩⟩ := Γ
  obtain ⟨⟨hx, hcb, -⟩, -⟩ := B
  intro H locs L hP hD hS hL
  exact lv_ifnull hx hcb hd (k H locs L hP hD hS hL)
theorem XW.nullN (B : XB Γ cc own d K Λ N) {pc tgt : Nat} {off : Int} {ls : List (Option AV)} {st : List AV} {σ : SS} (hd : decode cc pc = .ok (.ifnull off, 3)) (ht : (pc : Int) + off = (tgt : Int)) (k : XW Γ tgt ls st σ) : XW Γ pc ls (aN :: st) σ := by
  obtain ⟨⟨p, l, e, R⟩, ⟨s, m, args, below, meth, c⟩, ⟨Q, cells, slots, nL⟩, ⟨D, cs, ad, A, Λ'⟩⟩ := Γ
  obtain ⟨⟨hx, hcb, -⟩, -⟩ := B
  intro H locs L hP hD hS hL
  exact lv_ifnullN hx hcb hd ht (k H locs L hP hD hS hL)
theorem XW.nonR (B : XB Γ cc own d K Λ N) {pc t j tgt : Nat} {off : Int} {ls : List (Option AV)} {st : List AV} {σ : SS} (hd : decode cc pc = .ok (.ifnonnull off, 3)) (ht : (pc : Int) + off = (tgt : Int)) (k : XW Γ tgt ls st σ) : XW Γ pc ls (aR t j :: st) σ := by
  obtain ⟨⟨p, l, e, R⟩, ⟨s, m, args, below, meth, c⟩, ⟨Q, cells, slots, nL⟩, ⟨D, cs, ad, A, Λ'⟩⟩ := Γ
  obtain ⟨⟨hx, hcb, -⟩, -⟩ := B
  intro H locs L hP hD hS hL
  exact lv_ifnonnull hx hcb hd ht (k H locs L hP hD hS hL)
theorem XW.nonN (B : XB Γ cc own d K Λ N) {pc : Nat} {off : Int} {ls : List (Option AV)} {st : List AV} {σ : SS} (hd : decode cc pc = .ok (.ifnonnull off, 3)) (k : XW Γ (pc + 3) ls st σ) : XW Γ pc ls (aN :: st) σ := by
  obtain ⟨⟨p, l, e, R⟩, ⟨s, m, args, below, meth, c⟩, ⟨Q, cells, slots, nL⟩, ⟨D, cs, ad, A, Λ'⟩⟩ := Γ
  obtain ⟨⟨hx, hcb, -⟩, -⟩ := B
  intro H locs L hP hD hS hL
  exact lv_ifnonnullN hx hcb hd (k H locs L hP hD hS hL)
theorem XW.tsI (B : XB Γ cc own d K Λ N) {pc tgt n : Nat} {ls : List (Option AV)} {st : List AV} {σ : SS} {x : Int32} {dflt lo hi off : Int} {offs : Array Int} (k : Int32) (hd : decode cc pc = .ok (.tableswitch dflt lo hi offs, n)) (hx : x = k) (h : (decide (¬ k.toInt < lo) && decide (¬ hi < k.toInt) && decide (offs[(k.toInt - lo).toNat]? = some off)) = true) (ht : (pc : Int) + off = (tgt : Int)) (kk : XW Γ tgt ls st σ) : XW Γ pc ls (aI x :: st) σ := by
  obtain ⟨⟨p, l, e, R⟩, ⟨s, m, args, below, meth, c⟩, ⟨Q, cells, slots, nL⟩, ⟨D, cs, ad, A, Λ'⟩⟩ := Γ
  obtain ⟨⟨hxx, hcb, -⟩, -⟩ := B
  intro H locs L hP hD hS hL
  subst hx
  simp only [Bool.and_eq_true, decide_eq_true_eq] at h
  exact lv_tableIn hxx hcb hd h.1.1 h.1.2 h.2 ht (kk H locs L hP hD hS hL)
theorem XW.tsD (B : XB Γ cc own d K Λ N) {pc tgt n : Nat} {ls : List (Option AV)} {st : List AV} {σ : SS} {x : Int32} {dflt lo hi : Int} {offs : Array Int} (ks : List Int32) (hd : decode cc pc = .ok (.tableswitch dflt lo hi offs, n)) (hx : ∀ k ∈ ks, ¬ x = k) (h : (List.range offs.size).all (fun i => decide (offs[i]? = some dflt) || ks.any (fun k => decide (k.toInt = lo + (i : Int)))) = true) (hn : hi - lo + 1 = (offs.size : Int)) (ht : (pc : Int) + dflt = (tgt : Int)) (kk : XW Γ tgt ls st σ) : XW Γ pc ls (aI x :: st) σ := by
  obtain ⟨⟨p, l, e, R⟩, ⟨s, m, args, below, meth, c⟩, ⟨Q, cells, slots, nL⟩, ⟨D, cs, ad, A, Λ'⟩⟩ := Γ
  obtain ⟨⟨hxx, hcb, -⟩, -⟩ := B
  intro H locs L hP hD hS hL
  by_cases h1 : x.toInt < lo
  · exact lv_tableOut hxx hcb hd (Or.inl h1) ht (kk H locs L hP hD hS hL)
  by_cases h2 : hi < x.toInt
  · exact lv_tableOut hxx hcb hd (Or.inr h2) ht (kk H locs L hP hD hS hL)
  have h3 := List.all_eq_true.mp h (x.toInt - lo).toNat (List.mem_range.mpr (by omega))
  rw [Bool.or_eq_true, decide_eq_true_eq] at h3
  rcases h3 with h3 | h3
  · exact lv_tableIn hxx hcb hd h1 h2 h3 ht (kk H locs L hP hD hS hL)
  · obtain ⟨k, hk, he⟩ := List.any_eq_true.mp h3
    rw [decide_eq_true_eq] at he
    exact absurd (Int32.toInt_inj.mp (by omega)) (hx k hk)
theorem osw_at : ∀ (ps : List (Int × Int)) (d x : Int), (∀ q ∈ ps, ¬ x = q.1) → Op.lookupswitch.offset ps d x = d
  | [], d, x, _ => rfl
  | q :: r, d, x, h => by
    obtain ⟨a, o⟩ := q
    have h1 := h (a, o) List.mem_cons_self
    unfold Op.lookupswitch.offset
    rw [osw_at r d x (fun q hq => h q (List.mem_cons_of_mem _ hq))]
    simp
    exact fun e => absurd e.symm h1
theorem XW.lsI (B : XB Γ cc own d K Λ N) {pc tgt n : Nat} {ls : List (Option AV)} {st : List AV} {σ : SS} {x : Int32} {dflt off : Int} {ps : Array (Int × Int)} (k : Int32) (hd : decode cc pc = .ok (.lookupswitch dflt ps, n)) (hx : x = k) (h : ((ps.toList.zip (ps.toList.drop 1)).all (fun (a, next) => a.1 < next.1) && decide (Op.lookupswitch.offset ps.toList dflt k.toInt = off)) = true) (ht : (pc : Int) + off = (tgt : Int)) (kk : XW Γ tgt ls st σ) : XW Γ pc ls (aI x :: st) σ := by
  obtain ⟨⟨p, l, e, R⟩, ⟨s, m, args, below, meth, c⟩, ⟨Q, cells, slots, nL⟩, ⟨D, cs, ad, A, Λ'⟩⟩ := Γ
  obtain ⟨⟨hxx, hcb, -⟩, -⟩ := B
  intro H locs L hP hD hS hL
  subst hx
  rw [Bool.and_eq_true, decide_eq_true_eq] at h
  exact lv_lookup hxx hcb hd h.1 h.2 ht (kk H locs L hP hD hS hL)
theorem XW.lsD (B : XB Γ cc own d K Λ N) {pc tgt n : Nat} {ls : List (Option AV)} {st : List AV} {σ : SS} {x : Int32} {dflt : Int} {ps : Array (Int × Int)} (ks : List Int32) (hd : decode cc pc = .ok (.lookupswitch dflt ps, n)) (hx : ∀ k ∈ ks, ¬ x = k) (h : ((ps.toList.zip (ps.toList.drop 1)).all (fun (a, next) => a.1 < next.1) && ps.toList.all (fun q => ks.any (fun k => decide (k.toInt = q.1)))) = true) (ht : (pc : Int) + dflt = (tgt : Int)) (kk : XW Γ tgt ls st σ) : XW Γ pc ls (aI x :: st) σ := by
  obtain ⟨⟨p, l, e, R⟩, ⟨s, m, args, below, meth, c⟩, ⟨Q, cells, slots, nL⟩, ⟨D, cs, ad, A, Λ'⟩⟩ := Γ
  obtain ⟨⟨hxx, hcb, -⟩, -⟩ := B
  intro H locs L hP hD hS hL
  rw [Bool.and_eq_true] at h
  refine lv_lookup hxx hcb hd h.1 (osw_at _ _ _ (fun q hq he => ?_)) ht (kk H locs L hP hD hS hL)
  obtain ⟨k, hk, hk2⟩ := List.any_eq_true.mp (List.all_eq_true.mp h.2 q hq)
  rw [decide_eq_true_eq] at hk2
  exact hx k hk (Int32.toInt_inj.mp (by omega))
end XB
end
section
/-! methods: XM Λ d M as σ r σ': method M, called with as where the numbers are σ, with room for d more frames, answers r and leaves σ' -/
abbrev MR : Type := MethodName × ByteArray × Nat × Option FieldType
def aRm (d : Nat) : Room := { frames := d, cells := 0, slots := 0, locals := 64 * d }
def aDom (Λ : aLy) (ad : aMp) : Nat → Prop := fun q => ∃ t j, (t, j) ∈ aIds 0 Λ ∧ q = ad t j
def aWd (Λ : aLy) (D : va_G) (cs : aCs) (ad : aMp) (σ : SS) (U : State) : Prop := va_P D vwCl (aWl Λ cs ad σ) U.heap ∧ va_D (aDom Λ ad) (aWl Λ cs ad σ) ∧ va_K D vwCl (aTys cs) U ∧ aSt ad (aDom Λ ad) U U.heap
def aQ (Λ : aLy) (D : va_G) (cs : aCs) (ad : aMp) (r : Option AV) (σ' : SS) : Array Value → State → Outcome → State → Prop := fun _ st oc t => (oc = .returned (r.map (rv ad)) ∧ va_P D vwCl (aWl Λ cs ad σ') t.heap) ∧ va_F (aDom Λ ad) st t
def XM (Λ : aLy) (d : Nat) (M : MR) (as : List AV) (σ : SS) (r : Option AV) (σ' : SS) : Prop :=
  ∀ (l : Launch) (D : va_G) (cs : aCs) (ad : aMp), Met l M.1 (.code M.1 M.2.1 M.2.2.1 M.2.2.2 :: GW) (aRm d) (va_Pc (as.map (rv ad)) (aWd Λ D cs ad σ)) (aQ Λ D cs ad r σ') 0 0 (aDom Λ ad)
/-- what holds at a method's ends -/
def XQ (Γ : XC) (ret : Option FieldType) (r : Option AV) (σ' : SS) : Prop := match Γ with
  | ((p, l, e, R), (s, m, args, below, meth, c), (Q, cells, slots, nL), (D, cs, ad, A, Λ)) =>
    Q = MQ below (aQ Λ D cs ad r σ') args s cells slots (aDom Λ ad) ∧ meth.sig.returnType = ret ∧ meth.locks = false ∧ A = aDom Λ ad
theorem aWl_D {A : Nat → Prop} {Λ : aLy} {cs : aCs} {ad : aMp} {σ σ' : SS} (h : va_D A (aWl Λ cs ad σ)) : va_D A (aWl Λ cs ad σ') := by
  have key : ∀ (k : Nat) (q : Nat × va_E), (aWl Λ cs ad σ')[k]? = some q → ∃ q0, (aWl Λ cs ad σ)[k]? = some q0 ∧ q0.1 = q.1 := by
    intro k q hk
    unfold aWl at hk ⊢
    rw [List.getElem?_map] at hk ⊢
    cases hi : (aIds 0 Λ)[k]? with
    | none => rw [hi] at hk; cases hk
    | some z =>
      rw [hi] at hk
      cases hk
      exact ⟨_, rfl, rfl⟩
  refine ⟨fun i j x y hi hj hxy => ?_, fun k q hk => ?_⟩
  · obtain ⟨x0, h1, h2⟩ := key i x hi
    obtain ⟨y0, h3, h4⟩ := key j y hj
    exact h.1 i j x0 y0 h1 h3 (h2.trans (hxy.trans h4.symm))
  · obtain ⟨q0, h1, h2⟩ := key k q hk
    rw [← h2]
    exact h.2 k q0 h1
theorem aDom_sub {A : Nat → Prop} {Λ : aLy} {cs : aCs} {ad : aMp} {σ : SS} (h : va_D A (aWl Λ cs ad σ)) : ∀ q, aDom Λ ad q → A q := by
  rintro q ⟨t, j, hm, rfl⟩
  obtain ⟨p, hp⟩ := List.getElem?_of_mem hm
  exact h.2 p (ad t j, aWc Λ cs ad σ (t, j)) (by unfold aWl; rw [List.getElem?_map, hp]; rfl)
theorem aDom_D {A : Nat → Prop} {Λ : aLy} {cs : aCs} {ad : aMp} {σ : SS} (h : va_D A (aWl Λ cs ad σ)) : va_D (aDom Λ ad) (aWl Λ cs ad σ) := by
  refine ⟨h.1, fun k q hk => ?_⟩
  unfold aWl at hk
  rw [List.getElem?_map] at hk
  cases hi : (aIds 0 Λ)[k]? with
  | none => rw [hi] at hk; cases hk
  | some z =>
    rw [hi] at hk
    cases hk
    exact ⟨z.1, z.2, List.mem_of_getElem? hi, rfl⟩
theorem aSt_to {ad : aMp} {A B : Nat → Prop} {u U : State} {H : Heap} (h : aSt ad A u u.heap) (hvm : u.WarmedH U.vm) (hAB : ∀ q, B q → A q) (hq : ∀ a : Nat, a < u.heap.size → ¬ A a → H[a]? = u.heap[a]?) : aSt ad B U H :=
  ⟨fun k hk => ⟨(((h.1 k hk).1.kept hq).narrow hAB).moved hvm.alike, (((h.1 k hk).2.kept hq).narrow hAB).moved hvm.alike⟩, va_Nw.warmM hvm h.2.1, va_Nw.warmM hvm h.2.2⟩
theorem aBlind {Λ : aLy} {D : va_G} {cs : aCs} {ad : aMp} {σ : SS} {av : List Value} : FrameBlind (va_Pc av (aWd Λ D cs ad σ)) := by
  intro a U g mk h
  obtain ⟨h1, h2, h3, h4, h5⟩ := h
  exact ⟨h1, h2, h3, va_K.moved (u := U) (U := U.calling g mk a) (Vm.Alike.refl U.vm) h4, ⟨fun k hk => ⟨(h5.1 k hk).1.moved (u := U) (U := U.calling g mk a) (Vm.Alike.refl U.vm), (h5.1 k hk).2.moved (u := U) (U := U.calling g mk a) (Vm.Alike.refl U.vm)⟩, va_Nw.same (u := U) rfl rfl h5.2.1, va_Nw.same (u := U) rfl rfl h5.2.2⟩⟩
section XE
variable {Γ : XC} {cc : ByteArray} {own : String} {d N : Nat} {K : aKt} {Λ : aLy} {pc : Nat} {ls : List (Option AV)} {σ : SS}
theorem XW.iret (B : XB Γ cc own d K Λ N) {v : Int32} (q : XQ Γ (some .int) (some (aI v)) σ) (hd : decode cc pc = .ok (.ireturn, 1)) : XW Γ pc ls [aI v] σ := by
  obtain ⟨⟨p, l, e, R⟩, ⟨s, m, args, below, meth, c⟩, ⟨Q, cells, slots, nL⟩, ⟨D, cs, ad, A, Λ'⟩⟩ := Γ
  obtain ⟨⟨hx, hcb, -⟩, -, rfl, -⟩ := B
  obtain ⟨rfl, hr, hlk, rfl⟩ := q
  intro H locs L hP hD hS hL
  exact W.iret hx hcb hr (fun t ht hW => ⟨⟨rfl, by rw [ht]; exact hP⟩, hS.F ht⟩) hS.2.2 hd hlk
theorem XW.zret (B : XB Γ cc own d K Λ N) {v : Int32} (q : XQ Γ (some .boolean) (some (aI v)) σ) (hv : v = 0 ∨ v = 1) (hd : decode cc pc = .ok (.ireturn, 1)) : XW Γ pc ls [aI v] σ := by
  obtain ⟨⟨p, l, e, R⟩, ⟨s, m, args, below, meth, c⟩, ⟨Q, cells, slots, nL⟩, ⟨D, cs, ad, A, Λ'⟩⟩ := Γ
  obtain ⟨⟨hx, hcb, -⟩, -, rfl, -⟩ := B
  obtain ⟨rfl, hr, hlk, rfl⟩ := q
  intro H locs L hP hD hS hL
  refine W.zret (ty := .boolean) hx hcb hr ?_ (fun t ht hW => ⟨⟨rfl, by rw [ht]; exact hP⟩, hS.F ht⟩) hS.2.2 hd hlk
  rcases hv with rfl | rfl <;> rfl
theorem XW.lret (B : XB Γ cc own d K Λ N) {v : Int64} (q : XQ Γ (some .long) (some (aJ v)) σ) (hd : decode cc pc = .ok (.lreturn, 1)) : XW Γ pc ls [aJ v] σ := by
  obtain ⟨⟨p, l, e, R⟩, ⟨s, m, args, below, meth, c⟩, ⟨Q, cells, slots, nL⟩, ⟨D, cs, ad, A, Λ'⟩⟩ := Γ
  obtain ⟨⟨hx, hcb, -⟩, -, rfl, -⟩ := B
  obtain ⟨rfl, hr, hlk, rfl⟩ := q
  intro H locs L hP hD hS hL
  exact W.lret hx hcb hr (fun t ht hW => ⟨⟨rfl, by rw [ht]; exact hP⟩, hS.F ht⟩) hS.2.2 hd hlk
theorem XW.vret (B : XB Γ cc own d K Λ N) (q : XQ Γ none none σ) (hd : decode cc pc = .ok (.return_, 1)) : XW Γ pc ls [] σ := by
  obtain ⟨⟨p, l, e, R⟩, ⟨s, m, args, below, meth, c⟩, ⟨Q, cells, slots, nL⟩, ⟨D, cs, ad, A, Λ'⟩⟩ := Γ
  obtain ⟨⟨hx, hcb, -⟩, -, rfl, -⟩ := B
  obtain ⟨rfl, hr, hlk, rfl⟩ := q
  intro H locs L hP hD hS hL
  exact W.vret hx hcb hr (fun t ht hW => ⟨⟨rfl, by rw [ht]; exact hP⟩, hS.F ht⟩) hS.2.2 hd hlk
theorem XW.aret (B : XB Γ cc own d K Λ N) {n : String} {v : AV} (hv : v = aN ∨ ∃ t j, v = aR t j) (q : XQ Γ (some (.object n)) (some v) σ) (hd : decode cc pc = .ok (.areturn, 1)) : XW Γ pc ls [v] σ := by
  obtain ⟨⟨p, l, e, R⟩, ⟨s, m, args, below, meth, c⟩, ⟨Q, cells, slots, nL⟩, ⟨D, cs, ad, A, Λ'⟩⟩ := Γ
  obtain ⟨⟨hx, hcb, -⟩, -, rfl, -⟩ := B
  obtain ⟨rfl, hr, hlk, rfl⟩ := q
  intro H locs L hP hD hS hL
  refine W.aret hx hcb hr (Or.inl ⟨n, rfl⟩) ?_ (fun t ht hW => ⟨⟨rfl, by rw [ht]; exact hP⟩, hS.F ht⟩) hS.2.2 hd hlk
  rcases hv with rfl | ⟨t, j, rfl⟩
  · exact Or.inl rfl
  · exact Or.inr ⟨_, rfl⟩
end XE
/-- a method's first locals -/
def aEnt0 : List AV → List (Option AV)
  | [] => []
  | v :: r => cond (aLong v) (some v :: none :: aEnt0 r) (some v :: aEnt0 r)
def aPad : Nat → List (Option AV) → List (Option AV)
  | 0, _ => []
  | n + 1, [] => none :: aPad n []
  | n + 1, a :: r => a :: aPad n r
theorem aPad_get : ∀ (n : Nat) (l : List (Option AV)) (j : Nat) {v : AV}, (aPad n l)[j]? = some (some v) → l[j]? = some (some v)
  | 0, l, j, v, h => by simp [aPad] at h
  | n + 1, [], 0, v, h => by simp [aPad] at h
  | n + 1, [], j + 1, v, h => by
    have := aPad_get n [] j (v := v) (by simpa [aPad] using h)
    simp at this
  | n + 1, a :: r, 0, v, h => by simpa [aPad] using h
  | n + 1, a :: r, j + 1, v, h => by
    have := aPad_get n r j (v := v) (by simpa [aPad] using h)
    simpa using this
theorem aEnt0_args {ad : aMp} : ∀ (as : List AV) (i j : Nat) {v : AV}, (aEnt0 as)[j]? = some (some v) → (i + j, rv ad v) ∈ lv_args i (as.map (rv ad))
  | [], i, j, v, h => by simp [aEnt0] at h
  | a :: r, i, j, v, h => by
    unfold aEnt0 at h
    have hc := aLong_cat ad a
    cases hl : aLong a with
    | true =>
      rw [hl] at h hc
      have hc : (rv ad a).category = 2 := by simpa using hc
      rw [List.map_cons, lv_args, if_pos hc]
      match j, h with
      | 0, h =>
        simp at h
        rw [h]
        exact List.mem_cons_self
      | 1, h => simp at h
      | j + 2, h =>
        have := aEnt0_args r (i + 2) j (ad := ad) (v := v) (by simpa using h)
        rw [show i + 2 + j = i + (j + 2) by omega] at this
        exact List.mem_cons_of_mem _ this
    | false =>
      rw [hl] at h hc
      have hc : ¬ (rv ad a).category = 2 := by simpa using hc
      rw [List.map_cons, lv_args, if_neg hc]
      match j, h with
      | 0, h =>
        simp at h
        rw [h]
        exact List.mem_cons_self
      | j + 1, h =>
        have := aEnt0_args r (i + 1) j (ad := ad) (v := v) (by simpa using h)
        rw [show i + 1 + j = i + (j + 1) by omega] at this
        exact List.mem_cons_of_mem _ this
theorem lg_sl_len {ad : aMp} : ∀ (as : List AV), (lg_sl (as.map (rv ad))).length = (aEnt0 as).length
  | [] => rfl
  | a :: r => by
    have hc := aLong_cat ad a
    have ih := lg_sl_len (ad := ad) r
    unfold lg_sl at ih ⊢
    unfold aEnt0
    cases hl : aLong a with
    | true =>
      rw [hl] at hc
      have hc : (rv ad a).category = 2 := by simpa using hc
      simp [hc, ih]
    | false =>
      rw [hl] at hc
      have hc : ¬ (rv ad a).category = 2 := by simpa using hc
      simp [hc, ih]
theorem XM.of {Λ : aLy} {d : Nat} {y : MethodName} {cc : ByteArray} {nL : Nat} {ret : Option FieldType} {K : aKt} {as : List AV} {σ : SS} {r : Option AV} {σ' : SS} (hd : 1 ≤ d) (hy : plainName y.cls = true) (hK : KOK y.cls K) (hn : (aEnt0 as).length ≤ nL) (body : ∀ Γ, XB Γ cc y.cls d K Λ nL → XQ Γ ret r σ' → XW Γ 0 (aPad nL (aEnt0 as)) [] σ) : XM Λ d (y, cc, nL, ret) as σ r σ' := by
  intro l D cs ad
  refine Met.ofW (cc := cc) (maxL := nL) (ret := ret) hy rfl ?_
  intro p e s m args below meth c s₁ B hml hv
  obtain ⟨rfl, hP, hD, hK2, hst⟩ := hv
  have hts0 := atoms_spec (ws := Cond.code y cc nL ret :: GW) B.pre
  have k := body ((p, l, e, (headSpec (Cond.code y cc nL ret :: GW) (aRm d)).room), (s, m, (as.map (rv ad)).toArray, below, meth, c), (MQ below (aQ Λ D cs ad r σ') (as.map (rv ad)).toArray s 0 0 (aDom Λ ad), 0, 0, nL), (D, cs, ad, aDom Λ ad, Λ))
    ⟨⟨B.exec, B.bytes, hml, findClass_of_methodNamed B.named, fun w hw => hts0 w (List.mem_cons_of_mem _ hw), hK2, hst, Nat.le_refl _, Nat.le_refl _, Nat.zero_le _, Nat.zero_le _, hd⟩, hK, rfl, rfl⟩ ⟨rfl, B.returns, B.notSynchronized, rfl⟩
  have hl := lv_entry (as.map (rv ad)) (n := nL) (by rw [lg_sl_len]; exact hn)
  rw [lg_entry_eq]
  refine k s.heap [] _ hP hD va_S.rf ⟨hl.1, hl.2.1, fun j v hj => ?_⟩
  have h1 := hl.2.2 _ (aEnt0_args (ad := ad) as 0 j (aPad_get _ _ _ hj))
  simpa using h1
/-! calls -/
def calW (M : MR) : Prop := Cond.instanceMethod M.1 ∈ GW ∧ Cond.selects M.1.cls M.1 M.1 ∈ GW ∧ Cond.initialized M.1.cls ∈ GW ∧ Cond.code M.1 M.2.1 M.2.2.1 M.2.2.2 ∈ GW
def calS (M : MR) : Prop := Cond.static M.1 ∈ GW ∧ Cond.initialized M.1.cls ∈ GW ∧ Cond.code M.1 M.2.1 M.2.2.1 M.2.2.2 ∈ GW
def calN (M : MR) (n : Nat) : Prop := M.1.cls ≠ "java/lang/invoke/MethodHandle" ∧ M.1.cls ≠ "java/lang/invoke/VarHandle" ∧ (parseMethodDescriptor M.1.desc).map (fun d => d.parameters.length) = some n ∧ M.2.2.1 ≤ 45
theorem GW_code {M : MR} (h : Cond.code M.1 M.2.1 M.2.2.1 M.2.2.2 ∈ GW) : GoodIn GW (.code M.1 M.2.1 M.2.2.1 M.2.2.2 :: GW) := fun w hw => by
  rcases List.mem_cons.mp hw with e | hw
  · rw [e]; exact GW_good _ h
  · exact GW_good w hw
section XCL
variable {Γ : XC} {cc : ByteArray} {own : String} {d N d2 : Nat} {K : aKt} {Λ : aLy} {pc : Nat} {ls : List (Option AV)} {st as : List AV} {σ σ' : SS} {r : Option AV} {M : MR}
theorem run_end {p : Program} {l : Launch} {e : Env} {R : Room} {s : State} {m : MethodId} {args : Array Value} {below : List Frame} {meth : Method} {c : Code} {Q : State → Prop} {cells slots nL : Nat} {D : va_G} {cs : aCs} {ad : aMp} {A : Nat → Prop} {H : Heap} {locs : List Loc} {L : Array Slot} {st0 : List Value} {as0 : Array Value}
    (hD : va_D A (aWl Λ cs ad σ)) (hS : va_S A s.heap H locs) (hL : aHas ad L nL ls)
    (hr : va_Run p l e R s m args below meth c H locs cells slots 0 0 (F0 m pc L st0) (st.map (rv ad)) (aQ Λ D cs ad r σ' as0) (aDom Λ ad))
    (kk : XW ((p, l, e, R), (s, m, args, below, meth, c), (Q, cells, slots, nL), (D, cs, ad, A, Λ)) (pc + 3) ls (r.toList ++ st) σ') :
    W p l e R s m args below meth c H locs cells slots Q (F0 m pc L st0) := by
  have hsub := aDom_sub hD
  intro T hT X
  obtain ⟨v, st₀, t, T', L2, h0, X', hL2, e1, e2, ⟨⟨hv, hP'⟩, hz, hk⟩, stp⟩ := hr T hT X
  cases hv
  rw [h0] at hz hk
  have := kk T'.heap (locs ++ L2) L (by rw [e1]; exact hP') (aWl_D hD) ⟨Nat.le_trans hS.1 (by rw [e1]; exact hz), fun q h1 h2 => by rw [e1, hk q (Nat.lt_of_lt_of_le h1 hS.1) (fun z => h2 (hsub q z))]; exact hS.2.1 q h1 h2, fun q hq => by
      rcases List.mem_append.mp hq with h | h
      · exact hS.2.2 q h
      · exact hsub _ (hL2 q h)⟩ hL
  obtain ⟨t2, a1, b1⟩ := this T' rfl X'
  refine ⟨t2, stp t2 ?_, b1⟩
  cases r with
  | none => exact a1
  | some v => exact a1
theorem run_pre {s : State} {A : Nat → Prop} {H : Heap} {locs : List Loc} {D : va_G} {cs : aCs} {ad : aMp} (hP : va_P D vwCl (aWl Λ cs ad σ) H) (hD : va_D A (aWl Λ cs ad σ)) (hS : va_S A s.heap H locs) (hKK : va_K D vwCl (aTys cs) s) (hst : aSt ad A s s.heap) {vs : List Value} (U : State) (hU : U.heap = H) (hW : s.WarmedH U.vm) : va_Pc vs (aWd Λ D cs ad σ) vs.toArray U :=
  ⟨rfl, by rw [hU]; exact hP, aDom_D hD, va_K.moved hW.alike hKK, by rw [hU]; exact aSt_to hst hW (aDom_sub hD) (fun a h1 h2 => hS.2.1 a h1 h2)⟩
theorem XW.callV (B : XB Γ cc own d K Λ N) {x t j cn ci n : Nat} {fl : List (Option (Nat × Bool))} {q : vw_C} (C : XM Λ d2 M (aR t j :: as) σ r σ') (hd2 : d2 < d) (hw : calW M) (hN : calN M n) (hlk : Cond.methodLink own x M.1 ∈ GW) (hl : Λ[t]? = some (cn, .inl (ci, fl))) (hc : vwCl[ci]? = some q) (hq : q.1 = M.1.cls) (hj : j < cn) (hn : as.length = n) (hst : (st.map (fun v => (rv (fun _ _ => 0) v).category)).sum ≤ 8) (hd : decode cc pc = .ok (.invokevirtual x, 3)) (kk : XW Γ (pc + 3) ls (r.toList ++ st) σ') : XW Γ pc ls (as.reverse ++ aR t j :: st) σ := by
  obtain ⟨⟨p, l, e, R⟩, ⟨s, m, args, below, meth, c⟩, ⟨Q, cells, slots, nL⟩, ⟨D, cs, ad, A, Λ'⟩⟩ := Γ
  obtain ⟨⟨hx, hcb, hml, hown, hts, hKK, hstt, g1, g2, g3, g4, g5⟩, -, hΛ, -⟩ := B
  have hΛ : Λ' = Λ := hΛ
  subst hΛ
  intro H locs L hP hD hS hL
  rw [← aCat_eq ad] at hst
  obtain ⟨q0, -, hq0⟩ := aWl_at (cs := cs) (ad := ad) (σ := σ) hl hj
  obtain ⟨cellB, b1, b2, b3⟩ := va_recv hKK hP hc hq0
  refine run_end hD hS hL (va_runV (own := own) (C := M.1.cls) (b := ad t j) (As := as.map (rv ad)) (rest := st.map (rv ad)) (n := n) ⟨hx, hcb, hml, hown, hts⟩ (C l D cs ad) ⟨⟨rfl, rfl, by show d2 + 1 ≤ _; omega, by show 8 + (_ + 11) + 64 * d2 ≤ _; have := hN.2.2.2; omega, pay_in hts (GW_code hw.2.2.2), List.mem_cons_self, hts _ hw.2.2.2, hts _ hw.2.2.1, ⟨hN.1, hN.2.1⟩, fun sig h => ?_, hts _ hlk⟩, hts _ hw.1, hts _ hw.2.1⟩ ⟨aBlind, ⟨cellB, b1, b2, by rw [← hq]; exact b3⟩, fun U hU hW => run_pre hP hD hS hKK hstt U hU hW⟩ rfl (by rw [List.length_map]; exact hn) hL.1 (by simp [List.map_append, List.map_reverse, rv]) (by show 2 * 0 + _ ≤ 8; omega) hd ⟨g3, g4⟩) kk
  have h2 := hN.2.2.1
  rw [h] at h2
  exact (Option.some.inj h2).symm
theorem XW.callS (B : XB Γ cc own d K Λ N) {x n : Nat} (C : XM Λ d2 M as σ r σ') (hd2 : d2 < d) (hw : calS M) (hN : calN M n) (hlk : Cond.methodLink own x M.1 ∈ GW) (hn : as.length = n) (hst : (st.map (fun v => (rv (fun _ _ => 0) v).category)).sum ≤ 8) (hd : decode cc pc = .ok (.invokestatic x, 3)) (kk : XW Γ (pc + 3) ls (r.toList ++ st) σ') : XW Γ pc ls (as.reverse ++ st) σ := by
  obtain ⟨⟨p, l, e, R⟩, ⟨s, m, args, below, meth, c⟩, ⟨Q, cells, slots, nL⟩, ⟨D, cs, ad, A, Λ'⟩⟩ := Γ
  obtain ⟨⟨hx, hcb, hml, hown, hts, hKK, hstt, g1, g2, g3, g4, g5⟩, -, hΛ, -⟩ := B
  have hΛ : Λ' = Λ := hΛ
  subst hΛ
  intro H locs L hP hD hS hL
  rw [← aCat_eq ad] at hst
  refine run_end hD hS hL (va_runS (own := own) (As := as.map (rv ad)) (rest := st.map (rv ad)) (n := n) ⟨hx, hcb, hml, hown, hts⟩ (C l D cs ad) ⟨⟨rfl, rfl, by show d2 + 1 ≤ _; omega, by show 8 + (_ + 11) + 64 * d2 ≤ _; have := hN.2.2.2; omega, pay_in hts (GW_code hw.2.2), List.mem_cons_self, hts _ hw.2.2, hts _ hw.2.1, ⟨hN.1, hN.2.1⟩, fun sig h => ?_, hts _ hlk⟩, hts _ hw.1⟩ ⟨aBlind, fun U hU hW => run_pre hP hD hS hKK hstt U hU hW⟩ rfl (by rw [List.length_map]; exact hn) hL.1 (by simp [List.map_append, List.map_reverse]) (by show 2 * 0 + _ ≤ 8; omega) hd ⟨g3, g4⟩) kk
  have h2 := hN.2.2.1
  rw [h] at h2
  exact (Option.some.inj h2).symm
theorem XW.callSN (B : XB Γ cc own d K Λ N) {x n : Nat} {host : String} (C : XM Λ d2 M as σ r σ') (hd2 : d2 < d) (hw : calS M) (hN : calN M n) (hlk : ∀ U, aNw U → va_Nw (.methodLinkNest own x M.1 host) U) (hn : as.length = n) (hst : (st.map (fun v => (rv (fun _ _ => 0) v).category)).sum ≤ 8) (hd : decode cc pc = .ok (.invokestatic x, 3)) (kk : XW Γ (pc + 3) ls (r.toList ++ st) σ') : XW Γ pc ls (as.reverse ++ st) σ := by
  obtain ⟨⟨p, l, e, R⟩, ⟨s, m, args, below, meth, c⟩, ⟨Q, cells, slots, nL⟩, ⟨D, cs, ad, A, Λ'⟩⟩ := Γ
  obtain ⟨⟨hx, hcb, hml, hown, hts, hKK, hstt, g1, g2, g3, g4, g5⟩, -, hΛ, -⟩ := B
  have hΛ : Λ' = Λ := hΛ
  subst hΛ
  intro H locs L hP hD hS hL
  rw [← aCat_eq ad] at hst
  refine run_end hD hS hL (va_runSN (own := own) (host := host) (As := as.map (rv ad)) (rest := st.map (rv ad)) (n := n) ⟨hx, hcb, hml, hown, hts⟩ (C l D cs ad) ⟨⟨⟨rfl, rfl, by show d2 + 1 ≤ _; omega, by show 8 + (_ + 11) + 64 * d2 ≤ _; have := hN.2.2.2; omega, pay_in hts (GW_code hw.2.2), List.mem_cons_self⟩, hts _ hw.2.2, hts _ hw.2.1, ⟨hN.1, hN.2.1⟩, fun sig h => ?_, va_Nw.use rfl (hlk _ hstt.2)⟩, hts _ hw.1, trivial⟩ ⟨aBlind, fun U hU hW => run_pre hP hD hS hKK hstt U hU hW⟩ rfl (by rw [List.length_map]; exact hn) hL.1 (by simp [List.map_append, List.map_reverse]) (by show 2 * 0 + _ ≤ 8; omega) hd ⟨g3, g4⟩) kk
  have h2 := hN.2.2.1
  rw [h] at h2
  exact (Option.some.inj h2).symm
end XCL
end
section
/-! System.arraycopy; java.util.Arrays.fill -/
theorem GW_cp : Cond.native arraycopyName ∈ GW ∧ Cond.static arraycopyName ∈ GW ∧ Cond.initialized "java/lang/System" ∈ GW := ⟨GW_2 179 rfl rfl, GW_2 178 rfl rfl, GW_1 13 rfl rfl⟩
theorem cp_room : nativeFrameWords "java/lang/System" "arraycopy" 5 + 11 ≤ 30 := by decide +kernel
section XCP
variable {Γ : XC} {cc : ByteArray} {own : String} {d N : Nat} {K : aKt} {Λ : aLy} {pc : Nat} {ls : List (Option AV)} {st : List AV} {σ : SS}
theorem XW.copyi (B : XB Γ cc own d K Λ N) {x t1 j1 n1 c1 t2 j2 n2 c2 : Nat} {sp dp n : Int32} (hlk : Cond.methodLink own x arraycopyName ∈ GW) (hl1 : Λ[t1]? = some (c1, .inr (0, n1))) (hj1 : j1 < c1) (hl2 : Λ[t2]? = some (c2, .inr (0, n2))) (hj2 : j2 < c2) (h1 : ¬ sp < 0) (h2 : ¬ dp < 0) (h3 : ¬ n < 0) (h4 : sp.toNatClampNeg + n.toNatClampNeg ≤ n1) (h5 : dp.toNatClampNeg + n.toNatClampNeg ≤ n2) (hst : (st.map (fun v => (rv (fun _ _ => 0) v).category)).sum ≤ 8) (hd : decode cc pc = .ok (.invokestatic x, 3))
    (kk : XW Γ (pc + 3) ls st (sAf σ t2 j2 (va_cpy (σ.2.1 t1 j1) (σ.2.1 t2 j2) sp.toNatClampNeg dp.toNatClampNeg n.toNatClampNeg))) : XW Γ pc ls (aI n :: aI dp :: aR t2 j2 :: aI sp :: aR t1 j1 :: st) σ := by
  obtain ⟨⟨p, l, e, R⟩, ⟨s, m, args, below, meth, c⟩, ⟨Q, cells, slots, nL⟩, ⟨D, cs, ad, A, Λ'⟩⟩ := Γ
  obtain ⟨⟨hx, hcb, hml, hown, hts, hKK, hstt, g1, g2, g3, g4, g5⟩, -, hΛ, -⟩ := B
  have hΛ : Λ' = Λ := hΛ
  subst hΛ
  intro H locs L hP hD hS hL
  rw [← aCat_eq ad] at hst
  obtain ⟨q1, -, hq1⟩ := aWl_at (cs := cs) (ad := ad) (σ := σ) hl1 hj1
  obtain ⟨q2, hi2, hq2⟩ := aWl_at (cs := cs) (ad := ad) (σ := σ) hl2 hj2
  have hrm := cp_room
  refine va_copyi (D := D) (f := σ.2.1 t1 j1) (g := σ.2.1 t2 j2) (ty := .int) hx hcb (hml.trans hL.1.symm) hown (hts _ hlk) (hts _ GW_cp.1) (hts _ GW_cp.2.1) (hts _ GW_cp.2.2) hKK hP hD hS q1 q2 0 0 hq1 hq2 rfl rfl rfl h1 h2 h3 h4 h5 (fun i _ => rfl) (by omega) (by omega) hd (fun H1 locs1 hP1 hD1 hS1 => ?_)
  generalize hf : va_cpy (σ.2.1 t1 j1) (σ.2.1 t2 j2) sp.toNatClampNeg dp.toNatClampNeg n.toNatClampNeg = f at hP1 hD1 kk
  have e : (aWl Λ' cs ad σ).set q2 (ad t2 j2, .inl (cs.1, n2, .inl f)) = aWl Λ' cs ad (sAf σ t2 j2 f) := by
    rw [← aWl_set (σ := σ) (σ' := sAf σ t2 j2 f) hi2 (fun q hq => aWc_A (σ := σ) (σ' := sAf σ t2 j2 f) rfl rfl (fun a b hab => sAf_ne hab) q hq)]
    simp [aWc, aSpOf, hl2, aCell, sAf]
  rw [e] at hP1 hD1
  exact kk H1 locs1 L hP1 hD1 hS1 hL
theorem XW.copyl (B : XB Γ cc own d K Λ N) {x t1 j1 n1 c1 t2 j2 n2 c2 : Nat} {sp dp n : Int32} (hlk : Cond.methodLink own x arraycopyName ∈ GW) (hl1 : Λ[t1]? = some (c1, .inr (1, n1))) (hj1 : j1 < c1) (hl2 : Λ[t2]? = some (c2, .inr (1, n2))) (hj2 : j2 < c2) (h1 : ¬ sp < 0) (h2 : ¬ dp < 0) (h3 : ¬ n < 0) (h4 : sp.toNatClampNeg + n.toNatClampNeg ≤ n1) (h5 : dp.toNatClampNeg + n.toNatClampNeg ≤ n2) (hst : (st.map (fun v => (rv (fun _ _ => 0) v).category)).sum ≤ 8) (hd : decode cc pc = .ok (.invokestatic x, 3))
    (kk : XW Γ (pc + 3) ls st (sLf σ t2 j2 (va_cpy (σ.2.2 t1 j1) (σ.2.2 t2 j2) sp.toNatClampNeg dp.toNatClampNeg n.toNatClampNeg))) : XW Γ pc ls (aI n :: aI dp :: aR t2 j2 :: aI sp :: aR t1 j1 :: st) σ := by
  obtain ⟨⟨p, l, e, R⟩, ⟨s, m, args, below, meth, c⟩, ⟨Q, cells, slots, nL⟩, ⟨D, cs, ad, A, Λ'⟩⟩ := Γ
  obtain ⟨⟨hx, hcb, hml, hown, hts, hKK, hstt, g1, g2, g3, g4, g5⟩, -, hΛ, -⟩ := B
  have hΛ : Λ' = Λ := hΛ
  subst hΛ
  intro H locs L hP hD hS hL
  rw [← aCat_eq ad] at hst
  obtain ⟨q1, -, hq1⟩ := aWl_at (cs := cs) (ad := ad) (σ := σ) hl1 hj1
  obtain ⟨q2, hi2, hq2⟩ := aWl_at (cs := cs) (ad := ad) (σ := σ) hl2 hj2
  have hrm := cp_room
  refine va_copyl (D := D) (f := σ.2.2 t1 j1) (g := σ.2.2 t2 j2) (ty := .long) hx hcb (hml.trans hL.1.symm) hown (hts _ hlk) (hts _ GW_cp.1) (hts _ GW_cp.2.1) (hts _ GW_cp.2.2) hKK hP hD hS q1 q2 1 1 hq1 hq2 rfl rfl rfl h1 h2 h3 h4 h5 (fun i _ => rfl) (by omega) (by omega) hd (fun H1 locs1 hP1 hD1 hS1 => ?_)
  generalize hf : va_cpy (σ.2.2 t1 j1) (σ.2.2 t2 j2) sp.toNatClampNeg dp.toNatClampNeg n.toNatClampNeg = f at hP1 hD1 kk
  have e : (aWl Λ' cs ad σ).set q2 (ad t2 j2, .inl (cs.2.1, n2, .inr (.inl f))) = aWl Λ' cs ad (sLf σ t2 j2 f) := by
    rw [← aWl_set (σ := σ) (σ' := sLf σ t2 j2 f) hi2 (fun q hq => aWc_L (σ := σ) (σ' := sLf σ t2 j2 f) rfl rfl (fun a b hab => sLf_ne hab) q hq)]
    simp [aWc, aSpOf, hl2, aCell, sLf]
  rw [e] at hP1 hD1
  exact kk H1 locs1 L hP1 hD1 hS1 hL
end XCP
abbrev M_fillI : MR := (yJ7_fill_53178, cJ7_fill_53178, 4, none)
abbrev M_fillL : MR := (yJ7_fill_d0a16, cJ7_fill_d0a16, 5, none)
theorem wS_fillI : calS M_fillI := ⟨GW_3 29 rfl rfl, GW_1 14 rfl rfl, GW_3 30 rfl rfl⟩
theorem wS_fillL : calS M_fillL := ⟨GW_4 183 rfl rfl, GW_1 14 rfl rfl, GW_4 184 rfl rfl⟩
theorem wN_fillI : calN M_fillI 2 := ⟨by decide, by decide, by decide +kernel, by decide⟩
theorem wN_fillL : calN M_fillL 2 := ⟨by decide, by decide, by decide +kernel, by decide⟩
def Kno : aKt := ([], [], [], [], [])
theorem KOK_no (own : String) : KOK own Kno := ⟨fun _ h => absurd h List.not_mem_nil, fun _ h => absurd h List.not_mem_nil, fun _ h => absurd h List.not_mem_nil, fun _ h => absurd h List.not_mem_nil, fun _ h => absurd h List.not_mem_nil⟩
def fillF {α : Type} (f : Nat → α) (v : α) (n : Nat) : Nat → α := fun k => if k < n then v else f k
theorem sAf_id (σ : SS) (t j : Nat) : sAf σ t j (σ.2.1 t j) = σ := by
  obtain ⟨a, b, c⟩ := σ
  simp only [sAf, Prod.mk.injEq, true_and, and_true]
  funext x y z
  by_cases h : x = t ∧ y = j
  · rw [if_pos h, h.1, h.2]
  · rw [if_neg h]
theorem sLf_id (σ : SS) (t j : Nat) : sLf σ t j (σ.2.2 t j) = σ := by
  obtain ⟨a, b, c⟩ := σ
  simp only [sLf, Prod.mk.injEq, true_and]
  funext x y z
  by_cases h : x = t ∧ y = j
  · rw [if_pos h, h.1, h.2]
  · rw [if_neg h]
theorem sAf_sA (σ : SS) (t j i : Nat) (v : Int32) (f : Nat → Int32) : sA (sAf σ t j f) t j i v = sAf σ t j (upd f i v) := by
  obtain ⟨a, b, c⟩ := σ
  simp only [sAf, sA, Prod.mk.injEq, true_and, and_true]
  funext x y z
  by_cases h : x = t ∧ y = j
  · by_cases h2 : z = i <;> simp [h, h2, upd]
  · have h3 : ¬ (x = t ∧ y = j ∧ z = i) := fun q => h ⟨q.1, q.2.1⟩
    simp [h, h3]
theorem sLf_sL (σ : SS) (t j i : Nat) (v : Int64) (f : Nat → Int64) : sL (sLf σ t j f) t j i v = sLf σ t j (vp_updL f i v) := by
  obtain ⟨a, b, c⟩ := σ
  simp only [sLf, sL, Prod.mk.injEq, true_and]
  funext x y z
  by_cases h : x = t ∧ y = j
  · by_cases h2 : z = i <;> simp [h, h2, vp_updL]
  · have h3 : ¬ (x = t ∧ y = j ∧ z = i) := fun q => h ⟨q.1, q.2.1⟩
    simp [h, h3]
theorem fillF_0 {α : Type} (f : Nat → α) (v : α) : fillF f v 0 = f := by
  funext k
  simp [fillF]
theorem fillF_s (f : Nat → Int32) (v : Int32) (n : Nat) : upd (fillF f v n) n v = fillF f v (n + 1) := by
  funext k
  simp only [upd, fillF]
  by_cases h : k = n
  · simp [h]
  · by_cases h2 : k < n
    · simp [h, h2, Nat.lt_succ_of_lt h2]
    · simp [h, h2, show ¬ k < n + 1 by omega]
theorem fillF_sL (f : Nat → Int64) (v : Int64) (n : Nat) : vp_updL (fillF f v n) n v = fillF f v (n + 1) := by
  funext k
  simp only [vp_updL, fillF]
  by_cases h : k = n
  · simp [h]
  · by_cases h2 : k < n
    · simp [h, h2, Nat.lt_succ_of_lt h2]
    · simp [h, h2, show ¬ k < n + 1 by omega]
theorem c_fillI {Λ : aLy} {t j cn n : Nat} (hl : Λ[t]? = some (cn, .inr (0, n))) (hj : j < cn) (hn : n < 2 ^ 31) (v : Int32) (σ : SS) : XM Λ 1 M_fillI [aR t j, aI v] σ none (sAf σ t j (fillF (σ.2.1 t j) v n)) := by
  refine XM.of (K := Kno) (Nat.le_refl 1) (by decide) (KOK_no _) (Nat.le_of_ble_eq_true rfl) (fun Γ B q => ?_)
  have hl2 : (xL Γ)[t]? = some (cn, .inr (0, n)) := by rw [B.2.2.1]; exact hl
  have key : ∀ (z i : Nat), i + z = n → XW Γ 5 [some (aR t j), some (aI v), some (aI (nI i)), some (aI (nI n))] [] (sAf σ t j (fillF (σ.2.1 t j) v i)) := by
    intro z
    induction z with
    | zero =>
      intro i hi
      have hi : i = n := by omega
      subst hi
      refine XW.bb B [(5, .iload_n 2), (6, .iload_n 3)] (by decide +kernel) (P := []) (i := .if_icmp .ge 13) (tgt := 20) rfl trivial (by decide +kernel) rfl (by decide) (fun _ => ?_) (fun h => absurd (Int32.le_refl _) h)
      exact XW.vret B q (by decide +kernel)
    | succ z ih =>
      intro i hi
      have hlt : i < n := by omega
      refine XW.bb B [(5, .iload_n 2), (6, .iload_n 3)] (by decide +kernel) (P := []) (i := .if_icmp .ge 13) (tgt := 20) rfl trivial (by decide +kernel) rfl (by decide) (fun h => absurd h (nI_ge hlt hn)) (fun _ => ?_)
      have e := ih (i + 1) (by omega)
      rw [← fillF_s, ← sAf_sA] at e
      refine XW.bk B [(10, .aload_n 0), (11, .iload_n 2), (12, .iload_n 1)] (P := []) (pc1 := 13) (by decide +kernel) rfl trivial ?_
      refine XW.iast B.1 hl2 hj (vp_in_nI hlt hn) (by decide +kernel) ?_
      rw [nI_clamp (by omega)]
      refine XW.bk B [(14, .iinc 2 1), (17, .goto (-12))] (P := []) (pc1 := 5) (ls1 := [some (aR t j), some (aI v), some (aI (nI (i + 1))), some (aI (nI n))]) (st1 := []) (σ1 := sA (sAf σ t j (fillF (σ.2.1 t j) v i)) t j i v) (by decide +kernel) ?_ trivial e
      rw [← nI_1]
      rfl
  have e0 := key n 0 (by omega)
  rw [fillF_0, sAf_id, nI_0] at e0
  refine XW.bk B [(0, .iconst 0), (1, .istore_n 2), (2, .aload_n 0)] (P := []) (pc1 := 3) (ls1 := [some (aR t j), some (aI v), some (aI 0), none]) (st1 := [aR t j]) (σ1 := σ) (by decide +kernel) rfl trivial ?_
  refine XW.alen B.1 hl2 hj (by decide +kernel) ?_
  exact XW.bk B [(4, .istore_n 3)] (P := []) (pc1 := 5) (ls1 := [some (aR t j), some (aI v), some (aI 0), some (aI (nI n))]) (st1 := []) (σ1 := σ) (by decide +kernel) rfl trivial e0
theorem c_fillL {Λ : aLy} {t j cn n : Nat} (hl : Λ[t]? = some (cn, .inr (1, n))) (hj : j < cn) (hn : n < 2 ^ 31) (v : Int64) (σ : SS) : XM Λ 1 M_fillL [aR t j, aJ v] σ none (sLf σ t j (fillF (σ.2.2 t j) v n)) := by
  refine XM.of (K := Kno) (Nat.le_refl 1) (by decide) (KOK_no _) (Nat.le_of_ble_eq_true rfl) (fun Γ B q => ?_)
  have hl2 : (xL Γ)[t]? = some (cn, .inr (1, n)) := by rw [B.2.2.1]; exact hl
  have key : ∀ (z i : Nat), i + z = n → XW Γ 6 [some (aR t j), some (aJ v), none, some (aI (nI i)), some (aI (nI n))] [] (sLf σ t j (fillF (σ.2.2 t j) v i)) := by
    intro z
    induction z with
    | zero =>
      intro i hi
      have hi : i = n := by omega
      subst hi
      refine XW.bb B [(6, .iload_n 3), (7, .iload 4)] (by decide +kernel) (P := []) (i := .if_icmp .ge 13) (tgt := 22) rfl trivial (by decide +kernel) rfl (by decide) (fun _ => ?_) (fun h => absurd (Int32.le_refl _) h)
      exact XW.vret B q (by decide +kernel)
    | succ z ih =>
      intro i hi
      have hlt : i < n := by omega
      refine XW.bb B [(6, .iload_n 3), (7, .iload 4)] (by decide +kernel) (P := []) (i := .if_icmp .ge 13) (tgt := 22) rfl trivial (by decide +kernel) rfl (by decide) (fun h => absurd h (nI_ge hlt hn)) (fun _ => ?_)
      have e := ih (i + 1) (by omega)
      rw [← fillF_sL, ← sLf_sL] at e
      refine XW.bk B [(12, .aload_n 0), (13, .iload_n 3), (14, .lload_n 1)] (P := []) (pc1 := 15) (by decide +kernel) rfl trivial ?_
      refine XW.last B.1 hl2 hj (vp_in_nI hlt hn) (by decide +kernel) ?_
      rw [nI_clamp (by omega)]
      refine XW.bk B [(16, .iinc 3 1), (19, .goto (-13))] (P := []) (pc1 := 6) (ls1 := [some (aR t j), some (aJ v), none, some (aI (nI (i + 1))), some (aI (nI n))]) (st1 := []) (σ1 := sL (sLf σ t j (fillF (σ.2.2 t j) v i)) t j i v) (by decide +kernel) ?_ trivial e
      rw [← nI_1]
      rfl
  have e0 := key n 0 (by omega)
  rw [fillF_0, sLf_id, nI_0] at e0
  refine XW.bk B [(0, .iconst 0), (1, .istore_n 3), (2, .aload_n 0)] (P := []) (pc1 := 3) (ls1 := [some (aR t j), some (aJ v), none, some (aI 0), none]) (st1 := [aR t j]) (σ1 := σ) (by decide +kernel) rfl trivial ?_
  refine XW.alen B.1 hl2 hj (by decide +kernel) ?_
  exact XW.bk B [(4, .istore 4)] (P := []) (pc1 := 6) (ls1 := [some (aR t j), some (aJ v), none, some (aI 0), some (aI (nI n))]) (st1 := []) (σ1 := σ) (by decide +kernel) rfl trivial e0
end
section
/-! helpers of the mirrored methods -/
def FU : Nat := 100000
def bnT {α β : Type} (x : α) (f : α → β) : β := f x
theorem bnT_eq {α β : Type} {x : α} {f : α → β} {r : β} (h : bnT x f = r) : ∃ q, x = q ∧ f q = r := ⟨x, rfl, h⟩
theorem obind_eq {α β : Type} {x : Option α} {f : α → Option β} {r : β} (h : Option.bind x f = some r) : ∃ q, x = some q ∧ f q = some r := by
  cases x with
  | none => cases h
  | some q => exact ⟨q, rfl, h⟩
theorem vin_lit {x : Int32} {n : Nat} (h : decide (¬ (x < 0 ∨ n ≤ x.toNatClampNeg)) = true) : vp_in x n := by
  have h1 : ¬ (x < 0 ∨ n ≤ x.toNatClampNeg) := of_decide_eq_true h
  exact h1
theorem vin_a {x c : Int32} {n : Nat} (h1 : ¬ x < 0) (h2 : ¬ c ≤ x) (hc : c.toInt ≤ (n : Int)) : vp_in x n := by
  refine vp_in_iff.mpr ⟨?_, ?_⟩
  · have := Int32.le_iff_toInt_le.mp (Int32.not_lt.mp h1)
    simpa using this
  · have := Int32.lt_iff_toInt_lt.mp (Int32.not_le.mp h2)
    omega
theorem vin_b {x c : Int32} {n : Nat} (h1 : ¬ x < 0) (h2 : x < c) (hc : c.toInt ≤ (n : Int)) : vp_in x n := vin_a h1 (Int32.not_le.mpr h2) hc
theorem vin_c {x c : Int32} {n : Nat} (h1 : 0 ≤ x) (h2 : ¬ c ≤ x) (hc : c.toInt ≤ (n : Int)) : vp_in x n := vin_a (Int32.not_lt.mpr h1) h2 hc
theorem vin_d {x c : Int32} {n : Nat} (h1 : 0 ≤ x) (h2 : x < c) (hc : c.toInt ≤ (n : Int)) : vp_in x n := vin_a (Int32.not_lt.mpr h1) (Int32.not_le.mpr h2) hc
theorem vin_cl {x : Int32} {n : Nat} (h : vp_in x n) : x.toNatClampNeg < n := Nat.not_le.mp (fun q => h (Or.inr q))
theorem nz_a {x : Int32} (h : ¬ x ≤ 0) : ¬ x = 0 := fun e => h (by rw [e]; exact Int32.le_refl 0)
theorem nz_b {x : Int32} (h : 0 < x) : ¬ x = 0 := fun e => by rw [e] at h; exact absurd h (by decide)
theorem nz_c {x : Int64} (h : ¬ lg_cmp x 0 = 0) : ¬ x = 0 := fun e => h (by rw [e]; rfl)
theorem sh_j {x : Int32} (h : ¬ (x < 0 ∨ ¬ x < 6)) : x.toNatClampNeg < 6 := vin_cl (vin_b (fun q => h (Or.inl q)) (Classical.not_not.mp (fun q => h (Or.inr q))) (by decide +kernel))
/-- a boolean field -/
def putzP (own : String) (x ci k : Nat) : Prop := ∃ C T N, vwCl[ci]? = some (C, T, N) ∧ k < N ∧ Cond.fieldLink own x C (T k).2.1 (T k).2.2.1 ∈ GW ∧ (T k).1 = C ∧ (T k).2.2.2 = false ∧ parseFieldDescriptor (T k).2.2.1 = some .boolean
theorem XW.putz {Γ : XC} {cc : ByteArray} {own : String} {d N : Nat} {K : aKt} {Λ : aLy} {pc : Nat} {ls : List (Option AV)} {r : List AV} {σ : SS} (B : XB Γ cc own d K Λ N) {x ci k t j cn : Nat} {fl : List (Option (Nat × Bool))} {v : Int32} (hf : putzP own x ci k) (hl : Λ[t]? = some (cn, .inl (ci, fl))) (hk : fl[k]? = some none) (hj : j < cn) (hv : v = 0 ∨ v = 1) (hd : decode cc pc = .ok (.putfield x, 3)) (kk : XW Γ (pc + 3) ls r (sI σ t j k v)) : XW Γ pc ls (aI v :: aR t j :: r) σ := by
  obtain ⟨⟨p, l, e, R⟩, ⟨s, m, args, below, meth, c⟩, ⟨Q, cells, slots, nL⟩, ⟨D, cs, ad, A, Λ'⟩⟩ := Γ
  obtain ⟨⟨hx, hb, hml, hown, hts, hK, hst, -⟩, -, hΛ, -⟩ := B
  have hΛ : Λ' = Λ := hΛ
  subst hΛ
  intro H locs L hP hD hS hL
  obtain ⟨C, T, N, hc, h1, h2, h3, h4, h5⟩ := hf
  · obtain ⟨ty, hty, hnm⟩ := cl_ty ci C T N hc
    obtain ⟨q0, hq1, hq⟩ := aWl_at (cs := cs) (ad := ad) (σ := σ) hl hj
    refine va_put (D := D) (ci := ci) (v := .int v) (ty := .boolean) (C := C) (T := T) (N := N) (ref := C) hx hb hts (cl_ws ci C T N hc) ty hty hnm hown hK hP hD hS q0 hq hc k h1 (hts _ h2) (fun y hy => by rw [h3] at hy; exact hy) h4 h5 (by rcases hv with rfl | rfl <;> rfl) (by rcases hv with rfl | rfl <;> rfl) (by rw [aFs_len]; exact (List.getElem?_eq_some_iff.mp hk).1) hd (fun H1 locs1 hP1 hD1 hS1 => ?_)
    have e : (aWl Λ' cs ad σ).set q0 (ad t j, .inr (ci, (aFs ad σ t j 0 fl).set k (.int v))) = aWl Λ' cs ad (sI σ t j k v) := by
      rw [← aWl_set hq1 (fun q hq => aWc_sI q hq), aFs_set fl 0 k hk, Nat.zero_add]
      simp [aWc, aSpOf, hl, aCell]
    rw [e] at hP1 hD1
    exact kk H1 locs1 L hP1 hD1 hS1 hL
end
section
def LC : aLy := [(1, .inl (10, [some (1, false), some (3, false), some (7, false), some (14, false), some (17, false), some (20, false), some (21, false), some (24, false), some (27, false)])), (1, .inl (8, [some (2, false), none])), (1, .inr (0, 88)), (1, .inl (1, [some (4, false), some (5, false), some (6, false), none, none])), (1, .inr (0, 40)), (1, .inr (0, 40)), (1, .inr (0, 40)), (1, .inl (3, [some (8, false), none, some (9, false), some (10, false), none, some (11, false), some (12, false), none, none, none, some (13, false), none])), (1, .inr (0, 120)), (1, .inr (0, 128)), (1, .inr (0, 128)), (1, .inr (0, 128)), (1, .inr (0, 128)), (1, .inr (0, 128)), (1, .inl (7, [some (1, false), some (7, false), some (15, false), some (16, false), none, none, none, none])), (1, .inr (0, 6)), (1, .inr (0, 96)), (1, .inl (9, [some (1, false), some (14, false), some (18, false), some (19, false), none, none, none, none, none])), (1, .inr (0, 48)), (1, .inr (0, 12)), (1, .inl (0, [some (1, false)])), (1, .inl (2, [some (1, false), some (14, false), some (22, false), some (23, false), none])), (1, .inl (4, [none, none, none, none, none, none, none, none, none, none])), (1, .inl (4, [none, none, none, none, none, none, none, none, none, none])), (1, .inl (5, [some (25, false), none, some (26, false), none, none, none])), (1, .inr (0, 50)), (1, .inr (0, 24)), (1, .inr (30, 6)), (6, .inl (6, [none, none, none, some (29, true)])), (6, .inr (1, 60))]
def LM : aLy := [(1, .inl (11, [some (1, false), some (2, false), some (3, false), some (4, false), none, none, none, none, some (5, false), none, some (6, false), none, none, none, none, none, none, some (7, false), none, none, some (8, false), some (9, false), some (10, false), none, none, none, none, none, none, none, none, none, none, some (11, false), none, some (12, false), some (13, false), none, none, none, some (14, false), some (15, false), some (16, false), some (17, false)])), (1, .inr (0, 88)), (1, .inr (0, 40)), (1, .inr (0, 40)), (1, .inr (0, 40)), (1, .inr (0, 120)), (1, .inr (0, 120)), (1, .inr (0, 6)), (1, .inr (0, 52)), (1, .inr (0, 12)), (1, .inr (0, 12)), (1, .inr (0, 9)), (1, .inr (0, 50)), (1, .inr (0, 24)), (1, .inr (0, 6)), (1, .inr (0, 6)), (1, .inr (1, 360)), (1, .inr (1, 60))]
def K0 : aKt := ([(9, 0, 0, false, 0), (15, 8, 1, true, 0)], [], [], [(21, (12 : Int64), 0)], [(27, true, 0)])
theorem K0_ok : KOK RX0 K0 := ⟨(List.forall_mem_cons.mpr ⟨fldP_of rfl (by decide) (GW_1 210 rfl rfl) rfl (by decide +kernel), (List.forall_mem_cons.mpr ⟨fldP_of rfl (by decide) (GW_1 33 rfl rfl) rfl (by decide +kernel), (fun _ hz => absurd hz List.not_mem_nil)⟩)⟩), (fun _ hz => absurd hz List.not_mem_nil), (fun _ hz => absurd hz List.not_mem_nil), (List.forall_mem_cons.mpr ⟨GW_3 215 rfl rfl, (fun _ hz => absurd hz List.not_mem_nil)⟩), (List.forall_mem_cons.mpr ⟨GW_3 214 rfl rfl, (fun _ hz => absurd hz List.not_mem_nil)⟩)⟩
def K1 : aKt := ([(9, 1, 0, false, 0), (13, 1, 1, false, 0), (16, 1, 2, false, 0), (19, 1, 4, true, 0), (26, 1, 3, true, 0)], [], [], [], [])
theorem K1_ok : KOK RX1 K1 := ⟨(List.forall_mem_cons.mpr ⟨fldP_of rfl (by decide) (GW_1 148 rfl rfl) rfl (by decide +kernel), (List.forall_mem_cons.mpr ⟨fldP_of rfl (by decide) (GW_1 149 rfl rfl) rfl (by decide +kernel), (List.forall_mem_cons.mpr ⟨fldP_of rfl (by decide) (GW_1 150 rfl rfl) rfl (by decide +kernel), (List.forall_mem_cons.mpr ⟨fldP_of rfl (by decide) (GW_1 153 rfl rfl) rfl (by decide +kernel), (List.forall_mem_cons.mpr ⟨fldP_of rfl (by decide) (GW_1 151 rfl rfl) rfl (by decide +kernel), (fun _ hz => absurd hz List.not_mem_nil)⟩)⟩)⟩)⟩)⟩), (fun _ hz => absurd hz List.not_mem_nil), (fun _ hz => absurd hz List.not_mem_nil), (fun _ hz => absurd hz List.not_mem_nil), (fun _ hz => absurd hz List.not_mem_nil)⟩
def K2 : aKt := ([(12, 2, 2, false, 0), (21, 2, 0, false, 0), (25, 2, 1, false, 0), (29, 4, 0, false, 0), (33, 8, 1, true, 0), (43, 4, 1, true, 0), (46, 4, 2, true, 0), (49, 4, 3, true, 0), (52, 4, 4, true, 0), (59, 4, 7, true, 0), (62, 4, 8, true, 0), (88, 4, 6, true, 0), (98, 4, 5, true, 0), (101, 4, 9, true, 0)], [], [(104, (-2000000000 : Int32), 0)], [], [(79, true, 0)])
theorem K2_ok : KOK RX2 K2 := ⟨(List.forall_mem_cons.mpr ⟨fldP_of rfl (by decide) (GW_2 31 rfl rfl) rfl (by decide +kernel), (List.forall_mem_cons.mpr ⟨fldP_of rfl (by decide) (GW_2 29 rfl rfl) rfl (by decide +kernel), (List.forall_mem_cons.mpr ⟨fldP_of rfl (by decide) (GW_2 30 rfl rfl) rfl (by decide +kernel), (List.forall_mem_cons.mpr ⟨fldP_of rfl (by decide) (GW_1 228 rfl rfl) rfl (by decide +kernel), (List.forall_mem_cons.mpr ⟨fldP_of rfl (by decide) (GW_1 34 rfl rfl) rfl (by decide +kernel), (List.forall_mem_cons.mpr ⟨fldP_of rfl (by decide) (GW_1 230 rfl rfl) rfl (by decide +kernel), (List.forall_mem_cons.mpr ⟨fldP_of rfl (by decide) (GW_1 232 rfl rfl) rfl (by decide +kernel), (List.forall_mem_cons.mpr ⟨fldP_of rfl (by decide) (GW_1 234 rfl rfl) rfl (by decide +kernel), (List.forall_mem_cons.mpr ⟨fldP_of rfl (by decide) (GW_1 236 rfl rfl) rfl (by decide +kernel), (List.forall_mem_cons.mpr ⟨fldP_of rfl (by decide) (GW_2 3 rfl rfl) rfl (by decide +kernel), (List.forall_mem_cons.mpr ⟨fldP_of rfl (by decide) (GW_2 5 rfl rfl) rfl (by decide +kernel), (List.forall_mem_cons.mpr ⟨fldP_of rfl (by decide) (GW_2 1 rfl rfl) rfl (by decide +kernel), (List.forall_mem_cons.mpr ⟨fldP_of rfl (by decide) (GW_1 238 rfl rfl) rfl (by decide +kernel), (List.forall_mem_cons.mpr ⟨fldP_of rfl (by decide) (GW_2 7 rfl rfl) rfl (by decide +kernel), (fun _ hz => absurd hz List.not_mem_nil)⟩)⟩)⟩)⟩)⟩)⟩)⟩)⟩)⟩)⟩)⟩)⟩)⟩)⟩), (fun _ hz => absurd hz List.not_mem_nil), (List.forall_mem_cons.mpr ⟨GW_4 61 rfl rfl, (fun _ hz => absurd hz List.not_mem_nil)⟩), (fun _ hz => absurd hz List.not_mem_nil), (List.forall_mem_cons.mpr ⟨GW_4 51 rfl rfl, (fun _ hz => absurd hz List.not_mem_nil)⟩)⟩
def K3 : aKt := ([(11, 3, 0, false, 0), (15, 3, 2, false, 0), (18, 3, 3, false, 0), (21, 3, 5, false, 0), (24, 3, 6, false, 0), (27, 3, 10, false, 0), (30, 3, 4, true, 0), (34, 3, 1, true, 0), (37, 3, 8, true, 0), (40, 3, 9, true, 0), (43, 3, 7, true, 0), (84, 3, 11, true, 0)], [], [], [], [])
theorem K3_ok : KOK RX3 K3 := ⟨(List.forall_mem_cons.mpr ⟨fldP_of rfl (by decide) (GW_1 48 rfl rfl) rfl (by decide +kernel), (List.forall_mem_cons.mpr ⟨fldP_of rfl (by decide) (GW_1 51 rfl rfl) rfl (by decide +kernel), (List.forall_mem_cons.mpr ⟨fldP_of rfl (by decide) (GW_1 52 rfl rfl) rfl (by decide +kernel), (List.forall_mem_cons.mpr ⟨fldP_of rfl (by decide) (GW_1 54 rfl rfl) rfl (by decide +kernel), (List.forall_mem_cons.mpr ⟨fldP_of rfl (by decide) (GW_1 55 rfl rfl) rfl (by decide +kernel), (List.forall_mem_cons.mpr ⟨fldP_of rfl (by decide) (GW_1 59 rfl rfl) rfl (by decide +kernel), (List.forall_mem_cons.mpr ⟨fldP_of rfl (by decide) (GW_1 53 rfl rfl) rfl (by decide +kernel), (List.forall_mem_cons.mpr ⟨fldP_of rfl (by decide) (GW_1 49 rfl rfl) rfl (by decide +kernel), (List.forall_mem_cons.mpr ⟨fldP_of rfl (by decide) (GW_1 57 rfl rfl) rfl (by decide +kernel), (List.forall_mem_cons.mpr ⟨fldP_of rfl (by decide) (GW_1 58 rfl rfl) rfl (by decide +kernel), (List.forall_mem_cons.mpr ⟨fldP_of rfl (by decide) (GW_1 56 rfl rfl) rfl (by decide +kernel), (List.forall_mem_cons.mpr ⟨fldP_of rfl (by decide) (GW_1 60 rfl rfl) rfl (by decide +kernel), (fun _ hz => absurd hz List.not_mem_nil)⟩)⟩)⟩)⟩)⟩)⟩)⟩)⟩)⟩)⟩)⟩)⟩), (fun _ hz => absurd hz List.not_mem_nil), (fun _ hz => absurd hz List.not_mem_nil), (fun _ hz => absurd hz List.not_mem_nil), (fun _ hz => absurd hz List.not_mem_nil)⟩
def K4 : aKt := ([(10, 4, 9, true, 0), (16, 4, 0, false, 0), (20, 4, 1, true, 0), (23, 4, 2, true, 0), (26, 4, 3, true, 0), (29, 4, 4, true, 0), (32, 4, 5, true, 0), (35, 4, 6, true, 0), (38, 4, 7, true, 0), (41, 4, 8, true, 0)], [], [], [], [])
theorem K4_ok : KOK RX4 K4 := ⟨(List.forall_mem_cons.mpr ⟨fldP_of rfl (by decide) (GW_2 6 rfl rfl) rfl (by decide +kernel), (List.forall_mem_cons.mpr ⟨fldP_of rfl (by decide) (GW_1 227 rfl rfl) rfl (by decide +kernel), (List.forall_mem_cons.mpr ⟨fldP_of rfl (by decide) (GW_1 229 rfl rfl) rfl (by decide +kernel), (List.forall_mem_cons.mpr ⟨fldP_of rfl (by decide) (GW_1 231 rfl rfl) rfl (by decide +kernel), (List.forall_mem_cons.mpr ⟨fldP_of rfl (by decide) (GW_1 233 rfl rfl) rfl (by decide +kernel), (List.forall_mem_cons.mpr ⟨fldP_of rfl (by decide) (GW_1 235 rfl rfl) rfl (by decide +kernel), (List.forall_mem_cons.mpr ⟨fldP_of rfl (by decide) (GW_1 237 rfl rfl) rfl (by decide +kernel), (List.forall_mem_cons.mpr ⟨fldP_of rfl (by decide) (GW_2 0 rfl rfl) rfl (by decide +kernel), (List.forall_mem_cons.mpr ⟨fldP_of rfl (by decide) (GW_2 2 rfl rfl) rfl (by decide +kernel), (List.forall_mem_cons.mpr ⟨fldP_of rfl (by decide) (GW_2 4 rfl rfl) rfl (by decide +kernel), (fun _ hz => absurd hz List.not_mem_nil)⟩)⟩)⟩)⟩)⟩)⟩)⟩)⟩)⟩)⟩), (fun _ hz => absurd hz List.not_mem_nil), (fun _ hz => absurd hz List.not_mem_nil), (fun _ hz => absurd hz List.not_mem_nil), (fun _ hz => absurd hz List.not_mem_nil)⟩
def K5 : aKt := ([(11, 5, 0, false, 0), (15, 5, 2, false, 0), (18, 5, 1, true, 0), (36, 5, 3, true, 0), (39, 5, 4, true, 0), (45, 5, 5, true, 0)], [(30, 2, 0), (33, 3, 0)], [], [], [])
theorem K5_ok : KOK RX5 K5 := ⟨(List.forall_mem_cons.mpr ⟨fldP_of rfl (by decide) (GW_2 53 rfl rfl) rfl (by decide +kernel), (List.forall_mem_cons.mpr ⟨fldP_of rfl (by decide) (GW_2 56 rfl rfl) rfl (by decide +kernel), (List.forall_mem_cons.mpr ⟨fldP_of rfl (by decide) (GW_2 54 rfl rfl) rfl (by decide +kernel), (List.forall_mem_cons.mpr ⟨fldP_of rfl (by decide) (GW_2 57 rfl rfl) rfl (by decide +kernel), (List.forall_mem_cons.mpr ⟨fldP_of rfl (by decide) (GW_2 59 rfl rfl) rfl (by decide +kernel), (List.forall_mem_cons.mpr ⟨fldP_of rfl (by decide) (GW_2 60 rfl rfl) rfl (by decide +kernel), (fun _ hz => absurd hz List.not_mem_nil)⟩)⟩)⟩)⟩)⟩)⟩), (List.forall_mem_cons.mpr ⟨⟨by decide, GW_4 151 rfl rfl⟩, (List.forall_mem_cons.mpr ⟨⟨by decide, GW_4 146 rfl rfl⟩, (fun _ hz => absurd hz List.not_mem_nil)⟩)⟩), (fun _ hz => absurd hz List.not_mem_nil), (fun _ hz => absurd hz List.not_mem_nil), (fun _ hz => absurd hz List.not_mem_nil)⟩
def K6 : aKt := ([(9, 6, 0, true, 0), (15, 6, 3, false, 0), (19, 6, 1, true, 0), (22, 6, 2, true, 0)], [], [], [], [])
theorem K6_ok : KOK RX6 K6 := ⟨(List.forall_mem_cons.mpr ⟨fldP_of rfl (by decide) (GW_1 124 rfl rfl) rfl (by decide +kernel), (List.forall_mem_cons.mpr ⟨fldP_of rfl (by decide) (GW_1 130 rfl rfl) rfl (by decide +kernel), (List.forall_mem_cons.mpr ⟨fldP_of rfl (by decide) (GW_1 126 rfl rfl) rfl (by decide +kernel), (List.forall_mem_cons.mpr ⟨fldP_of rfl (by decide) (GW_1 128 rfl rfl) rfl (by decide +kernel), (fun _ hz => absurd hz List.not_mem_nil)⟩)⟩)⟩)⟩), (fun _ hz => absurd hz List.not_mem_nil), (fun _ hz => absurd hz List.not_mem_nil), (fun _ hz => absurd hz List.not_mem_nil), (fun _ hz => absurd hz List.not_mem_nil)⟩
def K7 : aKt := ([(9, 7, 2, false, 0), (15, 7, 3, false, 0), (18, 7, 0, false, 0), (22, 7, 1, false, 0), (26, 7, 4, true, 0), (30, 7, 5, true, 0), (33, 7, 6, true, 0), (42, 7, 7, true, 0)], [], [], [], [(73, false, 0), (78, true, 0)])
theorem K7_ok : KOK RX7 K7 := ⟨(List.forall_mem_cons.mpr ⟨fldP_of rfl (by decide) (GW_1 94 rfl rfl) rfl (by decide +kernel), (List.forall_mem_cons.mpr ⟨fldP_of rfl (by decide) (GW_1 95 rfl rfl) rfl (by decide +kernel), (List.forall_mem_cons.mpr ⟨fldP_of rfl (by decide) (GW_1 92 rfl rfl) rfl (by decide +kernel), (List.forall_mem_cons.mpr ⟨fldP_of rfl (by decide) (GW_1 93 rfl rfl) rfl (by decide +kernel), (List.forall_mem_cons.mpr ⟨fldP_of rfl (by decide) (GW_1 96 rfl rfl) rfl (by decide +kernel), (List.forall_mem_cons.mpr ⟨fldP_of rfl (by decide) (GW_1 97 rfl rfl) rfl (by decide +kernel), (List.forall_mem_cons.mpr ⟨fldP_of rfl (by decide) (GW_1 98 rfl rfl) rfl (by decide +kernel), (List.forall_mem_cons.mpr ⟨fldP_of rfl (by decide) (GW_1 99 rfl rfl) rfl (by decide +kernel), (fun _ hz => absurd hz List.not_mem_nil)⟩)⟩)⟩)⟩)⟩)⟩)⟩)⟩), (fun _ hz => absurd hz List.not_mem_nil), (fun _ hz => absurd hz List.not_mem_nil), (fun _ hz => absurd hz List.not_mem_nil), (List.forall_mem_cons.mpr ⟨GW_3 59 rfl rfl, (List.forall_mem_cons.mpr ⟨GW_3 62 rfl rfl, (fun _ hz => absurd hz List.not_mem_nil)⟩)⟩)⟩
def K8 : aKt := ([(11, 8, 0, false, 0), (15, 8, 1, true, 0)], [], [], [], [])
theorem K8_ok : KOK RX8 K8 := ⟨(List.forall_mem_cons.mpr ⟨fldP_of rfl (by decide) (GW_1 30 rfl rfl) rfl (by decide +kernel), (List.forall_mem_cons.mpr ⟨fldP_of rfl (by decide) (GW_1 31 rfl rfl) rfl (by decide +kernel), (fun _ hz => absurd hz List.not_mem_nil)⟩)⟩), (fun _ hz => absurd hz List.not_mem_nil), (fun _ hz => absurd hz List.not_mem_nil), (fun _ hz => absurd hz List.not_mem_nil), (fun _ hz => absurd hz List.not_mem_nil)⟩
def K9 : aKt := ([(9, 9, 2, false, 0), (15, 9, 3, false, 0), (18, 9, 0, false, 0), (22, 9, 1, false, 0), (26, 8, 1, true, 0), (42, 9, 4, true, 0), (55, 9, 5, true, 0), (116, 6, 2, true, 0), (123, 9, 8, true, 0), (126, 9, 6, true, 0), (129, 9, 7, true, 0)], [], [(77, (1000000 : Int32), 0), (135, (1103515245 : Int32), 0)], [(87, (10 : Int64), 0)], [(69, false, 0), (109, true, 0)])
theorem K9_ok : KOK RX9 K9 := ⟨(List.forall_mem_cons.mpr ⟨fldP_of rfl (by decide) (GW_1 174 rfl rfl) rfl (by decide +kernel), (List.forall_mem_cons.mpr ⟨fldP_of rfl (by decide) (GW_1 175 rfl rfl) rfl (by decide +kernel), (List.forall_mem_cons.mpr ⟨fldP_of rfl (by decide) (GW_1 172 rfl rfl) rfl (by decide +kernel), (List.forall_mem_cons.mpr ⟨fldP_of rfl (by decide) (GW_1 173 rfl rfl) rfl (by decide +kernel), (List.forall_mem_cons.mpr ⟨fldP_of rfl (by decide) (GW_1 32 rfl rfl) rfl (by decide +kernel), (List.forall_mem_cons.mpr ⟨fldP_of rfl (by decide) (GW_1 176 rfl rfl) rfl (by decide +kernel), (List.forall_mem_cons.mpr ⟨fldP_of rfl (by decide) (GW_1 178 rfl rfl) rfl (by decide +kernel), (List.forall_mem_cons.mpr ⟨fldP_of rfl (by decide) (GW_1 129 rfl rfl) rfl (by decide +kernel), (List.forall_mem_cons.mpr ⟨fldP_of rfl (by decide) (GW_1 184 rfl rfl) rfl (by decide +kernel), (List.forall_mem_cons.mpr ⟨fldP_of rfl (by decide) (GW_1 180 rfl rfl) rfl (by decide +kernel), (List.forall_mem_cons.mpr ⟨fldP_of rfl (by decide) (GW_1 182 rfl rfl) rfl (by decide +kernel), (fun _ hz => absurd hz List.not_mem_nil)⟩)⟩)⟩)⟩)⟩)⟩)⟩)⟩)⟩)⟩)⟩), (fun _ hz => absurd hz List.not_mem_nil), (List.forall_mem_cons.mpr ⟨GW_3 128 rfl rfl, (List.forall_mem_cons.mpr ⟨GW_4 34 rfl rfl, (fun _ hz => absurd hz List.not_mem_nil)⟩)⟩), (List.forall_mem_cons.mpr ⟨GW_3 137 rfl rfl, (fun _ hz => absurd hz List.not_mem_nil)⟩), (List.forall_mem_cons.mpr ⟨GW_3 158 rfl rfl, (List.forall_mem_cons.mpr ⟨GW_3 157 rfl rfl, (fun _ hz => absurd hz List.not_mem_nil)⟩)⟩)⟩
def K10 : aKt := ([(23, 10, 0, false, 0), (30, 10, 1, false, 0), (34, 10, 2, false, 0), (38, 10, 3, false, 0), (47, 10, 4, false, 0), (56, 10, 5, false, 0), (63, 10, 6, false, 0), (70, 10, 7, false, 0), (166, 9, 4, true, 0), (170, 9, 5, true, 0), (180, 8, 1, true, 0), (249, 9, 6, true, 0), (252, 9, 7, true, 0), (264, 2, 2, false, 0), (273, 2, 3, false, 0), (280, 2, 4, false, 0), (284, 4, 5, true, 0), (287, 1, 4, true, 0), (293, 1, 3, true, 0), (323, 6, 0, true, 0), (326, 6, 3, false, 0), (336, 6, 1, true, 0), (345, 3, 1, true, 0), (348, 5, 1, true, 0), (351, 5, 3, true, 0)], [(354, 0, 0), (358, 1, 0)], [], [(178, (-9223372036854775808 : Int64), 0), (183, (-5 : Int64), 0)], [])
theorem K10_ok : KOK RX10 K10 := ⟨(List.forall_mem_cons.mpr ⟨fldP_of rfl (by decide) (GW_2 74 rfl rfl) rfl (by decide +kernel), (List.forall_mem_cons.mpr ⟨fldP_of rfl (by decide) (GW_2 75 rfl rfl) rfl (by decide +kernel), (List.forall_mem_cons.mpr ⟨fldP_of rfl (by decide) (GW_2 76 rfl rfl) rfl (by decide +kernel), (List.forall_mem_cons.mpr ⟨fldP_of rfl (by decide) (GW_2 77 rfl rfl) rfl (by decide +kernel), (List.forall_mem_cons.mpr ⟨fldP_of rfl (by decide) (GW_2 78 rfl rfl) rfl (by decide +kernel), (List.forall_mem_cons.mpr ⟨fldP_of rfl (by decide) (GW_2 79 rfl rfl) rfl (by decide +kernel), (List.forall_mem_cons.mpr ⟨fldP_of rfl (by decide) (GW_2 80 rfl rfl) rfl (by decide +kernel), (List.forall_mem_cons.mpr ⟨fldP_of rfl (by decide) (GW_2 81 rfl rfl) rfl (by decide +kernel), (List.forall_mem_cons.mpr ⟨fldP_of rfl (by decide) (GW_1 177 rfl rfl) rfl (by decide +kernel), (List.forall_mem_cons.mpr ⟨fldP_of rfl (by decide) (GW_1 179 rfl rfl) rfl (by decide +kernel), (List.forall_mem_cons.mpr ⟨fldP_of rfl (by decide) (GW_1 35 rfl rfl) rfl (by decide +kernel), (List.forall_mem_cons.mpr ⟨fldP_of rfl (by decide) (GW_1 181 rfl rfl) rfl (by decide +kernel), (List.forall_mem_cons.mpr ⟨fldP_of rfl (by decide) (GW_1 183 rfl rfl) rfl (by decide +kernel), (List.forall_mem_cons.mpr ⟨fldP_of rfl (by decide) (GW_2 32 rfl rfl) rfl (by decide +kernel), (List.forall_mem_cons.mpr ⟨fldP_of rfl (by decide) (GW_2 34 rfl rfl) rfl (by decide +kernel), (List.forall_mem_cons.mpr ⟨fldP_of rfl (by decide) (GW_2 35 rfl rfl) rfl (by decide +kernel), (List.forall_mem_cons.mpr ⟨fldP_of rfl (by decide) (GW_1 239 rfl rfl) rfl (by decide +kernel), (List.forall_mem_cons.mpr ⟨fldP_of rfl (by decide) (GW_1 154 rfl rfl) rfl (by decide +kernel), (List.forall_mem_cons.mpr ⟨fldP_of rfl (by decide) (GW_1 152 rfl rfl) rfl (by decide +kernel), (List.forall_mem_cons.mpr ⟨fldP_of rfl (by decide) (GW_1 125 rfl rfl) rfl (by decide +kernel), (List.forall_mem_cons.mpr ⟨fldP_of rfl (by decide) (GW_1 131 rfl rfl) rfl (by decide +kernel), (List.forall_mem_cons.mpr ⟨fldP_of rfl (by decide) (GW_1 127 rfl rfl) rfl (by decide +kernel), (List.forall_mem_cons.mpr ⟨fldP_of rfl (by decide) (GW_1 50 rfl rfl) rfl (by decide +kernel), (List.forall_mem_cons.mpr ⟨fldP_of rfl (by decide) (GW_2 55 rfl rfl) rfl (by decide +kernel), (List.forall_mem_cons.mpr ⟨fldP_of rfl (by decide) (GW_2 58 rfl rfl) rfl (by decide +kernel), (fun _ hz => absurd hz List.not_mem_nil)⟩)⟩)⟩)⟩)⟩)⟩)⟩)⟩)⟩)⟩)⟩)⟩)⟩)⟩)⟩)⟩)⟩)⟩)⟩)⟩)⟩)⟩)⟩)⟩)⟩), (List.forall_mem_cons.mpr ⟨⟨by decide, GW_2 109 rfl rfl⟩, (List.forall_mem_cons.mpr ⟨⟨by decide, GW_2 111 rfl rfl⟩, (fun _ hz => absurd hz List.not_mem_nil)⟩)⟩), (fun _ hz => absurd hz List.not_mem_nil), (List.forall_mem_cons.mpr ⟨GW_3 110 rfl rfl, (List.forall_mem_cons.mpr ⟨GW_3 111 rfl rfl, (fun _ hz => absurd hz List.not_mem_nil)⟩)⟩), (fun _ hz => absurd hz List.not_mem_nil)⟩
def K11 : aKt := ([(11, 11, 0, false, 0), (15, 11, 1, false, 0), (18, 11, 2, false, 0), (21, 11, 3, false, 0), (24, 11, 8, false, 0), (27, 11, 10, false, 0), (30, 11, 17, false, 0), (33, 11, 20, false, 0), (36, 11, 21, false, 0), (39, 11, 22, false, 0), (42, 11, 33, false, 0), (45, 11, 35, false, 0), (48, 11, 36, false, 0), (51, 11, 40, false, 0), (54, 11, 41, false, 0), (57, 11, 42, false, 0), (61, 11, 43, false, 0), (64, 11, 11, true, 0), (69, 11, 31, true, 0), (72, 11, 23, true, 0), (75, 11, 5, true, 0), (78, 11, 4, true, 0), (81, 11, 6, true, 0), (137, 11, 7, true, 0), (147, 11, 9, true, 0), (150, 11, 13, true, 0), (153, 11, 14, true, 0), (156, 11, 12, true, 0), (159, 11, 15, true, 0), (184, 11, 16, true, 0), (207, 11, 18, true, 0), (210, 11, 19, true, 0), (279, 11, 26, true, 0), (282, 11, 24, true, 0), (285, 11, 25, true, 0), (288, 11, 28, true, 0), (291, 11, 27, true, 0), (298, 11, 29, true, 0), (301, 11, 30, true, 0), (304, 11, 32, false, 0), (311, 11, 34, true, 0), (314, 11, 37, true, 0), (323, 11, 39, true, 0), (329, 11, 38, true, 0)], [], [(68, (-2000000000 : Int32), 0), (278, (1103515245 : Int32), 0)], [(88, (3 : Int64), 0), (90, (999 : Int64), 0), (92, (30 : Int64), 0), (94, (9 : Int64), 0), (96, (12 : Int64), 0), (109, (6 : Int64), 0), (114, (7 : Int64), 0), (116, (10 : Int64), 0), (118, (60 : Int64), 0), (124, (99 : Int64), 0), (140, (9999 : Int64), 0), (145, (255 : Int64), 0), (222, (2 : Int64), 0), (239, (-9223372036854775808 : Int64), 0), (241, (-5 : Int64), 0), (341, (5 : Int64), 0), (343, (4 : Int64), 0)], [])
theorem K11_ok : KOK RX11 K11 := ⟨(List.forall_mem_cons.mpr ⟨fldP_of rfl (by decide) (GW_4 232 rfl rfl) rfl (by decide +kernel), (List.forall_mem_cons.mpr ⟨fldP_of rfl (by decide) (GW_4 233 rfl rfl) rfl (by decide +kernel), (List.forall_mem_cons.mpr ⟨fldP_of rfl (by decide) (GW_4 234 rfl rfl) rfl (by decide +kernel), (List.forall_mem_cons.mpr ⟨fldP_of rfl (by decide) (GW_4 235 rfl rfl) rfl (by decide +kernel), (List.forall_mem_cons.mpr ⟨fldP_of rfl (by decide) (GW_5 0 rfl rfl) rfl (by decide +kernel), (List.forall_mem_cons.mpr ⟨fldP_of rfl (by decide) (GW_5 2 rfl rfl) rfl (by decide +kernel), (List.forall_mem_cons.mpr ⟨fldP_of rfl (by decide) (GW_5 9 rfl rfl) rfl (by decide +kernel), (List.forall_mem_cons.mpr ⟨fldP_of rfl (by decide) (GW_5 12 rfl rfl) rfl (by decide +kernel), (List.forall_mem_cons.mpr ⟨fldP_of rfl (by decide) (GW_5 13 rfl rfl) rfl (by decide +kernel), (List.forall_mem_cons.mpr ⟨fldP_of rfl (by decide) (GW_5 14 rfl rfl) rfl (by decide +kernel), (List.forall_mem_cons.mpr ⟨fldP_of rfl (by decide) (GW_5 25 rfl rfl) rfl (by decide +kernel), (List.forall_mem_cons.mpr ⟨fldP_of rfl (by decide) (GW_5 27 rfl rfl) rfl (by decide +kernel), (List.forall_mem_cons.mpr ⟨fldP_of rfl (by decide) (GW_5 28 rfl rfl) rfl (by decide +kernel), (List.forall_mem_cons.mpr ⟨fldP_of rfl (by decide) (GW_5 32 rfl rfl) rfl (by decide +kernel), (List.forall_mem_cons.mpr ⟨fldP_of rfl (by decide) (GW_5 33 rfl rfl) rfl (by decide +kernel), (List.forall_mem_cons.mpr ⟨fldP_of rfl (by decide) (GW_5 34 rfl rfl) rfl (by decide +kernel), (List.forall_mem_cons.mpr ⟨fldP_of rfl (by decide) (GW_5 35 rfl rfl) rfl (by decide +kernel), (List.forall_mem_cons.mpr ⟨fldP_of rfl (by decide) (GW_5 3 rfl rfl) rfl (by decide +kernel), (List.forall_mem_cons.mpr ⟨fldP_of rfl (by decide) (GW_5 23 rfl rfl) rfl (by decide +kernel), (List.forall_mem_cons.mpr ⟨fldP_of rfl (by decide) (GW_5 15 rfl rfl) rfl (by decide +kernel), (List.forall_mem_cons.mpr ⟨fldP_of rfl (by decide) (GW_4 237 rfl rfl) rfl (by decide +kernel), (List.forall_mem_cons.mpr ⟨fldP_of rfl (by decide) (GW_4 236 rfl rfl) rfl (by decide +kernel), (List.forall_mem_cons.mpr ⟨fldP_of rfl (by decide) (GW_4 238 rfl rfl) rfl (by decide +kernel), (List.forall_mem_cons.mpr ⟨fldP_of rfl (by decide) (GW_4 239 rfl rfl) rfl (by decide +kernel), (List.forall_mem_cons.mpr ⟨fldP_of rfl (by decide) (GW_5 1 rfl rfl) rfl (by decide +kernel), (List.forall_mem_cons.mpr ⟨fldP_of rfl (by decide) (GW_5 5 rfl rfl) rfl (by decide +kernel), (List.forall_mem_cons.mpr ⟨fldP_of rfl (by decide) (GW_5 6 rfl rfl) rfl (by decide +kernel), (List.forall_mem_cons.mpr ⟨fldP_of rfl (by decide) (GW_5 4 rfl rfl) rfl (by decide +kernel), (List.forall_mem_cons.mpr ⟨fldP_of rfl (by decide) (GW_5 7 rfl rfl) rfl (by decide +kernel), (List.forall_mem_cons.mpr ⟨fldP_of rfl (by decide) (GW_5 8 rfl rfl) rfl (by decide +kernel), (List.forall_mem_cons.mpr ⟨fldP_of rfl (by decide) (GW_5 10 rfl rfl) rfl (by decide +kernel), (List.forall_mem_cons.mpr ⟨fldP_of rfl (by decide) (GW_5 11 rfl rfl) rfl (by decide +kernel), (List.forall_mem_cons.mpr ⟨fldP_of rfl (by decide) (GW_5 18 rfl rfl) rfl (by decide +kernel), (List.forall_mem_cons.mpr ⟨fldP_of rfl (by decide) (GW_5 16 rfl rfl) rfl (by decide +kernel), (List.forall_mem_cons.mpr ⟨fldP_of rfl (by decide) (GW_5 17 rfl rfl) rfl (by decide +kernel), (List.forall_mem_cons.mpr ⟨fldP_of rfl (by decide) (GW_5 20 rfl rfl) rfl (by decide +kernel), (List.forall_mem_cons.mpr ⟨fldP_of rfl (by decide) (GW_5 19 rfl rfl) rfl (by decide +kernel), (List.forall_mem_cons.mpr ⟨fldP_of rfl (by decide) (GW_5 21 rfl rfl) rfl (by decide +kernel), (List.forall_mem_cons.mpr ⟨fldP_of rfl (by decide) (GW_5 22 rfl rfl) rfl (by decide +kernel), (List.forall_mem_cons.mpr ⟨fldP_of rfl (by decide) (GW_5 24 rfl rfl) rfl (by decide +kernel), (List.forall_mem_cons.mpr ⟨fldP_of rfl (by decide) (GW_5 26 rfl rfl) rfl (by decide +kernel), (List.forall_mem_cons.mpr ⟨fldP_of rfl (by decide) (GW_5 29 rfl rfl) rfl (by decide +kernel), (List.forall_mem_cons.mpr ⟨fldP_of rfl (by decide) (GW_5 31 rfl rfl) rfl (by decide +kernel), (List.forall_mem_cons.mpr ⟨fldP_of rfl (by decide) (GW_5 30 rfl rfl) rfl (by decide +kernel), (fun _ hz => absurd hz List.not_mem_nil)⟩)⟩)⟩)⟩)⟩)⟩)⟩)⟩)⟩)⟩)⟩)⟩)⟩)⟩)⟩)⟩)⟩)⟩)⟩)⟩)⟩)⟩)⟩)⟩)⟩)⟩)⟩)⟩)⟩)⟩)⟩)⟩)⟩)⟩)⟩)⟩)⟩)⟩)⟩)⟩)⟩)⟩)⟩)⟩), (fun _ hz => absurd hz List.not_mem_nil), (List.forall_mem_cons.mpr ⟨GW_4 231 rfl rfl, (List.forall_mem_cons.mpr ⟨GW_6 160 rfl rfl, (fun _ hz => absurd hz List.not_mem_nil)⟩)⟩), (List.forall_mem_cons.mpr ⟨GW_5 180 rfl rfl, (List.forall_mem_cons.mpr ⟨GW_5 182 rfl rfl, (List.forall_mem_cons.mpr ⟨GW_5 140 rfl rfl, (List.forall_mem_cons.mpr ⟨GW_5 144 rfl rfl, (List.forall_mem_cons.mpr ⟨GW_5 145 rfl rfl, (List.forall_mem_cons.mpr ⟨GW_5 166 rfl rfl, (List.forall_mem_cons.mpr ⟨GW_5 171 rfl rfl, (List.forall_mem_cons.mpr ⟨GW_5 172 rfl rfl, (List.forall_mem_cons.mpr ⟨GW_5 176 rfl rfl, (List.forall_mem_cons.mpr ⟨GW_5 181 rfl rfl, (List.forall_mem_cons.mpr ⟨GW_5 195 rfl rfl, (List.forall_mem_cons.mpr ⟨GW_5 204 rfl rfl, (List.forall_mem_cons.mpr ⟨GW_6 31 rfl rfl, (List.forall_mem_cons.mpr ⟨GW_6 60 rfl rfl, (List.forall_mem_cons.mpr ⟨GW_6 61 rfl rfl, (List.forall_mem_cons.mpr ⟨GW_5 157 rfl rfl, (List.forall_mem_cons.mpr ⟨GW_6 234 rfl rfl, (fun _ hz => absurd hz List.not_mem_nil)⟩)⟩)⟩)⟩)⟩)⟩)⟩)⟩)⟩)⟩)⟩)⟩)⟩)⟩)⟩)⟩)⟩), (fun _ hz => absurd hz List.not_mem_nil)⟩
abbrev M_X0_allWays : MR := (yX0_allWays, cX0_allWays, 4, some .long)
theorem wV_X0_allWays : calW M_X0_allWays := ⟨GW_3 217 rfl rfl, GW_3 218 rfl rfl, GW_1 8 rfl rfl, GW_3 219 rfl rfl⟩
theorem wN_X0_allWays : calN M_X0_allWays 0 := ⟨by decide +kernel, by decide +kernel, by decide +kernel, by decide +kernel⟩
abbrev M_X8_number : MR := (yX8_number, cX8_number, 4, some .int)
theorem wV_X8_number : calW M_X8_number := ⟨GW_2 199 rfl rfl, GW_2 200 rfl rfl, GW_1 2 rfl rfl, GW_2 201 rfl rfl⟩
theorem wN_X8_number : calN M_X8_number 2 := ⟨by decide +kernel, by decide +kernel, by decide +kernel, by decide +kernel⟩
abbrev M_X0_freeWays : MR := (yX0_freeWays, cX0_freeWays, 7, some .long)
theorem wV_X0_freeWays : calW M_X0_freeWays := ⟨GW_3 210 rfl rfl, GW_3 211 rfl rfl, GW_1 8 rfl rfl, GW_3 212 rfl rfl⟩
theorem wN_X0_freeWays : calN M_X0_freeWays 2 := ⟨by decide +kernel, by decide +kernel, by decide +kernel, by decide +kernel⟩
abbrev M_X0_bestWatched : MR := (yX0_bestWatched, cX0_bestWatched, 3, some .int)
theorem wV_X0_bestWatched : calW M_X0_bestWatched := ⟨GW_3 228 rfl rfl, GW_3 229 rfl rfl, GW_1 8 rfl rfl, GW_3 230 rfl rfl⟩
theorem wN_X0_bestWatched : calN M_X0_bestWatched 0 := ⟨by decide +kernel, by decide +kernel, by decide +kernel, by decide +kernel⟩
abbrev M_X0_partOf : MR := (yX0_partOf, cX0_partOf, 12, some .long)
theorem wS_X0_partOf : calS M_X0_partOf := ⟨GW_3 221 rfl rfl, GW_1 8 rfl rfl, GW_3 222 rfl rfl⟩
theorem wN_X0_partOf : calN M_X0_partOf 3 := ⟨by decide +kernel, by decide +kernel, by decide +kernel, by decide +kernel⟩
abbrev M_X1_dropOldest : MR := (yX1_dropOldest, cX1_dropOldest, 1, none)
theorem wV_X1_dropOldest : calW M_X1_dropOldest := ⟨GW_2 175 rfl rfl, GW_0 2 rfl rfl, GW_1 6 rfl rfl, GW_2 176 rfl rfl⟩
theorem wN_X1_dropOldest : calN M_X1_dropOldest 0 := ⟨by decide +kernel, by decide +kernel, by decide +kernel, by decide +kernel⟩
abbrev M_X1_note : MR := (yX1_note, cX1_note, 4, none)
theorem wV_X1_note : calW M_X1_note := ⟨GW_2 170 rfl rfl, GW_2 171 rfl rfl, GW_1 6 rfl rfl, GW_2 172 rfl rfl⟩
theorem wN_X1_note : calN M_X1_note 3 := ⟨by decide +kernel, by decide +kernel, by decide +kernel, by decide +kernel⟩
abbrev M_X8_write : MR := (yX8_write, cX8_write, 3, none)
theorem wV_X8_write : calW M_X8_write := ⟨GW_2 121 rfl rfl, GW_2 122 rfl rfl, GW_1 2 rfl rfl, GW_2 123 rfl rfl⟩
theorem wN_X8_write : calN M_X8_write 2 := ⟨by decide +kernel, by decide +kernel, by decide +kernel, by decide +kernel⟩
abbrev M_X1_stepBack : MR := (yX1_stepBack, cX1_stepBack, 2, none)
theorem wV_X1_stepBack : calW M_X1_stepBack := ⟨GW_4 103 rfl rfl, GW_4 104 rfl rfl, GW_1 6 rfl rfl, GW_4 105 rfl rfl⟩
theorem wN_X1_stepBack : calN M_X1_stepBack 1 := ⟨by decide +kernel, by decide +kernel, by decide +kernel, by decide +kernel⟩
abbrev M_X1_stepOn : MR := (yX1_stepOn, cX1_stepOn, 2, none)
theorem wV_X1_stepOn : calW M_X1_stepOn := ⟨GW_4 112 rfl rfl, GW_4 113 rfl rfl, GW_1 6 rfl rfl, GW_4 114 rfl rfl⟩
theorem wN_X1_stepOn : calN M_X1_stepOn 1 := ⟨by decide +kernel, by decide +kernel, by decide +kernel, by decide +kernel⟩
abbrev M_X7_suppose : MR := (yX7_suppose, cX7_suppose, 4, none)
theorem wV_X7_suppose : calW M_X7_suppose := ⟨GW_3 25 rfl rfl, GW_3 26 rfl rfl, GW_1 4 rfl rfl, GW_3 27 rfl rfl⟩
theorem wN_X7_suppose : calN M_X7_suppose 3 := ⟨by decide +kernel, by decide +kernel, by decide +kernel, by decide +kernel⟩
abbrev M_X7_supposeNow : MR := (yX7_supposeNow, cX7_supposeNow, 1, none)
theorem wV_X7_supposeNow : calW M_X7_supposeNow := ⟨GW_3 20 rfl rfl, GW_3 21 rfl rfl, GW_1 4 rfl rfl, GW_3 22 rfl rfl⟩
theorem wN_X7_supposeNow : calN M_X7_supposeNow 0 := ⟨by decide +kernel, by decide +kernel, by decide +kernel, by decide +kernel⟩
abbrev M_X8_isGusty : MR := (yX8_isGusty, cX8_isGusty, 4, some .boolean)
theorem wV_X8_isGusty : calW M_X8_isGusty := ⟨GW_2 195 rfl rfl, GW_2 196 rfl rfl, GW_1 2 rfl rfl, GW_2 197 rfl rfl⟩
theorem wN_X8_isGusty : calN M_X8_isGusty 2 := ⟨by decide +kernel, by decide +kernel, by decide +kernel, by decide +kernel⟩
abbrev M_X3_isTold : MR := (yX3_isTold, cX3_isTold, 1, some .boolean)
theorem wV_X3_isTold : calW M_X3_isTold := ⟨GW_3 41 rfl rfl, GW_3 42 rfl rfl, GW_1 3 rfl rfl, GW_3 43 rfl rfl⟩
theorem wN_X3_isTold : calN M_X3_isTold 0 := ⟨by decide +kernel, by decide +kernel, by decide +kernel, by decide +kernel⟩
abbrev M_X3_push : MR := (yX3_push, cX3_push, 2, none)
theorem wV_X3_push : calW M_X3_push := ⟨GW_3 50 rfl rfl, GW_0 10 rfl rfl, GW_1 3 rfl rfl, GW_3 51 rfl rfl⟩
theorem wN_X3_push : calN M_X3_push 1 := ⟨by decide +kernel, by decide +kernel, by decide +kernel, by decide +kernel⟩
abbrev M_X3_pop : MR := (yX3_pop, cX3_pop, 1, some .int)
theorem wV_X3_pop : calW M_X3_pop := ⟨GW_3 54 rfl rfl, GW_0 11 rfl rfl, GW_1 3 rfl rfl, GW_3 55 rfl rfl⟩
theorem wN_X3_pop : calN M_X3_pop 0 := ⟨by decide +kernel, by decide +kernel, by decide +kernel, by decide +kernel⟩
abbrev M_X3_both : MR := (yX3_both, cX3_both, 3, some .int)
theorem wS_X3_both : calS M_X3_both := ⟨GW_3 57 rfl rfl, GW_1 3 rfl rfl, GW_3 58 rfl rfl⟩
theorem wN_X3_both : calN M_X3_both 3 := ⟨by decide +kernel, by decide +kernel, by decide +kernel, by decide +kernel⟩
abbrev M_X3_worth : MR := (yX3_worth, cX3_worth, 7, some .int)
theorem wV_X3_worth : calW M_X3_worth := ⟨GW_3 45 rfl rfl, GW_3 46 rfl rfl, GW_1 3 rfl rfl, GW_3 47 rfl rfl⟩
theorem wN_X3_worth : calN M_X3_worth 1 := ⟨by decide +kernel, by decide +kernel, by decide +kernel, by decide +kernel⟩
abbrev M_X7_workedOut : MR := (yX7_workedOut, cX7_workedOut, 6, some .int)
theorem wV_X7_workedOut : calW M_X7_workedOut := ⟨GW_3 38 rfl rfl, GW_0 9 rfl rfl, GW_1 4 rfl rfl, GW_3 39 rfl rfl⟩
theorem wN_X7_workedOut : calN M_X7_workedOut 3 := ⟨by decide +kernel, by decide +kernel, by decide +kernel, by decide +kernel⟩
abbrev M_X7_inMinute : MR := (yX7_inMinute, cX7_inMinute, 7, some .int)
theorem wV_X7_inMinute : calW M_X7_inMinute := ⟨GW_3 32 rfl rfl, GW_3 33 rfl rfl, GW_1 4 rfl rfl, GW_3 34 rfl rfl⟩
theorem wN_X7_inMinute : calN M_X7_inMinute 3 := ⟨by decide +kernel, by decide +kernel, by decide +kernel, by decide +kernel⟩
abbrev M_X8_windIn : MR := (yX8_windIn, cX8_windIn, 3, some .int)
theorem wV_X8_windIn : calW M_X8_windIn := ⟨GW_2 191 rfl rfl, GW_2 192 rfl rfl, GW_1 2 rfl rfl, GW_2 193 rfl rfl⟩
theorem wN_X8_windIn : calN M_X8_windIn 2 := ⟨by decide +kernel, by decide +kernel, by decide +kernel, by decide +kernel⟩
abbrev M_X7_isTooMuch : MR := (yX7_isTooMuch, cX7_isTooMuch, 2, some .boolean)
theorem wV_X7_isTooMuch : calW M_X7_isTooMuch := ⟨GW_3 93 rfl rfl, GW_3 94 rfl rfl, GW_1 4 rfl rfl, GW_3 95 rfl rfl⟩
theorem wN_X7_isTooMuch : calN M_X7_isTooMuch 1 := ⟨by decide +kernel, by decide +kernel, by decide +kernel, by decide +kernel⟩
abbrev M_X7_left : MR := (yX7_left, cX7_left, 2, some .int)
theorem wV_X7_left : calW M_X7_left := ⟨GW_4 58 rfl rfl, GW_4 59 rfl rfl, GW_1 4 rfl rfl, GW_4 60 rfl rfl⟩
theorem wN_X7_left : calN M_X7_left 1 := ⟨by decide +kernel, by decide +kernel, by decide +kernel, by decide +kernel⟩
abbrev M_X2_arrive : MR := (yX2_arrive, cX2_arrive, 2, none)
theorem wV_X2_arrive : calW M_X2_arrive := ⟨GW_4 55 rfl rfl, GW_0 21 rfl rfl, GW_1 9 rfl rfl, GW_4 56 rfl rfl⟩
theorem wN_X2_arrive : calN M_X2_arrive 0 := ⟨by decide +kernel, by decide +kernel, by decide +kernel, by decide +kernel⟩
abbrev M_X2_bear : MR := (yX2_bear, cX2_bear, 4, some .int)
theorem wV_X2_bear : calW M_X2_bear := ⟨GW_4 46 rfl rfl, GW_0 20 rfl rfl, GW_1 9 rfl rfl, GW_4 47 rfl rfl⟩
theorem wN_X2_bear : calN M_X2_bear 2 := ⟨by decide +kernel, by decide +kernel, by decide +kernel, by decide +kernel⟩
abbrev M_X2_setOut : MR := (yX2_setOut, cX2_setOut, 3, some .int)
theorem wV_X2_setOut : calW M_X2_setOut := ⟨GW_4 40 rfl rfl, GW_4 41 rfl rfl, GW_1 9 rfl rfl, GW_4 42 rfl rfl⟩
theorem wN_X2_setOut : calN M_X2_setOut 2 := ⟨by decide +kernel, by decide +kernel, by decide +kernel, by decide +kernel⟩
abbrev M_X2_goOn : MR := (yX2_goOn, cX2_goOn, 2, some .int)
theorem wV_X2_goOn : calW M_X2_goOn := ⟨GW_4 67 rfl rfl, GW_4 68 rfl rfl, GW_1 9 rfl rfl, GW_4 69 rfl rfl⟩
theorem wN_X2_goOn : calN M_X2_goOn 1 := ⟨by decide +kernel, by decide +kernel, by decide +kernel, by decide +kernel⟩
abbrev M_X2_stay : MR := (yX2_stay, cX2_stay, 2, some .int)
theorem wV_X2_stay : calW M_X2_stay := ⟨GW_4 75 rfl rfl, GW_4 76 rfl rfl, GW_1 9 rfl rfl, GW_4 77 rfl rfl⟩
theorem wN_X2_stay : calN M_X2_stay 1 := ⟨by decide +kernel, by decide +kernel, by decide +kernel, by decide +kernel⟩
abbrev M_X3_take : MR := (yX3_take, cX3_take, 2, some .int)
theorem wV_X3_take : calW M_X3_take := ⟨GW_2 207 rfl rfl, GW_2 208 rfl rfl, GW_1 3 rfl rfl, GW_2 209 rfl rfl⟩
theorem wN_X3_take : calN M_X3_take 1 := ⟨by decide +kernel, by decide +kernel, by decide +kernel, by decide +kernel⟩
abbrev M_X3_next : MR := (yX3_next, cX3_next, 1, some .int)
theorem wV_X3_next : calW M_X3_next := ⟨GW_2 232 rfl rfl, GW_0 6 rfl rfl, GW_1 3 rfl rfl, GW_2 233 rfl rfl⟩
theorem wN_X3_next : calN M_X3_next 0 := ⟨by decide +kernel, by decide +kernel, by decide +kernel, by decide +kernel⟩
abbrev M_X3_levelOf : MR := (yX3_levelOf, cX3_levelOf, 1, some .int)
theorem wS_X3_levelOf : calS M_X3_levelOf := ⟨GW_3 9 rfl rfl, GW_1 3 rfl rfl, GW_3 10 rfl rfl⟩
theorem wN_X3_levelOf : calN M_X3_levelOf 1 := ⟨by decide +kernel, by decide +kernel, by decide +kernel, by decide +kernel⟩
abbrev M_X3_addStep : MR := (yX3_addStep, cX3_addStep, 3, none)
theorem wV_X3_addStep : calW M_X3_addStep := ⟨GW_3 3 rfl rfl, GW_0 8 rfl rfl, GW_1 3 rfl rfl, GW_3 4 rfl rfl⟩
theorem wN_X3_addStep : calN M_X3_addStep 2 := ⟨by decide +kernel, by decide +kernel, by decide +kernel, by decide +kernel⟩
abbrev M_X3_isDigit : MR := (yX3_isDigit, cX3_isDigit, 1, some .boolean)
theorem wS_X3_isDigit : calS M_X3_isDigit := ⟨GW_2 235 rfl rfl, GW_1 3 rfl rfl, GW_2 236 rfl rfl⟩
theorem wN_X3_isDigit : calN M_X3_isDigit 1 := ⟨by decide +kernel, by decide +kernel, by decide +kernel, by decide +kernel⟩
abbrev M_X3_readNumber : MR := (yX3_readNumber, cX3_readNumber, 3, none)
theorem wV_X3_readNumber : calW M_X3_readNumber := ⟨GW_2 239 rfl rfl, GW_0 7 rfl rfl, GW_1 3 rfl rfl, GW_3 0 rfl rfl⟩
theorem wN_X3_readNumber : calN M_X3_readNumber 0 := ⟨by decide +kernel, by decide +kernel, by decide +kernel, by decide +kernel⟩
abbrev M_X3_nameOf : MR := (yX3_nameOf, cX3_nameOf, 1, some .int)
theorem wS_X3_nameOf : calS M_X3_nameOf := ⟨GW_3 6 rfl rfl, GW_1 3 rfl rfl, GW_3 7 rfl rfl⟩
theorem wN_X3_nameOf : calN M_X3_nameOf 1 := ⟨by decide +kernel, by decide +kernel, by decide +kernel, by decide +kernel⟩
abbrev M_X3_readBinary : MR := (yX3_readBinary, cX3_readBinary, 5, none)
theorem wV_X3_readBinary : calW M_X3_readBinary := ⟨GW_2 224 rfl rfl, GW_0 4 rfl rfl, GW_1 3 rfl rfl, GW_2 225 rfl rfl⟩
theorem wN_X3_readBinary : calN M_X3_readBinary 2 := ⟨by decide +kernel, by decide +kernel, by decide +kernel, by decide +kernel⟩
abbrev M_X3_readOperand : MR := (yX3_readOperand, cX3_readOperand, 3, none)
theorem wV_X3_readOperand : calW M_X3_readOperand := ⟨GW_2 228 rfl rfl, GW_0 5 rfl rfl, GW_1 3 rfl rfl, GW_2 229 rfl rfl⟩
theorem wN_X3_readOperand : calN M_X3_readOperand 1 := ⟨by decide +kernel, by decide +kernel, by decide +kernel, by decide +kernel⟩
abbrev M_X3_readLine : MR := (yX3_readLine, cX3_readLine, 1, none)
theorem wV_X3_readLine : calW M_X3_readLine := ⟨GW_2 220 rfl rfl, GW_0 3 rfl rfl, GW_1 3 rfl rfl, GW_2 221 rfl rfl⟩
theorem wN_X3_readLine : calN M_X3_readLine 0 := ⟨by decide +kernel, by decide +kernel, by decide +kernel, by decide +kernel⟩
abbrev M_X3_readTape : MR := (yX3_readTape, cX3_readTape, 2, some .int)
theorem wV_X3_readTape : calW M_X3_readTape := ⟨GW_2 215 rfl rfl, GW_2 216 rfl rfl, GW_1 3 rfl rfl, GW_2 217 rfl rfl⟩
theorem wN_X3_readTape : calN M_X3_readTape 0 := ⟨by decide +kernel, by decide +kernel, by decide +kernel, by decide +kernel⟩
abbrev M_X4_becomeLike : MR := (yX4_becomeLike, cX4_becomeLike, 2, none)
theorem wV_X4_becomeLike : calW M_X4_becomeLike := ⟨GW_4 91 rfl rfl, GW_4 92 rfl rfl, GW_1 10 rfl rfl, GW_4 93 rfl rfl⟩
theorem wN_X4_becomeLike : calN M_X4_becomeLike 1 := ⟨by decide +kernel, by decide +kernel, by decide +kernel, by decide +kernel⟩
abbrev M_X4_told : MR := (yX4_told, cX4_told, 2, some .int)
theorem wV_X4_told : calW M_X4_told := ⟨GW_4 83 rfl rfl, GW_4 84 rfl rfl, GW_1 10 rfl rfl, GW_4 85 rfl rfl⟩
theorem wN_X4_told : calN M_X4_told 1 := ⟨by decide +kernel, by decide +kernel, by decide +kernel, by decide +kernel⟩
abbrev M_X5_has : MR := (yX5_has, cX5_has, 2, some .boolean)
theorem wV_X5_has : calW M_X5_has := ⟨GW_4 132 rfl rfl, GW_4 133 rfl rfl, GW_1 11 rfl rfl, GW_4 134 rfl rfl⟩
theorem wN_X5_has : calN M_X5_has 1 := ⟨by decide +kernel, by decide +kernel, by decide +kernel, by decide +kernel⟩
abbrev M_X5_add : MR := (yX5_add, cX5_add, 2, some .int)
theorem wV_X5_add : calW M_X5_add := ⟨GW_4 120 rfl rfl, GW_4 121 rfl rfl, GW_1 11 rfl rfl, GW_4 122 rfl rfl⟩
theorem wN_X5_add : calN M_X5_add 1 := ⟨by decide +kernel, by decide +kernel, by decide +kernel, by decide +kernel⟩
abbrev M_X5_kindOf : MR := (yX5_kindOf, cX5_kindOf, 2, some .int)
theorem wV_X5_kindOf : calW M_X5_kindOf := ⟨GW_4 136 rfl rfl, GW_4 137 rfl rfl, GW_1 11 rfl rfl, GW_4 138 rfl rfl⟩
theorem wN_X5_kindOf : calN M_X5_kindOf 1 := ⟨by decide +kernel, by decide +kernel, by decide +kernel, by decide +kernel⟩
abbrev M_X5_above : MR := (yX5_above, cX5_above, 1, some .int)
theorem wS_X5_above : calS M_X5_above := ⟨GW_4 149 rfl rfl, GW_1 11 rfl rfl, GW_4 150 rfl rfl⟩
theorem wN_X5_above : calN M_X5_above 1 := ⟨by decide +kernel, by decide +kernel, by decide +kernel, by decide +kernel⟩
abbrev M_X5_isUnder : MR := (yX5_isUnder, cX5_isUnder, 4, some .boolean)
theorem wS_X5_isUnder : calS M_X5_isUnder := ⟨GW_4 219 rfl rfl, GW_1 11 rfl rfl, GW_4 220 rfl rfl⟩
theorem wN_X5_isUnder : calN M_X5_isUnder 2 := ⟨by decide +kernel, by decide +kernel, by decide +kernel, by decide +kernel⟩
abbrev M_X5_own : MR := (yX5_own, cX5_own, 3, some .int)
theorem wS_X5_own : calS M_X5_own := ⟨GW_4 144 rfl rfl, GW_1 11 rfl rfl, GW_4 145 rfl rfl⟩
theorem wN_X5_own : calN M_X5_own 2 := ⟨by decide +kernel, by decide +kernel, by decide +kernel, by decide +kernel⟩
abbrev M_X5_ranAs : MR := (yX5_ranAs, cX5_ranAs, 2, some .int)
theorem wV_X5_ranAs : calW M_X5_ranAs := ⟨GW_4 162 rfl rfl, GW_4 163 rfl rfl, GW_1 11 rfl rfl, GW_4 164 rfl rfl⟩
theorem wN_X5_ranAs : calN M_X5_ranAs 1 := ⟨by decide +kernel, by decide +kernel, by decide +kernel, by decide +kernel⟩
abbrev M_X5_run : MR := (yX5_run, cX5_run, 7, some .int)
theorem wV_X5_run : calW M_X5_run := ⟨GW_4 141 rfl rfl, GW_0 22 rfl rfl, GW_1 11 rfl rfl, GW_4 142 rfl rfl⟩
theorem wN_X5_run : calN M_X5_run 4 := ⟨by decide +kernel, by decide +kernel, by decide +kernel, by decide +kernel⟩
abbrev M_X5_runBody : MR := (yX5_runBody, cX5_runBody, 5, some .int)
theorem wV_X5_runBody : calW M_X5_runBody := ⟨GW_4 155 rfl rfl, GW_0 23 rfl rfl, GW_1 11 rfl rfl, GW_4 156 rfl rfl⟩
theorem wN_X5_runBody : calN M_X5_runBody 4 := ⟨by decide +kernel, by decide +kernel, by decide +kernel, by decide +kernel⟩
abbrev M_X5_perform : MR := (yX5_perform, cX5_perform, 4, some .int)
theorem wV_X5_perform : calW M_X5_perform := ⟨GW_4 128 rfl rfl, GW_4 129 rfl rfl, GW_1 11 rfl rfl, GW_4 130 rfl rfl⟩
theorem wN_X5_perform : calN M_X5_perform 3 := ⟨by decide +kernel, by decide +kernel, by decide +kernel, by decide +kernel⟩
abbrev M_X6_isEmpty : MR := (yX6_isEmpty, cX6_isEmpty, 1, some .boolean)
theorem wV_X6_isEmpty : calW M_X6_isEmpty := ⟨GW_2 133 rfl rfl, GW_2 134 rfl rfl, GW_1 5 rfl rfl, GW_2 135 rfl rfl⟩
theorem wN_X6_isEmpty : calN M_X6_isEmpty 0 := ⟨by decide +kernel, by decide +kernel, by decide +kernel, by decide +kernel⟩
abbrev M_X6_holdsRow : MR := (yX6_holdsRow, cX6_holdsRow, 1, some .boolean)
theorem wV_X6_holdsRow : calW M_X6_holdsRow := ⟨GW_4 193 rfl rfl, GW_4 194 rfl rfl, GW_1 5 rfl rfl, GW_4 195 rfl rfl⟩
theorem wN_X6_holdsRow : calN M_X6_holdsRow 0 := ⟨by decide +kernel, by decide +kernel, by decide +kernel, by decide +kernel⟩
abbrev M_X6_holdsBytes : MR := (yX6_holdsBytes, cX6_holdsBytes, 1, some .boolean)
theorem wV_X6_holdsBytes : calW M_X6_holdsBytes := ⟨GW_2 137 rfl rfl, GW_2 138 rfl rfl, GW_1 5 rfl rfl, GW_2 139 rfl rfl⟩
theorem wN_X6_holdsBytes : calN M_X6_holdsBytes 0 := ⟨by decide +kernel, by decide +kernel, by decide +kernel, by decide +kernel⟩
abbrev M_X6_holdBody : MR := (yX6_holdBody, cX6_holdBody, 2, none)
theorem wV_X6_holdBody : calW M_X6_holdBody := ⟨GW_4 171 rfl rfl, GW_4 172 rfl rfl, GW_1 5 rfl rfl, GW_4 173 rfl rfl⟩
theorem wN_X6_holdBody : calN M_X6_holdBody 1 := ⟨by decide +kernel, by decide +kernel, by decide +kernel, by decide +kernel⟩
abbrev M_X6_holdRow : MR := (yX6_holdRow, cX6_holdRow, 3, none)
theorem wV_X6_holdRow : calW M_X6_holdRow := ⟨GW_4 179 rfl rfl, GW_4 180 rfl rfl, GW_1 5 rfl rfl, GW_4 181 rfl rfl⟩
theorem wN_X6_holdRow : calN M_X6_holdRow 2 := ⟨by decide +kernel, by decide +kernel, by decide +kernel, by decide +kernel⟩
abbrev M_X6_left : MR := (yX6_left, cX6_left, 2, some .int)
theorem wV_X6_left : calW M_X6_left := ⟨GW_2 141 rfl rfl, GW_2 142 rfl rfl, GW_1 5 rfl rfl, GW_2 143 rfl rfl⟩
theorem wN_X6_left : calN M_X6_left 1 := ⟨by decide +kernel, by decide +kernel, by decide +kernel, by decide +kernel⟩
abbrev M_X6_cell : MR := (yX6_cell, cX6_cell, 2, some .long)
theorem wV_X6_cell : calW M_X6_cell := ⟨GW_2 149 rfl rfl, GW_2 150 rfl rfl, GW_1 5 rfl rfl, GW_2 151 rfl rfl⟩
theorem wN_X6_cell : calN M_X6_cell 1 := ⟨by decide +kernel, by decide +kernel, by decide +kernel, by decide +kernel⟩
abbrev M_X6_fitted : MR := (yX6_fitted, cX6_fitted, 3, some .long)
theorem wV_X6_fitted : calW M_X6_fitted := ⟨GW_4 202 rfl rfl, GW_0 24 rfl rfl, GW_1 5 rfl rfl, GW_4 203 rfl rfl⟩
theorem wN_X6_fitted : calN M_X6_fitted 1 := ⟨by decide +kernel, by decide +kernel, by decide +kernel, by decide +kernel⟩
abbrev M_X6_write : MR := (yX6_write, cX6_write, 4, none)
theorem wV_X6_write : calW M_X6_write := ⟨GW_4 197 rfl rfl, GW_4 198 rfl rfl, GW_1 5 rfl rfl, GW_4 199 rfl rfl⟩
theorem wN_X6_write : calN M_X6_write 2 := ⟨by decide +kernel, by decide +kernel, by decide +kernel, by decide +kernel⟩
abbrev M_X10_isWithin : MR := (yX10_isWithin, cX10_isWithin, 3, some .boolean)
theorem wS_X10_isWithin : calS M_X10_isWithin := ⟨GW_2 114 rfl rfl, GW_1 1 rfl rfl, GW_2 115 rfl rfl⟩
theorem wN_X10_isWithin : calN M_X10_isWithin 3 := ⟨by decide +kernel, by decide +kernel, by decide +kernel, by decide +kernel⟩
abbrev M_X10_isHold : MR := (yX10_isHold, cX10_isHold, 1, some .boolean)
theorem wS_X10_isHold : calS M_X10_isHold := ⟨GW_3 17 rfl rfl, GW_1 1 rfl rfl, GW_3 18 rfl rfl⟩
theorem wN_X10_isHold : calN M_X10_isHold 1 := ⟨by decide +kernel, by decide +kernel, by decide +kernel, by decide +kernel⟩
abbrev M_X6_heldAt : MR := (yX6_heldAt, cX6_heldAt, 3, some .int)
theorem wV_X6_heldAt : calW M_X6_heldAt := ⟨GW_3 81 rfl rfl, GW_3 82 rfl rfl, GW_1 5 rfl rfl, GW_3 83 rfl rfl⟩
theorem wN_X6_heldAt : calN M_X6_heldAt 1 := ⟨by decide +kernel, by decide +kernel, by decide +kernel, by decide +kernel⟩
abbrev M_X8_has : MR := (yX8_has, cX8_has, 2, some .boolean)
theorem wV_X8_has : calW M_X8_has := ⟨GW_2 162 rfl rfl, GW_2 163 rfl rfl, GW_1 2 rfl rfl, GW_2 164 rfl rfl⟩
theorem wN_X8_has : calN M_X8_has 1 := ⟨by decide +kernel, by decide +kernel, by decide +kernel, by decide +kernel⟩
abbrev M_X8_add : MR := (yX8_add, cX8_add, 5, some .int)
theorem wV_X8_add : calW M_X8_add := ⟨GW_2 117 rfl rfl, GW_2 118 rfl rfl, GW_1 2 rfl rfl, GW_2 119 rfl rfl⟩
theorem wN_X8_add : calN M_X8_add 3 := ⟨by decide +kernel, by decide +kernel, by decide +kernel, by decide +kernel⟩
abbrev M_X8_slotOf : MR := (yX8_slotOf, cX8_slotOf, 3, some .int)
theorem wV_X8_slotOf : calW M_X8_slotOf := ⟨GW_2 157 rfl rfl, GW_2 158 rfl rfl, GW_1 2 rfl rfl, GW_2 159 rfl rfl⟩
theorem wN_X8_slotOf : calN M_X8_slotOf 2 := ⟨by decide +kernel, by decide +kernel, by decide +kernel, by decide +kernel⟩
abbrev M_X8_read : MR := (yX8_read, cX8_read, 2, some .int)
theorem wV_X8_read : calW M_X8_read := ⟨GW_2 166 rfl rfl, GW_2 167 rfl rfl, GW_1 2 rfl rfl, GW_2 168 rfl rfl⟩
theorem wN_X8_read : calN M_X8_read 1 := ⟨by decide +kernel, by decide +kernel, by decide +kernel, by decide +kernel⟩
abbrev M_X9_passes : MR := (yX9_passes, cX9_passes, 3, some .boolean)
theorem wV_X9_passes : calW M_X9_passes := ⟨GW_3 77 rfl rfl, GW_3 78 rfl rfl, GW_1 7 rfl rfl, GW_3 79 rfl rfl⟩
theorem wN_X9_passes : calN M_X9_passes 1 := ⟨by decide +kernel, by decide +kernel, by decide +kernel, by decide +kernel⟩
abbrev M_X9_follow : MR := (yX9_follow, cX9_follow, 8, none)
theorem wV_X9_follow : calW M_X9_follow := ⟨GW_3 88 rfl rfl, GW_3 89 rfl rfl, GW_1 7 rfl rfl, GW_3 90 rfl rfl⟩
theorem wN_X9_follow : calN M_X9_follow 3 := ⟨by decide +kernel, by decide +kernel, by decide +kernel, by decide +kernel⟩
abbrev M_X9_bestStart : MR := (yX9_bestStart, cX9_bestStart, 5, some .int)
theorem wV_X9_bestStart : calW M_X9_bestStart := ⟨GW_3 101 rfl rfl, GW_3 102 rfl rfl, GW_1 7 rfl rfl, GW_3 103 rfl rfl⟩
theorem wN_X9_bestStart : calN M_X9_bestStart 1 := ⟨by decide +kernel, by decide +kernel, by decide +kernel, by decide +kernel⟩
abbrev M_X9_fewestMen : MR := (yX9_fewestMen, cX9_fewestMen, 4, some .int)
theorem wV_X9_fewestMen : calW M_X9_fewestMen := ⟨GW_3 177 rfl rfl, GW_3 178 rfl rfl, GW_1 7 rfl rfl, GW_3 179 rfl rfl⟩
theorem wN_X9_fewestMen : calN M_X9_fewestMen 2 := ⟨by decide +kernel, by decide +kernel, by decide +kernel, by decide +kernel⟩
abbrev M_X9_nearestVan : MR := (yX9_nearestVan, cX9_nearestVan, 4, some .int)
theorem wV_X9_nearestVan : calW M_X9_nearestVan := ⟨GW_3 186 rfl rfl, GW_3 187 rfl rfl, GW_1 7 rfl rfl, GW_3 188 rfl rfl⟩
theorem wN_X9_nearestVan : calN M_X9_nearestVan 2 := ⟨by decide +kernel, by decide +kernel, by decide +kernel, by decide +kernel⟩
abbrev M_X9_leastMoreGust : MR := (yX9_leastMoreGust, cX9_leastMoreGust, 4, some .int)
theorem wV_X9_leastMoreGust : calW M_X9_leastMoreGust := ⟨GW_3 194 rfl rfl, GW_3 195 rfl rfl, GW_1 7 rfl rfl, GW_3 196 rfl rfl⟩
theorem wN_X9_leastMoreGust : calN M_X9_leastMoreGust 2 := ⟨by decide +kernel, by decide +kernel, by decide +kernel, by decide +kernel⟩
abbrev M_X9_greatestScratch : MR := (yX9_greatestScratch, cX9_greatestScratch, 5, some .int)
theorem wV_X9_greatestScratch : calW M_X9_greatestScratch := ⟨GW_3 202 rfl rfl, GW_3 203 rfl rfl, GW_1 7 rfl rfl, GW_3 204 rfl rfl⟩
theorem wN_X9_greatestScratch : calN M_X9_greatestScratch 2 := ⟨by decide +kernel, by decide +kernel, by decide +kernel, by decide +kernel⟩
abbrev M_X9_turnedAhead : MR := (yX9_turnedAhead, cX9_turnedAhead, 5, some .int)
theorem wV_X9_turnedAhead : calW M_X9_turnedAhead := ⟨GW_3 126 rfl rfl, GW_0 14 rfl rfl, GW_1 7 rfl rfl, GW_3 127 rfl rfl⟩
theorem wN_X9_turnedAhead : calN M_X9_turnedAhead 3 := ⟨by decide +kernel, by decide +kernel, by decide +kernel, by decide +kernel⟩
abbrev M_X9_bestAhead : MR := (yX9_bestAhead, cX9_bestAhead, 5, some .int)
theorem wV_X9_bestAhead : calW M_X9_bestAhead := ⟨GW_3 122 rfl rfl, GW_0 13 rfl rfl, GW_1 7 rfl rfl, GW_3 123 rfl rfl⟩
theorem wN_X9_bestAhead : calN M_X9_bestAhead 2 := ⟨by decide +kernel, by decide +kernel, by decide +kernel, by decide +kernel⟩
abbrev M_X9_leastAhead : MR := (yX9_leastAhead, cX9_leastAhead, 3, some .int)
theorem wV_X9_leastAhead : calW M_X9_leastAhead := ⟨GW_3 117 rfl rfl, GW_3 118 rfl rfl, GW_1 7 rfl rfl, GW_3 119 rfl rfl⟩
theorem wN_X9_leastAhead : calN M_X9_leastAhead 2 := ⟨by decide +kernel, by decide +kernel, by decide +kernel, by decide +kernel⟩
abbrev M_X9_setAhead : MR := (yX9_setAhead, cX9_setAhead, 5, none)
theorem wV_X9_setAhead : calW M_X9_setAhead := ⟨GW_3 131 rfl rfl, GW_0 15 rfl rfl, GW_1 7 rfl rfl, GW_3 132 rfl rfl⟩
theorem wN_X9_setAhead : calN M_X9_setAhead 3 := ⟨by decide +kernel, by decide +kernel, by decide +kernel, by decide +kernel⟩
abbrev M_X9_lookAhead : MR := (yX9_lookAhead, cX9_lookAhead, 5, none)
theorem wV_X9_lookAhead : calW M_X9_lookAhead := ⟨GW_3 113 rfl rfl, GW_3 114 rfl rfl, GW_1 7 rfl rfl, GW_3 115 rfl rfl⟩
theorem wN_X9_lookAhead : calN M_X9_lookAhead 1 := ⟨by decide +kernel, by decide +kernel, by decide +kernel, by decide +kernel⟩
abbrev M_X9_bestHold : MR := (yX9_bestHold, cX9_bestHold, 5, some .long)
theorem wV_X9_bestHold : calW M_X9_bestHold := ⟨GW_3 134 rfl rfl, GW_3 135 rfl rfl, GW_1 7 rfl rfl, GW_3 136 rfl rfl⟩
theorem wN_X9_bestHold : calN M_X9_bestHold 0 := ⟨by decide +kernel, by decide +kernel, by decide +kernel, by decide +kernel⟩
abbrev M_X9_borne : MR := (yX9_borne, cX9_borne, 5, some .int)
theorem wV_X9_borne : calW M_X9_borne := ⟨GW_3 155 rfl rfl, GW_0 17 rfl rfl, GW_1 7 rfl rfl, GW_3 156 rfl rfl⟩
theorem wN_X9_borne : calN M_X9_borne 3 := ⟨by decide +kernel, by decide +kernel, by decide +kernel, by decide +kernel⟩
abbrev M_X9_reachBy : MR := (yX9_reachBy, cX9_reachBy, 9, none)
theorem wV_X9_reachBy : calW M_X9_reachBy := ⟨GW_3 150 rfl rfl, GW_0 16 rfl rfl, GW_1 7 rfl rfl, GW_3 151 rfl rfl⟩
theorem wN_X9_reachBy : calN M_X9_reachBy 2 := ⟨by decide +kernel, by decide +kernel, by decide +kernel, by decide +kernel⟩
abbrev M_X9_reachedShop : MR := (yX9_reachedShop, cX9_reachedShop, 2, some .int)
theorem wV_X9_reachedShop : calW M_X9_reachedShop := ⟨GW_3 162 rfl rfl, GW_0 18 rfl rfl, GW_1 7 rfl rfl, GW_3 163 rfl rfl⟩
theorem wN_X9_reachedShop : calN M_X9_reachedShop 0 := ⟨by decide +kernel, by decide +kernel, by decide +kernel, by decide +kernel⟩
abbrev M_X9_fewestMinutes : MR := (yX9_fewestMinutes, cX9_fewestMinutes, 3, some .int)
theorem wV_X9_fewestMinutes : calW M_X9_fewestMinutes := ⟨GW_3 145 rfl rfl, GW_3 146 rfl rfl, GW_1 7 rfl rfl, GW_3 147 rfl rfl⟩
theorem wN_X9_fewestMinutes : calN M_X9_fewestMinutes 1 := ⟨by decide +kernel, by decide +kernel, by decide +kernel, by decide +kernel⟩
abbrev M_X9_leastWithin : MR := (yX9_leastWithin, cX9_leastWithin, 6, some .int)
theorem wV_X9_leastWithin : calW M_X9_leastWithin := ⟨GW_3 169 rfl rfl, GW_3 170 rfl rfl, GW_1 7 rfl rfl, GW_3 171 rfl rfl⟩
theorem wN_X9_leastWithin : calN M_X9_leastWithin 2 := ⟨by decide +kernel, by decide +kernel, by decide +kernel, by decide +kernel⟩
abbrev M_X9_firstUnlike : MR := (yX9_firstUnlike, cX9_firstUnlike, 6, some .int)
theorem wV_X9_firstUnlike : calW M_X9_firstUnlike := ⟨GW_4 13 rfl rfl, GW_4 14 rfl rfl, GW_1 7 rfl rfl, GW_4 15 rfl rfl⟩
theorem wN_X9_firstUnlike : calN M_X9_firstUnlike 3 := ⟨by decide +kernel, by decide +kernel, by decide +kernel, by decide +kernel⟩
abbrev M_X9_minutesLike : MR := (yX9_minutesLike, cX9_minutesLike, 6, some .long)
theorem wV_X9_minutesLike : calW M_X9_minutesLike := ⟨GW_4 9 rfl rfl, GW_4 10 rfl rfl, GW_1 7 rfl rfl, GW_4 11 rfl rfl⟩
theorem wN_X9_minutesLike : calN M_X9_minutesLike 2 := ⟨by decide +kernel, by decide +kernel, by decide +kernel, by decide +kernel⟩
abbrev M_X9_drawOne : MR := (yX9_drawOne, cX9_drawOne, 5, none)
theorem wV_X9_drawOne : calW M_X9_drawOne := ⟨GW_4 32 rfl rfl, GW_0 19 rfl rfl, GW_1 7 rfl rfl, GW_4 33 rfl rfl⟩
theorem wN_X9_drawOne : calN M_X9_drawOne 2 := ⟨by decide +kernel, by decide +kernel, by decide +kernel, by decide +kernel⟩
abbrev M_X9_draw : MR := (yX9_draw, cX9_draw, 5, none)
theorem wV_X9_draw : calW M_X9_draw := ⟨GW_4 27 rfl rfl, GW_4 28 rfl rfl, GW_1 7 rfl rfl, GW_4 29 rfl rfl⟩
theorem wN_X9_draw : calN M_X9_draw 3 := ⟨by decide +kernel, by decide +kernel, by decide +kernel, by decide +kernel⟩
abbrev M_X10_isAsSaid : MR := (yX10_isAsSaid, cX10_isAsSaid, 2, some .boolean)
theorem wS_X10_isAsSaid : calS M_X10_isAsSaid := ⟨GW_2 107 rfl rfl, GW_1 1 rfl rfl, GW_2 108 rfl rfl⟩
theorem wN_X10_isAsSaid : calN M_X10_isAsSaid 2 := ⟨by decide +kernel, by decide +kernel, by decide +kernel, by decide +kernel⟩
abbrev M_X10_place : MR := (yX10_place, cX10_place, 3, some .int)
theorem wV_X10_place : calW M_X10_place := ⟨GW_2 103 rfl rfl, GW_2 104 rfl rfl, GW_1 1 rfl rfl, GW_2 105 rfl rfl⟩
theorem wN_X10_place : calN M_X10_place 2 := ⟨by decide +kernel, by decide +kernel, by decide +kernel, by decide +kernel⟩
abbrev M_X10_addFrom : MR := (yX10_addFrom, cX10_addFrom, 6, some .boolean)
theorem wV_X10_addFrom : calW M_X10_addFrom := ⟨GW_2 146 rfl rfl, GW_0 1 rfl rfl, GW_1 1 rfl rfl, GW_2 147 rfl rfl⟩
theorem wN_X10_addFrom : calN M_X10_addFrom 2 := ⟨by decide +kernel, by decide +kernel, by decide +kernel, by decide +kernel⟩
abbrev M_X10_places : MR := (yX10_places, cX10_places, 7, some .int)
theorem wV_X10_places : calW M_X10_places := ⟨GW_2 125 rfl rfl, GW_2 126 rfl rfl, GW_1 1 rfl rfl, GW_2 127 rfl rfl⟩
theorem wN_X10_places : calN M_X10_places 3 := ⟨by decide +kernel, by decide +kernel, by decide +kernel, by decide +kernel⟩
abbrev M_X10_mend : MR := (yX10_mend, cX10_mend, 6, some .int)
theorem wV_X10_mend : calW M_X10_mend := ⟨GW_2 153 rfl rfl, GW_2 154 rfl rfl, GW_1 1 rfl rfl, GW_2 155 rfl rfl⟩
theorem wN_X10_mend : calN M_X10_mend 3 := ⟨by decide +kernel, by decide +kernel, by decide +kernel, by decide +kernel⟩
abbrev M_X10_of : MR := (yX10_of, cX10_of, 4, some .int)
theorem wV_X10_of : calW M_X10_of := ⟨GW_2 182 rfl rfl, GW_2 183 rfl rfl, GW_1 1 rfl rfl, GW_2 184 rfl rfl⟩
theorem wN_X10_of : calN M_X10_of 2 := ⟨by decide +kernel, by decide +kernel, by decide +kernel, by decide +kernel⟩
abbrev M_X10_wind : MR := (yX10_wind, cX10_wind, 3, some .int)
theorem wV_X10_wind : calW M_X10_wind := ⟨GW_2 186 rfl rfl, GW_2 187 rfl rfl, GW_1 1 rfl rfl, GW_2 188 rfl rfl⟩
theorem wN_X10_wind : calN M_X10_wind 2 := ⟨by decide +kernel, by decide +kernel, by decide +kernel, by decide +kernel⟩
abbrev M_X10_feed : MR := (yX10_feed, cX10_feed, 2, some .int)
theorem wV_X10_feed : calW M_X10_feed := ⟨GW_2 203 rfl rfl, GW_2 204 rfl rfl, GW_1 1 rfl rfl, GW_2 205 rfl rfl⟩
theorem wN_X10_feed : calN M_X10_feed 1 := ⟨by decide +kernel, by decide +kernel, by decide +kernel, by decide +kernel⟩
abbrev M_X10_law : MR := (yX10_law, cX10_law, 2, some .int)
theorem wV_X10_law : calW M_X10_law := ⟨GW_2 211 rfl rfl, GW_2 212 rfl rfl, GW_1 1 rfl rfl, GW_2 213 rfl rfl⟩
theorem wN_X10_law : calN M_X10_law 0 := ⟨by decide +kernel, by decide +kernel, by decide +kernel, by decide +kernel⟩
abbrev M_X10_strain : MR := (yX10_strain, cX10_strain, 5, some .int)
theorem wV_X10_strain : calW M_X10_strain := ⟨GW_3 13 rfl rfl, GW_3 14 rfl rfl, GW_1 1 rfl rfl, GW_3 15 rfl rfl⟩
theorem wN_X10_strain : calN M_X10_strain 2 := ⟨by decide +kernel, by decide +kernel, by decide +kernel, by decide +kernel⟩
abbrev M_X10_isMinute : MR := (yX10_isMinute, cX10_isMinute, 1, some .boolean)
theorem wS_X10_isMinute : calS M_X10_isMinute := ⟨GW_3 70 rfl rfl, GW_1 1 rfl rfl, GW_3 71 rfl rfl⟩
theorem wN_X10_isMinute : calN M_X10_isMinute 1 := ⟨by decide +kernel, by decide +kernel, by decide +kernel, by decide +kernel⟩
abbrev M_X10_walkRefused : MR := (yX10_walkRefused, cX10_walkRefused, 2, some .int)
theorem wV_X10_walkRefused : calW M_X10_walkRefused := ⟨GW_3 74 rfl rfl, GW_0 12 rfl rfl, GW_1 1 rfl rfl, GW_3 75 rfl rfl⟩
theorem wN_X10_walkRefused : calN M_X10_walkRefused 1 := ⟨by decide +kernel, by decide +kernel, by decide +kernel, by decide +kernel⟩
abbrev M_X10_walk : MR := (yX10_walk, cX10_walk, 6, some .int)
theorem wV_X10_walk : calW M_X10_walk := ⟨GW_3 66 rfl rfl, GW_3 67 rfl rfl, GW_1 1 rfl rfl, GW_3 68 rfl rfl⟩
theorem wN_X10_walk : calN M_X10_walk 3 := ⟨by decide +kernel, by decide +kernel, by decide +kernel, by decide +kernel⟩
abbrev M_X10_start : MR := (yX10_start, cX10_start, 6, some .int)
theorem wV_X10_start : calW M_X10_start := ⟨GW_3 97 rfl rfl, GW_3 98 rfl rfl, GW_1 1 rfl rfl, GW_3 99 rfl rfl⟩
theorem wN_X10_start : calN M_X10_start 2 := ⟨by decide +kernel, by decide +kernel, by decide +kernel, by decide +kernel⟩
abbrev M_X10_hold : MR := (yX10_hold, cX10_hold, 4, some .long)
theorem wV_X10_hold : calW M_X10_hold := ⟨GW_3 107 rfl rfl, GW_3 108 rfl rfl, GW_1 1 rfl rfl, GW_3 109 rfl rfl⟩
theorem wN_X10_hold : calN M_X10_hold 2 := ⟨by decide +kernel, by decide +kernel, by decide +kernel, by decide +kernel⟩
abbrev M_X10_soonest : MR := (yX10_soonest, cX10_soonest, 2, some .int)
theorem wV_X10_soonest : calW M_X10_soonest := ⟨GW_3 141 rfl rfl, GW_3 142 rfl rfl, GW_1 1 rfl rfl, GW_3 143 rfl rfl⟩
theorem wN_X10_soonest : calN M_X10_soonest 1 := ⟨by decide +kernel, by decide +kernel, by decide +kernel, by decide +kernel⟩
abbrev M_X10_safest : MR := (yX10_safest, cX10_safest, 3, some .int)
theorem wV_X10_safest : calW M_X10_safest := ⟨GW_3 165 rfl rfl, GW_3 166 rfl rfl, GW_1 1 rfl rfl, GW_3 167 rfl rfl⟩
theorem wN_X10_safest : calN M_X10_safest 2 := ⟨by decide +kernel, by decide +kernel, by decide +kernel, by decide +kernel⟩
abbrev M_X10_menFor : MR := (yX10_menFor, cX10_menFor, 5, some .int)
theorem wV_X10_menFor : calW M_X10_menFor := ⟨GW_3 173 rfl rfl, GW_3 174 rfl rfl, GW_1 1 rfl rfl, GW_3 175 rfl rfl⟩
theorem wN_X10_menFor : calN M_X10_menFor 2 := ⟨by decide +kernel, by decide +kernel, by decide +kernel, by decide +kernel⟩
abbrev M_X10_van : MR := (yX10_van, cX10_van, 5, some .int)
theorem wV_X10_van : calW M_X10_van := ⟨GW_3 182 rfl rfl, GW_3 183 rfl rfl, GW_1 1 rfl rfl, GW_3 184 rfl rfl⟩
theorem wN_X10_van : calN M_X10_van 2 := ⟨by decide +kernel, by decide +kernel, by decide +kernel, by decide +kernel⟩
abbrev M_X10_windFrom : MR := (yX10_windFrom, cX10_windFrom, 5, some .int)
theorem wV_X10_windFrom : calW M_X10_windFrom := ⟨GW_3 190 rfl rfl, GW_3 191 rfl rfl, GW_1 1 rfl rfl, GW_3 192 rfl rfl⟩
theorem wN_X10_windFrom : calN M_X10_windFrom 2 := ⟨by decide +kernel, by decide +kernel, by decide +kernel, by decide +kernel⟩
abbrev M_X10_scratchFor : MR := (yX10_scratchFor, cX10_scratchFor, 5, some .int)
theorem wV_X10_scratchFor : calW M_X10_scratchFor := ⟨GW_3 198 rfl rfl, GW_3 199 rfl rfl, GW_1 1 rfl rfl, GW_3 200 rfl rfl⟩
theorem wN_X10_scratchFor : calN M_X10_scratchFor 2 := ⟨by decide +kernel, by decide +kernel, by decide +kernel, by decide +kernel⟩
abbrev M_X10_free : MR := (yX10_free, cX10_free, 2, some .long)
theorem wV_X10_free : calW M_X10_free := ⟨GW_3 206 rfl rfl, GW_3 207 rfl rfl, GW_1 1 rfl rfl, GW_3 208 rfl rfl⟩
theorem wN_X10_free : calN M_X10_free 1 := ⟨by decide +kernel, by decide +kernel, by decide +kernel, by decide +kernel⟩
abbrev M_X10_watch : MR := (yX10_watch, cX10_watch, 3, some .long)
theorem wV_X10_watch : calW M_X10_watch := ⟨GW_3 224 rfl rfl, GW_3 225 rfl rfl, GW_1 1 rfl rfl, GW_3 226 rfl rfl⟩
theorem wN_X10_watch : calN M_X10_watch 1 := ⟨by decide +kernel, by decide +kernel, by decide +kernel, by decide +kernel⟩
abbrev M_X10_earlier : MR := (yX10_earlier, cX10_earlier, 5, some .long)
theorem wV_X10_earlier : calW M_X10_earlier := ⟨GW_3 233 rfl rfl, GW_3 234 rfl rfl, GW_1 1 rfl rfl, GW_3 235 rfl rfl⟩
theorem wN_X10_earlier : calN M_X10_earlier 2 := ⟨by decide +kernel, by decide +kernel, by decide +kernel, by decide +kernel⟩
abbrev M_X10_longRefusal : MR := (yX10_longRefusal, cX10_longRefusal, 1, some .long)
theorem wS_X10_longRefusal : calS M_X10_longRefusal := ⟨GW_4 1 rfl rfl, GW_1 1 rfl rfl, GW_4 2 rfl rfl⟩
theorem wN_X10_longRefusal : calN M_X10_longRefusal 1 := ⟨by decide +kernel, by decide +kernel, by decide +kernel, by decide +kernel⟩
abbrev M_X10_cost : MR := (yX10_cost, cX10_cost, 10, some .long)
theorem wV_X10_cost : calW M_X10_cost := ⟨GW_3 237 rfl rfl, GW_3 238 rfl rfl, GW_1 1 rfl rfl, GW_3 239 rfl rfl⟩
theorem wN_X10_cost : calN M_X10_cost 3 := ⟨by decide +kernel, by decide +kernel, by decide +kernel, by decide +kernel⟩
abbrev M_X10_begun : MR := (yX10_begun, cX10_begun, 5, some .long)
theorem wV_X10_begun : calW M_X10_begun := ⟨GW_4 5 rfl rfl, GW_4 6 rfl rfl, GW_1 1 rfl rfl, GW_4 7 rfl rfl⟩
theorem wN_X10_begun : calN M_X10_begun 2 := ⟨by decide +kernel, by decide +kernel, by decide +kernel, by decide +kernel⟩
abbrev M_X10_judge : MR := (yX10_judge, cX10_judge, 7, some .int)
theorem wV_X10_judge : calW M_X10_judge := ⟨GW_4 18 rfl rfl, GW_4 19 rfl rfl, GW_1 1 rfl rfl, GW_4 20 rfl rfl⟩
theorem wN_X10_judge : calN M_X10_judge 2 := ⟨by decide +kernel, by decide +kernel, by decide +kernel, by decide +kernel⟩
abbrev M_X10_drawn : MR := (yX10_drawn, cX10_drawn, 6, some .int)
theorem wV_X10_drawn : calW M_X10_drawn := ⟨GW_4 23 rfl rfl, GW_4 24 rfl rfl, GW_1 1 rfl rfl, GW_4 25 rfl rfl⟩
theorem wN_X10_drawn : calN M_X10_drawn 3 := ⟨by decide +kernel, by decide +kernel, by decide +kernel, by decide +kernel⟩
abbrev M_X10_out : MR := (yX10_out, cX10_out, 3, some .int)
theorem wV_X10_out : calW M_X10_out := ⟨GW_4 36 rfl rfl, GW_4 37 rfl rfl, GW_1 1 rfl rfl, GW_4 38 rfl rfl⟩
theorem wN_X10_out : calN M_X10_out 2 := ⟨by decide +kernel, by decide +kernel, by decide +kernel, by decide +kernel⟩
abbrev M_X10_pace : MR := (yX10_pace, cX10_pace, 2, some .int)
theorem wV_X10_pace : calW M_X10_pace := ⟨GW_4 63 rfl rfl, GW_4 64 rfl rfl, GW_1 1 rfl rfl, GW_4 65 rfl rfl⟩
theorem wN_X10_pace : calN M_X10_pace 1 := ⟨by decide +kernel, by decide +kernel, by decide +kernel, by decide +kernel⟩
abbrev M_X10_rest : MR := (yX10_rest, cX10_rest, 2, some .int)
theorem wV_X10_rest : calW M_X10_rest := ⟨GW_4 71 rfl rfl, GW_4 72 rfl rfl, GW_1 1 rfl rfl, GW_4 73 rfl rfl⟩
theorem wN_X10_rest : calN M_X10_rest 1 := ⟨by decide +kernel, by decide +kernel, by decide +kernel, by decide +kernel⟩
abbrev M_X10_led : MR := (yX10_led, cX10_led, 2, some .int)
theorem wV_X10_led : calW M_X10_led := ⟨GW_4 79 rfl rfl, GW_4 80 rfl rfl, GW_1 1 rfl rfl, GW_4 81 rfl rfl⟩
theorem wN_X10_led : calN M_X10_led 1 := ⟨by decide +kernel, by decide +kernel, by decide +kernel, by decide +kernel⟩
abbrev M_X10_image : MR := (yX10_image, cX10_image, 1, some .int)
theorem wV_X10_image : calW M_X10_image := ⟨GW_4 87 rfl rfl, GW_4 88 rfl rfl, GW_1 1 rfl rfl, GW_4 89 rfl rfl⟩
theorem wN_X10_image : calN M_X10_image 0 := ⟨by decide +kernel, by decide +kernel, by decide +kernel, by decide +kernel⟩
abbrev M_X10_back : MR := (yX10_back, cX10_back, 1, some .int)
theorem wV_X10_back : calW M_X10_back := ⟨GW_4 95 rfl rfl, GW_4 96 rfl rfl, GW_1 1 rfl rfl, GW_4 97 rfl rfl⟩
theorem wN_X10_back : calN M_X10_back 0 := ⟨by decide +kernel, by decide +kernel, by decide +kernel, by decide +kernel⟩
abbrev M_X10_undo : MR := (yX10_undo, cX10_undo, 1, some .int)
theorem wV_X10_undo : calW M_X10_undo := ⟨GW_4 99 rfl rfl, GW_4 100 rfl rfl, GW_1 1 rfl rfl, GW_4 101 rfl rfl⟩
theorem wN_X10_undo : calN M_X10_undo 0 := ⟨by decide +kernel, by decide +kernel, by decide +kernel, by decide +kernel⟩
abbrev M_X10_redo : MR := (yX10_redo, cX10_redo, 1, some .int)
theorem wV_X10_redo : calW M_X10_redo := ⟨GW_4 108 rfl rfl, GW_4 109 rfl rfl, GW_1 1 rfl rfl, GW_4 110 rfl rfl⟩
theorem wN_X10_redo : calN M_X10_redo 0 := ⟨by decide +kernel, by decide +kernel, by decide +kernel, by decide +kernel⟩
abbrev M_X10_body : MR := (yX10_body, cX10_body, 2, some .int)
theorem wV_X10_body : calW M_X10_body := ⟨GW_4 116 rfl rfl, GW_4 117 rfl rfl, GW_1 1 rfl rfl, GW_4 118 rfl rfl⟩
theorem wN_X10_body : calN M_X10_body 1 := ⟨by decide +kernel, by decide +kernel, by decide +kernel, by decide +kernel⟩
abbrev M_X10_act : MR := (yX10_act, cX10_act, 4, some .int)
theorem wV_X10_act : calW M_X10_act := ⟨GW_4 124 rfl rfl, GW_4 125 rfl rfl, GW_1 1 rfl rfl, GW_4 126 rfl rfl⟩
theorem wN_X10_act : calN M_X10_act 3 := ⟨by decide +kernel, by decide +kernel, by decide +kernel, by decide +kernel⟩
abbrev M_X10_trace : MR := (yX10_trace, cX10_trace, 2, some .int)
theorem wV_X10_trace : calW M_X10_trace := ⟨GW_4 158 rfl rfl, GW_4 159 rfl rfl, GW_1 1 rfl rfl, GW_4 160 rfl rfl⟩
theorem wN_X10_trace : calN M_X10_trace 1 := ⟨by decide +kernel, by decide +kernel, by decide +kernel, by decide +kernel⟩
abbrev M_X10_keep : MR := (yX10_keep, cX10_keep, 4, some .int)
theorem wV_X10_keep : calW M_X10_keep := ⟨GW_4 166 rfl rfl, GW_4 167 rfl rfl, GW_1 1 rfl rfl, GW_4 168 rfl rfl⟩
theorem wN_X10_keep : calN M_X10_keep 2 := ⟨by decide +kernel, by decide +kernel, by decide +kernel, by decide +kernel⟩
abbrev M_X10_row : MR := (yX10_row, cX10_row, 5, some .int)
theorem wV_X10_row : calW M_X10_row := ⟨GW_4 175 rfl rfl, GW_4 176 rfl rfl, GW_1 1 rfl rfl, GW_4 177 rfl rfl⟩
theorem wN_X10_row : calN M_X10_row 3 := ⟨by decide +kernel, by decide +kernel, by decide +kernel, by decide +kernel⟩
abbrev M_X10_elementRefused : MR := (yX10_elementRefused, cX10_elementRefused, 2, some .int)
theorem wS_X10_elementRefused : calS M_X10_elementRefused := ⟨GW_4 190 rfl rfl, GW_1 1 rfl rfl, GW_4 191 rfl rfl⟩
theorem wN_X10_elementRefused : calN M_X10_elementRefused 2 := ⟨by decide +kernel, by decide +kernel, by decide +kernel, by decide +kernel⟩
abbrev M_X10_put : MR := (yX10_put, cX10_put, 7, some .int)
theorem wV_X10_put : calW M_X10_put := ⟨GW_4 186 rfl rfl, GW_4 187 rfl rfl, GW_1 1 rfl rfl, GW_4 188 rfl rfl⟩
theorem wN_X10_put : calN M_X10_put 3 := ⟨by decide +kernel, by decide +kernel, by decide +kernel, by decide +kernel⟩
abbrev M_X10_element : MR := (yX10_element, cX10_element, 4, some .long)
theorem wV_X10_element : calW M_X10_element := ⟨GW_4 205 rfl rfl, GW_4 206 rfl rfl, GW_1 1 rfl rfl, GW_4 207 rfl rfl⟩
theorem wN_X10_element : calN M_X10_element 2 := ⟨by decide +kernel, by decide +kernel, by decide +kernel, by decide +kernel⟩
abbrev M_X10_shift : MR := (yX10_shift, cX10_shift, 8, some .int)
theorem wV_X10_shift : calW M_X10_shift := ⟨GW_4 209 rfl rfl, GW_4 210 rfl rfl, GW_1 1 rfl rfl, GW_4 211 rfl rfl⟩
theorem wN_X10_shift : calN M_X10_shift 5 := ⟨by decide +kernel, by decide +kernel, by decide +kernel, by decide +kernel⟩
abbrev M_X10_taken : MR := (yX10_taken, cX10_taken, 5, some .int)
theorem wV_X10_taken : calW M_X10_taken := ⟨GW_4 214 rfl rfl, GW_4 215 rfl rfl, GW_1 1 rfl rfl, GW_4 216 rfl rfl⟩
theorem wN_X10_taken : calN M_X10_taken 2 := ⟨by decide +kernel, by decide +kernel, by decide +kernel, by decide +kernel⟩
abbrev M_X10_count : MR := (yX10_count, cX10_count, 2, some .int)
theorem wV_X10_count : calW M_X10_count := ⟨GW_4 222 rfl rfl, GW_4 223 rfl rfl, GW_1 1 rfl rfl, GW_4 224 rfl rfl⟩
theorem wN_X10_count : calN M_X10_count 1 := ⟨by decide +kernel, by decide +kernel, by decide +kernel, by decide +kernel⟩
abbrev M_X11_within : MR := (yX11_within, cX11_within, 6, some .boolean)
theorem wS_X11_within : calS M_X11_within := ⟨GW_5 142 rfl rfl, GW_1 12 rfl rfl, GW_5 143 rfl rfl⟩
theorem wN_X11_within : calN M_X11_within 3 := ⟨by decide +kernel, by decide +kernel, by decide +kernel, by decide +kernel⟩
abbrev M_X11_becomes : MR := (yX11_becomes, cX11_becomes, 5, some .int)
theorem wV_X11_becomes : calW M_X11_becomes := ⟨GW_5 185 rfl rfl, GW_0 28 rfl rfl, GW_1 12 rfl rfl, GW_5 186 rfl rfl⟩
theorem wN_X11_becomes : calN M_X11_becomes 2 := ⟨by decide +kernel, by decide +kernel, by decide +kernel, by decide +kernel⟩
abbrev M_X11_undo : MR := (yX11_undo, cX11_undo, 1, some .int)
theorem wV_X11_undo : calW M_X11_undo := ⟨GW_5 126 rfl rfl, GW_5 127 rfl rfl, GW_1 12 rfl rfl, GW_5 128 rfl rfl⟩
theorem wN_X11_undo : calN M_X11_undo 0 := ⟨by decide +kernel, by decide +kernel, by decide +kernel, by decide +kernel⟩
abbrev M_X11_redo : MR := (yX11_redo, cX11_redo, 1, some .int)
theorem wV_X11_redo : calW M_X11_redo := ⟨GW_5 130 rfl rfl, GW_5 131 rfl rfl, GW_1 12 rfl rfl, GW_5 132 rfl rfl⟩
theorem wN_X11_redo : calN M_X11_redo 0 := ⟨by decide +kernel, by decide +kernel, by decide +kernel, by decide +kernel⟩
abbrev M_X11_isPlace : MR := (yX11_isPlace, cX11_isPlace, 2, some .boolean)
theorem wV_X11_isPlace : calW M_X11_isPlace := ⟨GW_5 169 rfl rfl, GW_0 27 rfl rfl, GW_1 12 rfl rfl, GW_5 170 rfl rfl⟩
theorem wN_X11_isPlace : calN M_X11_isPlace 1 := ⟨by decide +kernel, by decide +kernel, by decide +kernel, by decide +kernel⟩
abbrev M_X11_isHeld : MR := (yX11_isHeld, cX11_isHeld, 2, some .boolean)
theorem wS_X11_isHeld : calS M_X11_isHeld := ⟨GW_5 178 rfl rfl, GW_1 12 rfl rfl, GW_5 179 rfl rfl⟩
theorem wN_X11_isHeld : calN M_X11_isHeld 1 := ⟨by decide +kernel, by decide +kernel, by decide +kernel, by decide +kernel⟩
abbrev M_X11_isMinute : MR := (yX11_isMinute, cX11_isMinute, 1, some .boolean)
theorem wS_X11_isMinute : calS M_X11_isMinute := ⟨GW_6 29 rfl rfl, GW_1 12 rfl rfl, GW_6 30 rfl rfl⟩
theorem wN_X11_isMinute : calN M_X11_isMinute 1 := ⟨by decide +kernel, by decide +kernel, by decide +kernel, by decide +kernel⟩
abbrev M_X11_adds : MR := (yX11_adds, cX11_adds, 4, none)
theorem wV_X11_adds : calW M_X11_adds := ⟨GW_5 148 rfl rfl, GW_0 25 rfl rfl, GW_1 12 rfl rfl, GW_5 149 rfl rfl⟩
theorem wN_X11_adds : calN M_X11_adds 3 := ⟨by decide +kernel, by decide +kernel, by decide +kernel, by decide +kernel⟩
abbrev M_X11_isOne : MR := (yX11_isOne, cX11_isOne, 6, some .boolean)
theorem wS_X11_isOne : calS M_X11_isOne := ⟨GW_5 138 rfl rfl, GW_1 12 rfl rfl, GW_5 139 rfl rfl⟩
theorem wN_X11_isOne : calN M_X11_isOne 3 := ⟨by decide +kernel, by decide +kernel, by decide +kernel, by decide +kernel⟩
abbrev M_X11_place : MR := (yX11_place, cX11_place, 3, some .int)
theorem wV_X11_place : calW M_X11_place := ⟨GW_5 134 rfl rfl, GW_5 135 rfl rfl, GW_1 12 rfl rfl, GW_5 136 rfl rfl⟩
theorem wN_X11_place : calN M_X11_place 2 := ⟨by decide +kernel, by decide +kernel, by decide +kernel, by decide +kernel⟩
abbrev M_X11_isShelf : MR := (yX11_isShelf, cX11_isShelf, 1, some .boolean)
theorem wS_X11_isShelf : calS M_X11_isShelf := ⟨GW_5 155 rfl rfl, GW_1 12 rfl rfl, GW_5 156 rfl rfl⟩
theorem wN_X11_isShelf : calN M_X11_isShelf 1 := ⟨by decide +kernel, by decide +kernel, by decide +kernel, by decide +kernel⟩
abbrev M_X11_places : MR := (yX11_places, cX11_places, 7, some .int)
theorem wV_X11_places : calW M_X11_places := ⟨GW_5 151 rfl rfl, GW_5 152 rfl rfl, GW_1 12 rfl rfl, GW_5 153 rfl rfl⟩
theorem wN_X11_places : calN M_X11_places 3 := ⟨by decide +kernel, by decide +kernel, by decide +kernel, by decide +kernel⟩
abbrev M_X11_placeOf : MR := (yX11_placeOf, cX11_placeOf, 3, some .int)
theorem wV_X11_placeOf : calW M_X11_placeOf := ⟨GW_5 164 rfl rfl, GW_0 26 rfl rfl, GW_1 12 rfl rfl, GW_5 165 rfl rfl⟩
theorem wN_X11_placeOf : calN M_X11_placeOf 2 := ⟨by decide +kernel, by decide +kernel, by decide +kernel, by decide +kernel⟩
abbrev M_X11_mayBecome : MR := (yX11_mayBecome, cX11_mayBecome, 2, some .boolean)
theorem wS_X11_mayBecome : calS M_X11_mayBecome := ⟨GW_5 174 rfl rfl, GW_1 12 rfl rfl, GW_5 175 rfl rfl⟩
theorem wN_X11_mayBecome : calN M_X11_mayBecome 2 := ⟨by decide +kernel, by decide +kernel, by decide +kernel, by decide +kernel⟩
abbrev M_X11_mend : MR := (yX11_mend, cX11_mend, 5, some .int)
theorem wV_X11_mend : calW M_X11_mend := ⟨GW_5 159 rfl rfl, GW_5 160 rfl rfl, GW_1 12 rfl rfl, GW_5 161 rfl rfl⟩
theorem wN_X11_mend : calN M_X11_mend 3 := ⟨by decide +kernel, by decide +kernel, by decide +kernel, by decide +kernel⟩
abbrev M_X11_of : MR := (yX11_of, cX11_of, 4, some .int)
theorem wV_X11_of : calW M_X11_of := ⟨GW_5 188 rfl rfl, GW_5 189 rfl rfl, GW_1 12 rfl rfl, GW_5 190 rfl rfl⟩
theorem wN_X11_of : calN M_X11_of 2 := ⟨by decide +kernel, by decide +kernel, by decide +kernel, by decide +kernel⟩
abbrev M_X11_windAt : MR := (yX11_windAt, cX11_windAt, 3, some .int)
theorem wV_X11_windAt : calW M_X11_windAt := ⟨GW_5 198 rfl rfl, GW_0 29 rfl rfl, GW_1 12 rfl rfl, GW_5 199 rfl rfl⟩
theorem wN_X11_windAt : calN M_X11_windAt 2 := ⟨by decide +kernel, by decide +kernel, by decide +kernel, by decide +kernel⟩
abbrev M_X11_wind : MR := (yX11_wind, cX11_wind, 3, some .int)
theorem wV_X11_wind : calW M_X11_wind := ⟨GW_5 192 rfl rfl, GW_5 193 rfl rfl, GW_1 12 rfl rfl, GW_5 194 rfl rfl⟩
theorem wN_X11_wind : calN M_X11_wind 2 := ⟨by decide +kernel, by decide +kernel, by decide +kernel, by decide +kernel⟩
abbrev M_X11_feed : MR := (yX11_feed, cX11_feed, 2, some .int)
theorem wV_X11_feed : calW M_X11_feed := ⟨GW_5 201 rfl rfl, GW_5 202 rfl rfl, GW_1 12 rfl rfl, GW_5 203 rfl rfl⟩
theorem wN_X11_feed : calN M_X11_feed 1 := ⟨by decide +kernel, by decide +kernel, by decide +kernel, by decide +kernel⟩
abbrev M_X11_byteAt : MR := (yX11_byteAt, cX11_byteAt, 1, some .int)
theorem wV_X11_byteAt : calW M_X11_byteAt := ⟨GW_5 239 rfl rfl, GW_0 37 rfl rfl, GW_1 12 rfl rfl, GW_6 0 rfl rfl⟩
theorem wN_X11_byteAt : calN M_X11_byteAt 0 := ⟨by decide +kernel, by decide +kernel, by decide +kernel, by decide +kernel⟩
abbrev M_X11_wrong : MR := (yX11_wrong, cX11_wrong, 1, some .int)
theorem wV_X11_wrong : calW M_X11_wrong := ⟨GW_6 3 rfl rfl, GW_0 38 rfl rfl, GW_1 12 rfl rfl, GW_6 4 rfl rfl⟩
theorem wN_X11_wrong : calN M_X11_wrong 0 := ⟨by decide +kernel, by decide +kernel, by decide +kernel, by decide +kernel⟩
abbrev M_X11_takes : MR := (yX11_takes, cX11_takes, 2, some .boolean)
theorem wV_X11_takes : calW M_X11_takes := ⟨GW_6 7 rfl rfl, GW_0 39 rfl rfl, GW_1 12 rfl rfl, GW_6 8 rfl rfl⟩
theorem wN_X11_takes : calN M_X11_takes 1 := ⟨by decide +kernel, by decide +kernel, by decide +kernel, by decide +kernel⟩
abbrev M_X11_nameOf : MR := (yX11_nameOf, cX11_nameOf, 1, some .int)
theorem wS_X11_nameOf : calS M_X11_nameOf := ⟨GW_6 10 rfl rfl, GW_1 12 rfl rfl, GW_6 11 rfl rfl⟩
theorem wN_X11_nameOf : calN M_X11_nameOf 1 := ⟨by decide +kernel, by decide +kernel, by decide +kernel, by decide +kernel⟩
abbrev M_X11_either : MR := (yX11_either, cX11_either, 3, some .int)
theorem wV_X11_either : calW M_X11_either := ⟨GW_5 215 rfl rfl, GW_0 31 rfl rfl, GW_1 12 rfl rfl, GW_5 216 rfl rfl⟩
theorem wN_X11_either : calN M_X11_either 0 := ⟨by decide +kernel, by decide +kernel, by decide +kernel, by decide +kernel⟩
abbrev M_X11_both : MR := (yX11_both, cX11_both, 3, some .int)
theorem wV_X11_both : calW M_X11_both := ⟨GW_5 219 rfl rfl, GW_0 32 rfl rfl, GW_1 12 rfl rfl, GW_5 220 rfl rfl⟩
theorem wN_X11_both : calN M_X11_both 0 := ⟨by decide +kernel, by decide +kernel, by decide +kernel, by decide +kernel⟩
abbrev M_X11_compared : MR := (yX11_compared, cX11_compared, 4, some .int)
theorem wV_X11_compared : calW M_X11_compared := ⟨GW_5 223 rfl rfl, GW_0 33 rfl rfl, GW_1 12 rfl rfl, GW_5 224 rfl rfl⟩
theorem wN_X11_compared : calN M_X11_compared 0 := ⟨by decide +kernel, by decide +kernel, by decide +kernel, by decide +kernel⟩
abbrev M_X11_sums : MR := (yX11_sums, cX11_sums, 4, some .int)
theorem wV_X11_sums : calW M_X11_sums := ⟨GW_5 227 rfl rfl, GW_0 34 rfl rfl, GW_1 12 rfl rfl, GW_5 228 rfl rfl⟩
theorem wN_X11_sums : calN M_X11_sums 0 := ⟨by decide +kernel, by decide +kernel, by decide +kernel, by decide +kernel⟩
abbrev M_X11_product : MR := (yX11_product, cX11_product, 4, some .int)
theorem wV_X11_product : calW M_X11_product := ⟨GW_5 231 rfl rfl, GW_0 35 rfl rfl, GW_1 12 rfl rfl, GW_5 232 rfl rfl⟩
theorem wN_X11_product : calN M_X11_product 0 := ⟨by decide +kernel, by decide +kernel, by decide +kernel, by decide +kernel⟩
abbrev M_X11_one : MR := (yX11_one, cX11_one, 5, some .int)
theorem wV_X11_one : calW M_X11_one := ⟨GW_5 235 rfl rfl, GW_0 36 rfl rfl, GW_1 12 rfl rfl, GW_5 236 rfl rfl⟩
theorem wN_X11_one : calN M_X11_one 0 := ⟨by decide +kernel, by decide +kernel, by decide +kernel, by decide +kernel⟩
abbrev M_X11_workOut : MR := (yX11_workOut, cX11_workOut, 8, some .int)
theorem wV_X11_workOut : calW M_X11_workOut := ⟨GW_5 211 rfl rfl, GW_0 30 rfl rfl, GW_1 12 rfl rfl, GW_5 212 rfl rfl⟩
theorem wN_X11_workOut : calN M_X11_workOut 2 := ⟨by decide +kernel, by decide +kernel, by decide +kernel, by decide +kernel⟩
abbrev M_X11_law : MR := (yX11_law, cX11_law, 4, some .int)
theorem wV_X11_law : calW M_X11_law := ⟨GW_5 206 rfl rfl, GW_5 207 rfl rfl, GW_1 12 rfl rfl, GW_5 208 rfl rfl⟩
theorem wN_X11_law : calN M_X11_law 0 := ⟨by decide +kernel, by decide +kernel, by decide +kernel, by decide +kernel⟩
abbrev M_X11_strainAt : MR := (yX11_strainAt, cX11_strainAt, 6, some .int)
theorem wV_X11_strainAt : calW M_X11_strainAt := ⟨GW_6 18 rfl rfl, GW_0 40 rfl rfl, GW_1 12 rfl rfl, GW_6 19 rfl rfl⟩
theorem wN_X11_strainAt : calN M_X11_strainAt 3 := ⟨by decide +kernel, by decide +kernel, by decide +kernel, by decide +kernel⟩
abbrev M_X11_strain : MR := (yX11_strain, cX11_strain, 3, some .int)
theorem wV_X11_strain : calW M_X11_strain := ⟨GW_6 13 rfl rfl, GW_6 14 rfl rfl, GW_1 12 rfl rfl, GW_6 15 rfl rfl⟩
theorem wN_X11_strain : calN M_X11_strain 2 := ⟨by decide +kernel, by decide +kernel, by decide +kernel, by decide +kernel⟩
abbrev M_X11_bears : MR := (yX11_bears, cX11_bears, 1, some .int)
theorem wV_X11_bears : calW M_X11_bears := ⟨GW_6 46 rfl rfl, GW_0 45 rfl rfl, GW_1 12 rfl rfl, GW_6 47 rfl rfl⟩
theorem wN_X11_bears : calN M_X11_bears 0 := ⟨by decide +kernel, by decide +kernel, by decide +kernel, by decide +kernel⟩
abbrev M_X11_bytesIs : MR := (yX11_bytesIs, cX11_bytesIs, 2, some .int)
theorem wV_X11_bytesIs : calW M_X11_bytesIs := ⟨GW_6 26 rfl rfl, GW_0 41 rfl rfl, GW_1 12 rfl rfl, GW_6 27 rfl rfl⟩
theorem wN_X11_bytesIs : calN M_X11_bytesIs 1 := ⟨by decide +kernel, by decide +kernel, by decide +kernel, by decide +kernel⟩
abbrev M_X11_walkIs : MR := (yX11_walkIs, cX11_walkIs, 2, some .int)
theorem wV_X11_walkIs : calW M_X11_walkIs := ⟨GW_6 34 rfl rfl, GW_0 42 rfl rfl, GW_1 12 rfl rfl, GW_6 35 rfl rfl⟩
theorem wN_X11_walkIs : calN M_X11_walkIs 1 := ⟨by decide +kernel, by decide +kernel, by decide +kernel, by decide +kernel⟩
abbrev M_X11_heldBy : MR := (yX11_heldBy, cX11_heldBy, 5, some .int)
theorem wV_X11_heldBy : calW M_X11_heldBy := ⟨GW_6 42 rfl rfl, GW_0 44 rfl rfl, GW_1 12 rfl rfl, GW_6 43 rfl rfl⟩
theorem wN_X11_heldBy : calN M_X11_heldBy 2 := ⟨by decide +kernel, by decide +kernel, by decide +kernel, by decide +kernel⟩
abbrev M_X11_walks : MR := (yX11_walks, cX11_walks, 7, none)
theorem wV_X11_walks : calW M_X11_walks := ⟨GW_6 38 rfl rfl, GW_0 43 rfl rfl, GW_1 12 rfl rfl, GW_6 39 rfl rfl⟩
theorem wN_X11_walks : calN M_X11_walks 3 := ⟨by decide +kernel, by decide +kernel, by decide +kernel, by decide +kernel⟩
abbrev M_X11_passes : MR := (yX11_passes, cX11_passes, 3, some .int)
theorem wV_X11_passes : calW M_X11_passes := ⟨GW_6 50 rfl rfl, GW_0 46 rfl rfl, GW_1 12 rfl rfl, GW_6 51 rfl rfl⟩
theorem wN_X11_passes : calN M_X11_passes 1 := ⟨by decide +kernel, by decide +kernel, by decide +kernel, by decide +kernel⟩
abbrev M_X11_walk : MR := (yX11_walk, cX11_walk, 4, some .int)
theorem wV_X11_walk : calW M_X11_walk := ⟨GW_6 21 rfl rfl, GW_6 22 rfl rfl, GW_1 12 rfl rfl, GW_6 23 rfl rfl⟩
theorem wN_X11_walk : calN M_X11_walk 3 := ⟨by decide +kernel, by decide +kernel, by decide +kernel, by decide +kernel⟩
abbrev M_X11_start : MR := (yX11_start, cX11_start, 6, some .int)
theorem wV_X11_start : calW M_X11_start := ⟨GW_6 53 rfl rfl, GW_6 54 rfl rfl, GW_1 12 rfl rfl, GW_6 55 rfl rfl⟩
theorem wN_X11_start : calN M_X11_start 2 := ⟨by decide +kernel, by decide +kernel, by decide +kernel, by decide +kernel⟩
abbrev M_X11_turned : MR := (yX11_turned, cX11_turned, 3, some .int)
theorem wV_X11_turned : calW M_X11_turned := ⟨GW_6 72 rfl rfl, GW_0 49 rfl rfl, GW_1 12 rfl rfl, GW_6 73 rfl rfl⟩
theorem wN_X11_turned : calN M_X11_turned 2 := ⟨by decide +kernel, by decide +kernel, by decide +kernel, by decide +kernel⟩
abbrev M_X11_bestHeld : MR := (yX11_bestHeld, cX11_bestHeld, 8, some .int)
theorem wV_X11_bestHeld : calW M_X11_bestHeld := ⟨GW_6 68 rfl rfl, GW_0 48 rfl rfl, GW_1 12 rfl rfl, GW_6 69 rfl rfl⟩
theorem wN_X11_bestHeld : calN M_X11_bestHeld 2 := ⟨by decide +kernel, by decide +kernel, by decide +kernel, by decide +kernel⟩
abbrev M_X11_fillsLeast : MR := (yX11_fillsLeast, cX11_fillsLeast, 6, none)
theorem wV_X11_fillsLeast : calW M_X11_fillsLeast := ⟨GW_6 64 rfl rfl, GW_0 47 rfl rfl, GW_1 12 rfl rfl, GW_6 65 rfl rfl⟩
theorem wN_X11_fillsLeast : calN M_X11_fillsLeast 1 := ⟨by decide +kernel, by decide +kernel, by decide +kernel, by decide +kernel⟩
abbrev M_X11_hold : MR := (yX11_hold, cX11_hold, 8, some .long)
theorem wV_X11_hold : calW M_X11_hold := ⟨GW_6 57 rfl rfl, GW_6 58 rfl rfl, GW_1 12 rfl rfl, GW_6 59 rfl rfl⟩
theorem wN_X11_hold : calN M_X11_hold 2 := ⟨by decide +kernel, by decide +kernel, by decide +kernel, by decide +kernel⟩
abbrev M_X11_begins1 : MR := (yX11_begins1, cX11_begins1, 3, none)
theorem wV_X11_begins1 : calW M_X11_begins1 := ⟨GW_6 80 rfl rfl, GW_0 50 rfl rfl, GW_1 12 rfl rfl, GW_6 81 rfl rfl⟩
theorem wN_X11_begins1 : calN M_X11_begins1 1 := ⟨by decide +kernel, by decide +kernel, by decide +kernel, by decide +kernel⟩
abbrev M_X11_restedAt : MR := (yX11_restedAt, cX11_restedAt, 4, some .int)
theorem wV_X11_restedAt : calW M_X11_restedAt := ⟨GW_6 88 rfl rfl, GW_0 52 rfl rfl, GW_1 12 rfl rfl, GW_6 89 rfl rfl⟩
theorem wN_X11_restedAt : calN M_X11_restedAt 2 := ⟨by decide +kernel, by decide +kernel, by decide +kernel, by decide +kernel⟩
abbrev M_X11_pacedTo : MR := (yX11_pacedTo, cX11_pacedTo, 4, some .int)
theorem wV_X11_pacedTo : calW M_X11_pacedTo := ⟨GW_6 92 rfl rfl, GW_0 53 rfl rfl, GW_1 12 rfl rfl, GW_6 93 rfl rfl⟩
theorem wN_X11_pacedTo : calN M_X11_pacedTo 2 := ⟨by decide +kernel, by decide +kernel, by decide +kernel, by decide +kernel⟩
abbrev M_X11_minuteGoes : MR := (yX11_minuteGoes, cX11_minuteGoes, 5, none)
theorem wV_X11_minuteGoes : calW M_X11_minuteGoes := ⟨GW_6 84 rfl rfl, GW_0 51 rfl rfl, GW_1 12 rfl rfl, GW_6 85 rfl rfl⟩
theorem wN_X11_minuteGoes : calN M_X11_minuteGoes 1 := ⟨by decide +kernel, by decide +kernel, by decide +kernel, by decide +kernel⟩
abbrev M_X11_soonest : MR := (yX11_soonest, cX11_soonest, 3, some .int)
theorem wV_X11_soonest : calW M_X11_soonest := ⟨GW_6 75 rfl rfl, GW_6 76 rfl rfl, GW_1 12 rfl rfl, GW_6 77 rfl rfl⟩
theorem wN_X11_soonest : calN M_X11_soonest 1 := ⟨by decide +kernel, by decide +kernel, by decide +kernel, by decide +kernel⟩
abbrev M_X11_safest : MR := (yX11_safest, cX11_safest, 6, some .int)
theorem wV_X11_safest : calW M_X11_safest := ⟨GW_6 95 rfl rfl, GW_6 96 rfl rfl, GW_1 12 rfl rfl, GW_6 97 rfl rfl⟩
theorem wN_X11_safest : calN M_X11_safest 2 := ⟨by decide +kernel, by decide +kernel, by decide +kernel, by decide +kernel⟩
abbrev M_X11_menFor : MR := (yX11_menFor, cX11_menFor, 6, some .int)
theorem wV_X11_menFor : calW M_X11_menFor := ⟨GW_6 99 rfl rfl, GW_6 100 rfl rfl, GW_1 12 rfl rfl, GW_6 101 rfl rfl⟩
theorem wN_X11_menFor : calN M_X11_menFor 2 := ⟨by decide +kernel, by decide +kernel, by decide +kernel, by decide +kernel⟩
abbrev M_X11_van : MR := (yX11_van, cX11_van, 4, some .int)
theorem wV_X11_van : calW M_X11_van := ⟨GW_6 103 rfl rfl, GW_6 104 rfl rfl, GW_1 12 rfl rfl, GW_6 105 rfl rfl⟩
theorem wN_X11_van : calN M_X11_van 2 := ⟨by decide +kernel, by decide +kernel, by decide +kernel, by decide +kernel⟩
abbrev M_X11_windFrom : MR := (yX11_windFrom, cX11_windFrom, 5, some .int)
theorem wV_X11_windFrom : calW M_X11_windFrom := ⟨GW_6 107 rfl rfl, GW_6 108 rfl rfl, GW_1 12 rfl rfl, GW_6 109 rfl rfl⟩
theorem wN_X11_windFrom : calN M_X11_windFrom 2 := ⟨by decide +kernel, by decide +kernel, by decide +kernel, by decide +kernel⟩
abbrev M_X11_scratchFor : MR := (yX11_scratchFor, cX11_scratchFor, 6, some .int)
theorem wV_X11_scratchFor : calW M_X11_scratchFor := ⟨GW_6 111 rfl rfl, GW_6 112 rfl rfl, GW_1 12 rfl rfl, GW_6 113 rfl rfl⟩
theorem wN_X11_scratchFor : calN M_X11_scratchFor 2 := ⟨by decide +kernel, by decide +kernel, by decide +kernel, by decide +kernel⟩
abbrev M_X11_commonOf : MR := (yX11_commonOf, cX11_commonOf, 10, some .long)
theorem wS_X11_commonOf : calS M_X11_commonOf := ⟨GW_6 130 rfl rfl, GW_1 12 rfl rfl, GW_6 131 rfl rfl⟩
theorem wN_X11_commonOf : calN M_X11_commonOf 2 := ⟨by decide +kernel, by decide +kernel, by decide +kernel, by decide +kernel⟩
abbrev M_X11_partOf : MR := (yX11_partOf, cX11_partOf, 7, some .long)
theorem wS_X11_partOf : calS M_X11_partOf := ⟨GW_6 127 rfl rfl, GW_1 12 rfl rfl, GW_6 128 rfl rfl⟩
theorem wN_X11_partOf : calN M_X11_partOf 3 := ⟨by decide +kernel, by decide +kernel, by decide +kernel, by decide +kernel⟩
abbrev M_X11_lineOf : MR := (yX11_lineOf, cX11_lineOf, 4, some .long)
theorem wV_X11_lineOf : calW M_X11_lineOf := ⟨GW_6 124 rfl rfl, GW_0 55 rfl rfl, GW_1 12 rfl rfl, GW_6 125 rfl rfl⟩
theorem wN_X11_lineOf : calN M_X11_lineOf 0 := ⟨by decide +kernel, by decide +kernel, by decide +kernel, by decide +kernel⟩
abbrev M_X11_freeWays : MR := (yX11_freeWays, cX11_freeWays, 7, some .long)
theorem wV_X11_freeWays : calW M_X11_freeWays := ⟨GW_6 120 rfl rfl, GW_0 54 rfl rfl, GW_1 12 rfl rfl, GW_6 121 rfl rfl⟩
theorem wN_X11_freeWays : calN M_X11_freeWays 2 := ⟨by decide +kernel, by decide +kernel, by decide +kernel, by decide +kernel⟩
abbrev M_X11_free : MR := (yX11_free, cX11_free, 2, some .long)
theorem wV_X11_free : calW M_X11_free := ⟨GW_6 115 rfl rfl, GW_6 116 rfl rfl, GW_1 12 rfl rfl, GW_6 117 rfl rfl⟩
theorem wN_X11_free : calN M_X11_free 1 := ⟨by decide +kernel, by decide +kernel, by decide +kernel, by decide +kernel⟩
abbrev M_X11_watch : MR := (yX11_watch, cX11_watch, 4, some .long)
theorem wV_X11_watch : calW M_X11_watch := ⟨GW_6 133 rfl rfl, GW_6 134 rfl rfl, GW_1 12 rfl rfl, GW_6 135 rfl rfl⟩
theorem wN_X11_watch : calN M_X11_watch 1 := ⟨by decide +kernel, by decide +kernel, by decide +kernel, by decide +kernel⟩
abbrev M_X11_earlier : MR := (yX11_earlier, cX11_earlier, 3, some .long)
theorem wV_X11_earlier : calW M_X11_earlier := ⟨GW_6 137 rfl rfl, GW_6 138 rfl rfl, GW_1 12 rfl rfl, GW_6 139 rfl rfl⟩
theorem wN_X11_earlier : calN M_X11_earlier 2 := ⟨by decide +kernel, by decide +kernel, by decide +kernel, by decide +kernel⟩
abbrev M_X11_cost : MR := (yX11_cost, cX11_cost, 4, some .long)
theorem wV_X11_cost : calW M_X11_cost := ⟨GW_6 141 rfl rfl, GW_6 142 rfl rfl, GW_1 12 rfl rfl, GW_6 143 rfl rfl⟩
theorem wN_X11_cost : calN M_X11_cost 3 := ⟨by decide +kernel, by decide +kernel, by decide +kernel, by decide +kernel⟩
abbrev M_X11_firstFalse : MR := (yX11_firstFalse, cX11_firstFalse, 6, some .int)
theorem wV_X11_firstFalse : calW M_X11_firstFalse := ⟨GW_6 150 rfl rfl, GW_0 56 rfl rfl, GW_1 12 rfl rfl, GW_6 151 rfl rfl⟩
theorem wN_X11_firstFalse : calN M_X11_firstFalse 3 := ⟨by decide +kernel, by decide +kernel, by decide +kernel, by decide +kernel⟩
abbrev M_X11_begun : MR := (yX11_begun, cX11_begun, 6, some .long)
theorem wV_X11_begun : calW M_X11_begun := ⟨GW_6 145 rfl rfl, GW_6 146 rfl rfl, GW_1 12 rfl rfl, GW_6 147 rfl rfl⟩
theorem wN_X11_begun : calN M_X11_begun 2 := ⟨by decide +kernel, by decide +kernel, by decide +kernel, by decide +kernel⟩
abbrev M_X11_judge : MR := (yX11_judge, cX11_judge, 3, some .int)
theorem wV_X11_judge : calW M_X11_judge := ⟨GW_6 153 rfl rfl, GW_6 154 rfl rfl, GW_1 12 rfl rfl, GW_6 155 rfl rfl⟩
theorem wN_X11_judge : calN M_X11_judge 2 := ⟨by decide +kernel, by decide +kernel, by decide +kernel, by decide +kernel⟩
abbrev M_X11_drawn : MR := (yX11_drawn, cX11_drawn, 11, some .int)
theorem wV_X11_drawn : calW M_X11_drawn := ⟨GW_6 157 rfl rfl, GW_6 158 rfl rfl, GW_1 12 rfl rfl, GW_6 159 rfl rfl⟩
theorem wN_X11_drawn : calN M_X11_drawn 3 := ⟨by decide +kernel, by decide +kernel, by decide +kernel, by decide +kernel⟩
abbrev M_X11_minuteIs : MR := (yX11_minuteIs, cX11_minuteIs, 4, some .int)
theorem wV_X11_minuteIs : calW M_X11_minuteIs := ⟨GW_6 167 rfl rfl, GW_0 57 rfl rfl, GW_1 12 rfl rfl, GW_6 168 rfl rfl⟩
theorem wN_X11_minuteIs : calN M_X11_minuteIs 2 := ⟨by decide +kernel, by decide +kernel, by decide +kernel, by decide +kernel⟩
abbrev M_X11_out : MR := (yX11_out, cX11_out, 3, some .int)
theorem wV_X11_out : calW M_X11_out := ⟨GW_6 162 rfl rfl, GW_6 163 rfl rfl, GW_1 12 rfl rfl, GW_6 164 rfl rfl⟩
theorem wN_X11_out : calN M_X11_out 2 := ⟨by decide +kernel, by decide +kernel, by decide +kernel, by decide +kernel⟩
abbrev M_X11_pace : MR := (yX11_pace, cX11_pace, 2, some .int)
theorem wV_X11_pace : calW M_X11_pace := ⟨GW_6 170 rfl rfl, GW_6 171 rfl rfl, GW_1 12 rfl rfl, GW_6 172 rfl rfl⟩
theorem wN_X11_pace : calN M_X11_pace 1 := ⟨by decide +kernel, by decide +kernel, by decide +kernel, by decide +kernel⟩
abbrev M_X11_rest : MR := (yX11_rest, cX11_rest, 2, some .int)
theorem wV_X11_rest : calW M_X11_rest := ⟨GW_6 174 rfl rfl, GW_6 175 rfl rfl, GW_1 12 rfl rfl, GW_6 176 rfl rfl⟩
theorem wN_X11_rest : calN M_X11_rest 1 := ⟨by decide +kernel, by decide +kernel, by decide +kernel, by decide +kernel⟩
abbrev M_X11_led : MR := (yX11_led, cX11_led, 2, some .int)
theorem wV_X11_led : calW M_X11_led := ⟨GW_6 178 rfl rfl, GW_6 179 rfl rfl, GW_1 12 rfl rfl, GW_6 180 rfl rfl⟩
theorem wN_X11_led : calN M_X11_led 1 := ⟨by decide +kernel, by decide +kernel, by decide +kernel, by decide +kernel⟩
abbrev M_X11_image : MR := (yX11_image, cX11_image, 2, some .int)
theorem wV_X11_image : calW M_X11_image := ⟨GW_6 182 rfl rfl, GW_6 183 rfl rfl, GW_1 12 rfl rfl, GW_6 184 rfl rfl⟩
theorem wN_X11_image : calN M_X11_image 0 := ⟨by decide +kernel, by decide +kernel, by decide +kernel, by decide +kernel⟩
abbrev M_X11_back : MR := (yX11_back, cX11_back, 1, some .int)
theorem wV_X11_back : calW M_X11_back := ⟨GW_6 187 rfl rfl, GW_6 188 rfl rfl, GW_1 12 rfl rfl, GW_6 189 rfl rfl⟩
theorem wN_X11_back : calN M_X11_back 0 := ⟨by decide +kernel, by decide +kernel, by decide +kernel, by decide +kernel⟩
abbrev M_X11_isBody : MR := (yX11_isBody, cX11_isBody, 2, some .boolean)
theorem wV_X11_isBody : calW M_X11_isBody := ⟨GW_6 200 rfl rfl, GW_0 58 rfl rfl, GW_1 12 rfl rfl, GW_6 201 rfl rfl⟩
theorem wN_X11_isBody : calN M_X11_isBody 1 := ⟨by decide +kernel, by decide +kernel, by decide +kernel, by decide +kernel⟩
abbrev M_X11_kindOf : MR := (yX11_kindOf, cX11_kindOf, 2, some .int)
theorem wV_X11_kindOf : calW M_X11_kindOf := ⟨GW_7 20 rfl rfl, GW_0 65 rfl rfl, GW_1 12 rfl rfl, GW_7 21 rfl rfl⟩
theorem wN_X11_kindOf : calN M_X11_kindOf 1 := ⟨by decide +kernel, by decide +kernel, by decide +kernel, by decide +kernel⟩
abbrev M_X11_body : MR := (yX11_body, cX11_body, 2, some .int)
theorem wV_X11_body : calW M_X11_body := ⟨GW_6 191 rfl rfl, GW_6 192 rfl rfl, GW_1 12 rfl rfl, GW_6 193 rfl rfl⟩
theorem wN_X11_body : calN M_X11_body 1 := ⟨by decide +kernel, by decide +kernel, by decide +kernel, by decide +kernel⟩
abbrev M_X11_above : MR := (yX11_above, cX11_above, 1, some .int)
theorem wS_X11_above : calS M_X11_above := ⟨GW_7 23 rfl rfl, GW_1 12 rfl rfl, GW_7 24 rfl rfl⟩
theorem wN_X11_above : calN M_X11_above 1 := ⟨by decide +kernel, by decide +kernel, by decide +kernel, by decide +kernel⟩
abbrev M_X11_begins : MR := (yX11_begins, cX11_begins, 2, none)
theorem wV_X11_begins : calW M_X11_begins := ⟨GW_6 208 rfl rfl, GW_0 60 rfl rfl, GW_1 12 rfl rfl, GW_6 209 rfl rfl⟩
theorem wN_X11_begins : calN M_X11_begins 1 := ⟨by decide +kernel, by decide +kernel, by decide +kernel, by decide +kernel⟩
abbrev M_X11_goesAs : MR := (yX11_goesAs, cX11_goesAs, 3, some .int)
theorem wV_X11_goesAs : calW M_X11_goesAs := ⟨GW_6 204 rfl rfl, GW_0 59 rfl rfl, GW_1 12 rfl rfl, GW_6 205 rfl rfl⟩
theorem wN_X11_goesAs : calN M_X11_goesAs 2 := ⟨by decide +kernel, by decide +kernel, by decide +kernel, by decide +kernel⟩
abbrev M_X11_strainsAs : MR := (yX11_strainsAs, cX11_strainsAs, 4, some .int)
theorem wV_X11_strainsAs : calW M_X11_strainsAs := ⟨GW_6 212 rfl rfl, GW_0 61 rfl rfl, GW_1 12 rfl rfl, GW_6 213 rfl rfl⟩
theorem wN_X11_strainsAs : calN M_X11_strainsAs 2 := ⟨by decide +kernel, by decide +kernel, by decide +kernel, by decide +kernel⟩
abbrev M_X11_leansAs : MR := (yX11_leansAs, cX11_leansAs, 4, some .int)
theorem wV_X11_leansAs : calW M_X11_leansAs := ⟨GW_6 216 rfl rfl, GW_0 62 rfl rfl, GW_1 12 rfl rfl, GW_6 217 rfl rfl⟩
theorem wN_X11_leansAs : calN M_X11_leansAs 2 := ⟨by decide +kernel, by decide +kernel, by decide +kernel, by decide +kernel⟩
abbrev M_X11_tellsAs : MR := (yX11_tellsAs, cX11_tellsAs, 4, some .int)
theorem wV_X11_tellsAs : calW M_X11_tellsAs := ⟨GW_6 220 rfl rfl, GW_0 63 rfl rfl, GW_1 12 rfl rfl, GW_6 221 rfl rfl⟩
theorem wN_X11_tellsAs : calN M_X11_tellsAs 2 := ⟨by decide +kernel, by decide +kernel, by decide +kernel, by decide +kernel⟩
abbrev M_X11_act : MR := (yX11_act, cX11_act, 4, some .int)
theorem wV_X11_act : calW M_X11_act := ⟨GW_6 195 rfl rfl, GW_6 196 rfl rfl, GW_1 12 rfl rfl, GW_6 197 rfl rfl⟩
theorem wN_X11_act : calN M_X11_act 3 := ⟨by decide +kernel, by decide +kernel, by decide +kernel, by decide +kernel⟩
abbrev M_X11_trace : MR := (yX11_trace, cX11_trace, 2, some .int)
theorem wV_X11_trace : calW M_X11_trace := ⟨GW_6 223 rfl rfl, GW_6 224 rfl rfl, GW_1 12 rfl rfl, GW_6 225 rfl rfl⟩
theorem wN_X11_trace : calN M_X11_trace 1 := ⟨by decide +kernel, by decide +kernel, by decide +kernel, by decide +kernel⟩
abbrev M_X11_keep : MR := (yX11_keep, cX11_keep, 3, some .int)
theorem wV_X11_keep : calW M_X11_keep := ⟨GW_6 227 rfl rfl, GW_6 228 rfl rfl, GW_1 12 rfl rfl, GW_6 229 rfl rfl⟩
theorem wN_X11_keep : calN M_X11_keep 2 := ⟨by decide +kernel, by decide +kernel, by decide +kernel, by decide +kernel⟩
abbrev M_X11_row : MR := (yX11_row, cX11_row, 5, some .int)
theorem wV_X11_row : calW M_X11_row := ⟨GW_6 231 rfl rfl, GW_6 232 rfl rfl, GW_1 12 rfl rfl, GW_6 233 rfl rfl⟩
theorem wN_X11_row : calN M_X11_row 3 := ⟨by decide +kernel, by decide +kernel, by decide +kernel, by decide +kernel⟩
abbrev M_X11_refusal : MR := (yX11_refusal, cX11_refusal, 3, some .int)
theorem wV_X11_refusal : calW M_X11_refusal := ⟨GW_7 1 rfl rfl, GW_0 64 rfl rfl, GW_1 12 rfl rfl, GW_7 2 rfl rfl⟩
theorem wN_X11_refusal : calN M_X11_refusal 2 := ⟨by decide +kernel, by decide +kernel, by decide +kernel, by decide +kernel⟩
abbrev M_X11_asSort : MR := (yX11_asSort, cX11_asSort, 3, some .long)
theorem wS_X11_asSort : calS M_X11_asSort := ⟨GW_7 4 rfl rfl, GW_1 12 rfl rfl, GW_7 5 rfl rfl⟩
theorem wN_X11_asSort : calN M_X11_asSort 2 := ⟨by decide +kernel, by decide +kernel, by decide +kernel, by decide +kernel⟩
abbrev M_X11_put : MR := (yX11_put, cX11_put, 6, some .int)
theorem wV_X11_put : calW M_X11_put := ⟨GW_6 236 rfl rfl, GW_6 237 rfl rfl, GW_1 12 rfl rfl, GW_6 238 rfl rfl⟩
theorem wN_X11_put : calN M_X11_put 3 := ⟨by decide +kernel, by decide +kernel, by decide +kernel, by decide +kernel⟩
abbrev M_X11_element : MR := (yX11_element, cX11_element, 3, some .long)
theorem wV_X11_element : calW M_X11_element := ⟨GW_7 7 rfl rfl, GW_7 8 rfl rfl, GW_1 12 rfl rfl, GW_7 9 rfl rfl⟩
theorem wN_X11_element : calN M_X11_element 2 := ⟨by decide +kernel, by decide +kernel, by decide +kernel, by decide +kernel⟩
abbrev M_X11_shift : MR := (yX11_shift, cX11_shift, 7, some .int)
theorem wV_X11_shift : calW M_X11_shift := ⟨GW_7 11 rfl rfl, GW_7 12 rfl rfl, GW_1 12 rfl rfl, GW_7 13 rfl rfl⟩
theorem wN_X11_shift : calN M_X11_shift 5 := ⟨by decide +kernel, by decide +kernel, by decide +kernel, by decide +kernel⟩
abbrev M_X11_taken : MR := (yX11_taken, cX11_taken, 4, some .int)
theorem wV_X11_taken : calW M_X11_taken := ⟨GW_7 15 rfl rfl, GW_7 16 rfl rfl, GW_1 12 rfl rfl, GW_7 17 rfl rfl⟩
theorem wN_X11_taken : calN M_X11_taken 2 := ⟨by decide +kernel, by decide +kernel, by decide +kernel, by decide +kernel⟩
abbrev M_X11_count : MR := (yX11_count, cX11_count, 2, some .int)
theorem wV_X11_count : calW M_X11_count := ⟨GW_7 26 rfl rfl, GW_7 27 rfl rfl, GW_1 12 rfl rfl, GW_7 28 rfl rfl⟩
theorem wN_X11_count : calN M_X11_count 1 := ⟨by decide +kernel, by decide +kernel, by decide +kernel, by decide +kernel⟩
abbrev M_X10_shelfAt : MR := (yX10_shelfAt, cX10_shelfAt, 2, some (.object "PaneAcross$Shelf"))
theorem wV_X10_shelfAt : calW M_X10_shelfAt := ⟨GW_2 130 rfl rfl, GW_0 0 rfl rfl, GW_1 1 rfl rfl, GW_2 131 rfl rfl⟩
theorem wN_X10_shelfAt : calN M_X10_shelfAt 1 := ⟨by decide +kernel, by decide +kernel, by decide +kernel, by decide +kernel⟩
theorem lk_X10_78 : Cond.methodLink RX10 78 yX10_isAsSaid ∈ GW := GW_2 106 rfl rfl
theorem lk_X10_82 : Cond.methodLink RX10 82 yX8_add ∈ GW := GW_2 116 rfl rfl
theorem lk_X10_86 : Cond.methodLink RX10 86 yX10_shelfAt ∈ GW := GW_2 128 rfl rfl
theorem lk_X10_90 : Cond.methodLink RX10 90 yX10_isWithin ∈ GW := GW_2 113 rfl rfl
theorem lk_X10_94 : Cond.methodLink RX10 94 yX6_isEmpty ∈ GW := GW_2 132 rfl rfl
theorem lk_X10_98 : Cond.methodLink RX10 98 yX6_holdsBytes ∈ GW := GW_2 136 rfl rfl
theorem lk_X10_101 : Cond.methodLink RX10 101 yX6_left ∈ GW := GW_2 140 rfl rfl
theorem lk_X10_105 : Cond.methodLink RX10 105 yX10_addFrom ∈ GW := GW_2 144 rfl rfl
theorem lk_X10_109 : Cond.methodLink RX10 109 yX6_cell ∈ GW := GW_2 148 rfl rfl
theorem lk_X10_113 : Cond.methodLink RX10 113 yX8_slotOf ∈ GW := GW_2 156 rfl rfl
theorem lk_X10_117 : Cond.methodLink RX10 117 yX8_read ∈ GW := GW_2 165 rfl rfl
theorem lk_X10_120 : Cond.methodLink RX10 120 yX1_note ∈ GW := GW_2 169 rfl rfl
theorem lk_X10_124 : Cond.methodLink RX10 124 yX8_write ∈ GW := GW_2 180 rfl rfl
theorem lk_X10_128 : Cond.methodLink RX10 128 yX8_has ∈ GW := GW_2 189 rfl rfl
theorem lk_X10_132 : Cond.methodLink RX10 132 yX8_windIn ∈ GW := GW_2 190 rfl rfl
theorem lk_X10_135 : Cond.methodLink RX10 135 yX3_take ∈ GW := GW_2 206 rfl rfl
theorem lk_X10_138 : Cond.methodLink RX10 138 yX3_readTape ∈ GW := GW_2 214 rfl rfl
theorem lk_X10_142 : Cond.methodLink RX10 142 yX10_isHold ∈ GW := GW_3 16 rfl rfl
theorem lk_X10_145 : Cond.methodLink RX10 145 yX7_supposeNow ∈ GW := GW_3 19 rfl rfl
theorem lk_X10_148 : Cond.methodLink RX10 148 yX7_inMinute ∈ GW := GW_3 31 rfl rfl
theorem lk_X10_151 : Cond.methodLink RX10 151 yX10_isMinute ∈ GW := GW_3 69 rfl rfl
theorem lk_X10_154 : Cond.methodLink RX10 154 yX10_walkRefused ∈ GW := GW_3 72 rfl rfl
theorem lk_X10_158 : Cond.methodLink RX10 158 yX9_passes ∈ GW := GW_3 76 rfl rfl
theorem lk_X10_162 : Cond.methodLink RX10 162 yX9_follow ∈ GW := GW_3 87 rfl rfl
theorem lk_X10_173 : Cond.methodLink RX10 173 yX9_bestStart ∈ GW := GW_3 100 rfl rfl
theorem lk_X10_185 : Cond.methodLink RX10 185 yX9_lookAhead ∈ GW := GW_3 112 rfl rfl
theorem lk_X10_189 : Cond.methodLink RX10 189 yX9_bestHold ∈ GW := GW_3 133 rfl rfl
theorem lk_X10_193 : Cond.methodLink RX10 193 yX9_leastAhead ∈ GW := GW_3 138 rfl rfl
theorem lk_X10_196 : Cond.methodLink RX10 196 yX7_isTooMuch ∈ GW := GW_3 139 rfl rfl
theorem lk_X10_199 : Cond.methodLink RX10 199 yX9_fewestMinutes ∈ GW := GW_3 144 rfl rfl
theorem lk_X10_202 : Cond.methodLink RX10 202 yX9_leastWithin ∈ GW := GW_3 168 rfl rfl
theorem lk_X10_205 : Cond.methodLink RX10 205 yX9_fewestMen ∈ GW := GW_3 176 rfl rfl
theorem lk_X10_209 : Cond.methodLink RX10 209 yX9_nearestVan ∈ GW := GW_3 185 rfl rfl
theorem lk_X10_212 : Cond.methodLink RX10 212 yX9_leastMoreGust ∈ GW := GW_3 193 rfl rfl
theorem lk_X10_215 : Cond.methodLink RX10 215 yX9_greatestScratch ∈ GW := GW_3 201 rfl rfl
theorem lk_X10_218 : Cond.methodLink RX10 218 yX0_freeWays ∈ GW := GW_3 209 rfl rfl
theorem lk_X10_222 : Cond.methodLink RX10 222 yX0_allWays ∈ GW := GW_3 216 rfl rfl
theorem lk_X10_225 : Cond.methodLink RX10 225 yX0_partOf ∈ GW := GW_3 220 rfl rfl
theorem lk_X10_229 : Cond.methodLink RX10 229 yX0_bestWatched ∈ GW := GW_3 227 rfl rfl
theorem lk_X10_232 : Cond.methodLink RX10 232 yX10_longRefusal ∈ GW := GW_4 0 rfl rfl
theorem lk_X10_235 : Cond.methodLink RX10 235 yX8_number ∈ GW := GW_4 3 rfl rfl
theorem lk_X10_238 : Cond.methodLink RX10 238 yX9_minutesLike ∈ GW := GW_4 8 rfl rfl
theorem lk_X10_242 : Cond.methodLink RX10 242 yX9_firstUnlike ∈ GW := GW_4 21 rfl rfl
theorem lk_X10_246 : Cond.methodLink RX10 246 yX9_draw ∈ GW := GW_4 26 rfl rfl
theorem lk_X10_255 : Cond.methodLink RX10 255 yX2_setOut ∈ GW := GW_4 39 rfl rfl
theorem lk_X10_258 : Cond.methodLink RX10 258 yX2_goOn ∈ GW := GW_4 66 rfl rfl
theorem lk_X10_261 : Cond.methodLink RX10 261 yX2_stay ∈ GW := GW_4 74 rfl rfl
theorem lk_X10_268 : Cond.methodLink RX10 268 yX4_told ∈ GW := GW_4 82 rfl rfl
theorem lk_X10_276 : Cond.methodLink RX10 276 yX4_becomeLike ∈ GW := GW_4 90 rfl rfl
theorem lk_X10_290 : Cond.methodLink RX10 290 yX1_stepBack ∈ GW := GW_4 102 rfl rfl
theorem lk_X10_296 : Cond.methodLink RX10 296 yX1_stepOn ∈ GW := GW_4 111 rfl rfl
theorem lk_X10_299 : Cond.methodLink RX10 299 yX5_add ∈ GW := GW_4 119 rfl rfl
theorem lk_X10_301 : Cond.methodLink RX10 301 yX5_perform ∈ GW := GW_4 127 rfl rfl
theorem lk_X10_304 : Cond.methodLink RX10 304 yX5_ranAs ∈ GW := GW_4 161 rfl rfl
theorem lk_X10_307 : Cond.methodLink RX10 307 yX5_has ∈ GW := GW_4 169 rfl rfl
theorem lk_X10_308 : Cond.methodLink RX10 308 yX6_holdBody ∈ GW := GW_4 170 rfl rfl
theorem lk_X10_311 : Cond.methodLink RX10 311 yX6_holdRow ∈ GW := GW_4 178 rfl rfl
theorem lk_X10_314 : Cond.methodLink RX10 314 yX10_elementRefused ∈ GW := GW_4 189 rfl rfl
theorem lk_X10_317 : Cond.methodLink RX10 317 yX6_write ∈ GW := GW_4 196 rfl rfl
theorem lk_X10_320 : Cond.methodLink RX10 320 yX6_holdsRow ∈ GW := GW_4 192 rfl rfl
theorem lk_X10_330 : Cond.methodLink RX10 330 arraycopyName ∈ GW := GW_4 212 rfl rfl
theorem lk_X10_339 : Cond.methodLink RX10 339 yX5_kindOf ∈ GW := GW_4 217 rfl rfl
theorem lk_X10_342 : Cond.methodLink RX10 342 yX5_isUnder ∈ GW := GW_4 218 rfl rfl
theorem lk_X0_23 : Cond.methodLink RX0 23 yX8_number ∈ GW := GW_3 213 rfl rfl
theorem lk_X0_32 : Cond.methodLink RX0 32 yX0_freeWays ∈ GW := GW_3 231 rfl rfl
theorem lk_X1_23 : Cond.methodLink RX1 23 yX1_dropOldest ∈ GW := GW_2 173 rfl rfl
theorem lk_X1_29 : Cond.methodLink RX1 29 arraycopyName ∈ GW := GW_2 177 rfl rfl
theorem lk_X1_35 : Cond.methodLink RX1 35 yX8_write ∈ GW := GW_4 106 rfl rfl
theorem lk_X2_39 : Cond.methodLink RX2 39 yX8_number ∈ GW := GW_4 43 rfl rfl
theorem lk_X2_55 : Cond.methodLink RX2 55 yX2_bear ∈ GW := GW_4 44 rfl rfl
theorem lk_X2_65 : Cond.methodLink RX2 65 yX7_supposeNow ∈ GW := GW_4 48 rfl rfl
theorem lk_X2_70 : Cond.methodLink RX2 70 yX7_inMinute ∈ GW := GW_4 49 rfl rfl
theorem lk_X2_74 : Cond.methodLink RX2 74 yX8_windIn ∈ GW := GW_4 50 rfl rfl
theorem lk_X2_84 : Cond.methodLink RX2 84 yX7_isTooMuch ∈ GW := GW_4 52 rfl rfl
theorem lk_X2_91 : Cond.methodLink RX2 91 yX2_arrive ∈ GW := GW_4 53 rfl rfl
theorem lk_X2_94 : Cond.methodLink RX2 94 yX7_left ∈ GW := GW_4 57 rfl rfl
theorem lk_X3_46 : Cond.methodLink RX3 46 yX3_readLine ∈ GW := GW_2 218 rfl rfl
theorem lk_X3_49 : Cond.methodLink RX3 49 yX3_next ∈ GW := GW_2 230 rfl rfl
theorem lk_X3_53 : Cond.methodLink RX3 53 arraycopyName ∈ GW := GW_3 11 rfl rfl
theorem lk_X3_59 : Cond.methodLink RX3 59 yX3_readBinary ∈ GW := GW_2 222 rfl rfl
theorem lk_X3_63 : Cond.methodLink RX3 63 yX3_addStep ∈ GW := GW_3 1 rfl rfl
theorem lk_X3_66 : Cond.methodLink RX3 66 yX3_readOperand ∈ GW := GW_2 226 rfl rfl
theorem lk_X3_70 : Cond.methodLink RX3 70 yX3_levelOf ∈ GW := GW_3 8 rfl rfl
theorem lk_X3_74 : Cond.methodLink RX3 74 yX3_isDigit ∈ GW := GW_2 234 rfl rfl
theorem lk_X3_78 : Cond.methodLink RX3 78 yX3_readNumber ∈ GW := GW_2 237 rfl rfl
theorem lk_X3_81 : Cond.methodLink RX3 81 yX3_nameOf ∈ GW := GW_3 5 rfl rfl
theorem lk_X3_87 : Cond.methodLink RX3 87 yX3_push ∈ GW := GW_3 48 rfl rfl
theorem lk_X3_90 : Cond.methodLink RX3 90 yX3_pop ∈ GW := GW_3 52 rfl rfl
theorem lk_X3_93 : Cond.methodLink RX3 93 yX3_both ∈ GW := GW_3 56 rfl rfl
theorem lk_X5_22 : Cond.methodLink RX5 22 yX5_has ∈ GW := GW_4 131 rfl rfl
theorem lk_X5_26 : Cond.methodLink RX5 26 yX5_above ∈ GW := GW_4 148 rfl rfl
theorem lk_X5_42 : Cond.methodLink RX5 42 yX5_kindOf ∈ GW := GW_4 135 rfl rfl
theorem lk_X5_48 : Cond.methodLink RX5 48 yX5_run ∈ GW := GW_4 139 rfl rfl
theorem lk_X5_52 : Cond.methodLink RX5 52 yX5_own ∈ GW := GW_4 143 rfl rfl
theorem lk_X5_56 : Cond.methodLink RX5 56 yX5_runBody ∈ GW := GW_4 153 rfl rfl
theorem lk_X6_25 : Cond.methodLink RX6 25 yJ7_fill_d0a16 ∈ GW := GW_4 182 rfl rfl
theorem lk_X6_31 : Cond.methodLink RX6 31 yX6_fitted ∈ GW := GW_4 200 rfl rfl
theorem lk_X6_35 : Cond.methodLink RX6 35 yX6_cell ∈ GW := GW_3 84 rfl rfl
theorem lk_X6_39 : ∀ U, aNw U → va_Nw (.methodLinkNest RX6 39 yX10_isHold "PaneAcross") U := fun _ h => h.2
theorem lk_X7_36 : Cond.methodLink RX7 36 yX8_number ∈ GW := GW_3 23 rfl rfl
theorem lk_X7_45 : Cond.methodLink RX7 45 yJ7_fill_53178 ∈ GW := GW_3 28 rfl rfl
theorem lk_X7_51 : Cond.methodLink RX7 51 yX7_suppose ∈ GW := GW_3 24 rfl rfl
theorem lk_X7_55 : Cond.methodLink RX7 55 yX8_isGusty ∈ GW := GW_3 35 rfl rfl
theorem lk_X7_59 : Cond.methodLink RX7 59 yX7_workedOut ∈ GW := GW_3 36 rfl rfl
theorem lk_X7_63 : Cond.methodLink RX7 63 yX3_isTold ∈ GW := GW_3 40 rfl rfl
theorem lk_X7_69 : Cond.methodLink RX7 69 yX3_worth ∈ GW := GW_3 44 rfl rfl
theorem lk_X8_19 : Cond.methodLink RX8 19 yX8_write ∈ GW := GW_2 120 rfl rfl
theorem lk_X8_23 : ∀ U, aNw U → va_Nw (.methodLinkNest RX8 23 yX10_isWithin "PaneAcross") U := fun _ h => h.1
theorem lk_X8_27 : Cond.methodLink RX8 27 yX8_has ∈ GW := GW_2 161 rfl rfl
theorem lk_X8_31 : Cond.methodLink RX8 31 yX8_number ∈ GW := GW_2 198 rfl rfl
theorem lk_X8_35 : Cond.methodLink RX8 35 yX8_isGusty ∈ GW := GW_2 194 rfl rfl
theorem lk_X9_32 : Cond.methodLink RX9 32 yX6_heldAt ∈ GW := GW_3 80 rfl rfl
theorem lk_X9_38 : Cond.methodLink RX9 38 yX8_number ∈ GW := GW_3 86 rfl rfl
theorem lk_X9_45 : Cond.methodLink RX9 45 yX7_inMinute ∈ GW := GW_3 91 rfl rfl
theorem lk_X9_51 : Cond.methodLink RX9 51 yX7_isTooMuch ∈ GW := GW_3 92 rfl rfl
theorem lk_X9_58 : Cond.methodLink RX9 58 yX7_supposeNow ∈ GW := GW_3 104 rfl rfl
theorem lk_X9_61 : Cond.methodLink RX9 61 yX9_follow ∈ GW := GW_3 105 rfl rfl
theorem lk_X9_65 : Cond.methodLink RX9 65 yX7_suppose ∈ GW := GW_3 180 rfl rfl
theorem lk_X9_74 : Cond.methodLink RX9 74 yX9_leastAhead ∈ GW := GW_3 116 rfl rfl
theorem lk_X9_78 : Cond.methodLink RX9 78 yX9_setAhead ∈ GW := GW_3 129 rfl rfl
theorem lk_X9_81 : Cond.methodLink RX9 81 yX9_bestAhead ∈ GW := GW_3 120 rfl rfl
theorem lk_X9_84 : Cond.methodLink RX9 84 yX9_turnedAhead ∈ GW := GW_3 124 rfl rfl
theorem lk_X9_89 : Cond.methodLink RX9 89 yX9_reachBy ∈ GW := GW_3 148 rfl rfl
theorem lk_X9_93 : Cond.methodLink RX9 93 yX9_reachedShop ∈ GW := GW_3 160 rfl rfl
theorem lk_X9_97 : Cond.methodLink RX9 97 yJ7_fill_53178 ∈ GW := GW_3 152 rfl rfl
theorem lk_X9_103 : Cond.methodLink RX9 103 yX9_borne ∈ GW := GW_3 153 rfl rfl
theorem lk_X9_106 : Cond.methodLink RX9 106 yX8_windIn ∈ GW := GW_3 159 rfl rfl
theorem lk_X9_112 : Cond.methodLink RX9 112 yX9_firstUnlike ∈ GW := GW_4 12 rfl rfl
theorem lk_X9_119 : Cond.methodLink RX9 119 yX6_cell ∈ GW := GW_4 16 rfl rfl
theorem lk_X9_132 : Cond.methodLink RX9 132 yX9_drawOne ∈ GW := GW_4 30 rfl rfl
theorem lk_X11_84 : Cond.methodLink RX11 84 yX11_within ∈ GW := GW_5 141 rfl rfl
theorem lk_X11_98 : Cond.methodLink RX11 98 yX11_isOne ∈ GW := GW_5 137 rfl rfl
theorem lk_X11_101 : Cond.methodLink RX11 101 yX11_adds ∈ GW := GW_5 146 rfl rfl
theorem lk_X11_105 : Cond.methodLink RX11 105 yX11_isShelf ∈ GW := GW_5 154 rfl rfl
theorem lk_X11_111 : Cond.methodLink RX11 111 yX11_isPlace ∈ GW := GW_5 167 rfl rfl
theorem lk_X11_120 : Cond.methodLink RX11 120 yX11_isHeld ∈ GW := GW_5 177 rfl rfl
theorem lk_X11_126 : Cond.methodLink RX11 126 yX11_placeOf ∈ GW := GW_5 162 rfl rfl
theorem lk_X11_130 : Cond.methodLink RX11 130 yX11_mayBecome ∈ GW := GW_5 173 rfl rfl
theorem lk_X11_134 : Cond.methodLink RX11 134 yX11_becomes ∈ GW := GW_5 183 rfl rfl
theorem lk_X11_142 : Cond.methodLink RX11 142 yX11_windAt ∈ GW := GW_5 196 rfl rfl
theorem lk_X11_162 : Cond.methodLink RX11 162 yX11_byteAt ∈ GW := GW_5 237 rfl rfl
theorem lk_X11_166 : Cond.methodLink RX11 166 yX11_both ∈ GW := GW_5 217 rfl rfl
theorem lk_X11_169 : Cond.methodLink RX11 169 yX11_takes ∈ GW := GW_6 5 rfl rfl
theorem lk_X11_172 : Cond.methodLink RX11 172 yX11_compared ∈ GW := GW_5 221 rfl rfl
theorem lk_X11_175 : Cond.methodLink RX11 175 yX11_sums ∈ GW := GW_5 225 rfl rfl
theorem lk_X11_178 : Cond.methodLink RX11 178 yX11_product ∈ GW := GW_5 229 rfl rfl
theorem lk_X11_181 : Cond.methodLink RX11 181 yX11_one ∈ GW := GW_5 233 rfl rfl
theorem lk_X11_187 : Cond.methodLink RX11 187 yX11_wrong ∈ GW := GW_6 1 rfl rfl
theorem lk_X11_190 : Cond.methodLink RX11 190 yX11_either ∈ GW := GW_5 213 rfl rfl
theorem lk_X11_193 : Cond.methodLink RX11 193 yX11_nameOf ∈ GW := GW_6 9 rfl rfl
theorem lk_X11_197 : Cond.methodLink RX11 197 yX11_workOut ∈ GW := GW_5 209 rfl rfl
theorem lk_X11_200 : Cond.methodLink RX11 200 yX11_strainAt ∈ GW := GW_6 16 rfl rfl
theorem lk_X11_204 : Cond.methodLink RX11 204 yX11_bytesIs ∈ GW := GW_6 24 rfl rfl
theorem lk_X11_213 : Cond.methodLink RX11 213 yX11_heldBy ∈ GW := GW_6 40 rfl rfl
theorem lk_X11_216 : Cond.methodLink RX11 216 yX11_bears ∈ GW := GW_6 44 rfl rfl
theorem lk_X11_219 : Cond.methodLink RX11 219 yX11_isMinute ∈ GW := GW_6 28 rfl rfl
theorem lk_X11_224 : Cond.methodLink RX11 224 yX11_walkIs ∈ GW := GW_6 32 rfl rfl
theorem lk_X11_227 : Cond.methodLink RX11 227 yX11_walks ∈ GW := GW_6 36 rfl rfl
theorem lk_X11_230 : Cond.methodLink RX11 230 yX11_passes ∈ GW := GW_6 48 rfl rfl
theorem lk_X11_233 : Cond.methodLink RX11 233 yX11_turned ∈ GW := GW_6 70 rfl rfl
theorem lk_X11_236 : Cond.methodLink RX11 236 yX11_bestHeld ∈ GW := GW_6 66 rfl rfl
theorem lk_X11_243 : Cond.methodLink RX11 243 yX11_fillsLeast ∈ GW := GW_6 62 rfl rfl
theorem lk_X11_247 : Cond.methodLink RX11 247 yX11_restedAt ∈ GW := GW_6 86 rfl rfl
theorem lk_X11_250 : Cond.methodLink RX11 250 yX11_pacedTo ∈ GW := GW_6 90 rfl rfl
theorem lk_X11_253 : Cond.methodLink RX11 253 yX11_begins1 ∈ GW := GW_6 78 rfl rfl
theorem lk_X11_256 : Cond.methodLink RX11 256 yX11_minuteGoes ∈ GW := GW_6 82 rfl rfl
theorem lk_X11_259 : Cond.methodLink RX11 259 yX11_commonOf ∈ GW := GW_6 129 rfl rfl
theorem lk_X11_263 : Cond.methodLink RX11 263 yX11_freeWays ∈ GW := GW_6 118 rfl rfl
theorem lk_X11_267 : Cond.methodLink RX11 267 yX11_lineOf ∈ GW := GW_6 122 rfl rfl
theorem lk_X11_271 : Cond.methodLink RX11 271 yX11_partOf ∈ GW := GW_6 126 rfl rfl
theorem lk_X11_275 : Cond.methodLink RX11 275 yX11_firstFalse ∈ GW := GW_6 148 rfl rfl
theorem lk_X11_294 : Cond.methodLink RX11 294 yX11_minuteIs ∈ GW := GW_6 165 rfl rfl
theorem lk_X11_308 : Cond.methodLink RX11 308 yX11_led ∈ GW := GW_6 185 rfl rfl
theorem lk_X11_317 : Cond.methodLink RX11 317 yX11_begins ∈ GW := GW_6 206 rfl rfl
theorem lk_X11_320 : Cond.methodLink RX11 320 yX11_goesAs ∈ GW := GW_6 202 rfl rfl
theorem lk_X11_326 : Cond.methodLink RX11 326 yX11_strainsAs ∈ GW := GW_6 210 rfl rfl
theorem lk_X11_332 : Cond.methodLink RX11 332 yX11_leansAs ∈ GW := GW_6 214 rfl rfl
theorem lk_X11_335 : Cond.methodLink RX11 335 yX11_tellsAs ∈ GW := GW_6 218 rfl rfl
theorem lk_X11_338 : Cond.methodLink RX11 338 yX11_isBody ∈ GW := GW_6 198 rfl rfl
theorem lk_X11_345 : Cond.methodLink RX11 345 yX11_refusal ∈ GW := GW_6 239 rfl rfl
theorem lk_X11_348 : Cond.methodLink RX11 348 yX11_asSort ∈ GW := GW_7 3 rfl rfl
theorem lk_X11_352 : Cond.methodLink RX11 352 yX11_kindOf ∈ GW := GW_7 18 rfl rfl
theorem lk_X11_355 : Cond.methodLink RX11 355 yX11_above ∈ GW := GW_7 22 rfl rfl
end
section
def m_X10_isWithin (x1 : Int32) (x2 : Int32) (x3 : Int32) : Int32 :=
  if x1 < x2 then
    (0 : Int32)
  else
  if x3 < x1 then
    (0 : Int32)
  else
  (1 : Int32)
set_option maxRecDepth 100000 in
set_option maxHeartbeats 4000000 in
theorem c_X10_isWithin (x1 : Int32) (x2 : Int32) (x3 : Int32) (σ : SS) {r : Int32} (hm : m_X10_isWithin x1 x2 x3 = r) : XM LC 1 M_X10_isWithin [aI x1, aI x2, aI x3] σ (some (aI r)) σ := by
  refine XM.of (K := K10) (by decide) (by decide +kernel) K10_ok (Nat.le_of_ble_eq_true rfl) (fun Γ B q => ?_)
  unfold m_X10_isWithin at hm
  refine XW.bb B [(0, .iload_n 0), (1, .iload_n 1)] (by decide +kernel) (pc1 := 2) (ls1 := [some (aI x1), some (aI x2), some (aI x3)]) (st1 := [aI x2, aI x1]) (σ1 := σ) (P := []) (i := .if_icmp .lt 12) (tgt := 14) (q := x1 < x2) rfl trivial (by decide +kernel) rfl (by decide) (fun h1 => ?_) (fun h1 => ?_)
  · rw [if_pos h1] at hm
    refine XW.bk B [(14, .iconst 0)] (by decide +kernel) (pc1 := 15) (ls1 := [some (aI x1), some (aI x2), some (aI x3)]) (st1 := [aI (0 : Int32)]) (σ1 := σ) (P := []) rfl trivial ?_
    cases hm
    exact XW.zret B q (Or.inl rfl) (by decide +kernel)
  · rw [if_neg h1] at hm
    refine XW.bb B [(5, .iload_n 0), (6, .iload_n 2)] (by decide +kernel) (pc1 := 7) (ls1 := [some (aI x1), some (aI x2), some (aI x3)]) (st1 := [aI x3, aI x1]) (σ1 := σ) (P := []) (i := .if_icmp .gt 7) (tgt := 14) (q := x3 < x1) rfl trivial (by decide +kernel) rfl (by decide) (fun h2 => ?_) (fun h2 => ?_)
    · rw [if_pos h2] at hm
      refine XW.bk B [(14, .iconst 0)] (by decide +kernel) (pc1 := 15) (ls1 := [some (aI x1), some (aI x2), some (aI x3)]) (st1 := [aI (0 : Int32)]) (σ1 := σ) (P := []) rfl trivial ?_
      cases hm
      exact XW.zret B q (Or.inl rfl) (by decide +kernel)
    · rw [if_neg h2] at hm
      refine XW.bk B [(10, .iconst 1), (11, .goto 4)] (by decide +kernel) (pc1 := 15) (ls1 := [some (aI x1), some (aI x2), some (aI x3)]) (st1 := [aI (1 : Int32)]) (σ1 := σ) (P := []) rfl trivial ?_
      cases hm
      exact XW.zret B q (Or.inr rfl) (by decide +kernel)
theorem b_X10_isWithin (x1 : Int32) (x2 : Int32) (x3 : Int32) : m_X10_isWithin x1 x2 x3 = 0 ∨ m_X10_isWithin x1 x2 x3 = 1 := by
  unfold m_X10_isWithin
  (repeat' split) <;> first | exact Or.inl rfl | exact Or.inr rfl

def m_X10_isHold (x1 : Int32) : Int32 :=
  (m_X10_isWithin x1 (0 : Int32) (3 : Int32))
set_option maxRecDepth 100000 in
set_option maxHeartbeats 4000000 in
theorem c_X10_isHold (x1 : Int32) (σ : SS) {r : Int32} (hm : m_X10_isHold x1 = r) : XM LC 2 M_X10_isHold [aI x1] σ (some (aI r)) σ := by
  refine XM.of (K := K10) (by decide) (by decide +kernel) K10_ok (Nat.le_of_ble_eq_true rfl) (fun Γ B q => ?_)
  unfold m_X10_isHold at hm
  refine XW.bk B [(0, .iload_n 0), (1, .iconst 0), (2, .iconst 3)] (by decide +kernel) (pc1 := 3) (ls1 := [some (aI x1)]) (st1 := [aI (3 : Int32), aI (0 : Int32), aI x1]) (σ1 := σ) (P := []) rfl trivial ?_
  refine XW.callS B (M := M_X10_isWithin) (as := [aI x1, aI (0 : Int32), aI (3 : Int32)]) (c_X10_isWithin x1 (0 : Int32) (3 : Int32) σ rfl) (by decide) wS_X10_isWithin wN_X10_isWithin lk_X10_90 rfl (Nat.le_of_ble_eq_true rfl) (by decide +kernel) ?_
  cases hm
  exact XW.zret B q (b_X10_isWithin x1 (0 : Int32) (3 : Int32)) (by decide +kernel)
theorem b_X10_isHold (x1 : Int32) : m_X10_isHold x1 = 0 ∨ m_X10_isHold x1 = 1 := by
  unfold m_X10_isHold
  (repeat' split) <;> first | exact Or.inl rfl | exact Or.inr rfl | exact (b_X10_isWithin x1 (0 : Int32) (3 : Int32))
end
section
def m_X8_number (x1 : Int32) (x2 : Int32) (σ : SS) : Int32 :=
  if (7 : Int32) ≤ x2 then
    if (((84 : Int32) + x2) - (7 : Int32)) < (0 : Int32) then
      (0 : Int32)
    else
    if (88 : Int32) ≤ (((84 : Int32) + x2) - (7 : Int32)) then
      (0 : Int32)
    else
    (σ.2.1 2 0 (((84 : Int32) + x2) - (7 : Int32)).toNatClampNeg)
  else
  if ((x1 * (7 : Int32)) + x2) < (0 : Int32) then
    (0 : Int32)
  else
  if (88 : Int32) ≤ ((x1 * (7 : Int32)) + x2) then
    (0 : Int32)
  else
  (σ.2.1 2 0 ((x1 * (7 : Int32)) + x2).toNatClampNeg)
set_option maxRecDepth 100000 in
set_option maxHeartbeats 4000000 in
theorem c_X8_number (x1 : Int32) (x2 : Int32) (σ : SS) {r : Int32} (hm : m_X8_number x1 x2 σ = r) : XM LC 1 M_X8_number [aR 1 0, aI x1, aI x2] σ (some (aI r)) σ := by
  refine XM.of (K := K8) (by decide) (by decide +kernel) K8_ok (Nat.le_of_ble_eq_true rfl) (fun Γ B q => ?_)
  unfold m_X8_number at hm
  refine XW.bb B [(0, .iload_n 2), (1, .bipush 7)] (by decide +kernel) (pc1 := 3) (ls1 := [some (aR 1 0), some (aI x1), some (aI x2), none]) (st1 := [aI (7 : Int32), aI x2]) (σ1 := σ) (P := []) (i := .if_icmp .ge 12) (tgt := 15) (q := (7 : Int32) ≤ x2) rfl trivial (by decide +kernel) rfl (by decide) (fun h1 => ?_) (fun h1 => ?_)
  · rw [if_pos h1] at hm
    refine XW.bb B [(15, .bipush 84), (17, .iload_n 2), (18, .iadd), (19, .bipush 7), (21, .isub), (22, .istore_n 3), (23, .iload_n 3)] (by decide +kernel) (pc1 := 24) (ls1 := [some (aR 1 0), some (aI x1), some (aI x2), some (aI (((84 : Int32) + x2) - (7 : Int32)))]) (st1 := [aI (((84 : Int32) + x2) - (7 : Int32))]) (σ1 := σ) (P := []) (i := .ifCond .lt 21) (tgt := 45) (q := (((84 : Int32) + x2) - (7 : Int32)) < (0 : Int32)) rfl trivial (by decide +kernel) rfl (by decide) (fun h2 => ?_) (fun h2 => ?_)
    · rw [if_pos h2] at hm
      refine XW.bk B [(45, .iconst 0)] (by decide +kernel) (pc1 := 46) (ls1 := [some (aR 1 0), some (aI x1), some (aI x2), some (aI (((84 : Int32) + x2) - (7 : Int32)))]) (st1 := [aI (0 : Int32)]) (σ1 := σ) (P := []) rfl trivial ?_
      cases hm
      exact XW.iret B q (by decide +kernel)
    · rw [if_neg h2] at hm
      refine XW.bb B [(27, .iload_n 3), (28, .aload_n 0), (29, .getfield 11), (32, .arraylength)] (by decide +kernel) (pc1 := 33) (ls1 := [some (aR 1 0), some (aI x1), some (aI x2), some (aI (((84 : Int32) + x2) - (7 : Int32)))]) (st1 := [aI (88 : Int32), aI (((84 : Int32) + x2) - (7 : Int32))]) (σ1 := σ) (P := []) (i := .if_icmp .ge 12) (tgt := 45) (q := (88 : Int32) ≤ (((84 : Int32) + x2) - (7 : Int32))) rfl trivial (by decide +kernel) rfl (by decide) (fun h3 => ?_) (fun h3 => ?_)
      · rw [if_pos h3] at hm
        refine XW.bk B [(45, .iconst 0)] (by decide +kernel) (pc1 := 46) (ls1 := [some (aR 1 0), some (aI x1), some (aI x2), some (aI (((84 : Int32) + x2) - (7 : Int32)))]) (st1 := [aI (0 : Int32)]) (σ1 := σ) (P := []) rfl trivial ?_
        cases hm
        exact XW.iret B q (by decide +kernel)
      · rw [if_neg h3] at hm
        refine XW.bk B [(36, .aload_n 0), (37, .getfield 11), (40, .iload_n 3), (41, .iaload), (42, .goto 4)] (by decide +kernel) (pc1 := 46) (ls1 := [some (aR 1 0), some (aI x1), some (aI x2), some (aI (((84 : Int32) + x2) - (7 : Int32)))]) (st1 := [aI (σ.2.1 2 0 (((84 : Int32) + x2) - (7 : Int32)).toNatClampNeg)]) (σ1 := σ) (P := [vp_in (((84 : Int32) + x2) - (7 : Int32)) 88]) rfl ⟨(vin_a h2 h3 (by decide +kernel)), trivial⟩ ?_
        cases hm
        exact XW.iret B q (by decide +kernel)
  · rw [if_neg h1] at hm
    refine XW.bb B [(6, .iload_n 1), (7, .bipush 7), (9, .imul), (10, .iload_n 2), (11, .iadd), (12, .goto 10), (22, .istore_n 3), (23, .iload_n 3)] (by decide +kernel) (pc1 := 24) (ls1 := [some (aR 1 0), some (aI x1), some (aI x2), some (aI ((x1 * (7 : Int32)) + x2))]) (st1 := [aI ((x1 * (7 : Int32)) + x2)]) (σ1 := σ) (P := []) (i := .ifCond .lt 21) (tgt := 45) (q := ((x1 * (7 : Int32)) + x2) < (0 : Int32)) rfl trivial (by decide +kernel) rfl (by decide) (fun h4 => ?_) (fun h4 => ?_)
    · rw [if_pos h4] at hm
      refine XW.bk B [(45, .iconst 0)] (by decide +kernel) (pc1 := 46) (ls1 := [some (aR 1 0), some (aI x1), some (aI x2), some (aI ((x1 * (7 : Int32)) + x2))]) (st1 := [aI (0 : Int32)]) (σ1 := σ) (P := []) rfl trivial ?_
      cases hm
      exact XW.iret B q (by decide +kernel)
    · rw [if_neg h4] at hm
      refine XW.bb B [(27, .iload_n 3), (28, .aload_n 0), (29, .getfield 11), (32, .arraylength)] (by decide +kernel) (pc1 := 33) (ls1 := [some (aR 1 0), some (aI x1), some (aI x2), some (aI ((x1 * (7 : Int32)) + x2))]) (st1 := [aI (88 : Int32), aI ((x1 * (7 : Int32)) + x2)]) (σ1 := σ) (P := []) (i := .if_icmp .ge 12) (tgt := 45) (q := (88 : Int32) ≤ ((x1 * (7 : Int32)) + x2)) rfl trivial (by decide +kernel) rfl (by decide) (fun h5 => ?_) (fun h5 => ?_)
      · rw [if_pos h5] at hm
        refine XW.bk B [(45, .iconst 0)] (by decide +kernel) (pc1 := 46) (ls1 := [some (aR 1 0), some (aI x1), some (aI x2), some (aI ((x1 * (7 : Int32)) + x2))]) (st1 := [aI (0 : Int32)]) (σ1 := σ) (P := []) rfl trivial ?_
        cases hm
        exact XW.iret B q (by decide +kernel)
      · rw [if_neg h5] at hm
        refine XW.bk B [(36, .aload_n 0), (37, .getfield 11), (40, .iload_n 3), (41, .iaload), (42, .goto 4)] (by decide +kernel) (pc1 := 46) (ls1 := [some (aR 1 0), some (aI x1), some (aI x2), some (aI ((x1 * (7 : Int32)) + x2))]) (st1 := [aI (σ.2.1 2 0 ((x1 * (7 : Int32)) + x2).toNatClampNeg)]) (σ1 := σ) (P := [vp_in ((x1 * (7 : Int32)) + x2) 88]) rfl ⟨(vin_a h4 h5 (by decide +kernel)), trivial⟩ ?_
        cases hm
        exact XW.iret B q (by decide +kernel)

def m_X8_write (x1 : Int32) (x2 : Int32) (σ : SS) : SS :=
  if x1 < (0 : Int32) then
    σ
  else
  if (88 : Int32) ≤ x1 then
    σ
  else
  (sA σ 2 0 x1.toNatClampNeg x2)
set_option maxRecDepth 100000 in
set_option maxHeartbeats 4000000 in
theorem c_X8_write (x1 : Int32) (x2 : Int32) (σ : SS) {σ' : SS} (hm : m_X8_write x1 x2 σ = σ') : XM LC 1 M_X8_write [aR 1 0, aI x1, aI x2] σ none σ' := by
  refine XM.of (K := K8) (by decide) (by decide +kernel) K8_ok (Nat.le_of_ble_eq_true rfl) (fun Γ B q => ?_)
  unfold m_X8_write at hm
  refine XW.bb B [(0, .iload_n 1)] (by decide +kernel) (pc1 := 1) (ls1 := [some (aR 1 0), some (aI x1), some (aI x2)]) (st1 := [aI x1]) (σ1 := σ) (P := []) (i := .ifCond .lt 19) (tgt := 20) (q := x1 < (0 : Int32)) rfl trivial (by decide +kernel) rfl (by decide) (fun h1 => ?_) (fun h1 => ?_)
  · rw [if_pos h1] at hm
    cases hm
    exact XW.vret B q (by decide +kernel)
  · rw [if_neg h1] at hm
    refine XW.bb B [(4, .iload_n 1), (5, .aload_n 0), (6, .getfield 11), (9, .arraylength)] (by decide +kernel) (pc1 := 10) (ls1 := [some (aR 1 0), some (aI x1), some (aI x2)]) (st1 := [aI (88 : Int32), aI x1]) (σ1 := σ) (P := []) (i := .if_icmp .ge 10) (tgt := 20) (q := (88 : Int32) ≤ x1) rfl trivial (by decide +kernel) rfl (by decide) (fun h2 => ?_) (fun h2 => ?_)
    · rw [if_pos h2] at hm
      cases hm
      exact XW.vret B q (by decide +kernel)
    · rw [if_neg h2] at hm
      refine XW.bk B [(13, .aload_n 0), (14, .getfield 11), (17, .iload_n 1), (18, .iload_n 2), (19, .iastore)] (by decide +kernel) (pc1 := 20) (ls1 := [some (aR 1 0), some (aI x1), some (aI x2)]) (st1 := []) (σ1 := (sA σ 2 0 x1.toNatClampNeg x2)) (P := [vp_in x1 88]) rfl ⟨(vin_a h1 h2 (by decide +kernel)), trivial⟩ ?_
      cases hm
      exact XW.vret B q (by decide +kernel)

def m_X8_isGusty (x1 : Int32) (x2 : Int32) (σ : SS) : Int32 :=
  if (m_X8_number x1 (2 : Int32) σ) ≤ (0 : Int32) then
    (0 : Int32)
  else
  if (m_X8_number x1 (3 : Int32) σ) ≤ (x2 - (x2 / (m_X8_number x1 (2 : Int32) σ)) * (m_X8_number x1 (2 : Int32) σ)) then
    (0 : Int32)
  else
  (1 : Int32)
set_option maxRecDepth 100000 in
set_option maxHeartbeats 4000000 in
theorem c_X8_isGusty (x1 : Int32) (x2 : Int32) (σ : SS) {r : Int32} (hm : m_X8_isGusty x1 x2 σ = r) : XM LC 2 M_X8_isGusty [aR 1 0, aI x1, aI x2] σ (some (aI r)) σ := by
  refine XM.of (K := K8) (by decide) (by decide +kernel) K8_ok (Nat.le_of_ble_eq_true rfl) (fun Γ B q => ?_)
  unfold m_X8_isGusty at hm
  refine XW.bk B [(0, .aload_n 0), (1, .iload_n 1), (2, .iconst 2)] (by decide +kernel) (pc1 := 3) (ls1 := [some (aR 1 0), some (aI x1), some (aI x2), none]) (st1 := [aI (2 : Int32), aI x1, aR 1 0]) (σ1 := σ) (P := []) rfl trivial ?_
  refine XW.callV B (M := M_X8_number) (t := 1) (j := 0) (cn := 1) (as := [aI x1, aI (2 : Int32)]) (c_X8_number x1 (2 : Int32) σ rfl) (by decide) wV_X8_number wN_X8_number lk_X8_31 rfl rfl rfl (by decide) rfl (Nat.le_of_ble_eq_true rfl) (by decide +kernel) ?_
  refine XW.bb B [(6, .istore_n 3), (7, .iload_n 3)] (by decide +kernel) (pc1 := 8) (ls1 := [some (aR 1 0), some (aI x1), some (aI x2), some (aI (m_X8_number x1 (2 : Int32) σ))]) (st1 := [aI (m_X8_number x1 (2 : Int32) σ)]) (σ1 := σ) (P := []) (i := .ifCond .le 19) (tgt := 27) (q := (m_X8_number x1 (2 : Int32) σ) ≤ (0 : Int32)) rfl trivial (by decide +kernel) rfl (by decide) (fun h1 => ?_) (fun h1 => ?_)
  · rw [if_pos h1] at hm
    refine XW.bk B [(27, .iconst 0)] (by decide +kernel) (pc1 := 28) (ls1 := [some (aR 1 0), some (aI x1), some (aI x2), some (aI (m_X8_number x1 (2 : Int32) σ))]) (st1 := [aI (0 : Int32)]) (σ1 := σ) (P := []) rfl trivial ?_
    cases hm
    exact XW.zret B q (Or.inl rfl) (by decide +kernel)
  · rw [if_neg h1] at hm
    refine XW.bk B [(11, .iload_n 2), (12, .iload_n 3), (13, .irem), (14, .aload_n 0), (15, .iload_n 1), (16, .iconst 3)] (by decide +kernel) (pc1 := 17) (ls1 := [some (aR 1 0), some (aI x1), some (aI x2), some (aI (m_X8_number x1 (2 : Int32) σ))]) (st1 := [aI (3 : Int32), aI x1, aR 1 0, aI (x2 - (x2 / (m_X8_number x1 (2 : Int32) σ)) * (m_X8_number x1 (2 : Int32) σ))]) (σ1 := σ) (P := [¬ (m_X8_number x1 (2 : Int32) σ) = 0]) rfl ⟨(nz_a h1), trivial⟩ ?_
    refine XW.callV B (M := M_X8_number) (t := 1) (j := 0) (cn := 1) (as := [aI x1, aI (3 : Int32)]) (c_X8_number x1 (3 : Int32) σ rfl) (by decide) wV_X8_number wN_X8_number lk_X8_31 rfl rfl rfl (by decide) rfl (Nat.le_of_ble_eq_true rfl) (by decide +kernel) ?_
    refine XW.bb B [] (by decide +kernel) (pc1 := 20) (ls1 := [some (aR 1 0), some (aI x1), some (aI x2), some (aI (m_X8_number x1 (2 : Int32) σ))]) (st1 := [aI (m_X8_number x1 (3 : Int32) σ), aI (x2 - (x2 / (m_X8_number x1 (2 : Int32) σ)) * (m_X8_number x1 (2 : Int32) σ))]) (σ1 := σ) (P := []) (i := .if_icmp .ge 7) (tgt := 27) (q := (m_X8_number x1 (3 : Int32) σ) ≤ (x2 - (x2 / (m_X8_number x1 (2 : Int32) σ)) * (m_X8_number x1 (2 : Int32) σ))) rfl trivial (by decide +kernel) rfl (by decide) (fun h2 => ?_) (fun h2 => ?_)
    · rw [if_pos h2] at hm
      refine XW.bk B [(27, .iconst 0)] (by decide +kernel) (pc1 := 28) (ls1 := [some (aR 1 0), some (aI x1), some (aI x2), some (aI (m_X8_number x1 (2 : Int32) σ))]) (st1 := [aI (0 : Int32)]) (σ1 := σ) (P := []) rfl trivial ?_
      cases hm
      exact XW.zret B q (Or.inl rfl) (by decide +kernel)
    · rw [if_neg h2] at hm
      refine XW.bk B [(23, .iconst 1), (24, .goto 4)] (by decide +kernel) (pc1 := 28) (ls1 := [some (aR 1 0), some (aI x1), some (aI x2), some (aI (m_X8_number x1 (2 : Int32) σ))]) (st1 := [aI (1 : Int32)]) (σ1 := σ) (P := []) rfl trivial ?_
      cases hm
      exact XW.zret B q (Or.inr rfl) (by decide +kernel)
theorem b_X8_isGusty (x1 : Int32) (x2 : Int32) (σ : SS) : m_X8_isGusty x1 x2 σ = 0 ∨ m_X8_isGusty x1 x2 σ = 1 := by
  unfold m_X8_isGusty
  (repeat' split) <;> first | exact Or.inl rfl | exact Or.inr rfl

def m_X8_windIn (x1 : Int32) (x2 : Int32) (σ : SS) : Int32 :=
  if (m_X8_isGusty x1 x2 σ) = (0 : Int32) then
    (m_X8_number x1 (1 : Int32) σ)
  else
  (m_X8_number x1 (0 : Int32) σ)
set_option maxRecDepth 100000 in
set_option maxHeartbeats 4000000 in
theorem c_X8_windIn (x1 : Int32) (x2 : Int32) (σ : SS) {r : Int32} (hm : m_X8_windIn x1 x2 σ = r) : XM LC 3 M_X8_windIn [aR 1 0, aI x1, aI x2] σ (some (aI r)) σ := by
  refine XM.of (K := K8) (by decide) (by decide +kernel) K8_ok (Nat.le_of_ble_eq_true rfl) (fun Γ B q => ?_)
  unfold m_X8_windIn at hm
  refine XW.bk B [(0, .aload_n 0), (1, .iload_n 1), (2, .iload_n 2)] (by decide +kernel) (pc1 := 3) (ls1 := [some (aR 1 0), some (aI x1), some (aI x2)]) (st1 := [aI x2, aI x1, aR 1 0]) (σ1 := σ) (P := []) rfl trivial ?_
  refine XW.callV B (M := M_X8_isGusty) (t := 1) (j := 0) (cn := 1) (as := [aI x1, aI x2]) (c_X8_isGusty x1 x2 σ rfl) (by decide) wV_X8_isGusty wN_X8_isGusty lk_X8_35 rfl rfl rfl (by decide) rfl (Nat.le_of_ble_eq_true rfl) (by decide +kernel) ?_
  refine XW.bb B [] (by decide +kernel) (pc1 := 6) (ls1 := [some (aR 1 0), some (aI x1), some (aI x2)]) (st1 := [aI (m_X8_isGusty x1 x2 σ)]) (σ1 := σ) (P := []) (i := .ifCond .eq 12) (tgt := 18) (q := (m_X8_isGusty x1 x2 σ) = (0 : Int32)) rfl trivial (by decide +kernel) rfl (by decide) (fun h1 => ?_) (fun h1 => ?_)
  · rw [if_pos h1] at hm
    refine XW.bk B [(18, .aload_n 0), (19, .iload_n 1), (20, .iconst 1)] (by decide +kernel) (pc1 := 21) (ls1 := [some (aR 1 0), some (aI x1), some (aI x2)]) (st1 := [aI (1 : Int32), aI x1, aR 1 0]) (σ1 := σ) (P := []) rfl trivial ?_
    refine XW.callV B (M := M_X8_number) (t := 1) (j := 0) (cn := 1) (as := [aI x1, aI (1 : Int32)]) (c_X8_number x1 (1 : Int32) σ rfl) (by decide) wV_X8_number wN_X8_number lk_X8_31 rfl rfl rfl (by decide) rfl (Nat.le_of_ble_eq_true rfl) (by decide +kernel) ?_
    cases hm
    exact XW.iret B q (by decide +kernel)
  · rw [if_neg h1] at hm
    refine XW.bk B [(9, .aload_n 0), (10, .iload_n 1), (11, .iconst 0)] (by decide +kernel) (pc1 := 12) (ls1 := [some (aR 1 0), some (aI x1), some (aI x2)]) (st1 := [aI (0 : Int32), aI x1, aR 1 0]) (σ1 := σ) (P := []) rfl trivial ?_
    refine XW.callV B (M := M_X8_number) (t := 1) (j := 0) (cn := 1) (as := [aI x1, aI (0 : Int32)]) (c_X8_number x1 (0 : Int32) σ rfl) (by decide) wV_X8_number wN_X8_number lk_X8_31 rfl rfl rfl (by decide) rfl (Nat.le_of_ble_eq_true rfl) (by decide +kernel) ?_
    refine XW.bk B [(15, .goto 9)] (by decide +kernel) (pc1 := 24) (ls1 := [some (aR 1 0), some (aI x1), some (aI x2)]) (st1 := [aI (m_X8_number x1 (0 : Int32) σ)]) (σ1 := σ) (P := []) rfl trivial ?_
    cases hm
    exact XW.iret B q (by decide +kernel)

def m_X8_has (x1 : Int32) (σ : SS) : Int32 :=
  if x1 < (0 : Int32) then
    (0 : Int32)
  else
  if (σ.1 1 0 1) ≤ x1 then
    (0 : Int32)
  else
  (1 : Int32)
set_option maxRecDepth 100000 in
set_option maxHeartbeats 4000000 in
theorem c_X8_has (x1 : Int32) (σ : SS) {r : Int32} (hm : m_X8_has x1 σ = r) : XM LC 1 M_X8_has [aR 1 0, aI x1] σ (some (aI r)) σ := by
  refine XM.of (K := K8) (by decide) (by decide +kernel) K8_ok (Nat.le_of_ble_eq_true rfl) (fun Γ B q => ?_)
  unfold m_X8_has at hm
  refine XW.bb B [(0, .iload_n 1)] (by decide +kernel) (pc1 := 1) (ls1 := [some (aR 1 0), some (aI x1)]) (st1 := [aI x1]) (σ1 := σ) (P := []) (i := .ifCond .lt 15) (tgt := 16) (q := x1 < (0 : Int32)) rfl trivial (by decide +kernel) rfl (by decide) (fun h1 => ?_) (fun h1 => ?_)
  · rw [if_pos h1] at hm
    refine XW.bk B [(16, .iconst 0)] (by decide +kernel) (pc1 := 17) (ls1 := [some (aR 1 0), some (aI x1)]) (st1 := [aI (0 : Int32)]) (σ1 := σ) (P := []) rfl trivial ?_
    cases hm
    exact XW.zret B q (Or.inl rfl) (by decide +kernel)
  · rw [if_neg h1] at hm
    refine XW.bb B [(4, .iload_n 1), (5, .aload_n 0), (6, .getfield 15)] (by decide +kernel) (pc1 := 9) (ls1 := [some (aR 1 0), some (aI x1)]) (st1 := [aI (σ.1 1 0 1), aI x1]) (σ1 := σ) (P := []) (i := .if_icmp .ge 7) (tgt := 16) (q := (σ.1 1 0 1) ≤ x1) rfl trivial (by decide +kernel) rfl (by decide) (fun h2 => ?_) (fun h2 => ?_)
    · rw [if_pos h2] at hm
      refine XW.bk B [(16, .iconst 0)] (by decide +kernel) (pc1 := 17) (ls1 := [some (aR 1 0), some (aI x1)]) (st1 := [aI (0 : Int32)]) (σ1 := σ) (P := []) rfl trivial ?_
      cases hm
      exact XW.zret B q (Or.inl rfl) (by decide +kernel)
    · rw [if_neg h2] at hm
      refine XW.bk B [(12, .iconst 1), (13, .goto 4)] (by decide +kernel) (pc1 := 17) (ls1 := [some (aR 1 0), some (aI x1)]) (st1 := [aI (1 : Int32)]) (σ1 := σ) (P := []) rfl trivial ?_
      cases hm
      exact XW.zret B q (Or.inr rfl) (by decide +kernel)
theorem b_X8_has (x1 : Int32) (σ : SS) : m_X8_has x1 σ = 0 ∨ m_X8_has x1 σ = 1 := by
  unfold m_X8_has
  (repeat' split) <;> first | exact Or.inl rfl | exact Or.inr rfl

def m_X8_add (x1 : Int32) (x2 : Int32) (x3 : Int32) (σ : SS) : Int32 × SS :=
  if (σ.1 1 0 1) < (12 : Int32) then
    bnT (m_X8_write (((σ.1 1 0 1) * (7 : Int32)) + (0 : Int32)) x1 σ) (fun q2 =>
    bnT (m_X8_write (((σ.1 1 0 1) * (7 : Int32)) + (1 : Int32)) (0 : Int32) q2) (fun q3 =>
    bnT (m_X8_write (((σ.1 1 0 1) * (7 : Int32)) + (2 : Int32)) (10 : Int32) q3) (fun q4 =>
    bnT (m_X8_write (((σ.1 1 0 1) * (7 : Int32)) + (3 : Int32)) (2 : Int32) q4) (fun q5 =>
    bnT (m_X8_write (((σ.1 1 0 1) * (7 : Int32)) + (4 : Int32)) x2 q5) (fun q6 =>
    bnT (m_X8_write (((σ.1 1 0 1) * (7 : Int32)) + (5 : Int32)) x3 q6) (fun q7 =>
    bnT (m_X8_write (((σ.1 1 0 1) * (7 : Int32)) + (6 : Int32)) (3 : Int32) q7) (fun q8 =>
    ((q8.1 1 0 1), (sI q8 1 0 1 ((q8.1 1 0 1) + (1 : Int32)))))))))))
  else
  ((-3 : Int32), σ)
set_option maxRecDepth 100000 in
set_option maxHeartbeats 4000000 in
theorem c_X8_add (x1 : Int32) (x2 : Int32) (x3 : Int32) (σ : SS) {r : Int32} {σ' : SS} (hm : m_X8_add x1 x2 x3 σ = (r, σ')) : XM LC 2 M_X8_add [aR 1 0, aI x1, aI x2, aI x3] σ (some (aI r)) σ' := by
  refine XM.of (K := K8) (by decide) (by decide +kernel) K8_ok (Nat.le_of_ble_eq_true rfl) (fun Γ B q => ?_)
  unfold m_X8_add at hm
  refine XW.bb B [(0, .aload_n 0), (1, .getfield 15), (4, .bipush 12)] (by decide +kernel) (pc1 := 6) (ls1 := [some (aR 1 0), some (aI x1), some (aI x2), some (aI x3), none]) (st1 := [aI (12 : Int32), aI (σ.1 1 0 1)]) (σ1 := σ) (P := []) (i := .if_icmp .lt 6) (tgt := 12) (q := (σ.1 1 0 1) < (12 : Int32)) rfl trivial (by decide +kernel) rfl (by decide) (fun h1 => ?_) (fun h1 => ?_)
  · rw [if_pos h1] at hm
    refine XW.bk B [(12, .aload_n 0), (13, .getfield 15), (16, .bipush 7), (18, .imul), (19, .istore 4), (21, .aload_n 0), (22, .iload 4), (24, .iconst 0), (25, .iadd), (26, .iload_n 1)] (by decide +kernel) (pc1 := 27) (ls1 := [some (aR 1 0), some (aI x1), some (aI x2), some (aI x3), some (aI ((σ.1 1 0 1) * (7 : Int32)))]) (st1 := [aI x1, aI (((σ.1 1 0 1) * (7 : Int32)) + (0 : Int32)), aR 1 0]) (σ1 := σ) (P := []) rfl trivial ?_
    obtain ⟨q2, hq2, hm⟩ := bnT_eq hm
    refine XW.callV B (M := M_X8_write) (t := 1) (j := 0) (cn := 1) (as := [aI (((σ.1 1 0 1) * (7 : Int32)) + (0 : Int32)), aI x1]) (c_X8_write (((σ.1 1 0 1) * (7 : Int32)) + (0 : Int32)) x1 σ hq2) (by decide) wV_X8_write wN_X8_write lk_X8_19 rfl rfl rfl (by decide) rfl (Nat.le_of_ble_eq_true rfl) (by decide +kernel) ?_
    refine XW.bk B [(30, .aload_n 0), (31, .iload 4), (33, .iconst 1), (34, .iadd), (35, .iconst 0)] (by decide +kernel) (pc1 := 36) (ls1 := [some (aR 1 0), some (aI x1), some (aI x2), some (aI x3), some (aI ((σ.1 1 0 1) * (7 : Int32)))]) (st1 := [aI (0 : Int32), aI (((σ.1 1 0 1) * (7 : Int32)) + (1 : Int32)), aR 1 0]) (σ1 := q2) (P := []) rfl trivial ?_
    obtain ⟨q3, hq3, hm⟩ := bnT_eq hm
    refine XW.callV B (M := M_X8_write) (t := 1) (j := 0) (cn := 1) (as := [aI (((σ.1 1 0 1) * (7 : Int32)) + (1 : Int32)), aI (0 : Int32)]) (c_X8_write (((σ.1 1 0 1) * (7 : Int32)) + (1 : Int32)) (0 : Int32) q2 hq3) (by decide) wV_X8_write wN_X8_write lk_X8_19 rfl rfl rfl (by decide) rfl (Nat.le_of_ble_eq_true rfl) (by decide +kernel) ?_
    refine XW.bk B [(39, .aload_n 0), (40, .iload 4), (42, .iconst 2), (43, .iadd), (44, .bipush 10)] (by decide +kernel) (pc1 := 46) (ls1 := [some (aR 1 0), some (aI x1), some (aI x2), some (aI x3), some (aI ((σ.1 1 0 1) * (7 : Int32)))]) (st1 := [aI (10 : Int32), aI (((σ.1 1 0 1) * (7 : Int32)) + (2 : Int32)), aR 1 0]) (σ1 := q3) (P := []) rfl trivial ?_
    obtain ⟨q4, hq4, hm⟩ := bnT_eq hm
    refine XW.callV B (M := M_X8_write) (t := 1) (j := 0) (cn := 1) (as := [aI (((σ.1 1 0 1) * (7 : Int32)) + (2 : Int32)), aI (10 : Int32)]) (c_X8_write (((σ.1 1 0 1) * (7 : Int32)) + (2 : Int32)) (10 : Int32) q3 hq4) (by decide) wV_X8_write wN_X8_write lk_X8_19 rfl rfl rfl (by decide) rfl (Nat.le_of_ble_eq_true rfl) (by decide +kernel) ?_
    refine XW.bk B [(49, .aload_n 0), (50, .iload 4), (52, .iconst 3), (53, .iadd), (54, .iconst 2)] (by decide +kernel) (pc1 := 55) (ls1 := [some (aR 1 0), some (aI x1), some (aI x2), some (aI x3), some (aI ((σ.1 1 0 1) * (7 : Int32)))]) (st1 := [aI (2 : Int32), aI (((σ.1 1 0 1) * (7 : Int32)) + (3 : Int32)), aR 1 0]) (σ1 := q4) (P := []) rfl trivial ?_
    obtain ⟨q5, hq5, hm⟩ := bnT_eq hm
    refine XW.callV B (M := M_X8_write) (t := 1) (j := 0) (cn := 1) (as := [aI (((σ.1 1 0 1) * (7 : Int32)) + (3 : Int32)), aI (2 : Int32)]) (c_X8_write (((σ.1 1 0 1) * (7 : Int32)) + (3 : Int32)) (2 : Int32) q4 hq5) (by decide) wV_X8_write wN_X8_write lk_X8_19 rfl rfl rfl (by decide) rfl (Nat.le_of_ble_eq_true rfl) (by decide +kernel) ?_
    refine XW.bk B [(58, .aload_n 0), (59, .iload 4), (61, .iconst 4), (62, .iadd), (63, .iload_n 2)] (by decide +kernel) (pc1 := 64) (ls1 := [some (aR 1 0), some (aI x1), some (aI x2), some (aI x3), some (aI ((σ.1 1 0 1) * (7 : Int32)))]) (st1 := [aI x2, aI (((σ.1 1 0 1) * (7 : Int32)) + (4 : Int32)), aR 1 0]) (σ1 := q5) (P := []) rfl trivial ?_
    obtain ⟨q6, hq6, hm⟩ := bnT_eq hm
    refine XW.callV B (M := M_X8_write) (t := 1) (j := 0) (cn := 1) (as := [aI (((σ.1 1 0 1) * (7 : Int32)) + (4 : Int32)), aI x2]) (c_X8_write (((σ.1 1 0 1) * (7 : Int32)) + (4 : Int32)) x2 q5 hq6) (by decide) wV_X8_write wN_X8_write lk_X8_19 rfl rfl rfl (by decide) rfl (Nat.le_of_ble_eq_true rfl) (by decide +kernel) ?_
    refine XW.bk B [(67, .aload_n 0), (68, .iload 4), (70, .iconst 5), (71, .iadd), (72, .iload_n 3)] (by decide +kernel) (pc1 := 73) (ls1 := [some (aR 1 0), some (aI x1), some (aI x2), some (aI x3), some (aI ((σ.1 1 0 1) * (7 : Int32)))]) (st1 := [aI x3, aI (((σ.1 1 0 1) * (7 : Int32)) + (5 : Int32)), aR 1 0]) (σ1 := q6) (P := []) rfl trivial ?_
    obtain ⟨q7, hq7, hm⟩ := bnT_eq hm
    refine XW.callV B (M := M_X8_write) (t := 1) (j := 0) (cn := 1) (as := [aI (((σ.1 1 0 1) * (7 : Int32)) + (5 : Int32)), aI x3]) (c_X8_write (((σ.1 1 0 1) * (7 : Int32)) + (5 : Int32)) x3 q6 hq7) (by decide) wV_X8_write wN_X8_write lk_X8_19 rfl rfl rfl (by decide) rfl (Nat.le_of_ble_eq_true rfl) (by decide +kernel) ?_
    refine XW.bk B [(76, .aload_n 0), (77, .iload 4), (79, .bipush 6), (81, .iadd), (82, .iconst 3)] (by decide +kernel) (pc1 := 83) (ls1 := [some (aR 1 0), some (aI x1), some (aI x2), some (aI x3), some (aI ((σ.1 1 0 1) * (7 : Int32)))]) (st1 := [aI (3 : Int32), aI (((σ.1 1 0 1) * (7 : Int32)) + (6 : Int32)), aR 1 0]) (σ1 := q7) (P := []) rfl trivial ?_
    obtain ⟨q8, hq8, hm⟩ := bnT_eq hm
    refine XW.callV B (M := M_X8_write) (t := 1) (j := 0) (cn := 1) (as := [aI (((σ.1 1 0 1) * (7 : Int32)) + (6 : Int32)), aI (3 : Int32)]) (c_X8_write (((σ.1 1 0 1) * (7 : Int32)) + (6 : Int32)) (3 : Int32) q7 hq8) (by decide) wV_X8_write wN_X8_write lk_X8_19 rfl rfl rfl (by decide) rfl (Nat.le_of_ble_eq_true rfl) (by decide +kernel) ?_
    refine XW.bk B [(86, .aload_n 0), (87, .dup), (88, .getfield 15), (91, .dup_x1), (92, .iconst 1), (93, .iadd), (94, .putfield 15)] (by decide +kernel) (pc1 := 97) (ls1 := [some (aR 1 0), some (aI x1), some (aI x2), some (aI x3), some (aI ((σ.1 1 0 1) * (7 : Int32)))]) (st1 := [aI (q8.1 1 0 1)]) (σ1 := (sI q8 1 0 1 ((q8.1 1 0 1) + (1 : Int32)))) (P := []) rfl trivial ?_
    cases hm
    exact XW.iret B q (by decide +kernel)
  · rw [if_neg h1] at hm
    refine XW.bk B [(9, .bipush (-3))] (by decide +kernel) (pc1 := 11) (ls1 := [some (aR 1 0), some (aI x1), some (aI x2), some (aI x3), none]) (st1 := [aI (-3 : Int32)]) (σ1 := σ) (P := []) rfl trivial ?_
    cases hm
    exact XW.iret B q (by decide +kernel)

def m_X8_slotOf (x1 : Int32) (x2 : Int32) (σ : SS) : Int32 :=
  if (m_X10_isWithin x2 (0 : Int32) (6 : Int32)) = (0 : Int32) then
    if (m_X10_isWithin x2 (7 : Int32) (10 : Int32)) = (0 : Int32) then
      (-1 : Int32)
    else
    if x1 = (0 : Int32) then
      (((84 : Int32) + x2) - (7 : Int32))
    else
    (-1 : Int32)
  else
  if (m_X8_has x1 σ) = (0 : Int32) then
    (-1 : Int32)
  else
  ((x1 * (7 : Int32)) + x2)
set_option maxRecDepth 100000 in
set_option maxHeartbeats 4000000 in
theorem c_X8_slotOf (x1 : Int32) (x2 : Int32) (σ : SS) {r : Int32} (hm : m_X8_slotOf x1 x2 σ = r) : XM LC 2 M_X8_slotOf [aR 1 0, aI x1, aI x2] σ (some (aI r)) σ := by
  refine XM.of (K := K8) (by decide) (by decide +kernel) K8_ok (Nat.le_of_ble_eq_true rfl) (fun Γ B q => ?_)
  unfold m_X8_slotOf at hm
  refine XW.bk B [(0, .iload_n 2), (1, .iconst 0), (2, .bipush 6)] (by decide +kernel) (pc1 := 4) (ls1 := [some (aR 1 0), some (aI x1), some (aI x2)]) (st1 := [aI (6 : Int32), aI (0 : Int32), aI x2]) (σ1 := σ) (P := []) rfl trivial ?_
  refine XW.callSN B (M := M_X10_isWithin) (as := [aI x2, aI (0 : Int32), aI (6 : Int32)]) (c_X10_isWithin x2 (0 : Int32) (6 : Int32) σ rfl) (by decide) wS_X10_isWithin wN_X10_isWithin lk_X8_23 rfl (Nat.le_of_ble_eq_true rfl) (by decide +kernel) ?_
  refine XW.bb B [] (by decide +kernel) (pc1 := 7) (ls1 := [some (aR 1 0), some (aI x1), some (aI x2)]) (st1 := [aI (m_X10_isWithin x2 (0 : Int32) (6 : Int32))]) (σ1 := σ) (P := []) (i := .ifCond .eq 22) (tgt := 29) (q := (m_X10_isWithin x2 (0 : Int32) (6 : Int32)) = (0 : Int32)) rfl trivial (by decide +kernel) rfl (by decide) (fun h1 => ?_) (fun h1 => ?_)
  · rw [if_pos h1] at hm
    refine XW.bk B [(29, .iload_n 2), (30, .bipush 7), (32, .bipush 10)] (by decide +kernel) (pc1 := 34) (ls1 := [some (aR 1 0), some (aI x1), some (aI x2)]) (st1 := [aI (10 : Int32), aI (7 : Int32), aI x2]) (σ1 := σ) (P := []) rfl trivial ?_
    refine XW.callSN B (M := M_X10_isWithin) (as := [aI x2, aI (7 : Int32), aI (10 : Int32)]) (c_X10_isWithin x2 (7 : Int32) (10 : Int32) σ rfl) (by decide) wS_X10_isWithin wN_X10_isWithin lk_X8_23 rfl (Nat.le_of_ble_eq_true rfl) (by decide +kernel) ?_
    refine XW.bb B [] (by decide +kernel) (pc1 := 37) (ls1 := [some (aR 1 0), some (aI x1), some (aI x2)]) (st1 := [aI (m_X10_isWithin x2 (7 : Int32) (10 : Int32))]) (σ1 := σ) (P := []) (i := .ifCond .eq 17) (tgt := 54) (q := (m_X10_isWithin x2 (7 : Int32) (10 : Int32)) = (0 : Int32)) rfl trivial (by decide +kernel) rfl (by decide) (fun h2 => ?_) (fun h2 => ?_)
    · rw [if_pos h2] at hm
      refine XW.bk B [(54, .iconst (-1))] (by decide +kernel) (pc1 := 55) (ls1 := [some (aR 1 0), some (aI x1), some (aI x2)]) (st1 := [aI (-1 : Int32)]) (σ1 := σ) (P := []) rfl trivial ?_
      cases hm
      exact XW.iret B q (by decide +kernel)
    · rw [if_neg h2] at hm
      refine XW.bn B [(40, .iload_n 1)] (by decide +kernel) (pc1 := 41) (ls1 := [some (aR 1 0), some (aI x1), some (aI x2)]) (st1 := [aI x1]) (σ1 := σ) (P := []) (i := .ifCond .ne 13) (tgt := 54) (q := x1 = (0 : Int32)) rfl trivial (by decide +kernel) rfl (by decide) (fun h3 => ?_) (fun h3 => ?_)
      · rw [if_pos h3] at hm
        refine XW.bk B [(44, .bipush 84), (46, .iload_n 2), (47, .iadd), (48, .bipush 7), (50, .isub), (51, .goto 4)] (by decide +kernel) (pc1 := 55) (ls1 := [some (aR 1 0), some (aI x1), some (aI x2)]) (st1 := [aI (((84 : Int32) + x2) - (7 : Int32))]) (σ1 := σ) (P := []) rfl trivial ?_
        cases hm
        exact XW.iret B q (by decide +kernel)
      · rw [if_neg h3] at hm
        refine XW.bk B [(54, .iconst (-1))] (by decide +kernel) (pc1 := 55) (ls1 := [some (aR 1 0), some (aI x1), some (aI x2)]) (st1 := [aI (-1 : Int32)]) (σ1 := σ) (P := []) rfl trivial ?_
        cases hm
        exact XW.iret B q (by decide +kernel)
  · rw [if_neg h1] at hm
    refine XW.bk B [(10, .aload_n 0), (11, .iload_n 1)] (by decide +kernel) (pc1 := 12) (ls1 := [some (aR 1 0), some (aI x1), some (aI x2)]) (st1 := [aI x1, aR 1 0]) (σ1 := σ) (P := []) rfl trivial ?_
    refine XW.callV B (M := M_X8_has) (t := 1) (j := 0) (cn := 1) (as := [aI x1]) (c_X8_has x1 σ rfl) (by decide) wV_X8_has wN_X8_has lk_X8_27 rfl rfl rfl (by decide) rfl (Nat.le_of_ble_eq_true rfl) (by decide +kernel) ?_
    refine XW.bb B [] (by decide +kernel) (pc1 := 15) (ls1 := [some (aR 1 0), some (aI x1), some (aI x2)]) (st1 := [aI (m_X8_has x1 σ)]) (σ1 := σ) (P := []) (i := .ifCond .eq 12) (tgt := 27) (q := (m_X8_has x1 σ) = (0 : Int32)) rfl trivial (by decide +kernel) rfl (by decide) (fun h4 => ?_) (fun h4 => ?_)
    · rw [if_pos h4] at hm
      refine XW.bk B [(27, .iconst (-1))] (by decide +kernel) (pc1 := 28) (ls1 := [some (aR 1 0), some (aI x1), some (aI x2)]) (st1 := [aI (-1 : Int32)]) (σ1 := σ) (P := []) rfl trivial ?_
      cases hm
      exact XW.iret B q (by decide +kernel)
    · rw [if_neg h4] at hm
      refine XW.bk B [(18, .iload_n 1), (19, .bipush 7), (21, .imul), (22, .iload_n 2), (23, .iadd), (24, .goto 4)] (by decide +kernel) (pc1 := 28) (ls1 := [some (aR 1 0), some (aI x1), some (aI x2)]) (st1 := [aI ((x1 * (7 : Int32)) + x2)]) (σ1 := σ) (P := []) rfl trivial ?_
      cases hm
      exact XW.iret B q (by decide +kernel)

def m_X8_read (x1 : Int32) (σ : SS) : Int32 :=
  if x1 < (0 : Int32) then
    (0 : Int32)
  else
  if (88 : Int32) ≤ x1 then
    (0 : Int32)
  else
  (σ.2.1 2 0 x1.toNatClampNeg)
set_option maxRecDepth 100000 in
set_option maxHeartbeats 4000000 in
theorem c_X8_read (x1 : Int32) (σ : SS) {r : Int32} (hm : m_X8_read x1 σ = r) : XM LC 1 M_X8_read [aR 1 0, aI x1] σ (some (aI r)) σ := by
  refine XM.of (K := K8) (by decide) (by decide +kernel) K8_ok (Nat.le_of_ble_eq_true rfl) (fun Γ B q => ?_)
  unfold m_X8_read at hm
  refine XW.bb B [(0, .iload_n 1)] (by decide +kernel) (pc1 := 1) (ls1 := [some (aR 1 0), some (aI x1)]) (st1 := [aI x1]) (σ1 := σ) (P := []) (i := .ifCond .lt 21) (tgt := 22) (q := x1 < (0 : Int32)) rfl trivial (by decide +kernel) rfl (by decide) (fun h1 => ?_) (fun h1 => ?_)
  · rw [if_pos h1] at hm
    refine XW.bk B [(22, .iconst 0)] (by decide +kernel) (pc1 := 23) (ls1 := [some (aR 1 0), some (aI x1)]) (st1 := [aI (0 : Int32)]) (σ1 := σ) (P := []) rfl trivial ?_
    cases hm
    exact XW.iret B q (by decide +kernel)
  · rw [if_neg h1] at hm
    refine XW.bb B [(4, .iload_n 1), (5, .aload_n 0), (6, .getfield 11), (9, .arraylength)] (by decide +kernel) (pc1 := 10) (ls1 := [some (aR 1 0), some (aI x1)]) (st1 := [aI (88 : Int32), aI x1]) (σ1 := σ) (P := []) (i := .if_icmp .ge 12) (tgt := 22) (q := (88 : Int32) ≤ x1) rfl trivial (by decide +kernel) rfl (by decide) (fun h2 => ?_) (fun h2 => ?_)
    · rw [if_pos h2] at hm
      refine XW.bk B [(22, .iconst 0)] (by decide +kernel) (pc1 := 23) (ls1 := [some (aR 1 0), some (aI x1)]) (st1 := [aI (0 : Int32)]) (σ1 := σ) (P := []) rfl trivial ?_
      cases hm
      exact XW.iret B q (by decide +kernel)
    · rw [if_neg h2] at hm
      refine XW.bk B [(13, .aload_n 0), (14, .getfield 11), (17, .iload_n 1), (18, .iaload), (19, .goto 4)] (by decide +kernel) (pc1 := 23) (ls1 := [some (aR 1 0), some (aI x1)]) (st1 := [aI (σ.2.1 2 0 x1.toNatClampNeg)]) (σ1 := σ) (P := [vp_in x1 88]) rfl ⟨(vin_a h1 h2 (by decide +kernel)), trivial⟩ ?_
      cases hm
      exact XW.iret B q (by decide +kernel)
end
