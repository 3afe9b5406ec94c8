section
-- ===== PART A: goes FIRST, ahead of the names: the tables' words, and 'selects' of the private methods out of them =====
/-- a private method of a class that the tables say can be made, by its rows of tables_1 -/
def lw_okq (q : MethodName × Nat) : Prop := (q.1.cls ≠ "java/lang/invoke/MethodHandle" ∧ q.1.cls ≠ "java/lang/invoke/VarHandle") ∧ Cond.instantiable q.1.cls q.2 ∈ tables_1 ∧ Cond.privateMethod q.1 ∈ tables_1 ∧ Cond.instanceMethod q.1 ∈ tables_1
theorem lw_p0 : lw_okq (⟨"PaneAcross", "shelfAt", "(I)LPaneAcross$Shelf;"⟩, 9) := ⟨⟨by decide +kernel, by decide +kernel⟩, List.mem_of_getElem? (i := 17) (by decide +kernel), List.mem_of_getElem? (i := 369) (by decide +kernel), List.mem_of_getElem? (i := 370) (by decide +kernel)⟩
theorem lw_p1 : lw_okq (⟨"PaneAcross", "addFrom", "(LPaneAcross$Shelf;I)Z"⟩, 9) := ⟨⟨by decide +kernel, by decide +kernel⟩, List.mem_of_getElem? (i := 17) (by decide +kernel), List.mem_of_getElem? (i := 385) (by decide +kernel), List.mem_of_getElem? (i := 386) (by decide +kernel)⟩
theorem lw_p2 : lw_okq (⟨"PaneAcross$Changes", "dropOldest", "()V"⟩, 5) := ⟨⟨by decide +kernel, by decide +kernel⟩, List.mem_of_getElem? (i := 143) (by decide +kernel), List.mem_of_getElem? (i := 414) (by decide +kernel), List.mem_of_getElem? (i := 415) (by decide +kernel)⟩
theorem lw_p3 : lw_okq (⟨"PaneAcross$Law", "readLine", "()V"⟩, 12) := ⟨⟨by decide +kernel, by decide +kernel⟩, List.mem_of_getElem? (i := 43) (by decide +kernel), List.mem_of_getElem? (i := 459) (by decide +kernel), List.mem_of_getElem? (i := 460) (by decide +kernel)⟩
theorem lw_p4 : lw_okq (⟨"PaneAcross$Law", "readBinary", "(II)V"⟩, 12) := ⟨⟨by decide +kernel, by decide +kernel⟩, List.mem_of_getElem? (i := 43) (by decide +kernel), List.mem_of_getElem? (i := 463) (by decide +kernel), List.mem_of_getElem? (i := 464) (by decide +kernel)⟩
theorem lw_p5 : lw_okq (⟨"PaneAcross$Law", "readOperand", "(I)V"⟩, 12) := ⟨⟨by decide +kernel, by decide +kernel⟩, List.mem_of_getElem? (i := 43) (by decide +kernel), List.mem_of_getElem? (i := 467) (by decide +kernel), List.mem_of_getElem? (i := 468) (by decide +kernel)⟩
theorem lw_p6 : lw_okq (⟨"PaneAcross$Law", "next", "()I"⟩, 12) := ⟨⟨by decide +kernel, by decide +kernel⟩, List.mem_of_getElem? (i := 43) (by decide +kernel), List.mem_of_getElem? (i := 471) (by decide +kernel), List.mem_of_getElem? (i := 472) (by decide +kernel)⟩
theorem lw_p7 : lw_okq (⟨"PaneAcross$Law", "readNumber", "()V"⟩, 12) := ⟨⟨by decide +kernel, by decide +kernel⟩, List.mem_of_getElem? (i := 43) (by decide +kernel), List.mem_of_getElem? (i := 478) (by decide +kernel), List.mem_of_getElem? (i := 479) (by decide +kernel)⟩
theorem lw_p8 : lw_okq (⟨"PaneAcross$Law", "addStep", "(II)V"⟩, 12) := ⟨⟨by decide +kernel, by decide +kernel⟩, List.mem_of_getElem? (i := 43) (by decide +kernel), List.mem_of_getElem? (i := 482) (by decide +kernel), List.mem_of_getElem? (i := 483) (by decide +kernel)⟩
theorem lw_p9 : lw_okq (⟨"PaneAcross$Strains", "workedOut", "(III)I"⟩, 8) := ⟨⟨by decide +kernel, by decide +kernel⟩, List.mem_of_getElem? (i := 87) (by decide +kernel), List.mem_of_getElem? (i := 517) (by decide +kernel), List.mem_of_getElem? (i := 518) (by decide +kernel)⟩
theorem lw_p10 : lw_okq (⟨"PaneAcross$Law", "push", "(I)V"⟩, 12) := ⟨⟨by decide +kernel, by decide +kernel⟩, List.mem_of_getElem? (i := 43) (by decide +kernel), List.mem_of_getElem? (i := 529) (by decide +kernel), List.mem_of_getElem? (i := 530) (by decide +kernel)⟩
theorem lw_p11 : lw_okq (⟨"PaneAcross$Law", "pop", "()I"⟩, 12) := ⟨⟨by decide +kernel, by decide +kernel⟩, List.mem_of_getElem? (i := 43) (by decide +kernel), List.mem_of_getElem? (i := 533) (by decide +kernel), List.mem_of_getElem? (i := 534) (by decide +kernel)⟩
theorem lw_p12 : lw_okq (⟨"PaneAcross", "walkRefused", "(LPaneAcross$Shelf;)I"⟩, 9) := ⟨⟨by decide +kernel, by decide +kernel⟩, List.mem_of_getElem? (i := 17) (by decide +kernel), List.mem_of_getElem? (i := 553) (by decide +kernel), List.mem_of_getElem? (i := 554) (by decide +kernel)⟩
theorem lw_p13 : lw_okq (⟨"PaneAcross$Walks", "bestAhead", "(II)I"⟩, 9) := ⟨⟨by decide +kernel, by decide +kernel⟩, List.mem_of_getElem? (i := 167) (by decide +kernel), List.mem_of_getElem? (i := 601) (by decide +kernel), List.mem_of_getElem? (i := 602) (by decide +kernel)⟩
theorem lw_p14 : lw_okq (⟨"PaneAcross$Walks", "turnedAhead", "(III)I"⟩, 9) := ⟨⟨by decide +kernel, by decide +kernel⟩, List.mem_of_getElem? (i := 167) (by decide +kernel), List.mem_of_getElem? (i := 605) (by decide +kernel), List.mem_of_getElem? (i := 606) (by decide +kernel)⟩
theorem lw_p15 : lw_okq (⟨"PaneAcross$Walks", "setAhead", "(III)V"⟩, 9) := ⟨⟨by decide +kernel, by decide +kernel⟩, List.mem_of_getElem? (i := 167) (by decide +kernel), List.mem_of_getElem? (i := 610) (by decide +kernel), List.mem_of_getElem? (i := 611) (by decide +kernel)⟩
def lw_privs_1 : List (MethodName × Nat) := [(⟨"PaneAcross", "shelfAt", "(I)LPaneAcross$Shelf;"⟩, 9), (⟨"PaneAcross", "addFrom", "(LPaneAcross$Shelf;I)Z"⟩, 9), (⟨"PaneAcross$Changes", "dropOldest", "()V"⟩, 5), (⟨"PaneAcross$Law", "readLine", "()V"⟩, 12), (⟨"PaneAcross$Law", "readBinary", "(II)V"⟩, 12), (⟨"PaneAcross$Law", "readOperand", "(I)V"⟩, 12), (⟨"PaneAcross$Law", "next", "()I"⟩, 12), (⟨"PaneAcross$Law", "readNumber", "()V"⟩, 12), (⟨"PaneAcross$Law", "addStep", "(II)V"⟩, 12), (⟨"PaneAcross$Strains", "workedOut", "(III)I"⟩, 8), (⟨"PaneAcross$Law", "push", "(I)V"⟩, 12), (⟨"PaneAcross$Law", "pop", "()I"⟩, 12), (⟨"PaneAcross", "walkRefused", "(LPaneAcross$Shelf;)I"⟩, 9), (⟨"PaneAcross$Walks", "bestAhead", "(II)I"⟩, 9), (⟨"PaneAcross$Walks", "turnedAhead", "(III)I"⟩, 9), (⟨"PaneAcross$Walks", "setAhead", "(III)V"⟩, 9)]
theorem lw_r1 : ∀ q ∈ lw_privs_1, lw_okq q := List.forall_mem_cons.mpr ⟨lw_p0, List.forall_mem_cons.mpr ⟨lw_p1, List.forall_mem_cons.mpr ⟨lw_p2, List.forall_mem_cons.mpr ⟨lw_p3, List.forall_mem_cons.mpr ⟨lw_p4, List.forall_mem_cons.mpr ⟨lw_p5, List.forall_mem_cons.mpr ⟨lw_p6, List.forall_mem_cons.mpr ⟨lw_p7, List.forall_mem_cons.mpr ⟨lw_p8, List.forall_mem_cons.mpr ⟨lw_p9, List.forall_mem_cons.mpr ⟨lw_p10, List.forall_mem_cons.mpr ⟨lw_p11, List.forall_mem_cons.mpr ⟨lw_p12, List.forall_mem_cons.mpr ⟨lw_p13, List.forall_mem_cons.mpr ⟨lw_p14, List.forall_mem_cons.mpr ⟨lw_p15, fun _ h => absurd h List.not_mem_nil⟩⟩⟩⟩⟩⟩⟩⟩⟩⟩⟩⟩⟩⟩⟩⟩
theorem lw_p16 : lw_okq (⟨"PaneAcross$Walks", "reachBy", "(II)V"⟩, 9) := ⟨⟨by decide +kernel, by decide +kernel⟩, List.mem_of_getElem? (i := 167) (by decide +kernel), List.mem_of_getElem? (i := 629) (by decide +kernel), List.mem_of_getElem? (i := 630) (by decide +kernel)⟩
theorem lw_p17 : lw_okq (⟨"PaneAcross$Walks", "borne", "(III)I"⟩, 9) := ⟨⟨by decide +kernel, by decide +kernel⟩, List.mem_of_getElem? (i := 167) (by decide +kernel), List.mem_of_getElem? (i := 634) (by decide +kernel), List.mem_of_getElem? (i := 635) (by decide +kernel)⟩
theorem lw_p18 : lw_okq (⟨"PaneAcross$Walks", "reachedShop", "()I"⟩, 9) := ⟨⟨by decide +kernel, by decide +kernel⟩, List.mem_of_getElem? (i := 167) (by decide +kernel), List.mem_of_getElem? (i := 641) (by decide +kernel), List.mem_of_getElem? (i := 642) (by decide +kernel)⟩
theorem lw_p19 : lw_okq (⟨"PaneAcross$Walks", "drawOne", "(II)V"⟩, 9) := ⟨⟨by decide +kernel, by decide +kernel⟩, List.mem_of_getElem? (i := 167) (by decide +kernel), List.mem_of_getElem? (i := 751) (by decide +kernel), List.mem_of_getElem? (i := 752) (by decide +kernel)⟩
theorem lw_p20 : lw_okq (⟨"PaneAcross$Deeds", "bear", "(IZ)I"⟩, 5) := ⟨⟨by decide +kernel, by decide +kernel⟩, List.mem_of_getElem? (i := 215) (by decide +kernel), List.mem_of_getElem? (i := 765) (by decide +kernel), List.mem_of_getElem? (i := 766) (by decide +kernel)⟩
theorem lw_p21 : lw_okq (⟨"PaneAcross$Deeds", "arrive", "()V"⟩, 5) := ⟨⟨by decide +kernel, by decide +kernel⟩, List.mem_of_getElem? (i := 215) (by decide +kernel), List.mem_of_getElem? (i := 774) (by decide +kernel), List.mem_of_getElem? (i := 775) (by decide +kernel)⟩
theorem lw_p22 : lw_okq (⟨"PaneAcross$Paces", "run", "(IIII)I"⟩, 6) := ⟨⟨by decide +kernel, by decide +kernel⟩, List.mem_of_getElem? (i := 288) (by decide +kernel), List.mem_of_getElem? (i := 860) (by decide +kernel), List.mem_of_getElem? (i := 861) (by decide +kernel)⟩
theorem lw_p23 : lw_okq (⟨"PaneAcross$Paces", "runBody", "(IIII)I"⟩, 6) := ⟨⟨by decide +kernel, by decide +kernel⟩, List.mem_of_getElem? (i := 288) (by decide +kernel), List.mem_of_getElem? (i := 874) (by decide +kernel), List.mem_of_getElem? (i := 875) (by decide +kernel)⟩
theorem lw_p24 : lw_okq (⟨"PaneAcross$Shelf", "fitted", "(J)J"⟩, 4) := ⟨⟨by decide +kernel, by decide +kernel⟩, List.mem_of_getElem? (i := 119) (by decide +kernel), List.mem_of_getElem? (i := 921) (by decide +kernel), List.mem_of_getElem? (i := 922) (by decide +kernel)⟩
theorem lw_p25 : lw_okq (⟨"PaneAcrossModel", "adds", "(III)V"⟩, 44) := ⟨⟨by decide +kernel, by decide +kernel⟩, List.mem_of_getElem? (i := 946) (by decide +kernel), List.mem_of_getElem? (i := 1107) (by decide +kernel), List.mem_of_getElem? (i := 1108) (by decide +kernel)⟩
theorem lw_p26 : lw_okq (⟨"PaneAcrossModel", "placeOf", "(II)I"⟩, 44) := ⟨⟨by decide +kernel, by decide +kernel⟩, List.mem_of_getElem? (i := 946) (by decide +kernel), List.mem_of_getElem? (i := 1123) (by decide +kernel), List.mem_of_getElem? (i := 1124) (by decide +kernel)⟩
theorem lw_p27 : lw_okq (⟨"PaneAcrossModel", "isPlace", "(I)Z"⟩, 44) := ⟨⟨by decide +kernel, by decide +kernel⟩, List.mem_of_getElem? (i := 946) (by decide +kernel), List.mem_of_getElem? (i := 1128) (by decide +kernel), List.mem_of_getElem? (i := 1129) (by decide +kernel)⟩
theorem lw_p28 : lw_okq (⟨"PaneAcrossModel", "becomes", "(II)I"⟩, 44) := ⟨⟨by decide +kernel, by decide +kernel⟩, List.mem_of_getElem? (i := 946) (by decide +kernel), List.mem_of_getElem? (i := 1144) (by decide +kernel), List.mem_of_getElem? (i := 1145) (by decide +kernel)⟩
theorem lw_p29 : lw_okq (⟨"PaneAcrossModel", "windAt", "(II)I"⟩, 44) := ⟨⟨by decide +kernel, by decide +kernel⟩, List.mem_of_getElem? (i := 946) (by decide +kernel), List.mem_of_getElem? (i := 1157) (by decide +kernel), List.mem_of_getElem? (i := 1158) (by decide +kernel)⟩
theorem lw_p30 : lw_okq (⟨"PaneAcrossModel", "workOut", "(II)I"⟩, 44) := ⟨⟨by decide +kernel, by decide +kernel⟩, List.mem_of_getElem? (i := 946) (by decide +kernel), List.mem_of_getElem? (i := 1170) (by decide +kernel), List.mem_of_getElem? (i := 1171) (by decide +kernel)⟩
theorem lw_p31 : lw_okq (⟨"PaneAcrossModel", "either", "()I"⟩, 44) := ⟨⟨by decide +kernel, by decide +kernel⟩, List.mem_of_getElem? (i := 946) (by decide +kernel), List.mem_of_getElem? (i := 1174) (by decide +kernel), List.mem_of_getElem? (i := 1175) (by decide +kernel)⟩
def lw_privs_2 : List (MethodName × Nat) := [(⟨"PaneAcross$Walks", "reachBy", "(II)V"⟩, 9), (⟨"PaneAcross$Walks", "borne", "(III)I"⟩, 9), (⟨"PaneAcross$Walks", "reachedShop", "()I"⟩, 9), (⟨"PaneAcross$Walks", "drawOne", "(II)V"⟩, 9), (⟨"PaneAcross$Deeds", "bear", "(IZ)I"⟩, 5), (⟨"PaneAcross$Deeds", "arrive", "()V"⟩, 5), (⟨"PaneAcross$Paces", "run", "(IIII)I"⟩, 6), (⟨"PaneAcross$Paces", "runBody", "(IIII)I"⟩, 6), (⟨"PaneAcross$Shelf", "fitted", "(J)J"⟩, 4), (⟨"PaneAcrossModel", "adds", "(III)V"⟩, 44), (⟨"PaneAcrossModel", "placeOf", "(II)I"⟩, 44), (⟨"PaneAcrossModel", "isPlace", "(I)Z"⟩, 44), (⟨"PaneAcrossModel", "becomes", "(II)I"⟩, 44), (⟨"PaneAcrossModel", "windAt", "(II)I"⟩, 44), (⟨"PaneAcrossModel", "workOut", "(II)I"⟩, 44), (⟨"PaneAcrossModel", "either", "()I"⟩, 44)]
theorem lw_r2 : ∀ q ∈ lw_privs_2, lw_okq q := List.forall_mem_cons.mpr ⟨lw_p16, List.forall_mem_cons.mpr ⟨lw_p17, List.forall_mem_cons.mpr ⟨lw_p18, List.forall_mem_cons.mpr ⟨lw_p19, List.forall_mem_cons.mpr ⟨lw_p20, List.forall_mem_cons.mpr ⟨lw_p21, List.forall_mem_cons.mpr ⟨lw_p22, List.forall_mem_cons.mpr ⟨lw_p23, List.forall_mem_cons.mpr ⟨lw_p24, List.forall_mem_cons.mpr ⟨lw_p25, List.forall_mem_cons.mpr ⟨lw_p26, List.forall_mem_cons.mpr ⟨lw_p27, List.forall_mem_cons.mpr ⟨lw_p28, List.forall_mem_cons.mpr ⟨lw_p29, List.forall_mem_cons.mpr ⟨lw_p30, List.forall_mem_cons.mpr ⟨lw_p31, fun _ h => absurd h List.not_mem_nil⟩⟩⟩⟩⟩⟩⟩⟩⟩⟩⟩⟩⟩⟩⟩⟩
theorem lw_p32 : lw_okq (⟨"PaneAcrossModel", "both", "()I"⟩, 44) := ⟨⟨by decide +kernel, by decide +kernel⟩, List.mem_of_getElem? (i := 946) (by decide +kernel), List.mem_of_getElem? (i := 1178) (by decide +kernel), List.mem_of_getElem? (i := 1179) (by decide +kernel)⟩
theorem lw_p33 : lw_okq (⟨"PaneAcrossModel", "compared", "()I"⟩, 44) := ⟨⟨by decide +kernel, by decide +kernel⟩, List.mem_of_getElem? (i := 946) (by decide +kernel), List.mem_of_getElem? (i := 1182) (by decide +kernel), List.mem_of_getElem? (i := 1183) (by decide +kernel)⟩
theorem lw_p34 : lw_okq (⟨"PaneAcrossModel", "sums", "()I"⟩, 44) := ⟨⟨by decide +kernel, by decide +kernel⟩, List.mem_of_getElem? (i := 946) (by decide +kernel), List.mem_of_getElem? (i := 1186) (by decide +kernel), List.mem_of_getElem? (i := 1187) (by decide +kernel)⟩
theorem lw_p35 : lw_okq (⟨"PaneAcrossModel", "product", "()I"⟩, 44) := ⟨⟨by decide +kernel, by decide +kernel⟩, List.mem_of_getElem? (i := 946) (by decide +kernel), List.mem_of_getElem? (i := 1190) (by decide +kernel), List.mem_of_getElem? (i := 1191) (by decide +kernel)⟩
theorem lw_p36 : lw_okq (⟨"PaneAcrossModel", "one", "()I"⟩, 44) := ⟨⟨by decide +kernel, by decide +kernel⟩, List.mem_of_getElem? (i := 946) (by decide +kernel), List.mem_of_getElem? (i := 1194) (by decide +kernel), List.mem_of_getElem? (i := 1195) (by decide +kernel)⟩
theorem lw_p37 : lw_okq (⟨"PaneAcrossModel", "byteAt", "()I"⟩, 44) := ⟨⟨by decide +kernel, by decide +kernel⟩, List.mem_of_getElem? (i := 946) (by decide +kernel), List.mem_of_getElem? (i := 1198) (by decide +kernel), List.mem_of_getElem? (i := 1199) (by decide +kernel)⟩
theorem lw_p38 : lw_okq (⟨"PaneAcrossModel", "wrong", "()I"⟩, 44) := ⟨⟨by decide +kernel, by decide +kernel⟩, List.mem_of_getElem? (i := 946) (by decide +kernel), List.mem_of_getElem? (i := 1202) (by decide +kernel), List.mem_of_getElem? (i := 1203) (by decide +kernel)⟩
theorem lw_p39 : lw_okq (⟨"PaneAcrossModel", "takes", "(I)Z"⟩, 44) := ⟨⟨by decide +kernel, by decide +kernel⟩, List.mem_of_getElem? (i := 946) (by decide +kernel), List.mem_of_getElem? (i := 1206) (by decide +kernel), List.mem_of_getElem? (i := 1207) (by decide +kernel)⟩
theorem lw_p40 : lw_okq (⟨"PaneAcrossModel", "strainAt", "(III)I"⟩, 44) := ⟨⟨by decide +kernel, by decide +kernel⟩, List.mem_of_getElem? (i := 946) (by decide +kernel), List.mem_of_getElem? (i := 1217) (by decide +kernel), List.mem_of_getElem? (i := 1218) (by decide +kernel)⟩
theorem lw_p41 : lw_okq (⟨"PaneAcrossModel", "bytesIs", "(I)I"⟩, 44) := ⟨⟨by decide +kernel, by decide +kernel⟩, List.mem_of_getElem? (i := 946) (by decide +kernel), List.mem_of_getElem? (i := 1225) (by decide +kernel), List.mem_of_getElem? (i := 1226) (by decide +kernel)⟩
theorem lw_p42 : lw_okq (⟨"PaneAcrossModel", "walkIs", "(I)I"⟩, 44) := ⟨⟨by decide +kernel, by decide +kernel⟩, List.mem_of_getElem? (i := 946) (by decide +kernel), List.mem_of_getElem? (i := 1233) (by decide +kernel), List.mem_of_getElem? (i := 1234) (by decide +kernel)⟩
theorem lw_p43 : lw_okq (⟨"PaneAcrossModel", "walks", "(III)V"⟩, 44) := ⟨⟨by decide +kernel, by decide +kernel⟩, List.mem_of_getElem? (i := 946) (by decide +kernel), List.mem_of_getElem? (i := 1237) (by decide +kernel), List.mem_of_getElem? (i := 1238) (by decide +kernel)⟩
theorem lw_p44 : lw_okq (⟨"PaneAcrossModel", "heldBy", "(II)I"⟩, 44) := ⟨⟨by decide +kernel, by decide +kernel⟩, List.mem_of_getElem? (i := 946) (by decide +kernel), List.mem_of_getElem? (i := 1241) (by decide +kernel), List.mem_of_getElem? (i := 1242) (by decide +kernel)⟩
theorem lw_p45 : lw_okq (⟨"PaneAcrossModel", "bears", "()I"⟩, 44) := ⟨⟨by decide +kernel, by decide +kernel⟩, List.mem_of_getElem? (i := 946) (by decide +kernel), List.mem_of_getElem? (i := 1245) (by decide +kernel), List.mem_of_getElem? (i := 1246) (by decide +kernel)⟩
theorem lw_p46 : lw_okq (⟨"PaneAcrossModel", "passes", "(I)I"⟩, 44) := ⟨⟨by decide +kernel, by decide +kernel⟩, List.mem_of_getElem? (i := 946) (by decide +kernel), List.mem_of_getElem? (i := 1249) (by decide +kernel), List.mem_of_getElem? (i := 1250) (by decide +kernel)⟩
theorem lw_p47 : lw_okq (⟨"PaneAcrossModel", "fillsLeast", "(I)V"⟩, 44) := ⟨⟨by decide +kernel, by decide +kernel⟩, List.mem_of_getElem? (i := 946) (by decide +kernel), List.mem_of_getElem? (i := 1263) (by decide +kernel), List.mem_of_getElem? (i := 1264) (by decide +kernel)⟩
def lw_privs_3 : List (MethodName × Nat) := [(⟨"PaneAcrossModel", "both", "()I"⟩, 44), (⟨"PaneAcrossModel", "compared", "()I"⟩, 44), (⟨"PaneAcrossModel", "sums", "()I"⟩, 44), (⟨"PaneAcrossModel", "product", "()I"⟩, 44), (⟨"PaneAcrossModel", "one", "()I"⟩, 44), (⟨"PaneAcrossModel", "byteAt", "()I"⟩, 44), (⟨"PaneAcrossModel", "wrong", "()I"⟩, 44), (⟨"PaneAcrossModel", "takes", "(I)Z"⟩, 44), (⟨"PaneAcrossModel", "strainAt", "(III)I"⟩, 44), (⟨"PaneAcrossModel", "bytesIs", "(I)I"⟩, 44), (⟨"PaneAcrossModel", "walkIs", "(I)I"⟩, 44), (⟨"PaneAcrossModel", "walks", "(III)V"⟩, 44), (⟨"PaneAcrossModel", "heldBy", "(II)I"⟩, 44), (⟨"PaneAcrossModel", "bears", "()I"⟩, 44), (⟨"PaneAcrossModel", "passes", "(I)I"⟩, 44), (⟨"PaneAcrossModel", "fillsLeast", "(I)V"⟩, 44)]
theorem lw_r3 : ∀ q ∈ lw_privs_3, lw_okq q := List.forall_mem_cons.mpr ⟨lw_p32, List.forall_mem_cons.mpr ⟨lw_p33, List.forall_mem_cons.mpr ⟨lw_p34, List.forall_mem_cons.mpr ⟨lw_p35, List.forall_mem_cons.mpr ⟨lw_p36, List.forall_mem_cons.mpr ⟨lw_p37, List.forall_mem_cons.mpr ⟨lw_p38, List.forall_mem_cons.mpr ⟨lw_p39, List.forall_mem_cons.mpr ⟨lw_p40, List.forall_mem_cons.mpr ⟨lw_p41, List.forall_mem_cons.mpr ⟨lw_p42, List.forall_mem_cons.mpr ⟨lw_p43, List.forall_mem_cons.mpr ⟨lw_p44, List.forall_mem_cons.mpr ⟨lw_p45, List.forall_mem_cons.mpr ⟨lw_p46, List.forall_mem_cons.mpr ⟨lw_p47, fun _ h => absurd h List.not_mem_nil⟩⟩⟩⟩⟩⟩⟩⟩⟩⟩⟩⟩⟩⟩⟩⟩
theorem lw_p48 : lw_okq (⟨"PaneAcrossModel", "bestHeld", "(II)I"⟩, 44) := ⟨⟨by decide +kernel, by decide +kernel⟩, List.mem_of_getElem? (i := 946) (by decide +kernel), List.mem_of_getElem? (i := 1267) (by decide +kernel), List.mem_of_getElem? (i := 1268) (by decide +kernel)⟩
theorem lw_p49 : lw_okq (⟨"PaneAcrossModel", "turned", "(II)I"⟩, 44) := ⟨⟨by decide +kernel, by decide +kernel⟩, List.mem_of_getElem? (i := 946) (by decide +kernel), List.mem_of_getElem? (i := 1271) (by decide +kernel), List.mem_of_getElem? (i := 1272) (by decide +kernel)⟩
theorem lw_p50 : lw_okq (⟨"PaneAcrossModel", "begins1", "(I)V"⟩, 44) := ⟨⟨by decide +kernel, by decide +kernel⟩, List.mem_of_getElem? (i := 946) (by decide +kernel), List.mem_of_getElem? (i := 1279) (by decide +kernel), List.mem_of_getElem? (i := 1280) (by decide +kernel)⟩
theorem lw_p51 : lw_okq (⟨"PaneAcrossModel", "minuteGoes", "(I)V"⟩, 44) := ⟨⟨by decide +kernel, by decide +kernel⟩, List.mem_of_getElem? (i := 946) (by decide +kernel), List.mem_of_getElem? (i := 1283) (by decide +kernel), List.mem_of_getElem? (i := 1284) (by decide +kernel)⟩
theorem lw_p52 : lw_okq (⟨"PaneAcrossModel", "restedAt", "(II)I"⟩, 44) := ⟨⟨by decide +kernel, by decide +kernel⟩, List.mem_of_getElem? (i := 946) (by decide +kernel), List.mem_of_getElem? (i := 1287) (by decide +kernel), List.mem_of_getElem? (i := 1288) (by decide +kernel)⟩
theorem lw_p53 : lw_okq (⟨"PaneAcrossModel", "pacedTo", "(II)I"⟩, 44) := ⟨⟨by decide +kernel, by decide +kernel⟩, List.mem_of_getElem? (i := 946) (by decide +kernel), List.mem_of_getElem? (i := 1291) (by decide +kernel), List.mem_of_getElem? (i := 1292) (by decide +kernel)⟩
theorem lw_p54 : lw_okq (⟨"PaneAcrossModel", "freeWays", "(II)J"⟩, 44) := ⟨⟨by decide +kernel, by decide +kernel⟩, List.mem_of_getElem? (i := 946) (by decide +kernel), List.mem_of_getElem? (i := 1319) (by decide +kernel), List.mem_of_getElem? (i := 1320) (by decide +kernel)⟩
theorem lw_p55 : lw_okq (⟨"PaneAcrossModel", "lineOf", "()J"⟩, 44) := ⟨⟨by decide +kernel, by decide +kernel⟩, List.mem_of_getElem? (i := 946) (by decide +kernel), List.mem_of_getElem? (i := 1323) (by decide +kernel), List.mem_of_getElem? (i := 1324) (by decide +kernel)⟩
theorem lw_p56 : lw_okq (⟨"PaneAcrossModel", "firstFalse", "(III)I"⟩, 44) := ⟨⟨by decide +kernel, by decide +kernel⟩, List.mem_of_getElem? (i := 946) (by decide +kernel), List.mem_of_getElem? (i := 1349) (by decide +kernel), List.mem_of_getElem? (i := 1350) (by decide +kernel)⟩
theorem lw_p57 : lw_okq (⟨"PaneAcrossModel", "minuteIs", "(IZ)I"⟩, 44) := ⟨⟨by decide +kernel, by decide +kernel⟩, List.mem_of_getElem? (i := 946) (by decide +kernel), List.mem_of_getElem? (i := 1366) (by decide +kernel), List.mem_of_getElem? (i := 1367) (by decide +kernel)⟩
theorem lw_p58 : lw_okq (⟨"PaneAcrossModel", "isBody", "(I)Z"⟩, 44) := ⟨⟨by decide +kernel, by decide +kernel⟩, List.mem_of_getElem? (i := 946) (by decide +kernel), List.mem_of_getElem? (i := 1399) (by decide +kernel), List.mem_of_getElem? (i := 1400) (by decide +kernel)⟩
theorem lw_p59 : lw_okq (⟨"PaneAcrossModel", "goesAs", "(II)I"⟩, 44) := ⟨⟨by decide +kernel, by decide +kernel⟩, List.mem_of_getElem? (i := 946) (by decide +kernel), List.mem_of_getElem? (i := 1403) (by decide +kernel), List.mem_of_getElem? (i := 1404) (by decide +kernel)⟩
theorem lw_p60 : lw_okq (⟨"PaneAcrossModel", "begins", "(I)V"⟩, 44) := ⟨⟨by decide +kernel, by decide +kernel⟩, List.mem_of_getElem? (i := 946) (by decide +kernel), List.mem_of_getElem? (i := 1407) (by decide +kernel), List.mem_of_getElem? (i := 1408) (by decide +kernel)⟩
theorem lw_p61 : lw_okq (⟨"PaneAcrossModel", "strainsAs", "(II)I"⟩, 44) := ⟨⟨by decide +kernel, by decide +kernel⟩, List.mem_of_getElem? (i := 946) (by decide +kernel), List.mem_of_getElem? (i := 1411) (by decide +kernel), List.mem_of_getElem? (i := 1412) (by decide +kernel)⟩
theorem lw_p62 : lw_okq (⟨"PaneAcrossModel", "leansAs", "(II)I"⟩, 44) := ⟨⟨by decide +kernel, by decide +kernel⟩, List.mem_of_getElem? (i := 946) (by decide +kernel), List.mem_of_getElem? (i := 1415) (by decide +kernel), List.mem_of_getElem? (i := 1416) (by decide +kernel)⟩
theorem lw_p63 : lw_okq (⟨"PaneAcrossModel", "tellsAs", "(II)I"⟩, 44) := ⟨⟨by decide +kernel, by decide +kernel⟩, List.mem_of_getElem? (i := 946) (by decide +kernel), List.mem_of_getElem? (i := 1419) (by decide +kernel), List.mem_of_getElem? (i := 1420) (by decide +kernel)⟩
def lw_privs_4 : List (MethodName × Nat) := [(⟨"PaneAcrossModel", "bestHeld", "(II)I"⟩, 44), (⟨"PaneAcrossModel", "turned", "(II)I"⟩, 44), (⟨"PaneAcrossModel", "begins1", "(I)V"⟩, 44), (⟨"PaneAcrossModel", "minuteGoes", "(I)V"⟩, 44), (⟨"PaneAcrossModel", "restedAt", "(II)I"⟩, 44), (⟨"PaneAcrossModel", "pacedTo", "(II)I"⟩, 44), (⟨"PaneAcrossModel", "freeWays", "(II)J"⟩, 44), (⟨"PaneAcrossModel", "lineOf", "()J"⟩, 44), (⟨"PaneAcrossModel", "firstFalse", "(III)I"⟩, 44), (⟨"PaneAcrossModel", "minuteIs", "(IZ)I"⟩, 44), (⟨"PaneAcrossModel", "isBody", "(I)Z"⟩, 44), (⟨"PaneAcrossModel", "goesAs", "(II)I"⟩, 44), (⟨"PaneAcrossModel", "begins", "(I)V"⟩, 44), (⟨"PaneAcrossModel", "strainsAs", "(II)I"⟩, 44), (⟨"PaneAcrossModel", "leansAs", "(II)I"⟩, 44), (⟨"PaneAcrossModel", "tellsAs", "(II)I"⟩, 44)]
theorem lw_r4 : ∀ q ∈ lw_privs_4, lw_okq q := List.forall_mem_cons.mpr ⟨lw_p48, List.forall_mem_cons.mpr ⟨lw_p49, List.forall_mem_cons.mpr ⟨lw_p50, List.forall_mem_cons.mpr ⟨lw_p51, List.forall_mem_cons.mpr ⟨lw_p52, List.forall_mem_cons.mpr ⟨lw_p53, List.forall_mem_cons.mpr ⟨lw_p54, List.forall_mem_cons.mpr ⟨lw_p55, List.forall_mem_cons.mpr ⟨lw_p56, List.forall_mem_cons.mpr ⟨lw_p57, List.forall_mem_cons.mpr ⟨lw_p58, List.forall_mem_cons.mpr ⟨lw_p59, List.forall_mem_cons.mpr ⟨lw_p60, List.forall_mem_cons.mpr ⟨lw_p61, List.forall_mem_cons.mpr ⟨lw_p62, List.forall_mem_cons.mpr ⟨lw_p63, fun _ h => absurd h List.not_mem_nil⟩⟩⟩⟩⟩⟩⟩⟩⟩⟩⟩⟩⟩⟩⟩⟩
theorem lw_p64 : lw_okq (⟨"PaneAcrossModel", "refusal", "(II)I"⟩, 44) := ⟨⟨by decide +kernel, by decide +kernel⟩, List.mem_of_getElem? (i := 946) (by decide +kernel), List.mem_of_getElem? (i := 1440) (by decide +kernel), List.mem_of_getElem? (i := 1441) (by decide +kernel)⟩
theorem lw_p65 : lw_okq (⟨"PaneAcrossModel", "kindOf", "(I)I"⟩, 44) := ⟨⟨by decide +kernel, by decide +kernel⟩, List.mem_of_getElem? (i := 946) (by decide +kernel), List.mem_of_getElem? (i := 1459) (by decide +kernel), List.mem_of_getElem? (i := 1460) (by decide +kernel)⟩
def lw_privs_5 : List (MethodName × Nat) := [(⟨"PaneAcrossModel", "refusal", "(II)I"⟩, 44), (⟨"PaneAcrossModel", "kindOf", "(I)I"⟩, 44)]
theorem lw_r5 : ∀ q ∈ lw_privs_5, lw_okq q := List.forall_mem_cons.mpr ⟨lw_p64, List.forall_mem_cons.mpr ⟨lw_p65, fun _ h => absurd h List.not_mem_nil⟩⟩
def lw_privs : List (MethodName × Nat) := lw_privs_1 ++ (lw_privs_2 ++ (lw_privs_3 ++ (lw_privs_4 ++ (lw_privs_5))))
def lw_tbl : List Cond := k2_sels lw_privs ++ tables_1
theorem lw_privs_ok : ∀ q ∈ lw_privs, lw_okq q := by
  show ∀ q ∈ lw_privs_1 ++ (lw_privs_2 ++ (lw_privs_3 ++ (lw_privs_4 ++ (lw_privs_5)))), lw_okq q
  exact List.forall_mem_append.mpr ⟨lw_r1, List.forall_mem_append.mpr ⟨lw_r2, List.forall_mem_append.mpr ⟨lw_r3, List.forall_mem_append.mpr ⟨lw_r4, lw_r5⟩⟩⟩⟩
end
section
def RX0 : String := "PaneAcross$Chances"
def TX0 : u_T := fun k => match k with
  | _ => ("PaneAcross$Chances", "street", "LPaneAcross$Street;", true)
def tyX0 : Nat → FieldType := fun k => match k with
  | _ => .object "PaneAcross$Street"
abbrev wsX00 : List Cond := u_ws RX0 TX0 1
theorem nmX0 : ∀ a, a < 1 → ∀ b, b < 1 → a ≠ b → (TX0 a).2.1 ≠ (TX0 b).2.1 := by decide +kernel
theorem tyX0_ok : ∀ k, k < 1 → parseFieldDescriptor (TX0 k).2.2.1 = some (tyX0 k) := by decide +kernel
abbrev cX0_init : ByteArray := prog_2_method_1_code
def yX0_init : MethodName := ⟨RX0, "<init>", "(LPaneAcross$Street;)V"⟩
abbrev cX0_allWays : ByteArray := prog_2_method_2_code
def yX0_allWays : MethodName := ⟨RX0, "allWays", "()J"⟩
abbrev cX0_freeWays : ByteArray := prog_2_method_3_code
def yX0_freeWays : MethodName := ⟨RX0, "freeWays", "(II)J"⟩
abbrev cX0_bestWatched : ByteArray := prog_2_method_4_code
def yX0_bestWatched : MethodName := ⟨RX0, "bestWatched", "()I"⟩
abbrev cX0_partOf : ByteArray := prog_2_method_5_code
def yX0_partOf : MethodName := ⟨RX0, "partOf", "(JJI)J"⟩
def RX1 : String := "PaneAcross$Changes"
def TX1 : u_T := fun k => match k with
  | 0 => ("PaneAcross$Changes", "slots", "[I", true)
  | 1 => ("PaneAcross$Changes", "were", "[I", true)
  | 2 => ("PaneAcross$Changes", "became", "[I", true)
  | 3 => ("PaneAcross$Changes", "size", "I", false)
  | _ => ("PaneAcross$Changes", "done", "I", false)
def tyX1 : Nat → FieldType := fun k => match k with
  | 0 => .array .int
  | 1 => .array .int
  | 2 => .array .int
  | 3 => .int
  | _ => .int
abbrev wsX10 : List Cond := u_ws RX1 TX1 5
theorem nmX1 : ∀ a, a < 5 → ∀ b, b < 5 → a ≠ b → (TX1 a).2.1 ≠ (TX1 b).2.1 := by decide +kernel
theorem tyX1_ok : ∀ k, k < 5 → parseFieldDescriptor (TX1 k).2.2.1 = some (tyX1 k) := by decide +kernel
abbrev cX1_init : ByteArray := prog_3_method_1_code
def yX1_init : MethodName := ⟨RX1, "<init>", "()V"⟩
abbrev cX1_note : ByteArray := prog_3_method_2_code
def yX1_note : MethodName := ⟨RX1, "note", "(III)V"⟩
abbrev cX1_dropOldest : ByteArray := prog_3_method_3_code
def yX1_dropOldest : MethodName := ⟨RX1, "dropOldest", "()V"⟩
abbrev cX1_stepBack : ByteArray := prog_3_method_4_code
def yX1_stepBack : MethodName := ⟨RX1, "stepBack", "(LPaneAcross$Street;)V"⟩
abbrev cX1_stepOn : ByteArray := prog_3_method_5_code
def yX1_stepOn : MethodName := ⟨RX1, "stepOn", "(LPaneAcross$Street;)V"⟩
def RX2 : String := "PaneAcross$Deeds"
def TX2 : u_T := fun k => match k with
  | 0 => ("PaneAcross$Deeds", "street", "LPaneAcross$Street;", true)
  | 1 => ("PaneAcross$Deeds", "strains", "LPaneAcross$Strains;", true)
  | 2 => ("PaneAcross$Deeds", "now", "LPaneAcross$Led;", true)
  | 3 => ("PaneAcross$Deeds", "kept", "LPaneAcross$Led;", true)
  | _ => ("PaneAcross$Deeds", "isKept", "Z", false)
def tyX2 : Nat → FieldType := fun k => match k with
  | 0 => .object "PaneAcross$Street"
  | 1 => .object "PaneAcross$Strains"
  | 2 => .object "PaneAcross$Led"
  | 3 => .object "PaneAcross$Led"
  | _ => .boolean
abbrev wsX20 : List Cond := u_ws RX2 TX2 5
theorem nmX2 : ∀ a, a < 5 → ∀ b, b < 5 → a ≠ b → (TX2 a).2.1 ≠ (TX2 b).2.1 := by decide +kernel
theorem tyX2_ok : ∀ k, k < 5 → parseFieldDescriptor (TX2 k).2.2.1 = some (tyX2 k) := by decide +kernel
abbrev cX2_init : ByteArray := prog_4_method_1_code
def yX2_init : MethodName := ⟨RX2, "<init>", "(LPaneAcross$Street;LPaneAcross$Strains;)V"⟩
abbrev cX2_setOut : ByteArray := prog_4_method_2_code
def yX2_setOut : MethodName := ⟨RX2, "setOut", "(II)I"⟩
abbrev cX2_goOn : ByteArray := prog_4_method_3_code
def yX2_goOn : MethodName := ⟨RX2, "goOn", "(I)I"⟩
abbrev cX2_stay : ByteArray := prog_4_method_4_code
def yX2_stay : MethodName := ⟨RX2, "stay", "(I)I"⟩
abbrev cX2_bear : ByteArray := prog_4_method_5_code
def yX2_bear : MethodName := ⟨RX2, "bear", "(IZ)I"⟩
abbrev cX2_arrive : ByteArray := prog_4_method_6_code
def yX2_arrive : MethodName := ⟨RX2, "arrive", "()V"⟩
def RX3 : String := "PaneAcross$Law"
def TX3 : u_T := fun k => match k with
  | 0 => ("PaneAcross$Law", "tape", "[I", true)
  | 1 => ("PaneAcross$Law", "fed", "I", false)
  | 2 => ("PaneAcross$Law", "steps", "[I", true)
  | 3 => ("PaneAcross$Law", "values", "[I", true)
  | 4 => ("PaneAcross$Law", "length", "I", false)
  | 5 => ("PaneAcross$Law", "newSteps", "[I", true)
  | 6 => ("PaneAcross$Law", "newValues", "[I", true)
  | 7 => ("PaneAcross$Law", "newLength", "I", false)
  | 8 => ("PaneAcross$Law", "at", "I", false)
  | 9 => ("PaneAcross$Law", "fault", "I", false)
  | 10 => ("PaneAcross$Law", "pile", "[I", true)
  | _ => ("PaneAcross$Law", "piled", "I", false)
def tyX3 : Nat → FieldType := fun k => match k with
  | 0 => .array .int
  | 1 => .int
  | 2 => .array .int
  | 3 => .array .int
  | 4 => .int
  | 5 => .array .int
  | 6 => .array .int
  | 7 => .int
  | 8 => .int
  | 9 => .int
  | 10 => .array .int
  | _ => .int
abbrev wsX30 : List Cond := u_ws RX3 TX3 12
theorem nmX3 : ∀ a, a < 12 → ∀ b, b < 12 → a ≠ b → (TX3 a).2.1 ≠ (TX3 b).2.1 := by decide +kernel
theorem tyX3_ok : ∀ k, k < 12 → parseFieldDescriptor (TX3 k).2.2.1 = some (tyX3 k) := by decide +kernel
abbrev cX3_init : ByteArray := prog_5_method_1_code
def yX3_init : MethodName := ⟨RX3, "<init>", "()V"⟩
abbrev cX3_isTold : ByteArray := prog_5_method_2_code
def yX3_isTold : MethodName := ⟨RX3, "isTold", "()Z"⟩
abbrev cX3_take : ByteArray := prog_5_method_3_code
def yX3_take : MethodName := ⟨RX3, "take", "(I)I"⟩
abbrev cX3_readTape : ByteArray := prog_5_method_4_code
def yX3_readTape : MethodName := ⟨RX3, "readTape", "()I"⟩
abbrev cX3_readLine : ByteArray := prog_5_method_5_code
def yX3_readLine : MethodName := ⟨RX3, "readLine", "()V"⟩
abbrev cX3_readBinary : ByteArray := prog_5_method_6_code
def yX3_readBinary : MethodName := ⟨RX3, "readBinary", "(II)V"⟩
abbrev cX3_readOperand : ByteArray := prog_5_method_7_code
def yX3_readOperand : MethodName := ⟨RX3, "readOperand", "(I)V"⟩
abbrev cX3_readNumber : ByteArray := prog_5_method_8_code
def yX3_readNumber : MethodName := ⟨RX3, "readNumber", "()V"⟩
abbrev cX3_next : ByteArray := prog_5_method_9_code
def yX3_next : MethodName := ⟨RX3, "next", "()I"⟩
abbrev cX3_addStep : ByteArray := prog_5_method_10_code
def yX3_addStep : MethodName := ⟨RX3, "addStep", "(II)V"⟩
abbrev cX3_isDigit : ByteArray := prog_5_method_11_code
def yX3_isDigit : MethodName := ⟨RX3, "isDigit", "(I)Z"⟩
abbrev cX3_nameOf : ByteArray := prog_5_method_12_code
def yX3_nameOf : MethodName := ⟨RX3, "nameOf", "(I)I"⟩
abbrev cX3_levelOf : ByteArray := prog_5_method_13_code
def yX3_levelOf : MethodName := ⟨RX3, "levelOf", "(I)I"⟩
abbrev cX3_worth : ByteArray := prog_5_method_14_code
def yX3_worth : MethodName := ⟨RX3, "worth", "([I)I"⟩
abbrev cX3_both : ByteArray := prog_5_method_15_code
def yX3_both : MethodName := ⟨RX3, "both", "(III)I"⟩
abbrev cX3_push : ByteArray := prog_5_method_16_code
def yX3_push : MethodName := ⟨RX3, "push", "(I)V"⟩
abbrev cX3_pop : ByteArray := prog_5_method_17_code
def yX3_pop : MethodName := ⟨RX3, "pop", "()I"⟩
def RX4 : String := "PaneAcross$Led"
def TX4 : u_T := fun k => match k with
  | 0 => ("PaneAcross$Led", "isOn", "Z", false)
  | 1 => ("PaneAcross$Led", "place", "I", false)
  | 2 => ("PaneAcross$Led", "minute", "I", false)
  | 3 => ("PaneAcross$Led", "held", "I", false)
  | 4 => ("PaneAcross$Led", "all", "I", false)
  | 5 => ("PaneAcross$Led", "arrived", "I", false)
  | 6 => ("PaneAcross$Led", "cracked", "I", false)
  | 7 => ("PaneAcross$Led", "paced", "I", false)
  | 8 => ("PaneAcross$Led", "rested", "I", false)
  | _ => ("PaneAcross$Led", "least", "I", false)
def tyX4 : Nat → FieldType := fun k => match k with
  | 0 => .boolean
  | 1 => .int
  | 2 => .int
  | 3 => .int
  | 4 => .int
  | 5 => .int
  | 6 => .int
  | 7 => .int
  | 8 => .int
  | _ => .int
abbrev wsX40 : List Cond := u_ws RX4 TX4 10
theorem nmX4 : ∀ a, a < 10 → ∀ b, b < 10 → a ≠ b → (TX4 a).2.1 ≠ (TX4 b).2.1 := by decide +kernel
theorem tyX4_ok : ∀ k, k < 10 → parseFieldDescriptor (TX4 k).2.2.1 = some (tyX4 k) := by decide +kernel
abbrev cX4_init : ByteArray := prog_6_method_1_code
def yX4_init : MethodName := ⟨RX4, "<init>", "()V"⟩
abbrev cX4_becomeLike : ByteArray := prog_6_method_2_code
def yX4_becomeLike : MethodName := ⟨RX4, "becomeLike", "(LPaneAcross$Led;)V"⟩
abbrev cX4_told : ByteArray := prog_6_method_3_code
def yX4_told : MethodName := ⟨RX4, "told", "(I)I"⟩
def RX5 : String := "PaneAcross$Paces"
def TX5 : u_T := fun k => match k with
  | 0 => ("PaneAcross$Paces", "kinds", "[I", true)
  | 1 => ("PaneAcross$Paces", "bodies", "I", false)
  | 2 => ("PaneAcross$Paces", "traced", "[I", true)
  | 3 => ("PaneAcross$Paces", "ran", "I", false)
  | 4 => ("PaneAcross$Paces", "self", "I", false)
  | _ => ("PaneAcross$Paces", "selfKind", "I", false)
def tyX5 : Nat → FieldType := fun k => match k with
  | 0 => .array .int
  | 1 => .int
  | 2 => .array .int
  | 3 => .int
  | 4 => .int
  | _ => .int
abbrev wsX50 : List Cond := u_ws RX5 TX5 6
theorem nmX5 : ∀ a, a < 6 → ∀ b, b < 6 → a ≠ b → (TX5 a).2.1 ≠ (TX5 b).2.1 := by decide +kernel
theorem tyX5_ok : ∀ k, k < 6 → parseFieldDescriptor (TX5 k).2.2.1 = some (tyX5 k) := by decide +kernel
abbrev cX5_init : ByteArray := prog_7_method_1_code
def yX5_init : MethodName := ⟨RX5, "<init>", "()V"⟩
abbrev cX5_has : ByteArray := prog_7_method_2_code
def yX5_has : MethodName := ⟨RX5, "has", "(I)Z"⟩
abbrev cX5_add : ByteArray := prog_7_method_3_code
def yX5_add : MethodName := ⟨RX5, "add", "(I)I"⟩
abbrev cX5_kindOf : ByteArray := prog_7_method_4_code
def yX5_kindOf : MethodName := ⟨RX5, "kindOf", "(I)I"⟩
abbrev cX5_isUnder : ByteArray := prog_7_method_5_code
def yX5_isUnder : MethodName := ⟨RX5, "isUnder", "(II)Z"⟩
abbrev cX5_above : ByteArray := prog_7_method_6_code
def yX5_above : MethodName := ⟨RX5, "above", "(I)I"⟩
abbrev cX5_own : ByteArray := prog_7_method_7_code
def yX5_own : MethodName := ⟨RX5, "own", "(II)I"⟩
abbrev cX5_ranAs : ByteArray := prog_7_method_8_code
def yX5_ranAs : MethodName := ⟨RX5, "ranAs", "(I)I"⟩
abbrev cX5_perform : ByteArray := prog_7_method_9_code
def yX5_perform : MethodName := ⟨RX5, "perform", "(III)I"⟩
abbrev cX5_run : ByteArray := prog_7_method_10_code
def yX5_run : MethodName := ⟨RX5, "run", "(IIII)I"⟩
abbrev cX5_runBody : ByteArray := prog_7_method_11_code
def yX5_runBody : MethodName := ⟨RX5, "runBody", "(IIII)I"⟩
def RX6 : String := "PaneAcross$Shelf"
def TX6 : u_T := fun k => match k with
  | 0 => ("PaneAcross$Shelf", "holds", "I", false)
  | 1 => ("PaneAcross$Shelf", "body", "I", false)
  | 2 => ("PaneAcross$Shelf", "length", "I", false)
  | _ => ("PaneAcross$Shelf", "cells", "[J", true)
def tyX6 : Nat → FieldType := fun k => match k with
  | 0 => .int
  | 1 => .int
  | 2 => .int
  | _ => .array .long
abbrev wsX60 : List Cond := u_ws RX6 TX6 4
theorem nmX6 : ∀ a, a < 4 → ∀ b, b < 4 → a ≠ b → (TX6 a).2.1 ≠ (TX6 b).2.1 := by decide +kernel
theorem tyX6_ok : ∀ k, k < 4 → parseFieldDescriptor (TX6 k).2.2.1 = some (tyX6 k) := by decide +kernel
abbrev cX6_init : ByteArray := prog_8_method_1_code
def yX6_init : MethodName := ⟨RX6, "<init>", "()V"⟩
abbrev cX6_isEmpty : ByteArray := prog_8_method_2_code
def yX6_isEmpty : MethodName := ⟨RX6, "isEmpty", "()Z"⟩
abbrev cX6_holdsRow : ByteArray := prog_8_method_3_code
def yX6_holdsRow : MethodName := ⟨RX6, "holdsRow", "()Z"⟩
abbrev cX6_holdsBytes : ByteArray := prog_8_method_4_code
def yX6_holdsBytes : MethodName := ⟨RX6, "holdsBytes", "()Z"⟩
abbrev cX6_holdBody : ByteArray := prog_8_method_5_code
def yX6_holdBody : MethodName := ⟨RX6, "holdBody", "(I)V"⟩
abbrev cX6_holdRow : ByteArray := prog_8_method_6_code
def yX6_holdRow : MethodName := ⟨RX6, "holdRow", "(II)V"⟩
abbrev cX6_left : ByteArray := prog_8_method_7_code
def yX6_left : MethodName := ⟨RX6, "left", "(I)I"⟩
abbrev cX6_cell : ByteArray := prog_8_method_8_code
def yX6_cell : MethodName := ⟨RX6, "cell", "(I)J"⟩
abbrev cX6_write : ByteArray := prog_8_method_9_code
def yX6_write : MethodName := ⟨RX6, "write", "(IJ)V"⟩
abbrev cX6_fitted : ByteArray := prog_8_method_10_code
def yX6_fitted : MethodName := ⟨RX6, "fitted", "(J)J"⟩
abbrev cX6_heldAt : ByteArray := prog_8_method_11_code
def yX6_heldAt : MethodName := ⟨RX6, "heldAt", "(I)I"⟩
def RX7 : String := "PaneAcross$Strains"
def TX7 : u_T := fun k => match k with
  | 0 => ("PaneAcross$Strains", "street", "LPaneAcross$Street;", true)
  | 1 => ("PaneAcross$Strains", "law", "LPaneAcross$Law;", true)
  | 2 => ("PaneAcross$Strains", "names", "[I", true)
  | 3 => ("PaneAcross$Strains", "known", "[I", true)
  | 4 => ("PaneAcross$Strains", "men", "I", false)
  | 5 => ("PaneAcross$Strains", "scratch", "I", false)
  | 6 => ("PaneAcross$Strains", "more", "I", false)
  | _ => ("PaneAcross$Strains", "limit", "I", false)
def tyX7 : Nat → FieldType := fun k => match k with
  | 0 => .object "PaneAcross$Street"
  | 1 => .object "PaneAcross$Law"
  | 2 => .array .int
  | 3 => .array .int
  | 4 => .int
  | 5 => .int
  | 6 => .int
  | _ => .int
abbrev wsX70 : List Cond := u_ws RX7 TX7 8
theorem nmX7 : ∀ a, a < 8 → ∀ b, b < 8 → a ≠ b → (TX7 a).2.1 ≠ (TX7 b).2.1 := by decide +kernel
theorem tyX7_ok : ∀ k, k < 8 → parseFieldDescriptor (TX7 k).2.2.1 = some (tyX7 k) := by decide +kernel
abbrev cX7_init : ByteArray := prog_9_method_1_code
def yX7_init : MethodName := ⟨RX7, "<init>", "(LPaneAcross$Street;LPaneAcross$Law;)V"⟩
abbrev cX7_suppose : ByteArray := prog_9_method_2_code
def yX7_suppose : MethodName := ⟨RX7, "suppose", "(III)V"⟩
abbrev cX7_supposeNow : ByteArray := prog_9_method_3_code
def yX7_supposeNow : MethodName := ⟨RX7, "supposeNow", "()V"⟩
abbrev cX7_isTooMuch : ByteArray := prog_9_method_4_code
def yX7_isTooMuch : MethodName := ⟨RX7, "isTooMuch", "(I)Z"⟩
abbrev cX7_left : ByteArray := prog_9_method_5_code
def yX7_left : MethodName := ⟨RX7, "left", "(I)I"⟩
abbrev cX7_inMinute : ByteArray := prog_9_method_6_code
def yX7_inMinute : MethodName := ⟨RX7, "inMinute", "(III)I"⟩
abbrev cX7_workedOut : ByteArray := prog_9_method_7_code
def yX7_workedOut : MethodName := ⟨RX7, "workedOut", "(III)I"⟩
def RX8 : String := "PaneAcross$Street"
def TX8 : u_T := fun k => match k with
  | 0 => ("PaneAcross$Street", "numbers", "[I", true)
  | _ => ("PaneAcross$Street", "places", "I", false)
def tyX8 : Nat → FieldType := fun k => match k with
  | 0 => .array .int
  | _ => .int
abbrev wsX80 : List Cond := u_ws RX8 TX8 2
theorem nmX8 : ∀ a, a < 2 → ∀ b, b < 2 → a ≠ b → (TX8 a).2.1 ≠ (TX8 b).2.1 := by decide +kernel
theorem tyX8_ok : ∀ k, k < 2 → parseFieldDescriptor (TX8 k).2.2.1 = some (tyX8 k) := by decide +kernel
abbrev cX8_init : ByteArray := prog_10_method_1_code
def yX8_init : MethodName := ⟨RX8, "<init>", "()V"⟩
abbrev cX8_has : ByteArray := prog_10_method_2_code
def yX8_has : MethodName := ⟨RX8, "has", "(I)Z"⟩
abbrev cX8_add : ByteArray := prog_10_method_3_code
def yX8_add : MethodName := ⟨RX8, "add", "(III)I"⟩
abbrev cX8_slotOf : ByteArray := prog_10_method_4_code
def yX8_slotOf : MethodName := ⟨RX8, "slotOf", "(II)I"⟩
abbrev cX8_read : ByteArray := prog_10_method_5_code
def yX8_read : MethodName := ⟨RX8, "read", "(I)I"⟩
abbrev cX8_write : ByteArray := prog_10_method_6_code
def yX8_write : MethodName := ⟨RX8, "write", "(II)V"⟩
abbrev cX8_number : ByteArray := prog_10_method_7_code
def yX8_number : MethodName := ⟨RX8, "number", "(II)I"⟩
abbrev cX8_isGusty : ByteArray := prog_10_method_8_code
def yX8_isGusty : MethodName := ⟨RX8, "isGusty", "(II)Z"⟩
abbrev cX8_windIn : ByteArray := prog_10_method_9_code
def yX8_windIn : MethodName := ⟨RX8, "windIn", "(II)I"⟩
def RX9 : String := "PaneAcross$Walks"
def TX9 : u_T := fun k => match k with
  | 0 => ("PaneAcross$Walks", "street", "LPaneAcross$Street;", true)
  | 1 => ("PaneAcross$Walks", "strains", "LPaneAcross$Strains;", true)
  | 2 => ("PaneAcross$Walks", "ahead", "[I", true)
  | 3 => ("PaneAcross$Walks", "reached", "[I", true)
  | 4 => ("PaneAcross$Walks", "crackedAt", "I", false)
  | 5 => ("PaneAcross$Walks", "greatest", "I", false)
  | 6 => ("PaneAcross$Walks", "cameThere", "I", false)
  | 7 => ("PaneAcross$Walks", "passedPlaces", "I", false)
  | _ => ("PaneAcross$Walks", "z", "I", false)
def tyX9 : Nat → FieldType := fun k => match k with
  | 0 => .object "PaneAcross$Street"
  | 1 => .object "PaneAcross$Strains"
  | 2 => .array .int
  | 3 => .array .int
  | 4 => .int
  | 5 => .int
  | 6 => .int
  | 7 => .int
  | _ => .int
abbrev wsX90 : List Cond := u_ws RX9 TX9 9
theorem nmX9 : ∀ a, a < 9 → ∀ b, b < 9 → a ≠ b → (TX9 a).2.1 ≠ (TX9 b).2.1 := by decide +kernel
theorem tyX9_ok : ∀ k, k < 9 → parseFieldDescriptor (TX9 k).2.2.1 = some (tyX9 k) := by decide +kernel
abbrev cX9_init : ByteArray := prog_11_method_1_code
def yX9_init : MethodName := ⟨RX9, "<init>", "(LPaneAcross$Street;LPaneAcross$Strains;)V"⟩
abbrev cX9_passes : ByteArray := prog_11_method_2_code
def yX9_passes : MethodName := ⟨RX9, "passes", "(LPaneAcross$Shelf;)Z"⟩
abbrev cX9_follow : ByteArray := prog_11_method_3_code
def yX9_follow : MethodName := ⟨RX9, "follow", "(LPaneAcross$Shelf;II)V"⟩
abbrev cX9_bestStart : ByteArray := prog_11_method_4_code
def yX9_bestStart : MethodName := ⟨RX9, "bestStart", "(LPaneAcross$Shelf;)I"⟩
abbrev cX9_fewestMen : ByteArray := prog_11_method_5_code
def yX9_fewestMen : MethodName := ⟨RX9, "fewestMen", "(LPaneAcross$Shelf;I)I"⟩
abbrev cX9_nearestVan : ByteArray := prog_11_method_6_code
def yX9_nearestVan : MethodName := ⟨RX9, "nearestVan", "(LPaneAcross$Shelf;I)I"⟩
abbrev cX9_leastMoreGust : ByteArray := prog_11_method_7_code
def yX9_leastMoreGust : MethodName := ⟨RX9, "leastMoreGust", "(LPaneAcross$Shelf;I)I"⟩
abbrev cX9_greatestScratch : ByteArray := prog_11_method_8_code
def yX9_greatestScratch : MethodName := ⟨RX9, "greatestScratch", "(LPaneAcross$Shelf;I)I"⟩
abbrev cX9_lookAhead : ByteArray := prog_11_method_9_code
def yX9_lookAhead : MethodName := ⟨RX9, "lookAhead", "(I)V"⟩
abbrev cX9_setAhead : ByteArray := prog_11_method_10_code
def yX9_setAhead : MethodName := ⟨RX9, "setAhead", "(III)V"⟩
abbrev cX9_turnedAhead : ByteArray := prog_11_method_11_code
def yX9_turnedAhead : MethodName := ⟨RX9, "turnedAhead", "(III)I"⟩
abbrev cX9_leastAhead : ByteArray := prog_11_method_12_code
def yX9_leastAhead : MethodName := ⟨RX9, "leastAhead", "(II)I"⟩
abbrev cX9_bestAhead : ByteArray := prog_11_method_13_code
def yX9_bestAhead : MethodName := ⟨RX9, "bestAhead", "(II)I"⟩
abbrev cX9_bestHold : ByteArray := prog_11_method_14_code
def yX9_bestHold : MethodName := ⟨RX9, "bestHold", "()J"⟩
abbrev cX9_fewestMinutes : ByteArray := prog_11_method_15_code
def yX9_fewestMinutes : MethodName := ⟨RX9, "fewestMinutes", "(I)I"⟩
abbrev cX9_leastWithin : ByteArray := prog_11_method_16_code
def yX9_leastWithin : MethodName := ⟨RX9, "leastWithin", "(II)I"⟩
abbrev cX9_reachedShop : ByteArray := prog_11_method_17_code
def yX9_reachedShop : MethodName := ⟨RX9, "reachedShop", "()I"⟩
abbrev cX9_reachBy : ByteArray := prog_11_method_18_code
def yX9_reachBy : MethodName := ⟨RX9, "reachBy", "(II)V"⟩
abbrev cX9_borne : ByteArray := prog_11_method_19_code
def yX9_borne : MethodName := ⟨RX9, "borne", "(III)I"⟩
abbrev cX9_minutesLike : ByteArray := prog_11_method_20_code
def yX9_minutesLike : MethodName := ⟨RX9, "minutesLike", "(LPaneAcross$Shelf;I)J"⟩
abbrev cX9_firstUnlike : ByteArray := prog_11_method_21_code
def yX9_firstUnlike : MethodName := ⟨RX9, "firstUnlike", "(LPaneAcross$Shelf;II)I"⟩
abbrev cX9_draw : ByteArray := prog_11_method_22_code
def yX9_draw : MethodName := ⟨RX9, "draw", "(III)V"⟩
abbrev cX9_drawOne : ByteArray := prog_11_method_23_code
def yX9_drawOne : MethodName := ⟨RX9, "drawOne", "(II)V"⟩
def RX10 : String := "PaneAcross"
def TX10 : u_T := fun k => match k with
  | 0 => ("PaneAcross", "street", "LPaneAcross$Street;", true)
  | 1 => ("PaneAcross", "changes", "LPaneAcross$Changes;", true)
  | 2 => ("PaneAcross", "rule", "LPaneAcross$Law;", true)
  | 3 => ("PaneAcross", "strains", "LPaneAcross$Strains;", true)
  | 4 => ("PaneAcross", "walks", "LPaneAcross$Walks;", true)
  | 5 => ("PaneAcross", "chances", "LPaneAcross$Chances;", true)
  | 6 => ("PaneAcross", "deeds", "LPaneAcross$Deeds;", true)
  | 7 => ("PaneAcross", "paces", "LPaneAcross$Paces;", true)
  | _ => ("PaneAcross", "shelves", "[LPaneAcross$Shelf;", true)
def tyX10 : Nat → FieldType := fun k => match k with
  | 0 => .object "PaneAcross$Street"
  | 1 => .object "PaneAcross$Changes"
  | 2 => .object "PaneAcross$Law"
  | 3 => .object "PaneAcross$Strains"
  | 4 => .object "PaneAcross$Walks"
  | 5 => .object "PaneAcross$Chances"
  | 6 => .object "PaneAcross$Deeds"
  | 7 => .object "PaneAcross$Paces"
  | _ => .array (.object "PaneAcross$Shelf")
abbrev wsX100 : List Cond := u_ws RX10 TX10 9
theorem nmX10 : ∀ a, a < 9 → ∀ b, b < 9 → a ≠ b → (TX10 a).2.1 ≠ (TX10 b).2.1 := by decide +kernel
theorem tyX10_ok : ∀ k, k < 9 → parseFieldDescriptor (TX10 k).2.2.1 = some (tyX10 k) := by decide +kernel
abbrev cX10_init : ByteArray := prog_1_method_1_code
def yX10_init : MethodName := ⟨RX10, "<init>", "()V"⟩
abbrev cX10_place : ByteArray := prog_1_method_2_code
def yX10_place : MethodName := ⟨RX10, "place", "(II)I"⟩
abbrev cX10_places : ByteArray := prog_1_method_3_code
def yX10_places : MethodName := ⟨RX10, "places", "(III)I"⟩
abbrev cX10_addFrom : ByteArray := prog_1_method_4_code
def yX10_addFrom : MethodName := ⟨RX10, "addFrom", "(LPaneAcross$Shelf;I)Z"⟩
abbrev cX10_mend : ByteArray := prog_1_method_5_code
def yX10_mend : MethodName := ⟨RX10, "mend", "(III)I"⟩
abbrev cX10_of : ByteArray := prog_1_method_6_code
def yX10_of : MethodName := ⟨RX10, "of", "(II)I"⟩
abbrev cX10_wind : ByteArray := prog_1_method_7_code
def yX10_wind : MethodName := ⟨RX10, "wind", "(II)I"⟩
abbrev cX10_feed : ByteArray := prog_1_method_8_code
def yX10_feed : MethodName := ⟨RX10, "feed", "(I)I"⟩
abbrev cX10_law : ByteArray := prog_1_method_9_code
def yX10_law : MethodName := ⟨RX10, "law", "()I"⟩
abbrev cX10_strain : ByteArray := prog_1_method_10_code
def yX10_strain : MethodName := ⟨RX10, "strain", "(II)I"⟩
abbrev cX10_walk : ByteArray := prog_1_method_11_code
def yX10_walk : MethodName := ⟨RX10, "walk", "(III)I"⟩
abbrev cX10_start : ByteArray := prog_1_method_12_code
def yX10_start : MethodName := ⟨RX10, "start", "(II)I"⟩
abbrev cX10_hold : ByteArray := prog_1_method_13_code
def yX10_hold : MethodName := ⟨RX10, "hold", "(II)J"⟩
abbrev cX10_soonest : ByteArray := prog_1_method_14_code
def yX10_soonest : MethodName := ⟨RX10, "soonest", "(I)I"⟩
abbrev cX10_safest : ByteArray := prog_1_method_15_code
def yX10_safest : MethodName := ⟨RX10, "safest", "(II)I"⟩
abbrev cX10_menFor : ByteArray := prog_1_method_16_code
def yX10_menFor : MethodName := ⟨RX10, "menFor", "(II)I"⟩
abbrev cX10_van : ByteArray := prog_1_method_17_code
def yX10_van : MethodName := ⟨RX10, "van", "(II)I"⟩
abbrev cX10_windFrom : ByteArray := prog_1_method_18_code
def yX10_windFrom : MethodName := ⟨RX10, "windFrom", "(II)I"⟩
abbrev cX10_scratchFor : ByteArray := prog_1_method_19_code
def yX10_scratchFor : MethodName := ⟨RX10, "scratchFor", "(II)I"⟩
abbrev cX10_free : ByteArray := prog_1_method_20_code
def yX10_free : MethodName := ⟨RX10, "free", "(I)J"⟩
abbrev cX10_watch : ByteArray := prog_1_method_21_code
def yX10_watch : MethodName := ⟨RX10, "watch", "(I)J"⟩
abbrev cX10_earlier : ByteArray := prog_1_method_22_code
def yX10_earlier : MethodName := ⟨RX10, "earlier", "(II)J"⟩
abbrev cX10_cost : ByteArray := prog_1_method_23_code
def yX10_cost : MethodName := ⟨RX10, "cost", "(III)J"⟩
abbrev cX10_begun : ByteArray := prog_1_method_24_code
def yX10_begun : MethodName := ⟨RX10, "begun", "(II)J"⟩
abbrev cX10_judge : ByteArray := prog_1_method_25_code
def yX10_judge : MethodName := ⟨RX10, "judge", "(II)I"⟩
abbrev cX10_drawn : ByteArray := prog_1_method_26_code
def yX10_drawn : MethodName := ⟨RX10, "drawn", "(III)I"⟩
abbrev cX10_out : ByteArray := prog_1_method_27_code
def yX10_out : MethodName := ⟨RX10, "out", "(II)I"⟩
abbrev cX10_pace : ByteArray := prog_1_method_28_code
def yX10_pace : MethodName := ⟨RX10, "pace", "(I)I"⟩
abbrev cX10_rest : ByteArray := prog_1_method_29_code
def yX10_rest : MethodName := ⟨RX10, "rest", "(I)I"⟩
abbrev cX10_led : ByteArray := prog_1_method_30_code
def yX10_led : MethodName := ⟨RX10, "led", "(I)I"⟩
abbrev cX10_image : ByteArray := prog_1_method_31_code
def yX10_image : MethodName := ⟨RX10, "image", "()I"⟩
abbrev cX10_back : ByteArray := prog_1_method_32_code
def yX10_back : MethodName := ⟨RX10, "back", "()I"⟩
abbrev cX10_undo : ByteArray := prog_1_method_33_code
def yX10_undo : MethodName := ⟨RX10, "undo", "()I"⟩
abbrev cX10_redo : ByteArray := prog_1_method_34_code
def yX10_redo : MethodName := ⟨RX10, "redo", "()I"⟩
abbrev cX10_body : ByteArray := prog_1_method_35_code
def yX10_body : MethodName := ⟨RX10, "body", "(I)I"⟩
abbrev cX10_act : ByteArray := prog_1_method_36_code
def yX10_act : MethodName := ⟨RX10, "act", "(III)I"⟩
abbrev cX10_trace : ByteArray := prog_1_method_37_code
def yX10_trace : MethodName := ⟨RX10, "trace", "(I)I"⟩
abbrev cX10_keep : ByteArray := prog_1_method_38_code
def yX10_keep : MethodName := ⟨RX10, "keep", "(II)I"⟩
abbrev cX10_row : ByteArray := prog_1_method_39_code
def yX10_row : MethodName := ⟨RX10, "row", "(III)I"⟩
abbrev cX10_put : ByteArray := prog_1_method_40_code
def yX10_put : MethodName := ⟨RX10, "put", "(IIJ)I"⟩
abbrev cX10_element : ByteArray := prog_1_method_41_code
def yX10_element : MethodName := ⟨RX10, "element", "(II)J"⟩
abbrev cX10_shift : ByteArray := prog_1_method_42_code
def yX10_shift : MethodName := ⟨RX10, "shift", "(IIIII)I"⟩
abbrev cX10_taken : ByteArray := prog_1_method_43_code
def yX10_taken : MethodName := ⟨RX10, "taken", "(II)I"⟩
abbrev cX10_count : ByteArray := prog_1_method_44_code
def yX10_count : MethodName := ⟨RX10, "count", "(I)I"⟩
abbrev cX10_isWithin : ByteArray := prog_1_method_45_code
def yX10_isWithin : MethodName := ⟨RX10, "isWithin", "(III)Z"⟩
abbrev cX10_isMinute : ByteArray := prog_1_method_46_code
def yX10_isMinute : MethodName := ⟨RX10, "isMinute", "(I)Z"⟩
abbrev cX10_isHold : ByteArray := prog_1_method_47_code
def yX10_isHold : MethodName := ⟨RX10, "isHold", "(I)Z"⟩
abbrev cX10_isAsSaid : ByteArray := prog_1_method_48_code
def yX10_isAsSaid : MethodName := ⟨RX10, "isAsSaid", "(II)Z"⟩
abbrev cX10_shelfAt : ByteArray := prog_1_method_49_code
def yX10_shelfAt : MethodName := ⟨RX10, "shelfAt", "(I)LPaneAcross$Shelf;"⟩
abbrev cX10_walkRefused : ByteArray := prog_1_method_50_code
def yX10_walkRefused : MethodName := ⟨RX10, "walkRefused", "(LPaneAcross$Shelf;)I"⟩
abbrev cX10_longRefusal : ByteArray := prog_1_method_51_code
def yX10_longRefusal : MethodName := ⟨RX10, "longRefusal", "(I)J"⟩
abbrev cX10_elementRefused : ByteArray := prog_1_method_52_code
def yX10_elementRefused : MethodName := ⟨RX10, "elementRefused", "(LPaneAcross$Shelf;I)I"⟩
def RX11 : String := "PaneAcrossModel"
def TX11 : u_T := fun k => match k with
  | 0 => ("PaneAcrossModel", "may", "[I", true)
  | 1 => ("PaneAcrossModel", "changeAt", "[I", true)
  | 2 => ("PaneAcrossModel", "changeWas", "[I", true)
  | 3 => ("PaneAcrossModel", "changeIs", "[I", true)
  | 4 => ("PaneAcrossModel", "keptMany", "I", false)
  | 5 => ("PaneAcrossModel", "done", "I", false)
  | 6 => ("PaneAcrossModel", "places", "I", false)
  | 7 => ("PaneAcrossModel", "moreGust", "I", false)
  | 8 => ("PaneAcrossModel", "tape", "[I", true)
  | 9 => ("PaneAcrossModel", "tapeMany", "I", false)
  | 10 => ("PaneAcrossModel", "text", "[I", true)
  | 11 => ("PaneAcrossModel", "textMany", "I", false)
  | 12 => ("PaneAcrossModel", "base", "I", false)
  | 13 => ("PaneAcrossModel", "at", "I", false)
  | 14 => ("PaneAcrossModel", "ends", "I", false)
  | 15 => ("PaneAcrossModel", "fault", "I", false)
  | 16 => ("PaneAcrossModel", "opened", "I", false)
  | 17 => ("PaneAcrossModel", "names", "[I", true)
  | 18 => ("PaneAcrossModel", "crackedIn", "I", false)
  | 19 => ("PaneAcrossModel", "mostStrain", "I", false)
  | 20 => ("PaneAcrossModel", "leastFrom", "[I", true)
  | 21 => ("PaneAcrossModel", "leastIn", "[I", true)
  | 22 => ("PaneAcrossModel", "leastThen", "[I", true)
  | 23 => ("PaneAcrossModel", "onPlace", "I", false)
  | 24 => ("PaneAcrossModel", "onMinute", "I", false)
  | 25 => ("PaneAcrossModel", "onHeld", "I", false)
  | 26 => ("PaneAcrossModel", "onStrain", "I", false)
  | 27 => ("PaneAcrossModel", "ledArrived", "I", false)
  | 28 => ("PaneAcrossModel", "ledCracked", "I", false)
  | 29 => ("PaneAcrossModel", "ledPaces", "I", false)
  | 30 => ("PaneAcrossModel", "ledRests", "I", false)
  | 31 => ("PaneAcrossModel", "ledLeft", "I", false)
  | 32 => ("PaneAcrossModel", "isKept", "Z", false)
  | 33 => ("PaneAcrossModel", "image", "[I", true)
  | 34 => ("PaneAcrossModel", "bodies", "I", false)
  | 35 => ("PaneAcrossModel", "bodyKind", "[I", true)
  | 36 => ("PaneAcrossModel", "trace", "[I", true)
  | 37 => ("PaneAcrossModel", "ran", "I", false)
  | 38 => ("PaneAcrossModel", "ownKind", "I", false)
  | 39 => ("PaneAcrossModel", "ownNumber", "I", false)
  | 40 => ("PaneAcrossModel", "shelf", "[I", true)
  | 41 => ("PaneAcrossModel", "many", "[I", true)
  | 42 => ("PaneAcrossModel", "items", "[J", true)
  | _ => ("PaneAcrossModel", "carried", "[J", true)
def tyX11 : Nat → FieldType := fun k => match k with
  | 0 => .array .int
  | 1 => .array .int
  | 2 => .array .int
  | 3 => .array .int
  | 4 => .int
  | 5 => .int
  | 6 => .int
  | 7 => .int
  | 8 => .array .int
  | 9 => .int
  | 10 => .array .int
  | 11 => .int
  | 12 => .int
  | 13 => .int
  | 14 => .int
  | 15 => .int
  | 16 => .int
  | 17 => .array .int
  | 18 => .int
  | 19 => .int
  | 20 => .array .int
  | 21 => .array .int
  | 22 => .array .int
  | 23 => .int
  | 24 => .int
  | 25 => .int
  | 26 => .int
  | 27 => .int
  | 28 => .int
  | 29 => .int
  | 30 => .int
  | 31 => .int
  | 32 => .boolean
  | 33 => .array .int
  | 34 => .int
  | 35 => .array .int
  | 36 => .array .int
  | 37 => .int
  | 38 => .int
  | 39 => .int
  | 40 => .array .int
  | 41 => .array .int
  | 42 => .array .long
  | _ => .array .long
abbrev wsX110 : List Cond := u_ws RX11 TX11 44
theorem nmX11 : ∀ a, a < 44 → ∀ b, b < 44 → a ≠ b → (TX11 a).2.1 ≠ (TX11 b).2.1 := by decide +kernel
theorem tyX11_ok : ∀ k, k < 44 → parseFieldDescriptor (TX11 k).2.2.1 = some (tyX11 k) := by decide +kernel
abbrev cX11_within : ByteArray := prog_13_method_1_code
def yX11_within : MethodName := ⟨RX11, "within", "(JJJ)Z"⟩
abbrev cX11_init : ByteArray := prog_13_method_2_code
def yX11_init : MethodName := ⟨RX11, "<init>", "()V"⟩
abbrev cX11_becomes : ByteArray := prog_13_method_3_code
def yX11_becomes : MethodName := ⟨RX11, "becomes", "(II)I"⟩
abbrev cX11_undo : ByteArray := prog_13_method_4_code
def yX11_undo : MethodName := ⟨RX11, "undo", "()I"⟩
abbrev cX11_redo : ByteArray := prog_13_method_5_code
def yX11_redo : MethodName := ⟨RX11, "redo", "()I"⟩
abbrev cX11_isPlace : ByteArray := prog_13_method_6_code
def yX11_isPlace : MethodName := ⟨RX11, "isPlace", "(I)Z"⟩
abbrev cX11_isHeld : ByteArray := prog_13_method_7_code
def yX11_isHeld : MethodName := ⟨RX11, "isHeld", "(J)Z"⟩
abbrev cX11_isMinute : ByteArray := prog_13_method_8_code
def yX11_isMinute : MethodName := ⟨RX11, "isMinute", "(I)Z"⟩
abbrev cX11_adds : ByteArray := prog_13_method_9_code
def yX11_adds : MethodName := ⟨RX11, "adds", "(III)V"⟩
abbrev cX11_isOne : ByteArray := prog_13_method_10_code
def yX11_isOne : MethodName := ⟨RX11, "isOne", "(JJJ)Z"⟩
abbrev cX11_place : ByteArray := prog_13_method_11_code
def yX11_place : MethodName := ⟨RX11, "place", "(II)I"⟩
abbrev cX11_places : ByteArray := prog_13_method_12_code
def yX11_places : MethodName := ⟨RX11, "places", "(III)I"⟩
abbrev cX11_placeOf : ByteArray := prog_13_method_13_code
def yX11_placeOf : MethodName := ⟨RX11, "placeOf", "(II)I"⟩
abbrev cX11_mayBecome : ByteArray := prog_13_method_14_code
def yX11_mayBecome : MethodName := ⟨RX11, "mayBecome", "(II)Z"⟩
abbrev cX11_mend : ByteArray := prog_13_method_15_code
def yX11_mend : MethodName := ⟨RX11, "mend", "(III)I"⟩
abbrev cX11_of : ByteArray := prog_13_method_16_code
def yX11_of : MethodName := ⟨RX11, "of", "(II)I"⟩
abbrev cX11_windAt : ByteArray := prog_13_method_17_code
def yX11_windAt : MethodName := ⟨RX11, "windAt", "(II)I"⟩
abbrev cX11_wind : ByteArray := prog_13_method_18_code
def yX11_wind : MethodName := ⟨RX11, "wind", "(II)I"⟩
abbrev cX11_feed : ByteArray := prog_13_method_19_code
def yX11_feed : MethodName := ⟨RX11, "feed", "(I)I"⟩
abbrev cX11_byteAt : ByteArray := prog_13_method_20_code
def yX11_byteAt : MethodName := ⟨RX11, "byteAt", "()I"⟩
abbrev cX11_wrong : ByteArray := prog_13_method_21_code
def yX11_wrong : MethodName := ⟨RX11, "wrong", "()I"⟩
abbrev cX11_takes : ByteArray := prog_13_method_22_code
def yX11_takes : MethodName := ⟨RX11, "takes", "(I)Z"⟩
abbrev cX11_either : ByteArray := prog_13_method_23_code
def yX11_either : MethodName := ⟨RX11, "either", "()I"⟩
abbrev cX11_both : ByteArray := prog_13_method_24_code
def yX11_both : MethodName := ⟨RX11, "both", "()I"⟩
abbrev cX11_compared : ByteArray := prog_13_method_25_code
def yX11_compared : MethodName := ⟨RX11, "compared", "()I"⟩
abbrev cX11_sums : ByteArray := prog_13_method_26_code
def yX11_sums : MethodName := ⟨RX11, "sums", "()I"⟩
abbrev cX11_product : ByteArray := prog_13_method_27_code
def yX11_product : MethodName := ⟨RX11, "product", "()I"⟩
abbrev cX11_nameOf : ByteArray := prog_13_method_28_code
def yX11_nameOf : MethodName := ⟨RX11, "nameOf", "(I)I"⟩
abbrev cX11_one : ByteArray := prog_13_method_29_code
def yX11_one : MethodName := ⟨RX11, "one", "()I"⟩
abbrev cX11_workOut : ByteArray := prog_13_method_30_code
def yX11_workOut : MethodName := ⟨RX11, "workOut", "(II)I"⟩
abbrev cX11_law : ByteArray := prog_13_method_31_code
def yX11_law : MethodName := ⟨RX11, "law", "()I"⟩
abbrev cX11_strainAt : ByteArray := prog_13_method_32_code
def yX11_strainAt : MethodName := ⟨RX11, "strainAt", "(III)I"⟩
abbrev cX11_strain : ByteArray := prog_13_method_33_code
def yX11_strain : MethodName := ⟨RX11, "strain", "(II)I"⟩
abbrev cX11_bears : ByteArray := prog_13_method_34_code
def yX11_bears : MethodName := ⟨RX11, "bears", "()I"⟩
abbrev cX11_bytesIs : ByteArray := prog_13_method_35_code
def yX11_bytesIs : MethodName := ⟨RX11, "bytesIs", "(I)I"⟩
abbrev cX11_walkIs : ByteArray := prog_13_method_36_code
def yX11_walkIs : MethodName := ⟨RX11, "walkIs", "(I)I"⟩
abbrev cX11_heldBy : ByteArray := prog_13_method_37_code
def yX11_heldBy : MethodName := ⟨RX11, "heldBy", "(II)I"⟩
abbrev cX11_walks : ByteArray := prog_13_method_38_code
def yX11_walks : MethodName := ⟨RX11, "walks", "(III)V"⟩
abbrev cX11_passes : ByteArray := prog_13_method_39_code
def yX11_passes : MethodName := ⟨RX11, "passes", "(I)I"⟩
abbrev cX11_walk : ByteArray := prog_13_method_40_code
def yX11_walk : MethodName := ⟨RX11, "walk", "(III)I"⟩
abbrev cX11_start : ByteArray := prog_13_method_41_code
def yX11_start : MethodName := ⟨RX11, "start", "(II)I"⟩
abbrev cX11_turned : ByteArray := prog_13_method_42_code
def yX11_turned : MethodName := ⟨RX11, "turned", "(II)I"⟩
abbrev cX11_bestHeld : ByteArray := prog_13_method_43_code
def yX11_bestHeld : MethodName := ⟨RX11, "bestHeld", "(II)I"⟩
abbrev cX11_fillsLeast : ByteArray := prog_13_method_44_code
def yX11_fillsLeast : MethodName := ⟨RX11, "fillsLeast", "(I)V"⟩
abbrev cX11_hold : ByteArray := prog_13_method_45_code
def yX11_hold : MethodName := ⟨RX11, "hold", "(II)J"⟩
abbrev cX11_begins1 : ByteArray := prog_13_method_46_code
def yX11_begins1 : MethodName := ⟨RX11, "begins1", "(I)V"⟩
abbrev cX11_restedAt : ByteArray := prog_13_method_47_code
def yX11_restedAt : MethodName := ⟨RX11, "restedAt", "(II)I"⟩
abbrev cX11_pacedTo : ByteArray := prog_13_method_48_code
def yX11_pacedTo : MethodName := ⟨RX11, "pacedTo", "(II)I"⟩
abbrev cX11_minuteGoes : ByteArray := prog_13_method_49_code
def yX11_minuteGoes : MethodName := ⟨RX11, "minuteGoes", "(I)V"⟩
abbrev cX11_soonest : ByteArray := prog_13_method_50_code
def yX11_soonest : MethodName := ⟨RX11, "soonest", "(I)I"⟩
abbrev cX11_safest : ByteArray := prog_13_method_51_code
def yX11_safest : MethodName := ⟨RX11, "safest", "(II)I"⟩
abbrev cX11_menFor : ByteArray := prog_13_method_52_code
def yX11_menFor : MethodName := ⟨RX11, "menFor", "(II)I"⟩
abbrev cX11_van : ByteArray := prog_13_method_53_code
def yX11_van : MethodName := ⟨RX11, "van", "(II)I"⟩
abbrev cX11_windFrom : ByteArray := prog_13_method_54_code
def yX11_windFrom : MethodName := ⟨RX11, "windFrom", "(II)I"⟩
abbrev cX11_scratchFor : ByteArray := prog_13_method_55_code
def yX11_scratchFor : MethodName := ⟨RX11, "scratchFor", "(II)I"⟩
abbrev cX11_commonOf : ByteArray := prog_13_method_56_code
def yX11_commonOf : MethodName := ⟨RX11, "commonOf", "(JJ)J"⟩
abbrev cX11_partOf : ByteArray := prog_13_method_57_code
def yX11_partOf : MethodName := ⟨RX11, "partOf", "(JJI)J"⟩
abbrev cX11_lineOf : ByteArray := prog_13_method_58_code
def yX11_lineOf : MethodName := ⟨RX11, "lineOf", "()J"⟩
abbrev cX11_freeWays : ByteArray := prog_13_method_59_code
def yX11_freeWays : MethodName := ⟨RX11, "freeWays", "(II)J"⟩
abbrev cX11_free : ByteArray := prog_13_method_60_code
def yX11_free : MethodName := ⟨RX11, "free", "(I)J"⟩
abbrev cX11_watch : ByteArray := prog_13_method_61_code
def yX11_watch : MethodName := ⟨RX11, "watch", "(I)J"⟩
abbrev cX11_earlier : ByteArray := prog_13_method_62_code
def yX11_earlier : MethodName := ⟨RX11, "earlier", "(II)J"⟩
abbrev cX11_cost : ByteArray := prog_13_method_63_code
def yX11_cost : MethodName := ⟨RX11, "cost", "(III)J"⟩
abbrev cX11_firstFalse : ByteArray := prog_13_method_64_code
def yX11_firstFalse : MethodName := ⟨RX11, "firstFalse", "(III)I"⟩
abbrev cX11_begun : ByteArray := prog_13_method_65_code
def yX11_begun : MethodName := ⟨RX11, "begun", "(II)J"⟩
abbrev cX11_judge : ByteArray := prog_13_method_66_code
def yX11_judge : MethodName := ⟨RX11, "judge", "(II)I"⟩
abbrev cX11_drawn : ByteArray := prog_13_method_67_code
def yX11_drawn : MethodName := ⟨RX11, "drawn", "(III)I"⟩
abbrev cX11_minuteIs : ByteArray := prog_13_method_68_code
def yX11_minuteIs : MethodName := ⟨RX11, "minuteIs", "(IZ)I"⟩
abbrev cX11_out : ByteArray := prog_13_method_69_code
def yX11_out : MethodName := ⟨RX11, "out", "(II)I"⟩
abbrev cX11_pace : ByteArray := prog_13_method_70_code
def yX11_pace : MethodName := ⟨RX11, "pace", "(I)I"⟩
abbrev cX11_rest : ByteArray := prog_13_method_71_code
def yX11_rest : MethodName := ⟨RX11, "rest", "(I)I"⟩
abbrev cX11_led : ByteArray := prog_13_method_72_code
def yX11_led : MethodName := ⟨RX11, "led", "(I)I"⟩
abbrev cX11_image : ByteArray := prog_13_method_73_code
def yX11_image : MethodName := ⟨RX11, "image", "()I"⟩
abbrev cX11_back : ByteArray := prog_13_method_74_code
def yX11_back : MethodName := ⟨RX11, "back", "()I"⟩
abbrev cX11_isBody : ByteArray := prog_13_method_75_code
def yX11_isBody : MethodName := ⟨RX11, "isBody", "(I)Z"⟩
abbrev cX11_kindOf : ByteArray := prog_13_method_76_code
def yX11_kindOf : MethodName := ⟨RX11, "kindOf", "(I)I"⟩
abbrev cX11_body : ByteArray := prog_13_method_77_code
def yX11_body : MethodName := ⟨RX11, "body", "(I)I"⟩
abbrev cX11_above : ByteArray := prog_13_method_78_code
def yX11_above : MethodName := ⟨RX11, "above", "(I)I"⟩
abbrev cX11_begins : ByteArray := prog_13_method_79_code
def yX11_begins : MethodName := ⟨RX11, "begins", "(I)V"⟩
abbrev cX11_goesAs : ByteArray := prog_13_method_80_code
def yX11_goesAs : MethodName := ⟨RX11, "goesAs", "(II)I"⟩
abbrev cX11_strainsAs : ByteArray := prog_13_method_81_code
def yX11_strainsAs : MethodName := ⟨RX11, "strainsAs", "(II)I"⟩
abbrev cX11_leansAs : ByteArray := prog_13_method_82_code
def yX11_leansAs : MethodName := ⟨RX11, "leansAs", "(II)I"⟩
abbrev cX11_tellsAs : ByteArray := prog_13_method_83_code
def yX11_tellsAs : MethodName := ⟨RX11, "tellsAs", "(II)I"⟩
abbrev cX11_act : ByteArray := prog_13_method_84_code
def yX11_act : MethodName := ⟨RX11, "act", "(III)I"⟩
abbrev cX11_trace : ByteArray := prog_13_method_85_code
def yX11_trace : MethodName := ⟨RX11, "trace", "(I)I"⟩
abbrev cX11_isShelf : ByteArray := prog_13_method_86_code
def yX11_isShelf : MethodName := ⟨RX11, "isShelf", "(I)Z"⟩
abbrev cX11_keep : ByteArray := prog_13_method_87_code
def yX11_keep : MethodName := ⟨RX11, "keep", "(II)I"⟩
abbrev cX11_row : ByteArray := prog_13_method_88_code
def yX11_row : MethodName := ⟨RX11, "row", "(III)I"⟩
abbrev cX11_refusal : ByteArray := prog_13_method_89_code
def yX11_refusal : MethodName := ⟨RX11, "refusal", "(II)I"⟩
abbrev cX11_asSort : ByteArray := prog_13_method_90_code
def yX11_asSort : MethodName := ⟨RX11, "asSort", "(IJ)J"⟩
abbrev cX11_put : ByteArray := prog_13_method_91_code
def yX11_put : MethodName := ⟨RX11, "put", "(IIJ)I"⟩
abbrev cX11_element : ByteArray := prog_13_method_92_code
def yX11_element : MethodName := ⟨RX11, "element", "(II)J"⟩
abbrev cX11_shift : ByteArray := prog_13_method_93_code
def yX11_shift : MethodName := ⟨RX11, "shift", "(IIIII)I"⟩
abbrev cX11_taken : ByteArray := prog_13_method_94_code
def yX11_taken : MethodName := ⟨RX11, "taken", "(II)I"⟩
abbrev cX11_count : ByteArray := prog_13_method_95_code
def yX11_count : MethodName := ⟨RX11, "count", "(I)I"⟩
def RJ9 : String := "java/lang/Math"
def TJ9 : u_T := fun k => match k with
  | _ => ("", "", "", false)
def tyJ9 : Nat → FieldType := fun k => match k with
  | _ => .int
abbrev wsJ90 : List Cond := u_ws RJ9 TJ9 0
theorem nmJ9 : ∀ a, a < 0 → ∀ b, b < 0 → a ≠ b → (TJ9 a).2.1 ≠ (TJ9 b).2.1 := by decide +kernel
theorem tyJ9_ok : ∀ k, k < 0 → parseFieldDescriptor (TJ9 k).2.2.1 = some (tyJ9 k) := by decide +kernel
abbrev cJ9_max_7cf53 : ByteArray := prog_14_method_65_code
def yJ9_max_7cf53 : MethodName := ⟨RJ9, "max", "(II)I"⟩
abbrev cJ9_min_7cf53 : ByteArray := prog_14_method_69_code
def yJ9_min_7cf53 : MethodName := ⟨RJ9, "min", "(II)I"⟩
def RJ10 : String := "java/lang/System"
def TJ10 : u_T := fun k => match k with
  | _ => ("", "", "", false)
def tyJ10 : Nat → FieldType := fun k => match k with
  | _ => .int
abbrev wsJ100 : List Cond := u_ws RJ10 TJ10 0
theorem nmJ10 : ∀ a, a < 0 → ∀ b, b < 0 → a ≠ b → (TJ10 a).2.1 ≠ (TJ10 b).2.1 := by decide +kernel
theorem tyJ10_ok : ∀ k, k < 0 → parseFieldDescriptor (TJ10 k).2.2.1 = some (tyJ10 k) := by decide +kernel
def RJ7 : String := "java/util/Arrays"
def TJ7 : u_T := fun k => match k with
  | _ => ("", "", "", false)
def tyJ7 : Nat → FieldType := fun k => match k with
  | _ => .int
abbrev wsJ70 : List Cond := u_ws RJ7 TJ7 0
theorem nmJ7 : ∀ a, a < 0 → ∀ b, b < 0 → a ≠ b → (TJ7 a).2.1 ≠ (TJ7 b).2.1 := by decide +kernel
theorem tyJ7_ok : ∀ k, k < 0 → parseFieldDescriptor (TJ7 k).2.2.1 = some (tyJ7 k) := by decide +kernel
abbrev cJ7_fill_d0a16 : ByteArray := prog_16_method_101_code
def yJ7_fill_d0a16 : MethodName := ⟨RJ7, "fill", "([JJ)V"⟩
abbrev cJ7_fill_53178 : ByteArray := prog_16_method_103_code
def yJ7_fill_53178 : MethodName := ⟨RJ7, "fill", "([II)V"⟩
def RL : String := "PaneAcrossLaw"
abbrev vwCl : List vw_C := [(RX0, TX0, 1), (RX1, TX1, 5), (RX2, TX2, 5), (RX3, TX3, 12), (RX4, TX4, 10), (RX5, TX5, 6), (RX6, TX6, 4), (RX7, TX7, 8), (RX8, TX8, 2), (RX9, TX9, 9), (RX10, TX10, 9), (RX11, TX11, 44)]
end
section
/-! THE LAYER: a small machine over a fixed lay-out of objects and arrays, sound for W. A cell is a pair (t, j): the j-th of its kind t. Numbers of all cells: SS. -/
abbrev AV : Type := Value ⊕ (Nat × Nat)
abbrev SS : Type := (Nat → Nat → Nat → Int32) × (Nat → Nat → Nat → Int32) × (Nat → Nat → Nat → Int64)
abbrev aI (x : Int32) : AV := .inl (.int x)
abbrev aJ (x : Int64) : AV := .inl (.long x)
abbrev aR (t j : Nat) : AV := .inr (t, j)
abbrev aN : AV := .inl .null
/-- what a kind of cell is: an object of a class, its fields (none: a number; some (t, b): the cell t, of the same place or the first), or an array: 0 of ints, 1 of longs, k + 2 of references to the cells of kind k; and how many of the kind there are -/
abbrev aSp : Type := (Nat × List (Option (Nat × Bool))) ⊕ (Nat × Nat)
abbrev aLy : Type := List (Nat × aSp)
abbrev aMp : Type := Nat → Nat → Nat
abbrev aCs : Type := ClassId × ClassId × ClassId
def rv (ad : aMp) : AV → Value
  | .inl v => v
  | .inr q => .ref (ad q.1 q.2)
def aFv (ad : aMp) (σ : SS) (t j k : Nat) : Option (Nat × Bool) → Value
  | none => .int (σ.1 t j k)
  | some (t2, b) => .ref (ad t2 (if b = true then j else 0))
def aFs (ad : aMp) (σ : SS) (t j : Nat) : Nat → List (Option (Nat × Bool)) → List Value
  | _, [] => []
  | k, f :: r => aFv ad σ t j k f :: aFs ad σ t j (k + 1) r
def aCell (cs : aCs) (ad : aMp) (σ : SS) (t j : Nat) : aSp → va_E
  | .inl (c, fl) => .inr (c, aFs ad σ t j 0 fl)
  | .inr (0, n) => .inl (cs.1, n, .inl (σ.2.1 t j))
  | .inr (1, n) => .inl (cs.2.1, n, .inr (.inl (σ.2.2 t j)))
  | .inr (k + 2, n) => .inl (cs.2.2, n, .inr (.inr (.inr (.inr (fun i => some (ad k i))))))
def aRow (t : Nat) : Nat → List (Nat × Nat)
  | 0 => []
  | n + 1 => aRow t n ++ [(t, n)]
def aIds : Nat → aLy → List (Nat × Nat)
  | _, [] => []
  | t, q :: r => aRow t q.1 ++ aIds (t + 1) r
def aSpOf (Λ : aLy) (t : Nat) : aSp := match Λ[t]? with
  | some q => q.2
  | none => .inr (0, 0)
def aWc (Λ : aLy) (cs : aCs) (ad : aMp) (σ : SS) (q : Nat × Nat) : va_E := aCell cs ad σ q.1 q.2 (aSpOf Λ q.1)
def aWl (Λ : aLy) (cs : aCs) (ad : aMp) (σ : SS) : va_W := (aIds 0 Λ).map (fun q => (ad q.1 q.2, aWc Λ cs ad σ q))
def sI (σ : SS) (t j k : Nat) (v : Int32) : SS := (fun a b c => if a = t ∧ b = j ∧ c = k then v else σ.1 a b c, σ.2.1, σ.2.2)
def sA (σ : SS) (t j i : Nat) (v : Int32) : SS := (σ.1, fun a b c => if a = t ∧ b = j ∧ c = i then v else σ.2.1 a b c, σ.2.2)
def sL (σ : SS) (t j i : Nat) (v : Int64) : SS := (σ.1, σ.2.1, fun a b c => if a = t ∧ b = j ∧ c = i then v else σ.2.2 a b c)
def sAf (σ : SS) (t j : Nat) (f : Nat → Int32) : SS := (σ.1, fun a b c => if a = t ∧ b = j then f c else σ.2.1 a b c, σ.2.2)
def sLf (σ : SS) (t j : Nat) (f : Nat → Int64) : SS := (σ.1, σ.2.1, fun a b c => if a = t ∧ b = j then f c else σ.2.2 a b c)
theorem aFs_len (ad : aMp) (σ : SS) (t j : Nat) : ∀ (fl : List (Option (Nat × Bool))) (i : Nat), (aFs ad σ t j i fl).length = fl.length
  | [], _ => rfl
  | _ :: r, i => by simp [aFs, aFs_len ad σ t j r (i + 1)]
theorem aFs_get (ad : aMp) (σ : SS) (t j : Nat) : ∀ (fl : List (Option (Nat × Bool))) (i k : Nat) {f : Option (Nat × Bool)}, fl[k]? = some f → (aFs ad σ t j i fl)[k]? = some (aFv ad σ t j (i + k) f)
  | [], _, _, _, h => by simp at h
  | g :: r, i, 0, f, h => by
    simp at h
    simp [aFs, h]
  | g :: r, i, k + 1, f, h => by
    have h1 : r[k]? = some f := by simpa using h
    have h2 := aFs_get ad σ t j r (i + 1) k h1
    rw [show i + 1 + k = i + (k + 1) by omega] at h2
    simpa [aFs] using h2
theorem aFs_eq {ad : aMp} {σ σ' : SS} {t j : Nat} (h : ∀ k, σ'.1 t j k = σ.1 t j k) : ∀ (fl : List (Option (Nat × Bool))) (i : Nat), aFs ad σ' t j i fl = aFs ad σ t j i fl
  | [], _ => rfl
  | g :: r, i => by
    have e : aFv ad σ' t j i g = aFv ad σ t j i g := by
      cases g with
      | none => simp [aFv, h]
      | some q => rfl
    simp [aFs, e, aFs_eq h r (i + 1)]
theorem aFs_set {ad : aMp} {σ : SS} {t j : Nat} {v : Int32} : ∀ (fl : List (Option (Nat × Bool))) (i k : Nat), fl[k]? = some none → (aFs ad σ t j i fl).set k (.int v) = aFs ad (sI σ t j (i + k) v) t j i fl
  | [], _, _, h => by simp at h
  | g :: r, i, 0, h => by
    simp at h
    subst h
    have e : ∀ (l : List (Option (Nat × Bool))) (n : Nat), i < n → aFs ad (sI σ t j i v) t j n l = aFs ad σ t j n l := by
      intro l
      induction l with
      | nil => intros; rfl
      | cons g l ih =>
        intro n hn
        have e : aFv ad (sI σ t j i v) t j n g = aFv ad σ t j n g := by
          cases g with
          | none =>
            have hne : ¬ n = i := by omega
            simp [aFv, sI, hne]
          | some q => rfl
        simp [aFs, e, ih (n + 1) (by omega)]
    simp [aFs, aFv, e r (i + 1) (by omega)]
    simp [sI]
  | g :: r, i, k + 1, h => by
    have h1 : r[k]? = some none := by simpa using h
    have h2 := aFs_set (ad := ad) (σ := σ) (t := t) (j := j) (v := v) r (i + 1) k h1
    rw [show i + 1 + k = i + (k + 1) by omega] at h2
    have e : aFv ad (sI σ t j (i + (k + 1)) v) t j i g = aFv ad σ t j i g := by
      cases g with
      | none =>
        have hne : ¬ i = i + (k + 1) := by omega
        simp [aFv, sI]
      | some q => rfl
    simp [aFs, e, h2]
theorem aRow_mem {t n : Nat} {q : Nat × Nat} : q ∈ aRow t n ↔ q.1 = t ∧ q.2 < n := by
  induction n with
  | zero => simp [aRow]
  | succ n ih =>
    simp only [aRow, List.mem_append, ih, List.mem_singleton]
    obtain ⟨a, b⟩ := q
    simp only [Prod.mk.injEq]
    omega
theorem aIds_mem : ∀ (Λ : aLy) (i : Nat) {q : Nat × Nat}, q ∈ aIds i Λ ↔ ∃ r, Λ[q.1 - i]? = some r ∧ i ≤ q.1 ∧ q.2 < r.1
  | [], i, q => by simp [aIds]
  | p :: r, i, q => by
    simp only [aIds, List.mem_append, aRow_mem, aIds_mem r (i + 1)]
    constructor
    · rintro (⟨h1, h2⟩ | ⟨s, h1, h2, h3⟩)
      · exact ⟨p, by rw [h1, Nat.sub_self]; rfl, by omega, h2⟩
      · refine ⟨s, ?_, by omega, h3⟩
        rw [show q.1 - i = (q.1 - (i + 1)) + 1 by omega]
        simpa using h1
    · rintro ⟨s, h1, h2, h3⟩
      by_cases he : q.1 = i
      · left
        rw [he, Nat.sub_self] at h1
        cases h1
        exact ⟨he, h3⟩
      · right
        refine ⟨s, ?_, by omega, h3⟩
        rw [show q.1 - i = (q.1 - (i + 1)) + 1 by omega] at h1
        simpa using h1
theorem aRow_nd (t n : Nat) : (aRow t n).Nodup := by
  induction n with
  | zero => simp [aRow]
  | succ n ih =>
    refine List.nodup_append.mpr ⟨ih, by simp, ?_⟩
    intro a ha b hb
    rw [List.mem_singleton.mp hb]
    intro e
    subst e
    have := (aRow_mem.mp ha).2
    simp at this
theorem aIds_nd : ∀ (Λ : aLy) (i : Nat), (aIds i Λ).Nodup
  | [], _ => by simp [aIds]
  | p :: r, i => by
    refine List.nodup_append.mpr ⟨aRow_nd i p.1, aIds_nd r (i + 1), ?_⟩
    intro a ha b hb e
    subst e
    have h1 := (aRow_mem.mp ha).1
    obtain ⟨s, -, h2, -⟩ := (aIds_mem r (i + 1)).mp hb
    omega
theorem aIds_at {Λ : aLy} {t j n : Nat} {sp : aSp} (h : Λ[t]? = some (n, sp)) (hj : j < n) : ∃ p : Nat, (aIds 0 Λ)[p]? = some (t, j) := by
  have : (t, j) ∈ aIds 0 Λ := (aIds_mem Λ 0).mpr ⟨(n, sp), by simpa using h, by omega, hj⟩
  exact List.getElem?_of_mem this
theorem aWl_at {Λ : aLy} {cs : aCs} {ad : aMp} {σ : SS} {t j n : Nat} {sp : aSp} (h : Λ[t]? = some (n, sp)) (hj : j < n) : ∃ p : Nat, (aIds 0 Λ)[p]? = some (t, j) ∧ (aWl Λ cs ad σ)[p]? = some (ad t j, aCell cs ad σ t j sp) := by
  obtain ⟨p, hp⟩ := aIds_at h hj
  refine ⟨p, hp, ?_⟩
  unfold aWl
  rw [List.getElem?_map, hp]
  simp [aWc, aSpOf, h]
/-- one cell changed: the list of the new numbers -/
theorem aWl_set {Λ : aLy} {cs : aCs} {ad : aMp} {σ σ' : SS} {t j p : Nat} (hp : (aIds 0 Λ)[p]? = some (t, j)) (ho : ∀ q : Nat × Nat, q ≠ (t, j) → aWc Λ cs ad σ' q = aWc Λ cs ad σ q) : (aWl Λ cs ad σ).set p (ad t j, aWc Λ cs ad σ' (t, j)) = aWl Λ cs ad σ' := by
  have key : ∀ (l : List (Nat × Nat)) (p : Nat), l[p]? = some (t, j) → l.Nodup → (l.map (fun q => (ad q.1 q.2, aWc Λ cs ad σ q))).set p (ad t j, aWc Λ cs ad σ' (t, j)) = l.map (fun q => (ad q.1 q.2, aWc Λ cs ad σ' q)) := by
    intro l
    induction l with
    | nil => intro p hp; simp at hp
    | cons a l ih =>
      intro p hp hnd
      obtain ⟨h1, h2⟩ := List.nodup_cons.mp hnd
      cases p with
      | zero =>
        simp at hp
        subst hp
        simp only [List.map_cons, List.set_cons_zero]
        congr 1
        refine List.map_congr_left fun q hq => ?_
        rw [ho q (fun e => h1 (by rw [← e]; exact hq))]
      | succ p =>
        have hp' : l[p]? = some (t, j) := by simpa using hp
        have hne : a ≠ (t, j) := fun e => h1 (by rw [e]; exact List.mem_of_getElem? hp')
        simp only [List.map_cons, List.set_cons_succ]
        rw [ih p hp' h2, ho a hne]
  exact key _ _ hp (aIds_nd Λ 0)
theorem aWc_sI {Λ : aLy} {cs : aCs} {ad : aMp} {σ : SS} {t j k : Nat} {v : Int32} (q : Nat × Nat) (hq : q ≠ (t, j)) : aWc Λ cs ad (sI σ t j k v) q = aWc Λ cs ad σ q := by
  obtain ⟨a, b⟩ := q
  have hne : ¬ (a = t ∧ b = j) := fun ⟨h1, h2⟩ => hq (by rw [h1, h2])
  have e : ∀ k', (sI σ t j k v).1 a b k' = σ.1 a b k' := fun k' => if_neg (fun ⟨h1, h2, _⟩ => hne ⟨h1, h2⟩)
  unfold aWc
  match aSpOf Λ a with
  | .inl (c, fl) => simp [aCell, aFs_eq e]
  | .inr (0, n) => rfl
  | .inr (1, n) => rfl
  | .inr (k + 2, n) => rfl
theorem aWc_A {Λ : aLy} {cs : aCs} {ad : aMp} {σ σ' : SS} {t j : Nat} (h1 : σ'.1 = σ.1) (h3 : σ'.2.2 = σ.2.2) (h2 : ∀ a b, ¬ (a = t ∧ b = j) → σ'.2.1 a b = σ.2.1 a b) (q : Nat × Nat) (hq : q ≠ (t, j)) : aWc Λ cs ad σ' q = aWc Λ cs ad σ q := by
  obtain ⟨a, b⟩ := q
  have hne : ¬ (a = t ∧ b = j) := fun ⟨h1, h2⟩ => hq (by rw [h1, h2])
  unfold aWc
  match aSpOf Λ a with
  | .inl (c, fl) =>
    have e : ∀ k', σ'.1 a b k' = σ.1 a b k' := fun k' => by rw [h1]
    simp [aCell, aFs_eq e]
  | .inr (0, n) => simp [aCell, h2 a b hne]
  | .inr (1, n) => simp [aCell, h3]
  | .inr (k + 2, n) => rfl
theorem aWc_L {Λ : aLy} {cs : aCs} {ad : aMp} {σ σ' : SS} {t j : Nat} (h1 : σ'.1 = σ.1) (h3 : σ'.2.1 = σ.2.1) (h2 : ∀ a b, ¬ (a = t ∧ b = j) → σ'.2.2 a b = σ.2.2 a b) (q : Nat × Nat) (hq : q ≠ (t, j)) : aWc Λ cs ad σ' q = aWc Λ cs ad σ q := by
  obtain ⟨a, b⟩ := q
  have hne : ¬ (a = t ∧ b = j) := fun ⟨h1, h2⟩ => hq (by rw [h1, h2])
  unfold aWc
  match aSpOf Λ a with
  | .inl (c, fl) =>
    have e : ∀ k', σ'.1 a b k' = σ.1 a b k' := fun k' => by rw [h1]
    simp [aCell, aFs_eq e]
  | .inr (0, n) => simp [aCell, h3]
  | .inr (1, n) => simp [aCell, h2 a b hne]
  | .inr (k + 2, n) => rfl
/-! locals by their places: none: nothing is known -/
def aHas (ad : aMp) (L : Array Slot) (nL : Nat) (ls : List (Option AV)) : Prop := L.size = nL ∧ lv_wf L ∧ ∀ (j : Nat) (v : AV), ls[j]? = some (some v) → L[j]? = some (.val (rv ad v))
def aEnt (ad : aMp) : Nat → List (Option AV) → List (Nat × Value)
  | _, [] => []
  | i, none :: r => aEnt ad (i + 1) r
  | i, some v :: r => (i, rv ad v) :: aEnt ad (i + 1) r
theorem aEnt_mem {ad : aMp} : ∀ (ls : List (Option AV)) (i : Nat) {q : Nat × Value}, q ∈ aEnt ad i ls ↔ ∃ v, i ≤ q.1 ∧ ls[q.1 - i]? = some (some v) ∧ q.2 = rv ad v
  | [], i, q => by simp [aEnt]
  | none :: r, i, q => by
    rw [aEnt, aEnt_mem r (i + 1)]
    constructor
    · rintro ⟨v, h1, h2, h3⟩
      refine ⟨v, by omega, ?_, h3⟩
      rw [show q.1 - i = (q.1 - (i + 1)) + 1 by omega]
      simpa using h2
    · rintro ⟨v, h1, h2, h3⟩
      by_cases he : q.1 = i
      · rw [he, Nat.sub_self] at h2
        simp at h2
      · refine ⟨v, by omega, ?_, h3⟩
        rw [show q.1 - i = (q.1 - (i + 1)) + 1 by omega] at h2
        simpa using h2
  | some w :: r, i, q => by
    rw [aEnt, List.mem_cons, aEnt_mem r (i + 1)]
    constructor
    · rintro (h | ⟨v, h1, h2, h3⟩)
      · subst h
        exact ⟨w, Nat.le_refl _, by simp, rfl⟩
      · refine ⟨v, by omega, ?_, h3⟩
        rw [show q.1 - i = (q.1 - (i + 1)) + 1 by omega]
        simpa using h2
    · rintro ⟨v, h1, h2, h3⟩
      by_cases he : q.1 = i
      · left
        rw [he, Nat.sub_self] at h2
        simp at h2
        obtain ⟨a, b⟩ := q
        simp at he h3
        rw [he, h3, h2]
      · right
        refine ⟨v, by omega, ?_, h3⟩
        rw [show q.1 - i = (q.1 - (i + 1)) + 1 by omega] at h2
        simpa using h2
theorem aHas.lv {ad : aMp} {L : Array Slot} {nL : Nat} {ls : List (Option AV)} (h : aHas ad L nL ls) : lv_has L nL (aEnt ad 0 ls) := ⟨h.1, h.2.1, fun q hq => by
  obtain ⟨v, -, h1, h2⟩ := (aEnt_mem ls 0).mp hq
  rw [h2]
  exact h.2.2 _ _ (by simpa using h1)⟩
def aLong : AV → Bool
  | .inl (.long _) => true
  | .inl (.double _) => true
  | _ => false
theorem aLong_cat (ad : aMp) (v : AV) : ((rv ad v).category == 2) = aLong v := by
  match v with
  | .inl w => cases w <;> rfl
  | .inr q => rfl
/-- a store: what stood there goes, and a long whose second half stood there -/
def aPut (ls : List (Option AV)) : Nat → AV → List (Option AV)
  | 0, v => ls.set 0 (some v)
  | k + 1, v => match ls[k]? with
    | some (some w) => cond (aLong w) ((ls.set k none).set (k + 1) (some v)) (ls.set (k + 1) (some v))
    | _ => ls.set (k + 1) (some v)
def aPut2 (ls : List (Option AV)) (i : Nat) (v : AV) : List (Option AV) := (aPut ls i v).set (i + 1) none
theorem set_get {α : Type} {l : List α} {i j : Nat} {v w : α} (h : (l.set i v)[j]? = some w) : (j = i ∧ w = v) ∨ (j ≠ i ∧ l[j]? = some w) := by
  rw [List.getElem?_set] at h
  by_cases hj : i = j
  · rw [if_pos hj] at h
    by_cases hl : i < l.length
    · rw [if_pos hl] at h
      exact Or.inl ⟨hj.symm, (Option.some.inj h).symm⟩
    · rw [if_neg hl] at h
      cases h
  · rw [if_neg hj] at h
    exact Or.inr ⟨fun e => hj e.symm, h⟩
theorem aPut_get {ls : List (Option AV)} {i : Nat} {v : AV} {j : Nat} {w : AV} (h : (aPut ls i v)[j]? = some (some w)) : (j = i ∧ w = v) ∨ (j ≠ i ∧ ls[j]? = some (some w) ∧ ¬ (j + 1 = i ∧ aLong w = true)) := by
  cases i with
  | zero =>
    rcases set_get h with ⟨h1, h2⟩ | ⟨h1, h2⟩
    · exact Or.inl ⟨h1, Option.some.inj h2⟩
    · exact Or.inr ⟨h1, h2, by omega⟩
  | succ k =>
    simp only [aPut] at h
    split at h
    · rename_i u hu
      cases hl : aLong u with
      | true =>
        rw [hl] at h
        rcases set_get h with ⟨h1, h2⟩ | ⟨h1, h2⟩
        · exact Or.inl ⟨h1, Option.some.inj h2⟩
        · rcases set_get h2 with ⟨h3, h4⟩ | ⟨h3, h4⟩
          · cases h4
          · exact Or.inr ⟨h1, h4, by omega⟩
      | false =>
        rw [hl] at h
        rcases set_get h with ⟨h1, h2⟩ | ⟨h1, h2⟩
        · exact Or.inl ⟨h1, Option.some.inj h2⟩
        · refine Or.inr ⟨h1, h2, fun ⟨e1, e2⟩ => ?_⟩
          rw [show j = k by omega, hu] at h2
          cases h2
          rw [hl] at e2
          cases e2
    · rename_i hu
      rcases set_get h with ⟨h1, h2⟩ | ⟨h1, h2⟩
      · exact Or.inl ⟨h1, Option.some.inj h2⟩
      · refine Or.inr ⟨h1, h2, fun ⟨e1, e2⟩ => ?_⟩
        rw [show j = k by omega] at h2
        exact hu _ h2
theorem aPut2_get {ls : List (Option AV)} {i : Nat} {v : AV} {j : Nat} {w : AV} (h : (aPut2 ls i v)[j]? = some (some w)) : (j = i ∧ w = v) ∨ (j ≠ i ∧ j ≠ i + 1 ∧ ls[j]? = some (some w) ∧ ¬ (j + 1 = i ∧ aLong w = true)) := by
  rcases set_get h with ⟨h1, h2⟩ | ⟨h1, h2⟩
  · cases h2
  · rcases aPut_get h2 with h3 | ⟨h3, h4, h5⟩
    · exact Or.inl h3
    · exact Or.inr ⟨h3, h1, h4, h5⟩
theorem aHas_put {ad : aMp} {L' : Array Slot} {nL i : Nat} {v : AV} {ls : List (Option AV)} (h : lv_has L' nL ((i, rv ad v) :: (aEnt ad 0 ls).filter (fun q => !(q.1 == i) && !(q.1 + 1 == i && q.2.category == 2)))) : aHas ad L' nL (aPut ls i v) := by
  refine ⟨h.1, h.2.1, fun j w hw => ?_⟩
  rcases aPut_get hw with ⟨h1, h2⟩ | ⟨h1, h2, h3⟩
  · subst h1; subst h2
    exact h.2.2 (j, rv ad w) List.mem_cons_self
  · refine h.2.2 (j, rv ad w) (List.mem_cons_of_mem _ (List.mem_filter.mpr ⟨(aEnt_mem ls 0).mpr ⟨w, Nat.zero_le _, by simpa using h2, rfl⟩, ?_⟩))
    rw [aLong_cat]
    have e1 : (j == i) = false := by simpa using h1
    have e2 : (j + 1 == i && aLong w) = false := by
      cases hb : aLong w with
      | false => simp
      | true =>
        have : ¬ j + 1 = i := fun e => h3 ⟨e, hb⟩
        simpa using this
    rw [e1, e2]
    rfl
theorem aHas_put2 {ad : aMp} {L' : Array Slot} {nL i : Nat} {v : AV} {ls : List (Option AV)} (h : lv_has L' nL ((i, rv ad v) :: (aEnt ad 0 ls).filter (fun q => !(q.1 == i) && (!(q.1 == i + 1) && !(q.1 + 1 == i && q.2.category == 2))))) : aHas ad L' nL (aPut2 ls i v) := by
  refine ⟨h.1, h.2.1, fun j w hw => ?_⟩
  rcases aPut2_get hw with ⟨h1, h2⟩ | ⟨h1, h0, h2, h3⟩
  · subst h1; subst h2
    exact h.2.2 (j, rv ad w) List.mem_cons_self
  · refine h.2.2 (j, rv ad w) (List.mem_cons_of_mem _ (List.mem_filter.mpr ⟨(aEnt_mem ls 0).mpr ⟨w, Nat.zero_le _, by simpa using h2, rfl⟩, ?_⟩))
    rw [aLong_cat]
    have e1 : (j == i) = false := by simpa using h1
    have e0 : (j == i + 1) = false := by simpa using h0
    have e2 : (j + 1 == i && aLong w) = false := by
      cases hb : aLong w with
      | false => simp
      | true =>
        have : ¬ j + 1 = i := fun e => h3 ⟨e, hb⟩
        simpa using this
    rw [e1, e0, e2]
    rfl
/-- less is known: by a mask -/
def aMsk : List Bool → List (Option AV) → List (Option AV)
  | true :: m, a :: r => a :: aMsk m r
  | false :: m, _ :: r => none :: aMsk m r
  | _, _ => []
theorem aMsk_get : ∀ (m : List Bool) (ls : List (Option AV)) (j : Nat) {w : AV}, (aMsk m ls)[j]? = some (some w) → ls[j]? = some (some w)
  | [], ls, j, w, h => by simp [aMsk] at h
  | true :: m, [], j, w, h => by simp [aMsk] at h
  | false :: m, [], j, w, h => by simp [aMsk] at h
  | true :: m, a :: r, 0, w, h => by simpa [aMsk] using h
  | true :: m, a :: r, j + 1, w, h => by
    have := aMsk_get m r j (w := w) (by simpa [aMsk] using h)
    simpa using this
  | false :: m, a :: r, 0, w, h => by simp [aMsk] at h
  | false :: m, a :: r, j + 1, w, h => by
    have := aMsk_get m r j (w := w) (by simpa [aMsk] using h)
    simpa using this
theorem aHas_sub {ad : aMp} {L : Array Slot} {nL : Nat} {ls ls' : List (Option AV)} (h : aHas ad L nL ls) (hs : ∀ (j : Nat) (w : AV), ls'[j]? = some (some w) → ls[j]? = some (some w)) : aHas ad L nL ls' := ⟨h.1, h.2.1, fun j v hv => h.2.2 j v (hs j v hv)⟩
/-! the static arrays: cells (100 + k, 0) -/
def aStC : Nat → String
  | 0 => "PaneAcross"
  | 1 => "PaneAcross"
  | _ => "PaneAcross$Paces"
def aStN : Nat → String
  | 0 => "LOWEST"
  | 1 => "HIGHEST"
  | 2 => "ABOVE"
  | _ => "OWN"
def aStV : Nat → List Int32
  | 0 => [0, 0, 1, 0, 0, 0, 0, 1, 0, 0, 0]
  | 1 => [30, 30, 60, 60, 9, 12, 3, 6, 999, 99, 999]
  | 2 => [-1, 0, 0, 2, 1, 3, 0, 4]
  | _ => [1, 10, 11, 2, 20, 0, 0, 0, 0, 30, 0, 0, 0, 41, 40, 0, 0, 0, 50, 0, 0, 0, 0, 60, 70, 0, 0, 0, 0, 80, 0, 81]
def aStF (k : Nat) (i : Nat) : Int32 := (aStV k).getD i 0
def aStL : Nat → Nat
  | 0 => 11
  | 1 => 11
  | 2 => 8
  | _ => 32
/-- the two private static methods that nest mates call -/
def aNw (U : State) : Prop := va_Nw (.methodLinkNest RX8 23 yX10_isWithin "PaneAcross") U ∧ va_Nw (.methodLinkNest RX6 39 yX10_isHold "PaneAcross") U
def aSt (ad : aMp) (A : Nat → Prop) (U : State) (H : Heap) : Prop := (∀ k, k < 4 → va_Z (aStC k) (aStN k) "[I" (.ref (ad (100 + k) 0)) A U H ∧ va_T .int (ad (100 + k) 0) (aStL k) (fun i => .int (aStF k i)) A U H) ∧ aNw U
end
section
/-! THE JUDGEMENT XW: from a place of a method's code, with locals, stack and numbers as told, the machine comes to Q. And XM: a method, called so, answers so and leaves the numbers so. -/
abbrev XC : Type := (Program × Launch × Env × Room) × (State × MethodId × Array Value × List Frame × Method × Code) × ((State → Prop) × Nat × Nat × Nat) × (va_G × aCs × aMp × (Nat → Prop) × aLy)
def XW (Γ : XC) (pc : Nat) (ls : List (Option AV)) (st : List AV) (σ : SS) : Prop := match Γ with
  | ((p, l, e, R), (s, m, args, below, meth, c), (Q, cells, slots, nL), (D, cs, ad, A, Λ)) =>
    ∀ (H : Heap) (locs : List Loc) (L : Array Slot), va_P D vwCl (aWl Λ cs ad σ) H → va_D A (aWl Λ cs ad σ) → va_S A s.heap H locs → aHas ad L nL ls →
      W p l e R s m args below meth c H locs cells slots Q (F0 m pc L (st.map (rv ad)))
/-- the good words of the tables: every method's words -/
def GW : List Cond := lw_tbl.filter goodWord
theorem GW_in {w : Cond} (h : w ∈ lw_tbl) (hg : goodWord w = true) : w ∈ GW := List.mem_filter.mpr ⟨h, hg⟩
theorem GW_0 {w : Cond} (n : Nat) (h : (k2_sels lw_privs)[n]? = some w) (hg : goodWord w = true) : w ∈ GW := GW_in (List.mem_append_left _ (List.mem_of_getElem? h)) hg
theorem GW_1 {w : Cond} (n : Nat) (h : tables_1_1[n]? = some w) (hg : goodWord w = true) : w ∈ GW := GW_in (List.mem_append_right _ (List.mem_append_left _ (List.mem_of_getElem? h))) hg
theorem GW_2 {w : Cond} (n : Nat) (h : tables_1_2[n]? = some w) (hg : goodWord w = true) : w ∈ GW := GW_in (List.mem_append_right _ (List.mem_append_right _ (List.mem_append_left _ (List.mem_of_getElem? h)))) hg
theorem GW_3 {w : Cond} (n : Nat) (h : tables_1_3[n]? = some w) (hg : goodWord w = true) : w ∈ GW := GW_in (List.mem_append_right _ (List.mem_append_right _ (List.mem_append_right _ (List.mem_append_left _ (List.mem_of_getElem? h))))) hg
theorem GW_4 {w : Cond} (n : Nat) (h : tables_1_4[n]? = some w) (hg : goodWord w = true) : w ∈ GW := GW_in (List.mem_append_right _ (List.mem_append_right _ (List.mem_append_right _ (List.mem_append_right _ (List.mem_append_left _ (List.mem_of_getElem? h)))))) hg
theorem GW_5 {w : Cond} (n : Nat) (h : tables_1_5[n]? = some w) (hg : goodWord w = true) : w ∈ GW := GW_in (List.mem_append_right _ (List.mem_append_right _ (List.mem_append_right _ (List.mem_append_right _ (List.mem_append_right _ (List.mem_append_left _ (List.mem_of_getElem? h))))))) hg
theorem GW_6 {w : Cond} (n : Nat) (h : tables_1_6[n]? = some w) (hg : goodWord w = true) : w ∈ GW := GW_in (List.mem_append_right _ (List.mem_append_right _ (List.mem_append_right _ (List.mem_append_right _ (List.mem_append_right _ (List.mem_append_right _ (List.mem_append_left _ (List.mem_of_getElem? h)))))))) hg
theorem GW_7 {w : Cond} (n : Nat) (h : tables_1_7[n]? = some w) (hg : goodWord w = true) : w ∈ GW := GW_in (List.mem_append_right _ (List.mem_append_right _ (List.mem_append_right _ (List.mem_append_right _ (List.mem_append_right _ (List.mem_append_right _ (List.mem_append_right _ (List.mem_of_getElem? h)))))))) hg
theorem GW_good : GoodIn GW GW := fun w hw => ⟨hw, good_of_word (List.mem_filter.mp hw).2⟩
def aTys (cs : aCs) : List (ClassId × FieldType) := [(cs.1, .int), (cs.2.1, .long), (cs.2.2, .object "PaneAcross$Shelf")]
/-- what holds all through a method's body -/
def XG (Γ : XC) (cc : ByteArray) (own : String) (d : Nat) : Prop := match Γ with
  | ((p, l, e, R), (s, m, args, below, meth, c), (Q, cells, slots, nL), (D, cs, ad, A, Λ)) =>
    p.tables.exec = Jvm.exec ∧ c.code = cc ∧ c.maxLocals = nL ∧ s.vm.findClass own = some m.cls ∧ (∀ w ∈ GW, w.before args s = true) ∧ va_K D vwCl (aTys cs) s ∧ aSt ad A s s.heap ∧
    d ≤ R.frames ∧ 64 * d ≤ R.locals ∧ cells ≤ R.cells ∧ slots ≤ R.slots ∧ 1 ≤ d
def xL (Γ : XC) : aLy := match Γ with
  | (_, _, _, (_, _, _, _, Λ)) => Λ
def xN (Γ : XC) : Nat := match Γ with
  | (_, _, (_, _, _, nL), _) => nL
theorem XW.loc {Γ : XC} {pc : Nat} {ls ls' : List (Option AV)} {st : List AV} {σ : SS} (m : List Bool) (h : aMsk m ls = ls') (k : XW Γ pc ls' st σ) : XW Γ pc ls st σ := by
  obtain ⟨⟨p, l, e, R⟩, ⟨s, m', args, below, meth, c⟩, ⟨Q, cells, slots, nL⟩, ⟨D, cs, ad, A, Λ⟩⟩ := Γ
  intro H locs L hP hD hS hL
  subst h
  exact k H locs L hP hD hS (aHas_sub hL (fun j w hw => aMsk_get _ _ _ hw))
def aLen : Instr → Nat
  | .bipush _ => 2
  | .ldc _ => 2
  | .iload _ => 2
  | .lload _ => 2
  | .aload _ => 2
  | .istore _ => 2
  | .lstore _ => 2
  | .astore _ => 2
  | .sipush _ => 3
  | .ldc_w _ => 3
  | .ldc2_w _ => 3
  | .iinc _ _ => 3
  | .goto _ => 3
  | .getfield _ => 3
  | .putfield _ => 3
  | .getstatic _ => 3
  | .invokestatic _ => 3
  | .invokevirtual _ => 3
  | .invokespecial _ => 3
  | .if_icmp _ _ => 3
  | .ifCond _ _ => 3
  | .ifnull _ => 3
  | .ifnonnull _ => 3
  | _ => 1
/-! one instruction that neither branches nor calls: the state behind it, and what must hold that it can be run -/
def aFd {α : Type} : List (Nat × α) → Nat → Option α
  | [], _ => none
  | q :: r, i => cond (Nat.beq q.1 i) (some q.2) (aFd r i)
theorem aFd_mem {α : Type} : ∀ {l : List (Nat × α)} {i : Nat} {v : α}, aFd l i = some v → (i, v) ∈ l
  | [], i, v, h => by simp [aFd] at h
  | q :: r, i, v, h => by
    unfold aFd at h
    cases hb : Nat.beq q.1 i with
    | true =>
      rw [hb] at h
      have e := Nat.eq_of_beq_eq_true hb
      obtain ⟨a, b⟩ := q
      simp at h e
      rw [e, h]
      exact List.mem_cons_self
    | false =>
      rw [hb] at h
      exact List.mem_cons_of_mem _ (aFd_mem h)
/-- a class's links: fields (class, place, whether a number may be put), statics, int and long constants, max (true) and min -/
abbrev aKt : Type := List (Nat × Nat × Nat × Bool × Nat) × List (Nat × Nat × Nat) × List (Nat × Int32 × Nat) × List (Nat × Int64 × Nat) × List (Nat × Bool × Nat)
def fldP (own : String) (q : Nat × Nat × Nat × Bool × Nat) : Prop := match vwCl[q.2.1]? with
  | some (C, T, N) => q.2.2.1 < N ∧ Cond.fieldLink own q.1 C (T q.2.2.1).2.1 (T q.2.2.1).2.2.1 ∈ GW ∧ (T q.2.2.1).1 = C ∧ (q.2.2.2.1 = true → (T q.2.2.1).2.2.2 = false ∧ parseFieldDescriptor (T q.2.2.1).2.2.1 = some .int)
  | none => False
theorem fldP_of {own C : String} {T : u_T} {x ci k N nw : Nat} {b : Bool} (hc : vwCl[ci]? = some (C, T, N)) (h1 : k < N) (h2 : Cond.fieldLink own x C (T k).2.1 (T k).2.2.1 ∈ GW) (h3 : (T k).1 = C) (h4 : (!b || (!(T k).2.2.2 && decide (parseFieldDescriptor (T k).2.2.1 = some .int))) = true) : fldP own (x, ci, k, b, nw) := by
  unfold fldP
  dsimp only
  rw [hc]
  refine ⟨h1, h2, h3, fun hb => ?_⟩
  subst hb
  simpa using h4
def stcP (own : String) (q : Nat × Nat × Nat) : Prop := q.2.1 < 4 ∧ Cond.fieldLink own q.1 (aStC q.2.1) (aStN q.2.1) "[I" ∈ GW
def mthP (own : String) (q : Nat × Bool × Nat) : Prop := match q.2.1 with
  | true => Cond.methodLink own q.1 Lib.Math.max.name ∈ GW
  | false => Cond.methodLink own q.1 Lib.Math.min.name ∈ GW
def KOK (own : String) (K : aKt) : Prop := (∀ q ∈ K.1, fldP own q) ∧ (∀ q ∈ K.2.1, stcP own q) ∧ (∀ q ∈ K.2.2.1, Cond.constant own q.1 q.2.1 ∈ GW) ∧ (∀ q ∈ K.2.2.2.1, Cond.constantLong own q.1 q.2.1 ∈ GW) ∧ (∀ q ∈ K.2.2.2.2, mthP own q)
abbrev aSte : Type := Nat × List (Option AV) × List AV × SS
def aJmp (pc : Nat) (off : Int) : Nat := ((pc : Int) + off).toNat
/-- which cells there are: the only one of its kind, or the j-th under a condition -/
def aJok : Nat → Nat → Option (List Prop)
  | 0, _ => none
  | 1, 0 => some []
  | 1, _ + 1 => none
  | n + 2, j => some [j < n + 2]
def aAll : List Prop → Prop
  | [] => True
  | p :: r => p ∧ aAll r
theorem aAll_app : ∀ {l1 l2 : List Prop}, aAll (l1 ++ l2) → aAll l1 ∧ aAll l2
  | [], _, h => ⟨trivial, h⟩
  | _ :: _, _, h => ⟨⟨h.1, (aAll_app h.2).1⟩, (aAll_app h.2).2⟩
def ex1 (K : aKt) (Λ : aLy) (N : Nat) (i : Instr) : aSte → Option (aSte × List Prop)
  | (pc, ls, st, σ) => match i with
    | .aconst_null => some ((pc + 1, ls, aN :: st, σ), [])
    | .iconst v => some ((pc + 1, ls, aI (Int32.ofInt v) :: st, σ), [])
    | .bipush v => cond (decide (-128 ≤ v) && decide (v < 128)) (some ((pc + 2, ls, aI (Int32.ofInt v) :: st, σ), [])) none
    | .sipush v => cond (decide (-32768 ≤ v) && decide (v < 32768)) (some ((pc + 3, ls, aI (Int32.ofInt v) :: st, σ), [])) none
    | .lconst v => some ((pc + 1, ls, aJ (Int64.ofNat (v : Nat)) :: st, σ), [])
    | .ldc x => match aFd K.2.2.1 x with
      | some (v, _) => some ((pc + 2, ls, aI v :: st, σ), [])
      | none => none
    | .ldc_w x => match aFd K.2.2.1 x with
      | some (v, _) => some ((pc + 3, ls, aI v :: st, σ), [])
      | none => none
    | .ldc2_w x => match aFd K.2.2.2.1 x with
      | some (v, _) => some ((pc + 3, ls, aJ v :: st, σ), [])
      | none => none
    | .iload_n k => match ls[(k : Nat)]? with
      | some (some (.inl (.int x))) => some ((pc + 1, ls, aI x :: st, σ), [])
      | _ => none
    | .iload k => match ls[k]? with
      | some (some (.inl (.int x))) => some ((pc + 2, ls, aI x :: st, σ), [])
      | _ => none
    | .lload_n k => match ls[(k : Nat)]? with
      | some (some (.inl (.long x))) => some ((pc + 1, ls, aJ x :: st, σ), [])
      | _ => none
    | .lload k => match ls[k]? with
      | some (some (.inl (.long x))) => some ((pc + 2, ls, aJ x :: st, σ), [])
      | _ => none
    | .aload_n k => match ls[(k : Nat)]? with
      | some (some (.inr q)) => some ((pc + 1, ls, .inr q :: st, σ), [])
      | some (some (.inl .null)) => some ((pc + 1, ls, aN :: st, σ), [])
      | _ => none
    | .aload k => match ls[k]? with
      | some (some (.inr q)) => some ((pc + 2, ls, .inr q :: st, σ), [])
      | some (some (.inl .null)) => some ((pc + 2, ls, aN :: st, σ), [])
      | _ => none
    | .istore_n k => match st with
      | .inl (.int x) :: r => cond (Nat.ble N k) none (some ((pc + 1, aPut ls k (aI x), r, σ), []))
      | _ => none
    | .istore k => match st with
      | .inl (.int x) :: r => cond (Nat.ble N k) none (some ((pc + 2, aPut ls k (aI x), r, σ), []))
      | _ => none
    | .lstore_n k => match st with
      | .inl (.long x) :: r => cond (Nat.ble N (k + 1)) none (some ((pc + 1, aPut2 ls k (aJ x), r, σ), []))
      | _ => none
    | .lstore k => match st with
      | .inl (.long x) :: r => cond (Nat.ble N (k + 1)) none (some ((pc + 2, aPut2 ls k (aJ x), r, σ), []))
      | _ => none
    | .astore_n k => match st with
      | .inr q :: r => cond (Nat.ble N k) none (some ((pc + 1, aPut ls k (.inr q), r, σ), []))
      | .inl .null :: r => cond (Nat.ble N k) none (some ((pc + 1, aPut ls k aN, r, σ), []))
      | _ => none
    | .astore k => match st with
      | .inr q :: r => cond (Nat.ble N k) none (some ((pc + 2, aPut ls k (.inr q), r, σ), []))
      | .inl .null :: r => cond (Nat.ble N k) none (some ((pc + 2, aPut ls k aN, r, σ), []))
      | _ => none
    | .iinc k v => match ls[k]? with
      | some (some (.inl (.int x))) => some ((pc + 3, aPut ls k (aI (x + Int32.ofInt v)), st, σ), [])
      | _ => none
    | .goto off => cond (Nat.beq (aJmp pc off) 0) none (some ((aJmp pc off, ls, st, σ), []))
    | .dup => match st with
      | .inl (.int x) :: r => some ((pc + 1, ls, aI x :: aI x :: r, σ), [])
      | .inr q :: r => some ((pc + 1, ls, .inr q :: .inr q :: r, σ), [])
      | _ => none
    | .dup_x1 => match st with
      | .inl (.int x) :: .inl (.int y) :: r => some ((pc + 1, ls, aI x :: aI y :: aI x :: r, σ), [])
      | .inl (.int x) :: .inr q :: r => some ((pc + 1, ls, aI x :: .inr q :: aI x :: r, σ), [])
      | _ => none
    | .iadd => match st with
      | .inl (.int y) :: .inl (.int x) :: r => some ((pc + 1, ls, aI (x + y) :: r, σ), [])
      | _ => none
    | .isub => match st with
      | .inl (.int y) :: .inl (.int x) :: r => some ((pc + 1, ls, aI (x - y) :: r, σ), [])
      | _ => none
    | .imul => match st with
      | .inl (.int y) :: .inl (.int x) :: r => some ((pc + 1, ls, aI (x * y) :: r, σ), [])
      | _ => none
    | .iand => match st with
      | .inl (.int y) :: .inl (.int x) :: r => some ((pc + 1, ls, aI (x &&& y) :: r, σ), [])
      | _ => none
    | .ixor => match st with
      | .inl (.int y) :: .inl (.int x) :: r => some ((pc + 1, ls, aI (x ^^^ y) :: r, σ), [])
      | _ => none
    | .idiv => match st with
      | .inl (.int y) :: .inl (.int x) :: r => some ((pc + 1, ls, aI (x / y) :: r, σ), [¬ y = 0])
      | _ => none
    | .irem => match st with
      | .inl (.int y) :: .inl (.int x) :: r => some ((pc + 1, ls, aI (x - x / y * y) :: r, σ), [¬ y = 0])
      | _ => none
    | .ineg => match st with
      | .inl (.int x) :: r => some ((pc + 1, ls, aI (-x) :: r, σ), [])
      | _ => none
    | .iushr => match st with
      | .inl (.int y) :: .inl (.int x) :: r => some ((pc + 1, ls, aI (x.toUInt32 >>> (y.toUInt32 &&& Int32.toUInt32 31)).toInt32 :: r, σ), [])
      | _ => none
    | .ladd => match st with
      | .inl (.long y) :: .inl (.long x) :: r => some ((pc + 1, ls, aJ (x + y) :: r, σ), [])
      | _ => none
    | .lsub => match st with
      | .inl (.long y) :: .inl (.long x) :: r => some ((pc + 1, ls, aJ (x - y) :: r, σ), [])
      | _ => none
    | .lmul => match st with
      | .inl (.long y) :: .inl (.long x) :: r => some ((pc + 1, ls, aJ (x * y) :: r, σ), [])
      | _ => none
    | .land => match st with
      | .inl (.long y) :: .inl (.long x) :: r => some ((pc + 1, ls, aJ (x &&& y) :: r, σ), [])
      | _ => none
    | .lor => match st with
      | .inl (.long y) :: .inl (.long x) :: r => some ((pc + 1, ls, aJ (x ||| y) :: r, σ), [])
      | _ => none
    | .ldiv => match st with
      | .inl (.long y) :: .inl (.long x) :: r => some ((pc + 1, ls, aJ (x / y) :: r, σ), [¬ y = 0])
      | _ => none
    | .lrem => match st with
      | .inl (.long y) :: .inl (.long x) :: r => some ((pc + 1, ls, aJ (x - x / y * y) :: r, σ), [¬ y = 0])
      | _ => none
    | .lshl => match st with
      | .inl (.int y) :: .inl (.long x) :: r => some ((pc + 1, ls, aJ (x <<< (y.toInt64 &&& 63)) :: r, σ), [])
      | _ => none
    | .lcmp => match st with
      | .inl (.long y) :: .inl (.long x) :: r => some ((pc + 1, ls, aI (lg_cmp x y) :: r, σ), [])
      | _ => none
    | .i2l => match st with
      | .inl (.int x) :: r => some ((pc + 1, ls, aJ x.toInt64 :: r, σ), [])
      | _ => none
    | .l2i => match st with
      | .inl (.long x) :: r => some ((pc + 1, ls, aI x.toInt32 :: r, σ), [])
      | _ => none
    | .i2b => match st with
      | .inl (.int x) :: r => some ((pc + 1, ls, aI x.toInt8.toInt32 :: r, σ), [])
      | _ => none
    | .i2s => match st with
      | .inl (.int x) :: r => some ((pc + 1, ls, aI x.toInt16.toInt32 :: r, σ), [])
      | _ => none
    | .getfield x => match st with
      | .inr (t, j) :: r => match aFd K.1 x, Λ[t]? with
        | some (ci, k, _, _), some (cn, .inl (c, fl)) => match fl[k]?, aJok cn j with
          | some none, some P => cond (Nat.beq ci c) (some ((pc + 3, ls, aI (σ.1 t j k) :: r, σ), P)) none
          | some (some (t2, b)), some P => cond (Nat.beq ci c) (some ((pc + 3, ls, aR t2 (cond b j 0) :: r, σ), P)) none
          | _, _ => none
        | _, _ => none
      | _ => none
    | .putfield x => match st with
      | .inl (.int v) :: .inr (t, j) :: r => match aFd K.1 x, Λ[t]? with
        | some (ci, k, true, _), some (cn, .inl (c, fl)) => match fl[k]?, aJok cn j with
          | some none, some P => cond (Nat.beq ci c) (some ((pc + 3, ls, r, sI σ t j k v), P)) none
          | _, _ => none
        | _, _ => none
      | _ => none
    | .getstatic x => match aFd K.2.1 x with
      | some (k, _) => some ((pc + 3, ls, aR (100 + k) 0 :: st, σ), [])
      | none => none
    | .invokestatic x => match st with
      | .inl (.int y) :: .inl (.int z) :: r => match aFd K.2.2.2.2 x with
        | some (true, _) => some ((pc + 3, ls, aI (if z < y then y else z) :: r, σ), [(r.map (fun v => (rv (fun _ _ => 0) v).category)).sum ≤ 8])
        | some (false, _) => some ((pc + 3, ls, aI (if y < z then y else z) :: r, σ), [(r.map (fun v => (rv (fun _ _ => 0) v).category)).sum ≤ 8])
        | none => none
      | _ => none
    | .arraylength => match st with
      | .inr (t, j) :: r => cond (Nat.ble 100 t) (cond (Nat.ble 104 t) none (some ((pc + 1, ls, aI (Int32.ofNat (aStL (t - 100))) :: r, σ), [j = 0]))) (match Λ[t]? with
        | some (cn, .inr (_, z)) => match aJok cn j with
          | some P => some ((pc + 1, ls, aI (Int32.ofNat z) :: r, σ), P)
          | none => none
        | _ => none)
      | _ => none
    | .iaload => match st with
      | .inl (.int x) :: .inr (t, j) :: r => cond (Nat.ble 100 t) (cond (Nat.ble 104 t) none (some ((pc + 1, ls, aI (aStF (t - 100) x.toNatClampNeg) :: r, σ), [j = 0, vp_in x (aStL (t - 100))]))) (match Λ[t]? with
        | some (cn, .inr (0, z)) => match aJok cn j with
          | some P => some ((pc + 1, ls, aI (σ.2.1 t j x.toNatClampNeg) :: r, σ), P ++ [vp_in x z])
          | none => none
        | _ => none)
      | _ => none
    | .laload => match st with
      | .inl (.int x) :: .inr (t, j) :: r => match Λ[t]? with
        | some (cn, .inr (1, z)) => match aJok cn j with
          | some P => some ((pc + 1, ls, aJ (σ.2.2 t j x.toNatClampNeg) :: r, σ), P ++ [vp_in x z])
          | none => none
        | _ => none
      | _ => none
    | .aaload => match st with
      | .inl (.int x) :: .inr (t, j) :: r => match Λ[t]? with
        | some (cn, .inr (k + 2, z)) => match aJok cn j with
          | some P => some ((pc + 1, ls, aR k x.toNatClampNeg :: r, σ), P ++ [vp_in x z])
          | none => none
        | _ => none
      | _ => none
    | .iastore => match st with
      | .inl (.int v) :: .inl (.int x) :: .inr (t, j) :: r => match Λ[t]? with
        | some (cn, .inr (0, z)) => match aJok cn j with
          | some P => some ((pc + 1, ls, r, sA σ t j x.toNatClampNeg v), P ++ [vp_in x z])
          | none => none
        | _ => none
      | _ => none
    | .lastore => match st with
      | .inl (.long v) :: .inl (.int x) :: .inr (t, j) :: r => match Λ[t]? with
        | some (cn, .inr (1, z)) => match aJok cn j with
          | some P => some ((pc + 1, ls, r, sL σ t j x.toNatClampNeg v), P ++ [vp_in x z])
          | none => none
        | _ => none
      | _ => none
    | _ => none
end
section
theorem aJok_lt {n j : Nat} {P : List Prop} (h : aJok n j = some P) (hp : aAll P) : j < n := by
  match n, j, h with
  | 1, 0, _ => omega
  | n + 2, j, h =>
    simp only [aJok] at h
    cases h
    exact hp.1
def aVf (σ : SS) (t j k : Nat) : Option (Nat × Bool) → AV
  | none => aI (σ.1 t j k)
  | some (t2, b) => aR t2 (cond b j 0)
theorem aVf_rv (ad : aMp) (σ : SS) (t j k : Nat) (f : Option (Nat × Bool)) : aFv ad σ t j k f = rv ad (aVf σ t j k f) := by
  match f with
  | none => rfl
  | some (t2, true) => rfl
  | some (t2, false) => rfl
theorem cl_ws0 : ∀ w ∈ u_ws RX0 TX0 1, w ∈ GW := by
  intro w hw
  obtain ⟨k, hk, rfl⟩ := List.mem_map.mp hw
  have hk := List.mem_range.mp hk
  match k, hk with
  | 0, _ => exact GW_1 211 rfl rfl
  | n + 1, h => exact absurd h (by omega)
theorem cl_ws1 : ∀ w ∈ u_ws RX1 TX1 5, w ∈ GW := by
  intro w hw
  obtain ⟨k, hk, rfl⟩ := List.mem_map.mp hw
  have hk := List.mem_range.mp hk
  match k, hk with
  | 0, _ => exact GW_1 155 rfl rfl
  | 1, _ => exact GW_1 157 rfl rfl
  | 2, _ => exact GW_1 159 rfl rfl
  | 3, _ => exact GW_1 161 rfl rfl
  | 4, _ => exact GW_1 163 rfl rfl
  | n + 5, h => exact absurd h (by omega)
theorem cl_ws2 : ∀ w ∈ u_ws RX2 TX2 5, w ∈ GW := by
  intro w hw
  obtain ⟨k, hk, rfl⟩ := List.mem_map.mp hw
  have hk := List.mem_range.mp hk
  match k, hk with
  | 0, _ => exact GW_2 36 rfl rfl
  | 1, _ => exact GW_2 38 rfl rfl
  | 2, _ => exact GW_2 40 rfl rfl
  | 3, _ => exact GW_2 42 rfl rfl
  | 4, _ => exact GW_2 44 rfl rfl
  | n + 5, h => exact absurd h (by omega)
theorem cl_ws3 : ∀ w ∈ u_ws RX3 TX3 12, w ∈ GW := by
  intro w hw
  obtain ⟨k, hk, rfl⟩ := List.mem_map.mp hw
  have hk := List.mem_range.mp hk
  match k, hk with
  | 0, _ => exact GW_1 61 rfl rfl
  | 1, _ => exact GW_1 63 rfl rfl
  | 2, _ => exact GW_1 65 rfl rfl
  | 3, _ => exact GW_1 67 rfl rfl
  | 4, _ => exact GW_1 69 rfl rfl
  | 5, _ => exact GW_1 71 rfl rfl
  | 6, _ => exact GW_1 73 rfl rfl
  | 7, _ => exact GW_1 75 rfl rfl
  | 8, _ => exact GW_1 77 rfl rfl
  | 9, _ => exact GW_1 79 rfl rfl
  | 10, _ => exact GW_1 81 rfl rfl
  | 11, _ => exact GW_1 83 rfl rfl
  | n + 12, h => exact absurd h (by omega)
theorem cl_ws4 : ∀ w ∈ u_ws RX4 TX4 10, w ∈ GW := by
  intro w hw
  obtain ⟨k, hk, rfl⟩ := List.mem_map.mp hw
  have hk := List.mem_range.mp hk
  match k, hk with
  | 0, _ => exact GW_2 8 rfl rfl
  | 1, _ => exact GW_2 10 rfl rfl
  | 2, _ => exact GW_2 12 rfl rfl
  | 3, _ => exact GW_2 14 rfl rfl
  | 4, _ => exact GW_2 16 rfl rfl
  | 5, _ => exact GW_2 18 rfl rfl
  | 6, _ => exact GW_2 20 rfl rfl
  | 7, _ => exact GW_2 22 rfl rfl
  | 8, _ => exact GW_2 24 rfl rfl
  | 9, _ => exact GW_2 26 rfl rfl
  | n + 10, h => exact absurd h (by omega)
theorem cl_ws5 : ∀ w ∈ u_ws RX5 TX5 6, w ∈ GW := by
  intro w hw
  obtain ⟨k, hk, rfl⟩ := List.mem_map.mp hw
  have hk := List.mem_range.mp hk
  match k, hk with
  | 0, _ => exact GW_2 61 rfl rfl
  | 1, _ => exact GW_2 63 rfl rfl
  | 2, _ => exact GW_2 65 rfl rfl
  | 3, _ => exact GW_2 67 rfl rfl
  | 4, _ => exact GW_2 69 rfl rfl
  | 5, _ => exact GW_2 71 rfl rfl
  | n + 6, h => exact absurd h (by omega)
theorem cl_ws6 : ∀ w ∈ u_ws RX6 TX6 4, w ∈ GW := by
  intro w hw
  obtain ⟨k, hk, rfl⟩ := List.mem_map.mp hw
  have hk := List.mem_range.mp hk
  match k, hk with
  | 0, _ => exact GW_1 132 rfl rfl
  | 1, _ => exact GW_1 134 rfl rfl
  | 2, _ => exact GW_1 136 rfl rfl
  | 3, _ => exact GW_1 138 rfl rfl
  | n + 4, h => exact absurd h (by omega)
theorem cl_ws7 : ∀ w ∈ u_ws RX7 TX7 8, w ∈ GW := by
  intro w hw
  obtain ⟨k, hk, rfl⟩ := List.mem_map.mp hw
  have hk := List.mem_range.mp hk
  match k, hk with
  | 0, _ => exact GW_1 100 rfl rfl
  | 1, _ => exact GW_1 102 rfl rfl
  | 2, _ => exact GW_1 104 rfl rfl
  | 3, _ => exact GW_1 106 rfl rfl
  | 4, _ => exact GW_1 108 rfl rfl
  | 5, _ => exact GW_1 110 rfl rfl
  | 6, _ => exact GW_1 112 rfl rfl
  | 7, _ => exact GW_1 114 rfl rfl
  | n + 8, h => exact absurd h (by omega)
theorem cl_ws8 : ∀ w ∈ u_ws RX8 TX8 2, w ∈ GW := by
  intro w hw
  obtain ⟨k, hk, rfl⟩ := List.mem_map.mp hw
  have hk := List.mem_range.mp hk
  match k, hk with
  | 0, _ => exact GW_1 36 rfl rfl
  | 1, _ => exact GW_1 38 rfl rfl
  | n + 2, h => exact absurd h (by omega)
theorem cl_ws9 : ∀ w ∈ u_ws RX9 TX9 9, w ∈ GW := by
  intro w hw
  obtain ⟨k, hk, rfl⟩ := List.mem_map.mp hw
  have hk := List.mem_range.mp hk
  match k, hk with
  | 0, _ => exact GW_1 185 rfl rfl
  | 1, _ => exact GW_1 187 rfl rfl
  | 2, _ => exact GW_1 189 rfl rfl
  | 3, _ => exact GW_1 191 rfl rfl
  | 4, _ => exact GW_1 193 rfl rfl
  | 5, _ => exact GW_1 195 rfl rfl
  | 6, _ => exact GW_1 197 rfl rfl
  | 7, _ => exact GW_1 199 rfl rfl
  | 8, _ => exact GW_1 201 rfl rfl
  | n + 9, h => exact absurd h (by omega)
theorem cl_ws10 : ∀ w ∈ u_ws RX10 TX10 9, w ∈ GW := by
  intro w hw
  obtain ⟨k, hk, rfl⟩ := List.mem_map.mp hw
  have hk := List.mem_range.mp hk
  match k, hk with
  | 0, _ => exact GW_2 83 rfl rfl
  | 1, _ => exact GW_2 85 rfl rfl
  | 2, _ => exact GW_2 87 rfl rfl
  | 3, _ => exact GW_2 89 rfl rfl
  | 4, _ => exact GW_2 91 rfl rfl
  | 5, _ => exact GW_2 93 rfl rfl
  | 6, _ => exact GW_2 95 rfl rfl
  | 7, _ => exact GW_2 97 rfl rfl
  | 8, _ => exact GW_2 99 rfl rfl
  | n + 9, h => exact absurd h (by omega)
theorem cl_ws11 : ∀ w ∈ u_ws RX11 TX11 44, w ∈ GW := by
  intro w hw
  obtain ⟨k, hk, rfl⟩ := List.mem_map.mp hw
  have hk := List.mem_range.mp hk
  match k, hk with
  | 0, _ => exact GW_5 36 rfl rfl
  | 1, _ => exact GW_5 38 rfl rfl
  | 2, _ => exact GW_5 40 rfl rfl
  | 3, _ => exact GW_5 42 rfl rfl
  | 4, _ => exact GW_5 44 rfl rfl
  | 5, _ => exact GW_5 46 rfl rfl
  | 6, _ => exact GW_5 48 rfl rfl
  | 7, _ => exact GW_5 50 rfl rfl
  | 8, _ => exact GW_5 52 rfl rfl
  | 9, _ => exact GW_5 54 rfl rfl
  | 10, _ => exact GW_5 56 rfl rfl
  | 11, _ => exact GW_5 58 rfl rfl
  | 12, _ => exact GW_5 60 rfl rfl
  | 13, _ => exact GW_5 62 rfl rfl
  | 14, _ => exact GW_5 64 rfl rfl
  | 15, _ => exact GW_5 66 rfl rfl
  | 16, _ => exact GW_5 68 rfl rfl
  | 17, _ => exact GW_5 70 rfl rfl
  | 18, _ => exact GW_5 72 rfl rfl
  | 19, _ => exact GW_5 74 rfl rfl
  | 20, _ => exact GW_5 76 rfl rfl
  | 21, _ => exact GW_5 78 rfl rfl
  | 22, _ => exact GW_5 80 rfl rfl
  | 23, _ => exact GW_5 82 rfl rfl
  | 24, _ => exact GW_5 84 rfl rfl
  | 25, _ => exact GW_5 86 rfl rfl
  | 26, _ => exact GW_5 88 rfl rfl
  | 27, _ => exact GW_5 90 rfl rfl
  | 28, _ => exact GW_5 92 rfl rfl
  | 29, _ => exact GW_5 94 rfl rfl
  | 30, _ => exact GW_5 96 rfl rfl
  | 31, _ => exact GW_5 98 rfl rfl
  | 32, _ => exact GW_5 100 rfl rfl
  | 33, _ => exact GW_5 102 rfl rfl
  | 34, _ => exact GW_5 104 rfl rfl
  | 35, _ => exact GW_5 106 rfl rfl
  | 36, _ => exact GW_5 108 rfl rfl
  | 37, _ => exact GW_5 110 rfl rfl
  | 38, _ => exact GW_5 112 rfl rfl
  | 39, _ => exact GW_5 114 rfl rfl
  | 40, _ => exact GW_5 116 rfl rfl
  | 41, _ => exact GW_5 118 rfl rfl
  | 42, _ => exact GW_5 120 rfl rfl
  | 43, _ => exact GW_5 122 rfl rfl
  | n + 44, h => exact absurd h (by omega)
theorem cl_ws : ∀ (ci : Nat) (C : String) (T : u_T) (N : Nat), vwCl[ci]? = some (C, T, N) → ∀ w ∈ u_ws C T N, w ∈ GW := by
  intro ci C T N h w hw
  match ci, h with
  | 0, h => cases h; exact cl_ws0 w hw
  | 1, h => cases h; exact cl_ws1 w hw
  | 2, h => cases h; exact cl_ws2 w hw
  | 3, h => cases h; exact cl_ws3 w hw
  | 4, h => cases h; exact cl_ws4 w hw
  | 5, h => cases h; exact cl_ws5 w hw
  | 6, h => cases h; exact cl_ws6 w hw
  | 7, h => cases h; exact cl_ws7 w hw
  | 8, h => cases h; exact cl_ws8 w hw
  | 9, h => cases h; exact cl_ws9 w hw
  | 10, h => cases h; exact cl_ws10 w hw
  | 11, h => cases h; exact cl_ws11 w hw
  | n + 12, h => simp [vwCl] at h
theorem cl_ty : ∀ (ci : Nat) (C : String) (T : u_T) (N : Nat), vwCl[ci]? = some (C, T, N) → ∃ ty : Nat → FieldType, (∀ k, k < N → parseFieldDescriptor (T k).2.2.1 = some (ty k)) ∧ ∀ a, a < N → ∀ b, b < N → a ≠ b → (T a).2.1 ≠ (T b).2.1 := by
  intro ci C T N h
  match ci, h with
  | 0, h => cases h; exact ⟨_, tyX0_ok, nmX0⟩
  | 1, h => cases h; exact ⟨_, tyX1_ok, nmX1⟩
  | 2, h => cases h; exact ⟨_, tyX2_ok, nmX2⟩
  | 3, h => cases h; exact ⟨_, tyX3_ok, nmX3⟩
  | 4, h => cases h; exact ⟨_, tyX4_ok, nmX4⟩
  | 5, h => cases h; exact ⟨_, tyX5_ok, nmX5⟩
  | 6, h => cases h; exact ⟨_, tyX6_ok, nmX6⟩
  | 7, h => cases h; exact ⟨_, tyX7_ok, nmX7⟩
  | 8, h => cases h; exact ⟨_, tyX8_ok, nmX8⟩
  | 9, h => cases h; exact ⟨_, tyX9_ok, nmX9⟩
  | 10, h => cases h; exact ⟨_, tyX10_ok, nmX10⟩
  | 11, h => cases h; exact ⟨_, tyX11_ok, nmX11⟩
  | n + 12, h => simp [vwCl] at h
theorem GW_mx : Cond.static Lib.Math.max.name ∈ GW ∧ Cond.static Lib.Math.min.name ∈ GW ∧ Cond.initialized "java/lang/Math" ∈ GW ∧ Cond.code Lib.Math.max.name Lib.Math.max.code 2 (some .int) ∈ GW ∧ Cond.code Lib.Math.min.name Lib.Math.min.code 2 (some .int) ∈ GW :=
  ⟨GW_3 63 rfl rfl, GW_3 60 rfl rfl, GW_1 15 rfl rfl, GW_3 64 rfl rfl, GW_3 61 rfl rfl⟩
end
section
theorem sA_ne {σ : SS} {t j i a b : Nat} {v : Int32} (h : ¬ (a = t ∧ b = j)) : (sA σ t j i v).2.1 a b = σ.2.1 a b := by
  funext c
  exact if_neg (fun q => h ⟨q.1, q.2.1⟩)
theorem sL_ne {σ : SS} {t j i a b : Nat} {v : Int64} (h : ¬ (a = t ∧ b = j)) : (sL σ t j i v).2.2 a b = σ.2.2 a b := by
  funext c
  exact if_neg (fun q => h ⟨q.1, q.2.1⟩)
theorem sAf_ne {σ : SS} {t j a b : Nat} {f : Nat → Int32} (h : ¬ (a = t ∧ b = j)) : (sAf σ t j f).2.1 a b = σ.2.1 a b := by
  funext c
  exact if_neg h
theorem sLf_ne {σ : SS} {t j a b : Nat} {f : Nat → Int64} (h : ¬ (a = t ∧ b = j)) : (sLf σ t j f).2.2 a b = σ.2.2 a b := by
  funext c
  exact if_neg h
section XR
variable {Γ : XC} {cc : ByteArray} {own : String} {d pc : Nat} {ls : List (Option AV)} {r : List AV} {σ : SS}
theorem XW.getf (G : XG Γ cc own d) {x ci k t j cn nw : Nat} {b : Bool} {fl : List (Option (Nat × Bool))} {f : Option (Nat × Bool)} (hf : fldP own (x, ci, k, b, nw)) (hl : (xL Γ)[t]? = some (cn, .inl (ci, fl))) (hk : fl[k]? = some f) (hj : j < cn) (hd : decode cc pc = .ok (.getfield x, 3)) (kk : XW Γ (pc + 3) ls (aVf σ t j k f :: r) σ) : XW Γ pc ls (aR t j :: r) σ := by
  obtain ⟨⟨p, l, e, R⟩, ⟨s, m, args, below, meth, c⟩, ⟨Q, cells, slots, nL⟩, ⟨D, cs, ad, A, Λ⟩⟩ := Γ
  obtain ⟨hx, hb, hml, hown, hts, hK, hst, -⟩ := G
  intro H locs L hP hD hS hL
  have hl : Λ[t]? = some (cn, .inl (ci, fl)) := hl
  unfold fldP at hf
  dsimp only at hf
  split at hf
  · rename_i C T N hc
    obtain ⟨h1, h2, h3, -⟩ := hf
    obtain ⟨q0, -, hq⟩ := aWl_at (cs := cs) (ad := ad) (σ := σ) hl hj
    refine va_get (D := D) (ci := ci) (v := rv ad (aVf σ t j k f)) (C := C) (T := T) (N := N) (ref := C) hx hb hts (cl_ws ci C T N hc) hown hK hP q0 hq hc k h1 (hts _ h2) (fun y hy => by rw [h3] at hy; exact hy) ?_ hd (kk H locs L hP hD hS hL)
    rw [aFs_get ad σ t j fl 0 k hk, aVf_rv, Nat.zero_add]
  · cases hf
theorem XW.putf (G : XG Γ cc own d) {x ci k t j cn nw : Nat} {fl : List (Option (Nat × Bool))} {v : Int32} (hf : fldP own (x, ci, k, true, nw)) (hl : (xL Γ)[t]? = some (cn, .inl (ci, fl))) (hk : fl[k]? = some none) (hj : j < cn) (hd : decode cc pc = .ok (.putfield x, 3)) (kk : XW Γ (pc + 3) ls r (sI σ t j k v)) : XW Γ pc ls (aI v :: aR t j :: r) σ := by
  obtain ⟨⟨p, l, e, R⟩, ⟨s, m, args, below, meth, c⟩, ⟨Q, cells, slots, nL⟩, ⟨D, cs, ad, A, Λ⟩⟩ := Γ
  obtain ⟨hx, hb, hml, hown, hts, hK, hst, -⟩ := G
  intro H locs L hP hD hS hL
  have hl : Λ[t]? = some (cn, .inl (ci, fl)) := hl
  unfold fldP at hf
  dsimp only at hf
  split at hf
  · rename_i C T N hc
    obtain ⟨h1, h2, h3, h45⟩ := hf
    obtain ⟨h4, h5⟩ := h45 rfl
    obtain ⟨ty, hty, hnm⟩ := cl_ty ci C T N hc
    obtain ⟨q0, hq1, hq⟩ := aWl_at (cs := cs) (ad := ad) (σ := σ) hl hj
    refine va_put (D := D) (ci := ci) (v := .int v) (ty := .int) (C := C) (T := T) (N := N) (ref := C) hx hb hts (cl_ws ci C T N hc) ty hty hnm hown hK hP hD hS q0 hq hc k h1 (hts _ h2) (fun y hy => by rw [h3] at hy; exact hy) h4 h5 rfl rfl (by rw [aFs_len]; exact (List.getElem?_eq_some_iff.mp hk).1) hd (fun H1 locs1 hP1 hD1 hS1 => ?_)
    have e : (aWl Λ cs ad σ).set q0 (ad t j, .inr (ci, (aFs ad σ t j 0 fl).set k (.int v))) = aWl Λ cs ad (sI σ t j k v) := by
      rw [← aWl_set hq1 (fun q hq => aWc_sI q hq), aFs_set fl 0 k hk, Nat.zero_add]
      simp [aWc, aSpOf, show Λ[t]? = some (cn, .inl (ci, fl)) from hl, aCell]
    rw [e] at hP1 hD1
    exact kk H1 locs1 L hP1 hD1 hS1 hL
  · cases hf
theorem XW.iald (G : XG Γ cc own d) {t j cn n : Nat} {x : Int32} (hl : (xL Γ)[t]? = some (cn, .inr (0, n))) (hj : j < cn) (hin : vp_in x n) (hd : decode cc pc = .ok (.iaload, 1)) (kk : XW Γ (pc + 1) ls (aI (σ.2.1 t j x.toNatClampNeg) :: r) σ) : XW Γ pc ls (aI x :: aR t j :: r) σ := by
  obtain ⟨⟨p, l, e, R⟩, ⟨s, m, args, below, meth, c⟩, ⟨Q, cells, slots, nL⟩, ⟨D, cs, ad, A, Λ⟩⟩ := Γ
  obtain ⟨hx, hb, hml, hown, hts, hK, hst, -⟩ := G
  intro H locs L hP hD hS hL
  have hl : Λ[t]? = some (cn, .inr (0, n)) := hl
  obtain ⟨q0, -, hq⟩ := aWl_at (cs := cs) (ad := ad) (σ := σ) hl hj
  exact va_iald (D := D) (f := σ.2.1 t j) hx hb hK hP q0 0 hq rfl hin hd (kk H locs L hP hD hS hL)
theorem XW.lald (G : XG Γ cc own d) {t j cn n : Nat} {x : Int32} (hl : (xL Γ)[t]? = some (cn, .inr (1, n))) (hj : j < cn) (hin : vp_in x n) (hd : decode cc pc = .ok (.laload, 1)) (kk : XW Γ (pc + 1) ls (aJ (σ.2.2 t j x.toNatClampNeg) :: r) σ) : XW Γ pc ls (aI x :: aR t j :: r) σ := by
  obtain ⟨⟨p, l, e, R⟩, ⟨s, m, args, below, meth, c⟩, ⟨Q, cells, slots, nL⟩, ⟨D, cs, ad, A, Λ⟩⟩ := Γ
  obtain ⟨hx, hb, hml, hown, hts, hK, hst, -⟩ := G
  intro H locs L hP hD hS hL
  have hl : Λ[t]? = some (cn, .inr (1, n)) := hl
  obtain ⟨q0, -, hq⟩ := aWl_at (cs := cs) (ad := ad) (σ := σ) hl hj
  exact va_lald (D := D) (f := σ.2.2 t j) hx hb hK hP q0 1 hq rfl hin hd (kk H locs L hP hD hS hL)
theorem XW.aald (G : XG Γ cc own d) {t j cn n k : Nat} {x : Int32} (hl : (xL Γ)[t]? = some (cn, .inr (k + 2, n))) (hj : j < cn) (hin : vp_in x n) (hd : decode cc pc = .ok (.aaload, 1)) (kk : XW Γ (pc + 1) ls (aR k x.toNatClampNeg :: r) σ) : XW Γ pc ls (aI x :: aR t j :: r) σ := by
  obtain ⟨⟨p, l, e, R⟩, ⟨s, m, args, below, meth, c⟩, ⟨Q, cells, slots, nL⟩, ⟨D, cs, ad, A, Λ⟩⟩ := Γ
  obtain ⟨hx, hb, hml, hown, hts, hK, hst, -⟩ := G
  intro H locs L hP hD hS hL
  have hl : Λ[t]? = some (cn, .inr (k + 2, n)) := hl
  obtain ⟨q0, -, hq⟩ := aWl_at (cs := cs) (ad := ad) (σ := σ) hl hj
  exact va_aldq (D := D) (f := fun i => some (ad k i)) hx hb hK hP q0 2 hq rfl hin hd (kk H locs L hP hD hS hL)
theorem XW.alen (G : XG Γ cc own d) {t j cn n k : Nat} (hl : (xL Γ)[t]? = some (cn, .inr (k, n))) (hj : j < cn) (hd : decode cc pc = .ok (.arraylength, 1)) (kk : XW Γ (pc + 1) ls (aI (Int32.ofNat n) :: r) σ) : XW Γ pc ls (aR t j :: r) σ := by
  obtain ⟨⟨p, l, e, R⟩, ⟨s, m, args, below, meth, c⟩, ⟨Q, cells, slots, nL⟩, ⟨D, cs, ad, A, Λ⟩⟩ := Γ
  obtain ⟨hx, hb, hml, hown, hts, hK, hst, -⟩ := G
  intro H locs L hP hD hS hL
  have hl : Λ[t]? = some (cn, .inr (k, n)) := hl
  obtain ⟨q0, -, hq⟩ := aWl_at (cs := cs) (ad := ad) (σ := σ) hl hj
  match k, hq with
  | 0, hq => exact va_alen (D := D) hx hb hK hP q0 0 hq rfl rfl hd (kk H locs L hP hD hS hL)
  | 1, hq => exact va_alen (D := D) hx hb hK hP q0 1 hq rfl rfl hd (kk H locs L hP hD hS hL)
  | k + 2, hq => exact va_alen (D := D) hx hb hK hP q0 2 hq rfl rfl hd (kk H locs L hP hD hS hL)
theorem XW.iast (G : XG Γ cc own d) {t j cn n : Nat} {x v : Int32} (hl : (xL Γ)[t]? = some (cn, .inr (0, n))) (hj : j < cn) (hin : vp_in x n) (hd : decode cc pc = .ok (.iastore, 1)) (kk : XW Γ (pc + 1) ls r (sA σ t j x.toNatClampNeg v)) : XW Γ pc ls (aI v :: aI x :: aR t j :: r) σ := by
  obtain ⟨⟨p, l, e, R⟩, ⟨s, m, args, below, meth, c⟩, ⟨Q, cells, slots, nL⟩, ⟨D, cs, ad, A, Λ⟩⟩ := Γ
  obtain ⟨hx, hb, hml, hown, hts, hK, hst, -⟩ := G
  intro H locs L hP hD hS hL
  have hl : Λ[t]? = some (cn, .inr (0, n)) := hl
  obtain ⟨q0, hq1, hq⟩ := aWl_at (cs := cs) (ad := ad) (σ := σ) hl hj
  refine va_iast (D := D) (f := σ.2.1 t j) hx hb hK hP hD hS q0 0 hq rfl hin hd (fun H1 locs1 hP1 hD1 hS1 => ?_)
  have e2 : upd (σ.2.1 t j) x.toNatClampNeg v = (sA σ t j x.toNatClampNeg v).2.1 t j := by
    funext i
    simp [upd, sA]
  have e : (aWl Λ cs ad σ).set q0 (ad t j, .inl (cs.1, n, .inl (upd (σ.2.1 t j) x.toNatClampNeg v))) = aWl Λ cs ad (sA σ t j x.toNatClampNeg v) := by
    rw [← aWl_set (σ := σ) (σ' := sA σ t j x.toNatClampNeg v) hq1 (fun q hq => aWc_A (σ := σ) (σ' := sA σ t j x.toNatClampNeg v) rfl rfl (fun a b hab => sA_ne hab) q hq), e2]
    simp [aWc, aSpOf, show Λ[t]? = some (cn, .inr (0, n)) from hl, aCell]
  rw [e] at hP1 hD1
  exact kk H1 locs1 L hP1 hD1 hS1 hL
theorem XW.last (G : XG Γ cc own d) {t j cn n : Nat} {x : Int32} {v : Int64} (hl : (xL Γ)[t]? = some (cn, .inr (1, n))) (hj : j < cn) (hin : vp_in x n) (hd : decode cc pc = .ok (.lastore, 1)) (kk : XW Γ (pc + 1) ls r (sL σ t j x.toNatClampNeg v)) : XW Γ pc ls (aJ v :: aI x :: aR t j :: r) σ := by
  obtain ⟨⟨p, l, e, R⟩, ⟨s, m, args, below, meth, c⟩, ⟨Q, cells, slots, nL⟩, ⟨D, cs, ad, A, Λ⟩⟩ := Γ
  obtain ⟨hx, hb, hml, hown, hts, hK, hst, -⟩ := G
  intro H locs L hP hD hS hL
  have hl : Λ[t]? = some (cn, .inr (1, n)) := hl
  obtain ⟨q0, hq1, hq⟩ := aWl_at (cs := cs) (ad := ad) (σ := σ) hl hj
  refine va_last (D := D) (f := σ.2.2 t j) hx hb hK hP hD hS q0 1 hq rfl hin hd (fun H1 locs1 hP1 hD1 hS1 => ?_)
  have e2 : vp_updL (σ.2.2 t j) x.toNatClampNeg v = (sL σ t j x.toNatClampNeg v).2.2 t j := by
    funext i
    simp [vp_updL, sL]
  have e : (aWl Λ cs ad σ).set q0 (ad t j, .inl (cs.2.1, n, .inr (.inl (vp_updL (σ.2.2 t j) x.toNatClampNeg v)))) = aWl Λ cs ad (sL σ t j x.toNatClampNeg v) := by
    rw [← aWl_set (σ := σ) (σ' := sL σ t j x.toNatClampNeg v) hq1 (fun q hq => aWc_L (σ := σ) (σ' := sL σ t j x.toNatClampNeg v) rfl rfl (fun a b hab => sL_ne hab) q hq), e2]
    simp [aWc, aSpOf, show Λ[t]? = some (cn, .inr (1, n)) from hl, aCell]
  rw [e] at hP1 hD1
  exact kk H1 locs1 L hP1 hD1 hS1 hL
theorem XW.gets (G : XG Γ cc own d) {x k nw : Nat} (hf : stcP own (x, k, nw)) (hd : decode cc pc = .ok (.getstatic x, 3)) (kk : XW Γ (pc + 3) ls (aR (100 + k) 0 :: r) σ) : XW Γ pc ls r σ := by
  obtain ⟨⟨p, l, e, R⟩, ⟨s, m, args, below, meth, c⟩, ⟨Q, cells, slots, nL⟩, ⟨D, cs, ad, A, Λ⟩⟩ := Γ
  obtain ⟨hx, hb, hml, hown, hts, hK, hst, -⟩ := G
  intro H locs L hP hD hS hL
  exact va_gets hx hb (hst.1 k hf.1).1 hS hown (hts _ hf.2) (fun y hy => hy) hd (kk H locs L hP hD hS hL)
theorem XW.stld (G : XG Γ cc own d) {k : Nat} {x : Int32} (hk : k < 4) (hin : vp_in x (aStL k)) (hd : decode cc pc = .ok (.iaload, 1)) (kk : XW Γ (pc + 1) ls (aI (aStF k x.toNatClampNeg) :: r) σ) : XW Γ pc ls (aI x :: aR (100 + k) 0 :: r) σ := by
  obtain ⟨⟨p, l, e, R⟩, ⟨s, m, args, below, meth, c⟩, ⟨Q, cells, slots, nL⟩, ⟨D, cs, ad, A, Λ⟩⟩ := Γ
  obtain ⟨hx, hb, hml, hown, hts, hK, hst, -⟩ := G
  intro H locs L hP hD hS hL
  exact va_ti hx hb (hst.1 k hk).2 hS hin rfl hd (kk H locs L hP hD hS hL)
theorem XW.stlen (G : XG Γ cc own d) {k : Nat} (hk : k < 4) (hd : decode cc pc = .ok (.arraylength, 1)) (kk : XW Γ (pc + 1) ls (aI (Int32.ofNat (aStL k)) :: r) σ) : XW Γ pc ls (aR (100 + k) 0 :: r) σ := by
  obtain ⟨⟨p, l, e, R⟩, ⟨s, m, args, below, meth, c⟩, ⟨Q, cells, slots, nL⟩, ⟨D, cs, ad, A, Λ⟩⟩ := Γ
  obtain ⟨hx, hb, hml, hown, hts, hK, hst, -⟩ := G
  intro H locs L hP hD hS hL
  exact va_tlen hx hb (hst.1 k hk).2 hS rfl hd (kk H locs L hP hD hS hL)
theorem aCat_eq (ad1 ad2 : aMp) (r : List AV) : ((r.map (rv ad1)).map fun v => v.category) = r.map (fun v => (rv ad2 v).category) := by
  rw [List.map_map]
  refine List.map_congr_left fun v _ => ?_
  match v with
  | .inl w => rfl
  | .inr q => rfl
theorem XW.mmax (G : XG Γ cc own d) {x : Nat} {y z : Int32} (hf : Cond.methodLink own x Lib.Math.max.name ∈ GW) (hw : (r.map (fun v => (rv (fun _ _ => 0) v).category)).sum ≤ 8) (hd : decode cc pc = .ok (.invokestatic x, 3)) (kk : XW Γ (pc + 3) ls (aI (if z < y then y else z) :: r) σ) : XW Γ pc ls (aI y :: aI z :: r) σ := by
  obtain ⟨⟨p, l, e, R⟩, ⟨s, m, args, below, meth, c⟩, ⟨Q, cells, slots, nL⟩, ⟨D, cs, ad, A, Λ⟩⟩ := Γ
  obtain ⟨hx, hb, hml, hown, hts, hK, hst, g1, g2, g3, g4, g5⟩ := G
  intro H locs L hP hD hS hL
  rw [← aCat_eq ad] at hw
  exact va_mmax hx hb (hml.trans hL.1.symm) hown (hts _ hf) (hts _ GW_mx.1) (hts _ GW_mx.2.2.1) (hts _ GW_mx.2.2.2.1) (by omega) (by omega) g3 g4 hd (kk H locs L hP hD hS hL)
theorem XW.mmin (G : XG Γ cc own d) {x : Nat} {y z : Int32} (hf : Cond.methodLink own x Lib.Math.min.name ∈ GW) (hw : (r.map (fun v => (rv (fun _ _ => 0) v).category)).sum ≤ 8) (hd : decode cc pc = .ok (.invokestatic x, 3)) (kk : XW Γ (pc + 3) ls (aI (if y < z then y else z) :: r) σ) : XW Γ pc ls (aI y :: aI z :: r) σ := by
  obtain ⟨⟨p, l, e, R⟩, ⟨s, m, args, below, meth, c⟩, ⟨Q, cells, slots, nL⟩, ⟨D, cs, ad, A, Λ⟩⟩ := Γ
  obtain ⟨hx, hb, hml, hown, hts, hK, hst, g1, g2, g3, g4, g5⟩ := G
  intro H locs L hP hD hS hL
  rw [← aCat_eq ad] at hw
  exact va_mmin hx hb (hml.trans hL.1.symm) hown (hts _ hf) (hts _ GW_mx.2.1) (hts _ GW_mx.2.2.1) (hts _ GW_mx.2.2.2.2) (by omega) (by omega) g3 g4 hd (kk H locs L hP hD hS hL)
end XR
end
section
theorem i8_of {v : Int} (h1 : -128 ≤ v) (h2 : v < 128) : (Int8.ofInt v).toInt32 = Int32.ofInt v := by
  apply Int32.toInt_inj.mp
  rw [Int8.toInt_toInt32, Int8.toInt_ofInt, Int32.toInt_ofInt, show (Int8.size : Nat) = 256 from rfl, show (Int32.size : Nat) = 4294967296 from rfl, Int.bmod_eq_of_le (by omega) (by omega), Int.bmod_eq_of_le (by omega) (by omega)]
theorem i16_of {v : Int} (h1 : -32768 ≤ v) (h2 : v < 32768) : (Int16.ofInt v).toInt32 = Int32.ofInt v := by
  apply Int32.toInt_inj.mp
  rw [Int16.toInt_toInt32, Int16.toInt_ofInt, Int32.toInt_ofInt, show (Int16.size : Nat) = 65536 from rfl, show (Int32.size : Nat) = 4294967296 from rfl, Int.bmod_eq_of_le (by omega) (by omega), Int.bmod_eq_of_le (by omega) (by omega)]
section XS
theorem ex1_ok {Γ : XC} {cc : ByteArray} {own : String} {d : Nat} {K : aKt} (G : XG Γ cc own d) (hK : KOK own K) {i : Instr} {pc : Nat} {ls : List (Option AV)} {st : List AV} {σ : SS} {s' : aSte} {P : List Prop} (hd : decode cc pc = .ok (i, aLen i)) (he : ex1 K (xL Γ) (xN Γ) i (pc, ls, st, σ) = some (s', P)) (hp : aAll P) (kk : XW Γ s'.1 s'.2.1 s'.2.2.1 s'.2.2.2) : XW Γ pc ls st σ := by
  have G0 := G
  obtain ⟨⟨p, l, e, R⟩, ⟨s, m, args, below, meth, c⟩, ⟨Q, cells, slots, nL⟩, ⟨D, cs, ad, A, Λ⟩⟩ := Γ
  obtain ⟨hx, hb, hml, hown, hts, hKK, hst, -⟩ := G
  have eN : xN ((p, l, e, R), (s, m, args, below, meth, c), (Q, cells, slots, nL), (D, cs, ad, A, Λ)) = nL := rfl
  cases i <;> try (exfalso; simp only [ex1] at he; cases he; done)
  case iadd =>
    simp only [ex1] at he
    split at he
    · cases he
      intro H locs L hP hD hS hL
      exact lv_iadd hx hb hd (kk H locs L hP hD hS hL)
    · cases he
  case isub =>
    simp only [ex1] at he
    split at he
    · cases he
      intro H locs L hP hD hS hL
      exact lv_isub hx hb hd (kk H locs L hP hD hS hL)
    · cases he
  case imul =>
    simp only [ex1] at he
    split at he
    · cases he
      intro H locs L hP hD hS hL
      exact lv_imul hx hb hd (kk H locs L hP hD hS hL)
    · cases he
  case iand =>
    simp only [ex1] at he
    split at he
    · cases he
      intro H locs L hP hD hS hL
      exact lv_iand hx hb hd (kk H locs L hP hD hS hL)
    · cases he
  case ixor =>
    simp only [ex1] at he
    split at he
    · cases he
      intro H locs L hP hD hS hL
      exact lv_ixor hx hb hd (kk H locs L hP hD hS hL)
    · cases he
  case ladd =>
    simp only [ex1] at he
    split at he
    · cases he
      intro H locs L hP hD hS hL
      exact lv_ladd hx hb hd (kk H locs L hP hD hS hL)
    · cases he
  case lsub =>
    simp only [ex1] at he
    split at he
    · cases he
      intro H locs L hP hD hS hL
      exact lv_lsub hx hb hd (kk H locs L hP hD hS hL)
    · cases he
  case lmul =>
    simp only [ex1] at he
    split at he
    · cases he
      intro H locs L hP hD hS hL
      exact lv_lmul hx hb hd (kk H locs L hP hD hS hL)
    · cases he
  case land =>
    simp only [ex1] at he
    split at he
    · cases he
      intro H locs L hP hD hS hL
      exact lv_land hx hb hd (kk H locs L hP hD hS hL)
    · cases he
  case lor =>
    simp only [ex1] at he
    split at he
    · cases he
      intro H locs L hP hD hS hL
      exact lv_lor hx hb hd (kk H locs L hP hD hS hL)
    · cases he
  case lcmp =>
    simp only [ex1] at he
    split at he
    · cases he
      intro H locs L hP hD hS hL
      exact W.lcmp hx hb hd (kk H locs L hP hD hS hL)
    · cases he
  case ineg =>
    simp only [ex1] at he
    split at he
    · cases he
      intro H locs L hP hD hS hL
      exact lv_ineg hx hb hd (kk H locs L hP hD hS hL)
    · cases he
  case idiv =>
    simp only [ex1] at he
    split at he
    · cases he
      intro H locs L hP hD hS hL
      exact lv_idiv hx hb hd hp.1 (kk H locs L hP hD hS hL)
    · cases he
  case irem =>
    simp only [ex1] at he
    split at he
    · cases he
      intro H locs L hP hD hS hL
      exact lv_irem hx hb hd hp.1 (kk H locs L hP hD hS hL)
    · cases he
  case ldiv =>
    simp only [ex1] at he
    split at he
    · cases he
      intro H locs L hP hD hS hL
      exact lv_ldiv hx hb hd hp.1 (kk H locs L hP hD hS hL)
    · cases he
  case lrem =>
    simp only [ex1] at he
    split at he
    · cases he
      intro H locs L hP hD hS hL
      exact lv_lrem hx hb hd hp.1 (kk H locs L hP hD hS hL)
    · cases he
  case i2b =>
    simp only [ex1] at he
    split at he
    · cases he
      intro H locs L hP hD hS hL
      exact lv_i2b hx hb hd rfl (kk H locs L hP hD hS hL)
    · cases he
  case i2l =>
    simp only [ex1] at he
    split at he
    · cases he
      intro H locs L hP hD hS hL
      exact lv_i2l hx hb hd rfl (kk H locs L hP hD hS hL)
    · cases he
  case i2s =>
    simp only [ex1] at he
    split at he
    · cases he
      intro H locs L hP hD hS hL
      exact lv_i2s hx hb hd rfl (kk H locs L hP hD hS hL)
    · cases he
  case iushr =>
    simp only [ex1] at he
    split at he
    · cases he
      intro H locs L hP hD hS hL
      exact lv_iushr hx hb hd rfl (kk H locs L hP hD hS hL)
    · cases he
  case l2i =>
    simp only [ex1] at he
    split at he
    · cases he
      intro H locs L hP hD hS hL
      exact lv_l2i hx hb hd rfl (kk H locs L hP hD hS hL)
    · cases he
  case lshl =>
    simp only [ex1] at he
    split at he
    · cases he
      intro H locs L hP hD hS hL
      exact lv_lshl hx hb hd rfl (kk H locs L hP hD hS hL)
    · cases he
  case aconst_null =>
    simp only [ex1] at he
    cases he
    intro H locs L hP hD hS hL
    exact lv_null hx hb hd (kk H locs L hP hD hS hL)
  case iconst v =>
    simp only [ex1] at he
    cases he
    intro H locs L hP hD hS hL
    exact lv_iconst hx hb hd rfl (kk H locs L hP hD hS hL)
  case bipush v =>
    simp only [ex1] at he
    cases hz : (decide (-128 ≤ v) && decide (v < 128)) with
    | false =>
      rw [hz] at he
      cases he
    | true =>
      rw [hz] at he
      rw [Bool.and_eq_true, decide_eq_true_eq, decide_eq_true_eq] at hz
      cases he
      intro H locs L hP hD hS hL
      exact lv_bipush hx hb hd (i8_of hz.1 hz.2) (kk H locs L hP hD hS hL)
  case sipush v =>
    simp only [ex1] at he
    cases hz : (decide (-32768 ≤ v) && decide (v < 32768)) with
    | false =>
      rw [hz] at he
      cases he
    | true =>
      rw [hz] at he
      rw [Bool.and_eq_true, decide_eq_true_eq, decide_eq_true_eq] at hz
      cases he
      intro H locs L hP hD hS hL
      exact lv_sipush hx hb hd (i16_of hz.1 hz.2) (kk H locs L hP hD hS hL)
  case lconst v =>
    simp only [ex1] at he
    cases he
    intro H locs L hP hD hS hL
    exact lv_lconst hx hb hd rfl (kk H locs L hP hD hS hL)
  case ldc x =>
    simp only [ex1] at he
    split at he
    · rename_i v nw hv
      cases he
      intro H locs L hP hD hS hL
      exact W.ldc hx hb hown (hts _ (hK.2.2.1 _ (aFd_mem hv))) rfl hd (kk H locs L hP hD hS hL)
    · cases he
  case ldc_w x =>
    simp only [ex1] at he
    split at he
    · rename_i v nw hv
      cases he
      intro H locs L hP hD hS hL
      exact lv_ldcw hx hb hown (hts _ (hK.2.2.1 _ (aFd_mem hv))) hd (kk H locs L hP hD hS hL)
    · cases he
  case ldc2_w x =>
    simp only [ex1] at he
    split at he
    · rename_i v nw hv
      cases he
      intro H locs L hP hD hS hL
      exact W.ldc2 hx hb hown (hts _ (hK.2.2.2.1 _ (aFd_mem hv))) rfl hd (kk H locs L hP hD hS hL)
    · cases he
  case iload_n k =>
    simp only [ex1] at he
    split at he
    · rename_i x hv
      cases he
      intro H locs L hP hD hS hL
      exact lv_iload_n hx hb hd rfl (hL.2.2 _ _ hv) (kk H locs L hP hD hS hL)
    · cases he
  case iload k =>
    simp only [ex1] at he
    split at he
    · rename_i x hv
      cases he
      intro H locs L hP hD hS hL
      exact lv_iload hx hb hd (hL.2.2 _ _ hv) (kk H locs L hP hD hS hL)
    · cases he
  case lload_n k =>
    simp only [ex1] at he
    split at he
    · rename_i x hv
      cases he
      intro H locs L hP hD hS hL
      exact lv_lload_n hx hb hd rfl (hL.2.2 _ _ hv) (kk H locs L hP hD hS hL)
    · cases he
  case lload k =>
    simp only [ex1] at he
    split at he
    · rename_i x hv
      cases he
      intro H locs L hP hD hS hL
      exact lv_lload hx hb hd (hL.2.2 _ _ hv) (kk H locs L hP hD hS hL)
    · cases he
  case aload_n k =>
    simp only [ex1] at he
    split at he
    · rename_i q hv
      cases he
      intro H locs L hP hD hS hL
      exact lv_aload_n hx hb hd rfl (hL.2.2 _ _ hv) (kk H locs L hP hD hS hL)
    · rename_i hv
      cases he
      intro H locs L hP hD hS hL
      exact lv_aload_nN hx hb hd rfl (hL.2.2 _ _ hv) (kk H locs L hP hD hS hL)
    · cases he
  case aload k =>
    simp only [ex1] at he
    split at he
    · rename_i q hv
      cases he
      intro H locs L hP hD hS hL
      exact lv_aload hx hb hd (hL.2.2 _ _ hv) (kk H locs L hP hD hS hL)
    · rename_i hv
      cases he
      intro H locs L hP hD hS hL
      exact lv_aloadN hx hb hd (hL.2.2 _ _ hv) (kk H locs L hP hD hS hL)
    · cases he
  case istore_n k =>
    simp only [ex1] at he
    split at he
    · cases hb2 : Nat.ble nL ((k : Nat)) with
      | true =>
        rw [eN, hb2] at he
        cases he
      | false =>
        rw [eN, hb2] at he
        have hlt : (k : Nat) < nL := by
          have := Nat.not_le_of_not_ble_eq_true (fun z => by rw [hb2] at z; cases z)
          omega
        cases he
        intro H locs L hP hD hS hL
        exact lv_istore_n hx hb hd rfl hL.lv hlt rfl (fun L2 hL2 => kk H locs L2 hP hD hS (aHas_put hL2))
    · cases he
  case istore k =>
    simp only [ex1] at he
    split at he
    · cases hb2 : Nat.ble nL (k) with
      | true =>
        rw [eN, hb2] at he
        cases he
      | false =>
        rw [eN, hb2] at he
        have hlt : k < nL := by
          have := Nat.not_le_of_not_ble_eq_true (fun z => by rw [hb2] at z; cases z)
          omega
        cases he
        intro H locs L hP hD hS hL
        exact lv_istore hx hb hd hL.lv hlt rfl (fun L2 hL2 => kk H locs L2 hP hD hS (aHas_put hL2))
    · cases he
  case lstore_n k =>
    simp only [ex1] at he
    split at he
    · cases hb2 : Nat.ble nL ((k : Nat) + 1) with
      | true =>
        rw [eN, hb2] at he
        cases he
      | false =>
        rw [eN, hb2] at he
        have hlt : (k : Nat) + 1 < nL := by
          have := Nat.not_le_of_not_ble_eq_true (fun z => by rw [hb2] at z; cases z)
          omega
        cases he
        intro H locs L hP hD hS hL
        exact lv_lstore_n hx hb hd rfl hL.lv hlt rfl (fun L2 hL2 => kk H locs L2 hP hD hS (aHas_put2 hL2))
    · cases he
  case lstore k =>
    simp only [ex1] at he
    split at he
    · cases hb2 : Nat.ble nL (k + 1) with
      | true =>
        rw [eN, hb2] at he
        cases he
      | false =>
        rw [eN, hb2] at he
        have hlt : k + 1 < nL := by
          have := Nat.not_le_of_not_ble_eq_true (fun z => by rw [hb2] at z; cases z)
          omega
        cases he
        intro H locs L hP hD hS hL
        exact lv_lstore hx hb hd hL.lv hlt rfl (fun L2 hL2 => kk H locs L2 hP hD hS (aHas_put2 hL2))
    · cases he
  case astore_n k =>
    simp only [ex1] at he
    split at he
    · cases hb2 : Nat.ble nL ((k : Nat)) with
      | true =>
        rw [eN, hb2] at he
        cases he
      | false =>
        rw [eN, hb2] at he
        have hlt : (k : Nat) < nL := by
          have := Nat.not_le_of_not_ble_eq_true (fun z => by rw [hb2] at z; cases z)
          omega
        cases he
        intro H locs L hP hD hS hL
        exact lv_astore_n hx hb hd rfl hL.lv hlt rfl (fun L2 hL2 => kk H locs L2 hP hD hS (aHas_put hL2))
    · cases hb2 : Nat.ble nL ((k : Nat)) with
      | true =>
        rw [eN, hb2] at he
        cases he
      | false =>
        rw [eN, hb2] at he
        have hlt : (k : Nat) < nL := by
          have := Nat.not_le_of_not_ble_eq_true (fun z => by rw [hb2] at z; cases z)
          omega
        cases he
        intro H locs L hP hD hS hL
        exact lv_astore_nN hx hb hd rfl hL.lv hlt rfl (fun L2 hL2 => kk H locs L2 hP hD hS (aHas_put hL2))
    · cases he
  case astore k =>
    simp only [ex1] at he
    split at he
    · cases hb2 : Nat.ble nL (k) with
      | true =>
        rw [eN, hb2] at he
        cases he
      | false =>
        rw [eN, hb2] at he
        have hlt : k < nL := by
          have := Nat.not_le_of_not_ble_eq_true (fun z => by rw [hb2] at z; cases z)
          omega
        cases he
        intro H locs L hP hD hS hL
        exact lv_astore hx hb hd hL.lv hlt rfl (fun L2 hL2 => kk H locs L2 hP hD hS (aHas_put hL2))
    · cases hb2 : Nat.ble nL (k) with
      | true =>
        rw [eN, hb2] at he
        cases he
      | false =>
        rw [eN, hb2] at he
        have hlt : k < nL := by
          have := Nat.not_le_of_not_ble_eq_true (fun z => by rw [hb2] at z; cases z)
          omega
        cases he
        intro H locs L hP hD hS hL
        exact lv_astoreN hx hb hd hL.lv hlt rfl (fun L2 hL2 => kk H locs L2 hP hD hS (aHas_put hL2))
    · cases he
  case iinc k v =>
    simp only [ex1] at he
    split at he
    · rename_i x hv
      cases he
      intro H locs L hP hD hS hL
      have hm : (k, Value.int x) ∈ aEnt ad 0 ls := (aEnt_mem ls 0).mpr ⟨_, Nat.zero_le _, by simpa using hv, rfl⟩
      obtain ⟨z, hz⟩ := List.getElem?_of_mem hm
      have hlt : k < nL := by
        have h1 := hL.2.2 _ _ hv
        rw [← hL.1]
        exact (Array.getElem?_eq_some_iff.mp h1).1
      exact lv_iinc hx hb hd hL.lv hz rfl hlt rfl (fun L2 hL2 => kk H locs L2 hP hD hS (aHas_put hL2))
    · cases he
  case goto off =>
    simp only [ex1] at he
    cases hb2 : Nat.beq (aJmp pc off) 0 with
    | true =>
      rw [hb2] at he
      cases he
    | false =>
      rw [hb2] at he
      cases he
      intro H locs L hP hD hS hL
      refine lv_goto (tgt := aJmp pc off) hx hb hd ?_ (kk H locs L hP hD hS hL)
      have h1 : aJmp pc off ≠ 0 := fun z => by rw [z] at hb2; cases hb2
      unfold aJmp at h1 ⊢
      omega
  case dup =>
    simp only [ex1] at he
    split at he
    · cases he
      intro H locs L hP hD hS hL
      exact lv_dup hx hb hd rfl (kk H locs L hP hD hS hL)
    · cases he
      intro H locs L hP hD hS hL
      exact lv_dup hx hb hd rfl (kk H locs L hP hD hS hL)
    · cases he
  case dup_x1 =>
    simp only [ex1] at he
    split at he
    · cases he
      intro H locs L hP hD hS hL
      exact lv_dup_x1 hx hb hd rfl rfl (kk H locs L hP hD hS hL)
    · cases he
      intro H locs L hP hD hS hL
      exact lv_dup_x1 hx hb hd rfl rfl (kk H locs L hP hD hS hL)
    · cases he
  case getfield x =>
    simp only [ex1] at he
    split at he
    · rename_i t j r
      split at he
      · rename_i ci k b nw cn c2 fl hf hl
        split at he
        · rename_i P2 hk hj
          cases hc : Nat.beq ci c2 with
          | true =>
            rw [hc] at he
            have e := Nat.eq_of_beq_eq_true hc
            subst e
            cases he
            exact XW.getf G0 (hK.1 _ (aFd_mem hf)) hl hk (aJok_lt hj hp) hd kk
          | false =>
            rw [hc] at he
            cases he
        · rename_i t2 b2 P2 hk hj
          cases hc : Nat.beq ci c2 with
          | true =>
            rw [hc] at he
            have e := Nat.eq_of_beq_eq_true hc
            subst e
            cases he
            exact XW.getf G0 (hK.1 _ (aFd_mem hf)) hl hk (aJok_lt hj hp) hd kk
          | false =>
            rw [hc] at he
            cases he
        · cases he
      · cases he
    · cases he
  case putfield x =>
    simp only [ex1] at he
    split at he
    · rename_i v t j r
      split at he
      · rename_i ci k nw cn c2 fl hf hl
        split at he
        · rename_i P2 hk hj
          cases hc : Nat.beq ci c2 with
          | true =>
            rw [hc] at he
            have e := Nat.eq_of_beq_eq_true hc
            subst e
            cases he
            exact XW.putf G0 (hK.1 _ (aFd_mem hf)) hl hk (aJok_lt hj hp) hd kk
          | false =>
            rw [hc] at he
            cases he
        · cases he
      · cases he
    · cases he
  case getstatic x =>
    simp only [ex1] at he
    split at he
    · rename_i k nw hf
      cases he
      exact XW.gets G0 (hK.2.1 _ (aFd_mem hf)) hd kk
    · cases he
  case invokestatic x =>
    simp only [ex1] at he
    split at he
    · rename_i y z r
      split at he
      · rename_i nw hf
        cases he
        exact XW.mmax G0 (hK.2.2.2.2 _ (aFd_mem hf)) hp.1 hd kk
      · rename_i nw hf
        cases he
        exact XW.mmin G0 (hK.2.2.2.2 _ (aFd_mem hf)) hp.1 hd kk
      · cases he
    · cases he
  case arraylength =>
    simp only [ex1] at he
    split at he
    · rename_i t j r
      cases h1 : Nat.ble 100 t with
      | true =>
        rw [h1] at he
        cases h2 : Nat.ble 104 t with
        | true =>
          rw [h2] at he
          cases he
        | false =>
          rw [h2] at he
          have g1 := Nat.le_of_ble_eq_true h1
          have g2 : t < 104 := by
            have := Nat.not_le_of_not_ble_eq_true (fun z => by rw [h2] at z; cases z)
            omega
          obtain ⟨k, rfl⟩ : ∃ k, t = 100 + k := ⟨t - 100, by omega⟩
          have g3 : 100 + k - 100 = k := by omega
          rw [g3] at he
          cases he
          obtain ⟨rfl, -⟩ := hp
          exact XW.stlen G0 (by omega) hd kk
      | false =>
        rw [h1] at he
        dsimp only [cond_false] at he
        split at he
        · rename_i cn k2 z hl
          split at he
          · rename_i P2 hj
            cases he
            exact XW.alen G0 hl (aJok_lt hj hp) hd kk
          · cases he
        · cases he
    · cases he
  case iaload =>
    simp only [ex1] at he
    split at he
    · rename_i x t j r
      cases h1 : Nat.ble 100 t with
      | true =>
        rw [h1] at he
        cases h2 : Nat.ble 104 t with
        | true =>
          rw [h2] at he
          cases he
        | false =>
          rw [h2] at he
          have g1 := Nat.le_of_ble_eq_true h1
          have g2 : t < 104 := by
            have := Nat.not_le_of_not_ble_eq_true (fun z => by rw [h2] at z; cases z)
            omega
          obtain ⟨k, rfl⟩ : ∃ k, t = 100 + k := ⟨t - 100, by omega⟩
          have g3 : 100 + k - 100 = k := by omega
          rw [g3] at he
          cases he
          obtain ⟨rfl, hp, -⟩ := hp
          exact XW.stld G0 (by omega) hp hd kk
      | false =>
        rw [h1] at he
        dsimp only [cond_false] at he
        split at he
        · rename_i cn z hl
          split at he
          · rename_i P2 hj
            cases he
            exact XW.iald G0 hl (aJok_lt hj (aAll_app hp).1) (aAll_app hp).2.1 hd kk
          · cases he
        · cases he
    · cases he
  case laload =>
    simp only [ex1] at he
    split at he
    · rename_i x t j r
      split at he
      · rename_i cn z hl
        split at he
        · rename_i P2 hj
          cases he
          exact XW.lald G0 hl (aJok_lt hj (aAll_app hp).1) (aAll_app hp).2.1 hd kk
        · cases he
      · cases he
    · cases he
  case aaload =>
    simp only [ex1] at he
    split at he
    · rename_i x t j r
      split at he
      · rename_i cn k2 z hl
        split at he
        · rename_i P2 hj
          cases he
          exact XW.aald G0 hl (aJok_lt hj (aAll_app hp).1) (aAll_app hp).2.1 hd kk
        · cases he
      · cases he
    · cases he
  case iastore =>
    simp only [ex1] at he
    split at he
    · rename_i v x t j r
      split at he
      · rename_i cn z hl
        split at he
        · rename_i P2 hj
          cases he
          exact XW.iast G0 hl (aJok_lt hj (aAll_app hp).1) (aAll_app hp).2.1 hd kk
        · cases he
      · cases he
    · cases he
  case lastore =>
    simp only [ex1] at he
    split at he
    · rename_i v x t j r
      split at he
      · rename_i cn z hl
        split at he
        · rename_i P2 hj
          cases he
          exact XW.last G0 hl (aJok_lt hj (aAll_app hp).1) (aAll_app hp).2.1 hd kk
        · cases he
      · cases he
    · cases he
end XS
end
