-- ===== PART A: goes FIRST, ahead of the names: the tables' words, and 'selects' of the private methods out of them =====
/-- a private method of a class that the tables say can be made, by its rows of tables_1 -/
def lw_okq (q : MethodName × Nat) : Prop := (q.1.cls ≠ "java/lang/invoke/MethodHandle" ∧ q.1.cls ≠ "java/lang/invoke/VarHandle") ∧ Cond.instantiable q.1.cls q.2 ∈ tables_1 ∧ Cond.privateMethod q.1 ∈ tables_1 ∧ Cond.instanceMethod q.1 ∈ tables_1
theorem lw_p0 : lw_okq (⟨"DustYard", "cutsNeeded", "()I"⟩, 15) := ⟨⟨by decide +kernel, by decide +kernel⟩, List.mem_of_getElem? (i := 29) (by decide +kernel), List.mem_of_getElem? (i := 431) (by decide +kernel), List.mem_of_getElem? (i := 432) (by decide +kernel)⟩
theorem lw_p1 : lw_okq (⟨"DustYard", "lead", "(II)I"⟩, 15) := ⟨⟨by decide +kernel, by decide +kernel⟩, List.mem_of_getElem? (i := 29) (by decide +kernel), List.mem_of_getElem? (i := 493) (by decide +kernel), List.mem_of_getElem? (i := 494) (by decide +kernel)⟩
theorem lw_p2 : lw_okq (⟨"DustYard$Reader", "readsLawLine", "()Z"⟩, 3) := ⟨⟨by decide +kernel, by decide +kernel⟩, List.mem_of_getElem? (i := 240) (by decide +kernel), List.mem_of_getElem? (i := 595) (by decide +kernel), List.mem_of_getElem? (i := 596) (by decide +kernel)⟩
theorem lw_p3 : lw_okq (⟨"DustYard$Reader", "readsAny", "(I)Z"⟩, 3) := ⟨⟨by decide +kernel, by decide +kernel⟩, List.mem_of_getElem? (i := 240) (by decide +kernel), List.mem_of_getElem? (i := 659) (by decide +kernel), List.mem_of_getElem? (i := 660) (by decide +kernel)⟩
theorem lw_p4 : lw_okq (⟨"DustYard$Reader", "readsAll", "(I)Z"⟩, 3) := ⟨⟨by decide +kernel, by decide +kernel⟩, List.mem_of_getElem? (i := 240) (by decide +kernel), List.mem_of_getElem? (i := 663) (by decide +kernel), List.mem_of_getElem? (i := 664) (by decide +kernel)⟩
theorem lw_p5 : lw_okq (⟨"DustYard$Reader", "readsAtom", "(I)Z"⟩, 3) := ⟨⟨by decide +kernel, by decide +kernel⟩, List.mem_of_getElem? (i := 240) (by decide +kernel), List.mem_of_getElem? (i := 667) (by decide +kernel), List.mem_of_getElem? (i := 668) (by decide +kernel)⟩
theorem lw_p6 : lw_okq (⟨"DustYard$Reader", "readsSum", "()Z"⟩, 3) := ⟨⟨by decide +kernel, by decide +kernel⟩, List.mem_of_getElem? (i := 240) (by decide +kernel), List.mem_of_getElem? (i := 688) (by decide +kernel), List.mem_of_getElem? (i := 689) (by decide +kernel)⟩
theorem lw_p7 : lw_okq (⟨"DustYard$Reader", "readsPart", "()Z"⟩, 3) := ⟨⟨by decide +kernel, by decide +kernel⟩, List.mem_of_getElem? (i := 240) (by decide +kernel), List.mem_of_getElem? (i := 692) (by decide +kernel), List.mem_of_getElem? (i := 693) (by decide +kernel)⟩
theorem lw_p8 : lw_okq (⟨"DustYard$Reader", "readsYardLine", "()Z"⟩, 3) := ⟨⟨by decide +kernel, by decide +kernel⟩, List.mem_of_getElem? (i := 240) (by decide +kernel), List.mem_of_getElem? (i := 709) (by decide +kernel), List.mem_of_getElem? (i := 710) (by decide +kernel)⟩
theorem lw_p9 : lw_okq (⟨"DustYard$Reader", "readsStreet", "()Z"⟩, 3) := ⟨⟨by decide +kernel, by decide +kernel⟩, List.mem_of_getElem? (i := 240) (by decide +kernel), List.mem_of_getElem? (i := 713) (by decide +kernel), List.mem_of_getElem? (i := 714) (by decide +kernel)⟩
theorem lw_p10 : lw_okq (⟨"DustYard$Reader", "readsCart", "()Z"⟩, 3) := ⟨⟨by decide +kernel, by decide +kernel⟩, List.mem_of_getElem? (i := 240) (by decide +kernel), List.mem_of_getElem? (i := 732) (by decide +kernel), List.mem_of_getElem? (i := 733) (by decide +kernel)⟩
theorem lw_p11 : lw_okq (⟨"DustYard$Reader", "readsSieve", "()Z"⟩, 3) := ⟨⟨by decide +kernel, by decide +kernel⟩, List.mem_of_getElem? (i := 240) (by decide +kernel), List.mem_of_getElem? (i := 743) (by decide +kernel), List.mem_of_getElem? (i := 744) (by decide +kernel)⟩
theorem lw_p12 : lw_okq (⟨"DustYard$Reader", "readsContract", "()Z"⟩, 3) := ⟨⟨by decide +kernel, by decide +kernel⟩, List.mem_of_getElem? (i := 240) (by decide +kernel), List.mem_of_getElem? (i := 752) (by decide +kernel), List.mem_of_getElem? (i := 753) (by decide +kernel)⟩
theorem lw_p13 : lw_okq (⟨"DustYard$Reader", "readsHeap", "()Z"⟩, 3) := ⟨⟨by decide +kernel, by decide +kernel⟩, List.mem_of_getElem? (i := 240) (by decide +kernel), List.mem_of_getElem? (i := 764) (by decide +kernel), List.mem_of_getElem? (i := 765) (by decide +kernel)⟩
theorem lw_p14 : lw_okq (⟨"DustYard$Reader", "readsRest", "()Z"⟩, 3) := ⟨⟨by decide +kernel, by decide +kernel⟩, List.mem_of_getElem? (i := 240) (by decide +kernel), List.mem_of_getElem? (i := 768) (by decide +kernel), List.mem_of_getElem? (i := 769) (by decide +kernel)⟩
theorem lw_p15 : lw_okq (⟨"java/lang/Throwable", "fillInStackTrace", "(I)Ljava/lang/Throwable;"⟩, 6) := ⟨⟨by decide +kernel, by decide +kernel⟩, List.mem_of_getElem? (i := 822) (by decide +kernel), List.mem_of_getElem? (i := 820) (by decide +kernel), List.mem_of_getElem? (i := 821) (by decide +kernel)⟩
def lw_privs_1 : List (MethodName × Nat) := [(⟨"DustYard", "cutsNeeded", "()I"⟩, 15), (⟨"DustYard", "lead", "(II)I"⟩, 15), (⟨"DustYard$Reader", "readsLawLine", "()Z"⟩, 3), (⟨"DustYard$Reader", "readsAny", "(I)Z"⟩, 3), (⟨"DustYard$Reader", "readsAll", "(I)Z"⟩, 3), (⟨"DustYard$Reader", "readsAtom", "(I)Z"⟩, 3), (⟨"DustYard$Reader", "readsSum", "()Z"⟩, 3), (⟨"DustYard$Reader", "readsPart", "()Z"⟩, 3), (⟨"DustYard$Reader", "readsYardLine", "()Z"⟩, 3), (⟨"DustYard$Reader", "readsStreet", "()Z"⟩, 3), (⟨"DustYard$Reader", "readsCart", "()Z"⟩, 3), (⟨"DustYard$Reader", "readsSieve", "()Z"⟩, 3), (⟨"DustYard$Reader", "readsContract", "()Z"⟩, 3), (⟨"DustYard$Reader", "readsHeap", "()Z"⟩, 3), (⟨"DustYard$Reader", "readsRest", "()Z"⟩, 3), (⟨"java/lang/Throwable", "fillInStackTrace", "(I)Ljava/lang/Throwable;"⟩, 6)]
theorem lw_r1 : ∀ q ∈ lw_privs_1, lw_okq q := List.forall_mem_cons.mpr ⟨lw_p0, List.forall_mem_cons.mpr ⟨lw_p1, List.forall_mem_cons.mpr ⟨lw_p2, List.forall_mem_cons.mpr ⟨lw_p3, List.forall_mem_cons.mpr ⟨lw_p4, List.forall_mem_cons.mpr ⟨lw_p5, List.forall_mem_cons.mpr ⟨lw_p6, List.forall_mem_cons.mpr ⟨lw_p7, List.forall_mem_cons.mpr ⟨lw_p8, List.forall_mem_cons.mpr ⟨lw_p9, List.forall_mem_cons.mpr ⟨lw_p10, List.forall_mem_cons.mpr ⟨lw_p11, List.forall_mem_cons.mpr ⟨lw_p12, List.forall_mem_cons.mpr ⟨lw_p13, List.forall_mem_cons.mpr ⟨lw_p14, List.forall_mem_cons.mpr ⟨lw_p15, fun _ h => absurd h List.not_mem_nil⟩⟩⟩⟩⟩⟩⟩⟩⟩⟩⟩⟩⟩⟩⟩⟩
theorem lw_p16 : lw_okq (⟨"DustYard", "needStreet", "(I)V"⟩, 15) := ⟨⟨by decide +kernel, by decide +kernel⟩, List.mem_of_getElem? (i := 29) (by decide +kernel), List.mem_of_getElem? (i := 889) (by decide +kernel), List.mem_of_getElem? (i := 890) (by decide +kernel)⟩
theorem lw_p17 : lw_okq (⟨"DustYard$Law", "holds", "(ILDustYard$State;I)Z"⟩, 8) := ⟨⟨by decide +kernel, by decide +kernel⟩, List.mem_of_getElem? (i := 187) (by decide +kernel), List.mem_of_getElem? (i := 929) (by decide +kernel), List.mem_of_getElem? (i := 930) (by decide +kernel)⟩
theorem lw_p18 : lw_okq (⟨"DustYard", "partOf", "(I)I"⟩, 15) := ⟨⟨by decide +kernel, by decide +kernel⟩, List.mem_of_getElem? (i := 29) (by decide +kernel), List.mem_of_getElem? (i := 957) (by decide +kernel), List.mem_of_getElem? (i := 958) (by decide +kernel)⟩
theorem lw_p19 : lw_okq (⟨"DustYard", "needCart", "(I)V"⟩, 15) := ⟨⟨by decide +kernel, by decide +kernel⟩, List.mem_of_getElem? (i := 29) (by decide +kernel), List.mem_of_getElem? (i := 996) (by decide +kernel), List.mem_of_getElem? (i := 997) (by decide +kernel)⟩
theorem lw_p20 : lw_okq (⟨"DustYard", "reachedBy", "(I)I"⟩, 15) := ⟨⟨by decide +kernel, by decide +kernel⟩, List.mem_of_getElem? (i := 29) (by decide +kernel), List.mem_of_getElem? (i := 1009) (by decide +kernel), List.mem_of_getElem? (i := 1010) (by decide +kernel)⟩
theorem lw_p21 : lw_okq (⟨"DustYard$Rounds", "measure", "(LDustYard$State;)V"⟩, 4) := ⟨⟨by decide +kernel, by decide +kernel⟩, List.mem_of_getElem? (i := 256) (by decide +kernel), List.mem_of_getElem? (i := 1023) (by decide +kernel), List.mem_of_getElem? (i := 1024) (by decide +kernel)⟩
theorem lw_p22 : lw_okq (⟨"DustYard$Rounds", "leastUpTo", "(LDustYard$State;II)I"⟩, 4) := ⟨⟨by decide +kernel, by decide +kernel⟩, List.mem_of_getElem? (i := 256) (by decide +kernel), List.mem_of_getElem? (i := 1027) (by decide +kernel), List.mem_of_getElem? (i := 1028) (by decide +kernel)⟩
theorem lw_p23 : lw_okq (⟨"DustYard", "needContract", "(I)V"⟩, 15) := ⟨⟨by decide +kernel, by decide +kernel⟩, List.mem_of_getElem? (i := 29) (by decide +kernel), List.mem_of_getElem? (i := 1059) (by decide +kernel), List.mem_of_getElem? (i := 1060) (by decide +kernel)⟩
theorem lw_p24 : lw_okq (⟨"DustYard", "streetsTold", "()I"⟩, 15) := ⟨⟨by decide +kernel, by decide +kernel⟩, List.mem_of_getElem? (i := 29) (by decide +kernel), List.mem_of_getElem? (i := 1257) (by decide +kernel), List.mem_of_getElem? (i := 1258) (by decide +kernel)⟩
theorem lw_p25 : lw_okq (⟨"DustYard", "needRows", "(I)V"⟩, 15) := ⟨⟨by decide +kernel, by decide +kernel⟩, List.mem_of_getElem? (i := 29) (by decide +kernel), List.mem_of_getElem? (i := 1294) (by decide +kernel), List.mem_of_getElem? (i := 1295) (by decide +kernel)⟩
theorem lw_p26 : lw_okq (⟨"DustYard$Guesses", "wrongRows", "(LDustYard$State;I)I"⟩, 4) := ⟨⟨by decide +kernel, by decide +kernel⟩, List.mem_of_getElem? (i := 301) (by decide +kernel), List.mem_of_getElem? (i := 1307) (by decide +kernel), List.mem_of_getElem? (i := 1308) (by decide +kernel)⟩
theorem lw_p27 : lw_okq (⟨"DustYard$Guesses", "clearParts", "()V"⟩, 4) := ⟨⟨by decide +kernel, by decide +kernel⟩, List.mem_of_getElem? (i := 301) (by decide +kernel), List.mem_of_getElem? (i := 1336) (by decide +kernel), List.mem_of_getElem? (i := 1337) (by decide +kernel)⟩
theorem lw_p28 : lw_okq (⟨"DustYard$Guesses", "greatestPart", "()I"⟩, 4) := ⟨⟨by decide +kernel, by decide +kernel⟩, List.mem_of_getElem? (i := 301) (by decide +kernel), List.mem_of_getElem? (i := 1340) (by decide +kernel), List.mem_of_getElem? (i := 1341) (by decide +kernel)⟩
theorem lw_p29 : lw_okq (⟨"DustYard$Guesses", "isPairFit", "(II)Z"⟩, 4) := ⟨⟨by decide +kernel, by decide +kernel⟩, List.mem_of_getElem? (i := 301) (by decide +kernel), List.mem_of_getElem? (i := 1356) (by decide +kernel), List.mem_of_getElem? (i := 1357) (by decide +kernel)⟩
theorem lw_p30 : lw_okq (⟨"DustYard$Guesses", "partPairs", "(I)V"⟩, 4) := ⟨⟨by decide +kernel, by decide +kernel⟩, List.mem_of_getElem? (i := 301) (by decide +kernel), List.mem_of_getElem? (i := 1379) (by decide +kernel), List.mem_of_getElem? (i := 1380) (by decide +kernel)⟩
theorem lw_p31 : lw_okq (⟨"DustYard$Deals", "putFrom", "(LDustYard$State;II)V"⟩, 5) := ⟨⟨by decide +kernel, by decide +kernel⟩, List.mem_of_getElem? (i := 275) (by decide +kernel), List.mem_of_getElem? (i := 1394) (by decide +kernel), List.mem_of_getElem? (i := 1395) (by decide +kernel)⟩
def lw_privs_2 : List (MethodName × Nat) := [(⟨"DustYard", "needStreet", "(I)V"⟩, 15), (⟨"DustYard$Law", "holds", "(ILDustYard$State;I)Z"⟩, 8), (⟨"DustYard", "partOf", "(I)I"⟩, 15), (⟨"DustYard", "needCart", "(I)V"⟩, 15), (⟨"DustYard", "reachedBy", "(I)I"⟩, 15), (⟨"DustYard$Rounds", "measure", "(LDustYard$State;)V"⟩, 4), (⟨"DustYard$Rounds", "leastUpTo", "(LDustYard$State;II)I"⟩, 4), (⟨"DustYard", "needContract", "(I)V"⟩, 15), (⟨"DustYard", "streetsTold", "()I"⟩, 15), (⟨"DustYard", "needRows", "(I)V"⟩, 15), (⟨"DustYard$Guesses", "wrongRows", "(LDustYard$State;I)I"⟩, 4), (⟨"DustYard$Guesses", "clearParts", "()V"⟩, 4), (⟨"DustYard$Guesses", "greatestPart", "()I"⟩, 4), (⟨"DustYard$Guesses", "isPairFit", "(II)Z"⟩, 4), (⟨"DustYard$Guesses", "partPairs", "(I)V"⟩, 4), (⟨"DustYard$Deals", "putFrom", "(LDustYard$State;II)V"⟩, 5)]
theorem lw_r2 : ∀ q ∈ lw_privs_2, lw_okq q := List.forall_mem_cons.mpr ⟨lw_p16, List.forall_mem_cons.mpr ⟨lw_p17, List.forall_mem_cons.mpr ⟨lw_p18, List.forall_mem_cons.mpr ⟨lw_p19, List.forall_mem_cons.mpr ⟨lw_p20, List.forall_mem_cons.mpr ⟨lw_p21, List.forall_mem_cons.mpr ⟨lw_p22, List.forall_mem_cons.mpr ⟨lw_p23, List.forall_mem_cons.mpr ⟨lw_p24, List.forall_mem_cons.mpr ⟨lw_p25, List.forall_mem_cons.mpr ⟨lw_p26, List.forall_mem_cons.mpr ⟨lw_p27, List.forall_mem_cons.mpr ⟨lw_p28, List.forall_mem_cons.mpr ⟨lw_p29, List.forall_mem_cons.mpr ⟨lw_p30, List.forall_mem_cons.mpr ⟨lw_p31, fun _ h => absurd h List.not_mem_nil⟩⟩⟩⟩⟩⟩⟩⟩⟩⟩⟩⟩⟩⟩⟩⟩
theorem lw_p32 : lw_okq (⟨"DustYard", "nextForShovel", "()I"⟩, 15) := ⟨⟨by decide +kernel, by decide +kernel⟩, List.mem_of_getElem? (i := 29) (by decide +kernel), List.mem_of_getElem? (i := 1411) (by decide +kernel), List.mem_of_getElem? (i := 1412) (by decide +kernel)⟩
theorem lw_p33 : lw_okq (⟨"DustYard", "waysOfFire", "(II)J"⟩, 15) := ⟨⟨by decide +kernel, by decide +kernel⟩, List.mem_of_getElem? (i := 29) (by decide +kernel), List.mem_of_getElem? (i := 1435) (by decide +kernel), List.mem_of_getElem? (i := 1436) (by decide +kernel)⟩
theorem lw_p34 : lw_okq (⟨"DustYard", "fullest", "()I"⟩, 15) := ⟨⟨by decide +kernel, by decide +kernel⟩, List.mem_of_getElem? (i := 29) (by decide +kernel), List.mem_of_getElem? (i := 1447) (by decide +kernel), List.mem_of_getElem? (i := 1448) (by decide +kernel)⟩
theorem lw_p35 : lw_okq (⟨"DustYard", "farthest", "()I"⟩, 15) := ⟨⟨by decide +kernel, by decide +kernel⟩, List.mem_of_getElem? (i := 29) (by decide +kernel), List.mem_of_getElem? (i := 1451) (by decide +kernel), List.mem_of_getElem? (i := 1452) (by decide +kernel)⟩
theorem lw_p36 : lw_okq (⟨"DustYard", "richest", "()I"⟩, 15) := ⟨⟨by decide +kernel, by decide +kernel⟩, List.mem_of_getElem? (i := 29) (by decide +kernel), List.mem_of_getElem? (i := 1455) (by decide +kernel), List.mem_of_getElem? (i := 1456) (by decide +kernel)⟩
theorem lw_p37 : lw_okq (⟨"DustYardModel", "putsAside", "()V"⟩, 25) := ⟨⟨by decide +kernel, by decide +kernel⟩, List.mem_of_getElem? (i := 1521) (by decide +kernel), List.mem_of_getElem? (i := 1622) (by decide +kernel), List.mem_of_getElem? (i := 1623) (by decide +kernel)⟩
theorem lw_p38 : lw_okq (⟨"DustYardModel", "begins", "()V"⟩, 25) := ⟨⟨by decide +kernel, by decide +kernel⟩, List.mem_of_getElem? (i := 1521) (by decide +kernel), List.mem_of_getElem? (i := 1626) (by decide +kernel), List.mem_of_getElem? (i := 1627) (by decide +kernel)⟩
theorem lw_p39 : lw_okq (⟨"DustYardModel", "read", "(Z)I"⟩, 25) := ⟨⟨by decide +kernel, by decide +kernel⟩, List.mem_of_getElem? (i := 1521) (by decide +kernel), List.mem_of_getElem? (i := 1630) (by decide +kernel), List.mem_of_getElem? (i := 1631) (by decide +kernel)⟩
theorem lw_p40 : lw_okq (⟨"DustYardModel", "skip", "()V"⟩, 25) := ⟨⟨by decide +kernel, by decide +kernel⟩, List.mem_of_getElem? (i := 1521) (by decide +kernel), List.mem_of_getElem? (i := 1634) (by decide +kernel), List.mem_of_getElem? (i := 1635) (by decide +kernel)⟩
theorem lw_p41 : lw_okq (⟨"DustYardModel", "letter", "(I)I"⟩, 25) := ⟨⟨by decide +kernel, by decide +kernel⟩, List.mem_of_getElem? (i := 1521) (by decide +kernel), List.mem_of_getElem? (i := 1638) (by decide +kernel), List.mem_of_getElem? (i := 1639) (by decide +kernel)⟩
theorem lw_p42 : lw_okq (⟨"DustYardModel", "wrong", "(I)V"⟩, 25) := ⟨⟨by decide +kernel, by decide +kernel⟩, List.mem_of_getElem? (i := 1521) (by decide +kernel), List.mem_of_getElem? (i := 1642) (by decide +kernel), List.mem_of_getElem? (i := 1643) (by decide +kernel)⟩
theorem lw_p43 : lw_okq (⟨"DustYardModel", "lawLine", "()V"⟩, 25) := ⟨⟨by decide +kernel, by decide +kernel⟩, List.mem_of_getElem? (i := 1521) (by decide +kernel), List.mem_of_getElem? (i := 1646) (by decide +kernel), List.mem_of_getElem? (i := 1647) (by decide +kernel)⟩
theorem lw_p44 : lw_okq (⟨"DustYardModel", "has", "(Ljava/lang/String;)Z"⟩, 25) := ⟨⟨by decide +kernel, by decide +kernel⟩, List.mem_of_getElem? (i := 1521) (by decide +kernel), List.mem_of_getElem? (i := 1651) (by decide +kernel), List.mem_of_getElem? (i := 1652) (by decide +kernel)⟩
theorem lw_p45 : lw_okq (⟨"DustYardModel", "figures", "(II)I"⟩, 25) := ⟨⟨by decide +kernel, by decide +kernel⟩, List.mem_of_getElem? (i := 1521) (by decide +kernel), List.mem_of_getElem? (i := 1659) (by decide +kernel), List.mem_of_getElem? (i := 1660) (by decide +kernel)⟩
theorem lw_p46 : lw_okq (⟨"DustYardModel", "here", "()I"⟩, 25) := ⟨⟨by decide +kernel, by decide +kernel⟩, List.mem_of_getElem? (i := 1521) (by decide +kernel), List.mem_of_getElem? (i := 1663) (by decide +kernel), List.mem_of_getElem? (i := 1664) (by decide +kernel)⟩
theorem lw_p47 : lw_okq (⟨"DustYardModel", "some", "()Z"⟩, 25) := ⟨⟨by decide +kernel, by decide +kernel⟩, List.mem_of_getElem? (i := 1521) (by decide +kernel), List.mem_of_getElem? (i := 1668) (by decide +kernel), List.mem_of_getElem? (i := 1669) (by decide +kernel)⟩
def lw_privs_3 : List (MethodName × Nat) := [(⟨"DustYard", "nextForShovel", "()I"⟩, 15), (⟨"DustYard", "waysOfFire", "(II)J"⟩, 15), (⟨"DustYard", "fullest", "()I"⟩, 15), (⟨"DustYard", "farthest", "()I"⟩, 15), (⟨"DustYard", "richest", "()I"⟩, 15), (⟨"DustYardModel", "putsAside", "()V"⟩, 25), (⟨"DustYardModel", "begins", "()V"⟩, 25), (⟨"DustYardModel", "read", "(Z)I"⟩, 25), (⟨"DustYardModel", "skip", "()V"⟩, 25), (⟨"DustYardModel", "letter", "(I)I"⟩, 25), (⟨"DustYardModel", "wrong", "(I)V"⟩, 25), (⟨"DustYardModel", "lawLine", "()V"⟩, 25), (⟨"DustYardModel", "has", "(Ljava/lang/String;)Z"⟩, 25), (⟨"DustYardModel", "figures", "(II)I"⟩, 25), (⟨"DustYardModel", "here", "()I"⟩, 25), (⟨"DustYardModel", "some", "()Z"⟩, 25)]
theorem lw_r3 : ∀ q ∈ lw_privs_3, lw_okq q := List.forall_mem_cons.mpr ⟨lw_p32, List.forall_mem_cons.mpr ⟨lw_p33, List.forall_mem_cons.mpr ⟨lw_p34, List.forall_mem_cons.mpr ⟨lw_p35, List.forall_mem_cons.mpr ⟨lw_p36, List.forall_mem_cons.mpr ⟨lw_p37, List.forall_mem_cons.mpr ⟨lw_p38, List.forall_mem_cons.mpr ⟨lw_p39, List.forall_mem_cons.mpr ⟨lw_p40, List.forall_mem_cons.mpr ⟨lw_p41, List.forall_mem_cons.mpr ⟨lw_p42, List.forall_mem_cons.mpr ⟨lw_p43, List.forall_mem_cons.mpr ⟨lw_p44, List.forall_mem_cons.mpr ⟨lw_p45, List.forall_mem_cons.mpr ⟨lw_p46, List.forall_mem_cons.mpr ⟨lw_p47, fun _ h => absurd h List.not_mem_nil⟩⟩⟩⟩⟩⟩⟩⟩⟩⟩⟩⟩⟩⟩⟩⟩
theorem lw_p48 : lw_okq (⟨"DustYardModel", "every", "()Z"⟩, 25) := ⟨⟨by decide +kernel, by decide +kernel⟩, List.mem_of_getElem? (i := 1521) (by decide +kernel), List.mem_of_getElem? (i := 1672) (by decide +kernel), List.mem_of_getElem? (i := 1673) (by decide +kernel)⟩
theorem lw_p49 : lw_okq (⟨"DustYardModel", "atom", "()Z"⟩, 25) := ⟨⟨by decide +kernel, by decide +kernel⟩, List.mem_of_getElem? (i := 1521) (by decide +kernel), List.mem_of_getElem? (i := 1676) (by decide +kernel), List.mem_of_getElem? (i := 1677) (by decide +kernel)⟩
theorem lw_p50 : lw_okq (⟨"DustYardModel", "isSign", "(I)Z"⟩, 25) := ⟨⟨by decide +kernel, by decide +kernel⟩, List.mem_of_getElem? (i := 1521) (by decide +kernel), List.mem_of_getElem? (i := 1681) (by decide +kernel), List.mem_of_getElem? (i := 1682) (by decide +kernel)⟩
theorem lw_p51 : lw_okq (⟨"DustYardModel", "plain", "()Z"⟩, 25) := ⟨⟨by decide +kernel, by decide +kernel⟩, List.mem_of_getElem? (i := 1521) (by decide +kernel), List.mem_of_getElem? (i := 1685) (by decide +kernel), List.mem_of_getElem? (i := 1686) (by decide +kernel)⟩
theorem lw_p52 : lw_okq (⟨"DustYardModel", "sum", "()I"⟩, 25) := ⟨⟨by decide +kernel, by decide +kernel⟩, List.mem_of_getElem? (i := 1521) (by decide +kernel), List.mem_of_getElem? (i := 1692) (by decide +kernel), List.mem_of_getElem? (i := 1693) (by decide +kernel)⟩
theorem lw_p53 : lw_okq (⟨"DustYardModel", "part", "()I"⟩, 25) := ⟨⟨by decide +kernel, by decide +kernel⟩, List.mem_of_getElem? (i := 1521) (by decide +kernel), List.mem_of_getElem? (i := 1696) (by decide +kernel), List.mem_of_getElem? (i := 1697) (by decide +kernel)⟩
theorem lw_p54 : lw_okq (⟨"DustYardModel", "yardLine", "()V"⟩, 25) := ⟨⟨by decide +kernel, by decide +kernel⟩, List.mem_of_getElem? (i := 1521) (by decide +kernel), List.mem_of_getElem? (i := 1709) (by decide +kernel), List.mem_of_getElem? (i := 1710) (by decide +kernel)⟩
theorem lw_p55 : lw_okq (⟨"DustYardModel", "streetLine", "(I)V"⟩, 25) := ⟨⟨by decide +kernel, by decide +kernel⟩, List.mem_of_getElem? (i := 1521) (by decide +kernel), List.mem_of_getElem? (i := 1713) (by decide +kernel), List.mem_of_getElem? (i := 1714) (by decide +kernel)⟩
theorem lw_p56 : lw_okq (⟨"DustYardModel", "after", "(Ljava/lang/String;II)I"⟩, 25) := ⟨⟨by decide +kernel, by decide +kernel⟩, List.mem_of_getElem? (i := 1521) (by decide +kernel), List.mem_of_getElem? (i := 1718) (by decide +kernel), List.mem_of_getElem? (i := 1719) (by decide +kernel)⟩
theorem lw_p57 : lw_okq (⟨"DustYardModel", "expects", "(Ljava/lang/String;)Z"⟩, 25) := ⟨⟨by decide +kernel, by decide +kernel⟩, List.mem_of_getElem? (i := 1521) (by decide +kernel), List.mem_of_getElem? (i := 1723) (by decide +kernel), List.mem_of_getElem? (i := 1724) (by decide +kernel)⟩
theorem lw_p58 : lw_okq (⟨"DustYardModel", "cartLine", "(I)V"⟩, 25) := ⟨⟨by decide +kernel, by decide +kernel⟩, List.mem_of_getElem? (i := 1521) (by decide +kernel), List.mem_of_getElem? (i := 1728) (by decide +kernel), List.mem_of_getElem? (i := 1729) (by decide +kernel)⟩
theorem lw_p59 : lw_okq (⟨"DustYardModel", "hires", "(II)V"⟩, 25) := ⟨⟨by decide +kernel, by decide +kernel⟩, List.mem_of_getElem? (i := 1521) (by decide +kernel), List.mem_of_getElem? (i := 1734) (by decide +kernel), List.mem_of_getElem? (i := 1735) (by decide +kernel)⟩
theorem lw_p60 : lw_okq (⟨"DustYardModel", "sieveLine", "(I)V"⟩, 25) := ⟨⟨by decide +kernel, by decide +kernel⟩, List.mem_of_getElem? (i := 1521) (by decide +kernel), List.mem_of_getElem? (i := 1739) (by decide +kernel), List.mem_of_getElem? (i := 1740) (by decide +kernel)⟩
theorem lw_p61 : lw_okq (⟨"DustYardModel", "buys", "(I)V"⟩, 25) := ⟨⟨by decide +kernel, by decide +kernel⟩, List.mem_of_getElem? (i := 1521) (by decide +kernel), List.mem_of_getElem? (i := 1743) (by decide +kernel), List.mem_of_getElem? (i := 1744) (by decide +kernel)⟩
theorem lw_p62 : lw_okq (⟨"DustYardModel", "dealLine", "(I)V"⟩, 25) := ⟨⟨by decide +kernel, by decide +kernel⟩, List.mem_of_getElem? (i := 1521) (by decide +kernel), List.mem_of_getElem? (i := 1748) (by decide +kernel), List.mem_of_getElem? (i := 1749) (by decide +kernel)⟩
theorem lw_p63 : lw_okq (⟨"DustYardModel", "takes", "(IIII)V"⟩, 25) := ⟨⟨by decide +kernel, by decide +kernel⟩, List.mem_of_getElem? (i := 1521) (by decide +kernel), List.mem_of_getElem? (i := 1758) (by decide +kernel), List.mem_of_getElem? (i := 1759) (by decide +kernel)⟩
def lw_privs_4 : List (MethodName × Nat) := [(⟨"DustYardModel", "every", "()Z"⟩, 25), (⟨"DustYardModel", "atom", "()Z"⟩, 25), (⟨"DustYardModel", "isSign", "(I)Z"⟩, 25), (⟨"DustYardModel", "plain", "()Z"⟩, 25), (⟨"DustYardModel", "sum", "()I"⟩, 25), (⟨"DustYardModel", "part", "()I"⟩, 25), (⟨"DustYardModel", "yardLine", "()V"⟩, 25), (⟨"DustYardModel", "streetLine", "(I)V"⟩, 25), (⟨"DustYardModel", "after", "(Ljava/lang/String;II)I"⟩, 25), (⟨"DustYardModel", "expects", "(Ljava/lang/String;)Z"⟩, 25), (⟨"DustYardModel", "cartLine", "(I)V"⟩, 25), (⟨"DustYardModel", "hires", "(II)V"⟩, 25), (⟨"DustYardModel", "sieveLine", "(I)V"⟩, 25), (⟨"DustYardModel", "buys", "(I)V"⟩, 25), (⟨"DustYardModel", "dealLine", "(I)V"⟩, 25), (⟨"DustYardModel", "takes", "(IIII)V"⟩, 25)]
theorem lw_r4 : ∀ q ∈ lw_privs_4, lw_okq q := List.forall_mem_cons.mpr ⟨lw_p48, List.forall_mem_cons.mpr ⟨lw_p49, List.forall_mem_cons.mpr ⟨lw_p50, List.forall_mem_cons.mpr ⟨lw_p51, List.forall_mem_cons.mpr ⟨lw_p52, List.forall_mem_cons.mpr ⟨lw_p53, List.forall_mem_cons.mpr ⟨lw_p54, List.forall_mem_cons.mpr ⟨lw_p55, List.forall_mem_cons.mpr ⟨lw_p56, List.forall_mem_cons.mpr ⟨lw_p57, List.forall_mem_cons.mpr ⟨lw_p58, List.forall_mem_cons.mpr ⟨lw_p59, List.forall_mem_cons.mpr ⟨lw_p60, List.forall_mem_cons.mpr ⟨lw_p61, List.forall_mem_cons.mpr ⟨lw_p62, List.forall_mem_cons.mpr ⟨lw_p63, fun _ h => absurd h List.not_mem_nil⟩⟩⟩⟩⟩⟩⟩⟩⟩⟩⟩⟩⟩⟩⟩⟩
theorem lw_p64 : lw_okq (⟨"DustYardModel", "heapLine", "()V"⟩, 25) := ⟨⟨by decide +kernel, by decide +kernel⟩, List.mem_of_getElem? (i := 1521) (by decide +kernel), List.mem_of_getElem? (i := 1763) (by decide +kernel), List.mem_of_getElem? (i := 1764) (by decide +kernel)⟩
theorem lw_p65 : lw_okq (⟨"DustYardModel", "tells", "(III)V"⟩, 25) := ⟨⟨by decide +kernel, by decide +kernel⟩, List.mem_of_getElem? (i := 1521) (by decide +kernel), List.mem_of_getElem? (i := 1768) (by decide +kernel), List.mem_of_getElem? (i := 1769) (by decide +kernel)⟩
theorem lw_p66 : lw_okq (⟨"DustYardModel", "comesBack", "()V"⟩, 25) := ⟨⟨by decide +kernel, by decide +kernel⟩, List.mem_of_getElem? (i := 1521) (by decide +kernel), List.mem_of_getElem? (i := 1773) (by decide +kernel), List.mem_of_getElem? (i := 1774) (by decide +kernel)⟩
theorem lw_p67 : lw_okq (⟨"DustYardModel", "isStreet", "(I)Z"⟩, 25) := ⟨⟨by decide +kernel, by decide +kernel⟩, List.mem_of_getElem? (i := 1521) (by decide +kernel), List.mem_of_getElem? (i := 1789) (by decide +kernel), List.mem_of_getElem? (i := 1790) (by decide +kernel)⟩
theorem lw_p68 : lw_okq (⟨"DustYardModel", "of", "(II)I"⟩, 25) := ⟨⟨by decide +kernel, by decide +kernel⟩, List.mem_of_getElem? (i := 1521) (by decide +kernel), List.mem_of_getElem? (i := 1793) (by decide +kernel), List.mem_of_getElem? (i := 1794) (by decide +kernel)⟩
theorem lw_p69 : lw_okq (⟨"DustYardModel", "loadOf", "(I)I"⟩, 25) := ⟨⟨by decide +kernel, by decide +kernel⟩, List.mem_of_getElem? (i := 1521) (by decide +kernel), List.mem_of_getElem? (i := 1797) (by decide +kernel), List.mem_of_getElem? (i := 1798) (by decide +kernel)⟩
theorem lw_p70 : lw_okq (⟨"DustYardModel", "mixOf", "(II)I"⟩, 25) := ⟨⟨by decide +kernel, by decide +kernel⟩, List.mem_of_getElem? (i := 1521) (by decide +kernel), List.mem_of_getElem? (i := 1801) (by decide +kernel), List.mem_of_getElem? (i := 1802) (by decide +kernel)⟩
theorem lw_p71 : lw_okq (⟨"DustYardModel", "fillsOf", "(I)I"⟩, 25) := ⟨⟨by decide +kernel, by decide +kernel⟩, List.mem_of_getElem? (i := 1521) (by decide +kernel), List.mem_of_getElem? (i := 1805) (by decide +kernel), List.mem_of_getElem? (i := 1806) (by decide +kernel)⟩
theorem lw_p72 : lw_okq (⟨"DustYardModel", "asks", "(I)V"⟩, 25) := ⟨⟨by decide +kernel, by decide +kernel⟩, List.mem_of_getElem? (i := 1521) (by decide +kernel), List.mem_of_getElem? (i := 1809) (by decide +kernel), List.mem_of_getElem? (i := 1810) (by decide +kernel)⟩
theorem lw_p73 : lw_okq (⟨"DustYardModel", "tollOf", "(I)I"⟩, 25) := ⟨⟨by decide +kernel, by decide +kernel⟩, List.mem_of_getElem? (i := 1521) (by decide +kernel), List.mem_of_getElem? (i := 1813) (by decide +kernel), List.mem_of_getElem? (i := 1814) (by decide +kernel)⟩
theorem lw_p74 : lw_okq (⟨"DustYardModel", "wayOf", "(II)I"⟩, 25) := ⟨⟨by decide +kernel, by decide +kernel⟩, List.mem_of_getElem? (i := 1521) (by decide +kernel), List.mem_of_getElem? (i := 1817) (by decide +kernel), List.mem_of_getElem? (i := 1818) (by decide +kernel)⟩
theorem lw_p75 : lw_okq (⟨"DustYardModel", "waitsOfAll", "()I"⟩, 25) := ⟨⟨by decide +kernel, by decide +kernel⟩, List.mem_of_getElem? (i := 1521) (by decide +kernel), List.mem_of_getElem? (i := 1821) (by decide +kernel), List.mem_of_getElem? (i := 1822) (by decide +kernel)⟩
theorem lw_p76 : lw_okq (⟨"DustYardModel", "isCart", "(I)Z"⟩, 25) := ⟨⟨by decide +kernel, by decide +kernel⟩, List.mem_of_getElem? (i := 1521) (by decide +kernel), List.mem_of_getElem? (i := 1836) (by decide +kernel), List.mem_of_getElem? (i := 1837) (by decide +kernel)⟩
theorem lw_p77 : lw_okq (⟨"DustYardModel", "hold", "(I)I"⟩, 25) := ⟨⟨by decide +kernel, by decide +kernel⟩, List.mem_of_getElem? (i := 1521) (by decide +kernel), List.mem_of_getElem? (i := 1840) (by decide +kernel), List.mem_of_getElem? (i := 1841) (by decide +kernel)⟩
theorem lw_p78 : lw_okq (⟨"DustYardModel", "goesFar", "(I)I"⟩, 25) := ⟨⟨by decide +kernel, by decide +kernel⟩, List.mem_of_getElem? (i := 1521) (by decide +kernel), List.mem_of_getElem? (i := 1844) (by decide +kernel), List.mem_of_getElem? (i := 1845) (by decide +kernel)⟩
theorem lw_p79 : lw_okq (⟨"DustYardModel", "reached", "(I)I"⟩, 25) := ⟨⟨by decide +kernel, by decide +kernel⟩, List.mem_of_getElem? (i := 1521) (by decide +kernel), List.mem_of_getElem? (i := 1848) (by decide +kernel), List.mem_of_getElem? (i := 1849) (by decide +kernel)⟩
def lw_privs_5 : List (MethodName × Nat) := [(⟨"DustYardModel", "heapLine", "()V"⟩, 25), (⟨"DustYardModel", "tells", "(III)V"⟩, 25), (⟨"DustYardModel", "comesBack", "()V"⟩, 25), (⟨"DustYardModel", "isStreet", "(I)Z"⟩, 25), (⟨"DustYardModel", "of", "(II)I"⟩, 25), (⟨"DustYardModel", "loadOf", "(I)I"⟩, 25), (⟨"DustYardModel", "mixOf", "(II)I"⟩, 25), (⟨"DustYardModel", "fillsOf", "(I)I"⟩, 25), (⟨"DustYardModel", "asks", "(I)V"⟩, 25), (⟨"DustYardModel", "tollOf", "(I)I"⟩, 25), (⟨"DustYardModel", "wayOf", "(II)I"⟩, 25), (⟨"DustYardModel", "waitsOfAll", "()I"⟩, 25), (⟨"DustYardModel", "isCart", "(I)Z"⟩, 25), (⟨"DustYardModel", "hold", "(I)I"⟩, 25), (⟨"DustYardModel", "goesFar", "(I)I"⟩, 25), (⟨"DustYardModel", "reached", "(I)I"⟩, 25)]
theorem lw_r5 : ∀ q ∈ lw_privs_5, lw_okq q := List.forall_mem_cons.mpr ⟨lw_p64, List.forall_mem_cons.mpr ⟨lw_p65, List.forall_mem_cons.mpr ⟨lw_p66, List.forall_mem_cons.mpr ⟨lw_p67, List.forall_mem_cons.mpr ⟨lw_p68, List.forall_mem_cons.mpr ⟨lw_p69, List.forall_mem_cons.mpr ⟨lw_p70, List.forall_mem_cons.mpr ⟨lw_p71, List.forall_mem_cons.mpr ⟨lw_p72, List.forall_mem_cons.mpr ⟨lw_p73, List.forall_mem_cons.mpr ⟨lw_p74, List.forall_mem_cons.mpr ⟨lw_p75, List.forall_mem_cons.mpr ⟨lw_p76, List.forall_mem_cons.mpr ⟨lw_p77, List.forall_mem_cons.mpr ⟨lw_p78, List.forall_mem_cons.mpr ⟨lw_p79, fun _ h => absurd h List.not_mem_nil⟩⟩⟩⟩⟩⟩⟩⟩⟩⟩⟩⟩⟩⟩⟩⟩
theorem lw_p80 : lw_okq (⟨"DustYardModel", "bestRound", "(I)I"⟩, 25) := ⟨⟨by decide +kernel, by decide +kernel⟩, List.mem_of_getElem? (i := 1521) (by decide +kernel), List.mem_of_getElem? (i := 1852) (by decide +kernel), List.mem_of_getElem? (i := 1853) (by decide +kernel)⟩
theorem lw_p81 : lw_okq (⟨"DustYardModel", "allLoops", "()V"⟩, 25) := ⟨⟨by decide +kernel, by decide +kernel⟩, List.mem_of_getElem? (i := 1521) (by decide +kernel), List.mem_of_getElem? (i := 1856) (by decide +kernel), List.mem_of_getElem? (i := 1857) (by decide +kernel)⟩
theorem lw_p82 : lw_okq (⟨"DustYardModel", "waitsOf", "(I)I"⟩, 25) := ⟨⟨by decide +kernel, by decide +kernel⟩, List.mem_of_getElem? (i := 1521) (by decide +kernel), List.mem_of_getElem? (i := 1867) (by decide +kernel), List.mem_of_getElem? (i := 1868) (by decide +kernel)⟩
theorem lw_p83 : lw_okq (⟨"DustYardModel", "isDeal", "(I)Z"⟩, 25) := ⟨⟨by decide +kernel, by decide +kernel⟩, List.mem_of_getElem? (i := 1521) (by decide +kernel), List.mem_of_getElem? (i := 1879) (by decide +kernel), List.mem_of_getElem? (i := 1880) (by decide +kernel)⟩
theorem lw_p84 : lw_okq (⟨"DustYardModel", "ofDeal", "(II)I"⟩, 25) := ⟨⟨by decide +kernel, by decide +kernel⟩, List.mem_of_getElem? (i := 1521) (by decide +kernel), List.mem_of_getElem? (i := 1883) (by decide +kernel), List.mem_of_getElem? (i := 1884) (by decide +kernel)⟩
theorem lw_p85 : lw_okq (⟨"DustYardModel", "heaped", "(I)I"⟩, 25) := ⟨⟨by decide +kernel, by decide +kernel⟩, List.mem_of_getElem? (i := 1521) (by decide +kernel), List.mem_of_getElem? (i := 1891) (by decide +kernel), List.mem_of_getElem? (i := 1892) (by decide +kernel)⟩
theorem lw_p86 : lw_okq (⟨"DustYardModel", "remembers", "()V"⟩, 25) := ⟨⟨by decide +kernel, by decide +kernel⟩, List.mem_of_getElem? (i := 1521) (by decide +kernel), List.mem_of_getElem? (i := 1903) (by decide +kernel), List.mem_of_getElem? (i := 1904) (by decide +kernel)⟩
theorem lw_p87 : lw_okq (⟨"DustYardModel", "goes", "(IZ)I"⟩, 25) := ⟨⟨by decide +kernel, by decide +kernel⟩, List.mem_of_getElem? (i := 1521) (by decide +kernel), List.mem_of_getElem? (i := 1907) (by decide +kernel), List.mem_of_getElem? (i := 1908) (by decide +kernel)⟩
theorem lw_p88 : lw_okq (⟨"DustYardModel", "passes", "(Z)I"⟩, 25) := ⟨⟨by decide +kernel, by decide +kernel⟩, List.mem_of_getElem? (i := 1521) (by decide +kernel), List.mem_of_getElem? (i := 1911) (by decide +kernel), List.mem_of_getElem? (i := 1912) (by decide +kernel)⟩
theorem lw_p89 : lw_okq (⟨"DustYardModel", "drives", "(I)V"⟩, 25) := ⟨⟨by decide +kernel, by decide +kernel⟩, List.mem_of_getElem? (i := 1521) (by decide +kernel), List.mem_of_getElem? (i := 1915) (by decide +kernel), List.mem_of_getElem? (i := 1916) (by decide +kernel)⟩
theorem lw_p90 : lw_okq (⟨"DustYardModel", "unloads", "(II)V"⟩, 25) := ⟨⟨by decide +kernel, by decide +kernel⟩, List.mem_of_getElem? (i := 1521) (by decide +kernel), List.mem_of_getElem? (i := 1919) (by decide +kernel), List.mem_of_getElem? (i := 1920) (by decide +kernel)⟩
theorem lw_p91 : lw_okq (⟨"DustYardModel", "logs", "(IIII)V"⟩, 25) := ⟨⟨by decide +kernel, by decide +kernel⟩, List.mem_of_getElem? (i := 1521) (by decide +kernel), List.mem_of_getElem? (i := 1923) (by decide +kernel), List.mem_of_getElem? (i := 1924) (by decide +kernel)⟩
theorem lw_p92 : lw_okq (⟨"DustYardModel", "draw", "(I)I"⟩, 25) := ⟨⟨by decide +kernel, by decide +kernel⟩, List.mem_of_getElem? (i := 1521) (by decide +kernel), List.mem_of_getElem? (i := 1927) (by decide +kernel), List.mem_of_getElem? (i := 1928) (by decide +kernel)⟩
theorem lw_p93 : lw_okq (⟨"DustYardModel", "halves", "(I)V"⟩, 25) := ⟨⟨by decide +kernel, by decide +kernel⟩, List.mem_of_getElem? (i := 1521) (by decide +kernel), List.mem_of_getElem? (i := 1932) (by decide +kernel), List.mem_of_getElem? (i := 1933) (by decide +kernel)⟩
theorem lw_p94 : lw_okq (⟨"DustYardModel", "isOpen", "(I)Z"⟩, 25) := ⟨⟨by decide +kernel, by decide +kernel⟩, List.mem_of_getElem? (i := 1521) (by decide +kernel), List.mem_of_getElem? (i := 1936) (by decide +kernel), List.mem_of_getElem? (i := 1937) (by decide +kernel)⟩
theorem lw_p95 : lw_okq (⟨"DustYardModel", "hasFor", "(I)Z"⟩, 25) := ⟨⟨by decide +kernel, by decide +kernel⟩, List.mem_of_getElem? (i := 1521) (by decide +kernel), List.mem_of_getElem? (i := 1940) (by decide +kernel), List.mem_of_getElem? (i := 1941) (by decide +kernel)⟩
def lw_privs_6 : List (MethodName × Nat) := [(⟨"DustYardModel", "bestRound", "(I)I"⟩, 25), (⟨"DustYardModel", "allLoops", "()V"⟩, 25), (⟨"DustYardModel", "waitsOf", "(I)I"⟩, 25), (⟨"DustYardModel", "isDeal", "(I)Z"⟩, 25), (⟨"DustYardModel", "ofDeal", "(II)I"⟩, 25), (⟨"DustYardModel", "heaped", "(I)I"⟩, 25), (⟨"DustYardModel", "remembers", "()V"⟩, 25), (⟨"DustYardModel", "goes", "(IZ)I"⟩, 25), (⟨"DustYardModel", "passes", "(Z)I"⟩, 25), (⟨"DustYardModel", "drives", "(I)V"⟩, 25), (⟨"DustYardModel", "unloads", "(II)V"⟩, 25), (⟨"DustYardModel", "logs", "(IIII)V"⟩, 25), (⟨"DustYardModel", "draw", "(I)I"⟩, 25), (⟨"DustYardModel", "halves", "(I)V"⟩, 25), (⟨"DustYardModel", "isOpen", "(I)Z"⟩, 25), (⟨"DustYardModel", "hasFor", "(I)Z"⟩, 25)]
theorem lw_r6 : ∀ q ∈ lw_privs_6, lw_okq q := List.forall_mem_cons.mpr ⟨lw_p80, List.forall_mem_cons.mpr ⟨lw_p81, List.forall_mem_cons.mpr ⟨lw_p82, List.forall_mem_cons.mpr ⟨lw_p83, List.forall_mem_cons.mpr ⟨lw_p84, List.forall_mem_cons.mpr ⟨lw_p85, List.forall_mem_cons.mpr ⟨lw_p86, List.forall_mem_cons.mpr ⟨lw_p87, List.forall_mem_cons.mpr ⟨lw_p88, List.forall_mem_cons.mpr ⟨lw_p89, List.forall_mem_cons.mpr ⟨lw_p90, List.forall_mem_cons.mpr ⟨lw_p91, List.forall_mem_cons.mpr ⟨lw_p92, List.forall_mem_cons.mpr ⟨lw_p93, List.forall_mem_cons.mpr ⟨lw_p94, List.forall_mem_cons.mpr ⟨lw_p95, fun _ h => absurd h List.not_mem_nil⟩⟩⟩⟩⟩⟩⟩⟩⟩⟩⟩⟩⟩⟩⟩⟩
theorem lw_p96 : lw_okq (⟨"DustYardModel", "heapBetween", "(II)I"⟩, 25) := ⟨⟨by decide +kernel, by decide +kernel⟩, List.mem_of_getElem? (i := 1521) (by decide +kernel), List.mem_of_getElem? (i := 1944) (by decide +kernel), List.mem_of_getElem? (i := 1945) (by decide +kernel)⟩
theorem lw_p97 : lw_okq (⟨"DustYardModel", "isFilled", "(II)V"⟩, 25) := ⟨⟨by decide +kernel, by decide +kernel⟩, List.mem_of_getElem? (i := 1521) (by decide +kernel), List.mem_of_getElem? (i := 1948) (by decide +kernel), List.mem_of_getElem? (i := 1949) (by decide +kernel)⟩
theorem lw_p98 : lw_okq (⟨"DustYardModel", "sets", "(II)I"⟩, 25) := ⟨⟨by decide +kernel, by decide +kernel⟩, List.mem_of_getElem? (i := 1521) (by decide +kernel), List.mem_of_getElem? (i := 1960) (by decide +kernel), List.mem_of_getElem? (i := 1961) (by decide +kernel)⟩
theorem lw_p99 : lw_okq (⟨"DustYardModel", "isBegin", "(II)Z"⟩, 25) := ⟨⟨by decide +kernel, by decide +kernel⟩, List.mem_of_getElem? (i := 1521) (by decide +kernel), List.mem_of_getElem? (i := 1992) (by decide +kernel), List.mem_of_getElem? (i := 1993) (by decide +kernel)⟩
theorem lw_p100 : lw_okq (⟨"DustYardModel", "runLow", "(II)I"⟩, 25) := ⟨⟨by decide +kernel, by decide +kernel⟩, List.mem_of_getElem? (i := 1521) (by decide +kernel), List.mem_of_getElem? (i := 2000) (by decide +kernel), List.mem_of_getElem? (i := 2001) (by decide +kernel)⟩
theorem lw_p101 : lw_okq (⟨"DustYardModel", "runHigh", "(II)I"⟩, 25) := ⟨⟨by decide +kernel, by decide +kernel⟩, List.mem_of_getElem? (i := 1521) (by decide +kernel), List.mem_of_getElem? (i := 2004) (by decide +kernel), List.mem_of_getElem? (i := 2005) (by decide +kernel)⟩
theorem lw_p102 : lw_okq (⟨"DustYardModel", "partsAll", "(I)Z"⟩, 25) := ⟨⟨by decide +kernel, by decide +kernel⟩, List.mem_of_getElem? (i := 1521) (by decide +kernel), List.mem_of_getElem? (i := 2016) (by decide +kernel), List.mem_of_getElem? (i := 2017) (by decide +kernel)⟩
theorem lw_p103 : lw_okq (⟨"DustYardModel", "mostServed", "()I"⟩, 25) := ⟨⟨by decide +kernel, by decide +kernel⟩, List.mem_of_getElem? (i := 1521) (by decide +kernel), List.mem_of_getElem? (i := 2039) (by decide +kernel), List.mem_of_getElem? (i := 2040) (by decide +kernel)⟩
theorem lw_p104 : lw_okq (⟨"DustYardModel", "paysOfSet", "(I)I"⟩, 25) := ⟨⟨by decide +kernel, by decide +kernel⟩, List.mem_of_getElem? (i := 1521) (by decide +kernel), List.mem_of_getElem? (i := 2043) (by decide +kernel), List.mem_of_getElem? (i := 2044) (by decide +kernel)⟩
theorem lw_p105 : lw_okq (⟨"DustYardModel", "paysOf", "(I)I"⟩, 25) := ⟨⟨by decide +kernel, by decide +kernel⟩, List.mem_of_getElem? (i := 1521) (by decide +kernel), List.mem_of_getElem? (i := 2047) (by decide +kernel), List.mem_of_getElem? (i := 2048) (by decide +kernel)⟩
theorem lw_p106 : lw_okq (⟨"DustYardModel", "areServed", "(I)Z"⟩, 25) := ⟨⟨by decide +kernel, by decide +kernel⟩, List.mem_of_getElem? (i := 1521) (by decide +kernel), List.mem_of_getElem? (i := 2051) (by decide +kernel), List.mem_of_getElem? (i := 2052) (by decide +kernel)⟩
theorem lw_p107 : lw_okq (⟨"DustYardModel", "openOnes", "()I"⟩, 25) := ⟨⟨by decide +kernel, by decide +kernel⟩, List.mem_of_getElem? (i := 1521) (by decide +kernel), List.mem_of_getElem? (i := 2055) (by decide +kernel), List.mem_of_getElem? (i := 2056) (by decide +kernel)⟩
theorem lw_p108 : lw_okq (⟨"DustYardModel", "hears", "()I"⟩, 25) := ⟨⟨by decide +kernel, by decide +kernel⟩, List.mem_of_getElem? (i := 1521) (by decide +kernel), List.mem_of_getElem? (i := 2071) (by decide +kernel), List.mem_of_getElem? (i := 2072) (by decide +kernel)⟩
theorem lw_p109 : lw_okq (⟨"DustYardModel", "partBy", "(II)I"⟩, 25) := ⟨⟨by decide +kernel, by decide +kernel⟩, List.mem_of_getElem? (i := 1521) (by decide +kernel), List.mem_of_getElem? (i := 2083) (by decide +kernel), List.mem_of_getElem? (i := 2084) (by decide +kernel)⟩
theorem lw_p110 : lw_okq (⟨"DustYardModel", "siftRows", "()I"⟩, 25) := ⟨⟨by decide +kernel, by decide +kernel⟩, List.mem_of_getElem? (i := 1521) (by decide +kernel), List.mem_of_getElem? (i := 2091) (by decide +kernel), List.mem_of_getElem? (i := 2092) (by decide +kernel)⟩
theorem lw_p111 : lw_okq (⟨"DustYardModel", "fitsPair", "(II)Z"⟩, 25) := ⟨⟨by decide +kernel, by decide +kernel⟩, List.mem_of_getElem? (i := 1521) (by decide +kernel), List.mem_of_getElem? (i := 2095) (by decide +kernel), List.mem_of_getElem? (i := 2096) (by decide +kernel)⟩
def lw_privs_7 : List (MethodName × Nat) := [(⟨"DustYardModel", "heapBetween", "(II)I"⟩, 25), (⟨"DustYardModel", "isFilled", "(II)V"⟩, 25), (⟨"DustYardModel", "sets", "(II)I"⟩, 25), (⟨"DustYardModel", "isBegin", "(II)Z"⟩, 25), (⟨"DustYardModel", "runLow", "(II)I"⟩, 25), (⟨"DustYardModel", "runHigh", "(II)I"⟩, 25), (⟨"DustYardModel", "partsAll", "(I)Z"⟩, 25), (⟨"DustYardModel", "mostServed", "()I"⟩, 25), (⟨"DustYardModel", "paysOfSet", "(I)I"⟩, 25), (⟨"DustYardModel", "paysOf", "(I)I"⟩, 25), (⟨"DustYardModel", "areServed", "(I)Z"⟩, 25), (⟨"DustYardModel", "openOnes", "()I"⟩, 25), (⟨"DustYardModel", "hears", "()I"⟩, 25), (⟨"DustYardModel", "partBy", "(II)I"⟩, 25), (⟨"DustYardModel", "siftRows", "()I"⟩, 25), (⟨"DustYardModel", "fitsPair", "(II)Z"⟩, 25)]
theorem lw_r7 : ∀ q ∈ lw_privs_7, lw_okq q := List.forall_mem_cons.mpr ⟨lw_p96, List.forall_mem_cons.mpr ⟨lw_p97, List.forall_mem_cons.mpr ⟨lw_p98, List.forall_mem_cons.mpr ⟨lw_p99, List.forall_mem_cons.mpr ⟨lw_p100, List.forall_mem_cons.mpr ⟨lw_p101, List.forall_mem_cons.mpr ⟨lw_p102, List.forall_mem_cons.mpr ⟨lw_p103, List.forall_mem_cons.mpr ⟨lw_p104, List.forall_mem_cons.mpr ⟨lw_p105, List.forall_mem_cons.mpr ⟨lw_p106, List.forall_mem_cons.mpr ⟨lw_p107, List.forall_mem_cons.mpr ⟨lw_p108, List.forall_mem_cons.mpr ⟨lw_p109, List.forall_mem_cons.mpr ⟨lw_p110, List.forall_mem_cons.mpr ⟨lw_p111, fun _ h => absurd h List.not_mem_nil⟩⟩⟩⟩⟩⟩⟩⟩⟩⟩⟩⟩⟩⟩⟩⟩
theorem lw_p112 : lw_okq (⟨"DustYardModel", "allEnds", "()V"⟩, 25) := ⟨⟨by decide +kernel, by decide +kernel⟩, List.mem_of_getElem? (i := 1521) (by decide +kernel), List.mem_of_getElem? (i := 2113) (by decide +kernel), List.mem_of_getElem? (i := 2114) (by decide +kernel)⟩
theorem lw_p113 : lw_okq (⟨"DustYardModel", "allBest", "()V"⟩, 25) := ⟨⟨by decide +kernel, by decide +kernel⟩, List.mem_of_getElem? (i := 1521) (by decide +kernel), List.mem_of_getElem? (i := 2125) (by decide +kernel), List.mem_of_getElem? (i := 2126) (by decide +kernel)⟩
theorem lw_p114 : lw_okq (⟨"DustYardModel", "both", "(II)I"⟩, 25) := ⟨⟨by decide +kernel, by decide +kernel⟩, List.mem_of_getElem? (i := 1521) (by decide +kernel), List.mem_of_getElem? (i := 2132) (by decide +kernel), List.mem_of_getElem? (i := 2133) (by decide +kernel)⟩
theorem lw_p115 : lw_okq (⟨"DustYardModel", "heHas", "(III)I"⟩, 25) := ⟨⟨by decide +kernel, by decide +kernel⟩, List.mem_of_getElem? (i := 1521) (by decide +kernel), List.mem_of_getElem? (i := 2144) (by decide +kernel), List.mem_of_getElem? (i := 2145) (by decide +kernel)⟩
theorem lw_p116 : lw_okq (⟨"DustYardModel", "valueOf", "(II)I"⟩, 25) := ⟨⟨by decide +kernel, by decide +kernel⟩, List.mem_of_getElem? (i := 1521) (by decide +kernel), List.mem_of_getElem? (i := 2161) (by decide +kernel), List.mem_of_getElem? (i := 2162) (by decide +kernel)⟩
theorem lw_p117 : lw_okq (⟨"DustYardModel", "logged", "(II)I"⟩, 25) := ⟨⟨by decide +kernel, by decide +kernel⟩, List.mem_of_getElem? (i := 1521) (by decide +kernel), List.mem_of_getElem? (i := 2193) (by decide +kernel), List.mem_of_getElem? (i := 2194) (by decide +kernel)⟩
def lw_privs_8 : List (MethodName × Nat) := [(⟨"DustYardModel", "allEnds", "()V"⟩, 25), (⟨"DustYardModel", "allBest", "()V"⟩, 25), (⟨"DustYardModel", "both", "(II)I"⟩, 25), (⟨"DustYardModel", "heHas", "(III)I"⟩, 25), (⟨"DustYardModel", "valueOf", "(II)I"⟩, 25), (⟨"DustYardModel", "logged", "(II)I"⟩, 25)]
theorem lw_r8 : ∀ q ∈ lw_privs_8, lw_okq q := List.forall_mem_cons.mpr ⟨lw_p112, List.forall_mem_cons.mpr ⟨lw_p113, List.forall_mem_cons.mpr ⟨lw_p114, List.forall_mem_cons.mpr ⟨lw_p115, List.forall_mem_cons.mpr ⟨lw_p116, List.forall_mem_cons.mpr ⟨lw_p117, fun _ h => absurd h List.not_mem_nil⟩⟩⟩⟩⟩⟩
def lw_privs : List (MethodName × Nat) := lw_privs_1 ++ (lw_privs_2 ++ (lw_privs_3 ++ (lw_privs_4 ++ (lw_privs_5 ++ (lw_privs_6 ++ (lw_privs_7 ++ (lw_privs_8)))))))
def lw_tbl : List Cond := k2_sels lw_privs ++ tables_1
theorem lw_privs_ok : ∀ q ∈ lw_privs, lw_okq q := by
  show ∀ q ∈ lw_privs_1 ++ (lw_privs_2 ++ (lw_privs_3 ++ (lw_privs_4 ++ (lw_privs_5 ++ (lw_privs_6 ++ (lw_privs_7 ++ (lw_privs_8))))))), lw_okq q
  exact List.forall_mem_append.mpr ⟨lw_r1, List.forall_mem_append.mpr ⟨lw_r2, List.forall_mem_append.mpr ⟨lw_r3, List.forall_mem_append.mpr ⟨lw_r4, List.forall_mem_append.mpr ⟨lw_r5, List.forall_mem_append.mpr ⟨lw_r6, List.forall_mem_append.mpr ⟨lw_r7, lw_r8⟩⟩⟩⟩⟩⟩⟩
def RX0 : String := "DustYard$Day"
def TX0 : u_T := fun k => match k with
  | _ => ("", "", "", false)
def tyX0 : Nat → FieldType := fun k => match k with
  | _ => .int
abbrev wsX00 : List Cond := u_ws RX0 TX0 0
theorem nmX0 : ∀ a, a < 0 → ∀ b, b < 0 → a ≠ b → (TX0 a).2.1 ≠ (TX0 b).2.1 := by decide +kernel
theorem tyX0_ok : ∀ k, k < 0 → parseFieldDescriptor (TX0 k).2.2.1 = some (tyX0 k) := by decide +kernel
abbrev cX0_pass : ByteArray := prog_2_method_2_code
def yX0_pass : MethodName := ⟨RX0, "pass", "(LDustYard$State;LDustYard$Law;IZ)I"⟩
abbrev cX0_fillBins : ByteArray := prog_2_method_3_code
def yX0_fillBins : MethodName := ⟨RX0, "fillBins", "(LDustYard$State;LDustYard$Law;)V"⟩
abbrev cX0_sendOut : ByteArray := prog_2_method_4_code
def yX0_sendOut : MethodName := ⟨RX0, "sendOut", "(LDustYard$State;LDustYard$Law;I)V"⟩
abbrev cX0_burnAndGnaw : ByteArray := prog_2_method_5_code
def yX0_burnAndGnaw : MethodName := ⟨RX0, "burnAndGnaw", "(LDustYard$State;)V"⟩
abbrev cX0_settleAll : ByteArray := prog_2_method_6_code
def yX0_settleAll : MethodName := ⟨RX0, "settleAll", "(LDustYard$State;)I"⟩
def RX1 : String := "DustYard$Deals"
def TX1 : u_T := fun k => match k with
  | 0 => ("DustYard$Deals", "with", "[I", true)
  | 1 => ("DustYard$Deals", "bestWith", "[I", true)
  | 2 => ("DustYard$Deals", "bestWorth", "I", false)
  | 3 => ("DustYard$Deals", "bestSet", "I", false)
  | _ => ("DustYard$Deals", "bestPays", "I", false)
def tyX1 : Nat → FieldType := fun k => match k with
  | 0 => .array .int
  | 1 => .array .int
  | 2 => .int
  | 3 => .int
  | _ => .int
abbrev wsX10 : List Cond := u_ws RX1 TX1 5
theorem nmX1 : ∀ a, a < 5 → ∀ b, b < 5 → a ≠ b → (TX1 a).2.1 ≠ (TX1 b).2.1 := by decide +kernel
theorem tyX1_ok : ∀ k, k < 5 → parseFieldDescriptor (TX1 k).2.2.1 = some (tyX1 k) := by decide +kernel
abbrev cX1_init : ByteArray := prog_3_method_1_code
def yX1_init : MethodName := ⟨RX1, "<init>", "()V"⟩
abbrev cX1_weigh : ByteArray := prog_3_method_2_code
def yX1_weigh : MethodName := ⟨RX1, "weigh", "(LDustYard$State;)V"⟩
abbrev cX1_worthOf : ByteArray := prog_3_method_3_code
def yX1_worthOf : MethodName := ⟨RX1, "worthOf", "(LDustYard$State;I)I"⟩
abbrev cX1_isEnough : ByteArray := prog_3_method_4_code
def yX1_isEnough : MethodName := ⟨RX1, "isEnough", "(LDustYard$State;I)Z"⟩
abbrev cX1_wantedWithin : ByteArray := prog_3_method_5_code
def yX1_wantedWithin : MethodName := ⟨RX1, "wantedWithin", "(LDustYard$State;III)I"⟩
abbrev cX1_putTwoByTwo : ByteArray := prog_3_method_6_code
def yX1_putTwoByTwo : MethodName := ⟨RX1, "putTwoByTwo", "(LDustYard$State;)V"⟩
abbrev cX1_putFrom : ByteArray := prog_3_method_7_code
def yX1_putFrom : MethodName := ⟨RX1, "putFrom", "(LDustYard$State;II)V"⟩
abbrev cX1_isPair : ByteArray := prog_3_method_8_code
def yX1_isPair : MethodName := ⟨RX1, "isPair", "(LDustYard$State;II)Z"⟩
def RX2 : String := "DustYard$Guesses"
def TX2 : u_T := fun k => match k with
  | 0 => ("DustYard$Guesses", "grains", "[I", true)
  | 1 => ("DustYard$Guesses", "numbers", "[I", true)
  | 2 => ("DustYard$Guesses", "parts", "[I", true)
  | _ => ("DustYard$Guesses", "rows", "I", false)
def tyX2 : Nat → FieldType := fun k => match k with
  | 0 => .array .int
  | 1 => .array .int
  | 2 => .array .int
  | _ => .int
abbrev wsX20 : List Cond := u_ws RX2 TX2 4
theorem nmX2 : ∀ a, a < 4 → ∀ b, b < 4 → a ≠ b → (TX2 a).2.1 ≠ (TX2 b).2.1 := by decide +kernel
theorem tyX2_ok : ∀ k, k < 4 → parseFieldDescriptor (TX2 k).2.2.1 = some (tyX2 k) := by decide +kernel
abbrev cX2_init : ByteArray := prog_4_method_1_code
def yX2_init : MethodName := ⟨RX2, "<init>", "()V"⟩
abbrev cX2_reads : ByteArray := prog_4_method_2_code
def yX2_reads : MethodName := ⟨RX2, "reads", "(LDustYard$Tape;I)Z"⟩
abbrev cX2_streetsThatFit : ByteArray := prog_4_method_3_code
def yX2_streetsThatFit : MethodName := ⟨RX2, "streetsThatFit", "(LDustYard$State;)I"⟩
abbrev cX2_likeliest : ByteArray := prog_4_method_4_code
def yX2_likeliest : MethodName := ⟨RX2, "likeliest", "(LDustYard$State;)I"⟩
abbrev cX2_grainToAsk : ByteArray := prog_4_method_5_code
def yX2_grainToAsk : MethodName := ⟨RX2, "grainToAsk", "(LDustYard$State;)I"⟩
abbrev cX2_wrongRows : ByteArray := prog_4_method_6_code
def yX2_wrongRows : MethodName := ⟨RX2, "wrongRows", "(LDustYard$State;I)I"⟩
abbrev cX2_pairsThatFit : ByteArray := prog_4_method_7_code
def yX2_pairsThatFit : MethodName := ⟨RX2, "pairsThatFit", "()I"⟩
abbrev cX2_firstPair : ByteArray := prog_4_method_8_code
def yX2_firstPair : MethodName := ⟨RX2, "firstPair", "()I"⟩
abbrev cX2_grainToSift : ByteArray := prog_4_method_9_code
def yX2_grainToSift : MethodName := ⟨RX2, "grainToSift", "()I"⟩
abbrev cX2_partPairs : ByteArray := prog_4_method_10_code
def yX2_partPairs : MethodName := ⟨RX2, "partPairs", "(I)V"⟩
abbrev cX2_isPairFit : ByteArray := prog_4_method_11_code
def yX2_isPairFit : MethodName := ⟨RX2, "isPairFit", "(II)Z"⟩
abbrev cX2_passes : ByteArray := prog_4_method_12_code
def yX2_passes : MethodName := ⟨RX2, "passes", "(III)I"⟩
abbrev cX2_clearParts : ByteArray := prog_4_method_13_code
def yX2_clearParts : MethodName := ⟨RX2, "clearParts", "()V"⟩
abbrev cX2_greatestPart : ByteArray := prog_4_method_14_code
def yX2_greatestPart : MethodName := ⟨RX2, "greatestPart", "()I"⟩
def RX3 : String := "DustYard$Law"
def TX3 : u_T := fun k => match k with
  | 0 => ("DustYard$Law", "lines", "I", false)
  | 1 => ("DustYard$Law", "used", "I", false)
  | 2 => ("DustYard$Law", "kinds", "[I", true)
  | 3 => ("DustYard$Law", "amounts", "[I", true)
  | 4 => ("DustYard$Law", "begins", "[I", true)
  | 5 => ("DustYard$Law", "ends", "[I", true)
  | 6 => ("DustYard$Law", "code", "[I", true)
  | _ => ("DustYard$Law", "stack", "[I", true)
def tyX3 : Nat → FieldType := fun k => match k with
  | 0 => .int
  | 1 => .int
  | 2 => .array .int
  | 3 => .array .int
  | 4 => .array .int
  | 5 => .array .int
  | 6 => .array .int
  | _ => .array .int
abbrev wsX30 : List Cond := u_ws RX3 TX3 8
theorem nmX3 : ∀ a, a < 8 → ∀ b, b < 8 → a ≠ b → (TX3 a).2.1 ≠ (TX3 b).2.1 := by decide +kernel
theorem tyX3_ok : ∀ k, k < 8 → parseFieldDescriptor (TX3 k).2.2.1 = some (tyX3 k) := by decide +kernel
abbrev cX3_init : ByteArray := prog_5_method_1_code
def yX3_init : MethodName := ⟨RX3, "<init>", "()V"⟩
abbrev cX3_copyFrom : ByteArray := prog_5_method_2_code
def yX3_copyFrom : MethodName := ⟨RX3, "copyFrom", "(LDustYard$Law;)V"⟩
abbrev cX3_clear : ByteArray := prog_5_method_3_code
def yX3_clear : MethodName := ⟨RX3, "clear", "()V"⟩
abbrev cX3_emit : ByteArray := prog_5_method_4_code
def yX3_emit : MethodName := ⟨RX3, "emit", "(II)V"⟩
abbrev cX3_addLine : ByteArray := prog_5_method_5_code
def yX3_addLine : MethodName := ⟨RX3, "addLine", "(III)V"⟩
abbrev cX3_fillsOf : ByteArray := prog_5_method_6_code
def yX3_fillsOf : MethodName := ⟨RX3, "fillsOf", "(LDustYard$State;I)I"⟩
abbrev cX3_tollOf : ByteArray := prog_5_method_7_code
def yX3_tollOf : MethodName := ⟨RX3, "tollOf", "(LDustYard$State;I)I"⟩
abbrev cX3_holds : ByteArray := prog_5_method_8_code
def yX3_holds : MethodName := ⟨RX3, "holds", "(ILDustYard$State;I)Z"⟩
abbrev cX3_valueOf : ByteArray := prog_5_method_9_code
def yX3_valueOf : MethodName := ⟨RX3, "valueOf", "(ILDustYard$State;I)I"⟩
abbrev cX3_join : ByteArray := prog_5_method_10_code
def yX3_join : MethodName := ⟨RX3, "join", "(III)I"⟩
def RX4 : String := "DustYard$Log"
def TX4 : u_T := fun k => match k with
  | 0 => ("DustYard$Log", "cells", "[I", true)
  | 1 => ("DustYard$Log", "size", "I", false)
  | _ => ("DustYard$Log", "next", "I", false)
def tyX4 : Nat → FieldType := fun k => match k with
  | 0 => .array .int
  | 1 => .int
  | _ => .int
abbrev wsX40 : List Cond := u_ws RX4 TX4 3
theorem nmX4 : ∀ a, a < 3 → ∀ b, b < 3 → a ≠ b → (TX4 a).2.1 ≠ (TX4 b).2.1 := by decide +kernel
theorem tyX4_ok : ∀ k, k < 3 → parseFieldDescriptor (TX4 k).2.2.1 = some (tyX4 k) := by decide +kernel
abbrev cX4_init : ByteArray := prog_6_method_1_code
def yX4_init : MethodName := ⟨RX4, "<init>", "()V"⟩
abbrev cX4_copyFrom : ByteArray := prog_6_method_2_code
def yX4_copyFrom : MethodName := ⟨RX4, "copyFrom", "(LDustYard$Log;)V"⟩
abbrev cX4_add : ByteArray := prog_6_method_3_code
def yX4_add : MethodName := ⟨RX4, "add", "(IIIII)V"⟩
abbrev cX4_cell : ByteArray := prog_6_method_4_code
def yX4_cell : MethodName := ⟨RX4, "cell", "(II)I"⟩
abbrev cX4_rowsOf : ByteArray := prog_6_method_5_code
def yX4_rowsOf : MethodName := ⟨RX4, "rowsOf", "(I)I"⟩
abbrev cX4_latestDayOf : ByteArray := prog_6_method_6_code
def yX4_latestDayOf : MethodName := ⟨RX4, "latestDayOf", "(I)I"⟩
def RX5 : String := "DustYard$Memory"
def TX5 : u_T := fun k => match k with
  | 0 => ("DustYard$Memory", "states", "[LDustYard$State;", true)
  | 1 => ("DustYard$Memory", "size", "I", false)
  | _ => ("DustYard$Memory", "next", "I", false)
def tyX5 : Nat → FieldType := fun k => match k with
  | 0 => .array (.object "DustYard$State")
  | 1 => .int
  | _ => .int
abbrev wsX50 : List Cond := u_ws RX5 TX5 3
theorem nmX5 : ∀ a, a < 3 → ∀ b, b < 3 → a ≠ b → (TX5 a).2.1 ≠ (TX5 b).2.1 := by decide +kernel
theorem tyX5_ok : ∀ k, k < 3 → parseFieldDescriptor (TX5 k).2.2.1 = some (tyX5 k) := by decide +kernel
abbrev cX5_init : ByteArray := prog_7_method_1_code
def yX5_init : MethodName := ⟨RX5, "<init>", "()V"⟩
abbrev cX5_keep : ByteArray := prog_7_method_2_code
def yX5_keep : MethodName := ⟨RX5, "keep", "(LDustYard$State;)V"⟩
abbrev cX5_undoInto : ByteArray := prog_7_method_3_code
def yX5_undoInto : MethodName := ⟨RX5, "undoInto", "(LDustYard$State;)Z"⟩
abbrev cX5_forget : ByteArray := prog_7_method_4_code
def yX5_forget : MethodName := ⟨RX5, "forget", "()V"⟩
def RX6 : String := "DustYard$Reader"
def TX6 : u_T := fun k => match k with
  | 0 => ("DustYard$Reader", "tape", "LDustYard$Tape;", true)
  | 1 => ("DustYard$Reader", "yardDraft", "LDustYard$State;", true)
  | _ => ("DustYard$Reader", "lawDraft", "LDustYard$Law;", true)
def tyX6 : Nat → FieldType := fun k => match k with
  | 0 => .object "DustYard$Tape"
  | 1 => .object "DustYard$State"
  | _ => .object "DustYard$Law"
abbrev wsX60 : List Cond := u_ws RX6 TX6 3
theorem nmX6 : ∀ a, a < 3 → ∀ b, b < 3 → a ≠ b → (TX6 a).2.1 ≠ (TX6 b).2.1 := by decide +kernel
theorem tyX6_ok : ∀ k, k < 3 → parseFieldDescriptor (TX6 k).2.2.1 = some (tyX6 k) := by decide +kernel
abbrev cX6_init : ByteArray := prog_8_method_1_code
def yX6_init : MethodName := ⟨RX6, "<init>", "(LDustYard$Tape;LDustYard$State;LDustYard$Law;)V"⟩
abbrev cX6_reads : ByteArray := prog_8_method_2_code
def yX6_reads : MethodName := ⟨RX6, "reads", "(IZ)Z"⟩
abbrev cX6_readsYardLine : ByteArray := prog_8_method_3_code
def yX6_readsYardLine : MethodName := ⟨RX6, "readsYardLine", "()Z"⟩
abbrev cX6_readsStreet : ByteArray := prog_8_method_4_code
def yX6_readsStreet : MethodName := ⟨RX6, "readsStreet", "()Z"⟩
abbrev cX6_readsCart : ByteArray := prog_8_method_5_code
def yX6_readsCart : MethodName := ⟨RX6, "readsCart", "()Z"⟩
abbrev cX6_readsSieve : ByteArray := prog_8_method_6_code
def yX6_readsSieve : MethodName := ⟨RX6, "readsSieve", "()Z"⟩
abbrev cX6_readsContract : ByteArray := prog_8_method_7_code
def yX6_readsContract : MethodName := ⟨RX6, "readsContract", "()Z"⟩
abbrev cX6_readsHeap : ByteArray := prog_8_method_8_code
def yX6_readsHeap : MethodName := ⟨RX6, "readsHeap", "()Z"⟩
abbrev cX6_readsRest : ByteArray := prog_8_method_9_code
def yX6_readsRest : MethodName := ⟨RX6, "readsRest", "()Z"⟩
abbrev cX6_readsLawLine : ByteArray := prog_8_method_10_code
def yX6_readsLawLine : MethodName := ⟨RX6, "readsLawLine", "()Z"⟩
abbrev cX6_readsAny : ByteArray := prog_8_method_11_code
def yX6_readsAny : MethodName := ⟨RX6, "readsAny", "(I)Z"⟩
abbrev cX6_readsAll : ByteArray := prog_8_method_12_code
def yX6_readsAll : MethodName := ⟨RX6, "readsAll", "(I)Z"⟩
abbrev cX6_readsAtom : ByteArray := prog_8_method_13_code
def yX6_readsAtom : MethodName := ⟨RX6, "readsAtom", "(I)Z"⟩
abbrev cX6_readsSum : ByteArray := prog_8_method_14_code
def yX6_readsSum : MethodName := ⟨RX6, "readsSum", "()Z"⟩
abbrev cX6_readsPart : ByteArray := prog_8_method_15_code
def yX6_readsPart : MethodName := ⟨RX6, "readsPart", "()Z"⟩
def RX7 : String := "DustYard$Rounds"
def TX7 : u_T := fun k => match k with
  | 0 => ("DustYard$Rounds", "whole", "[I", true)
  | 1 => ("DustYard$Rounds", "upTo", "[I", true)
  | 2 => ("DustYard$Rounds", "sets", "[I", true)
  | _ => ("DustYard$Rounds", "isMeasured", "Z", false)
def tyX7 : Nat → FieldType := fun k => match k with
  | 0 => .array .int
  | 1 => .array .int
  | 2 => .array .int
  | _ => .boolean
abbrev wsX70 : List Cond := u_ws RX7 TX7 4
theorem nmX7 : ∀ a, a < 4 → ∀ b, b < 4 → a ≠ b → (TX7 a).2.1 ≠ (TX7 b).2.1 := by decide +kernel
theorem tyX7_ok : ∀ k, k < 4 → parseFieldDescriptor (TX7 k).2.2.1 = some (tyX7 k) := by decide +kernel
abbrev cX7_init : ByteArray := prog_9_method_1_code
def yX7_init : MethodName := ⟨RX7, "<init>", "()V"⟩
abbrev cX7_forget : ByteArray := prog_9_method_2_code
def yX7_forget : MethodName := ⟨RX7, "forget", "()V"⟩
abbrev cX7_leastWay : ByteArray := prog_9_method_3_code
def yX7_leastWay : MethodName := ⟨RX7, "leastWay", "(LDustYard$State;I)I"⟩
abbrev cX7_bestSet : ByteArray := prog_9_method_4_code
def yX7_bestSet : MethodName := ⟨RX7, "bestSet", "(LDustYard$State;I)I"⟩
abbrev cX7_fewestSets : ByteArray := prog_9_method_5_code
def yX7_fewestSets : MethodName := ⟨RX7, "fewestSets", "(LDustYard$State;I)I"⟩
abbrev cX7_measure : ByteArray := prog_9_method_6_code
def yX7_measure : MethodName := ⟨RX7, "measure", "(LDustYard$State;)V"⟩
abbrev cX7_leastUpTo : ByteArray := prog_9_method_7_code
def yX7_leastUpTo : MethodName := ⟨RX7, "leastUpTo", "(LDustYard$State;II)I"⟩
def RX8 : String := "DustYard$State"
def TX8 : u_T := fun k => match k with
  | 0 => ("DustYard$State", "placeRows", "[I", true)
  | 1 => ("DustYard$State", "mixRows", "[I", true)
  | 2 => ("DustYard$State", "cartRows", "[I", true)
  | 3 => ("DustYard$State", "meshRow", "[I", true)
  | 4 => ("DustYard$State", "dealRows", "[I", true)
  | 5 => ("DustYard$State", "heapRow", "[I", true)
  | 6 => ("DustYard$State", "rows", "LDustYard$Log;", true)
  | 7 => ("DustYard$State", "streets", "I", false)
  | 8 => ("DustYard$State", "carts", "I", false)
  | 9 => ("DustYard$State", "sieves", "I", false)
  | 10 => ("DustYard$State", "contracts", "I", false)
  | 11 => ("DustYard$State", "texts", "I", false)
  | 12 => ("DustYard$State", "fire", "I", false)
  | 13 => ("DustYard$State", "rats", "I", false)
  | 14 => ("DustYard$State", "till", "I", false)
  | 15 => ("DustYard$State", "day", "I", false)
  | 16 => ("DustYard$State", "smoke", "Z", false)
  | _ => ("DustYard$State", "seed", "I", false)
def tyX8 : Nat → FieldType := fun k => match k with
  | 0 => .array .int
  | 1 => .array .int
  | 2 => .array .int
  | 3 => .array .int
  | 4 => .array .int
  | 5 => .array .int
  | 6 => .object "DustYard$Log"
  | 7 => .int
  | 8 => .int
  | 9 => .int
  | 10 => .int
  | 11 => .int
  | 12 => .int
  | 13 => .int
  | 14 => .int
  | 15 => .int
  | 16 => .boolean
  | _ => .int
abbrev wsX80 : List Cond := u_ws RX8 TX8 18
theorem nmX8 : ∀ a, a < 18 → ∀ b, b < 18 → a ≠ b → (TX8 a).2.1 ≠ (TX8 b).2.1 := by decide +kernel
theorem tyX8_ok : ∀ k, k < 18 → parseFieldDescriptor (TX8 k).2.2.1 = some (tyX8 k) := by decide +kernel
abbrev cX8_init : ByteArray := prog_10_method_1_code
def yX8_init : MethodName := ⟨RX8, "<init>", "()V"⟩
abbrev cX8_copyFrom : ByteArray := prog_10_method_2_code
def yX8_copyFrom : MethodName := ⟨RX8, "copyFrom", "(LDustYard$State;)V"⟩
abbrev cX8_addStreet : ByteArray := prog_10_method_3_code
def yX8_addStreet : MethodName := ⟨RX8, "addStreet", "(III)I"⟩
abbrev cX8_addCart : ByteArray := prog_10_method_4_code
def yX8_addCart : MethodName := ⟨RX8, "addCart", "(II)I"⟩
abbrev cX8_addSieve : ByteArray := prog_10_method_5_code
def yX8_addSieve : MethodName := ⟨RX8, "addSieve", "(I)I"⟩
abbrev cX8_addContract : ByteArray := prog_10_method_6_code
def yX8_addContract : MethodName := ⟨RX8, "addContract", "(IIII)I"⟩
abbrev cX8_xOf : ByteArray := prog_10_method_7_code
def yX8_xOf : MethodName := ⟨RX8, "xOf", "(I)I"⟩
abbrev cX8_yOf : ByteArray := prog_10_method_8_code
def yX8_yOf : MethodName := ⟨RX8, "yOf", "(I)I"⟩
abbrev cX8_waitsOf : ByteArray := prog_10_method_9_code
def yX8_waitsOf : MethodName := ⟨RX8, "waitsOf", "(I)I"⟩
abbrev cX8_setWaits : ByteArray := prog_10_method_10_code
def yX8_setWaits : MethodName := ⟨RX8, "setWaits", "(II)V"⟩
abbrev cX8_mixOf : ByteArray := prog_10_method_11_code
def yX8_mixOf : MethodName := ⟨RX8, "mixOf", "(II)I"⟩
abbrev cX8_setMix : ByteArray := prog_10_method_12_code
def yX8_setMix : MethodName := ⟨RX8, "setMix", "(III)V"⟩
abbrev cX8_loadOf : ByteArray := prog_10_method_13_code
def yX8_loadOf : MethodName := ⟨RX8, "loadOf", "(I)I"⟩
abbrev cX8_isAlike : ByteArray := prog_10_method_14_code
def yX8_isAlike : MethodName := ⟨RX8, "isAlike", "(II)Z"⟩
abbrev cX8_distance : ByteArray := prog_10_method_15_code
def yX8_distance : MethodName := ⟨RX8, "distance", "(II)I"⟩
abbrev cX8_waitingSet : ByteArray := prog_10_method_16_code
def yX8_waitingSet : MethodName := ⟨RX8, "waitingSet", "()I"⟩
abbrev cX8_waitsOfSet : ByteArray := prog_10_method_17_code
def yX8_waitsOfSet : MethodName := ⟨RX8, "waitsOfSet", "(I)I"⟩
abbrev cX8_holdOf : ByteArray := prog_10_method_18_code
def yX8_holdOf : MethodName := ⟨RX8, "holdOf", "(I)I"⟩
abbrev cX8_goesOf : ByteArray := prog_10_method_19_code
def yX8_goesOf : MethodName := ⟨RX8, "goesOf", "(I)I"⟩
abbrev cX8_isReached : ByteArray := prog_10_method_20_code
def yX8_isReached : MethodName := ⟨RX8, "isReached", "(II)Z"⟩
abbrev cX8_fetch : ByteArray := prog_10_method_21_code
def yX8_fetch : MethodName := ⟨RX8, "fetch", "(II)V"⟩
abbrev cX8_heapSum : ByteArray := prog_10_method_22_code
def yX8_heapSum : MethodName := ⟨RX8, "heapSum", "(II)I"⟩
abbrev cX8_cutsOf : ByteArray := prog_10_method_23_code
def yX8_cutsOf : MethodName := ⟨RX8, "cutsOf", "(I)I"⟩
abbrev cX8_dealOf : ByteArray := prog_10_method_24_code
def yX8_dealOf : MethodName := ⟨RX8, "dealOf", "(II)I"⟩
abbrev cX8_lowOf : ByteArray := prog_10_method_25_code
def yX8_lowOf : MethodName := ⟨RX8, "lowOf", "(I)I"⟩
abbrev cX8_highOf : ByteArray := prog_10_method_26_code
def yX8_highOf : MethodName := ⟨RX8, "highOf", "(I)I"⟩
abbrev cX8_manyOf : ByteArray := prog_10_method_27_code
def yX8_manyOf : MethodName := ⟨RX8, "manyOf", "(I)I"⟩
abbrev cX8_paysOf : ByteArray := prog_10_method_28_code
def yX8_paysOf : MethodName := ⟨RX8, "paysOf", "(I)I"⟩
abbrev cX8_priceOf : ByteArray := prog_10_method_29_code
def yX8_priceOf : MethodName := ⟨RX8, "priceOf", "(I)I"⟩
abbrev cX8_isOpen : ByteArray := prog_10_method_30_code
def yX8_isOpen : MethodName := ⟨RX8, "isOpen", "(I)Z"⟩
abbrev cX8_close : ByteArray := prog_10_method_31_code
def yX8_close : MethodName := ⟨RX8, "close", "(I)V"⟩
abbrev cX8_canSettle : ByteArray := prog_10_method_32_code
def yX8_canSettle : MethodName := ⟨RX8, "canSettle", "(I)Z"⟩
abbrev cX8_settle : ByteArray := prog_10_method_33_code
def yX8_settle : MethodName := ⟨RX8, "settle", "(II)V"⟩
abbrev cX8_draw : ByteArray := prog_10_method_34_code
def yX8_draw : MethodName := ⟨RX8, "draw", "()I"⟩
def RX9 : String := "DustYard$Tape"
def TX9 : u_T := fun k => match k with
  | 0 => ("DustYard$Tape", "bytes", "[I", true)
  | 1 => ("DustYard$Tape", "begins", "[I", true)
  | 2 => ("DustYard$Tape", "ends", "[I", true)
  | 3 => ("DustYard$Tape", "size", "I", false)
  | 4 => ("DustYard$Tape", "things", "I", false)
  | _ => ("DustYard$Tape", "next", "I", false)
def tyX9 : Nat → FieldType := fun k => match k with
  | 0 => .array .int
  | 1 => .array .int
  | 2 => .array .int
  | 3 => .int
  | 4 => .int
  | _ => .int
abbrev wsX90 : List Cond := u_ws RX9 TX9 6
theorem nmX9 : ∀ a, a < 6 → ∀ b, b < 6 → a ≠ b → (TX9 a).2.1 ≠ (TX9 b).2.1 := by decide +kernel
theorem tyX9_ok : ∀ k, k < 6 → parseFieldDescriptor (TX9 k).2.2.1 = some (tyX9 k) := by decide +kernel
abbrev cX9_init : ByteArray := prog_11_method_1_code
def yX9_init : MethodName := ⟨RX9, "<init>", "()V"⟩
abbrev cX9_hasRoom : ByteArray := prog_11_method_2_code
def yX9_hasRoom : MethodName := ⟨RX9, "hasRoom", "()Z"⟩
abbrev cX9_append : ByteArray := prog_11_method_3_code
def yX9_append : MethodName := ⟨RX9, "append", "(I)V"⟩
abbrev cX9_cut : ByteArray := prog_11_method_4_code
def yX9_cut : MethodName := ⟨RX9, "cut", "(I)Z"⟩
abbrev cX9_clear : ByteArray := prog_11_method_5_code
def yX9_clear : MethodName := ⟨RX9, "clear", "()V"⟩
abbrev cX9_partIntoThings : ByteArray := prog_11_method_6_code
def yX9_partIntoThings : MethodName := ⟨RX9, "partIntoThings", "()V"⟩
abbrev cX9_kindOf : ByteArray := prog_11_method_7_code
def yX9_kindOf : MethodName := ⟨RX9, "kindOf", "(I)I"⟩
abbrev cX9_wrongAt : ByteArray := prog_11_method_8_code
def yX9_wrongAt : MethodName := ⟨RX9, "wrongAt", "()I"⟩
abbrev cX9_atEnd : ByteArray := prog_11_method_9_code
def yX9_atEnd : MethodName := ⟨RX9, "atEnd", "()Z"⟩
abbrev cX9_refuse : ByteArray := prog_11_method_10_code
def yX9_refuse : MethodName := ⟨RX9, "refuse", "()Z"⟩
abbrev cX9_takesSign : ByteArray := prog_11_method_11_code
def yX9_takesSign : MethodName := ⟨RX9, "takesSign", "(C)Z"⟩
abbrev cX9_takesWord : ByteArray := prog_11_method_12_code
def yX9_takesWord : MethodName := ⟨RX9, "takesWord", "(Ljava/lang/String;)Z"⟩
abbrev cX9_takeNumber : ByteArray := prog_11_method_13_code
def yX9_takeNumber : MethodName := ⟨RX9, "takeNumber", "(II)I"⟩
abbrev cX9_takeFigures : ByteArray := prog_11_method_14_code
def yX9_takeFigures : MethodName := ⟨RX9, "takeFigures", "(I)I"⟩
def RX10 : String := "DustYard"
def TX10 : u_T := fun k => match k with
  | 0 => ("DustYard", "tape", "LDustYard$Tape;", true)
  | 1 => ("DustYard", "now", "LDustYard$State;", true)
  | 2 => ("DustYard", "draft", "LDustYard$State;", true)
  | 3 => ("DustYard", "kept", "LDustYard$State;", true)
  | 4 => ("DustYard", "laws", "LDustYard$Law;", true)
  | 5 => ("DustYard", "lawDraft", "LDustYard$Law;", true)
  | 6 => ("DustYard", "lawKept", "LDustYard$Law;", true)
  | 7 => ("DustYard", "memory", "LDustYard$Memory;", true)
  | 8 => ("DustYard", "reader", "LDustYard$Reader;", true)
  | 9 => ("DustYard", "rounds", "LDustYard$Rounds;", true)
  | 10 => ("DustYard", "deals", "LDustYard$Deals;", true)
  | 11 => ("DustYard", "guesses", "LDustYard$Guesses;", true)
  | 12 => ("DustYard", "shovels", "[I", true)
  | 13 => ("DustYard", "isKept", "Z", false)
  | _ => ("DustYard", "wrongByte", "I", false)
def tyX10 : Nat → FieldType := fun k => match k with
  | 0 => .object "DustYard$Tape"
  | 1 => .object "DustYard$State"
  | 2 => .object "DustYard$State"
  | 3 => .object "DustYard$State"
  | 4 => .object "DustYard$Law"
  | 5 => .object "DustYard$Law"
  | 6 => .object "DustYard$Law"
  | 7 => .object "DustYard$Memory"
  | 8 => .object "DustYard$Reader"
  | 9 => .object "DustYard$Rounds"
  | 10 => .object "DustYard$Deals"
  | 11 => .object "DustYard$Guesses"
  | 12 => .array .int
  | 13 => .boolean
  | _ => .int
abbrev wsX100 : List Cond := u_ws RX10 TX10 15
theorem nmX10 : ∀ a, a < 15 → ∀ b, b < 15 → a ≠ b → (TX10 a).2.1 ≠ (TX10 b).2.1 := by decide +kernel
theorem tyX10_ok : ∀ k, k < 15 → parseFieldDescriptor (TX10 k).2.2.1 = some (tyX10 k) := by decide +kernel
abbrev cX10_init : ByteArray := prog_1_method_1_code
def yX10_init : MethodName := ⟨RX10, "<init>", "()V"⟩
abbrev cX10_feed : ByteArray := prog_1_method_2_code
def yX10_feed : MethodName := ⟨RX10, "feed", "(IIIII)I"⟩
abbrev cX10_end : ByteArray := prog_1_method_3_code
def yX10_end : MethodName := ⟨RX10, "end", "(I)Z"⟩
abbrev cX10_yard : ByteArray := prog_1_method_4_code
def yX10_yard : MethodName := ⟨RX10, "yard", "()I"⟩
abbrev cX10_law : ByteArray := prog_1_method_5_code
def yX10_law : MethodName := ⟨RX10, "law", "()I"⟩
abbrev cX10_fault : ByteArray := prog_1_method_6_code
def yX10_fault : MethodName := ⟨RX10, "fault", "()I"⟩
abbrev cX10_street : ByteArray := prog_1_method_7_code
def yX10_street : MethodName := ⟨RX10, "street", "(II)I"⟩
abbrev cX10_mix : ByteArray := prog_1_method_8_code
def yX10_mix : MethodName := ⟨RX10, "mix", "(II)I"⟩
abbrev cX10_cart : ByteArray := prog_1_method_9_code
def yX10_cart : MethodName := ⟨RX10, "cart", "(II)I"⟩
abbrev cX10_mesh : ByteArray := prog_1_method_10_code
def yX10_mesh : MethodName := ⟨RX10, "mesh", "(I)I"⟩
abbrev cX10_contract : ByteArray := prog_1_method_11_code
def yX10_contract : MethodName := ⟨RX10, "contract", "(II)I"⟩
abbrev cX10_heap : ByteArray := prog_1_method_12_code
def yX10_heap : MethodName := ⟨RX10, "heap", "(I)I"⟩
abbrev cX10_way : ByteArray := prog_1_method_13_code
def yX10_way : MethodName := ⟨RX10, "way", "(II)I"⟩
abbrev cX10_days : ByteArray := prog_1_method_14_code
def yX10_days : MethodName := ⟨RX10, "days", "(I)I"⟩
abbrev cX10_tip : ByteArray := prog_1_method_15_code
def yX10_tip : MethodName := ⟨RX10, "tip", "(I)I"⟩
abbrev cX10_buy : ByteArray := prog_1_method_16_code
def yX10_buy : MethodName := ⟨RX10, "buy", "(I)I"⟩
abbrev cX10_take : ByteArray := prog_1_method_17_code
def yX10_take : MethodName := ⟨RX10, "take", "(IIII)I"⟩
abbrev cX10_drop : ByteArray := prog_1_method_18_code
def yX10_drop : MethodName := ⟨RX10, "drop", "(I)V"⟩
abbrev cX10_hire : ByteArray := prog_1_method_19_code
def yX10_hire : MethodName := ⟨RX10, "hire", "(II)I"⟩
abbrev cX10_lay : ByteArray := prog_1_method_20_code
def yX10_lay : MethodName := ⟨RX10, "lay", "(III)I"⟩
abbrev cX10_douse : ByteArray := prog_1_method_21_code
def yX10_douse : MethodName := ⟨RX10, "douse", "()Z"⟩
abbrev cX10_fill : ByteArray := prog_1_method_22_code
def yX10_fill : MethodName := ⟨RX10, "fill", "(I)I"⟩
abbrev cX10_classes : ByteArray := prog_1_method_23_code
def yX10_classes : MethodName := ⟨RX10, "classes", "(I)I"⟩
abbrev cX10_classOf : ByteArray := prog_1_method_24_code
def yX10_classOf : MethodName := ⟨RX10, "classOf", "(II)I"⟩
abbrev cX10_held : ByteArray := prog_1_method_25_code
def yX10_held : MethodName := ⟨RX10, "held", "(II)I"⟩
abbrev cX10_fewest : ByteArray := prog_1_method_26_code
def yX10_fewest : MethodName := ⟨RX10, "fewest", "()I"⟩
abbrev cX10_clean : ByteArray := prog_1_method_27_code
def yX10_clean : MethodName := ⟨RX10, "clean", "(II)I"⟩
abbrev cX10_round : ByteArray := prog_1_method_28_code
def yX10_round : MethodName := ⟨RX10, "round", "()I"⟩
abbrev cX10_trips : ByteArray := prog_1_method_29_code
def yX10_trips : MethodName := ⟨RX10, "trips", "(I)I"⟩
abbrev cX10_worth : ByteArray := prog_1_method_30_code
def yX10_worth : MethodName := ⟨RX10, "worth", "()I"⟩
abbrev cX10_serves : ByteArray := prog_1_method_31_code
def yX10_serves : MethodName := ⟨RX10, "serves", "()I"⟩
abbrev cX10_blend : ByteArray := prog_1_method_32_code
def yX10_blend : MethodName := ⟨RX10, "blend", "(IIII)I"⟩
abbrev cX10_from : ByteArray := prog_1_method_33_code
def yX10_from : MethodName := ⟨RX10, "from", "()I"⟩
abbrev cX10_likely : ByteArray := prog_1_method_34_code
def yX10_likely : MethodName := ⟨RX10, "likely", "()I"⟩
abbrev cX10_ask : ByteArray := prog_1_method_35_code
def yX10_ask : MethodName := ⟨RX10, "ask", "()I"⟩
abbrev cX10_meshes : ByteArray := prog_1_method_36_code
def yX10_meshes : MethodName := ⟨RX10, "meshes", "(Z)I"⟩
abbrev cX10_sift : ByteArray := prog_1_method_37_code
def yX10_sift : MethodName := ⟨RX10, "sift", "()I"⟩
abbrev cX10_ends : ByteArray := prog_1_method_38_code
def yX10_ends : MethodName := ⟨RX10, "ends", "()I"⟩
abbrev cX10_side : ByteArray := prog_1_method_39_code
def yX10_side : MethodName := ⟨RX10, "side", "()I"⟩
abbrev cX10_pairs : ByteArray := prog_1_method_40_code
def yX10_pairs : MethodName := ⟨RX10, "pairs", "(I)I"⟩
abbrev cX10_share : ByteArray := prog_1_method_41_code
def yX10_share : MethodName := ⟨RX10, "share", "(II)I"⟩
abbrev cX10_rests : ByteArray := prog_1_method_42_code
def yX10_rests : MethodName := ⟨RX10, "rests", "(I)I"⟩
abbrev cX10_odds : ByteArray := prog_1_method_43_code
def yX10_odds : MethodName := ⟨RX10, "odds", "(II)I"⟩
abbrev cX10_most : ByteArray := prog_1_method_44_code
def yX10_most : MethodName := ⟨RX10, "most", "(I)I"⟩
abbrev cX10_open : ByteArray := prog_1_method_45_code
def yX10_open : MethodName := ⟨RX10, "open", "(Z)I"⟩
abbrev cX10_twins : ByteArray := prog_1_method_46_code
def yX10_twins : MethodName := ⟨RX10, "twins", "()I"⟩
abbrev cX10_wanted : ByteArray := prog_1_method_47_code
def yX10_wanted : MethodName := ⟨RX10, "wanted", "(I)I"⟩
abbrev cX10_ahead : ByteArray := prog_1_method_48_code
def yX10_ahead : MethodName := ⟨RX10, "ahead", "(II)I"⟩
abbrev cX10_trial : ByteArray := prog_1_method_49_code
def yX10_trial : MethodName := ⟨RX10, "trial", "(IZ)I"⟩
abbrev cX10_span : ByteArray := prog_1_method_50_code
def yX10_span : MethodName := ⟨RX10, "span", "(IZ)I"⟩
abbrev cX10_led : ByteArray := prog_1_method_51_code
def yX10_led : MethodName := ⟨RX10, "led", "(IZ)I"⟩
abbrev cX10_log : ByteArray := prog_1_method_52_code
def yX10_log : MethodName := ⟨RX10, "log", "(II)I"⟩
abbrev cX10_seed : ByteArray := prog_1_method_53_code
def yX10_seed : MethodName := ⟨RX10, "seed", "(I)I"⟩
abbrev cX10_undo : ByteArray := prog_1_method_54_code
def yX10_undo : MethodName := ⟨RX10, "undo", "()Z"⟩
abbrev cX10_image : ByteArray := prog_1_method_55_code
def yX10_image : MethodName := ⟨RX10, "image", "()V"⟩
abbrev cX10_back : ByteArray := prog_1_method_56_code
def yX10_back : MethodName := ⟨RX10, "back", "()Z"⟩
abbrev cX10_count : ByteArray := prog_1_method_57_code
def yX10_count : MethodName := ⟨RX10, "count", "(I)I"⟩
abbrev cX10_needStreet : ByteArray := prog_1_method_58_code
def yX10_needStreet : MethodName := ⟨RX10, "needStreet", "(I)V"⟩
abbrev cX10_needCart : ByteArray := prog_1_method_59_code
def yX10_needCart : MethodName := ⟨RX10, "needCart", "(I)V"⟩
abbrev cX10_needContract : ByteArray := prog_1_method_60_code
def yX10_needContract : MethodName := ⟨RX10, "needContract", "(I)V"⟩
abbrev cX10_needGrain : ByteArray := prog_1_method_61_code
def yX10_needGrain : MethodName := ⟨RX10, "needGrain", "(I)V"⟩
abbrev cX10_needTrialDays : ByteArray := prog_1_method_62_code
def yX10_needTrialDays : MethodName := ⟨RX10, "needTrialDays", "(I)V"⟩
abbrev cX10_needRows : ByteArray := prog_1_method_63_code
def yX10_needRows : MethodName := ⟨RX10, "needRows", "(I)V"⟩
abbrev cX10_partOf : ByteArray := prog_1_method_64_code
def yX10_partOf : MethodName := ⟨RX10, "partOf", "(I)I"⟩
abbrev cX10_reachedBy : ByteArray := prog_1_method_65_code
def yX10_reachedBy : MethodName := ⟨RX10, "reachedBy", "(I)I"⟩
abbrev cX10_isCut : ByteArray := prog_1_method_66_code
def yX10_isCut : MethodName := ⟨RX10, "isCut", "(II)Z"⟩
abbrev cX10_runLow : ByteArray := prog_1_method_67_code
def yX10_runLow : MethodName := ⟨RX10, "runLow", "(II)I"⟩
abbrev cX10_runHigh : ByteArray := prog_1_method_68_code
def yX10_runHigh : MethodName := ⟨RX10, "runHigh", "(II)I"⟩
abbrev cX10_cutsNeeded : ByteArray := prog_1_method_69_code
def yX10_cutsNeeded : MethodName := ⟨RX10, "cutsNeeded", "()I"⟩
abbrev cX10_streetsTold : ByteArray := prog_1_method_70_code
def yX10_streetsTold : MethodName := ⟨RX10, "streetsTold", "()I"⟩
abbrev cX10_lead : ByteArray := prog_1_method_71_code
def yX10_lead : MethodName := ⟨RX10, "lead", "(II)I"⟩
abbrev cX10_nextForShovel : ByteArray := prog_1_method_72_code
def yX10_nextForShovel : MethodName := ⟨RX10, "nextForShovel", "()I"⟩
abbrev cX10_carterHas : ByteArray := prog_1_method_73_code
def yX10_carterHas : MethodName := ⟨RX10, "carterHas", "(II)I"⟩
abbrev cX10_waysOfFire : ByteArray := prog_1_method_74_code
def yX10_waysOfFire : MethodName := ⟨RX10, "waysOfFire", "(II)J"⟩
abbrev cX10_fullest : ByteArray := prog_1_method_75_code
def yX10_fullest : MethodName := ⟨RX10, "fullest", "()I"⟩
abbrev cX10_farthest : ByteArray := prog_1_method_76_code
def yX10_farthest : MethodName := ⟨RX10, "farthest", "()I"⟩
abbrev cX10_richest : ByteArray := prog_1_method_77_code
def yX10_richest : MethodName := ⟨RX10, "richest", "()I"⟩
def RX11 : String := "DustYardModel"
def TX11 : u_T := fun k => match k with
  | 0 => ("DustYardModel", "thrown", "I", false)
  | 1 => ("DustYardModel", "m", "[I", true)
  | 2 => ("DustYardModel", "kept", "[I", true)
  | 3 => ("DustYardModel", "hasImage", "Z", false)
  | 4 => ("DustYardModel", "aside", "[I", true)
  | 5 => ("DustYardModel", "acts", "[I", true)
  | 6 => ("DustYardModel", "acted", "I", false)
  | 7 => ("DustYardModel", "tape", "[I", true)
  | 8 => ("DustYardModel", "taped", "I", false)
  | 9 => ("DustYardModel", "base", "I", false)
  | 10 => ("DustYardModel", "end", "I", false)
  | 11 => ("DustYardModel", "at", "I", false)
  | 12 => ("DustYardModel", "fault", "I", false)
  | 13 => ("DustYardModel", "deep", "I", false)
  | 14 => ("DustYardModel", "fact", "[I", true)
  | 15 => ("DustYardModel", "isFar", "Z", false)
  | 16 => ("DustYardModel", "fills", "I", false)
  | 17 => ("DustYardModel", "toll", "I", false)
  | 18 => ("DustYardModel", "routes", "[I", true)
  | 19 => ("DustYardModel", "loops", "[I", true)
  | 20 => ("DustYardModel", "tripped", "[I", true)
  | 21 => ("DustYardModel", "best", "[I", true)
  | 22 => ("DustYardModel", "had", "[I", true)
  | 23 => ("DustYardModel", "leads", "[I", true)
  | _ => ("DustYardModel", "wrongs", "[I", true)
def tyX11 : Nat → FieldType := fun k => match k with
  | 0 => .int
  | 1 => .array .int
  | 2 => .array .int
  | 3 => .boolean
  | 4 => .array .int
  | 5 => .array .int
  | 6 => .int
  | 7 => .array .int
  | 8 => .int
  | 9 => .int
  | 10 => .int
  | 11 => .int
  | 12 => .int
  | 13 => .int
  | 14 => .array .int
  | 15 => .boolean
  | 16 => .int
  | 17 => .int
  | 18 => .array .int
  | 19 => .array .int
  | 20 => .array .int
  | 21 => .array .int
  | 22 => .array .int
  | 23 => .array .int
  | _ => .array .int
abbrev wsX110 : List Cond := u_ws RX11 TX11 25
theorem nmX11 : ∀ a, a < 25 → ∀ b, b < 25 → a ≠ b → (TX11 a).2.1 ≠ (TX11 b).2.1 := by decide +kernel
theorem tyX11_ok : ∀ k, k < 25 → parseFieldDescriptor (TX11 k).2.2.1 = some (tyX11 k) := by decide +kernel
abbrev cX11_init : ByteArray := prog_13_method_1_code
def yX11_init : MethodName := ⟨RX11, "<init>", "()V"⟩
abbrev cX11_thrown : ByteArray := prog_13_method_2_code
def yX11_thrown : MethodName := ⟨RX11, "thrown", "()I"⟩
abbrev cX11_isIn : ByteArray := prog_13_method_3_code
def yX11_isIn : MethodName := ⟨RX11, "isIn", "(III)Z"⟩
abbrev cX11_lesser : ByteArray := prog_13_method_4_code
def yX11_lesser : MethodName := ⟨RX11, "lesser", "(II)I"⟩
abbrev cX11_greater : ByteArray := prog_13_method_5_code
def yX11_greater : MethodName := ⟨RX11, "greater", "(II)I"⟩
abbrev cX11_isOf : ByteArray := prog_13_method_6_code
def yX11_isOf : MethodName := ⟨RX11, "isOf", "(II)Z"⟩
abbrev cX11_bits : ByteArray := prog_13_method_7_code
def yX11_bits : MethodName := ⟨RX11, "bits", "(I)I"⟩
abbrev cX11_of : ByteArray := prog_13_method_8_code
def yX11_of : MethodName := ⟨RX11, "of", "(II)I"⟩
abbrev cX11_mixOf : ByteArray := prog_13_method_9_code
def yX11_mixOf : MethodName := ⟨RX11, "mixOf", "(II)I"⟩
abbrev cX11_ofDeal : ByteArray := prog_13_method_10_code
def yX11_ofDeal : MethodName := ⟨RX11, "ofDeal", "(II)I"⟩
abbrev cX11_hold : ByteArray := prog_13_method_11_code
def yX11_hold : MethodName := ⟨RX11, "hold", "(I)I"⟩
abbrev cX11_goesFar : ByteArray := prog_13_method_12_code
def yX11_goesFar : MethodName := ⟨RX11, "goesFar", "(I)I"⟩
abbrev cX11_heaped : ByteArray := prog_13_method_13_code
def yX11_heaped : MethodName := ⟨RX11, "heaped", "(I)I"⟩
abbrev cX11_isStreet : ByteArray := prog_13_method_14_code
def yX11_isStreet : MethodName := ⟨RX11, "isStreet", "(I)Z"⟩
abbrev cX11_isCart : ByteArray := prog_13_method_15_code
def yX11_isCart : MethodName := ⟨RX11, "isCart", "(I)Z"⟩
abbrev cX11_isDeal : ByteArray := prog_13_method_16_code
def yX11_isDeal : MethodName := ⟨RX11, "isDeal", "(I)Z"⟩
abbrev cX11_isGrain : ByteArray := prog_13_method_17_code
def yX11_isGrain : MethodName := ⟨RX11, "isGrain", "(I)Z"⟩
abbrev cX11_isOpen : ByteArray := prog_13_method_18_code
def yX11_isOpen : MethodName := ⟨RX11, "isOpen", "(I)Z"⟩
abbrev cX11_feed : ByteArray := prog_13_method_19_code
def yX11_feed : MethodName := ⟨RX11, "feed", "(IIIII)I"⟩
abbrev cX11_end : ByteArray := prog_13_method_20_code
def yX11_end : MethodName := ⟨RX11, "end", "(I)Z"⟩
abbrev cX11_letter : ByteArray := prog_13_method_21_code
def yX11_letter : MethodName := ⟨RX11, "letter", "(I)I"⟩
abbrev cX11_skip : ByteArray := prog_13_method_22_code
def yX11_skip : MethodName := ⟨RX11, "skip", "()V"⟩
abbrev cX11_isSign : ByteArray := prog_13_method_23_code
def yX11_isSign : MethodName := ⟨RX11, "isSign", "(I)Z"⟩
abbrev cX11_has : ByteArray := prog_13_method_24_code
def yX11_has : MethodName := ⟨RX11, "has", "(Ljava/lang/String;)Z"⟩
abbrev cX11_wrong : ByteArray := prog_13_method_25_code
def yX11_wrong : MethodName := ⟨RX11, "wrong", "(I)V"⟩
abbrev cX11_here : ByteArray := prog_13_method_26_code
def yX11_here : MethodName := ⟨RX11, "here", "()I"⟩
abbrev cX11_figures : ByteArray := prog_13_method_27_code
def yX11_figures : MethodName := ⟨RX11, "figures", "(II)I"⟩
abbrev cX11_after : ByteArray := prog_13_method_28_code
def yX11_after : MethodName := ⟨RX11, "after", "(Ljava/lang/String;II)I"⟩
abbrev cX11_expects : ByteArray := prog_13_method_29_code
def yX11_expects : MethodName := ⟨RX11, "expects", "(Ljava/lang/String;)Z"⟩
abbrev cX11_streetLine : ByteArray := prog_13_method_30_code
def yX11_streetLine : MethodName := ⟨RX11, "streetLine", "(I)V"⟩
abbrev cX11_cartLine : ByteArray := prog_13_method_31_code
def yX11_cartLine : MethodName := ⟨RX11, "cartLine", "(I)V"⟩
abbrev cX11_hires : ByteArray := prog_13_method_32_code
def yX11_hires : MethodName := ⟨RX11, "hires", "(II)V"⟩
abbrev cX11_sieveLine : ByteArray := prog_13_method_33_code
def yX11_sieveLine : MethodName := ⟨RX11, "sieveLine", "(I)V"⟩
abbrev cX11_buys : ByteArray := prog_13_method_34_code
def yX11_buys : MethodName := ⟨RX11, "buys", "(I)V"⟩
abbrev cX11_dealLine : ByteArray := prog_13_method_35_code
def yX11_dealLine : MethodName := ⟨RX11, "dealLine", "(I)V"⟩
abbrev cX11_takes : ByteArray := prog_13_method_36_code
def yX11_takes : MethodName := ⟨RX11, "takes", "(IIII)V"⟩
abbrev cX11_heapLine : ByteArray := prog_13_method_37_code
def yX11_heapLine : MethodName := ⟨RX11, "heapLine", "()V"⟩
abbrev cX11_tells : ByteArray := prog_13_method_38_code
def yX11_tells : MethodName := ⟨RX11, "tells", "(III)V"⟩
abbrev cX11_yardLine : ByteArray := prog_13_method_39_code
def yX11_yardLine : MethodName := ⟨RX11, "yardLine", "()V"⟩
abbrev cX11_begins : ByteArray := prog_13_method_40_code
def yX11_begins : MethodName := ⟨RX11, "begins", "()V"⟩
abbrev cX11_read : ByteArray := prog_13_method_41_code
def yX11_read : MethodName := ⟨RX11, "read", "(Z)I"⟩
abbrev cX11_putsAside : ByteArray := prog_13_method_42_code
def yX11_putsAside : MethodName := ⟨RX11, "putsAside", "()V"⟩
abbrev cX11_comesBack : ByteArray := prog_13_method_43_code
def yX11_comesBack : MethodName := ⟨RX11, "comesBack", "()V"⟩
abbrev cX11_yard : ByteArray := prog_13_method_44_code
def yX11_yard : MethodName := ⟨RX11, "yard", "()I"⟩
abbrev cX11_part : ByteArray := prog_13_method_45_code
def yX11_part : MethodName := ⟨RX11, "part", "()I"⟩
abbrev cX11_sum : ByteArray := prog_13_method_46_code
def yX11_sum : MethodName := ⟨RX11, "sum", "()I"⟩
abbrev cX11_plain : ByteArray := prog_13_method_47_code
def yX11_plain : MethodName := ⟨RX11, "plain", "()Z"⟩
abbrev cX11_atom : ByteArray := prog_13_method_48_code
def yX11_atom : MethodName := ⟨RX11, "atom", "()Z"⟩
abbrev cX11_every : ByteArray := prog_13_method_49_code
def yX11_every : MethodName := ⟨RX11, "every", "()Z"⟩
abbrev cX11_some : ByteArray := prog_13_method_50_code
def yX11_some : MethodName := ⟨RX11, "some", "()Z"⟩
abbrev cX11_lawLine : ByteArray := prog_13_method_51_code
def yX11_lawLine : MethodName := ⟨RX11, "lawLine", "()V"⟩
abbrev cX11_law : ByteArray := prog_13_method_52_code
def yX11_law : MethodName := ⟨RX11, "law", "()I"⟩
abbrev cX11_fault : ByteArray := prog_13_method_53_code
def yX11_fault : MethodName := ⟨RX11, "fault", "()I"⟩
abbrev cX11_loadOf : ByteArray := prog_13_method_54_code
def yX11_loadOf : MethodName := ⟨RX11, "loadOf", "(I)I"⟩
abbrev cX11_asks : ByteArray := prog_13_method_55_code
def yX11_asks : MethodName := ⟨RX11, "asks", "(I)V"⟩
abbrev cX11_fillsOf : ByteArray := prog_13_method_56_code
def yX11_fillsOf : MethodName := ⟨RX11, "fillsOf", "(I)I"⟩
abbrev cX11_tollOf : ByteArray := prog_13_method_57_code
def yX11_tollOf : MethodName := ⟨RX11, "tollOf", "(I)I"⟩
abbrev cX11_wayOf : ByteArray := prog_13_method_58_code
def yX11_wayOf : MethodName := ⟨RX11, "wayOf", "(II)I"⟩
abbrev cX11_draw : ByteArray := prog_13_method_59_code
def yX11_draw : MethodName := ⟨RX11, "draw", "(I)I"⟩
abbrev cX11_logs : ByteArray := prog_13_method_60_code
def yX11_logs : MethodName := ⟨RX11, "logs", "(IIII)V"⟩
abbrev cX11_unloads : ByteArray := prog_13_method_61_code
def yX11_unloads : MethodName := ⟨RX11, "unloads", "(II)V"⟩
abbrev cX11_drives : ByteArray := prog_13_method_62_code
def yX11_drives : MethodName := ⟨RX11, "drives", "(I)V"⟩
abbrev cX11_heapBetween : ByteArray := prog_13_method_63_code
def yX11_heapBetween : MethodName := ⟨RX11, "heapBetween", "(II)I"⟩
abbrev cX11_hasFor : ByteArray := prog_13_method_64_code
def yX11_hasFor : MethodName := ⟨RX11, "hasFor", "(I)Z"⟩
abbrev cX11_isFilled : ByteArray := prog_13_method_65_code
def yX11_isFilled : MethodName := ⟨RX11, "isFilled", "(II)V"⟩
abbrev cX11_halves : ByteArray := prog_13_method_66_code
def yX11_halves : MethodName := ⟨RX11, "halves", "(I)V"⟩
abbrev cX11_passes : ByteArray := prog_13_method_67_code
def yX11_passes : MethodName := ⟨RX11, "passes", "(Z)I"⟩
abbrev cX11_goes : ByteArray := prog_13_method_68_code
def yX11_goes : MethodName := ⟨RX11, "goes", "(IZ)I"⟩
abbrev cX11_waitsOfAll : ByteArray := prog_13_method_69_code
def yX11_waitsOfAll : MethodName := ⟨RX11, "waitsOfAll", "()I"⟩
abbrev cX11_openOnes : ByteArray := prog_13_method_70_code
def yX11_openOnes : MethodName := ⟨RX11, "openOnes", "()I"⟩
abbrev cX11_street : ByteArray := prog_13_method_71_code
def yX11_street : MethodName := ⟨RX11, "street", "(II)I"⟩
abbrev cX11_mix : ByteArray := prog_13_method_72_code
def yX11_mix : MethodName := ⟨RX11, "mix", "(II)I"⟩
abbrev cX11_allLoops : ByteArray := prog_13_method_73_code
def yX11_allLoops : MethodName := ⟨RX11, "allLoops", "()V"⟩
abbrev cX11_waitsOf : ByteArray := prog_13_method_74_code
def yX11_waitsOf : MethodName := ⟨RX11, "waitsOf", "(I)I"⟩
abbrev cX11_bestRound : ByteArray := prog_13_method_75_code
def yX11_bestRound : MethodName := ⟨RX11, "bestRound", "(I)I"⟩
abbrev cX11_reached : ByteArray := prog_13_method_76_code
def yX11_reached : MethodName := ⟨RX11, "reached", "(I)I"⟩
abbrev cX11_cart : ByteArray := prog_13_method_77_code
def yX11_cart : MethodName := ⟨RX11, "cart", "(II)I"⟩
abbrev cX11_mesh : ByteArray := prog_13_method_78_code
def yX11_mesh : MethodName := ⟨RX11, "mesh", "(I)I"⟩
abbrev cX11_contract : ByteArray := prog_13_method_79_code
def yX11_contract : MethodName := ⟨RX11, "contract", "(II)I"⟩
abbrev cX11_heap : ByteArray := prog_13_method_80_code
def yX11_heap : MethodName := ⟨RX11, "heap", "(I)I"⟩
abbrev cX11_way : ByteArray := prog_13_method_81_code
def yX11_way : MethodName := ⟨RX11, "way", "(II)I"⟩
abbrev cX11_remembers : ByteArray := prog_13_method_82_code
def yX11_remembers : MethodName := ⟨RX11, "remembers", "()V"⟩
abbrev cX11_sets : ByteArray := prog_13_method_83_code
def yX11_sets : MethodName := ⟨RX11, "sets", "(II)I"⟩
abbrev cX11_days : ByteArray := prog_13_method_84_code
def yX11_days : MethodName := ⟨RX11, "days", "(I)I"⟩
abbrev cX11_tip : ByteArray := prog_13_method_85_code
def yX11_tip : MethodName := ⟨RX11, "tip", "(I)I"⟩
abbrev cX11_buy : ByteArray := prog_13_method_86_code
def yX11_buy : MethodName := ⟨RX11, "buy", "(I)I"⟩
abbrev cX11_take : ByteArray := prog_13_method_87_code
def yX11_take : MethodName := ⟨RX11, "take", "(IIII)I"⟩
abbrev cX11_drop : ByteArray := prog_13_method_88_code
def yX11_drop : MethodName := ⟨RX11, "drop", "(I)V"⟩
abbrev cX11_hire : ByteArray := prog_13_method_89_code
def yX11_hire : MethodName := ⟨RX11, "hire", "(II)I"⟩
abbrev cX11_lay : ByteArray := prog_13_method_90_code
def yX11_lay : MethodName := ⟨RX11, "lay", "(III)I"⟩
abbrev cX11_douse : ByteArray := prog_13_method_91_code
def yX11_douse : MethodName := ⟨RX11, "douse", "()Z"⟩
abbrev cX11_fill : ByteArray := prog_13_method_92_code
def yX11_fill : MethodName := ⟨RX11, "fill", "(I)I"⟩
abbrev cX11_isBegin : ByteArray := prog_13_method_93_code
def yX11_isBegin : MethodName := ⟨RX11, "isBegin", "(II)Z"⟩
abbrev cX11_runLow : ByteArray := prog_13_method_94_code
def yX11_runLow : MethodName := ⟨RX11, "runLow", "(II)I"⟩
abbrev cX11_runHigh : ByteArray := prog_13_method_95_code
def yX11_runHigh : MethodName := ⟨RX11, "runHigh", "(II)I"⟩
abbrev cX11_classes : ByteArray := prog_13_method_96_code
def yX11_classes : MethodName := ⟨RX11, "classes", "(I)I"⟩
abbrev cX11_classOf : ByteArray := prog_13_method_97_code
def yX11_classOf : MethodName := ⟨RX11, "classOf", "(II)I"⟩
abbrev cX11_held : ByteArray := prog_13_method_98_code
def yX11_held : MethodName := ⟨RX11, "held", "(II)I"⟩
abbrev cX11_partsAll : ByteArray := prog_13_method_99_code
def yX11_partsAll : MethodName := ⟨RX11, "partsAll", "(I)Z"⟩
abbrev cX11_fewest : ByteArray := prog_13_method_100_code
def yX11_fewest : MethodName := ⟨RX11, "fewest", "()I"⟩
abbrev cX11_clean : ByteArray := prog_13_method_101_code
def yX11_clean : MethodName := ⟨RX11, "clean", "(II)I"⟩
abbrev cX11_round : ByteArray := prog_13_method_102_code
def yX11_round : MethodName := ⟨RX11, "round", "()I"⟩
abbrev cX11_trips : ByteArray := prog_13_method_103_code
def yX11_trips : MethodName := ⟨RX11, "trips", "(I)I"⟩
abbrev cX11_paysOf : ByteArray := prog_13_method_104_code
def yX11_paysOf : MethodName := ⟨RX11, "paysOf", "(I)I"⟩
abbrev cX11_areServed : ByteArray := prog_13_method_105_code
def yX11_areServed : MethodName := ⟨RX11, "areServed", "(I)Z"⟩
abbrev cX11_paysOfSet : ByteArray := prog_13_method_106_code
def yX11_paysOfSet : MethodName := ⟨RX11, "paysOfSet", "(I)I"⟩
abbrev cX11_mostServed : ByteArray := prog_13_method_107_code
def yX11_mostServed : MethodName := ⟨RX11, "mostServed", "()I"⟩
abbrev cX11_worth : ByteArray := prog_13_method_108_code
def yX11_worth : MethodName := ⟨RX11, "worth", "()I"⟩
abbrev cX11_serves : ByteArray := prog_13_method_109_code
def yX11_serves : MethodName := ⟨RX11, "serves", "()I"⟩
abbrev cX11_blend : ByteArray := prog_13_method_110_code
def yX11_blend : MethodName := ⟨RX11, "blend", "(IIII)I"⟩
abbrev cX11_hears : ByteArray := prog_13_method_111_code
def yX11_hears : MethodName := ⟨RX11, "hears", "()I"⟩
abbrev cX11_from : ByteArray := prog_13_method_112_code
def yX11_from : MethodName := ⟨RX11, "from", "()I"⟩
abbrev cX11_likely : ByteArray := prog_13_method_113_code
def yX11_likely : MethodName := ⟨RX11, "likely", "()I"⟩
abbrev cX11_partBy : ByteArray := prog_13_method_114_code
def yX11_partBy : MethodName := ⟨RX11, "partBy", "(II)I"⟩
abbrev cX11_ask : ByteArray := prog_13_method_115_code
def yX11_ask : MethodName := ⟨RX11, "ask", "()I"⟩
abbrev cX11_through : ByteArray := prog_13_method_116_code
def yX11_through : MethodName := ⟨RX11, "through", "(II)I"⟩
abbrev cX11_isPair : ByteArray := prog_13_method_117_code
def yX11_isPair : MethodName := ⟨RX11, "isPair", "(I)Z"⟩
abbrev cX11_siftRows : ByteArray := prog_13_method_118_code
def yX11_siftRows : MethodName := ⟨RX11, "siftRows", "()I"⟩
abbrev cX11_fitsPair : ByteArray := prog_13_method_119_code
def yX11_fitsPair : MethodName := ⟨RX11, "fitsPair", "(II)Z"⟩
abbrev cX11_meshes : ByteArray := prog_13_method_120_code
def yX11_meshes : MethodName := ⟨RX11, "meshes", "(Z)I"⟩
abbrev cX11_sift : ByteArray := prog_13_method_121_code
def yX11_sift : MethodName := ⟨RX11, "sift", "()I"⟩
abbrev cX11_allEnds : ByteArray := prog_13_method_122_code
def yX11_allEnds : MethodName := ⟨RX11, "allEnds", "()V"⟩
abbrev cX11_ends : ByteArray := prog_13_method_123_code
def yX11_ends : MethodName := ⟨RX11, "ends", "()I"⟩
abbrev cX11_side : ByteArray := prog_13_method_124_code
def yX11_side : MethodName := ⟨RX11, "side", "()I"⟩
abbrev cX11_lowest : ByteArray := prog_13_method_125_code
def yX11_lowest : MethodName := ⟨RX11, "lowest", "(I)I"⟩
abbrev cX11_both : ByteArray := prog_13_method_126_code
def yX11_both : MethodName := ⟨RX11, "both", "(II)I"⟩
abbrev cX11_allBest : ByteArray := prog_13_method_127_code
def yX11_allBest : MethodName := ⟨RX11, "allBest", "()V"⟩
abbrev cX11_pairs : ByteArray := prog_13_method_128_code
def yX11_pairs : MethodName := ⟨RX11, "pairs", "(I)I"⟩
abbrev cX11_share : ByteArray := prog_13_method_129_code
def yX11_share : MethodName := ⟨RX11, "share", "(II)I"⟩
abbrev cX11_heHas : ByteArray := prog_13_method_130_code
def yX11_heHas : MethodName := ⟨RX11, "heHas", "(III)I"⟩
abbrev cX11_ratHas : ByteArray := prog_13_method_131_code
def yX11_ratHas : MethodName := ⟨RX11, "ratHas", "(II)I"⟩
abbrev cX11_rests : ByteArray := prog_13_method_132_code
def yX11_rests : MethodName := ⟨RX11, "rests", "(I)I"⟩
abbrev cX11_odds : ByteArray := prog_13_method_133_code
def yX11_odds : MethodName := ⟨RX11, "odds", "(II)I"⟩
abbrev cX11_valueOf : ByteArray := prog_13_method_134_code
def yX11_valueOf : MethodName := ⟨RX11, "valueOf", "(II)I"⟩
abbrev cX11_most : ByteArray := prog_13_method_135_code
def yX11_most : MethodName := ⟨RX11, "most", "(I)I"⟩
abbrev cX11_open : ByteArray := prog_13_method_136_code
def yX11_open : MethodName := ⟨RX11, "open", "(Z)I"⟩
abbrev cX11_twins : ByteArray := prog_13_method_137_code
def yX11_twins : MethodName := ⟨RX11, "twins", "()I"⟩
abbrev cX11_wanted : ByteArray := prog_13_method_138_code
def yX11_wanted : MethodName := ⟨RX11, "wanted", "(I)I"⟩
abbrev cX11_ahead : ByteArray := prog_13_method_139_code
def yX11_ahead : MethodName := ⟨RX11, "ahead", "(II)I"⟩
abbrev cX11_trial : ByteArray := prog_13_method_140_code
def yX11_trial : MethodName := ⟨RX11, "trial", "(IZ)I"⟩
abbrev cX11_span : ByteArray := prog_13_method_141_code
def yX11_span : MethodName := ⟨RX11, "span", "(IZ)I"⟩
abbrev cX11_logged : ByteArray := prog_13_method_142_code
def yX11_logged : MethodName := ⟨RX11, "logged", "(II)I"⟩
abbrev cX11_led : ByteArray := prog_13_method_143_code
def yX11_led : MethodName := ⟨RX11, "led", "(IZ)I"⟩
abbrev cX11_log : ByteArray := prog_13_method_144_code
def yX11_log : MethodName := ⟨RX11, "log", "(II)I"⟩
abbrev cX11_seed : ByteArray := prog_13_method_145_code
def yX11_seed : MethodName := ⟨RX11, "seed", "(I)I"⟩
abbrev cX11_undo : ByteArray := prog_13_method_146_code
def yX11_undo : MethodName := ⟨RX11, "undo", "()Z"⟩
abbrev cX11_image : ByteArray := prog_13_method_147_code
def yX11_image : MethodName := ⟨RX11, "image", "()V"⟩
abbrev cX11_back : ByteArray := prog_13_method_148_code
def yX11_back : MethodName := ⟨RX11, "back", "()Z"⟩
abbrev cX11_count : ByteArray := prog_13_method_149_code
def yX11_count : MethodName := ⟨RX11, "count", "(I)I"⟩
def RJx145de : String := "java/io/Serializable"
def TJx145de : u_T := fun k => match k with
  | _ => ("", "", "", false)
def tyJx145de : Nat → FieldType := fun k => match k with
  | _ => .int
abbrev wsJx145de0 : List Cond := u_ws RJx145de TJx145de 0
theorem nmJx145de : ∀ a, a < 0 → ∀ b, b < 0 → a ≠ b → (TJx145de a).2.1 ≠ (TJx145de b).2.1 := by decide +kernel
theorem tyJx145de_ok : ∀ k, k < 0 → parseFieldDescriptor (TJx145de k).2.2.1 = some (tyJx145de k) := by decide +kernel
def RJx9f9b0 : String := "java/lang/CharSequence"
def TJx9f9b0 : u_T := fun k => match k with
  | _ => ("", "", "", false)
def tyJx9f9b0 : Nat → FieldType := fun k => match k with
  | _ => .int
abbrev wsJx9f9b00 : List Cond := u_ws RJx9f9b0 TJx9f9b0 0
theorem nmJx9f9b0 : ∀ a, a < 0 → ∀ b, b < 0 → a ≠ b → (TJx9f9b0 a).2.1 ≠ (TJx9f9b0 b).2.1 := by decide +kernel
theorem tyJx9f9b0_ok : ∀ k, k < 0 → parseFieldDescriptor (TJx9f9b0 k).2.2.1 = some (tyJx9f9b0 k) := by decide +kernel
def RJxb160c : String := "java/lang/Comparable"
def TJxb160c : u_T := fun k => match k with
  | _ => ("", "", "", false)
def tyJxb160c : Nat → FieldType := fun k => match k with
  | _ => .int
abbrev wsJxb160c0 : List Cond := u_ws RJxb160c TJxb160c 0
theorem nmJxb160c : ∀ a, a < 0 → ∀ b, b < 0 → a ≠ b → (TJxb160c a).2.1 ≠ (TJxb160c b).2.1 := by decide +kernel
theorem tyJxb160c_ok : ∀ k, k < 0 → parseFieldDescriptor (TJxb160c k).2.2.1 = some (tyJxb160c k) := by decide +kernel
def RJ6 : String := "java/lang/Integer"
def TJ6 : u_T := fun k => match k with
  | _ => ("", "", "", false)
def tyJ6 : Nat → FieldType := fun k => match k with
  | _ => .int
abbrev wsJ60 : List Cond := u_ws RJ6 TJ6 0
theorem nmJ6 : ∀ a, a < 0 → ∀ b, b < 0 → a ≠ b → (TJ6 a).2.1 ≠ (TJ6 b).2.1 := by decide +kernel
theorem tyJ6_ok : ∀ k, k < 0 → parseFieldDescriptor (TJ6 k).2.2.1 = some (tyJ6 k) := by decide +kernel
abbrev cJ6_bitCount_0f7a4 : ByteArray := prog_21_method_49_code
def yJ6_bitCount_0f7a4 : MethodName := ⟨RJ6, "bitCount", "(I)I"⟩
def RJ9 : String := "java/lang/Math"
def TJ9 : u_T := fun k => match k with
  | _ => ("", "", "", false)
def tyJ9 : Nat → FieldType := fun k => match k with
  | _ => .int
abbrev wsJ90 : List Cond := u_ws RJ9 TJ9 0
theorem nmJ9 : ∀ a, a < 0 → ∀ b, b < 0 → a ≠ b → (TJ9 a).2.1 ≠ (TJ9 b).2.1 := by decide +kernel
theorem tyJ9_ok : ∀ k, k < 0 → parseFieldDescriptor (TJ9 k).2.2.1 = some (tyJ9 k) := by decide +kernel
abbrev cJ9_abs_0f7a4 : ByteArray := prog_22_method_59_code
def yJ9_abs_0f7a4 : MethodName := ⟨RJ9, "abs", "(I)I"⟩
abbrev cJ9_max_7cf53 : ByteArray := prog_22_method_65_code
def yJ9_max_7cf53 : MethodName := ⟨RJ9, "max", "(II)I"⟩
abbrev cJ9_min_7cf53 : ByteArray := prog_22_method_69_code
def yJ9_min_7cf53 : MethodName := ⟨RJ9, "min", "(II)I"⟩
def RJ0 : String := "java/lang/String"
def TJ0 : u_T := fun k => match k with
  | _ => ("", "", "", false)
def tyJ0 : Nat → FieldType := fun k => match k with
  | _ => .int
abbrev wsJ00 : List Cond := u_ws RJ0 TJ0 0
theorem nmJ0 : ∀ a, a < 0 → ∀ b, b < 0 → a ≠ b → (TJ0 a).2.1 ≠ (TJ0 b).2.1 := by decide +kernel
theorem tyJ0_ok : ∀ k, k < 0 → parseFieldDescriptor (TJ0 k).2.2.1 = some (tyJ0 k) := by decide +kernel
abbrev cJ0_length_8abf5 : ByteArray := prog_24_method_54_code
def yJ0_length_8abf5 : MethodName := ⟨RJ0, "length", "()I"⟩
abbrev cJ0_charAt_5068e : ByteArray := prog_24_method_56_code
def yJ0_charAt_5068e : MethodName := ⟨RJ0, "charAt", "(I)C"⟩
abbrev cJ0_coder_7d493 : ByteArray := prog_24_method_152_code
def yJ0_coder_7d493 : MethodName := ⟨RJ0, "coder", "()B"⟩
abbrev cJ0_isLatin1_aae02 : ByteArray := prog_24_method_154_code
def yJ0_isLatin1_aae02 : MethodName := ⟨RJ0, "isLatin1", "()Z"⟩
abbrev cJ0_checkIndex_df160 : ByteArray := prog_24_method_155_code
def yJ0_checkIndex_df160 : MethodName := ⟨RJ0, "checkIndex", "(II)V"⟩
def RJ1 : String := "java/lang/StringLatin1"
def TJ1 : u_T := fun k => match k with
  | _ => ("", "", "", false)
def tyJ1 : Nat → FieldType := fun k => match k with
  | _ => .int
abbrev wsJ10 : List Cond := u_ws RJ1 TJ1 0
theorem nmJ1 : ∀ a, a < 0 → ∀ b, b < 0 → a ≠ b → (TJ1 a).2.1 ≠ (TJ1 b).2.1 := by decide +kernel
theorem tyJ1_ok : ∀ k, k < 0 → parseFieldDescriptor (TJ1 k).2.2.1 = some (tyJ1 k) := by decide +kernel
abbrev cJ1_charAt_3b067 : ByteArray := prog_25_method_2_code
def yJ1_charAt_3b067 : MethodName := ⟨RJ1, "charAt", "([BI)C"⟩
def RJ2 : String := "java/lang/StringUTF16"
def TJ2 : u_T := fun k => match k with
  | _ => ("", "", "", false)
def tyJ2 : Nat → FieldType := fun k => match k with
  | _ => .int
abbrev wsJ20 : List Cond := u_ws RJ2 TJ2 0
theorem nmJ2 : ∀ a, a < 0 → ∀ b, b < 0 → a ≠ b → (TJ2 a).2.1 ≠ (TJ2 b).2.1 := by decide +kernel
theorem tyJ2_ok : ∀ k, k < 0 → parseFieldDescriptor (TJ2 k).2.2.1 = some (tyJ2 k) := by decide +kernel
abbrev cJ2_getChar_3b067 : ByteArray := prog_26_method_5_code
def yJ2_getChar_3b067 : MethodName := ⟨RJ2, "getChar", "([BI)C"⟩
abbrev cJ2_length_9d52b : ByteArray := prog_26_method_6_code
def yJ2_length_9d52b : MethodName := ⟨RJ2, "length", "([B)I"⟩
abbrev cJ2_charAt_3b067 : ByteArray := prog_26_method_83_code
def yJ2_charAt_3b067 : MethodName := ⟨RJ2, "charAt", "([BI)C"⟩
abbrev cJ2_checkIndex_2214a : ByteArray := prog_26_method_91_code
def yJ2_checkIndex_2214a : MethodName := ⟨RJ2, "checkIndex", "(I[B)V"⟩
def RJ10 : String := "java/lang/System"
def TJ10 : u_T := fun k => match k with
  | _ => ("", "", "", false)
def tyJ10 : Nat → FieldType := fun k => match k with
  | _ => .int
abbrev wsJ100 : List Cond := u_ws RJ10 TJ10 0
theorem nmJ10 : ∀ a, a < 0 → ∀ b, b < 0 → a ≠ b → (TJ10 a).2.1 ≠ (TJ10 b).2.1 := by decide +kernel
theorem tyJ10_ok : ∀ k, k < 0 → parseFieldDescriptor (TJ10 k).2.2.1 = some (tyJ10 k) := by decide +kernel
def RJxfd54e : String := "java/lang/constant/Constable"
def TJxfd54e : u_T := fun k => match k with
  | _ => ("", "", "", false)
def tyJxfd54e : Nat → FieldType := fun k => match k with
  | _ => .int
abbrev wsJxfd54e0 : List Cond := u_ws RJxfd54e TJxfd54e 0
theorem nmJxfd54e : ∀ a, a < 0 → ∀ b, b < 0 → a ≠ b → (TJxfd54e a).2.1 ≠ (TJxfd54e b).2.1 := by decide +kernel
theorem tyJxfd54e_ok : ∀ k, k < 0 → parseFieldDescriptor (TJxfd54e k).2.2.1 = some (tyJxfd54e k) := by decide +kernel
def RJx3cf43 : String := "java/lang/constant/ConstantDesc"
def TJx3cf43 : u_T := fun k => match k with
  | _ => ("", "", "", false)
def tyJx3cf43 : Nat → FieldType := fun k => match k with
  | _ => .int
abbrev wsJx3cf430 : List Cond := u_ws RJx3cf43 TJx3cf43 0
theorem nmJx3cf43 : ∀ a, a < 0 → ∀ b, b < 0 → a ≠ b → (TJx3cf43 a).2.1 ≠ (TJx3cf43 b).2.1 := by decide +kernel
theorem tyJx3cf43_ok : ∀ k, k < 0 → parseFieldDescriptor (TJx3cf43 k).2.2.1 = some (tyJx3cf43 k) := by decide +kernel
def RJ3 : String := "jdk/internal/util/Preconditions"
def TJ3 : u_T := fun k => match k with
  | _ => ("", "", "", false)
def tyJ3 : Nat → FieldType := fun k => match k with
  | _ => .int
abbrev wsJ30 : List Cond := u_ws RJ3 TJ3 0
theorem nmJ3 : ∀ a, a < 0 → ∀ b, b < 0 → a ≠ b → (TJ3 a).2.1 ≠ (TJ3 b).2.1 := by decide +kernel
theorem tyJ3_ok : ∀ k, k < 0 → parseFieldDescriptor (TJ3 k).2.2.1 = some (tyJ3 k) := by decide +kernel
abbrev cJ3_checkIndex_8e157 : ByteArray := prog_33_method_11_code
def yJ3_checkIndex_8e157 : MethodName := ⟨RJ3, "checkIndex", "(IILjava/util/function/BiFunction;)I"⟩
def RL : String := "DustYardLaw"
abbrev cL_yard : ByteArray := method_3_code
def yL_yard : MethodName := ⟨RL, "yard", "(LDustYard;[J)I"⟩
abbrev cL_law : ByteArray := method_4_code
def yL_law : MethodName := ⟨RL, "law", "(LDustYard;[J)I"⟩
abbrev cL_street : ByteArray := method_5_code
def yL_street : MethodName := ⟨RL, "street", "(LDustYard;II[J)I"⟩
abbrev cL_mix : ByteArray := method_6_code
def yL_mix : MethodName := ⟨RL, "mix", "(LDustYard;II[J)I"⟩
abbrev cL_cart : ByteArray := method_7_code
def yL_cart : MethodName := ⟨RL, "cart", "(LDustYard;II[J)I"⟩
abbrev cL_mesh : ByteArray := method_8_code
def yL_mesh : MethodName := ⟨RL, "mesh", "(LDustYard;I[J)I"⟩
abbrev cL_contract : ByteArray := method_9_code
def yL_contract : MethodName := ⟨RL, "contract", "(LDustYard;II[J)I"⟩
abbrev cL_heap : ByteArray := method_10_code
def yL_heap : MethodName := ⟨RL, "heap", "(LDustYard;I[J)I"⟩
abbrev cL_way : ByteArray := method_11_code
def yL_way : MethodName := ⟨RL, "way", "(LDustYard;II[J)I"⟩
abbrev cL_days : ByteArray := method_12_code
def yL_days : MethodName := ⟨RL, "days", "(LDustYard;I[J)I"⟩
abbrev cL_tip : ByteArray := method_13_code
def yL_tip : MethodName := ⟨RL, "tip", "(LDustYard;I[J)I"⟩
abbrev cL_buy : ByteArray := method_14_code
def yL_buy : MethodName := ⟨RL, "buy", "(LDustYard;I[J)I"⟩
abbrev cL_take : ByteArray := method_15_code
def yL_take : MethodName := ⟨RL, "take", "(LDustYard;IIII[J)I"⟩
abbrev cL_drop : ByteArray := method_16_code
def yL_drop : MethodName := ⟨RL, "drop", "(LDustYard;I)I"⟩
abbrev cL_hire : ByteArray := method_17_code
def yL_hire : MethodName := ⟨RL, "hire", "(LDustYard;II[J)I"⟩
abbrev cL_lay : ByteArray := method_18_code
def yL_lay : MethodName := ⟨RL, "lay", "(LDustYard;III[J)I"⟩
abbrev cL_fill : ByteArray := method_19_code
def yL_fill : MethodName := ⟨RL, "fill", "(LDustYard;I[J)I"⟩
abbrev cL_classOf : ByteArray := method_20_code
def yL_classOf : MethodName := ⟨RL, "classOf", "(LDustYard;II[J)I"⟩
abbrev cL_held : ByteArray := method_21_code
def yL_held : MethodName := ⟨RL, "held", "(LDustYard;II[J)I"⟩
abbrev cL_clean : ByteArray := method_22_code
def yL_clean : MethodName := ⟨RL, "clean", "(LDustYard;II[J)I"⟩
abbrev cL_round : ByteArray := method_23_code
def yL_round : MethodName := ⟨RL, "round", "(LDustYard;[J)I"⟩
abbrev cL_trips : ByteArray := method_24_code
def yL_trips : MethodName := ⟨RL, "trips", "(LDustYard;I[J)I"⟩
abbrev cL_blend : ByteArray := method_25_code
def yL_blend : MethodName := ⟨RL, "blend", "(LDustYard;IIII[J)I"⟩
abbrev cL_from : ByteArray := method_26_code
def yL_from : MethodName := ⟨RL, "from", "(LDustYard;[J)I"⟩
abbrev cL_likely : ByteArray := method_27_code
def yL_likely : MethodName := ⟨RL, "likely", "(LDustYard;[J)I"⟩
abbrev cL_ask : ByteArray := method_28_code
def yL_ask : MethodName := ⟨RL, "ask", "(LDustYard;[J)I"⟩
abbrev cL_meshes : ByteArray := method_29_code
def yL_meshes : MethodName := ⟨RL, "meshes", "(LDustYard;Z[J)I"⟩
abbrev cL_sift : ByteArray := method_30_code
def yL_sift : MethodName := ⟨RL, "sift", "(LDustYard;[J)I"⟩
abbrev cL_pairs : ByteArray := method_31_code
def yL_pairs : MethodName := ⟨RL, "pairs", "(LDustYard;I[J)I"⟩
abbrev cL_share : ByteArray := method_32_code
def yL_share : MethodName := ⟨RL, "share", "(LDustYard;II[J)I"⟩
abbrev cL_rests : ByteArray := method_33_code
def yL_rests : MethodName := ⟨RL, "rests", "(LDustYard;I[J)I"⟩
abbrev cL_odds : ByteArray := method_34_code
def yL_odds : MethodName := ⟨RL, "odds", "(LDustYard;II[J)I"⟩
abbrev cL_most : ByteArray := method_35_code
def yL_most : MethodName := ⟨RL, "most", "(LDustYard;I[J)I"⟩
abbrev cL_wanted : ByteArray := method_36_code
def yL_wanted : MethodName := ⟨RL, "wanted", "(LDustYard;I[J)I"⟩
abbrev cL_ahead : ByteArray := method_37_code
def yL_ahead : MethodName := ⟨RL, "ahead", "(LDustYard;II[J)I"⟩
abbrev cL_trial : ByteArray := method_38_code
def yL_trial : MethodName := ⟨RL, "trial", "(LDustYard;IZ[J)I"⟩
abbrev cL_span : ByteArray := method_39_code
def yL_span : MethodName := ⟨RL, "span", "(LDustYard;IZ[J)I"⟩
abbrev cL_led : ByteArray := method_40_code
def yL_led : MethodName := ⟨RL, "led", "(LDustYard;IZ[J)I"⟩
abbrev cL_log : ByteArray := method_41_code
def yL_log : MethodName := ⟨RL, "log", "(LDustYard;II[J)I"⟩
abbrev cL_law_ : ByteArray := code
def yL_law_ : MethodName := ⟨RL, "law", "([I)Z"⟩
