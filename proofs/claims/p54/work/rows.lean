section
-- ===== PART A: goes FIRST, ahead of the names: the tables' words, and 'selects' of the private methods out of them =====
/-- a private method of a class that the tables say can be made, by its rows of tables_1 -/
def lw_okq (q : MethodName × Nat) : Prop := (q.1.cls ≠ "java/lang/invoke/MethodHandle" ∧ q.1.cls ≠ "java/lang/invoke/VarHandle") ∧ Cond.instantiable q.1.cls q.2 ∈ tables_1 ∧ Cond.privateMethod q.1 ∈ tables_1 ∧ Cond.instanceMethod q.1 ∈ tables_1
theorem lw_p0 : lw_okq (⟨"HexArbiter$Grid", "edgesOfLine", "(I)I"⟩, 5) := ⟨⟨by decide +kernel, by decide +kernel⟩, List.mem_of_getElem? (i := 38) (by decide +kernel), List.mem_of_getElem? (i := 334) (by decide +kernel), List.mem_of_getElem? (i := 335) (by decide +kernel)⟩
theorem lw_p1 : lw_okq (⟨"HexArbiter$Grid", "listNeighbours", "(I)V"⟩, 5) := ⟨⟨by decide +kernel, by decide +kernel⟩, List.mem_of_getElem? (i := 38) (by decide +kernel), List.mem_of_getElem? (i := 345) (by decide +kernel), List.mem_of_getElem? (i := 346) (by decide +kernel)⟩
theorem lw_p2 : lw_okq (⟨"HexArbiter$Reader", "advance", "()V"⟩, 11) := ⟨⟨by decide +kernel, by decide +kernel⟩, List.mem_of_getElem? (i := 168) (by decide +kernel), List.mem_of_getElem? (i := 732) (by decide +kernel), List.mem_of_getElem? (i := 733) (by decide +kernel)⟩
theorem lw_p3 : lw_okq (⟨"HexArbiter$Reader", "runEnd", "(III)I"⟩, 11) := ⟨⟨by decide +kernel, by decide +kernel⟩, List.mem_of_getElem? (i := 168) (by decide +kernel), List.mem_of_getElem? (i := 736) (by decide +kernel), List.mem_of_getElem? (i := 737) (by decide +kernel)⟩
theorem lw_p4 : lw_okq (⟨"HexArbiter$Reader", "readNumber", "()I"⟩, 11) := ⟨⟨by decide +kernel, by decide +kernel⟩, List.mem_of_getElem? (i := 168) (by decide +kernel), List.mem_of_getElem? (i := 744) (by decide +kernel), List.mem_of_getElem? (i := 745) (by decide +kernel)⟩
theorem lw_p5 : lw_okq (⟨"HexArbiter$Reader", "readBoard", "()V"⟩, 11) := ⟨⟨by decide +kernel, by decide +kernel⟩, List.mem_of_getElem? (i := 168) (by decide +kernel), List.mem_of_getElem? (i := 749) (by decide +kernel), List.mem_of_getElem? (i := 750) (by decide +kernel)⟩
theorem lw_p6 : lw_okq (⟨"HexArbiter$Reader", "isWord", "(Ljava/lang/String;)Z"⟩, 11) := ⟨⟨by decide +kernel, by decide +kernel⟩, List.mem_of_getElem? (i := 168) (by decide +kernel), List.mem_of_getElem? (i := 754) (by decide +kernel), List.mem_of_getElem? (i := 755) (by decide +kernel)⟩
theorem lw_p7 : lw_okq (⟨"HexArbiter$Reader", "fail", "(II)V"⟩, 11) := ⟨⟨by decide +kernel, by decide +kernel⟩, List.mem_of_getElem? (i := 168) (by decide +kernel), List.mem_of_getElem? (i := 760) (by decide +kernel), List.mem_of_getElem? (i := 761) (by decide +kernel)⟩
theorem lw_p8 : lw_okq (⟨"HexArbiter$Reader", "readStatement", "()V"⟩, 11) := ⟨⟨by decide +kernel, by decide +kernel⟩, List.mem_of_getElem? (i := 168) (by decide +kernel), List.mem_of_getElem? (i := 767) (by decide +kernel), List.mem_of_getElem? (i := 768) (by decide +kernel)⟩
theorem lw_p9 : lw_okq (⟨"HexArbiter$Reader", "sideWord", "()I"⟩, 11) := ⟨⟨by decide +kernel, by decide +kernel⟩, List.mem_of_getElem? (i := 168) (by decide +kernel), List.mem_of_getElem? (i := 773) (by decide +kernel), List.mem_of_getElem? (i := 774) (by decide +kernel)⟩
theorem lw_p10 : lw_okq (⟨"HexArbiter$Reader", "readTurn", "()V"⟩, 11) := ⟨⟨by decide +kernel, by decide +kernel⟩, List.mem_of_getElem? (i := 168) (by decide +kernel), List.mem_of_getElem? (i := 779) (by decide +kernel), List.mem_of_getElem? (i := 780) (by decide +kernel)⟩
theorem lw_p11 : lw_okq (⟨"HexArbiter$Reader", "readCell", "(ZI)V"⟩, 11) := ⟨⟨by decide +kernel, by decide +kernel⟩, List.mem_of_getElem? (i := 168) (by decide +kernel), List.mem_of_getElem? (i := 783) (by decide +kernel), List.mem_of_getElem? (i := 784) (by decide +kernel)⟩
theorem lw_p12 : lw_okq (⟨"HexArbiter$Links", "flood", "([II)V"⟩, 6) := ⟨⟨by decide +kernel, by decide +kernel⟩, List.mem_of_getElem? (i := 68) (by decide +kernel), List.mem_of_getElem? (i := 797) (by decide +kernel), List.mem_of_getElem? (i := 798) (by decide +kernel)⟩
theorem lw_p13 : lw_okq (⟨"HexArbiter$Reader", "readColumn", "(Z)I"⟩, 11) := ⟨⟨by decide +kernel, by decide +kernel⟩, List.mem_of_getElem? (i := 168) (by decide +kernel), List.mem_of_getElem? (i := 820) (by decide +kernel), List.mem_of_getElem? (i := 821) (by decide +kernel)⟩
theorem lw_p14 : lw_okq (⟨"HexArbiter$Reader", "readRow", "()I"⟩, 11) := ⟨⟨by decide +kernel, by decide +kernel⟩, List.mem_of_getElem? (i := 168) (by decide +kernel), List.mem_of_getElem? (i := 824) (by decide +kernel), List.mem_of_getElem? (i := 825) (by decide +kernel)⟩
theorem lw_p15 : lw_okq (⟨"HexArbiter", "winner", "()I"⟩, 16) := ⟨⟨by decide +kernel, by decide +kernel⟩, List.mem_of_getElem? (i := 30) (by decide +kernel), List.mem_of_getElem? (i := 867) (by decide +kernel), List.mem_of_getElem? (i := 868) (by decide +kernel)⟩
def lw_privs_1 : List (MethodName × Nat) := [(⟨"HexArbiter$Grid", "edgesOfLine", "(I)I"⟩, 5), (⟨"HexArbiter$Grid", "listNeighbours", "(I)V"⟩, 5), (⟨"HexArbiter$Reader", "advance", "()V"⟩, 11), (⟨"HexArbiter$Reader", "runEnd", "(III)I"⟩, 11), (⟨"HexArbiter$Reader", "readNumber", "()I"⟩, 11), (⟨"HexArbiter$Reader", "readBoard", "()V"⟩, 11), (⟨"HexArbiter$Reader", "isWord", "(Ljava/lang/String;)Z"⟩, 11), (⟨"HexArbiter$Reader", "fail", "(II)V"⟩, 11), (⟨"HexArbiter$Reader", "readStatement", "()V"⟩, 11), (⟨"HexArbiter$Reader", "sideWord", "()I"⟩, 11), (⟨"HexArbiter$Reader", "readTurn", "()V"⟩, 11), (⟨"HexArbiter$Reader", "readCell", "(ZI)V"⟩, 11), (⟨"HexArbiter$Links", "flood", "([II)V"⟩, 6), (⟨"HexArbiter$Reader", "readColumn", "(Z)I"⟩, 11), (⟨"HexArbiter$Reader", "readRow", "()I"⟩, 11), (⟨"HexArbiter", "winner", "()I"⟩, 16)]
theorem lw_r1 : ∀ q ∈ lw_privs_1, lw_okq q := List.forall_mem_cons.mpr ⟨lw_p0, List.forall_mem_cons.mpr ⟨lw_p1, List.forall_mem_cons.mpr ⟨lw_p2, List.forall_mem_cons.mpr ⟨lw_p3, List.forall_mem_cons.mpr ⟨lw_p4, List.forall_mem_cons.mpr ⟨lw_p5, List.forall_mem_cons.mpr ⟨lw_p6, List.forall_mem_cons.mpr ⟨lw_p7, List.forall_mem_cons.mpr ⟨lw_p8, List.forall_mem_cons.mpr ⟨lw_p9, List.forall_mem_cons.mpr ⟨lw_p10, List.forall_mem_cons.mpr ⟨lw_p11, List.forall_mem_cons.mpr ⟨lw_p12, List.forall_mem_cons.mpr ⟨lw_p13, List.forall_mem_cons.mpr ⟨lw_p14, List.forall_mem_cons.mpr ⟨lw_p15, fun _ h => absurd h List.not_mem_nil⟩⟩⟩⟩⟩⟩⟩⟩⟩⟩⟩⟩⟩⟩⟩⟩
theorem lw_p16 : lw_okq (⟨"HexArbiter", "canSwap", "()Z"⟩, 16) := ⟨⟨by decide +kernel, by decide +kernel⟩, List.mem_of_getElem? (i := 30) (by decide +kernel), List.mem_of_getElem? (i := 872) (by decide +kernel), List.mem_of_getElem? (i := 873) (by decide +kernel)⟩
theorem lw_p17 : lw_okq (⟨"java/lang/Throwable", "fillInStackTrace", "(I)Ljava/lang/Throwable;"⟩, 6) := ⟨⟨by decide +kernel, by decide +kernel⟩, List.mem_of_getElem? (i := 919) (by decide +kernel), List.mem_of_getElem? (i := 917) (by decide +kernel), List.mem_of_getElem? (i := 918) (by decide +kernel)⟩
theorem lw_p18 : lw_okq (⟨"HexArbiter", "requireCell", "(I)V"⟩, 16) := ⟨⟨by decide +kernel, by decide +kernel⟩, List.mem_of_getElem? (i := 30) (by decide +kernel), List.mem_of_getElem? (i := 952) (by decide +kernel), List.mem_of_getElem? (i := 953) (by decide +kernel)⟩
theorem lw_p19 : lw_okq (⟨"HexArbiter$History", "latest", "(I)LHexArbiter$Position;"⟩, 3) := ⟨⟨by decide +kernel, by decide +kernel⟩, List.mem_of_getElem? (i := 130) (by decide +kernel), List.mem_of_getElem? (i := 976) (by decide +kernel), List.mem_of_getElem? (i := 977) (by decide +kernel)⟩
theorem lw_p20 : lw_okq (⟨"HexArbiter", "makeForced", "(I)I"⟩, 16) := ⟨⟨by decide +kernel, by decide +kernel⟩, List.mem_of_getElem? (i := 30) (by decide +kernel), List.mem_of_getElem? (i := 1024) (by decide +kernel), List.mem_of_getElem? (i := 1025) (by decide +kernel)⟩
theorem lw_p21 : lw_okq (⟨"HexArbiter", "forcedCell", "()I"⟩, 16) := ⟨⟨by decide +kernel, by decide +kernel⟩, List.mem_of_getElem? (i := 30) (by decide +kernel), List.mem_of_getElem? (i := 1028) (by decide +kernel), List.mem_of_getElem? (i := 1029) (by decide +kernel)⟩
theorem lw_p22 : lw_okq (⟨"HexArbiter", "findThreat", "(II)I"⟩, 16) := ⟨⟨by decide +kernel, by decide +kernel⟩, List.mem_of_getElem? (i := 30) (by decide +kernel), List.mem_of_getElem? (i := 1032) (by decide +kernel), List.mem_of_getElem? (i := 1033) (by decide +kernel)⟩
theorem lw_p23 : lw_okq (⟨"HexArbiter", "countThreats", "(I)I"⟩, 16) := ⟨⟨by decide +kernel, by decide +kernel⟩, List.mem_of_getElem? (i := 30) (by decide +kernel), List.mem_of_getElem? (i := 1042) (by decide +kernel), List.mem_of_getElem? (i := 1043) (by decide +kernel)⟩
theorem lw_p24 : lw_okq (⟨"HexArbiter", "answerToLatestMove", "(I)I"⟩, 16) := ⟨⟨by decide +kernel, by decide +kernel⟩, List.mem_of_getElem? (i := 30) (by decide +kernel), List.mem_of_getElem? (i := 1046) (by decide +kernel), List.mem_of_getElem? (i := 1047) (by decide +kernel)⟩
theorem lw_p25 : lw_okq (⟨"HexArbiter$BridgeList", "addToCell", "([III)V"⟩, 8) := ⟨⟨by decide +kernel, by decide +kernel⟩, List.mem_of_getElem? (i := 212) (by decide +kernel), List.mem_of_getElem? (i := 1058) (by decide +kernel), List.mem_of_getElem? (i := 1059) (by decide +kernel)⟩
theorem lw_p26 : lw_okq (⟨"HexArbiter$BridgeList", "addIfFree", "([IIIII)V"⟩, 8) := ⟨⟨by decide +kernel, by decide +kernel⟩, List.mem_of_getElem? (i := 212) (by decide +kernel), List.mem_of_getElem? (i := 1075) (by decide +kernel), List.mem_of_getElem? (i := 1076) (by decide +kernel)⟩
theorem lw_p27 : lw_okq (⟨"HexArbiter$BridgeList", "addToEdge", "([III)V"⟩, 8) := ⟨⟨by decide +kernel, by decide +kernel⟩, List.mem_of_getElem? (i := 212) (by decide +kernel), List.mem_of_getElem? (i := 1079) (by decide +kernel), List.mem_of_getElem? (i := 1080) (by decide +kernel)⟩
theorem lw_p28 : lw_okq (⟨"HexArbiter$Endgame", "all", "()I"⟩, 6) := ⟨⟨by decide +kernel, by decide +kernel⟩, List.mem_of_getElem? (i := 282) (by decide +kernel), List.mem_of_getElem? (i := 1142) (by decide +kernel), List.mem_of_getElem? (i := 1143) (by decide +kernel)⟩
theorem lw_p29 : lw_okq (⟨"HexArbiter$Endgame", "best", "(IIII)I"⟩, 6) := ⟨⟨by decide +kernel, by decide +kernel⟩, List.mem_of_getElem? (i := 282) (by decide +kernel), List.mem_of_getElem? (i := 1146) (by decide +kernel), List.mem_of_getElem? (i := 1147) (by decide +kernel)⟩
theorem lw_p30 : lw_okq (⟨"HexArbiter$Endgame", "owner", "(I)I"⟩, 6) := ⟨⟨by decide +kernel, by decide +kernel⟩, List.mem_of_getElem? (i := 282) (by decide +kernel), List.mem_of_getElem? (i := 1150) (by decide +kernel), List.mem_of_getElem? (i := 1151) (by decide +kernel)⟩
theorem lw_p31 : lw_okq (⟨"HexArbiter$Endgame", "isGood", "(II)Z"⟩, 6) := ⟨⟨by decide +kernel, by decide +kernel⟩, List.mem_of_getElem? (i := 282) (by decide +kernel), List.mem_of_getElem? (i := 1165) (by decide +kernel), List.mem_of_getElem? (i := 1166) (by decide +kernel)⟩
def lw_privs_2 : List (MethodName × Nat) := [(⟨"HexArbiter", "canSwap", "()Z"⟩, 16), (⟨"java/lang/Throwable", "fillInStackTrace", "(I)Ljava/lang/Throwable;"⟩, 6), (⟨"HexArbiter", "requireCell", "(I)V"⟩, 16), (⟨"HexArbiter$History", "latest", "(I)LHexArbiter$Position;"⟩, 3), (⟨"HexArbiter", "makeForced", "(I)I"⟩, 16), (⟨"HexArbiter", "forcedCell", "()I"⟩, 16), (⟨"HexArbiter", "findThreat", "(II)I"⟩, 16), (⟨"HexArbiter", "countThreats", "(I)I"⟩, 16), (⟨"HexArbiter", "answerToLatestMove", "(I)I"⟩, 16), (⟨"HexArbiter$BridgeList", "addToCell", "([III)V"⟩, 8), (⟨"HexArbiter$BridgeList", "addIfFree", "([IIIII)V"⟩, 8), (⟨"HexArbiter$BridgeList", "addToEdge", "([III)V"⟩, 8), (⟨"HexArbiter$Endgame", "all", "()I"⟩, 6), (⟨"HexArbiter$Endgame", "best", "(IIII)I"⟩, 6), (⟨"HexArbiter$Endgame", "owner", "(I)I"⟩, 6), (⟨"HexArbiter$Endgame", "isGood", "(II)Z"⟩, 6)]
theorem lw_r2 : ∀ q ∈ lw_privs_2, lw_okq q := List.forall_mem_cons.mpr ⟨lw_p16, List.forall_mem_cons.mpr ⟨lw_p17, List.forall_mem_cons.mpr ⟨lw_p18, List.forall_mem_cons.mpr ⟨lw_p19, List.forall_mem_cons.mpr ⟨lw_p20, List.forall_mem_cons.mpr ⟨lw_p21, List.forall_mem_cons.mpr ⟨lw_p22, List.forall_mem_cons.mpr ⟨lw_p23, List.forall_mem_cons.mpr ⟨lw_p24, List.forall_mem_cons.mpr ⟨lw_p25, List.forall_mem_cons.mpr ⟨lw_p26, List.forall_mem_cons.mpr ⟨lw_p27, List.forall_mem_cons.mpr ⟨lw_p28, List.forall_mem_cons.mpr ⟨lw_p29, List.forall_mem_cons.mpr ⟨lw_p30, List.forall_mem_cons.mpr ⟨lw_p31, fun _ h => absurd h List.not_mem_nil⟩⟩⟩⟩⟩⟩⟩⟩⟩⟩⟩⟩⟩⟩⟩⟩
theorem lw_p32 : lw_okq (⟨"HexArbiter$Filling", "nextStone", "()I"⟩, 4) := ⟨⟨by decide +kernel, by decide +kernel⟩, List.mem_of_getElem? (i := 307) (by decide +kernel), List.mem_of_getElem? (i := 1191) (by decide +kernel), List.mem_of_getElem? (i := 1192) (by decide +kernel)⟩
theorem lw_p33 : lw_okq (⟨"HexArbiter", "liberties", "(I)I"⟩, 16) := ⟨⟨by decide +kernel, by decide +kernel⟩, List.mem_of_getElem? (i := 30) (by decide +kernel), List.mem_of_getElem? (i := 1238) (by decide +kernel), List.mem_of_getElem? (i := 1239) (by decide +kernel)⟩
theorem lw_p34 : lw_okq (⟨"HexArbiter", "gatherChains", "(I)V"⟩, 16) := ⟨⟨by decide +kernel, by decide +kernel⟩, List.mem_of_getElem? (i := 30) (by decide +kernel), List.mem_of_getElem? (i := 1254) (by decide +kernel), List.mem_of_getElem? (i := 1255) (by decide +kernel)⟩
theorem lw_p35 : lw_okq (⟨"HexArbiter", "pathsOf", "(I)LHexArbiter$Paths;"⟩, 16) := ⟨⟨by decide +kernel, by decide +kernel⟩, List.mem_of_getElem? (i := 30) (by decide +kernel), List.mem_of_getElem? (i := 1310) (by decide +kernel), List.mem_of_getElem? (i := 1311) (by decide +kernel)⟩
theorem lw_p36 : lw_okq (⟨"HexArbiter$Paths", "spread", "([III)V"⟩, 4) := ⟨⟨by decide +kernel, by decide +kernel⟩, List.mem_of_getElem? (i := 244) (by decide +kernel), List.mem_of_getElem? (i := 1320) (by decide +kernel), List.mem_of_getElem? (i := 1321) (by decide +kernel)⟩
theorem lw_p37 : lw_okq (⟨"HexArbiter$Paths", "lower", "([II)Z"⟩, 4) := ⟨⟨by decide +kernel, by decide +kernel⟩, List.mem_of_getElem? (i := 244) (by decide +kernel), List.mem_of_getElem? (i := 1325) (by decide +kernel), List.mem_of_getElem? (i := 1326) (by decide +kernel)⟩
theorem lw_p38 : lw_okq (⟨"HexArbiter$Flow", "sweep", "()Z"⟩, 4) := ⟨⟨by decide +kernel, by decide +kernel⟩, List.mem_of_getElem? (i := 263) (by decide +kernel), List.mem_of_getElem? (i := 1390) (by decide +kernel), List.mem_of_getElem? (i := 1391) (by decide +kernel)⟩
theorem lw_p39 : lw_okq (⟨"HexArbiter$Flow", "nextLevel", "(I)I"⟩, 4) := ⟨⟨by decide +kernel, by decide +kernel⟩, List.mem_of_getElem? (i := 263) (by decide +kernel), List.mem_of_getElem? (i := 1394) (by decide +kernel), List.mem_of_getElem? (i := 1395) (by decide +kernel)⟩
theorem lw_p40 : lw_okq (⟨"HexArbiter$Flow", "amount", "()I"⟩, 4) := ⟨⟨by decide +kernel, by decide +kernel⟩, List.mem_of_getElem? (i := 263) (by decide +kernel), List.mem_of_getElem? (i := 1401) (by decide +kernel), List.mem_of_getElem? (i := 1402) (by decide +kernel)⟩
def lw_privs_3 : List (MethodName × Nat) := [(⟨"HexArbiter$Filling", "nextStone", "()I"⟩, 4), (⟨"HexArbiter", "liberties", "(I)I"⟩, 16), (⟨"HexArbiter", "gatherChains", "(I)V"⟩, 16), (⟨"HexArbiter", "pathsOf", "(I)LHexArbiter$Paths;"⟩, 16), (⟨"HexArbiter$Paths", "spread", "([III)V"⟩, 4), (⟨"HexArbiter$Paths", "lower", "([II)Z"⟩, 4), (⟨"HexArbiter$Flow", "sweep", "()Z"⟩, 4), (⟨"HexArbiter$Flow", "nextLevel", "(I)I"⟩, 4), (⟨"HexArbiter$Flow", "amount", "()I"⟩, 4)]
theorem lw_r3 : ∀ q ∈ lw_privs_3, lw_okq q := List.forall_mem_cons.mpr ⟨lw_p32, List.forall_mem_cons.mpr ⟨lw_p33, List.forall_mem_cons.mpr ⟨lw_p34, List.forall_mem_cons.mpr ⟨lw_p35, List.forall_mem_cons.mpr ⟨lw_p36, List.forall_mem_cons.mpr ⟨lw_p37, List.forall_mem_cons.mpr ⟨lw_p38, List.forall_mem_cons.mpr ⟨lw_p39, List.forall_mem_cons.mpr ⟨lw_p40, fun _ h => absurd h List.not_mem_nil⟩⟩⟩⟩⟩⟩⟩⟩⟩
def lw_privs : List (MethodName × Nat) := lw_privs_1 ++ (lw_privs_2 ++ (lw_privs_3))
def lw_tbl : List Cond := k2_sels lw_privs ++ tables_1
theorem lw_privs_ok : ∀ q ∈ lw_privs, lw_okq q := by
  show ∀ q ∈ lw_privs_1 ++ (lw_privs_2 ++ (lw_privs_3)), lw_okq q
  exact List.forall_mem_append.mpr ⟨lw_r1, List.forall_mem_append.mpr ⟨lw_r2, lw_r3⟩⟩
end
section
/-! ===== BEGIN words of one list among another's, by their places ===== -/
theorem goodIn_r {big : List Cond} (ws : List Cond) (ps : List Nat) (hp : ws = ps.filterMap (fun i => big[i]?)) (h : ws.all goodWord = true) : GoodIn big ws := by
  intro w hw
  have h1 := List.all_eq_true.mp h w hw
  rw [hp] at hw
  obtain ⟨i, -, hi⟩ := List.mem_filterMap.mp hw
  have hm : w ∈ big := by first | exact List.mem_of_getElem? hi | exact List.getElem?_mem hi
  exact ⟨hm, good_of_word h1⟩
theorem goodIn_app {big a b : List Cond} (ha : GoodIn big a) (hb : GoodIn big b) : GoodIn big (a ++ b) := fun w h => (List.mem_append.mp h).elim (ha w) (hb w)
theorem goodIn_ca {big a b : List Cond} {c : Cond} (ha : GoodIn big (c :: a)) (hb : GoodIn big b) : GoodIn big (c :: (a ++ b)) := fun w h => (List.mem_cons.mp h).elim (fun e => ha w (List.mem_cons.mpr (Or.inl e))) (fun h => (List.mem_append.mp h).elim (fun h => ha w (List.mem_cons.mpr (Or.inr h))) (hb w))
theorem goodIn_sub {big ws : List Cond} (hm : ∀ w ∈ ws, w ∈ big) (h : ws.all goodWord = true) : GoodIn big ws := fun w hw => ⟨hm w hw, good_of_word (List.all_eq_true.mp h w hw)⟩
/-! ===== END ===== -/
/-! ===== BEGIN exceptions that leave a method, and their catching by the caller (launches without stack traces) ===== -/
section VXA
/-! The laws vx_back, vx_callV, vx_callS, vx_callSW, vx_throw0, vx_throwS follow proofs of the library, with one case more: JvmDerived/Free/Laws.lean (Back.of_free), Shelf42/LK1.lean (callV, callS), Shelf/KitTraced.lean (throwNew0V, throwNewS). -/
/-- where a method has thrown q: the class by its name, the cell, what was written, the world -/
def vx_T (XC : String → State → State → Prop) (st : State) (q : Addr) (t : State) (mc ms : Nat) (free : Addr → Prop) : Prop :=
  ∃ (E : String) (ce : Cell) (L : List Loc), XC E st t ∧ t.heap[q]? = some ce ∧ ce.vm = .none ∧ st.vm.findClass E = some ce.cls ∧ st.WarmedH t.vm ∧ st.sameButNew ({ t with vm := st.vm } : State) L mc ms ∧ ∀ z ∈ L, free z.base
def vx_Q (Qc : Array Value → State → Outcome → State → Prop) (XC : String → State → State → Prop) (mc ms : Nat) (free : Addr → Prop) : Array Value → State → Outcome → State → Prop := fun a st o t =>
  (Qc a st o t ∧ ∃ L, FrameEnd st o t L mc ms ∧ ∀ q ∈ L, free q.base) ∨ ∃ q, o = .threw q ∧ vx_T XC st q t mc ms free
/-- a callee that returns or throws -/
def vx_Met (l : Launch) (y : MethodName) (ws : List Cond) (rm : Room) (Pc : Array Value → State → Prop) (Qc : Array Value → State → Outcome → State → Prop) (XC : String → State → State → Prop) (mc ms : Nat) (free : Addr → Prop) : Prop :=
  MetFree l y (headSpec ws rm) Pc (fun _ _ _ _ _ => True) (vx_Q Qc XC mc ms free)
def vx_Post (XC : String → State → State → Prop) (mc ms : Nat) (free : Addr → Prop) : Pt → Array Value → Addr → Pt → Prop := fun A a q B =>
  ∃ (g : JFrame) (mk : MethodId) (t : State) (L : List Loc) (E : String) (ce : Cell), B.U.heap = t.heap ∧ B.U.vm = t.vm ∧ XC E (A.U.calling g mk a) t ∧ t.heap[q]? = some ce ∧ ce.vm = .none ∧ A.U.vm.findClass E = some ce.cls ∧ B.locs = A.locs ++ L ∧ (∀ z ∈ L, free z.base) ∧ B.cells = A.cells + mc ∧ B.slots = A.slots + ms
def vx_Back (l : Launch) (R : Room) (p : Program) (e : Env) (below : List Frame) (s : State) (sargs : Array Value) (y : MethodName) (len W9 : Nat)
    (Pre : Pt → Array Value → Prop) (Post : Pt → Array Value → Option Value → Pt → Prop) (PostX : Pt → Array Value → Addr → Pt → Prop) : Prop :=
  ∀ (m : MethodId) (meth : Method) (c : Code) (A : Pt) (g : JFrame) (ig : Instr) (mk : MethodId) (a : Array Value),
    Stand p l e R s m sargs below meth c A.U A.locs A.cells A.slots → g.method = m → g.locals.size = c.maxLocals → decode c.code g.pc = .ok (ig, len) →
    2 * g.monitorRoom + (g.stack.map fun v => v.category).sum ≤ W9 → A.U.methodNamed? y = some mk → Pre A a →
    (∃ (v : Option Value) (B : Pt), Stand p l e R s m sargs below meth c B.U B.locs B.cells B.slots ∧ Post A a v B ∧
      Steps p.tables e below (doInvoke e (A.U.setTop g) [] mk a).1 (B.U.setTop { g with pc := g.pc + len, stack := v.toList ++ g.stack })) ∨
    (∃ (q : Addr) (B : Pt), Stand p l e R s m sargs below meth c B.U B.locs B.cells B.slots ∧ PostX A a q B ∧
      Steps p.tables e below (doInvoke e (A.U.setTop g) [] mk a).1 ((B.U.setTop g).pushFrame (.throwing q)))
section Payer
variable {l : Launch} {R : Room} {p : Program} {e : Env} {below : List Frame} {s : State} {sargs : Array Value} {y : MethodName} {len W9 : Nat}
theorem vx_back {ws : List Cond} {rm : Room} {Pc : Array Value → State → Prop} {Qc : Array Value → State → Outcome → State → Prop} {XC : String → State → State → Prop} {mc ms : Nat} {free : Addr → Prop} {bytes : ByteArray} {maxL : Nat} {ret : Option FieldType}
    (hM : vx_Met l y ws rm Pc Qc XC mc ms free) (hblind : FrameBlind Pc) (hrc : rm.cells = mc) (hrs : rm.slots = ms)
    (hframes : rm.frames + 1 ≤ R.frames) (hlocals : W9 + (maxL + 11) + rm.locals ≤ R.locals)
    (hws : ∀ w ∈ ws, ∀ a' U, s.WarmedH U.vm → w.before a' U = true) (hcode : Cond.code y bytes maxL ret ∈ ws) (hinit : ∀ a' U, s.WarmedH U.vm → (Cond.initialized y.cls).before a' U = true) :
    vx_Back l R p e below s sargs y len W9 (PreOf R mc ms Pc) (PostOf Qc mc ms free) (vx_Post XC mc ms free) := by
  intro m meth c A g ig mk a X hg hsize hdg hW hn hp
  have h1 : (headSpec ws rm).pre.before a A.U = true := atoms_intro fun w hw => hws w hw _ _ X.warmed
  have h2 : (Cond.code y bytes maxL ret).before a A.U = true := hws _ hcode _ _ X.warmed
  have h3 : (Cond.initialized y.cls).before a A.U = true := hinit _ _ X.warmed
  have h4 : A.cells + (headSpec ws rm).room.cells ≤ R.cells := by rw [show (headSpec ws rm).room.cells = mc from hrc]; exact hp.1
  have h5 : A.slots + (headSpec ws rm).room.slots ≤ R.slots := by rw [show (headSpec ws rm).room.slots = ms from hrs]; exact hp.2.1
  have hPc : Pc a (A.U.calling g mk a) := hblind _ _ _ _ hp.2.2
  obtain ⟨U, Ls, c0, s0⟩ := A
  dsimp only [Pt.U, Pt.locs, Pt.cells, Pt.slots] at h1 h2 h3 h4 h5 X hn hPc ⊢
  obtain ⟨methY, cY, hmY, hcY, -, hlY, -, -, -, -⟩ := Cond.code_spec hn h2
  obtain ⟨kY, hkY, -⟩ := className_of_methodNamed hn
  have hinitY : kY.init = .initialized := Cond.initialized_spec (findClass_of_methodNamed hn) hkY h3
  have h : At U g.method c below := by rw [hg]; exact X.here
  have hlocals9 : W9 + (maxL + 11) + (headSpec ws rm).room.locals ≤ R.locals := hlocals
  have happ : (headSpec ws rm).appliesLoose y e.platform (U.calling g mk a) = true :=
    Spec.appliesLoose_calling (g := g) h hdg hn hkY hinitY
      (X.room_calling (g := g) (R' := (headSpec ws rm).room) hsize hmY hcY hframes (by rw [hlY]; omega) h4 h5) h1
  obtain ⟨mid, hmid⟩ := h.above
  have hfr : (U.setTop g).frames = (.java g :: mid) ++ below := by rw [State.frames_setTop' g h.top, hmid]; rfl
  obtain ⟨o, s₂, hsteps, -, hend, hq⟩ := Steps.callFree hM p X.admits X.cas X.clock (acts := []) hfr happ hPc trivial
  have hq' : vx_Q Qc XC mc ms free a (U.calling g mk a) o s₂ := hq
  rw [State.frames_setTop' g h.top] at hend
  obtain ⟨g₀, hg0⟩ := Option.isSome_iff_exists.mp h.top
  obtain ⟨r, hr⟩ := State.topJava?_eq_some.mp hg0
  have hr' : (({ U with heap := s₂.heap, slotsUsed := s₂.slotsUsed } : State).setVm s₂.vm).frames = .java g₀ :: r := hr
  rcases hq' with ⟨hqc, L, hfe, hL⟩ | ⟨q, rfl, E, ce, L, hx, hce, hcv, hcl, hW₂, hsm, hL⟩
  · obtain ⟨⟨v, rfl⟩, hW₂, e2, q2, q3, q4, q5, q6⟩ := id hfe
    have e3 : s₂ = ({ (U.calling g mk a).setFrames s₂.frames with heap := s₂.heap, slotsUsed := s₂.slotsUsed } : State).setVm s₂.vm := by
      have : s₂ = ({ s₂ with vm := (U.calling g mk a).vm } : State).setVm s₂.vm := rfl
      rw [e2] at this
      exact this
    obtain ⟨c₂, i₂, len₂, hc₂, hd₂, hf₂⟩ := hend
    have hW' : U.WarmedH s₂.vm := hW₂
    have hcc : c₂ = c := by
      have h1 : s₂.code? g.method = U.code? g.method := by
        rw [State.code?_eq, State.code?_eq, hW'.alike.method?]
      exact Option.some.inj (hc₂.symm.trans (h1.trans h.code))
    subst hcc
    have hlen : len₂ = len := by rw [hdg] at hd₂; cases hd₂; rfl
    subst hlen
    have hs₂ : s₂ = (({ U with heap := s₂.heap, slotsUsed := s₂.slotsUsed } : State).setVm s₂.vm).setTop { g with pc := g.pc + len₂, stack := v.toList ++ g.stack } := by
      refine e3.trans ?_
      rw [hf₂, State.calling_eq h.top, State.setFrames_setFrames, State.setTop_of_frames _ hr', hr]
      rfl
    have hsame : U.sameButNew ({ U with heap := s₂.heap, slotsUsed := s₂.slotsUsed } : State) L mc ms := by
      refine ⟨?_, q2, q3, q4, q5, q6⟩
      obtain ⟨t, ht, -⟩ := State.frames_cons hr
      show ({ U with heap := s₂.heap, slotsUsed := s₂.slotsUsed } : State) = { U.setFrames U.frames with heap := s₂.heap, slotsUsed := s₂.slotsUsed }
      rw [State.setFrames_self ht]
    subst hg
    refine Or.inl ⟨v, ⟨(({ U with heap := s₂.heap, slotsUsed := s₂.slotsUsed } : State).setVm s₂.vm), Ls ++ L, c0 + mc, s0 + ms⟩,
      ⟨X.admits, X.cas, X.clock, X.frames, X.room, X.hears, X.method, X.code, (X.here.setHeapUsed s₂.heap s₂.slotsUsed).setVm hW'.alike, X.tail, State.WarmedH.trans X.warmed hW', X.limits, X.bytes, X.same.trans (hsame.setVm s.vm)⟩,
      ⟨g, mk, s₂, L, rfl, rfl, hqc, rfl, hL, rfl, rfl⟩, ?_⟩
    show Steps p.tables e below _ ((({ U with heap := s₂.heap, slotsUsed := s₂.slotsUsed } : State).setVm s₂.vm).setTop { g with pc := g.pc + len₂, stack := v.toList ++ g.stack })
    rw [← hs₂]
    exact hsteps
  · obtain ⟨e2, q2, q3, q4, q5, q6⟩ := id hsm
    have e3 : s₂ = ({ (U.calling g mk a).setFrames s₂.frames with heap := s₂.heap, slotsUsed := s₂.slotsUsed } : State).setVm s₂.vm := by
      have : s₂ = ({ s₂ with vm := (U.calling g mk a).vm } : State).setVm s₂.vm := rfl
      rw [e2] at this
      exact this
    have hf₂ : s₂.frames = .throwing q :: .java g :: U.frames.tail := hend
    have hW' : U.WarmedH s₂.vm := hW₂
    have hs₂ : s₂ = ((({ U with heap := s₂.heap, slotsUsed := s₂.slotsUsed } : State).setVm s₂.vm).setTop g).pushFrame (.throwing q) := by
      refine e3.trans ?_
      rw [hf₂, State.calling_eq h.top, State.setFrames_setFrames, State.pushFrame, State.frames_setTop _ hr', State.setTop_of_frames _ hr', State.setFrames_setFrames, hr]
      rfl
    have hsame : U.sameButNew ({ U with heap := s₂.heap, slotsUsed := s₂.slotsUsed } : State) L mc ms := by
      refine ⟨?_, q2, q3, q4, q5, q6⟩
      obtain ⟨t, ht, -⟩ := State.frames_cons hr
      show ({ U with heap := s₂.heap, slotsUsed := s₂.slotsUsed } : State) = { U.setFrames U.frames with heap := s₂.heap, slotsUsed := s₂.slotsUsed }
      rw [State.setFrames_self ht]
    subst hg
    refine Or.inr ⟨q, ⟨(({ U with heap := s₂.heap, slotsUsed := s₂.slotsUsed } : State).setVm s₂.vm), Ls ++ L, c0 + mc, s0 + ms⟩,
      ⟨X.admits, X.cas, X.clock, X.frames, X.room, X.hears, X.method, X.code, (X.here.setHeapUsed s₂.heap s₂.slotsUsed).setVm hW'.alike, X.tail, State.WarmedH.trans X.warmed hW', X.limits, X.bytes, X.same.trans (hsame.setVm s.vm)⟩,
      ⟨g, mk, s₂, L, E, ce, rfl, rfl, hx, hce, hcv, hcl, rfl, hL, rfl, rfl⟩, ?_⟩
    show Steps p.tables e below _ (((({ U with heap := s₂.heap, slotsUsed := s₂.slotsUsed } : State).setVm s₂.vm).setTop g).pushFrame (.throwing q))
    rw [← hs₂]
    exact hsteps
end Payer
section Calls
variable {p : Program} {l : Launch} {e : Env} {R : Room} {s : State} {m : MethodId} {args : Array Value} {below : List Frame} {meth : Method} {c : Code} {T : State} {locs : List Loc} {cells slots : Nat}
theorem vx_callV (X : Stand p l e R s m args below meth c T locs cells slots) (hexec : p.tables.exec = Jvm.exec) {own C : String} {index : Nat} {y : MethodName} {bytes : ByteArray} {maxL : Nat} {ret : Option FieldType}
    (hown : s.vm.findClass own = some m.cls) (hlink : (Cond.methodLink own index y).before args s = true) (hinst : (Cond.instanceMethod y).before args s = true) (hsel : (Cond.selects C y y).before args s = true)
    (hcode : (Cond.code y bytes maxL ret).before args s = true) (hy : y.cls ≠ "java/lang/invoke/MethodHandle" ∧ y.cls ≠ "java/lang/invoke/VarHandle")
    {W9 : Nat} {Pre : Pt → Array Value → Prop} {Post : Pt → Array Value → Option Value → Pt → Prop} {PostX : Pt → Array Value → Addr → Pt → Prop} (hK : vx_Back l R p e below s args y 3 W9 Pre Post PostX)
    {b : Addr} {cellB : Cell} (hcell : T.heap[b]? = some cellB) (hobj : cellB.vm.isStatics = false) (hcls : s.vm.findClass C = some cellB.cls)
    {g : JFrame} (hg : g.method = m) (hsize : g.locals.size = c.maxLocals) {argsL rest : List Value} (hlen : ∀ sig, parseMethodDescriptor y.desc = some sig → argsL.length = sig.parameters.length)
    (hstack : g.stack = argsL.reverse ++ .ref b :: rest) (hW : 2 * g.monitorRoom + (rest.map fun v => v.category).sum ≤ W9) (hdg : decode c.code g.pc = .ok (.invokevirtual index, 3))
    (hpre : ∀ vm₁, s.WarmedH vm₁ → Pre ⟨T.setVm vm₁, locs, cells, slots⟩ (Value.ref b :: argsL).toArray) :
    (∃ (v : Option Value) (vm₁ : Vm) (B : Pt), s.WarmedH vm₁ ∧ Stand p l e R s m args below meth c B.U B.locs B.cells B.slots ∧ Post ⟨T.setVm vm₁, locs, cells, slots⟩ (Value.ref b :: argsL).toArray v B ∧
      ∀ target, Steps p.tables e below (B.U.setTop { g with pc := g.pc + 3, stack := v.toList ++ rest }) target → Steps p.tables e below (T.setTop g) target) ∨
    (∃ (q : Addr) (vm₁ : Vm) (B : Pt), s.WarmedH vm₁ ∧ Stand p l e R s m args below meth c B.U B.locs B.cells B.slots ∧ PostX ⟨T.setVm vm₁, locs, cells, slots⟩ (Value.ref b :: argsL).toArray q B ∧
      Steps p.tables e below (T.setTop g) ((B.U.setTop { g with stack := rest }).pushFrame (.throwing q))) := by
  obtain ⟨mk, methM, hnamed, hmethM, hstM, habM⟩ := Cond.instanceMethod_spec hinst
  obtain ⟨methM', cM, hmethM', -, -, -, -, -, -, hsigM⟩ := Cond.code_spec hnamed hcode
  cases hmethM.symm.trans hmethM'
  obtain ⟨c2, r2, m2, q1, q2, q3, q4, kP, hkP, hkPi⟩ := Cond.selects_spec hsel
  cases hcls.symm.trans q1
  cases (State.methodFound?_of_named hnamed hy).symm.trans q2
  cases hnamed.symm.trans q3
  have hselP : selectMethod e.platform s.vm cellB.cls mk = .method mk := by rw [Launch.admits_selectMethod X.admits]; exact q4
  obtain ⟨vm₁, X₁, hstep₁⟩ := X.invokevirtual hexec hown hlink hnamed hmethM hstM hkP hkPi hy (a := b) (cell := cellB) hcell
    (fun z h => by rw [h] at hobj; cases hobj) hselP hmethM habM hkP hkPi (g := g) hg (argsL := argsL) (rest := rest) (hlen _ hsigM) hstack hdg
  rcases hK m meth c ⟨T.setVm vm₁, locs, cells, slots⟩ { g with stack := rest } (.invokevirtual index) mk (Value.ref b :: argsL).toArray X₁ hg hsize hdg hW (X₁.named hnamed) (hpre vm₁ X₁.warmed) with ⟨v, B, X', hpost, hsteps⟩ | ⟨q, B, X', hpost, hsteps⟩
  · exact Or.inl ⟨v, vm₁, B, X₁.warmed, X', hpost, fun target h => hstep₁ _ fun acts => by rw [doInvoke_state]; exact hsteps.trans h⟩
  · exact Or.inr ⟨q, vm₁, B, X₁.warmed, X', hpost, hstep₁ _ fun acts => by rw [doInvoke_state]; exact hsteps⟩
theorem vx_callS (X : Stand p l e R s m args below meth c T locs cells slots) (hexec : p.tables.exec = Jvm.exec) {own : String} {index : Nat} {y : MethodName} {bytes : ByteArray} {maxL : Nat} {ret : Option FieldType}
    (hown : s.vm.findClass own = some m.cls) (hlink : (Cond.methodLink own index y).before args s = true) (hstat : (Cond.static y).before args s = true) (hinit : (Cond.initialized y.cls).before args s = true)
    (hcode : (Cond.code y bytes maxL ret).before args s = true) (hy : y.cls ≠ "java/lang/invoke/MethodHandle" ∧ y.cls ≠ "java/lang/invoke/VarHandle")
    {W9 : Nat} {Pre : Pt → Array Value → Prop} {Post : Pt → Array Value → Option Value → Pt → Prop} {PostX : Pt → Array Value → Addr → Pt → Prop} (hK : vx_Back l R p e below s args y 3 W9 Pre Post PostX)
    {g : JFrame} (hg : g.method = m) (hsize : g.locals.size = c.maxLocals) {argsL rest : List Value} (hlen : ∀ sig, parseMethodDescriptor y.desc = some sig → argsL.length = sig.parameters.length)
    (hstack : g.stack = argsL.reverse ++ rest) (hW : 2 * g.monitorRoom + (rest.map fun v => v.category).sum ≤ W9) (hdg : decode c.code g.pc = .ok (.invokestatic index, 3))
    (hpre : ∀ vm₁, s.WarmedH vm₁ → Pre ⟨T.setVm vm₁, locs, cells, slots⟩ argsL.toArray) :
    (∃ (v : Option Value) (vm₁ : Vm) (B : Pt), s.WarmedH vm₁ ∧ Stand p l e R s m args below meth c B.U B.locs B.cells B.slots ∧ Post ⟨T.setVm vm₁, locs, cells, slots⟩ argsL.toArray v B ∧
      ∀ target, Steps p.tables e below (B.U.setTop { g with pc := g.pc + 3, stack := v.toList ++ rest }) target → Steps p.tables e below (T.setTop g) target) ∨
    (∃ (q : Addr) (vm₁ : Vm) (B : Pt), s.WarmedH vm₁ ∧ Stand p l e R s m args below meth c B.U B.locs B.cells B.slots ∧ PostX ⟨T.setVm vm₁, locs, cells, slots⟩ argsL.toArray q B ∧
      Steps p.tables e below (T.setTop g) ((B.U.setTop { g with stack := rest }).pushFrame (.throwing q))) := by
  obtain ⟨mk, hnamed⟩ := Cond.code_named hcode
  obtain ⟨methM, cM, hmethM, -, -, -, -, -, -, hsigM⟩ := Cond.code_spec hnamed hcode
  have hstatic : methM.isStatic = true := Cond.static_spec hnamed hmethM hstat
  obtain ⟨kP, hkP, -⟩ := className_of_methodNamed hnamed
  have hinitP : kP.init = .initialized := Cond.initialized_spec (findClass_of_methodNamed hnamed) hkP hinit
  obtain ⟨vm₁, X₁, hstep₁⟩ := X.invokestatic hexec hown hlink hnamed hmethM hstatic hkP hinitP hy (g := g) hg (argsL := argsL) (rest := rest) (hlen _ hsigM) hstack hdg
  rcases hK m meth c ⟨T.setVm vm₁, locs, cells, slots⟩ { g with stack := rest } (.invokestatic index) mk argsL.toArray X₁ hg hsize hdg hW (X₁.named hnamed) (hpre vm₁ X₁.warmed) with ⟨v, B, X', hpost, hsteps⟩ | ⟨q, B, X', hpost, hsteps⟩
  · exact Or.inl ⟨v, vm₁, B, X₁.warmed, X', hpost, fun target h => hstep₁ _ fun acts => by rw [doInvoke_state]; exact hsteps.trans h⟩
  · exact Or.inr ⟨q, vm₁, B, X₁.warmed, X', hpost, hstep₁ _ fun acts => by rw [doInvoke_state]; exact hsteps⟩
end Calls
theorem vx_cls {s : State} {T : State} {vm₁ : Vm} {E : String} {k : ClassId} (hW : s.WarmedH vm₁) (h : (T.setVm vm₁).vm.findClass E = some k) : s.vm.findClass E = some k := by
  have h1 : vm₁.findClass E = some k := h
  rw [hW.alike.findClass] at h1
  exact h1
/-- the method's frame g, with q thrown over it -/
def vx_W (p : Program) (l : Launch) (e : Env) (R : Room) (s : State) (m : MethodId) (args : Array Value) (below : List Frame) (meth : Method) (c : Code) (H : Heap) (locs : List Loc) (cells slots : Nat) (Q : State → Prop) (g : JFrame) (q : Addr) : Prop :=
  ∀ T : State, T.heap = H → Stand p l e R s m args below meth c T locs cells slots → ∃ t, Steps p.tables e below ((T.setTop g).pushFrame (.throwing q)) t ∧ Q t
def vx_Run (p : Program) (l : Launch) (e : Env) (R : Room) (s : State) (m : MethodId) (args : Array Value) (below : List Frame) (meth : Method) (c : Code) (H : Heap) (locs : List Loc) (cells slots mc ms : Nat) (g : JFrame) (rest : List Value) (Qa : State → Outcome → State → Prop) (XC : String → State → State → Prop) (free : Addr → Prop) : Prop :=
  ∀ T : State, T.heap = H → Stand p l e R s m args below meth c T locs cells slots →
    (∃ (v : Option Value) (st₀ t T' : State) (L : List Loc), st₀.heap = H ∧ Stand p l e R s m args below meth c T' (locs ++ L) (cells + mc) (slots + ms) ∧ (∀ q ∈ L, free q.base) ∧ T'.heap = t.heap ∧ T'.vm = t.vm ∧ Qa st₀ (.returned v) t ∧
      Goes p e below T g T' { g with pc := g.pc + 3, stack := v.toList ++ rest }) ∨
    (∃ (q : Addr) (st₀ t T' : State) (L : List Loc) (E : String) (ce : Cell), st₀.heap = H ∧ Stand p l e R s m args below meth c T' (locs ++ L) (cells + mc) (slots + ms) ∧ (∀ z ∈ L, free z.base) ∧ T'.heap = t.heap ∧ T'.vm = t.vm ∧ XC E st₀ t ∧ t.heap[q]? = some ce ∧ ce.vm = .none ∧ s.vm.findClass E = some ce.cls ∧
      Steps p.tables e below (T.setTop g) ((T'.setTop { g with stack := rest }).pushFrame (.throwing q)))
def vx_X {S : Type} (px : S → Prop) (B : String → S → State → Prop) (A : Nat → Prop) : String → State → State → Prop := fun E st t => ∃ u : S, px u ∧ B E u t ∧ va_F A st t
section Runs
variable {p : Program} {l : Launch} {e : Env} {R : Room} {s : State} {m : MethodId} {args : Array Value} {below : List Frame} {meth : Method} {c : Code} {H : Heap} {locs : List Loc} {cells slots : Nat}
variable {y : MethodName} {bytes cc : ByteArray} {maxL nL mc ms n index : Nat} {ret : Option FieldType} {ws : List Cond} {rm : Room} {Pc : Array Value → State → Prop} {Qc : Array Value → State → Outcome → State → Prop} {XC : String → State → State → Prop} {free : Addr → Prop} {Ts : List Cond} {own C : String} {b : Addr} {As rest : List Value} {g : JFrame}
theorem vx_callBack (cb : CallB R s args own index y bytes maxL ret ws rm mc ms n) (hM : vx_Met l y ws rm Pc Qc XC mc ms free) (hbl : FrameBlind Pc) : vx_Back l R p e below s args y 3 8 (PreOf R mc ms Pc) (PostOf Qc mc ms free) (vx_Post XC mc ms free) := by
  obtain ⟨hrc, hrs, hfr, hlo, hws, hcw, -, hini, -⟩ := cb
  exact vx_back (bytes := bytes) (maxL := maxL) (ret := ret) hM hbl hrc hrs hfr hlo hws hcw (fun a' U hW => word_at hW (Or.inl (by first | rfl | simp [Cond.onTables, Cond.keeps, Cond.steady])) hini)
theorem vx_runV (S : CallFix p m c cc nL s args Ts own) (hM : vx_Met l y ws rm Pc Qc XC mc ms free) (cw : CallW R s args own C index y bytes maxL ret ws rm mc ms n) (hp : PreV s H C b Pc As)
    (hg : g.method = m) (hn : As.length = n) (hsize : g.locals.size = nL) (hstack : g.stack = As.reverse ++ .ref b :: rest) (hW : 2 * g.monitorRoom + (rest.map fun v => v.category).sum ≤ 8) (hdg : decode cc g.pc = .ok (.invokevirtual index, 3)) (hf : cells + mc ≤ R.cells ∧ slots + ms ≤ R.slots) :
    vx_Run p l e R s m args below meth c H locs cells slots mc ms g rest (Qc (Value.ref b :: As).toArray) XC free := by
  have hK : vx_Back l R p e below s args y 3 8 (PreOf R mc ms Pc) (PostOf Qc mc ms free) (vx_Post XC mc ms free) := vx_callBack cw.1 hM hp.1
  obtain ⟨⟨-, -, -, -, -, -, hcode, -, hy, hlen, hl⟩, hin, hse⟩ := cw
  obtain ⟨hx, hb, hml, ho, -⟩ := S
  obtain ⟨-, ⟨cellB, hcB, hoB, hclB⟩, hPc⟩ := hp
  intro T hT X
  rcases vx_callV X hx (C := C) (bytes := bytes) (maxL := maxL) (ret := ret) ho hl hin hse hcode hy hK (by rw [hT]; exact hcB) hoB hclB hg (hsize.trans hml.symm) (argsL := As) (rest := rest) (fun sig h => hn.trans (hlen sig h)) hstack hW (by rw [hb]; exact hdg)
    (fun vm₁ hW₁ => ⟨hf.1, hf.2, hPc (T.setVm vm₁) hT hW₁⟩) with ⟨v, vm₁, ⟨U', l2, c2, s2⟩, hW₁, X', ⟨g', mk, t, L, e1, e2, hq, h1, hL, h2, h3⟩, st⟩ | ⟨q, vm₁, ⟨U', l2, c2, s2⟩, hW₁, X', ⟨g', mk, t, L, E, ce, e1, e2, hq, hce, hcv, hcl, h1, hL, h2, h3⟩, st⟩
  · dsimp only [Pt.U, Pt.locs, Pt.cells, Pt.slots] at X' e1 e2 h1 h2 h3 st
    subst h1; subst h2; subst h3
    exact Or.inl ⟨v, (T.setVm vm₁).calling g' mk (Value.ref b :: As).toArray, t, U', L, hT, X', hL, e1, e2, hq, st⟩
  · dsimp only [Pt.U, Pt.locs, Pt.cells, Pt.slots] at X' e1 e2 h1 h2 h3 st hcl
    subst h1; subst h2; subst h3
    exact Or.inr ⟨q, (T.setVm vm₁).calling g' mk (Value.ref b :: As).toArray, t, U', L, E, ce, hT, X', hL, e1, e2, hq, hce, hcv, vx_cls hW₁ hcl, st⟩
theorem vx_runS (S : CallFix p m c cc nL s args Ts own) (hM : vx_Met l y ws rm Pc Qc XC mc ms free) (cw : CallB R s args own index y bytes maxL ret ws rm mc ms n ∧ (Cond.static y).before args s = true) (hp : PreS s H Pc As)
    (hg : g.method = m) (hn : As.length = n) (hsize : g.locals.size = nL) (hstack : g.stack = As.reverse ++ rest) (hW : 2 * g.monitorRoom + (rest.map fun v => v.category).sum ≤ 8) (hdg : decode cc g.pc = .ok (.invokestatic index, 3)) (hf : cells + mc ≤ R.cells ∧ slots + ms ≤ R.slots) :
    vx_Run p l e R s m args below meth c H locs cells slots mc ms g rest (Qc As.toArray) XC free := by
  have hK : vx_Back l R p e below s args y 3 8 (PreOf R mc ms Pc) (PostOf Qc mc ms free) (vx_Post XC mc ms free) := vx_callBack cw.1 hM hp.1
  obtain ⟨⟨-, -, -, -, -, -, hcode, hini, hy, hlen, hl⟩, hstt⟩ := cw
  obtain ⟨hx, hb, hml, ho, -⟩ := S
  intro T hT X
  rcases vx_callS X hx (bytes := bytes) (maxL := maxL) (ret := ret) ho hl hstt hini hcode hy hK hg (hsize.trans hml.symm) (argsL := As) (rest := rest) (fun sig h => hn.trans (hlen sig h)) hstack hW (by rw [hb]; exact hdg)
    (fun vm₁ hW₁ => ⟨hf.1, hf.2, hp.2 (T.setVm vm₁) hT hW₁⟩) with ⟨v, vm₁, ⟨U', l2, c2, s2⟩, hW₁, X', ⟨g', mk, t, L, e1, e2, hq, h1, hL, h2, h3⟩, st⟩ | ⟨q, vm₁, ⟨U', l2, c2, s2⟩, hW₁, X', ⟨g', mk, t, L, E, ce, e1, e2, hq, hce, hcv, hcl, h1, hL, h2, h3⟩, st⟩
  · dsimp only [Pt.U, Pt.locs, Pt.cells, Pt.slots] at X' e1 e2 h1 h2 h3 st
    subst h1; subst h2; subst h3
    exact Or.inl ⟨v, (T.setVm vm₁).calling g' mk As.toArray, t, U', L, hT, X', hL, e1, e2, hq, st⟩
  · dsimp only [Pt.U, Pt.locs, Pt.cells, Pt.slots] at X' e1 e2 h1 h2 h3 st hcl
    subst h1; subst h2; subst h3
    exact Or.inr ⟨q, (T.setVm vm₁).calling g' mk As.toArray, t, U', L, E, ce, hT, X', hL, e1, e2, hq, hce, hcv, vx_cls hW₁ hcl, st⟩
end Runs
section Rows
variable {p : Program} {l : Launch} {e : Env} {R : Room} {s : State} {m : MethodId} {args : Array Value} {below : List Frame} {meth : Method} {c : Code} {H : Heap} {locs : List Loc} {cells slots : Nat} {Q : State → Prop}
variable {mc ms : Nat} {free : Addr → Prop} {A0 A1 : Nat → Prop} {H0 : Heap} {a : Array Value} {pc : Nat} {ls : Array Slot} {st0 rest : List Value}
theorem vx_keep {st₀ t T' : State} {L : List Loc} (h0 : st₀.heap = H) (e1 : T'.heap = t.heap) (hS : va_S A0 H0 H locs) (hA : ∀ q, q < H.size → A1 q → A0 q) (hf : ∀ q, free q → A0 q) (hL : ∀ q ∈ L, free q.base) (hF : va_F A1 st₀ t) :
    H.size ≤ T'.heap.size ∧ (∀ q : Nat, q < H.size → ¬ A1 q → T'.heap[q]? = H[q]?) ∧ va_S A0 H0 T'.heap (locs ++ L) := by
  obtain ⟨hz, hk⟩ := hF
  rw [h0] at hz hk
  exact ⟨by rw [e1]; exact hz, fun q h1 h2 => by rw [e1]; exact hk q h1 h2,
    ⟨Nat.le_trans hS.1 (by rw [e1]; exact hz), fun q h1 h2 => by rw [e1, hk q (Nat.lt_of_lt_of_le h1 hS.1) (fun z => h2 (hA q (Nat.lt_of_lt_of_le h1 hS.1) z))]; exact hS.2.1 q h1 h2, fun q hq => by
      rcases List.mem_append.mp hq with h | h
      · exact hS.2.2 q h
      · exact hf _ (hL q h)⟩⟩
theorem vx_calli {S SX : Type} {post : Int32 → S → Prop} {px : SX → Prop} {B : S → State → Prop} {BX : String → SX → State → Prop} {AX : Nat → Prop} (hr : vx_Run p l e R s m args below meth c H locs cells slots mc ms (F0 m pc ls st0) rest (va_Qi post B A1 a) (vx_X px BX AX) free) (hS : va_S A0 H0 H locs) (hA : ∀ q, q < H.size → A1 q → A0 q) (hf : ∀ q, free q → A0 q) (hAX : ∀ q, q < H.size → AX q → A0 q)
    (kx : ∀ (E : String) (ce : Cell) (q9 : Addr) (u : SX) (t : State) (H1 : Heap) (locs1 : List Loc), t.heap = H1 → s.vm.Alike t.vm → px u → BX E u t → H.size ≤ H1.size → (∀ q : Nat, q < H.size → ¬ AX q → H1[q]? = H[q]?) → va_S A0 H0 H1 locs1 → H1[q9]? = some ce → ce.vm = .none → s.vm.findClass E = some ce.cls → vx_W p l e R s m args below meth c H1 locs1 (cells + mc) (slots + ms) Q (F0 m pc ls rest) q9)
    (kk : ∀ (r : Int32) (u : S) (t : State) (H1 : Heap) (locs1 : List Loc), t.heap = H1 → s.vm.Alike t.vm → post r u → B u t → H.size ≤ H1.size → (∀ q : Nat, q < H.size → ¬ A1 q → H1[q]? = H[q]?) → va_S A0 H0 H1 locs1 → W p l e R s m args below meth c H1 locs1 (cells + mc) (slots + ms) Q (F0 m (pc + 3) ls (.int r :: rest))) : W p l e R s m args below meth c H locs cells slots Q (F0 m pc ls st0) := by
  intro T hT X
  rcases hr T hT X with ⟨v, st₀, t, T', L, h0, X', hL, e1, e2, ⟨⟨r, u, hv, hp, hb⟩, hF⟩, st⟩ | ⟨q, st₀, t, T', L, E, ce, h0, X', hL, e1, e2, ⟨u, hp, hb, hF⟩, hce, hcv, hcl, st⟩
  · cases hv
    obtain ⟨k1, k2, k3⟩ := vx_keep h0 e1 hS hA hf hL hF
    obtain ⟨t2, a1, b1⟩ := kk r u t T'.heap (locs ++ L) e1.symm (by rw [← e2]; exact X'.warmed.alike) hp hb k1 k2 k3 T' rfl X'
    exact ⟨t2, st t2 a1, b1⟩
  · obtain ⟨k1, k2, k3⟩ := vx_keep h0 e1 hS hAX hf hL hF
    obtain ⟨t2, a1, b1⟩ := kx E ce q u t T'.heap (locs ++ L) e1.symm (by rw [← e2]; exact X'.warmed.alike) hp hb k1 k2 k3 (by rw [e1]; exact hce) hcv hcl T' rfl X'
    exact ⟨t2, st.trans a1, b1⟩
theorem vx_calll {S SX : Type} {post : Int64 → S → Prop} {px : SX → Prop} {B : S → State → Prop} {BX : String → SX → State → Prop} {AX : Nat → Prop} (hr : vx_Run p l e R s m args below meth c H locs cells slots mc ms (F0 m pc ls st0) rest (va_Ql post B A1 a) (vx_X px BX AX) free) (hS : va_S A0 H0 H locs) (hA : ∀ q, q < H.size → A1 q → A0 q) (hf : ∀ q, free q → A0 q) (hAX : ∀ q, q < H.size → AX q → A0 q)
    (kx : ∀ (E : String) (ce : Cell) (q9 : Addr) (u : SX) (t : State) (H1 : Heap) (locs1 : List Loc), t.heap = H1 → s.vm.Alike t.vm → px u → BX E u t → H.size ≤ H1.size → (∀ q : Nat, q < H.size → ¬ AX q → H1[q]? = H[q]?) → va_S A0 H0 H1 locs1 → H1[q9]? = some ce → ce.vm = .none → s.vm.findClass E = some ce.cls → vx_W p l e R s m args below meth c H1 locs1 (cells + mc) (slots + ms) Q (F0 m pc ls rest) q9)
    (kk : ∀ (r : Int64) (u : S) (t : State) (H1 : Heap) (locs1 : List Loc), t.heap = H1 → s.vm.Alike t.vm → post r u → B u t → H.size ≤ H1.size → (∀ q : Nat, q < H.size → ¬ A1 q → H1[q]? = H[q]?) → va_S A0 H0 H1 locs1 → W p l e R s m args below meth c H1 locs1 (cells + mc) (slots + ms) Q (F0 m (pc + 3) ls (.long r :: rest))) : W p l e R s m args below meth c H locs cells slots Q (F0 m pc ls st0) := by
  intro T hT X
  rcases hr T hT X with ⟨v, st₀, t, T', L, h0, X', hL, e1, e2, ⟨⟨r, u, hv, hp, hb⟩, hF⟩, st⟩ | ⟨q, st₀, t, T', L, E, ce, h0, X', hL, e1, e2, ⟨u, hp, hb, hF⟩, hce, hcv, hcl, st⟩
  · cases hv
    obtain ⟨k1, k2, k3⟩ := vx_keep h0 e1 hS hA hf hL hF
    obtain ⟨t2, a1, b1⟩ := kk r u t T'.heap (locs ++ L) e1.symm (by rw [← e2]; exact X'.warmed.alike) hp hb k1 k2 k3 T' rfl X'
    exact ⟨t2, st t2 a1, b1⟩
  · obtain ⟨k1, k2, k3⟩ := vx_keep h0 e1 hS hAX hf hL hF
    obtain ⟨t2, a1, b1⟩ := kx E ce q u t T'.heap (locs ++ L) e1.symm (by rw [← e2]; exact X'.warmed.alike) hp hb k1 k2 k3 (by rw [e1]; exact hce) hcv hcl T' rfl X'
    exact ⟨t2, st.trans a1, b1⟩
theorem vx_callf {S SX : Type} {post : UInt32 → S → Prop} {px : SX → Prop} {B : S → State → Prop} {BX : String → SX → State → Prop} {AX : Nat → Prop} (hr : vx_Run p l e R s m args below meth c H locs cells slots mc ms (F0 m pc ls st0) rest (va_Qf post B A1 a) (vx_X px BX AX) free) (hS : va_S A0 H0 H locs) (hA : ∀ q, q < H.size → A1 q → A0 q) (hf : ∀ q, free q → A0 q) (hAX : ∀ q, q < H.size → AX q → A0 q)
    (kx : ∀ (E : String) (ce : Cell) (q9 : Addr) (u : SX) (t : State) (H1 : Heap) (locs1 : List Loc), t.heap = H1 → s.vm.Alike t.vm → px u → BX E u t → H.size ≤ H1.size → (∀ q : Nat, q < H.size → ¬ AX q → H1[q]? = H[q]?) → va_S A0 H0 H1 locs1 → H1[q9]? = some ce → ce.vm = .none → s.vm.findClass E = some ce.cls → vx_W p l e R s m args below meth c H1 locs1 (cells + mc) (slots + ms) Q (F0 m pc ls rest) q9)
    (kk : ∀ (r : UInt32) (u : S) (t : State) (H1 : Heap) (locs1 : List Loc), t.heap = H1 → s.vm.Alike t.vm → post r u → B u t → H.size ≤ H1.size → (∀ q : Nat, q < H.size → ¬ A1 q → H1[q]? = H[q]?) → va_S A0 H0 H1 locs1 → W p l e R s m args below meth c H1 locs1 (cells + mc) (slots + ms) Q (F0 m (pc + 3) ls (.float r :: rest))) : W p l e R s m args below meth c H locs cells slots Q (F0 m pc ls st0) := by
  intro T hT X
  rcases hr T hT X with ⟨v, st₀, t, T', L, h0, X', hL, e1, e2, ⟨⟨r, u, hv, hp, hb⟩, hF⟩, st⟩ | ⟨q, st₀, t, T', L, E, ce, h0, X', hL, e1, e2, ⟨u, hp, hb, hF⟩, hce, hcv, hcl, st⟩
  · cases hv
    obtain ⟨k1, k2, k3⟩ := vx_keep h0 e1 hS hA hf hL hF
    obtain ⟨t2, a1, b1⟩ := kk r u t T'.heap (locs ++ L) e1.symm (by rw [← e2]; exact X'.warmed.alike) hp hb k1 k2 k3 T' rfl X'
    exact ⟨t2, st t2 a1, b1⟩
  · obtain ⟨k1, k2, k3⟩ := vx_keep h0 e1 hS hAX hf hL hF
    obtain ⟨t2, a1, b1⟩ := kx E ce q u t T'.heap (locs ++ L) e1.symm (by rw [← e2]; exact X'.warmed.alike) hp hb k1 k2 k3 (by rw [e1]; exact hce) hcv hcl T' rfl X'
    exact ⟨t2, st.trans a1, b1⟩
theorem vx_calld {S SX : Type} {post : UInt64 → S → Prop} {px : SX → Prop} {B : S → State → Prop} {BX : String → SX → State → Prop} {AX : Nat → Prop} (hr : vx_Run p l e R s m args below meth c H locs cells slots mc ms (F0 m pc ls st0) rest (va_Qd post B A1 a) (vx_X px BX AX) free) (hS : va_S A0 H0 H locs) (hA : ∀ q, q < H.size → A1 q → A0 q) (hf : ∀ q, free q → A0 q) (hAX : ∀ q, q < H.size → AX q → A0 q)
    (kx : ∀ (E : String) (ce : Cell) (q9 : Addr) (u : SX) (t : State) (H1 : Heap) (locs1 : List Loc), t.heap = H1 → s.vm.Alike t.vm → px u → BX E u t → H.size ≤ H1.size → (∀ q : Nat, q < H.size → ¬ AX q → H1[q]? = H[q]?) → va_S A0 H0 H1 locs1 → H1[q9]? = some ce → ce.vm = .none → s.vm.findClass E = some ce.cls → vx_W p l e R s m args below meth c H1 locs1 (cells + mc) (slots + ms) Q (F0 m pc ls rest) q9)
    (kk : ∀ (r : UInt64) (u : S) (t : State) (H1 : Heap) (locs1 : List Loc), t.heap = H1 → s.vm.Alike t.vm → post r u → B u t → H.size ≤ H1.size → (∀ q : Nat, q < H.size → ¬ A1 q → H1[q]? = H[q]?) → va_S A0 H0 H1 locs1 → W p l e R s m args below meth c H1 locs1 (cells + mc) (slots + ms) Q (F0 m (pc + 3) ls (.double r :: rest))) : W p l e R s m args below meth c H locs cells slots Q (F0 m pc ls st0) := by
  intro T hT X
  rcases hr T hT X with ⟨v, st₀, t, T', L, h0, X', hL, e1, e2, ⟨⟨r, u, hv, hp, hb⟩, hF⟩, st⟩ | ⟨q, st₀, t, T', L, E, ce, h0, X', hL, e1, e2, ⟨u, hp, hb, hF⟩, hce, hcv, hcl, st⟩
  · cases hv
    obtain ⟨k1, k2, k3⟩ := vx_keep h0 e1 hS hA hf hL hF
    obtain ⟨t2, a1, b1⟩ := kk r u t T'.heap (locs ++ L) e1.symm (by rw [← e2]; exact X'.warmed.alike) hp hb k1 k2 k3 T' rfl X'
    exact ⟨t2, st t2 a1, b1⟩
  · obtain ⟨k1, k2, k3⟩ := vx_keep h0 e1 hS hAX hf hL hF
    obtain ⟨t2, a1, b1⟩ := kx E ce q u t T'.heap (locs ++ L) e1.symm (by rw [← e2]; exact X'.warmed.alike) hp hb k1 k2 k3 (by rw [e1]; exact hce) hcv hcl T' rfl X'
    exact ⟨t2, st.trans a1, b1⟩
theorem vx_callv {S SX : Type} {post : S → Prop} {px : SX → Prop} {B : S → State → Prop} {BX : String → SX → State → Prop} {AX : Nat → Prop} (hr : vx_Run p l e R s m args below meth c H locs cells slots mc ms (F0 m pc ls st0) rest (va_Qv post B A1 a) (vx_X px BX AX) free) (hS : va_S A0 H0 H locs) (hA : ∀ q, q < H.size → A1 q → A0 q) (hf : ∀ q, free q → A0 q) (hAX : ∀ q, q < H.size → AX q → A0 q)
    (kx : ∀ (E : String) (ce : Cell) (q9 : Addr) (u : SX) (t : State) (H1 : Heap) (locs1 : List Loc), t.heap = H1 → s.vm.Alike t.vm → px u → BX E u t → H.size ≤ H1.size → (∀ q : Nat, q < H.size → ¬ AX q → H1[q]? = H[q]?) → va_S A0 H0 H1 locs1 → H1[q9]? = some ce → ce.vm = .none → s.vm.findClass E = some ce.cls → vx_W p l e R s m args below meth c H1 locs1 (cells + mc) (slots + ms) Q (F0 m pc ls rest) q9)
    (kk : ∀ (u : S) (t : State) (H1 : Heap) (locs1 : List Loc), t.heap = H1 → s.vm.Alike t.vm → post u → B u t → H.size ≤ H1.size → (∀ q : Nat, q < H.size → ¬ A1 q → H1[q]? = H[q]?) → va_S A0 H0 H1 locs1 → W p l e R s m args below meth c H1 locs1 (cells + mc) (slots + ms) Q (F0 m (pc + 3) ls (rest))) : W p l e R s m args below meth c H locs cells slots Q (F0 m pc ls st0) := by
  intro T hT X
  rcases hr T hT X with ⟨v, st₀, t, T', L, h0, X', hL, e1, e2, ⟨⟨u, hv, hp, hb⟩, hF⟩, st⟩ | ⟨q, st₀, t, T', L, E, ce, h0, X', hL, e1, e2, ⟨u, hp, hb, hF⟩, hce, hcv, hcl, st⟩
  · cases hv
    obtain ⟨k1, k2, k3⟩ := vx_keep h0 e1 hS hA hf hL hF
    obtain ⟨t2, a1, b1⟩ := kk u t T'.heap (locs ++ L) e1.symm (by rw [← e2]; exact X'.warmed.alike) hp hb k1 k2 k3 T' rfl X'
    exact ⟨t2, st t2 a1, b1⟩
  · obtain ⟨k1, k2, k3⟩ := vx_keep h0 e1 hS hAX hf hL hF
    obtain ⟨t2, a1, b1⟩ := kx E ce q u t T'.heap (locs ++ L) e1.symm (by rw [← e2]; exact X'.warmed.alike) hp hb k1 k2 k3 (by rw [e1]; exact hce) hcv hcl T' rfl X'
    exact ⟨t2, st.trans a1, b1⟩
/-- caught by the row x of this method's table; the rows ahead don't take it -/
theorem vx_catch {own name : String} {E : String} {ce : Cell} {q : Addr} (hown : s.vm.findClass own = some m.cls) (pre : List ExceptionTableEntry) (x : ExceptionTableEntry) (suf : List ExceptionTableEntry) (hsplit : c.exceptionTable.toList = pre ++ x :: suf)
    (hpass : ∀ z ∈ pre, covers z pc = false ∨ (z.catchType ≠ 0 ∧ ∃ nm : String, (Cond.classLink own z.catchType nm).before args s = true ∧ va_Nc E nm s)) (hx : covers x pc = true) (h0 : x.catchType ≠ 0)
    (hlink : (Cond.classLink own x.catchType name).before args s = true) (hcast : (Cond.castable E name).before args s = true) (hcell : H[q]? = some ce) (hv : ce.vm = .none) (hcl : s.vm.findClass E = some ce.cls)
    (kk : W p l e R s m args below meth c H locs cells slots Q (F0 m x.handlerPc ls [.ref q])) : vx_W p l e R s m args below meth c H locs cells slots Q (F0 m pc ls rest) q := by
  intro T hT X
  have hpl : e.platform.magicAccessors = ({} : Platform).magicAccessors := by rw [X.admits.platform]
  obtain ⟨c3, c4, hc3, hc4, hasg⟩ := Cond.castable_spec hcast
  cases Option.some.inj (hc3.symm.trans hcl)
  obtain ⟨c5, hc5, hcl5⟩ := Cond.classLink_spec hown hlink e.platform hpl
  cases Option.some.inj (hc4.symm.trans hc5)
  obtain ⟨vm', X', st⟩ := X.thenCaughtThrough q (g := F0 m pc ls rest) rfl (Steps.refl _) (by rw [hT]; exact hcell) (by rw [hv]; rfl) (by obtain ⟨k9, h9, -⟩ := Vm.findClass_spec hcl; exact ⟨k9, h9⟩) pre x suf hsplit
    (fun z hz => by
      rcases hpass z hz with h | ⟨hz0, nm, hl1, hn1⟩
      · exact Or.inl h
      · obtain ⟨c6, hc6, hcl6⟩ := Cond.classLink_spec hown hl1 e.platform hpl
        obtain ⟨a8, b8, h1, h2, h3⟩ := hn1
        cases Option.some.inj (h1.symm.trans hcl)
        cases Option.some.inj (h2.symm.trans hc6)
        exact Or.inr ⟨hz0, _, hcl6, h3⟩) hx (Or.inr ⟨h0, c4, hcl5, hasg⟩)
  obtain ⟨t, a1, b1⟩ := kk (T.setVm vm') hT X'
  exact ⟨t, st.trans a1, b1⟩
end Rows
section Ends
variable {p : Program} {l : Launch} {e : Env} {R : Room} {s : State} {m : MethodId} {args : Array Value} {below : List Frame} {meth : Method} {c : Code} {H : Heap} {locs : List Loc} {cells slots : Nat} {Q : State → Prop}
variable {mc ms : Nat} {free : Addr → Prop} {A0 A1 : Nat → Prop} {H0 : Heap} {a : Array Value} {ls : Array Slot} {st0 rest : List Value}
variable {Qc : Array Value → State → Outcome → State → Prop} {XC : String → State → State → Prop}
/-- what a body that may throw owes at its end -/
def vx_MQ (below : List Frame) (Qc : Array Value → State → Outcome → State → Prop) (XC : String → State → State → Prop) (a : Array Value) (s : State) (mc ms : Nat) (free : Addr → Prop) : State → Prop := fun t =>
  ∃ o, t.status = .running ∧ Ended t below o ∧ vx_Q Qc XC mc ms free a s o t
theorem vx_ret {g : JFrame} {mc ms : Nat} (k : W p l e R s m args below meth c H locs cells slots (MQ below Qc args s mc ms free) g) : W p l e R s m args below meth c H locs cells slots (vx_MQ below Qc XC args s mc ms free) g := by
  intro T hT X
  obtain ⟨t, a1, o, b1, b2, b3, b4⟩ := k T hT X
  exact ⟨t, a1, o, b1, b2, Or.inl ⟨b3, b4⟩⟩
/-- not caught here: it goes on to the caller -/
theorem vx_widen {g : JFrame} {q : Addr} {k n : Nat} (h1 : cells ≤ k) (h2 : slots ≤ n) (kk : vx_W p l e R s m args below meth c H locs k n Q g q) : vx_W p l e R s m args below meth c H locs cells slots Q g q := fun T hT X => kk T hT (stand_widen X h1 h2)
theorem vx_out {pc : Nat} {E : String} {ce : Cell} {q : Addr} {mc ms : Nat} (hout : ∀ x ∈ c.exceptionTable.toList, covers x pc = false) (hlocks : meth.locks = false) (hcell : H[q]? = some ce) (hv : ce.vm = .none) (hcl : s.vm.findClass E = some ce.cls)
    (hx : ∀ t : State, t.heap = H → s.vm.Alike t.vm → XC E s t) (hf : ∀ z ∈ locs, free z.base) (hc : cells ≤ mc) (hs : slots ≤ ms) :
    vx_W p l e R s m args below meth c H locs cells slots (vx_MQ below Qc XC args s mc ms free) (F0 m pc ls rest) q := by
  intro T hT X
  obtain ⟨st1, hrun, hend, hW, hsm⟩ := X.leaveThrown q (g := F0 m pc ls rest) rfl rfl rfl hout hlocks
  have hcell9 : (T.setFrames (.throwing q :: below)).heap[q]? = some ce := by
    show T.heap[q]? = some ce
    rw [hT]; exact hcell
  exact ⟨_, st1, .threw q, hrun, hend, Or.inr ⟨q, rfl, E, ce, locs, hx _ hT hW.alike, hcell9, hv, hcl, hW, hsm.mono hc hs, hf⟩⟩
theorem vx_frame {U : State} {k n : Nat} (h : s.sameButNew ({ U with vm := s.vm } : State) locs k n) : s.heap.size ≤ U.heap.size ∧ ∀ q : Nat, q < s.heap.size → (∀ z ∈ locs, z.base ≠ q) → U.heap[q]? = s.heap[q]? := by
  obtain ⟨-, h2, -, -, -, h6⟩ := h
  refine ⟨h2, fun q hq hz => ?_⟩
  obtain ⟨c9, e1, e2, e3, e4⟩ := h6 q _ (Array.getElem?_eq_getElem hq)
  have hs : c9.slots = (s.heap[q]).slots := Array.ext_getElem? fun i => e4 i fun hm => hz _ hm rfl
  have h9 : c9 = s.heap[q] := by
    rw [hs] at e2
    exact e2
  have e5 : U.heap[q]? = some c9 := e1
  rw [e5, h9, Array.getElem?_eq_getElem hq]
/-- the words of a throw but the four that speak of the heap -/
def vx_no (w : Cond) : Bool := decide (w ≠ .isRef (.static Bundle.tN "UNASSIGNED_STACK" Bundle.steD)) && decide (w ≠ .isRef (.static Bundle.tN "SUPPRESSED_SENTINEL" Bundle.listD)) && decide (w ≠ .laysStatic Bundle.tN "UNASSIGNED_STACK" Bundle.steD) && decide (w ≠ .laysStatic Bundle.tN "SUPPRESSED_SENTINEL" Bundle.listD)
def vx_at0 (own : String) (ic : Nat) (X : String) (names : List String) : List Cond := (Bundle.ownAtoms0 own ic X names).filter vx_no
def vx_atS (own : String) (ic : Nat) (X : String) (names : List String) : List Cond := (Bundle.ownAtoms own ic X names).filter vx_no
/-- a word that the tables alone decide, or a good one -/
def vx_ot (w : Cond) : Bool := w.onTables || goodWord w
theorem vx_ot_at {args a' : Array Value} {s U : State} {w : Cond} (hW : s.WarmedH U.vm) (hvm : s.vm = U.vm) (hg : vx_ot w = true) (h : w.before args s = true) : w.before a' U = true := by
  simp only [vx_ot, Bool.or_eq_true] at hg
  rcases hg with hg | hg
  · exact va_tabs hg hvm h
  · exact word_at hW (good_of_word hg) h
/-- a list's words: the good ones out of the method's own list, the others by premises of their own -/
theorem vx_hat {args : Array Value} {s : State} {L B : List Cond} (h1 : ∀ w ∈ L.filter goodWord, w.before args s = true) (h2 : ∀ w ∈ L.filter (fun w => !goodWord w), w ∈ B) (h3 : ∀ w ∈ B, w.before args s = true) : ∀ w ∈ L, w.before args s = true := by
  intro w hw
  by_cases g : goodWord w = true
  · exact h1 w (List.mem_filter.mpr ⟨hw, g⟩)
  · refine h3 w (h2 w (List.mem_filter.mpr ⟨hw, ?_⟩))
    show (!goodWord w) = true
    cases hgw : goodWord w
    · rfl
    · exact absurd hgw g
theorem vx_c {args : Array Value} {s : State} {w : Cond} {B : List Cond} (h : w.before args s = true) (t : ∀ w ∈ B, w.before args s = true) : ∀ w' ∈ w :: B, w'.before args s = true := fun w' h' => (List.mem_cons.mp h').elim (fun e => by rw [e]; exact h) (t w')
theorem vx_n {args : Array Value} {s : State} : ∀ w ∈ ([] : List Cond), w.before args s = true := fun _ h => nomatch h
theorem vx_own {args : Array Value} {s : State} {L : List Cond} (h1 : ∀ w ∈ L.filter vx_no, w.before args s = true)
    (hU : (Cond.isRef (.static Bundle.tN "UNASSIGNED_STACK" Bundle.steD)).before args s = true) (hN : (Cond.isRef (.static Bundle.tN "SUPPRESSED_SENTINEL" Bundle.listD)).before args s = true)
    (lU : (Cond.laysStatic Bundle.tN "UNASSIGNED_STACK" Bundle.steD).before args s = true) (lN : (Cond.laysStatic Bundle.tN "SUPPRESSED_SENTINEL" Bundle.listD).before args s = true) : ∀ w ∈ L, w.before args s = true := by
  intro w hw
  by_cases e1 : w = .isRef (.static Bundle.tN "UNASSIGNED_STACK" Bundle.steD)
  · rw [e1]; exact hU
  · by_cases e2 : w = .isRef (.static Bundle.tN "SUPPRESSED_SENTINEL" Bundle.listD)
    · rw [e2]; exact hN
    · by_cases e3 : w = .laysStatic Bundle.tN "UNASSIGNED_STACK" Bundle.steD
      · rw [e3]; exact lU
      · by_cases e4 : w = .laysStatic Bundle.tN "SUPPRESSED_SENTINEL" Bundle.listD
        · rw [e4]; exact lN
        · exact h1 w (List.mem_filter.mpr ⟨hw, by unfold vx_no; rw [decide_eq_true e1, decide_eq_true e2, decide_eq_true e3, decide_eq_true e4]; rfl⟩)
/-- where a static field lies, its class's statics cell in H -/
def vx_L (C n d : String) (A : Nat → Prop) (U : State) (H : Heap) : Prop := ∃ (c : ClassId) (k : Class) (i : Nat) (f : Field) (a : Nat) (cell : Cell), U.vm.findClass C = some c ∧ U.fieldFound? C n d = some (c, k, i, f) ∧ f.isStatic = true ∧ k.statics = some a ∧ H[a]? = some cell ∧ cell.vm.isStatics = true ∧ cell.cls = c ∧ f.slot < cell.slots.size ∧ k.staticTypes[f.slot]? = some f.type ∧ ¬ A a
theorem vx_L.moved {C n d : String} {A : Nat → Prop} {u U : State} {H : Heap} (hvm : u.vm.Alike U.vm) (h : vx_L C n d A u H) : vx_L C n d A U H := by
  obtain ⟨c, k, i, f, a, cell, h1, h2, h3, h4, h5, h6, h7, h8, h9, h10⟩ := h
  obtain ⟨k', hi', he⟩ := State.fieldFound?_setVm hvm h2
  exact ⟨c, k', i, f, a, cell, by rw [hvm.findClass]; exact h1, hi', h3, by rw [he]; exact h4, h5, h6, h7, h8, by rw [he]; exact h9, h10⟩
theorem vx_L.kept {C n d : String} {A : Nat → Prop} {U : State} {H H1 : Heap} (h : vx_L C n d A U H) (hq : ∀ a : Nat, a < H.size → ¬ A a → H1[a]? = H[a]?) : vx_L C n d A U H1 := by
  obtain ⟨c, k, i, f, a, cell, h1, h2, h3, h4, h5, h6, h7, h8, h9, h10⟩ := h
  exact ⟨c, k, i, f, a, cell, h1, h2, h3, h4, by rw [hq a (Array.getElem?_eq_some_iff.mp h5).1 h10]; exact h5, h6, h7, h8, h9, h10⟩
theorem vx_L.narrow {C n d : String} {A B : Nat → Prop} {U : State} {H : Heap} (h : vx_L C n d A U H) (hAB : ∀ q, B q → A q) : vx_L C n d B U H := by
  obtain ⟨c, k, i, f, a, cell, h1, h2, h3, h4, h5, h6, h7, h8, h9, h10⟩ := h
  exact ⟨c, k, i, f, a, cell, h1, h2, h3, h4, h5, h6, h7, h8, h9, fun z => h10 (hAB _ z)⟩
theorem vx_L.word {C n d : String} {A : Nat → Prop} {s : State} {args : Array Value} (h : vx_L C n d A s s.heap) : (Cond.laysStatic C n d).before args s = true := by
  obtain ⟨c, k, i, f, a, cell, h1, h2, h3, h4, h5, h6, h7, h8, h9, -⟩ := h
  show (Cond.laysStatic C n d).holds args s none s [] = true
  exact Cond.laysStatic_of h1 h2 h3 h4 h5 h6 h7 h8 h9
/-- .. and what it holds: null or some reference -/
def vx_Zq (C n d : String) (A : Nat → Prop) (U : State) (H : Heap) : Prop := va_Zq C n d A U H ∧ vx_L C n d A U H
theorem vx_Zq.moved {C n d : String} {A : Nat → Prop} {u U : State} {H : Heap} (hvm : u.vm.Alike U.vm) (h : vx_Zq C n d A u H) : vx_Zq C n d A U H := ⟨va_Zq.moved hvm h.1, vx_L.moved hvm h.2⟩
theorem vx_Zq.kept {C n d : String} {A : Nat → Prop} {U : State} {H H1 : Heap} (h : vx_Zq C n d A U H) (hq : ∀ a : Nat, a < H.size → ¬ A a → H1[a]? = H[a]?) : vx_Zq C n d A U H1 := ⟨va_Zq.kept h.1 hq, vx_L.kept h.2 hq⟩
theorem vx_Zq.narrow {C n d : String} {A B : Nat → Prop} {U : State} {H : Heap} (h : vx_Zq C n d A U H) (hAB : ∀ q, B q → A q) : vx_Zq C n d B U H := ⟨va_Zq.narrow h.1 hAB, vx_L.narrow h.2 hAB⟩
theorem vx_Zqof {args : Array Value} {s : State} {C n d : String} {A : Nat → Prop} (hl : (Cond.laysStatic C n d).before args s = true) (hini : (Cond.initialized C).before args s = true) (h : (Cond.isRef (.static C n d)).before args s = true) (hA : ∀ a : Nat, a < s.heap.size → ¬ A a) : vx_Zq C n d A s s.heap := by
  refine ⟨va_Zqof hl hini h hA, ?_⟩
  obtain ⟨c, k, i, f, a, cell, h1, h2, h3, h4, h5, h6, h7, h8, h9⟩ := Cond.laysStatic_spec hl
  exact ⟨c, k, i, f, a, cell, h1, h2, h3, h4, h5, h6, h7, h8, h9, hA a (Array.getElem?_eq_some_iff.mp h5).1⟩
theorem vx_isRef {C n d : String} {v : Value} {A : Nat → Prop} {s : State} {args : Array Value} (h : va_Z C n d v A s s.heap) (hv : v.isRef = true) : (Cond.isRef (.static C n d)).before args s = true := by
  obtain ⟨cf, kf, fi, f, a, cell, h1, h2, h3, h4, h5, h6, h7, -⟩ := h
  have he : (Term.static C n d).eval args s none [] s = some v := by
    simp [Term.eval, State.fieldNamed?, h1, h2, h4, h5, h6, h7]
  simp only [Cond.before, Cond.holds, Cond.value, he]
  cases v <;> simp_all [Value.isRef]
theorem vx_isRefq {C n d : String} {A : Nat → Prop} {s : State} {args : Array Value} (h : va_Zq C n d A s s.heap) : (Cond.isRef (.static C n d)).before args s = true := by
  rcases h with h | ⟨t, h⟩
  · exact vx_isRef h rfl
  · exact vx_isRef h rfl
/-- the same frame, seen from here: as if the method were called anew in this heap -/
theorem vx_rebase {T : State} (X : Stand p l e R s m args below meth c T locs cells slots) {R' : Room} (hf : R'.frames ≤ R.frames) (hl : R'.locals ≤ R.locals) (hc : cells + R'.cells ≤ R.cells) (hs : slots + R'.slots ≤ R.slots) :
    Stand p l e R' ((T.setVm s.vm).setFrames (.invoking m args :: below)) m args below meth c T [] 0 0 := by
  have htop : (T.setVm s.vm).topJava?.isSome := X.here.top
  have hF : ((T.setVm s.vm).setFrames (.invoking m args :: below)).frames = .invoking m args :: below := State.frames_setFrames _ (State.cur_lt_of_top htop)
  obtain ⟨g₀, hg0⟩ := Option.isSome_iff_exists.mp htop
  obtain ⟨r, hr⟩ := State.topJava?_eq_some.mp hg0
  have hl9 : e.platform.stackLimits (T.setVm s.vm).me = e.platform.stackLimits s.me := X.limits
  have hb9 : (T.setVm s.vm).me.stackBytes = s.me.stackBytes := X.bytes
  refine ⟨X.admits, X.cas, X.clock, hF, ?_, X.hears, X.method, X.code, X.here, X.tail, X.warmed, ?_, ?_, ?_⟩
  · have h := X.room
    have hU : ((T.setVm s.vm).setFrames (.invoking m args :: below)).localsInUse = s.localsInUse := by
      rw [State.localsInUse_invoking hF (meth := meth) (c := c) X.method X.code, State.localsInUse_invoking X.frames X.method X.code]
    simp only [State.hasRoom, Bool.and_eq_true, decide_eq_true_eq] at h ⊢
    obtain ⟨⟨⟨⟨h1, h2, h3, h4, h5, h6⟩, h7⟩, h8⟩, h9⟩ := h
    rw [X.frames, List.length_cons] at h2 h3
    have q1 := X.heapSize
    have q2 := X.used
    simp only [hF, hU, List.length_cons, State.stackLimits_setFrames, State.stackBytes_setFrames, hl9, hb9]
    refine ⟨⟨⟨⟨by omega, by omega, by omega, by omega, by omega, h6⟩, ?_⟩, ?_⟩, X.book⟩
    · show T.heap.size + R'.cells ≤ e.platform.maxCells
      omega
    · show T.slotsUsed + R'.slots ≤ e.platform.maxSlots
      omega
  · rw [State.stackLimits_setFrames]; rfl
  · rw [State.stackBytes_setFrames]; rfl
  · refine ⟨?_, Nat.le_refl _, Nat.le_refl _, ?_, ?_, fun a c9 h9 => ⟨c9, h9, rfl, rfl, fun _ _ => rfl⟩⟩
    · obtain ⟨t, ht, -⟩ := State.frames_cons hr
      show T.setVm s.vm = { ((T.setVm s.vm).setFrames (.invoking m args :: below)).setFrames (T.setVm s.vm).frames with heap := T.heap, slotsUsed := T.slotsUsed }
      rw [State.setFrames_setFrames, State.setFrames_self ht]
      rfl
    · show T.slotsUsed = T.slotsUsed + ((T.heap.toList.drop T.heap.size).map (·.slots.size)).sum
      rw [List.drop_eq_nil_of_le (Nat.le_of_eq Array.length_toList)]
      rfl
    · show ((T.heap.toList.drop T.heap.size).map (·.slots.size)).sum ≤ 0
      rw [List.drop_eq_nil_of_le (Nat.le_of_eq Array.length_toList)]
      exact Nat.le_refl _
/-- 'throw new E()': new; dup; invokespecial; athrow -/
theorem vx_throw0 {cc : ByteArray} {pc : Nat} (hexec : p.tables.exec = Jvm.exec) (hb : c.code = cc) (hl : l.stackTraces = false) {own cls : String} {names : List String} {ik ic mc ms : Nat} {A : Nat → Prop}
    (hown : s.vm.findClass own = some m.cls) (hcls : Bundle.fit cls = true) (hnames : ∀ n ∈ names, Bundle.fit n = true)
    (hk : (Cond.classLink own ik cls).before args s = true) (hini : (Cond.initialized cls).before args s = true) (hat : ∀ w ∈ vx_at0 own ic cls names, w.before args s = true)
    (hgood : ∀ w ∈ Cond.classLink own ik cls :: Cond.initialized cls :: vx_at0 own ic cls names, vx_ot w = true)
    (hU : vx_Zq Bundle.tN "UNASSIGNED_STACK" Bundle.steD A s s.heap) (hN : vx_Zq Bundle.tN "SUPPRESSED_SENTINEL" Bundle.listD A s s.heap) (hS : va_S A s.heap H locs) (hsize : ls.size = c.maxLocals)
    (d0 : decode cc pc = .ok (.new ik, 3)) (d3 : decode cc (pc + 3) = .ok (.dup, 1)) (d4 : decode cc (pc + 4) = .ok (.invokespecial ic, 3)) (d7 : decode cc (pc + 7) = .ok (.athrow, 1))
    (hout : ∀ x ∈ c.exceptionTable.toList, covers x (pc + 7) = false)
    (hRframes : names.length + 3 < R.frames) (hRlocals : (rest.map fun v => v.category).sum + (13 * (names.length + 1) + 42) ≤ R.locals) (hRcells : cells + 1 ≤ R.cells) (hRslots : slots + 6 ≤ R.slots) (hlocks : meth.locks = false)
    (hx : ∀ t : State, s.vm.Alike t.vm → H.size ≤ t.heap.size → (∀ q : Nat, q < H.size → t.heap[q]? = H[q]?) → XC cls s t)
    (hf : ∀ z ∈ locs, free z.base) (hc : cells + 1 ≤ mc) (hs : slots + 6 ≤ ms) :
    W p l e R s m args below meth c H locs cells slots (vx_MQ below Qc XC args s mc ms free) (F0 m pc ls rest) := by
  intro T hT X
  have htr : e.platform.stackTraces = false := (show e.platform.stackTraces = l.stackTraces by rw [X.admits.platform]).trans hl
  have Y := vx_rebase X (R' := { frames := R.frames, locals := R.locals, cells := 1, slots := 6 }) (Nat.le_refl _) (Nat.le_refl _) hRcells hRslots
  obtain ⟨s', hA⟩ : ∃ z, z = (T.setVm s.vm).setFrames (.invoking m args :: below) := ⟨_, rfl⟩
  rw [← hA] at Y
  have hvm : s'.vm = s.vm := by rw [hA]; rfl
  have hhp : s'.heap = H := by rw [hA]; exact hT
  have hW0 : s.WarmedH s'.vm := by rw [hvm]; exact State.WarmedH.refl s
  have hat' : ∀ w ∈ vx_at0 own ic cls names, w.before args s' = true := fun w hw => vx_ot_at hW0 hvm.symm (hgood w (List.mem_cons_of_mem _ (List.mem_cons_of_mem _ hw))) (hat w hw)
  have hk' : (Cond.classLink own ik cls).before args s' = true := vx_ot_at hW0 hvm.symm (hgood _ List.mem_cons_self) hk
  have hini' : (Cond.initialized cls).before args s' = true := vx_ot_at hW0 hvm.symm (hgood _ (List.mem_cons_of_mem _ List.mem_cons_self)) hini
  have hU' : vx_Zq Bundle.tN "UNASSIGNED_STACK" Bundle.steD A s' s'.heap := by rw [hhp]; exact vx_Zq.moved hW0.alike (hU.kept hS.2.1)
  have hN' : vx_Zq Bundle.tN "SUPPRESSED_SENTINEL" Bundle.listD A s' s'.heap := by rw [hhp]; exact vx_Zq.moved hW0.alike (hN.kept hS.2.1)
  have h : ∀ w ∈ Bundle.ownAtoms0 own ic cls names, w.before args s' = true := vx_own hat' (vx_isRefq hU'.1) (vx_isRefq hN'.1) hU'.2.word hN'.2.word
  have hown' : s'.vm.findClass own = some m.cls := by rw [hvm]; exact hown
  have hins : (Cond.instantiable cls 6).before args s' = true := h _ (by simp [Bundle.ownAtoms0])
  obtain ⟨vm₁, cX, kX, hfX, hkX, -, -, X₁, st1⟩ := Y.newCold hexec (own := own) (C := cls) (index := ik) (n := 6) hown' hk' hins hini'
    (g := F0 m pc ls rest) rfl (by rw [hb]; exact d0) (Nat.le_refl _) (Nat.le_refl _)
  generalize hT1 : (T.setVm vm₁).pushCell { cls := cX, slots := kX.instanceTypes.map defaultValue, vm := .none } = T1 at X₁ st1
  have hcat : (Value.ref T.heap.size).category = 1 := rfl
  have hcellA : T1.heap[T.heap.size]? = some (freshCell cX kX) := by rw [← hT1]; exact State.heap_pushCell_size _ _
  have d3' : decode c.code (pc + 3) = .ok (.dup, 1) := by rw [hb]; exact d3
  obtain ⟨U, hsteps, hrun, hend, hW, hsame, ce, hce, hO⟩ := X₁.ctorThrow0 hexec htr (own := own) (cls := cls) (names := names) (ic := ic) hown' hcls hnames h (fun x hx => nomatch hx) hfX hkX hcellA (by rw [hhp, hT]; exact Nat.le_refl _)
    (g := { method := m, pc := pc + 4, locals := ls, stack := .ref T.heap.size :: .ref T.heap.size :: rest, locked := none }) rfl hsize rfl rfl (rest := rest) rfl
    (by rw [hb]; exact d4) (by rw [hb]; exact d7) hout hRframes (by simp only [List.map_cons, List.sum_cons, hcat]; omega) hlocks
  obtain ⟨f1, f2⟩ := vx_frame hsame
  rw [hhp] at f1 f2
  have hWs : s.WarmedH U.vm := State.WarmedH.trans hW0 hW
  have hcl : s.vm.findClass cls = some ce.cls := by
    have h9 := hO.cls
    rw [hvm] at h9
    exact h9
  have hall : s.sameButNew ({ U with vm := s.vm } : State) locs mc ms := by
    subst hA
    obtain ⟨e1, e2⟩ := hsame
    rw [State.setFrames_setFrames] at e1
    have h2 : (T.setVm s.vm).sameButNew ({ U with vm := s.vm } : State) [] (0 + 1) (0 + 6) := ⟨e1, e2⟩
    have h3 := X.same.trans h2
    rw [List.append_nil] at h3
    exact h3.mono hc hs
  refine ⟨U, ?_, .threw T.heap.size, hrun, hend, Or.inr ⟨T.heap.size, rfl, cls, ce, locs, hx U hWs.alike f1 (fun q hq => f2 q hq (fun z hz => nomatch hz)), hce, hO.vm, hcl, hWs, hall, hf⟩⟩
  refine st1 _ ?_
  show Steps p.tables e below (T1.setTop { method := m, pc := pc + 3, locals := ls, stack := .ref T.heap.size :: rest, locked := none }) _
  jvm_step X₁.here [X₁.here.top, hexec, d3', Value.category]
  exact hsteps
/-- 'throw new E("text")': new; dup; ldc; invokespecial; athrow -/
theorem vx_throwS {cc : ByteArray} {pc : Nat} (hexec : p.tables.exec = Jvm.exec) (hb : c.code = cc) (hl : l.stackTraces = false) {own cls text : String} {names : List String} {ik is ic mc ms sa : Nat} {A : Nat → Prop}
    (hown : s.vm.findClass own = some m.cls) (hcls : Bundle.fit cls = true) (hnames : ∀ n ∈ names, Bundle.fit n = true)
    (hk : (Cond.classLink own ik cls).before args s = true) (hini : (Cond.initialized cls).before args s = true) (hstr : vk_R own is text sa s) (hat : ∀ w ∈ vx_atS own ic cls names, w.before args s = true)
    (hgood : ∀ w ∈ Cond.classLink own ik cls :: Cond.initialized cls :: vx_atS own ic cls names, vx_ot w = true)
    (hU : vx_Zq Bundle.tN "UNASSIGNED_STACK" Bundle.steD A s s.heap) (hN : vx_Zq Bundle.tN "SUPPRESSED_SENTINEL" Bundle.listD A s s.heap) (hS : va_S A s.heap H locs) (hsize : ls.size = c.maxLocals)
    (d0 : decode cc pc = .ok (.new ik, 3)) (d3 : decode cc (pc + 3) = .ok (.dup, 1)) (d4 : decode cc (pc + 4) = .ok (.ldc is, 2)) (d6 : decode cc (pc + 6) = .ok (.invokespecial ic, 3)) (d9 : decode cc (pc + 9) = .ok (.athrow, 1))
    (hout : ∀ x ∈ c.exceptionTable.toList, covers x (pc + 9) = false)
    (hRframes : names.length + 3 < R.frames) (hRlocals : (rest.map fun v => v.category).sum + (13 * (names.length + 1) + 43) ≤ R.locals) (hRcells : cells + 1 ≤ R.cells) (hRslots : slots + 6 ≤ R.slots) (hlocks : meth.locks = false)
    (hx : ∀ t : State, s.vm.Alike t.vm → H.size ≤ t.heap.size → (∀ q : Nat, q < H.size → t.heap[q]? = H[q]?) → XC cls s t)
    (hf : ∀ z ∈ locs, free z.base) (hc : cells + 1 ≤ mc) (hs : slots + 6 ≤ ms) :
    W p l e R s m args below meth c H locs cells slots (vx_MQ below Qc XC args s mc ms free) (F0 m pc ls rest) := by
  intro T hT X
  have htr : e.platform.stackTraces = false := (show e.platform.stackTraces = l.stackTraces by rw [X.admits.platform]).trans hl
  have Y := vx_rebase X (R' := { frames := R.frames, locals := R.locals, cells := 1, slots := 6 }) (Nat.le_refl _) (Nat.le_refl _) hRcells hRslots
  obtain ⟨s', hA⟩ : ∃ z, z = (T.setVm s.vm).setFrames (.invoking m args :: below) := ⟨_, rfl⟩
  rw [← hA] at Y
  have hvm : s'.vm = s.vm := by rw [hA]; rfl
  have hhp : s'.heap = H := by rw [hA]; exact hT
  have hW0 : s.WarmedH s'.vm := by rw [hvm]; exact State.WarmedH.refl s
  have hat' : ∀ w ∈ vx_atS own ic cls names, w.before args s' = true := fun w hw => vx_ot_at hW0 hvm.symm (hgood w (List.mem_cons_of_mem _ (List.mem_cons_of_mem _ hw))) (hat w hw)
  have hk' : (Cond.classLink own ik cls).before args s' = true := vx_ot_at hW0 hvm.symm (hgood _ List.mem_cons_self) hk
  have hini' : (Cond.initialized cls).before args s' = true := vx_ot_at hW0 hvm.symm (hgood _ (List.mem_cons_of_mem _ List.mem_cons_self)) hini
  have hU' : vx_Zq Bundle.tN "UNASSIGNED_STACK" Bundle.steD A s' s'.heap := by rw [hhp]; exact vx_Zq.moved hW0.alike (hU.kept hS.2.1)
  have hN' : vx_Zq Bundle.tN "SUPPRESSED_SENTINEL" Bundle.listD A s' s'.heap := by rw [hhp]; exact vx_Zq.moved hW0.alike (hN.kept hS.2.1)
  have h : ∀ w ∈ Bundle.ownAtoms own ic cls names, w.before args s' = true := vx_own hat' (vx_isRefq hU'.1) (vx_isRefq hN'.1) hU'.2.word hN'.2.word
  have hown' : s'.vm.findClass own = some m.cls := by rw [hvm]; exact hown
  have hins : (Cond.instantiable cls 6).before args s' = true := h _ (by simp [Bundle.ownAtoms])
  obtain ⟨vm₁, cX, kX, hfX, hkX, -, -, X₁, st1⟩ := Y.newCold hexec (own := own) (C := cls) (index := ik) (n := 6) hown' hk' hins hini'
    (g := F0 m pc ls rest) rfl (by rw [hb]; exact d0) (Nat.le_refl _) (Nat.le_refl _)
  generalize hT1 : (T.setVm vm₁).pushCell { cls := cX, slots := kX.instanceTypes.map defaultValue, vm := .none } = T1 at X₁ st1
  have hcat : (Value.ref T.heap.size).category = 1 := rfl
  have hcellA : T1.heap[T.heap.size]? = some (freshCell cX kX) := by rw [← hT1]; exact State.heap_pushCell_size _ _
  have d3' : decode c.code (pc + 3) = .ok (.dup, 1) := by rw [hb]; exact d3
  have d4' : decode c.code (pc + 4) = .ok (.ldc is, 2) := by rw [hb]; exact d4
  have hstr' : vk_R own is text sa s' := vk_R.warm hW0 hstr
  obtain ⟨U, hsteps, hrun, hend, hW, hsame, ce, hce, hO⟩ := X₁.ctorThrowS hexec htr (own := own) (cls := cls) (names := names) (ic := ic) hown' hcls hnames h (fun x hx => nomatch hx) hfX hkX hcellA (by rw [hhp, hT]; exact Nat.le_refl _) (msg := .ref sa) rfl
    (g := { method := m, pc := pc + 6, locals := ls, stack := .ref sa :: .ref T.heap.size :: .ref T.heap.size :: rest, locked := none }) rfl hsize rfl rfl (rest := rest) rfl
    (by rw [hb]; exact d6) (by rw [hb]; exact d9) hout hRframes (by simp only [List.map_cons, List.sum_cons, hcat]; omega) hlocks
  obtain ⟨f1, f2⟩ := vx_frame hsame
  rw [hhp] at f1 f2
  have hWs : s.WarmedH U.vm := State.WarmedH.trans hW0 hW
  have hcl : s.vm.findClass cls = some ce.cls := by
    have h9 := hO.cls
    rw [hvm] at h9
    exact h9
  have hall : s.sameButNew ({ U with vm := s.vm } : State) locs mc ms := by
    subst hA
    obtain ⟨e1, e2⟩ := hsame
    rw [State.setFrames_setFrames] at e1
    have h2 : (T.setVm s.vm).sameButNew ({ U with vm := s.vm } : State) [] (0 + 1) (0 + 6) := ⟨e1, e2⟩
    have h3 := X.same.trans h2
    rw [List.append_nil] at h3
    exact h3.mono hc hs
  refine ⟨U, ?_, .threw T.heap.size, hrun, hend, Or.inr ⟨T.heap.size, rfl, cls, ce, locs, hx U hWs.alike f1 (fun q hq => f2 q hq (fun z hz => nomatch hz)), hce, hO.vm, hcl, hWs, hall, hf⟩⟩
  refine st1 _ ?_
  show Steps p.tables e below (T1.setTop { method := m, pc := pc + 3, locals := ls, stack := .ref T.heap.size :: rest, locked := none }) _
  jvm_step X₁.here [X₁.here.top, hexec, d3', Value.category]
  exact X₁.ldcString hexec (own := own) (text := text) (index := is) (a := sa) hown' hstr'.1 hstr'.2
    (g := { method := m, pc := pc + 4, locals := ls, stack := .ref T.heap.size :: .ref T.heap.size :: rest, locked := none }) rfl d4' _ hsteps
/-- 'throw new E("text")', the text by a wide index -/
theorem vx_throwSW {cc : ByteArray} {pc : Nat} (hexec : p.tables.exec = Jvm.exec) (hb : c.code = cc) (hl : l.stackTraces = false) {own cls text : String} {names : List String} {ik is ic mc ms sa : Nat} {A : Nat → Prop}
    (hown : s.vm.findClass own = some m.cls) (hcls : Bundle.fit cls = true) (hnames : ∀ n ∈ names, Bundle.fit n = true)
    (hk : (Cond.classLink own ik cls).before args s = true) (hini : (Cond.initialized cls).before args s = true) (hstr : vk_R own is text sa s) (hat : ∀ w ∈ vx_atS own ic cls names, w.before args s = true)
    (hgood : ∀ w ∈ Cond.classLink own ik cls :: Cond.initialized cls :: vx_atS own ic cls names, vx_ot w = true)
    (hU : vx_Zq Bundle.tN "UNASSIGNED_STACK" Bundle.steD A s s.heap) (hN : vx_Zq Bundle.tN "SUPPRESSED_SENTINEL" Bundle.listD A s s.heap) (hS : va_S A s.heap H locs) (hsize : ls.size = c.maxLocals)
    (d0 : decode cc pc = .ok (.new ik, 3)) (d3 : decode cc (pc + 3) = .ok (.dup, 1)) (d4 : decode cc (pc + 4) = .ok (.ldc_w is, 3)) (d7 : decode cc (pc + 7) = .ok (.invokespecial ic, 3)) (d10 : decode cc (pc + 10) = .ok (.athrow, 1))
    (hout : ∀ x ∈ c.exceptionTable.toList, covers x (pc + 10) = false)
    (hRframes : names.length + 3 < R.frames) (hRlocals : (rest.map fun v => v.category).sum + (13 * (names.length + 1) + 43) ≤ R.locals) (hRcells : cells + 1 ≤ R.cells) (hRslots : slots + 6 ≤ R.slots) (hlocks : meth.locks = false)
    (hx : ∀ t : State, s.vm.Alike t.vm → H.size ≤ t.heap.size → (∀ q : Nat, q < H.size → t.heap[q]? = H[q]?) → XC cls s t)
    (hf : ∀ z ∈ locs, free z.base) (hc : cells + 1 ≤ mc) (hs : slots + 6 ≤ ms) :
    W p l e R s m args below meth c H locs cells slots (vx_MQ below Qc XC args s mc ms free) (F0 m pc ls rest) := by
  intro T hT X
  have htr : e.platform.stackTraces = false := (show e.platform.stackTraces = l.stackTraces by rw [X.admits.platform]).trans hl
  have Y := vx_rebase X (R' := { frames := R.frames, locals := R.locals, cells := 1, slots := 6 }) (Nat.le_refl _) (Nat.le_refl _) hRcells hRslots
  obtain ⟨s', hA⟩ : ∃ z, z = (T.setVm s.vm).setFrames (.invoking m args :: below) := ⟨_, rfl⟩
  rw [← hA] at Y
  have hvm : s'.vm = s.vm := by rw [hA]; rfl
  have hhp : s'.heap = H := by rw [hA]; exact hT
  have hW0 : s.WarmedH s'.vm := by rw [hvm]; exact State.WarmedH.refl s
  have hat' : ∀ w ∈ vx_atS own ic cls names, w.before args s' = true := fun w hw => vx_ot_at hW0 hvm.symm (hgood w (List.mem_cons_of_mem _ (List.mem_cons_of_mem _ hw))) (hat w hw)
  have hk' : (Cond.classLink own ik cls).before args s' = true := vx_ot_at hW0 hvm.symm (hgood _ List.mem_cons_self) hk
  have hini' : (Cond.initialized cls).before args s' = true := vx_ot_at hW0 hvm.symm (hgood _ (List.mem_cons_of_mem _ List.mem_cons_self)) hini
  have hU' : vx_Zq Bundle.tN "UNASSIGNED_STACK" Bundle.steD A s' s'.heap := by rw [hhp]; exact vx_Zq.moved hW0.alike (hU.kept hS.2.1)
  have hN' : vx_Zq Bundle.tN "SUPPRESSED_SENTINEL" Bundle.listD A s' s'.heap := by rw [hhp]; exact vx_Zq.moved hW0.alike (hN.kept hS.2.1)
  have h : ∀ w ∈ Bundle.ownAtoms own ic cls names, w.before args s' = true := vx_own hat' (vx_isRefq hU'.1) (vx_isRefq hN'.1) hU'.2.word hN'.2.word
  have hown' : s'.vm.findClass own = some m.cls := by rw [hvm]; exact hown
  have hins : (Cond.instantiable cls 6).before args s' = true := h _ (by simp [Bundle.ownAtoms])
  obtain ⟨vm₁, cX, kX, hfX, hkX, -, -, X₁, st1⟩ := Y.newCold hexec (own := own) (C := cls) (index := ik) (n := 6) hown' hk' hins hini'
    (g := F0 m pc ls rest) rfl (by rw [hb]; exact d0) (Nat.le_refl _) (Nat.le_refl _)
  generalize hT1 : (T.setVm vm₁).pushCell { cls := cX, slots := kX.instanceTypes.map defaultValue, vm := .none } = T1 at X₁ st1
  have hcat : (Value.ref T.heap.size).category = 1 := rfl
  have hcellA : T1.heap[T.heap.size]? = some (freshCell cX kX) := by rw [← hT1]; exact State.heap_pushCell_size _ _
  have d3' : decode c.code (pc + 3) = .ok (.dup, 1) := by rw [hb]; exact d3
  have d4' : decode c.code (pc + 4) = .ok (.ldc_w is, 3) := by rw [hb]; exact d4
  have hstr' : vk_R own is text sa s' := vk_R.warm hW0 hstr
  obtain ⟨U, hsteps, hrun, hend, hW, hsame, ce, hce, hO⟩ := X₁.ctorThrowS hexec htr (own := own) (cls := cls) (names := names) (ic := ic) hown' hcls hnames h (fun x hx => nomatch hx) hfX hkX hcellA (by rw [hhp, hT]; exact Nat.le_refl _) (msg := .ref sa) rfl
    (g := { method := m, pc := pc + 7, locals := ls, stack := .ref sa :: .ref T.heap.size :: .ref T.heap.size :: rest, locked := none }) rfl hsize rfl rfl (rest := rest) rfl
    (by rw [hb]; exact d7) (by rw [hb]; exact d10) hout hRframes (by simp only [List.map_cons, List.sum_cons, hcat]; omega) hlocks
  obtain ⟨f1, f2⟩ := vx_frame hsame
  rw [hhp] at f1 f2
  have hWs : s.WarmedH U.vm := State.WarmedH.trans hW0 hW
  have hcl : s.vm.findClass cls = some ce.cls := by
    have h9 := hO.cls
    rw [hvm] at h9
    exact h9
  have hall : s.sameButNew ({ U with vm := s.vm } : State) locs mc ms := by
    subst hA
    obtain ⟨e1, e2⟩ := hsame
    rw [State.setFrames_setFrames] at e1
    have h2 : (T.setVm s.vm).sameButNew ({ U with vm := s.vm } : State) [] (0 + 1) (0 + 6) := ⟨e1, e2⟩
    have h3 := X.same.trans h2
    rw [List.append_nil] at h3
    exact h3.mono hc hs
  refine ⟨U, ?_, .threw T.heap.size, hrun, hend, Or.inr ⟨T.heap.size, rfl, cls, ce, locs, hx U hWs.alike f1 (fun q hq => f2 q hq (fun z hz => nomatch hz)), hce, hO.vm, hcl, hWs, hall, hf⟩⟩
  refine st1 _ ?_
  show Steps p.tables e below (T1.setTop { method := m, pc := pc + 3, locals := ls, stack := .ref T.heap.size :: rest, locked := none }) _
  jvm_step X₁.here [X₁.here.top, hexec, d3', Value.category]
  exact X₁.ldcStringW hexec (own := own) (text := text) (index := is) (a := sa) hown' hstr'.1 hstr'.2
    (g := { method := m, pc := pc + 4, locals := ls, stack := .ref T.heap.size :: .ref T.heap.size :: rest, locked := none }) rfl d4' _ hsteps
end Ends
section Bodies
variable {l : Launch}
theorem vx_ofW {y : MethodName} {ws ws' : List Cond} {rm : Room} {Pc : Array Value → State → Prop} {Qc : Array Value → State → Outcome → State → Prop} {XC : String → State → State → Prop} {mc ms : Nat} {free : Addr → Prop} {cc : ByteArray} {maxL : Nat} {ret : Option FieldType}
    (hy : plainName y.cls = true) (hw : ws = Cond.code y cc maxL ret :: ws')
    (body : ∀ p e s m args below meth c s₁, BodyLoose p l y (headSpec ws rm) cc maxL ret e s m args below meth c s₁ → c.maxLocals = maxL → (∀ x ∈ c.exceptionTable.toList, False) → Pc args s →
      W p l e (headSpec ws rm).room s m args below meth c s.heap [] 0 0 (vx_MQ below Qc XC args s mc ms free) (entryFrame m args maxL)) : vx_Met l y ws rm Pc Qc XC mc ms free := by
  refine MetFree.of_bodyS (code := cc) (maxLocals := maxL) (ret := ret) hy ?_ ?_
  · intro args s m h hn
    obtain ⟨meth, c, h1, h2, h3, h4, h5, h6, -, -⟩ := Cond.code_spec hn (atoms_spec (ws := ws) h _ (by rw [hw]; exact List.mem_cons_self))
    exact ⟨meth, c, h1, h2, h3, h4, h5, h6⟩
  · intro p e s m args below meth c s₁ B hml hP _
    have hh0 : s₁.heap = s.heap := by rw [B.state]; rfl
    have ht : ∀ x ∈ c.exceptionTable.toList, False := by
      obtain ⟨meth9, c9, h1, h2, -, -, -, -, h7, -⟩ := Cond.code_spec B.named (atoms_spec (ws := ws) B.pre _ (by rw [hw]; exact List.mem_cons_self))
      cases Option.some.inj (h1.symm.trans B.method)
      cases Option.some.inj (h2.symm.trans (Stand.of_body B).code)
      intro x hx
      rw [Array.isEmpty_iff.mp h7] at hx
      cases hx
    obtain ⟨t, a1, o, b1, b2, b3⟩ := body p e s m args below meth c s₁ B hml ht hP s₁ hh0 (Stand.of_body B)
    exact ⟨t, o, a1, b1, b2, b3⟩
/-- the table of a body with handlers -/
theorem vx_table {p : Program} {x y : MethodName} {S : Spec} {cc bytes : ByteArray} {maxL maxL' : Nat} {ret ret' : Option FieldType} {e : Env} {s s₁ : State} {m : MethodId} {args : Array Value} {below : List Frame} {meth : Method} {c : Code} {hh : List (Nat × Nat × Nat × Nat)}
    (B : BodyLoose p l y S cc maxL ret e s m args below meth c s₁) (h : (Cond.codeWith y bytes maxL' ret' hh).before args s = true) : c.exceptionTable.toList = tableOf hh := by
  obtain ⟨m9, meth9, c9, hn9, h1, h2, -, -, h6, -⟩ := Cond.codeWith_spec h
  cases Option.some.inj (hn9.symm.trans B.named)
  cases Option.some.inj (h1.symm.trans B.method)
  cases Option.some.inj (h2.symm.trans (Stand.of_body B).code)
  rw [← h6, table_eq]
end Bodies
end VXA
/-! ===== END ===== -/
/-! ===== BEGIN a static call of a method with an exception table ===== -/
section VXS
variable {p : Program} {l : Launch} {e : Env} {R : Room} {s : State} {m : MethodId} {args : Array Value} {below : List Frame} {meth : Method} {c : Code} {T : State} {H : Heap} {locs : List Loc} {cells slots : Nat}
abbrev vx_CSW (R : Room) (s : State) (args : Array Value) (own : String) (index : Nat) (y : MethodName) (bytes : ByteArray) (maxL : Nat) (ret : Option FieldType) (hh : List (Nat × Nat × Nat × Nat)) (ws : List Cond) (rm : Room) (mc ms n : Nat) : Prop :=
  (rm.cells = mc ∧ rm.slots = ms ∧ rm.frames + 1 ≤ R.frames ∧ 8 + (maxL + 11) + rm.locals ≤ R.locals ∧ (∀ w ∈ ws, ∀ (a' : Array Value) (U : State), s.WarmedH U.vm → w.before a' U = true) ∧ Cond.codeWith y bytes maxL ret hh ∈ ws) ∧
  (Cond.codeWith y bytes maxL ret hh).before args s = true ∧ (Cond.initialized y.cls).before args s = true ∧ (y.cls ≠ "java/lang/invoke/MethodHandle" ∧ y.cls ≠ "java/lang/invoke/VarHandle") ∧
  (∀ sig, parseMethodDescriptor y.desc = some sig → n = sig.parameters.length) ∧ (Cond.methodLink own index y).before args s = true ∧ (Cond.static y).before args s = true
theorem vx_cwSW {own : String} {index maxL mc ms : Nat} {y : MethodName} {bytes : ByteArray} {ret : Option FieldType} {hh : List (Nat × Nat × Nat × Nat)} {Ts ws ws' : List Cond} {rm : Room} (n : Nat) (ht : ∀ w ∈ Ts, w.before args s = true) (hT : GoodIn Ts (va_wsS own index y ws)) (hw : ws = Cond.codeWith y bytes maxL ret hh :: ws') (hrc : rm.cells = mc) (hrs : rm.slots = ms)
    (hd : y.cls ≠ "java/lang/invoke/MethodHandle" ∧ y.cls ≠ "java/lang/invoke/VarHandle" ∧ (parseMethodDescriptor y.desc).map (fun d => d.parameters.length) = some n) (hR : rm.frames + 1 ≤ R.frames ∧ 8 + (maxL + 11) + rm.locals ≤ R.locals) :
    vx_CSW R s args own index y bytes maxL ret hh ws rm mc ms n := by
  have ok : ∀ w ∈ va_wsS own index y ws, w.before args s = true := fun w h => ht w (hT w h).1
  have hG : GoodIn Ts ws := fun w h => hT w (by unfold va_wsS; exact List.mem_append_right _ h)
  have hc : Cond.codeWith y bytes maxL ret hh ∈ ws := by rw [hw]; exact List.mem_cons_self
  refine ⟨⟨hrc, hrs, hR.1, hR.2, pay_in ht hG, hc⟩, ht _ (hG _ hc).1, ok _ (by simp [va_wsS]), ⟨hd.1, hd.2.1⟩, fun sig h => ?_, ok _ (by simp [va_wsS]), ok _ (by simp [va_wsS])⟩
  have h2 := hd.2.2
  rw [h] at h2
  exact (Option.some.inj h2).symm
theorem vx_callSW (X : Stand p l e R s m args below meth c T locs cells slots) (hexec : p.tables.exec = Jvm.exec) {own : String} {index : Nat} {y : MethodName} {bytes : ByteArray} {maxL : Nat} {ret : Option FieldType} {hh : List (Nat × Nat × Nat × Nat)}
    (hown : s.vm.findClass own = some m.cls) (hlink : (Cond.methodLink own index y).before args s = true) (hstat : (Cond.static y).before args s = true) (hinit : (Cond.initialized y.cls).before args s = true)
    (hcode : (Cond.codeWith y bytes maxL ret hh).before args s = true) (hy : y.cls ≠ "java/lang/invoke/MethodHandle" ∧ y.cls ≠ "java/lang/invoke/VarHandle")
    {W9 : Nat} {Pre : Pt → Array Value → Prop} {Post : Pt → Array Value → Option Value → Pt → Prop} (hK : Back l R p e below s args y 3 W9 Pre Post)
    {g : JFrame} (hg : g.method = m) (hsize : g.locals.size = c.maxLocals) {argsL rest : List Value} (hlen : ∀ sig, parseMethodDescriptor y.desc = some sig → argsL.length = sig.parameters.length)
    (hstack : g.stack = argsL.reverse ++ rest) (hW : 2 * g.monitorRoom + (rest.map fun v => v.category).sum ≤ W9) (hdg : decode c.code g.pc = .ok (.invokestatic index, 3))
    (hpre : ∀ vm₁, s.WarmedH vm₁ → Pre ⟨T.setVm vm₁, locs, cells, slots⟩ argsL.toArray) :
    ∃ (v : Option Value) (vm₁ : Vm) (B : Pt), s.WarmedH vm₁ ∧ Stand p l e R s m args below meth c B.U B.locs B.cells B.slots ∧ Post ⟨T.setVm vm₁, locs, cells, slots⟩ argsL.toArray v B ∧
      ∀ target, Steps p.tables e below (B.U.setTop { g with pc := g.pc + 3, stack := v.toList ++ rest }) target → Steps p.tables e below (T.setTop g) target := by
  obtain ⟨mk, methM, cM, hnamed, hmethM, -, -, -, -, -, -, hsigM⟩ := Cond.codeWith_spec hcode
  have hstatic : methM.isStatic = true := Cond.static_spec hnamed hmethM hstat
  obtain ⟨kP, hkP, -⟩ := className_of_methodNamed hnamed
  have hinitP : kP.init = .initialized := Cond.initialized_spec (findClass_of_methodNamed hnamed) hkP hinit
  obtain ⟨vm₁, X₁, hstep₁⟩ := X.invokestatic hexec hown hlink hnamed hmethM hstatic hkP hinitP hy (g := g) hg (argsL := argsL) (rest := rest) (hlen _ hsigM) hstack hdg
  obtain ⟨v, B, X', hpost, hsteps⟩ := hK m meth c ⟨T.setVm vm₁, locs, cells, slots⟩ { g with stack := rest } (.invokestatic index) mk argsL.toArray X₁ hg hsize hdg hW (X₁.named hnamed) (hpre vm₁ X₁.warmed)
  exact ⟨v, vm₁, B, X₁.warmed, X', hpost, fun target h => hstep₁ _ fun acts => by rw [doInvoke_state]; exact hsteps.trans h⟩
theorem vx_runSW {y : MethodName} {bytes cc : ByteArray} {maxL nL mc ms n index : Nat} {ret : Option FieldType} {hh : List (Nat × Nat × Nat × Nat)} {ws : List Cond} {rm : Room} {Pc : Array Value → State → Prop} {Qc : Array Value → State → Outcome → State → Prop} {free : Addr → Prop} {Ts : List Cond} {own : String} {As rest : List Value} {g : JFrame}
    (S : CallFix p m c cc nL s args Ts own) (hM : Met l y ws rm Pc Qc mc ms free) (cw : vx_CSW R s args own index y bytes maxL ret hh ws rm mc ms n) (hp : PreS s H Pc As)
    (hg : g.method = m) (hn : As.length = n) (hsize : g.locals.size = nL) (hstack : g.stack = As.reverse ++ rest) (hW : 2 * g.monitorRoom + (rest.map fun v => v.category).sum ≤ 8) (hdg : decode cc g.pc = .ok (.invokestatic index, 3)) (hf : cells + mc ≤ R.cells ∧ slots + ms ≤ R.slots) :
    va_Run p l e R s m args below meth c H locs cells slots mc ms g rest (Qc As.toArray) (free) := by
  obtain ⟨⟨hrc, hrs, hfr, hlo, hws, hcw⟩, hcode, hini, hy, hlen, hl, hstt⟩ := cw
  have hK : Back l R p e below s args y 3 8 (PreOf R mc ms Pc) (PostOf Qc mc ms free) := va_backW (hh := hh) (bytes := bytes) (maxL := maxL) (ret := ret) hM hp.1 hrc hrs hfr hlo hws hcw (fun a' U hW => word_at hW (Or.inl (by first | rfl | simp [Cond.onTables, Cond.keeps, Cond.steady])) hini)
  obtain ⟨hx, hb, hml, ho, -⟩ := S
  intro T hT X
  obtain ⟨v, vm₁, ⟨U', l2, c2, s2⟩, hW₁, X', ⟨g', mk, t, L, e1, e2, hq, h1, hL, h2, h3⟩, st⟩ := vx_callSW X hx (hh := hh) (bytes := bytes) (maxL := maxL) (ret := ret) ho hl hstt hini hcode hy hK hg (hsize.trans hml.symm) (argsL := As) (rest := rest) (fun sig h => hn.trans (hlen sig h)) hstack hW (by rw [hb]; exact hdg)
    (fun vm₁ hW₁ => ⟨hf.1, hf.2, hp.2 (T.setVm vm₁) hT hW₁⟩)
  dsimp only [Pt.U, Pt.locs, Pt.cells, Pt.slots] at X' e1 e2 h1 h2 h3 st
  subst h1; subst h2; subst h3
  exact ⟨v, (T.setVm vm₁).calling g' mk As.toArray, t, U', L, hT, X', hL, e1, e2, hq, st⟩
/-- not caught here, past rows that name other classes: it goes on to the caller -/
theorem vx_outP {p : Program} {l : Launch} {e : Env} {R : Room} {s : State} {m : MethodId} {args : Array Value} {below : List Frame} {meth : Method} {c : Code} {H : Heap} {locs : List Loc} {cells slots : Nat} {free : Addr → Prop} {ls : Array Slot} {rest : List Value} {Qc : Array Value → State → Outcome → State → Prop} {XC : String → State → State → Prop}
    {pc : Nat} {own E : String} {ce : Cell} {q : Addr} {mc ms : Nat} (hown : s.vm.findClass own = some m.cls) (hlocks : meth.locks = false)
    (hpass : ∀ z ∈ c.exceptionTable.toList, covers z pc = false ∨ (z.catchType ≠ 0 ∧ ∃ nm : String, (Cond.classLink own z.catchType nm).before args s = true ∧ va_Nc E nm s)) (hcell : H[q]? = some ce) (hv : ce.vm = .none) (hcl : s.vm.findClass E = some ce.cls)
    (hx : ∀ t : State, t.heap = H → s.vm.Alike t.vm → XC E s t) (hf : ∀ z ∈ locs, free z.base) (hc : cells ≤ mc) (hs : slots ≤ ms) :
    vx_W p l e R s m args below meth c H locs cells slots (vx_MQ below Qc XC args s mc ms free) (F0 m pc ls rest) q := by
  intro T hT X
  have hpl : e.platform.magicAccessors = ({} : Platform).magicAccessors := by rw [X.admits.platform]
  obtain ⟨vm', hW', X', st⟩ := X.outThrough hlocks q (g := F0 m pc ls rest) rfl rfl rfl (cell := ce) (by rw [hT]; exact hcell) (by rw [hv]; rfl)
    (by obtain ⟨k9, h9, -⟩ := Vm.findClass_spec hcl; exact ⟨k9, h9⟩) (fun z hz => by
      rcases hpass z hz with h | ⟨hz0, nm, hl1, hn1⟩
      · exact Or.inl h
      · obtain ⟨c6, hc6, hcl6⟩ := Cond.classLink_spec hown hl1 e.platform hpl
        obtain ⟨a8, b8, h1, h2, h3⟩ := hn1
        cases Option.some.inj (h1.symm.trans hcl)
        cases Option.some.inj (h2.symm.trans hc6)
        exact Or.inr ⟨hz0, _, hcl6, h3⟩)
  obtain ⟨g₀, hfr⟩ := X'.frames_eq
  have hcell9 : ((T.setVm vm').setFrames (.throwing q :: below)).heap[q]? = some ce := by
    show T.heap[q]? = some ce
    rw [hT]; exact hcell
  have hend : Ended ((T.setVm vm').setFrames (.throwing q :: below)) below (.threw q) := State.frames_setFrames _ (State.cur_lt_of_frames hfr)
  refine ⟨(T.setVm vm').setFrames (.throwing q :: below), ?_, .threw q, X'.here.running, hend, Or.inr ⟨q, rfl, E, ce, locs, hx _ hT (X'.ends _).1.alike, hcell9, hv, hcl, (X'.ends _).1, (X'.ends _).2.mono hc hs, hf⟩⟩
  rw [X.pushThrowing_eq]
  exact st
/-- a thing of a world lies in the heap -/
theorem vx_lt {D : va_G} {cl : List vw_C} {ws : va_W} {H1 : Heap} (h : va_P D cl ws H1) {k : Nat} {q : Nat × va_E} (hk : ws[k]? = some q) : q.1 < H1.size := (h k q hk).lt
end VXS
/-! ===== END ===== -/
/-! ===== BEGIN methods with a table of their own: called by a name, returning or throwing ===== -/
section VXH
/-! vx_backW, vx_callVX, vx_callSX, vx_callVW, vx_runVW, vx_runVX, vx_runSX, vx_ofWH follow the same proofs as their sisters above (Free/Laws.lean, Shelf42/LK1.lean); vx_outP calls Shelf42/NT130.lean (outThrough). -/
section
variable {l : Launch} {R : Room} {p : Program} {e : Env} {below : List Frame} {s : State} {sargs : Array Value} {y : MethodName} {len W9 : Nat}
theorem vx_backW {ws : List Cond} {rm : Room} {Pc : Array Value → State → Prop} {Qc : Array Value → State → Outcome → State → Prop} {XC : String → State → State → Prop} {mc ms : Nat} {free : Addr → Prop} {bytes : ByteArray} {maxL : Nat} {ret : Option FieldType} {hh : List (Nat × Nat × Nat × Nat)}
    (hM : vx_Met l y ws rm Pc Qc XC mc ms free) (hblind : FrameBlind Pc) (hrc : rm.cells = mc) (hrs : rm.slots = ms)
    (hframes : rm.frames + 1 ≤ R.frames) (hlocals : W9 + (maxL + 11) + rm.locals ≤ R.locals)
    (hws : ∀ w ∈ ws, ∀ a' U, s.WarmedH U.vm → w.before a' U = true) (hcode : Cond.codeWith y bytes maxL ret hh ∈ ws) (hinit : ∀ a' U, s.WarmedH U.vm → (Cond.initialized y.cls).before a' U = true) :
    vx_Back l R p e below s sargs y len W9 (PreOf R mc ms Pc) (PostOf Qc mc ms free) (vx_Post XC mc ms free) := by
  intro m meth c A g ig mk a X hg hsize hdg hW hn hp
  have h1 : (headSpec ws rm).pre.before a A.U = true := atoms_intro fun w hw => hws w hw _ _ X.warmed
  have h2 : (Cond.codeWith y bytes maxL ret hh).before a A.U = true := hws _ hcode _ _ X.warmed
  have h3 : (Cond.initialized y.cls).before a A.U = true := hinit _ _ X.warmed
  have h4 : A.cells + (headSpec ws rm).room.cells ≤ R.cells := by rw [show (headSpec ws rm).room.cells = mc from hrc]; exact hp.1
  have h5 : A.slots + (headSpec ws rm).room.slots ≤ R.slots := by rw [show (headSpec ws rm).room.slots = ms from hrs]; exact hp.2.1
  have hPc : Pc a (A.U.calling g mk a) := hblind _ _ _ _ hp.2.2
  obtain ⟨U, Ls, c0, s0⟩ := A
  dsimp only [Pt.U, Pt.locs, Pt.cells, Pt.slots] at h1 h2 h3 h4 h5 X hn hPc ⊢
  obtain ⟨m9, methY, cY, hn9, hmY, hcY, -, hlY, -⟩ := Cond.codeWith_spec h2
  cases Option.some.inj (hn9.symm.trans hn)
  obtain ⟨kY, hkY, -⟩ := className_of_methodNamed hn
  have hinitY : kY.init = .initialized := Cond.initialized_spec (findClass_of_methodNamed hn) hkY h3
  have h : At U g.method c below := by rw [hg]; exact X.here
  have hlocals9 : W9 + (maxL + 11) + (headSpec ws rm).room.locals ≤ R.locals := hlocals
  have happ : (headSpec ws rm).appliesLoose y e.platform (U.calling g mk a) = true :=
    Spec.appliesLoose_calling (g := g) h hdg hn hkY hinitY
      (X.room_calling (g := g) (R' := (headSpec ws rm).room) hsize hmY hcY hframes (by rw [hlY]; omega) h4 h5) h1
  obtain ⟨mid, hmid⟩ := h.above
  have hfr : (U.setTop g).frames = (.java g :: mid) ++ below := by rw [State.frames_setTop' g h.top, hmid]; rfl
  obtain ⟨o, s₂, hsteps, -, hend, hq⟩ := Steps.callFree hM p X.admits X.cas X.clock (acts := []) hfr happ hPc trivial
  have hq' : vx_Q Qc XC mc ms free a (U.calling g mk a) o s₂ := hq
  rw [State.frames_setTop' g h.top] at hend
  obtain ⟨g₀, hg0⟩ := Option.isSome_iff_exists.mp h.top
  obtain ⟨r, hr⟩ := State.topJava?_eq_some.mp hg0
  have hr' : (({ U with heap := s₂.heap, slotsUsed := s₂.slotsUsed } : State).setVm s₂.vm).frames = .java g₀ :: r := hr
  rcases hq' with ⟨hqc, L, hfe, hL⟩ | ⟨q, rfl, E, ce, L, hx, hce, hcv, hcl, hW₂, hsm, hL⟩
  · obtain ⟨⟨v, rfl⟩, hW₂, e2, q2, q3, q4, q5, q6⟩ := id hfe
    have e3 : s₂ = ({ (U.calling g mk a).setFrames s₂.frames with heap := s₂.heap, slotsUsed := s₂.slotsUsed } : State).setVm s₂.vm := by
      have : s₂ = ({ s₂ with vm := (U.calling g mk a).vm } : State).setVm s₂.vm := rfl
      rw [e2] at this
      exact this
    obtain ⟨c₂, i₂, len₂, hc₂, hd₂, hf₂⟩ := hend
    have hW' : U.WarmedH s₂.vm := hW₂
    have hcc : c₂ = c := by
      have h1 : s₂.code? g.method = U.code? g.method := by
        rw [State.code?_eq, State.code?_eq, hW'.alike.method?]
      exact Option.some.inj (hc₂.symm.trans (h1.trans h.code))
    subst hcc
    have hlen : len₂ = len := by rw [hdg] at hd₂; cases hd₂; rfl
    subst hlen
    have hs₂ : s₂ = (({ U with heap := s₂.heap, slotsUsed := s₂.slotsUsed } : State).setVm s₂.vm).setTop { g with pc := g.pc + len₂, stack := v.toList ++ g.stack } := by
      refine e3.trans ?_
      rw [hf₂, State.calling_eq h.top, State.setFrames_setFrames, State.setTop_of_frames _ hr', hr]
      rfl
    have hsame : U.sameButNew ({ U with heap := s₂.heap, slotsUsed := s₂.slotsUsed } : State) L mc ms := by
      refine ⟨?_, q2, q3, q4, q5, q6⟩
      obtain ⟨t, ht, -⟩ := State.frames_cons hr
      show ({ U with heap := s₂.heap, slotsUsed := s₂.slotsUsed } : State) = { U.setFrames U.frames with heap := s₂.heap, slotsUsed := s₂.slotsUsed }
      rw [State.setFrames_self ht]
    subst hg
    refine Or.inl ⟨v, ⟨(({ U with heap := s₂.heap, slotsUsed := s₂.slotsUsed } : State).setVm s₂.vm), Ls ++ L, c0 + mc, s0 + ms⟩,
      ⟨X.admits, X.cas, X.clock, X.frames, X.room, X.hears, X.method, X.code, (X.here.setHeapUsed s₂.heap s₂.slotsUsed).setVm hW'.alike, X.tail, State.WarmedH.trans X.warmed hW', X.limits, X.bytes, X.same.trans (hsame.setVm s.vm)⟩,
      ⟨g, mk, s₂, L, rfl, rfl, hqc, rfl, hL, rfl, rfl⟩, ?_⟩
    show Steps p.tables e below _ ((({ U with heap := s₂.heap, slotsUsed := s₂.slotsUsed } : State).setVm s₂.vm).setTop { g with pc := g.pc + len₂, stack := v.toList ++ g.stack })
    rw [← hs₂]
    exact hsteps
  · obtain ⟨e2, q2, q3, q4, q5, q6⟩ := id hsm
    have e3 : s₂ = ({ (U.calling g mk a).setFrames s₂.frames with heap := s₂.heap, slotsUsed := s₂.slotsUsed } : State).setVm s₂.vm := by
      have : s₂ = ({ s₂ with vm := (U.calling g mk a).vm } : State).setVm s₂.vm := rfl
      rw [e2] at this
      exact this
    have hf₂ : s₂.frames = .throwing q :: .java g :: U.frames.tail := hend
    have hW' : U.WarmedH s₂.vm := hW₂
    have hs₂ : s₂ = ((({ U with heap := s₂.heap, slotsUsed := s₂.slotsUsed } : State).setVm s₂.vm).setTop g).pushFrame (.throwing q) := by
      refine e3.trans ?_
      rw [hf₂, State.calling_eq h.top, State.setFrames_setFrames, State.pushFrame, State.frames_setTop _ hr', State.setTop_of_frames _ hr', State.setFrames_setFrames, hr]
      rfl
    have hsame : U.sameButNew ({ U with heap := s₂.heap, slotsUsed := s₂.slotsUsed } : State) L mc ms := by
      refine ⟨?_, q2, q3, q4, q5, q6⟩
      obtain ⟨t, ht, -⟩ := State.frames_cons hr
      show ({ U with heap := s₂.heap, slotsUsed := s₂.slotsUsed } : State) = { U.setFrames U.frames with heap := s₂.heap, slotsUsed := s₂.slotsUsed }
      rw [State.setFrames_self ht]
    subst hg
    refine Or.inr ⟨q, ⟨(({ U with heap := s₂.heap, slotsUsed := s₂.slotsUsed } : State).setVm s₂.vm), Ls ++ L, c0 + mc, s0 + ms⟩,
      ⟨X.admits, X.cas, X.clock, X.frames, X.room, X.hears, X.method, X.code, (X.here.setHeapUsed s₂.heap s₂.slotsUsed).setVm hW'.alike, X.tail, State.WarmedH.trans X.warmed hW', X.limits, X.bytes, X.same.trans (hsame.setVm s.vm)⟩,
      ⟨g, mk, s₂, L, E, ce, rfl, rfl, hx, hce, hcv, hcl, rfl, hL, rfl, rfl⟩, ?_⟩
    show Steps p.tables e below _ (((({ U with heap := s₂.heap, slotsUsed := s₂.slotsUsed } : State).setVm s₂.vm).setTop g).pushFrame (.throwing q))
    rw [← hs₂]
    exact hsteps
end
variable {p : Program} {l : Launch} {e : Env} {R : Room} {s : State} {m : MethodId} {args : Array Value} {below : List Frame} {meth : Method} {c : Code} {T : State} {H : Heap} {locs : List Loc} {cells slots : Nat}
theorem vx_callVX (X : Stand p l e R s m args below meth c T locs cells slots) (hexec : p.tables.exec = Jvm.exec) {own C : String} {index : Nat} {y : MethodName} {bytes : ByteArray} {maxL : Nat} {ret : Option FieldType} {hh : List (Nat × Nat × Nat × Nat)}
    (hown : s.vm.findClass own = some m.cls) (hlink : (Cond.methodLink own index y).before args s = true) (hinst : (Cond.instanceMethod y).before args s = true) (hsel : (Cond.selects C y y).before args s = true)
    (hcode : (Cond.codeWith y bytes maxL ret hh).before args s = true) (hy : y.cls ≠ "java/lang/invoke/MethodHandle" ∧ y.cls ≠ "java/lang/invoke/VarHandle")
    {W9 : Nat} {Pre : Pt → Array Value → Prop} {Post : Pt → Array Value → Option Value → Pt → Prop} {PostX : Pt → Array Value → Addr → Pt → Prop} (hK : vx_Back l R p e below s args y 3 W9 Pre Post PostX)
    {b : Addr} {cellB : Cell} (hcell : T.heap[b]? = some cellB) (hobj : cellB.vm.isStatics = false) (hcls : s.vm.findClass C = some cellB.cls)
    {g : JFrame} (hg : g.method = m) (hsize : g.locals.size = c.maxLocals) {argsL rest : List Value} (hlen : ∀ sig, parseMethodDescriptor y.desc = some sig → argsL.length = sig.parameters.length)
    (hstack : g.stack = argsL.reverse ++ .ref b :: rest) (hW : 2 * g.monitorRoom + (rest.map fun v => v.category).sum ≤ W9) (hdg : decode c.code g.pc = .ok (.invokevirtual index, 3))
    (hpre : ∀ vm₁, s.WarmedH vm₁ → Pre ⟨T.setVm vm₁, locs, cells, slots⟩ (Value.ref b :: argsL).toArray) :
    (∃ (v : Option Value) (vm₁ : Vm) (B : Pt), s.WarmedH vm₁ ∧ Stand p l e R s m args below meth c B.U B.locs B.cells B.slots ∧ Post ⟨T.setVm vm₁, locs, cells, slots⟩ (Value.ref b :: argsL).toArray v B ∧
      ∀ target, Steps p.tables e below (B.U.setTop { g with pc := g.pc + 3, stack := v.toList ++ rest }) target → Steps p.tables e below (T.setTop g) target) ∨
    (∃ (q : Addr) (vm₁ : Vm) (B : Pt), s.WarmedH vm₁ ∧ Stand p l e R s m args below meth c B.U B.locs B.cells B.slots ∧ PostX ⟨T.setVm vm₁, locs, cells, slots⟩ (Value.ref b :: argsL).toArray q B ∧
      Steps p.tables e below (T.setTop g) ((B.U.setTop { g with stack := rest }).pushFrame (.throwing q))) := by
  obtain ⟨mk, methM, hnamed, hmethM, hstM, habM⟩ := Cond.instanceMethod_spec hinst
  obtain ⟨m8, methM', cM, hn8, hmethM', -, -, -, -, -, -, hsigM⟩ := Cond.codeWith_spec hcode
  cases Option.some.inj (hn8.symm.trans hnamed)
  cases hmethM.symm.trans hmethM'
  obtain ⟨c2, r2, m2, q1, q2, q3, q4, kP, hkP, hkPi⟩ := Cond.selects_spec hsel
  cases hcls.symm.trans q1
  cases (State.methodFound?_of_named hnamed hy).symm.trans q2
  cases hnamed.symm.trans q3
  have hselP : selectMethod e.platform s.vm cellB.cls mk = .method mk := by rw [Launch.admits_selectMethod X.admits]; exact q4
  obtain ⟨vm₁, X₁, hstep₁⟩ := X.invokevirtual hexec hown hlink hnamed hmethM hstM hkP hkPi hy (a := b) (cell := cellB) hcell
    (fun z h => by rw [h] at hobj; cases hobj) hselP hmethM habM hkP hkPi (g := g) hg (argsL := argsL) (rest := rest) (hlen _ hsigM) hstack hdg
  rcases hK m meth c ⟨T.setVm vm₁, locs, cells, slots⟩ { g with stack := rest } (.invokevirtual index) mk (Value.ref b :: argsL).toArray X₁ hg hsize hdg hW (X₁.named hnamed) (hpre vm₁ X₁.warmed) with ⟨v, B, X', hpost, hsteps⟩ | ⟨q, B, X', hpost, hsteps⟩
  · exact Or.inl ⟨v, vm₁, B, X₁.warmed, X', hpost, fun target h => hstep₁ _ fun acts => by rw [doInvoke_state]; exact hsteps.trans h⟩
  · exact Or.inr ⟨q, vm₁, B, X₁.warmed, X', hpost, hstep₁ _ fun acts => by rw [doInvoke_state]; exact hsteps⟩
theorem vx_callSX (X : Stand p l e R s m args below meth c T locs cells slots) (hexec : p.tables.exec = Jvm.exec) {own : String} {index : Nat} {y : MethodName} {bytes : ByteArray} {maxL : Nat} {ret : Option FieldType} {hh : List (Nat × Nat × Nat × Nat)}
    (hown : s.vm.findClass own = some m.cls) (hlink : (Cond.methodLink own index y).before args s = true) (hstat : (Cond.static y).before args s = true) (hinit : (Cond.initialized y.cls).before args s = true)
    (hcode : (Cond.codeWith y bytes maxL ret hh).before args s = true) (hy : y.cls ≠ "java/lang/invoke/MethodHandle" ∧ y.cls ≠ "java/lang/invoke/VarHandle")
    {W9 : Nat} {Pre : Pt → Array Value → Prop} {Post : Pt → Array Value → Option Value → Pt → Prop} {PostX : Pt → Array Value → Addr → Pt → Prop} (hK : vx_Back l R p e below s args y 3 W9 Pre Post PostX)
    {g : JFrame} (hg : g.method = m) (hsize : g.locals.size = c.maxLocals) {argsL rest : List Value} (hlen : ∀ sig, parseMethodDescriptor y.desc = some sig → argsL.length = sig.parameters.length)
    (hstack : g.stack = argsL.reverse ++ rest) (hW : 2 * g.monitorRoom + (rest.map fun v => v.category).sum ≤ W9) (hdg : decode c.code g.pc = .ok (.invokestatic index, 3))
    (hpre : ∀ vm₁, s.WarmedH vm₁ → Pre ⟨T.setVm vm₁, locs, cells, slots⟩ argsL.toArray) :
    (∃ (v : Option Value) (vm₁ : Vm) (B : Pt), s.WarmedH vm₁ ∧ Stand p l e R s m args below meth c B.U B.locs B.cells B.slots ∧ Post ⟨T.setVm vm₁, locs, cells, slots⟩ argsL.toArray v B ∧
      ∀ target, Steps p.tables e below (B.U.setTop { g with pc := g.pc + 3, stack := v.toList ++ rest }) target → Steps p.tables e below (T.setTop g) target) ∨
    (∃ (q : Addr) (vm₁ : Vm) (B : Pt), s.WarmedH vm₁ ∧ Stand p l e R s m args below meth c B.U B.locs B.cells B.slots ∧ PostX ⟨T.setVm vm₁, locs, cells, slots⟩ argsL.toArray q B ∧
      Steps p.tables e below (T.setTop g) ((B.U.setTop { g with stack := rest }).pushFrame (.throwing q))) := by
  obtain ⟨mk, methM, cM, hnamed, hmethM, -, -, -, -, -, -, hsigM⟩ := Cond.codeWith_spec hcode
  have hstatic : methM.isStatic = true := Cond.static_spec hnamed hmethM hstat
  obtain ⟨kP, hkP, -⟩ := className_of_methodNamed hnamed
  have hinitP : kP.init = .initialized := Cond.initialized_spec (findClass_of_methodNamed hnamed) hkP hinit
  obtain ⟨vm₁, X₁, hstep₁⟩ := X.invokestatic hexec hown hlink hnamed hmethM hstatic hkP hinitP hy (g := g) hg (argsL := argsL) (rest := rest) (hlen _ hsigM) hstack hdg
  rcases hK m meth c ⟨T.setVm vm₁, locs, cells, slots⟩ { g with stack := rest } (.invokestatic index) mk argsL.toArray X₁ hg hsize hdg hW (X₁.named hnamed) (hpre vm₁ X₁.warmed) with ⟨v, B, X', hpost, hsteps⟩ | ⟨q, B, X', hpost, hsteps⟩
  · exact Or.inl ⟨v, vm₁, B, X₁.warmed, X', hpost, fun target h => hstep₁ _ fun acts => by rw [doInvoke_state]; exact hsteps.trans h⟩
  · exact Or.inr ⟨q, vm₁, B, X₁.warmed, X', hpost, hstep₁ _ fun acts => by rw [doInvoke_state]; exact hsteps⟩
theorem vx_callVW (X : Stand p l e R s m args below meth c T locs cells slots) (hexec : p.tables.exec = Jvm.exec) {own C : String} {index : Nat} {y : MethodName} {bytes : ByteArray} {maxL : Nat} {ret : Option FieldType} {hh : List (Nat × Nat × Nat × Nat)}
    (hown : s.vm.findClass own = some m.cls) (hlink : (Cond.methodLink own index y).before args s = true) (hinst : (Cond.instanceMethod y).before args s = true) (hsel : (Cond.selects C y y).before args s = true)
    (hcode : (Cond.codeWith y bytes maxL ret hh).before args s = true) (hy : y.cls ≠ "java/lang/invoke/MethodHandle" ∧ y.cls ≠ "java/lang/invoke/VarHandle")
    {W9 : Nat} {Pre : Pt → Array Value → Prop} {Post : Pt → Array Value → Option Value → Pt → Prop} (hK : Back l R p e below s args y 3 W9 Pre Post)
    {b : Addr} {cellB : Cell} (hcell : T.heap[b]? = some cellB) (hobj : cellB.vm.isStatics = false) (hcls : s.vm.findClass C = some cellB.cls)
    {g : JFrame} (hg : g.method = m) (hsize : g.locals.size = c.maxLocals) {argsL rest : List Value} (hlen : ∀ sig, parseMethodDescriptor y.desc = some sig → argsL.length = sig.parameters.length)
    (hstack : g.stack = argsL.reverse ++ .ref b :: rest) (hW : 2 * g.monitorRoom + (rest.map fun v => v.category).sum ≤ W9) (hdg : decode c.code g.pc = .ok (.invokevirtual index, 3))
    (hpre : ∀ vm₁, s.WarmedH vm₁ → Pre ⟨T.setVm vm₁, locs, cells, slots⟩ (Value.ref b :: argsL).toArray) :
    ∃ (v : Option Value) (vm₁ : Vm) (B : Pt), s.WarmedH vm₁ ∧ Stand p l e R s m args below meth c B.U B.locs B.cells B.slots ∧ Post ⟨T.setVm vm₁, locs, cells, slots⟩ (Value.ref b :: argsL).toArray v B ∧
      ∀ target, Steps p.tables e below (B.U.setTop { g with pc := g.pc + 3, stack := v.toList ++ rest }) target → Steps p.tables e below (T.setTop g) target := by
  obtain ⟨mk, methM, hnamed, hmethM, hstM, habM⟩ := Cond.instanceMethod_spec hinst
  obtain ⟨m8, methM', cM, hn8, hmethM', -, -, -, -, -, -, hsigM⟩ := Cond.codeWith_spec hcode
  cases Option.some.inj (hn8.symm.trans hnamed)
  cases hmethM.symm.trans hmethM'
  obtain ⟨c2, r2, m2, q1, q2, q3, q4, kP, hkP, hkPi⟩ := Cond.selects_spec hsel
  cases hcls.symm.trans q1
  cases (State.methodFound?_of_named hnamed hy).symm.trans q2
  cases hnamed.symm.trans q3
  have hselP : selectMethod e.platform s.vm cellB.cls mk = .method mk := by rw [Launch.admits_selectMethod X.admits]; exact q4
  obtain ⟨vm₁, X₁, hstep₁⟩ := X.invokevirtual hexec hown hlink hnamed hmethM hstM hkP hkPi hy (a := b) (cell := cellB) hcell
    (fun z h => by rw [h] at hobj; cases hobj) hselP hmethM habM hkP hkPi (g := g) hg (argsL := argsL) (rest := rest) (hlen _ hsigM) hstack hdg
  obtain ⟨v, B, X', hpost, hsteps⟩ := hK m meth c ⟨T.setVm vm₁, locs, cells, slots⟩ { g with stack := rest } (.invokevirtual index) mk (Value.ref b :: argsL).toArray X₁ hg hsize hdg hW (X₁.named hnamed) (hpre vm₁ X₁.warmed)
  exact ⟨v, vm₁, B, X₁.warmed, X', hpost, fun target h => hstep₁ _ fun acts => by rw [doInvoke_state]; exact hsteps.trans h⟩
abbrev vx_CVW (R : Room) (s : State) (args : Array Value) (own C : String) (index : Nat) (y : MethodName) (bytes : ByteArray) (maxL : Nat) (ret : Option FieldType) (hh : List (Nat × Nat × Nat × Nat)) (ws : List Cond) (rm : Room) (mc ms n : Nat) : Prop :=
  (rm.cells = mc ∧ rm.slots = ms ∧ rm.frames + 1 ≤ R.frames ∧ 8 + (maxL + 11) + rm.locals ≤ R.locals ∧ (∀ w ∈ ws, ∀ (a' : Array Value) (U : State), s.WarmedH U.vm → w.before a' U = true) ∧ Cond.codeWith y bytes maxL ret hh ∈ ws) ∧
  (Cond.codeWith y bytes maxL ret hh).before args s = true ∧ (Cond.initialized y.cls).before args s = true ∧ (y.cls ≠ "java/lang/invoke/MethodHandle" ∧ y.cls ≠ "java/lang/invoke/VarHandle") ∧
  (∀ sig, parseMethodDescriptor y.desc = some sig → n = sig.parameters.length) ∧ (Cond.methodLink own index y).before args s = true ∧ (Cond.instanceMethod y).before args s = true ∧ (Cond.selects C y y).before args s = true
theorem vx_cwVW {own C : String} {index maxL mc ms : Nat} {y : MethodName} {bytes : ByteArray} {ret : Option FieldType} {hh : List (Nat × Nat × Nat × Nat)} {Ts ws ws' : List Cond} {rm : Room} (n : Nat) (ht : ∀ w ∈ Ts, w.before args s = true) (hT : GoodIn Ts (wsV own index C y ws)) (hw : ws = Cond.codeWith y bytes maxL ret hh :: ws') (hrc : rm.cells = mc) (hrs : rm.slots = ms)
    (hd : y.cls = C ∧ y.cls ≠ "java/lang/invoke/MethodHandle" ∧ y.cls ≠ "java/lang/invoke/VarHandle" ∧ (parseMethodDescriptor y.desc).map (fun d => d.parameters.length) = some n) (hR : rm.frames + 1 ≤ R.frames ∧ 8 + (maxL + 11) + rm.locals ≤ R.locals) :
    vx_CVW R s args own C index y bytes maxL ret hh ws rm mc ms n := by
  obtain ⟨hC, hd⟩ := hd
  subst hC
  have ok : ∀ w ∈ wsV own index y.cls y ws, w.before args s = true := fun w h => ht w (hT w h).1
  have hG : GoodIn Ts ws := fun w h => hT w (by unfold wsV; exact List.mem_append_right _ h)
  have hc : Cond.codeWith y bytes maxL ret hh ∈ ws := by rw [hw]; exact List.mem_cons_self
  refine ⟨⟨hrc, hrs, hR.1, hR.2, pay_in ht hG, hc⟩, ht _ (hG _ hc).1, ok _ (by simp [wsV]), ⟨hd.1, hd.2.1⟩, fun sig h => ?_, ok _ (by simp [wsV]), ok _ (by simp [wsV]), ok _ (by simp [wsV])⟩
  have h2 := hd.2.2
  rw [h] at h2
  exact (Option.some.inj h2).symm
theorem vx_runVW {y : MethodName} {bytes cc : ByteArray} {maxL nL mc ms n index : Nat} {ret : Option FieldType} {hh : List (Nat × Nat × Nat × Nat)} {ws : List Cond} {rm : Room} {Pc : Array Value → State → Prop} {Qc : Array Value → State → Outcome → State → Prop} {free : Addr → Prop} {Ts : List Cond} {own C : String} {b : Addr} {As rest : List Value} {g : JFrame}
    (S : CallFix p m c cc nL s args Ts own) (hM : Met l y ws rm Pc Qc mc ms free) (cw : vx_CVW R s args own C index y bytes maxL ret hh ws rm mc ms n) (hp : PreV s H C b Pc As)
    (hg : g.method = m) (hn : As.length = n) (hsize : g.locals.size = nL) (hstack : g.stack = As.reverse ++ .ref b :: rest) (hW : 2 * g.monitorRoom + (rest.map fun v => v.category).sum ≤ 8) (hdg : decode cc g.pc = .ok (.invokevirtual index, 3)) (hf : cells + mc ≤ R.cells ∧ slots + ms ≤ R.slots) :
    va_Run p l e R s m args below meth c H locs cells slots mc ms g rest (Qc (Value.ref b :: As).toArray) free := by
  obtain ⟨⟨hrc, hrs, hfr, hlo, hws, hcw⟩, hcode, hini, hy, hlen, hl, hin, hse⟩ := cw
  have hK : Back l R p e below s args y 3 8 (PreOf R mc ms Pc) (PostOf Qc mc ms free) := va_backW (hh := hh) (bytes := bytes) (maxL := maxL) (ret := ret) hM hp.1 hrc hrs hfr hlo hws hcw (fun a' U hW => word_at hW (Or.inl (by first | rfl | simp [Cond.onTables, Cond.keeps, Cond.steady])) hini)
  obtain ⟨hx, hb, hml, ho, -⟩ := S
  obtain ⟨-, ⟨cellB, hcB, hoB, hclB⟩, hPc⟩ := hp
  intro T hT X
  obtain ⟨v, vm₁, ⟨U', l2, c2, s2⟩, hW₁, X', ⟨g', mk, t, L, e1, e2, hq, h1, hL, h2, h3⟩, st⟩ := vx_callVW X hx (C := C) (hh := hh) (bytes := bytes) (maxL := maxL) (ret := ret) ho hl hin hse hcode hy hK (by rw [hT]; exact hcB) hoB hclB hg (hsize.trans hml.symm) (argsL := As) (rest := rest) (fun sig h => hn.trans (hlen sig h)) hstack hW (by rw [hb]; exact hdg)
    (fun vm₁ hW₁ => ⟨hf.1, hf.2, hPc (T.setVm vm₁) hT hW₁⟩)
  dsimp only [Pt.U, Pt.locs, Pt.cells, Pt.slots] at X' e1 e2 h1 h2 h3 st
  subst h1; subst h2; subst h3
  exact ⟨v, (T.setVm vm₁).calling g' mk (Value.ref b :: As).toArray, t, U', L, hT, X', hL, e1, e2, hq, st⟩
section
variable {y : MethodName} {bytes cc : ByteArray} {maxL nL mc ms n index : Nat} {ret : Option FieldType} {ws : List Cond} {rm : Room} {Pc : Array Value → State → Prop} {Qc : Array Value → State → Outcome → State → Prop} {XC : String → State → State → Prop} {free : Addr → Prop} {Ts : List Cond} {own C : String} {b : Addr} {As rest : List Value} {g : JFrame}
theorem vx_runVX {hh : List (Nat × Nat × Nat × Nat)} (S : CallFix p m c cc nL s args Ts own) (hM : vx_Met l y ws rm Pc Qc XC mc ms free) (cw : vx_CVW R s args own C index y bytes maxL ret hh ws rm mc ms n) (hp : PreV s H C b Pc As)
    (hg : g.method = m) (hn : As.length = n) (hsize : g.locals.size = nL) (hstack : g.stack = As.reverse ++ .ref b :: rest) (hW : 2 * g.monitorRoom + (rest.map fun v => v.category).sum ≤ 8) (hdg : decode cc g.pc = .ok (.invokevirtual index, 3)) (hf : cells + mc ≤ R.cells ∧ slots + ms ≤ R.slots) :
    vx_Run p l e R s m args below meth c H locs cells slots mc ms g rest (Qc (Value.ref b :: As).toArray) XC free := by
  obtain ⟨⟨hrc, hrs, hfr, hlo, hws, hcw⟩, hcode, hini, hy, hlen, hl, hin, hse⟩ := cw
  have hK : vx_Back l R p e below s args y 3 8 (PreOf R mc ms Pc) (PostOf Qc mc ms free) (vx_Post XC mc ms free) := vx_backW (hh := hh) (bytes := bytes) (maxL := maxL) (ret := ret) hM hp.1 hrc hrs hfr hlo hws hcw (fun a' U hW => word_at hW (Or.inl (by first | rfl | simp [Cond.onTables, Cond.keeps, Cond.steady])) hini)
  obtain ⟨hx, hb, hml, ho, -⟩ := S
  obtain ⟨-, ⟨cellB, hcB, hoB, hclB⟩, hPc⟩ := hp
  intro T hT X
  rcases vx_callVX X hx (C := C) (hh := hh) (bytes := bytes) (maxL := maxL) (ret := ret) ho hl hin hse hcode hy hK (by rw [hT]; exact hcB) hoB hclB hg (hsize.trans hml.symm) (argsL := As) (rest := rest) (fun sig h => hn.trans (hlen sig h)) hstack hW (by rw [hb]; exact hdg)
    (fun vm₁ hW₁ => ⟨hf.1, hf.2, hPc (T.setVm vm₁) hT hW₁⟩) with ⟨v, vm₁, ⟨U', l2, c2, s2⟩, hW₁, X', ⟨g', mk, t, L, e1, e2, hq, h1, hL, h2, h3⟩, st⟩ | ⟨q, vm₁, ⟨U', l2, c2, s2⟩, hW₁, X', ⟨g', mk, t, L, E, ce, e1, e2, hq, hce, hcv, hcl, h1, hL, h2, h3⟩, st⟩
  · dsimp only [Pt.U, Pt.locs, Pt.cells, Pt.slots] at X' e1 e2 h1 h2 h3 st
    subst h1; subst h2; subst h3
    exact Or.inl ⟨v, (T.setVm vm₁).calling g' mk (Value.ref b :: As).toArray, t, U', L, hT, X', hL, e1, e2, hq, st⟩
  · dsimp only [Pt.U, Pt.locs, Pt.cells, Pt.slots] at X' e1 e2 h1 h2 h3 st hcl
    subst h1; subst h2; subst h3
    exact Or.inr ⟨q, (T.setVm vm₁).calling g' mk (Value.ref b :: As).toArray, t, U', L, E, ce, hT, X', hL, e1, e2, hq, hce, hcv, vx_cls hW₁ hcl, st⟩
theorem vx_runSX {hh : List (Nat × Nat × Nat × Nat)} (S : CallFix p m c cc nL s args Ts own) (hM : vx_Met l y ws rm Pc Qc XC mc ms free) (cw : vx_CSW R s args own index y bytes maxL ret hh ws rm mc ms n) (hp : PreS s H Pc As)
    (hg : g.method = m) (hn : As.length = n) (hsize : g.locals.size = nL) (hstack : g.stack = As.reverse ++ rest) (hW : 2 * g.monitorRoom + (rest.map fun v => v.category).sum ≤ 8) (hdg : decode cc g.pc = .ok (.invokestatic index, 3)) (hf : cells + mc ≤ R.cells ∧ slots + ms ≤ R.slots) :
    vx_Run p l e R s m args below meth c H locs cells slots mc ms g rest (Qc As.toArray) XC free := by
  obtain ⟨⟨hrc, hrs, hfr, hlo, hws, hcw⟩, hcode, hini, hy, hlen, hl, hstt⟩ := cw
  have hK : vx_Back l R p e below s args y 3 8 (PreOf R mc ms Pc) (PostOf Qc mc ms free) (vx_Post XC mc ms free) := vx_backW (hh := hh) (bytes := bytes) (maxL := maxL) (ret := ret) hM hp.1 hrc hrs hfr hlo hws hcw (fun a' U hW => word_at hW (Or.inl (by first | rfl | simp [Cond.onTables, Cond.keeps, Cond.steady])) hini)
  obtain ⟨hx, hb, hml, ho, -⟩ := S
  intro T hT X
  rcases vx_callSX X hx (hh := hh) (bytes := bytes) (maxL := maxL) (ret := ret) ho hl hstt hini hcode hy hK hg (hsize.trans hml.symm) (argsL := As) (rest := rest) (fun sig h => hn.trans (hlen sig h)) hstack hW (by rw [hb]; exact hdg)
    (fun vm₁ hW₁ => ⟨hf.1, hf.2, hp.2 (T.setVm vm₁) hT hW₁⟩) with ⟨v, vm₁, ⟨U', l2, c2, s2⟩, hW₁, X', ⟨g', mk, t, L, e1, e2, hq, h1, hL, h2, h3⟩, st⟩ | ⟨q, vm₁, ⟨U', l2, c2, s2⟩, hW₁, X', ⟨g', mk, t, L, E, ce, e1, e2, hq, hce, hcv, hcl, h1, hL, h2, h3⟩, st⟩
  · dsimp only [Pt.U, Pt.locs, Pt.cells, Pt.slots] at X' e1 e2 h1 h2 h3 st
    subst h1; subst h2; subst h3
    exact Or.inl ⟨v, (T.setVm vm₁).calling g' mk As.toArray, t, U', L, hT, X', hL, e1, e2, hq, st⟩
  · dsimp only [Pt.U, Pt.locs, Pt.cells, Pt.slots] at X' e1 e2 h1 h2 h3 st hcl
    subst h1; subst h2; subst h3
    exact Or.inr ⟨q, (T.setVm vm₁).calling g' mk As.toArray, t, U', L, E, ce, hT, X', hL, e1, e2, hq, hce, hcv, vx_cls hW₁ hcl, st⟩
end
end VXH
theorem vx_ofWH {l : Launch} {y : MethodName} {ws ws' : List Cond} {rm : Room} {Pc : Array Value → State → Prop} {Qc : Array Value → State → Outcome → State → Prop} {XC : String → State → State → Prop} {mc ms : Nat} {free : Addr → Prop} {cc : ByteArray} {maxL : Nat} {ret : Option FieldType} {hh : List (Nat × Nat × Nat × Nat)}
    (hy : plainName y.cls = true) (hw : ws = Cond.codeWith y cc maxL ret hh :: ws')
    (body : ∀ p e s m args below meth c s₁, BodyLoose p l y (headSpec ws rm) cc maxL ret e s m args below meth c s₁ → c.maxLocals = maxL → Pc args s →
      W p l e (headSpec ws rm).room s m args below meth c s.heap [] 0 0 (vx_MQ below Qc XC args s mc ms free) (entryFrame m args maxL)) : vx_Met l y ws rm Pc Qc XC mc ms free := by
  refine MetFree.of_bodyS (code := cc) (maxLocals := maxL) (ret := ret) hy ?_ ?_
  · intro args s m h hn
    obtain ⟨m9, meth, c, hn9, h1, h2, h3, h4, -, h5, h6, -⟩ := Cond.codeWith_spec (atoms_spec (ws := ws) h _ (by rw [hw]; exact List.mem_cons_self))
    cases hn.symm.trans hn9
    exact ⟨meth, c, h1, h2, h3, h4, h5, h6⟩
  · intro p e s m args below meth c s₁ B hml hP _
    have hh0 : s₁.heap = s.heap := by rw [B.state]; rfl
    obtain ⟨t, a1, o, b1, b2, b3⟩ := body p e s m args below meth c s₁ B hml hP s₁ hh0 (Stand.of_body B)
    exact ⟨t, o, a1, b1, b2, b3⟩
/-! ===== END ===== -/
end
section
def RX0 : String := "HexArbiter$BridgeList"
def TX0 : u_T := fun k => match k with
  | 0 => ("HexArbiter$BridgeList", "grid", "LHexArbiter$Grid;", true)
  | 1 => ("HexArbiter$BridgeList", "lowerCells", "[I", true)
  | 2 => ("HexArbiter$BridgeList", "otherCells", "[I", true)
  | 3 => ("HexArbiter$BridgeList", "lowCarriers", "[I", true)
  | 4 => ("HexArbiter$BridgeList", "highCarriers", "[I", true)
  | 5 => ("HexArbiter$BridgeList", "counted", "[I", true)
  | 6 => ("HexArbiter$BridgeList", "taken", "[I", true)
  | _ => ("HexArbiter$BridgeList", "length", "I", false)
def tyX0 : Nat → FieldType := fun k => match k with
  | 0 => .object "HexArbiter$Grid"
  | 1 => .array .int
  | 2 => .array .int
  | 3 => .array .int
  | 4 => .array .int
  | 5 => .array .int
  | 6 => .array .int
  | _ => .int
abbrev wsX00 : List Cond := u_ws RX0 TX0 8
theorem nmX0 : ∀ a, a < 8 → ∀ b, b < 8 → a ≠ b → (TX0 a).2.1 ≠ (TX0 b).2.1 := by decide +kernel
theorem tyX0_ok : ∀ k, k < 8 → parseFieldDescriptor (TX0 k).2.2.1 = some (tyX0 k) := by decide +kernel
abbrev cX0_init : ByteArray := prog_2_method_1_code
def yX0_init : MethodName := ⟨RX0, "<init>", "(LHexArbiter$Grid;)V"⟩
abbrev cX0_find : ByteArray := prog_2_method_2_code
def yX0_find : MethodName := ⟨RX0, "find", "([II)V"⟩
abbrev cX0_addToCell : ByteArray := prog_2_method_3_code
def yX0_addToCell : MethodName := ⟨RX0, "addToCell", "([III)V"⟩
abbrev cX0_addToEdge : ByteArray := prog_2_method_4_code
def yX0_addToEdge : MethodName := ⟨RX0, "addToEdge", "([III)V"⟩
abbrev cX0_addIfFree : ByteArray := prog_2_method_5_code
def yX0_addIfFree : MethodName := ⟨RX0, "addIfFree", "([IIIII)V"⟩
abbrev cX0_has : ByteArray := prog_2_method_6_code
def yX0_has : MethodName := ⟨RX0, "has", "(II)Z"⟩
abbrev cX0_counting : ByteArray := prog_2_method_7_code
def yX0_counting : MethodName := ⟨RX0, "counting", "()I"⟩
abbrev cX0_number : ByteArray := prog_2_method_8_code
def yX0_number : MethodName := ⟨RX0, "number", "(II)I"⟩
abbrev cX0_otherCarrier : ByteArray := prog_2_method_9_code
def yX0_otherCarrier : MethodName := ⟨RX0, "otherCarrier", "(I)I"⟩
abbrev cX0_linkCounting : ByteArray := prog_2_method_10_code
def yX0_linkCounting : MethodName := ⟨RX0, "linkCounting", "(LHexArbiter$Links;)V"⟩
abbrev cX0_countingIn : ByteArray := prog_2_method_11_code
def yX0_countingIn : MethodName := ⟨RX0, "countingIn", "(LHexArbiter$Links;I)I"⟩
def RX1 : String := "HexArbiter$Bytes"
def TX1 : u_T := fun k => match k with
  | 0 => ("HexArbiter$Bytes", "bytes", "[I", true)
  | _ => ("HexArbiter$Bytes", "length", "I", false)
def tyX1 : Nat → FieldType := fun k => match k with
  | 0 => .array .int
  | _ => .int
abbrev wsX10 : List Cond := u_ws RX1 TX1 2
theorem nmX1 : ∀ a, a < 2 → ∀ b, b < 2 → a ≠ b → (TX1 a).2.1 ≠ (TX1 b).2.1 := by decide +kernel
theorem tyX1_ok : ∀ k, k < 2 → parseFieldDescriptor (TX1 k).2.2.1 = some (tyX1 k) := by decide +kernel
abbrev cX1_init : ByteArray := prog_3_method_1_code
def yX1_init : MethodName := ⟨RX1, "<init>", "(I)V"⟩
abbrev cX1_clear : ByteArray := prog_3_method_2_code
def yX1_clear : MethodName := ⟨RX1, "clear", "()V"⟩
abbrev cX1_add : ByteArray := prog_3_method_3_code
def yX1_add : MethodName := ⟨RX1, "add", "(I)V"⟩
abbrev cX1_get : ByteArray := prog_3_method_4_code
def yX1_get : MethodName := ⟨RX1, "get", "(I)I"⟩
def RX2 : String := "HexArbiter$Endgame"
def TX2 : u_T := fun k => match k with
  | 0 => ("HexArbiter$Endgame", "grid", "LHexArbiter$Grid;", true)
  | 1 => ("HexArbiter$Endgame", "links", "LHexArbiter$Links;", true)
  | 2 => ("HexArbiter$Endgame", "stones", "[I", true)
  | 3 => ("HexArbiter$Endgame", "open", "[I", true)
  | 4 => ("HexArbiter$Endgame", "owners", "[I", true)
  | _ => ("HexArbiter$Endgame", "count", "I", false)
def tyX2 : Nat → FieldType := fun k => match k with
  | 0 => .object "HexArbiter$Grid"
  | 1 => .object "HexArbiter$Links"
  | 2 => .array .int
  | 3 => .array .int
  | 4 => .array .int
  | _ => .int
abbrev wsX20 : List Cond := u_ws RX2 TX2 6
theorem nmX2 : ∀ a, a < 6 → ∀ b, b < 6 → a ≠ b → (TX2 a).2.1 ≠ (TX2 b).2.1 := by decide +kernel
theorem tyX2_ok : ∀ k, k < 6 → parseFieldDescriptor (TX2 k).2.2.1 = some (tyX2 k) := by decide +kernel
abbrev cX2_init : ByteArray := prog_4_method_1_code
def yX2_init : MethodName := ⟨RX2, "<init>", "(LHexArbiter$Grid;LHexArbiter$Links;)V"⟩
abbrev cX2_begin : ByteArray := prog_4_method_2_code
def yX2_begin : MethodName := ⟨RX2, "begin", "([I)V"⟩
abbrev cX2_winner : ByteArray := prog_4_method_3_code
def yX2_winner : MethodName := ⟨RX2, "winner", "(I)I"⟩
abbrev cX2_countGood : ByteArray := prog_4_method_4_code
def yX2_countGood : MethodName := ⟨RX2, "countGood", "(I)I"⟩
abbrev cX2_lowestGood : ByteArray := prog_4_method_5_code
def yX2_lowestGood : MethodName := ⟨RX2, "lowestGood", "(I)I"⟩
abbrev cX2_isGood : ByteArray := prog_4_method_6_code
def yX2_isGood : MethodName := ⟨RX2, "isGood", "(II)Z"⟩
abbrev cX2_all : ByteArray := prog_4_method_7_code
def yX2_all : MethodName := ⟨RX2, "all", "()I"⟩
abbrev cX2_best : ByteArray := prog_4_method_8_code
def yX2_best : MethodName := ⟨RX2, "best", "(IIII)I"⟩
abbrev cX2_owner : ByteArray := prog_4_method_9_code
def yX2_owner : MethodName := ⟨RX2, "owner", "(I)I"⟩
def RX3 : String := "HexArbiter$Filling"
def TX3 : u_T := fun k => match k with
  | 0 => ("HexArbiter$Filling", "grid", "LHexArbiter$Grid;", true)
  | 1 => ("HexArbiter$Filling", "links", "LHexArbiter$Links;", true)
  | 2 => ("HexArbiter$Filling", "stones", "[I", true)
  | _ => ("HexArbiter$Filling", "x", "I", false)
def tyX3 : Nat → FieldType := fun k => match k with
  | 0 => .object "HexArbiter$Grid"
  | 1 => .object "HexArbiter$Links"
  | 2 => .array .int
  | _ => .int
abbrev wsX30 : List Cond := u_ws RX3 TX3 4
theorem nmX3 : ∀ a, a < 4 → ∀ b, b < 4 → a ≠ b → (TX3 a).2.1 ≠ (TX3 b).2.1 := by decide +kernel
theorem tyX3_ok : ∀ k, k < 4 → parseFieldDescriptor (TX3 k).2.2.1 = some (tyX3 k) := by decide +kernel
abbrev cX3_init : ByteArray := prog_5_method_1_code
def yX3_init : MethodName := ⟨RX3, "<init>", "(LHexArbiter$Grid;LHexArbiter$Links;)V"⟩
abbrev cX3_begin : ByteArray := prog_5_method_2_code
def yX3_begin : MethodName := ⟨RX3, "begin", "(I)V"⟩
abbrev cX3_next : ByteArray := prog_5_method_3_code
def yX3_next : MethodName := ⟨RX3, "next", "([I)I"⟩
abbrev cX3_nextStone : ByteArray := prog_5_method_4_code
def yX3_nextStone : MethodName := ⟨RX3, "nextStone", "()I"⟩
abbrev cX3_countIdle : ByteArray := prog_5_method_5_code
def yX3_countIdle : MethodName := ⟨RX3, "countIdle", "([II)I"⟩
def RX4 : String := "HexArbiter$Flow"
def TX4 : u_T := fun k => match k with
  | 0 => ("HexArbiter$Flow", "grid", "LHexArbiter$Grid;", true)
  | 1 => ("HexArbiter$Flow", "weights", "[I", true)
  | 2 => ("HexArbiter$Flow", "levels", "[I", true)
  | _ => ("HexArbiter$Flow", "side", "I", false)
def tyX4 : Nat → FieldType := fun k => match k with
  | 0 => .object "HexArbiter$Grid"
  | 1 => .array .int
  | 2 => .array .int
  | _ => .int
abbrev wsX40 : List Cond := u_ws RX4 TX4 4
theorem nmX4 : ∀ a, a < 4 → ∀ b, b < 4 → a ≠ b → (TX4 a).2.1 ≠ (TX4 b).2.1 := by decide +kernel
theorem tyX4_ok : ∀ k, k < 4 → parseFieldDescriptor (TX4 k).2.2.1 = some (tyX4 k) := by decide +kernel
abbrev cX4_init : ByteArray := prog_6_method_1_code
def yX4_init : MethodName := ⟨RX4, "<init>", "(LHexArbiter$Grid;)V"⟩
abbrev cX4_run : ByteArray := prog_6_method_2_code
def yX4_run : MethodName := ⟨RX4, "run", "([III)I"⟩
abbrev cX4_sweep : ByteArray := prog_6_method_3_code
def yX4_sweep : MethodName := ⟨RX4, "sweep", "()Z"⟩
abbrev cX4_nextLevel : ByteArray := prog_6_method_4_code
def yX4_nextLevel : MethodName := ⟨RX4, "nextLevel", "(I)I"⟩
abbrev cX4_amount : ByteArray := prog_6_method_5_code
def yX4_amount : MethodName := ⟨RX4, "amount", "()I"⟩
abbrev cX4_level : ByteArray := prog_6_method_6_code
def yX4_level : MethodName := ⟨RX4, "level", "(I)I"⟩
def RX5 : String := "HexArbiter$Grid"
def TX5 : u_T := fun k => match k with
  | 0 => ("HexArbiter$Grid", "neighbours", "[I", true)
  | 1 => ("HexArbiter$Grid", "redEdges", "[I", true)
  | 2 => ("HexArbiter$Grid", "blueEdges", "[I", true)
  | 3 => ("HexArbiter$Grid", "size", "I", false)
  | _ => ("HexArbiter$Grid", "cells", "I", false)
def tyX5 : Nat → FieldType := fun k => match k with
  | 0 => .array .int
  | 1 => .array .int
  | 2 => .array .int
  | 3 => .int
  | _ => .int
abbrev wsX50 : List Cond := u_ws RX5 TX5 5
theorem nmX5 : ∀ a, a < 5 → ∀ b, b < 5 → a ≠ b → (TX5 a).2.1 ≠ (TX5 b).2.1 := by decide +kernel
theorem tyX5_ok : ∀ k, k < 5 → parseFieldDescriptor (TX5 k).2.2.1 = some (tyX5 k) := by decide +kernel
abbrev cX5_init : ByteArray := prog_7_method_1_code
def yX5_init : MethodName := ⟨RX5, "<init>", "()V"⟩
abbrev cX5_fit : ByteArray := prog_7_method_2_code
def yX5_fit : MethodName := ⟨RX5, "fit", "(I)V"⟩
abbrev cX5_edgesOfLine : ByteArray := prog_7_method_3_code
def yX5_edgesOfLine : MethodName := ⟨RX5, "edgesOfLine", "(I)I"⟩
abbrev cX5_listNeighbours : ByteArray := prog_7_method_4_code
def yX5_listNeighbours : MethodName := ⟨RX5, "listNeighbours", "(I)V"⟩
abbrev cX5_row : ByteArray := prog_7_method_5_code
def yX5_row : MethodName := ⟨RX5, "row", "(I)I"⟩
abbrev cX5_column : ByteArray := prog_7_method_6_code
def yX5_column : MethodName := ⟨RX5, "column", "(I)I"⟩
abbrev cX5_cellAt : ByteArray := prog_7_method_7_code
def yX5_cellAt : MethodName := ⟨RX5, "cellAt", "(II)I"⟩
abbrev cX5_near : ByteArray := prog_7_method_8_code
def yX5_near : MethodName := ⟨RX5, "near", "(II)I"⟩
abbrev cX5_edges : ByteArray := prog_7_method_9_code
def yX5_edges : MethodName := ⟨RX5, "edges", "(II)I"⟩
abbrev cX5_mirror : ByteArray := prog_7_method_10_code
def yX5_mirror : MethodName := ⟨RX5, "mirror", "(I)I"⟩
def RX6 : String := "HexArbiter$History"
def TX6 : u_T := fun k => match k with
  | 0 => ("HexArbiter$History", "past", "[LHexArbiter$Position;", true)
  | 1 => ("HexArbiter$History", "first", "I", false)
  | _ => ("HexArbiter$History", "count", "I", false)
def tyX6 : Nat → FieldType := fun k => match k with
  | 0 => .array (.object "HexArbiter$Position")
  | 1 => .int
  | _ => .int
abbrev wsX60 : List Cond := u_ws RX6 TX6 3
theorem nmX6 : ∀ a, a < 3 → ∀ b, b < 3 → a ≠ b → (TX6 a).2.1 ≠ (TX6 b).2.1 := by decide +kernel
theorem tyX6_ok : ∀ k, k < 3 → parseFieldDescriptor (TX6 k).2.2.1 = some (tyX6 k) := by decide +kernel
abbrev cX6_init : ByteArray := prog_8_method_1_code
def yX6_init : MethodName := ⟨RX6, "<init>", "()V"⟩
abbrev cX6_clear : ByteArray := prog_8_method_2_code
def yX6_clear : MethodName := ⟨RX6, "clear", "()V"⟩
abbrev cX6_remember : ByteArray := prog_8_method_3_code
def yX6_remember : MethodName := ⟨RX6, "remember", "(LHexArbiter$Position;)V"⟩
abbrev cX6_back : ByteArray := prog_8_method_4_code
def yX6_back : MethodName := ⟨RX6, "back", "(LHexArbiter$Position;)Z"⟩
abbrev cX6_latest : ByteArray := prog_8_method_5_code
def yX6_latest : MethodName := ⟨RX6, "latest", "(I)LHexArbiter$Position;"⟩
def RX7 : String := "HexArbiter$Links"
def TX7 : u_T := fun k => match k with
  | 0 => ("HexArbiter$Links", "grid", "LHexArbiter$Grid;", true)
  | 1 => ("HexArbiter$Links", "tops", "[I", true)
  | 2 => ("HexArbiter$Links", "reached", "[I", true)
  | 3 => ("HexArbiter$Links", "counts", "[I", true)
  | 4 => ("HexArbiter$Links", "waiting", "[I", true)
  | _ => ("HexArbiter$Links", "side", "I", false)
def tyX7 : Nat → FieldType := fun k => match k with
  | 0 => .object "HexArbiter$Grid"
  | 1 => .array .int
  | 2 => .array .int
  | 3 => .array .int
  | 4 => .array .int
  | _ => .int
abbrev wsX70 : List Cond := u_ws RX7 TX7 6
theorem nmX7 : ∀ a, a < 6 → ∀ b, b < 6 → a ≠ b → (TX7 a).2.1 ≠ (TX7 b).2.1 := by decide +kernel
theorem tyX7_ok : ∀ k, k < 6 → parseFieldDescriptor (TX7 k).2.2.1 = some (tyX7 k) := by decide +kernel
abbrev cX7_init : ByteArray := prog_9_method_1_code
def yX7_init : MethodName := ⟨RX7, "<init>", "(LHexArbiter$Grid;)V"⟩
abbrev cX7_gather : ByteArray := prog_9_method_2_code
def yX7_gather : MethodName := ⟨RX7, "gather", "([II)V"⟩
abbrev cX7_flood : ByteArray := prog_9_method_3_code
def yX7_flood : MethodName := ⟨RX7, "flood", "([II)V"⟩
abbrev cX7_link : ByteArray := prog_9_method_4_code
def yX7_link : MethodName := ⟨RX7, "link", "(II)V"⟩
abbrev cX7_reach : ByteArray := prog_9_method_5_code
def yX7_reach : MethodName := ⟨RX7, "reach", "(II)V"⟩
abbrev cX7_top : ByteArray := prog_9_method_6_code
def yX7_top : MethodName := ⟨RX7, "top", "(I)I"⟩
abbrev cX7_number : ByteArray := prog_9_method_7_code
def yX7_number : MethodName := ⟨RX7, "number", "(II)I"⟩
abbrev cX7_parts : ByteArray := prog_9_method_8_code
def yX7_parts : MethodName := ⟨RX7, "parts", "()I"⟩
abbrev cX7_largestPart : ByteArray := prog_9_method_9_code
def yX7_largestPart : MethodName := ⟨RX7, "largestPart", "()I"⟩
abbrev cX7_joined : ByteArray := prog_9_method_10_code
def yX7_joined : MethodName := ⟨RX7, "joined", "()Z"⟩
abbrev cX7_joinsBy : ByteArray := prog_9_method_11_code
def yX7_joinsBy : MethodName := ⟨RX7, "joinsBy", "(I)Z"⟩
abbrev cX7_isBeside : ByteArray := prog_9_method_12_code
def yX7_isBeside : MethodName := ⟨RX7, "isBeside", "(II)Z"⟩
def RX8 : String := "HexArbiter$Paths"
def TX8 : u_T := fun k => match k with
  | 0 => ("HexArbiter$Paths", "grid", "LHexArbiter$Grid;", true)
  | 1 => ("HexArbiter$Paths", "prices", "[I", true)
  | 2 => ("HexArbiter$Paths", "fromEdge0", "[I", true)
  | _ => ("HexArbiter$Paths", "fromEdge1", "[I", true)
def tyX8 : Nat → FieldType := fun k => match k with
  | 0 => .object "HexArbiter$Grid"
  | 1 => .array .int
  | 2 => .array .int
  | _ => .array .int
abbrev wsX80 : List Cond := u_ws RX8 TX8 4
theorem nmX8 : ∀ a, a < 4 → ∀ b, b < 4 → a ≠ b → (TX8 a).2.1 ≠ (TX8 b).2.1 := by decide +kernel
theorem tyX8_ok : ∀ k, k < 4 → parseFieldDescriptor (TX8 k).2.2.1 = some (tyX8 k) := by decide +kernel
abbrev cX8_init : ByteArray := prog_10_method_1_code
def yX8_init : MethodName := ⟨RX8, "<init>", "(LHexArbiter$Grid;)V"⟩
abbrev cX8_find : ByteArray := prog_10_method_2_code
def yX8_find : MethodName := ⟨RX8, "find", "([II)V"⟩
abbrev cX8_spread : ByteArray := prog_10_method_3_code
def yX8_spread : MethodName := ⟨RX8, "spread", "([III)V"⟩
abbrev cX8_lower : ByteArray := prog_10_method_4_code
def yX8_lower : MethodName := ⟨RX8, "lower", "([II)Z"⟩
abbrev cX8_cost : ByteArray := prog_10_method_5_code
def yX8_cost : MethodName := ⟨RX8, "cost", "(I)I"⟩
abbrev cX8_least : ByteArray := prog_10_method_6_code
def yX8_least : MethodName := ⟨RX8, "least", "()I"⟩
def RX9 : String := "HexArbiter$Position"
def TX9 : u_T := fun k => match k with
  | 0 => ("HexArbiter$Position", "stones", "[I", true)
  | 1 => ("HexArbiter$Position", "moves", "[I", true)
  | 2 => ("HexArbiter$Position", "size", "I", false)
  | 3 => ("HexArbiter$Position", "swapping", "Z", false)
  | 4 => ("HexArbiter$Position", "moveCount", "I", false)
  | 5 => ("HexArbiter$Position", "turn", "I", false)
  | _ => ("HexArbiter$Position", "givenUp", "I", false)
def tyX9 : Nat → FieldType := fun k => match k with
  | 0 => .array .int
  | 1 => .array .int
  | 2 => .int
  | 3 => .boolean
  | 4 => .int
  | 5 => .int
  | _ => .int
abbrev wsX90 : List Cond := u_ws RX9 TX9 7
theorem nmX9 : ∀ a, a < 7 → ∀ b, b < 7 → a ≠ b → (TX9 a).2.1 ≠ (TX9 b).2.1 := by decide +kernel
theorem tyX9_ok : ∀ k, k < 7 → parseFieldDescriptor (TX9 k).2.2.1 = some (tyX9 k) := by decide +kernel
abbrev cX9_init : ByteArray := prog_11_method_1_code
def yX9_init : MethodName := ⟨RX9, "<init>", "()V"⟩
abbrev cX9_begin : ByteArray := prog_11_method_2_code
def yX9_begin : MethodName := ⟨RX9, "begin", "(I)V"⟩
abbrev cX9_isBegun : ByteArray := prog_11_method_3_code
def yX9_isBegun : MethodName := ⟨RX9, "isBegun", "()Z"⟩
abbrev cX9_copy : ByteArray := prog_11_method_4_code
def yX9_copy : MethodName := ⟨RX9, "copy", "(LHexArbiter$Position;)V"⟩
abbrev cX9_stone : ByteArray := prog_11_method_5_code
def yX9_stone : MethodName := ⟨RX9, "stone", "(I)I"⟩
abbrev cX9_place : ByteArray := prog_11_method_6_code
def yX9_place : MethodName := ⟨RX9, "place", "(II)V"⟩
abbrev cX9_play : ByteArray := prog_11_method_7_code
def yX9_play : MethodName := ⟨RX9, "play", "(I)V"⟩
abbrev cX9_moved : ByteArray := prog_11_method_8_code
def yX9_moved : MethodName := ⟨RX9, "moved", "(I)I"⟩
abbrev cX9_count : ByteArray := prog_11_method_9_code
def yX9_count : MethodName := ⟨RX9, "count", "(I)I"⟩
abbrev cX9_winner : ByteArray := prog_11_method_10_code
def yX9_winner : MethodName := ⟨RX9, "winner", "(LHexArbiter$Links;)I"⟩
abbrev cX9_mirror : ByteArray := prog_11_method_11_code
def yX9_mirror : MethodName := ⟨RX9, "mirror", "(LHexArbiter$Grid;)V"⟩
abbrev cX9_mirrored : ByteArray := prog_11_method_12_code
def yX9_mirrored : MethodName := ⟨RX9, "mirrored", "(I)I"⟩
def RX10 : String := "HexArbiter$Reader"
def TX10 : u_T := fun k => match k with
  | 0 => ("HexArbiter$Reader", "text", "LHexArbiter$Bytes;", true)
  | 1 => ("HexArbiter$Reader", "grid", "LHexArbiter$Grid;", true)
  | 2 => ("HexArbiter$Reader", "links", "LHexArbiter$Links;", true)
  | 3 => ("HexArbiter$Reader", "draft", "LHexArbiter$Position;", true)
  | 4 => ("HexArbiter$Reader", "kind", "I", false)
  | 5 => ("HexArbiter$Reader", "start", "I", false)
  | 6 => ("HexArbiter$Reader", "end", "I", false)
  | 7 => ("HexArbiter$Reader", "number", "I", false)
  | 8 => ("HexArbiter$Reader", "error", "I", false)
  | 9 => ("HexArbiter$Reader", "place", "I", false)
  | _ => ("HexArbiter$Reader", "statement", "I", false)
def tyX10 : Nat → FieldType := fun k => match k with
  | 0 => .object "HexArbiter$Bytes"
  | 1 => .object "HexArbiter$Grid"
  | 2 => .object "HexArbiter$Links"
  | 3 => .object "HexArbiter$Position"
  | 4 => .int
  | 5 => .int
  | 6 => .int
  | 7 => .int
  | 8 => .int
  | 9 => .int
  | _ => .int
abbrev wsX100 : List Cond := u_ws RX10 TX10 11
theorem nmX10 : ∀ a, a < 11 → ∀ b, b < 11 → a ≠ b → (TX10 a).2.1 ≠ (TX10 b).2.1 := by decide +kernel
theorem tyX10_ok : ∀ k, k < 11 → parseFieldDescriptor (TX10 k).2.2.1 = some (tyX10 k) := by decide +kernel
abbrev cX10_init : ByteArray := prog_12_method_1_code
def yX10_init : MethodName := ⟨RX10, "<init>", "(LHexArbiter$Bytes;LHexArbiter$Grid;LHexArbiter$Links;)V"⟩
abbrev cX10_read : ByteArray := prog_12_method_2_code
def yX10_read : MethodName := ⟨RX10, "read", "()Z"⟩
abbrev cX10_readBoard : ByteArray := prog_12_method_3_code
def yX10_readBoard : MethodName := ⟨RX10, "readBoard", "()V"⟩
abbrev cX10_readStatement : ByteArray := prog_12_method_4_code
def yX10_readStatement : MethodName := ⟨RX10, "readStatement", "()V"⟩
abbrev cX10_readTurn : ByteArray := prog_12_method_5_code
def yX10_readTurn : MethodName := ⟨RX10, "readTurn", "()V"⟩
abbrev cX10_readCell : ByteArray := prog_12_method_6_code
def yX10_readCell : MethodName := ⟨RX10, "readCell", "(ZI)V"⟩
abbrev cX10_readColumn : ByteArray := prog_12_method_7_code
def yX10_readColumn : MethodName := ⟨RX10, "readColumn", "(Z)I"⟩
abbrev cX10_readRow : ByteArray := prog_12_method_8_code
def yX10_readRow : MethodName := ⟨RX10, "readRow", "()I"⟩
abbrev cX10_fail : ByteArray := prog_12_method_9_code
def yX10_fail : MethodName := ⟨RX10, "fail", "(II)V"⟩
abbrev cX10_sideWord : ByteArray := prog_12_method_10_code
def yX10_sideWord : MethodName := ⟨RX10, "sideWord", "()I"⟩
abbrev cX10_isWord : ByteArray := prog_12_method_11_code
def yX10_isWord : MethodName := ⟨RX10, "isWord", "(Ljava/lang/String;)Z"⟩
abbrev cX10_advance : ByteArray := prog_12_method_12_code
def yX10_advance : MethodName := ⟨RX10, "advance", "()V"⟩
abbrev cX10_runEnd : ByteArray := prog_12_method_13_code
def yX10_runEnd : MethodName := ⟨RX10, "runEnd", "(III)I"⟩
abbrev cX10_readNumber : ByteArray := prog_12_method_14_code
def yX10_readNumber : MethodName := ⟨RX10, "readNumber", "()I"⟩
def RX11 : String := "HexArbiter"
def TX11 : u_T := fun k => match k with
  | 0 => ("HexArbiter", "grid", "LHexArbiter$Grid;", true)
  | 1 => ("HexArbiter", "links", "LHexArbiter$Links;", true)
  | 2 => ("HexArbiter", "position", "LHexArbiter$Position;", true)
  | 3 => ("HexArbiter", "before", "LHexArbiter$Position;", true)
  | 4 => ("HexArbiter", "history", "LHexArbiter$History;", true)
  | 5 => ("HexArbiter", "firstSnapshot", "LHexArbiter$Position;", true)
  | 6 => ("HexArbiter", "secondSnapshot", "LHexArbiter$Position;", true)
  | 7 => ("HexArbiter", "input", "LHexArbiter$Bytes;", true)
  | 8 => ("HexArbiter", "output", "LHexArbiter$Bytes;", true)
  | 9 => ("HexArbiter", "reader", "LHexArbiter$Reader;", true)
  | 10 => ("HexArbiter", "bridgeList", "LHexArbiter$BridgeList;", true)
  | 11 => ("HexArbiter", "redPaths", "LHexArbiter$Paths;", true)
  | 12 => ("HexArbiter", "bluePaths", "LHexArbiter$Paths;", true)
  | 13 => ("HexArbiter", "flow", "LHexArbiter$Flow;", true)
  | 14 => ("HexArbiter", "endgame", "LHexArbiter$Endgame;", true)
  | _ => ("HexArbiter", "filling", "LHexArbiter$Filling;", true)
def tyX11 : Nat → FieldType := fun k => match k with
  | 0 => .object "HexArbiter$Grid"
  | 1 => .object "HexArbiter$Links"
  | 2 => .object "HexArbiter$Position"
  | 3 => .object "HexArbiter$Position"
  | 4 => .object "HexArbiter$History"
  | 5 => .object "HexArbiter$Position"
  | 6 => .object "HexArbiter$Position"
  | 7 => .object "HexArbiter$Bytes"
  | 8 => .object "HexArbiter$Bytes"
  | 9 => .object "HexArbiter$Reader"
  | 10 => .object "HexArbiter$BridgeList"
  | 11 => .object "HexArbiter$Paths"
  | 12 => .object "HexArbiter$Paths"
  | 13 => .object "HexArbiter$Flow"
  | 14 => .object "HexArbiter$Endgame"
  | _ => .object "HexArbiter$Filling"
abbrev wsX110 : List Cond := u_ws RX11 TX11 16
theorem nmX11 : ∀ a, a < 16 → ∀ b, b < 16 → a ≠ b → (TX11 a).2.1 ≠ (TX11 b).2.1 := by decide +kernel
theorem tyX11_ok : ∀ k, k < 16 → parseFieldDescriptor (TX11 k).2.2.1 = some (tyX11 k) := by decide +kernel
abbrev cX11_init : ByteArray := prog_1_method_1_code
def yX11_init : MethodName := ⟨RX11, "<init>", "()V"⟩
abbrev cX11_append : ByteArray := prog_1_method_2_code
def yX11_append : MethodName := ⟨RX11, "append", "(J)I"⟩
abbrev cX11_load : ByteArray := prog_1_method_3_code
def yX11_load : MethodName := ⟨RX11, "load", "()I"⟩
abbrev cX11_size : ByteArray := prog_1_method_6_code
def yX11_size : MethodName := ⟨RX11, "size", "(I)I"⟩
abbrev cX11_cell : ByteArray := prog_1_method_7_code
def yX11_cell : MethodName := ⟨RX11, "cell", "(I)I"⟩
abbrev cX11_neighbour : ByteArray := prog_1_method_8_code
def yX11_neighbour : MethodName := ⟨RX11, "neighbour", "(II)I"⟩
abbrev cX11_group : ByteArray := prog_1_method_9_code
def yX11_group : MethodName := ⟨RX11, "group", "(II)I"⟩
abbrev cX11_groups : ByteArray := prog_1_method_10_code
def yX11_groups : MethodName := ⟨RX11, "groups", "(I)I"⟩
abbrev cX11_largest : ByteArray := prog_1_method_11_code
def yX11_largest : MethodName := ⟨RX11, "largest", "(I)I"⟩
abbrev cX11_isBridge : ByteArray := prog_1_method_12_code
def yX11_isBridge : MethodName := ⟨RX11, "isBridge", "(II)Z"⟩
abbrev cX11_bridges : ByteArray := prog_1_method_13_code
def yX11_bridges : MethodName := ⟨RX11, "bridges", "(IZ)I"⟩
abbrev cX11_bridge : ByteArray := prog_1_method_14_code
def yX11_bridge : MethodName := ⟨RX11, "bridge", "(III)I"⟩
abbrev cX11_chain : ByteArray := prog_1_method_15_code
def yX11_chain : MethodName := ⟨RX11, "chain", "(II)I"⟩
abbrev cX11_chains : ByteArray := prog_1_method_16_code
def yX11_chains : MethodName := ⟨RX11, "chains", "(I)I"⟩
abbrev cX11_isSafe : ByteArray := prog_1_method_17_code
def yX11_isSafe : MethodName := ⟨RX11, "isSafe", "(I)Z"⟩
abbrev cX11_answer : ByteArray := prog_1_method_18_code
def yX11_answer : MethodName := ⟨RX11, "answer", "(I)I"⟩
abbrev cX11_threats : ByteArray := prog_1_method_19_code
def yX11_threats : MethodName := ⟨RX11, "threats", "(I)I"⟩
abbrev cX11_threat : ByteArray := prog_1_method_20_code
def yX11_threat : MethodName := ⟨RX11, "threat", "(II)I"⟩
abbrev cX11_forced : ByteArray := prog_1_method_21_code
def yX11_forced : MethodName := ⟨RX11, "forced", "()I"⟩
abbrev cX11_distance : ByteArray := prog_1_method_22_code
def yX11_distance : MethodName := ⟨RX11, "distance", "(I)I"⟩
abbrev cX11_through : ByteArray := prog_1_method_23_code
def yX11_through : MethodName := ⟨RX11, "through", "(II)I"⟩
abbrev cX11_useful : ByteArray := prog_1_method_24_code
def yX11_useful : MethodName := ⟨RX11, "useful", "(I)I"⟩
abbrev cX11_potential : ByteArray := prog_1_method_26_code
def yX11_potential : MethodName := ⟨RX11, "potential", "(III)I"⟩
abbrev cX11_solved : ByteArray := prog_1_method_30_code
def yX11_solved : MethodName := ⟨RX11, "solved", "()I"⟩
abbrev cX11_goodMoves : ByteArray := prog_1_method_31_code
def yX11_goodMoves : MethodName := ⟨RX11, "goodMoves", "()I"⟩
abbrev cX11_bestMove : ByteArray := prog_1_method_32_code
def yX11_bestMove : MethodName := ⟨RX11, "bestMove", "()I"⟩
abbrev cX11_filled : ByteArray := prog_1_method_33_code
def yX11_filled : MethodName := ⟨RX11, "filled", "(I)I"⟩
abbrev cX11_fillings : ByteArray := prog_1_method_34_code
def yX11_fillings : MethodName := ⟨RX11, "fillings", "(III)I"⟩
abbrev cX11_idle : ByteArray := prog_1_method_35_code
def yX11_idle : MethodName := ⟨RX11, "idle", "(I)I"⟩
abbrev cX11_moveAt : ByteArray := prog_1_method_36_code
def yX11_moveAt : MethodName := ⟨RX11, "moveAt", "(I)I"⟩
abbrev cX11_move : ByteArray := prog_1_method_37_code
def yX11_move : MethodName := ⟨RX11, "move", "(I)I"⟩
abbrev cX11_swap : ByteArray := prog_1_method_38_code
def yX11_swap : MethodName := ⟨RX11, "swap", "()I"⟩
abbrev cX11_giveUp : ByteArray := prog_1_method_39_code
def yX11_giveUp : MethodName := ⟨RX11, "giveUp", "()I"⟩
abbrev cX11_put : ByteArray := prog_1_method_40_code
def yX11_put : MethodName := ⟨RX11, "put", "(II)I"⟩
abbrev cX11_setTurn : ByteArray := prog_1_method_41_code
def yX11_setTurn : MethodName := ⟨RX11, "setTurn", "(I)I"⟩
abbrev cX11_turnOver : ByteArray := prog_1_method_42_code
def yX11_turnOver : MethodName := ⟨RX11, "turnOver", "()I"⟩
abbrev cX11_playForced : ByteArray := prog_1_method_43_code
def yX11_playForced : MethodName := ⟨RX11, "playForced", "(I)I"⟩
abbrev cX11_forcedWinner : ByteArray := prog_1_method_44_code
def yX11_forcedWinner : MethodName := ⟨RX11, "forcedWinner", "()I"⟩
abbrev cX11_forcedRow : ByteArray := prog_1_method_45_code
def yX11_forcedRow : MethodName := ⟨RX11, "forcedRow", "()I"⟩
abbrev cX11_undo : ByteArray := prog_1_method_50_code
def yX11_undo : MethodName := ⟨RX11, "undo", "()I"⟩
abbrev cX11_saveSnapshot : ByteArray := prog_1_method_51_code
def yX11_saveSnapshot : MethodName := ⟨RX11, "saveSnapshot", "(I)I"⟩
abbrev cX11_restoreSnapshot : ByteArray := prog_1_method_52_code
def yX11_restoreSnapshot : MethodName := ⟨RX11, "restoreSnapshot", "(I)I"⟩
abbrev cX11_requireCell : ByteArray := prog_1_method_53_code
def yX11_requireCell : MethodName := ⟨RX11, "requireCell", "(I)V"⟩
abbrev cX11_requireSide : ByteArray := prog_1_method_54_code
def yX11_requireSide : MethodName := ⟨RX11, "requireSide", "(I)V"⟩
abbrev cX11_requireRange : ByteArray := prog_1_method_55_code
def yX11_requireRange : MethodName := ⟨RX11, "requireRange", "(III)V"⟩
abbrev cX11_otherSide : ByteArray := prog_1_method_56_code
def yX11_otherSide : MethodName := ⟨RX11, "otherSide", "(I)I"⟩
abbrev cX11_at : ByteArray := prog_1_method_57_code
def yX11_at : MethodName := ⟨RX11, "at", "([II)I"⟩
abbrev cX11_set : ByteArray := prog_1_method_58_code
def yX11_set : MethodName := ⟨RX11, "set", "([III)V"⟩
abbrev cX11_winner : ByteArray := prog_1_method_59_code
def yX11_winner : MethodName := ⟨RX11, "winner", "()I"⟩
abbrev cX11_canSwap : ByteArray := prog_1_method_60_code
def yX11_canSwap : MethodName := ⟨RX11, "canSwap", "()Z"⟩
abbrev cX11_liberties : ByteArray := prog_1_method_61_code
def yX11_liberties : MethodName := ⟨RX11, "liberties", "(I)I"⟩
abbrev cX11_gatherChains : ByteArray := prog_1_method_62_code
def yX11_gatherChains : MethodName := ⟨RX11, "gatherChains", "(I)V"⟩
abbrev cX11_countThreats : ByteArray := prog_1_method_63_code
def yX11_countThreats : MethodName := ⟨RX11, "countThreats", "(I)I"⟩
abbrev cX11_findThreat : ByteArray := prog_1_method_64_code
def yX11_findThreat : MethodName := ⟨RX11, "findThreat", "(II)I"⟩
abbrev cX11_forcedCell : ByteArray := prog_1_method_65_code
def yX11_forcedCell : MethodName := ⟨RX11, "forcedCell", "()I"⟩
abbrev cX11_answerToLatestMove : ByteArray := prog_1_method_66_code
def yX11_answerToLatestMove : MethodName := ⟨RX11, "answerToLatestMove", "(I)I"⟩
abbrev cX11_makeForced : ByteArray := prog_1_method_67_code
def yX11_makeForced : MethodName := ⟨RX11, "makeForced", "(I)I"⟩
abbrev cX11_pathsOf : ByteArray := prog_1_method_68_code
def yX11_pathsOf : MethodName := ⟨RX11, "pathsOf", "(I)LHexArbiter$Paths;"⟩
def RJ5 : String := "java/lang/AbstractStringBuilder"
def TJ5 : u_T := fun k => match k with
  | _ => ("", "", "", false)
def tyJ5 : Nat → FieldType := fun k => match k with
  | _ => .int
abbrev wsJ50 : List Cond := u_ws RJ5 TJ5 0
theorem nmJ5 : ∀ a, a < 0 → ∀ b, b < 0 → a ≠ b → (TJ5 a).2.1 ≠ (TJ5 b).2.1 := by decide +kernel
theorem tyJ5_ok : ∀ k, k < 0 → parseFieldDescriptor (TJ5 k).2.2.1 = some (tyJ5 k) := by decide +kernel
abbrev cJ5_init_a7421 : ByteArray := prog_15_method_3_code
def yJ5_init_a7421 : MethodName := ⟨RJ5, "<init>", "(Ljava/lang/String;)V"⟩
abbrev cJ5_length_8abf5 : ByteArray := prog_15_method_6_code
def yJ5_length_8abf5 : MethodName := ⟨RJ5, "length", "()I"⟩
abbrev cJ5_ensureCapacityInternal_d00df : ByteArray := prog_15_method_9_code
def yJ5_ensureCapacityInternal_d00df : MethodName := ⟨RJ5, "ensureCapacityInternal", "(I)V"⟩
abbrev cJ5_newCapacity_0f7a4 : ByteArray := prog_15_method_10_code
def yJ5_newCapacity_0f7a4 : MethodName := ⟨RJ5, "newCapacity", "(I)I"⟩
abbrev cJ5_inflate_da8c8 : ByteArray := prog_15_method_11_code
def yJ5_inflate_da8c8 : MethodName := ⟨RJ5, "inflate", "()V"⟩
abbrev cJ5_append_cf1ce : ByteArray := prog_15_method_22_code
def yJ5_append_cf1ce : MethodName := ⟨RJ5, "append", "(Ljava/lang/String;)Ljava/lang/AbstractStringBuilder;"⟩
abbrev cJ5_appendNull_278bc : ByteArray := prog_15_method_26_code
def yJ5_appendNull_278bc : MethodName := ⟨RJ5, "appendNull", "()Ljava/lang/AbstractStringBuilder;"⟩
abbrev cJ5_append_3fe6f : ByteArray := prog_15_method_31_code
def yJ5_append_3fe6f : MethodName := ⟨RJ5, "append", "(C)Ljava/lang/AbstractStringBuilder;"⟩
abbrev cJ5_append_c97b9 : ByteArray := prog_15_method_32_code
def yJ5_append_c97b9 : MethodName := ⟨RJ5, "append", "(I)Ljava/lang/AbstractStringBuilder;"⟩
abbrev cJ5_getValue_6d5f1 : ByteArray := prog_15_method_64_code
def yJ5_getValue_6d5f1 : MethodName := ⟨RJ5, "getValue", "()[B"⟩
abbrev cJ5_isLatin1_aae02 : ByteArray := prog_15_method_68_code
def yJ5_isLatin1_aae02 : MethodName := ⟨RJ5, "isLatin1", "()Z"⟩
abbrev cJ5_inflateIfNeededFor_a7421 : ByteArray := prog_15_method_71_code
def yJ5_inflateIfNeededFor_a7421 : MethodName := ⟨RJ5, "inflateIfNeededFor", "(Ljava/lang/String;)V"⟩
abbrev cJ5_putStringAt_47b60 : ByteArray := prog_15_method_73_code
def yJ5_putStringAt_47b60 : MethodName := ⟨RJ5, "putStringAt", "(ILjava/lang/String;)V"⟩
def RJ6 : String := "java/lang/Integer"
def TJ6 : u_T := fun k => match k with
  | _ => ("", "", "", false)
def tyJ6 : Nat → FieldType := fun k => match k with
  | _ => .int
abbrev wsJ60 : List Cond := u_ws RJ6 TJ6 0
theorem nmJ6 : ∀ a, a < 0 → ∀ b, b < 0 → a ≠ b → (TJ6 a).2.1 ≠ (TJ6 b).2.1 := by decide +kernel
theorem tyJ6_ok : ∀ k, k < 0 → parseFieldDescriptor (TJ6 k).2.2.1 = some (tyJ6 k) := by decide +kernel
abbrev cJ6_getChars_ba4f3 : ByteArray := prog_20_method_12_code
def yJ6_getChars_ba4f3 : MethodName := ⟨RJ6, "getChars", "(II[B)I"⟩
abbrev cJ6_stringSize_0f7a4 : ByteArray := prog_20_method_13_code
def yJ6_stringSize_0f7a4 : MethodName := ⟨RJ6, "stringSize", "(I)I"⟩
def RJ9 : String := "java/lang/Math"
def TJ9 : u_T := fun k => match k with
  | _ => ("", "", "", false)
def tyJ9 : Nat → FieldType := fun k => match k with
  | _ => .int
abbrev wsJ90 : List Cond := u_ws RJ9 TJ9 0
theorem nmJ9 : ∀ a, a < 0 → ∀ b, b < 0 → a ≠ b → (TJ9 a).2.1 ≠ (TJ9 b).2.1 := by decide +kernel
theorem tyJ9_ok : ∀ k, k < 0 → parseFieldDescriptor (TJ9 k).2.2.1 = some (tyJ9 k) := by decide +kernel
abbrev cJ9_abs_0f7a4 : ByteArray := prog_21_method_59_code
def yJ9_abs_0f7a4 : MethodName := ⟨RJ9, "abs", "(I)I"⟩
abbrev cJ9_max_7cf53 : ByteArray := prog_21_method_65_code
def yJ9_max_7cf53 : MethodName := ⟨RJ9, "max", "(II)I"⟩
abbrev cJ9_min_7cf53 : ByteArray := prog_21_method_69_code
def yJ9_min_7cf53 : MethodName := ⟨RJ9, "min", "(II)I"⟩
def RJ0 : String := "java/lang/String"
def TJ0 : u_T := fun k => match k with
  | 0 => ("java/lang/String", "value", "[B", true)
  | 1 => ("java/lang/String", "coder", "B", true)
  | 2 => ("java/lang/String", "hash", "I", false)
  | _ => ("java/lang/String", "hashIsZero", "Z", false)
def tyJ0 : Nat → FieldType := fun k => match k with
  | 0 => .array .byte
  | 1 => .byte
  | 2 => .int
  | _ => .boolean
abbrev wsJ00 : List Cond := u_ws RJ0 TJ0 4
theorem nmJ0 : ∀ a, a < 4 → ∀ b, b < 4 → a ≠ b → (TJ0 a).2.1 ≠ (TJ0 b).2.1 := by decide +kernel
theorem tyJ0_ok : ∀ k, k < 4 → parseFieldDescriptor (TJ0 k).2.2.1 = some (tyJ0 k) := by decide +kernel
abbrev cJ0_init_81219 : ByteArray := prog_23_method_53_code
def yJ0_init_81219 : MethodName := ⟨RJ0, "<init>", "(Ljava/lang/StringBuilder;)V"⟩
abbrev cJ0_length_8abf5 : ByteArray := prog_23_method_54_code
def yJ0_length_8abf5 : MethodName := ⟨RJ0, "length", "()I"⟩
abbrev cJ0_charAt_5068e : ByteArray := prog_23_method_56_code
def yJ0_charAt_5068e : MethodName := ⟨RJ0, "charAt", "(I)C"⟩
abbrev cJ0_getBytes_840e7 : ByteArray := prog_23_method_147_code
def yJ0_getBytes_840e7 : MethodName := ⟨RJ0, "getBytes", "([BIB)V"⟩
abbrev cJ0_init_db425 : ByteArray := prog_23_method_150_code
def yJ0_init_db425 : MethodName := ⟨RJ0, "<init>", "(Ljava/lang/AbstractStringBuilder;Ljava/lang/Void;)V"⟩
abbrev cJ0_coder_7d493 : ByteArray := prog_23_method_152_code
def yJ0_coder_7d493 : MethodName := ⟨RJ0, "coder", "()B"⟩
abbrev cJ0_isLatin1_aae02 : ByteArray := prog_23_method_154_code
def yJ0_isLatin1_aae02 : MethodName := ⟨RJ0, "isLatin1", "()Z"⟩
abbrev cJ0_checkIndex_df160 : ByteArray := prog_23_method_155_code
def yJ0_checkIndex_df160 : MethodName := ⟨RJ0, "checkIndex", "(II)V"⟩
abbrev cJ0_checkBoundsOffCount_cabcc : ByteArray := prog_23_method_157_code
def yJ0_checkBoundsOffCount_cabcc : MethodName := ⟨RJ0, "checkBoundsOffCount", "(III)I"⟩
abbrev cJ0_checkBoundsBeginEnd_23922 : ByteArray := prog_23_method_158_code
def yJ0_checkBoundsBeginEnd_23922 : MethodName := ⟨RJ0, "checkBoundsBeginEnd", "(III)V"⟩
def RJ4 : String := "java/lang/StringBuilder"
def TJ4 : u_T := fun k => match k with
  | 0 => ("java/lang/AbstractStringBuilder", "value", "[B", false)
  | 1 => ("java/lang/AbstractStringBuilder", "coder", "B", false)
  | 2 => ("java/lang/AbstractStringBuilder", "maybeLatin1", "Z", false)
  | _ => ("java/lang/AbstractStringBuilder", "count", "I", false)
def tyJ4 : Nat → FieldType := fun k => match k with
  | 0 => .array .byte
  | 1 => .byte
  | 2 => .boolean
  | _ => .int
abbrev wsJ40 : List Cond := u_ws RJ4 TJ4 4
theorem nmJ4 : ∀ a, a < 4 → ∀ b, b < 4 → a ≠ b → (TJ4 a).2.1 ≠ (TJ4 b).2.1 := by decide +kernel
theorem tyJ4_ok : ∀ k, k < 4 → parseFieldDescriptor (TJ4 k).2.2.1 = some (tyJ4 k) := by decide +kernel
abbrev cJ4_init_a7421 : ByteArray := prog_24_method_3_code
def yJ4_init_a7421 : MethodName := ⟨RJ4, "<init>", "(Ljava/lang/String;)V"⟩
abbrev cJ4_append_15ec4 : ByteArray := prog_24_method_7_code
def yJ4_append_15ec4 : MethodName := ⟨RJ4, "append", "(Ljava/lang/String;)Ljava/lang/StringBuilder;"⟩
abbrev cJ4_append_cf468 : ByteArray := prog_24_method_14_code
def yJ4_append_cf468 : MethodName := ⟨RJ4, "append", "(C)Ljava/lang/StringBuilder;"⟩
abbrev cJ4_append_bf812 : ByteArray := prog_24_method_15_code
def yJ4_append_bf812 : MethodName := ⟨RJ4, "append", "(I)Ljava/lang/StringBuilder;"⟩
abbrev cJ4_toString_0e30d : ByteArray := prog_24_method_42_code
def yJ4_toString_0e30d : MethodName := ⟨RJ4, "toString", "()Ljava/lang/String;"⟩
abbrev cJ4_append_cf1ce : ByteArray := prog_24_method_80_code
def yJ4_append_cf1ce : MethodName := ⟨RJ4, "append", "(Ljava/lang/String;)Ljava/lang/AbstractStringBuilder;"⟩
abbrev cJ4_length_8abf5 : ByteArray := prog_24_method_93_code
def yJ4_length_8abf5 : MethodName := ⟨RJ4, "length", "()I"⟩
def RJ1 : String := "java/lang/StringLatin1"
def TJ1 : u_T := fun k => match k with
  | _ => ("", "", "", false)
def tyJ1 : Nat → FieldType := fun k => match k with
  | _ => .int
abbrev wsJ10 : List Cond := u_ws RJ1 TJ1 0
theorem nmJ1 : ∀ a, a < 0 → ∀ b, b < 0 → a ≠ b → (TJ1 a).2.1 ≠ (TJ1 b).2.1 := by decide +kernel
theorem tyJ1_ok : ∀ k, k < 0 → parseFieldDescriptor (TJ1 k).2.2.1 = some (tyJ1 k) := by decide +kernel
abbrev cJ1_charAt_3b067 : ByteArray := prog_25_method_2_code
def yJ1_charAt_3b067 : MethodName := ⟨RJ1, "charAt", "([BI)C"⟩
abbrev cJ1_canEncode_fc78d : ByteArray := prog_25_method_3_code
def yJ1_canEncode_fc78d : MethodName := ⟨RJ1, "canEncode", "(C)Z"⟩
abbrev cJ1_inflate_0e8fd : ByteArray := prog_25_method_50_code
def yJ1_inflate_0e8fd : MethodName := ⟨RJ1, "inflate", "([BI[BII)V"⟩
def RJ2 : String := "java/lang/StringUTF16"
def TJ2 : u_T := fun k => match k with
  | _ => ("", "", "", false)
def tyJ2 : Nat → FieldType := fun k => match k with
  | _ => .int
abbrev wsJ20 : List Cond := u_ws RJ2 TJ2 0
theorem nmJ2 : ∀ a, a < 0 → ∀ b, b < 0 → a ≠ b → (TJ2 a).2.1 ≠ (TJ2 b).2.1 := by decide +kernel
theorem tyJ2_ok : ∀ k, k < 0 → parseFieldDescriptor (TJ2 k).2.2.1 = some (tyJ2 k) := by decide +kernel
abbrev cJ2_newBytesFor_77867 : ByteArray := prog_26_method_2_code
def yJ2_newBytesFor_77867 : MethodName := ⟨RJ2, "newBytesFor", "(I)[B"⟩
abbrev cJ2_newBytesLength_0f7a4 : ByteArray := prog_26_method_3_code
def yJ2_newBytesLength_0f7a4 : MethodName := ⟨RJ2, "newBytesLength", "(I)I"⟩
abbrev cJ2_putChar_b72d1 : ByteArray := prog_26_method_4_code
def yJ2_putChar_b72d1 : MethodName := ⟨RJ2, "putChar", "([BII)V"⟩
abbrev cJ2_getChar_3b067 : ByteArray := prog_26_method_5_code
def yJ2_getChar_3b067 : MethodName := ⟨RJ2, "getChar", "([BI)C"⟩
abbrev cJ2_length_9d52b : ByteArray := prog_26_method_6_code
def yJ2_length_9d52b : MethodName := ⟨RJ2, "length", "([B)I"⟩
abbrev cJ2_coderFromArrayLen_85cad : ByteArray := prog_26_method_15_code
def yJ2_coderFromArrayLen_85cad : MethodName := ⟨RJ2, "coderFromArrayLen", "([BI)B"⟩
abbrev cJ2_compress_39247 : ByteArray := prog_26_method_17_code
def yJ2_compress_39247 : MethodName := ⟨RJ2, "compress", "([BII)[B"⟩
abbrev cJ2_compress_5af95 : ByteArray := prog_26_method_22_code
def yJ2_compress_5af95 : MethodName := ⟨RJ2, "compress", "([BI[BII)I"⟩
abbrev cJ2_putCharSB_b72d1 : ByteArray := prog_26_method_71_code
def yJ2_putCharSB_b72d1 : MethodName := ⟨RJ2, "putCharSB", "([BII)V"⟩
abbrev cJ2_getChars_46870 : ByteArray := prog_26_method_77_code
def yJ2_getChars_46870 : MethodName := ⟨RJ2, "getChars", "(III[B)I"⟩
abbrev cJ2_putCharsAt_cd4e5 : ByteArray := prog_26_method_81_code
def yJ2_putCharsAt_cd4e5 : MethodName := ⟨RJ2, "putCharsAt", "([BICCCC)I"⟩
abbrev cJ2_charAt_3b067 : ByteArray := prog_26_method_83_code
def yJ2_charAt_3b067 : MethodName := ⟨RJ2, "charAt", "([BI)C"⟩
abbrev cJ2_inflate_0e8fd : ByteArray := prog_26_method_86_code
def yJ2_inflate_0e8fd : MethodName := ⟨RJ2, "inflate", "([BI[BII)V"⟩
abbrev cJ2_getChars_ba4f3 : ByteArray := prog_26_method_89_code
def yJ2_getChars_ba4f3 : MethodName := ⟨RJ2, "getChars", "(II[B)I"⟩
abbrev cJ2_checkIndex_2214a : ByteArray := prog_26_method_91_code
def yJ2_checkIndex_2214a : MethodName := ⟨RJ2, "checkIndex", "(I[B)V"⟩
abbrev cJ2_checkBoundsBeginEnd_d044e : ByteArray := prog_26_method_93_code
def yJ2_checkBoundsBeginEnd_d044e : MethodName := ⟨RJ2, "checkBoundsBeginEnd", "(II[B)V"⟩
abbrev cJ2_checkBoundsOffCount_d044e : ByteArray := prog_26_method_94_code
def yJ2_checkBoundsOffCount_d044e : MethodName := ⟨RJ2, "checkBoundsOffCount", "(II[B)V"⟩
def RJ10 : String := "java/lang/System"
def TJ10 : u_T := fun k => match k with
  | _ => ("", "", "", false)
def tyJ10 : Nat → FieldType := fun k => match k with
  | _ => .int
abbrev wsJ100 : List Cond := u_ws RJ10 TJ10 0
theorem nmJ10 : ∀ a, a < 0 → ∀ b, b < 0 → a ≠ b → (TJ10 a).2.1 ≠ (TJ10 b).2.1 := by decide +kernel
theorem tyJ10_ok : ∀ k, k < 0 → parseFieldDescriptor (TJ10 k).2.2.1 = some (tyJ10 k) := by decide +kernel
def RJ7 : String := "java/util/Arrays"
def TJ7 : u_T := fun k => match k with
  | _ => ("", "", "", false)
def tyJ7 : Nat → FieldType := fun k => match k with
  | _ => .int
abbrev wsJ70 : List Cond := u_ws RJ7 TJ7 0
theorem nmJ7 : ∀ a, a < 0 → ∀ b, b < 0 → a ≠ b → (TJ7 a).2.1 ≠ (TJ7 b).2.1 := by decide +kernel
theorem tyJ7_ok : ∀ k, k < 0 → parseFieldDescriptor (TJ7 k).2.2.1 = some (tyJ7 k) := by decide +kernel
abbrev cJ7_copyOf_9075b : ByteArray := prog_29_method_121_code
def yJ7_copyOf_9075b : MethodName := ⟨RJ7, "copyOf", "([BI)[B"⟩
abbrev cJ7_checkLength_df160 : ByteArray := prog_29_method_131_code
def yJ7_checkLength_df160 : MethodName := ⟨RJ7, "checkLength", "(II)V"⟩
abbrev cJ7_copyOfRange_39247 : ByteArray := prog_29_method_132_code
def yJ7_copyOfRange_39247 : MethodName := ⟨RJ7, "copyOfRange", "([BII)[B"⟩
abbrev cJ7_copyOfRangeByte_39247 : ByteArray := prog_29_method_133_code
def yJ7_copyOfRangeByte_39247 : MethodName := ⟨RJ7, "copyOfRangeByte", "([BII)[B"⟩
def RJ8 : String := "jdk/internal/util/ArraysSupport"
def TJ8 : u_T := fun k => match k with
  | _ => ("", "", "", false)
def tyJ8 : Nat → FieldType := fun k => match k with
  | _ => .int
abbrev wsJ80 : List Cond := u_ws RJ8 TJ8 0
theorem nmJ8 : ∀ a, a < 0 → ∀ b, b < 0 → a ≠ b → (TJ8 a).2.1 ≠ (TJ8 b).2.1 := by decide +kernel
theorem tyJ8_ok : ∀ k, k < 0 → parseFieldDescriptor (TJ8 k).2.2.1 = some (tyJ8 k) := by decide +kernel
abbrev cJ8_newLength_cabcc : ByteArray := prog_30_method_27_code
def yJ8_newLength_cabcc : MethodName := ⟨RJ8, "newLength", "(III)I"⟩
abbrev cJ8_hugeLength_7cf53 : ByteArray := prog_30_method_28_code
def yJ8_hugeLength_7cf53 : MethodName := ⟨RJ8, "hugeLength", "(II)I"⟩
def RJ3 : String := "jdk/internal/util/Preconditions"
def TJ3 : u_T := fun k => match k with
  | _ => ("", "", "", false)
def tyJ3 : Nat → FieldType := fun k => match k with
  | _ => .int
abbrev wsJ30 : List Cond := u_ws RJ3 TJ3 0
theorem nmJ3 : ∀ a, a < 0 → ∀ b, b < 0 → a ≠ b → (TJ3 a).2.1 ≠ (TJ3 b).2.1 := by decide +kernel
theorem tyJ3_ok : ∀ k, k < 0 → parseFieldDescriptor (TJ3 k).2.2.1 = some (tyJ3 k) := by decide +kernel
abbrev cJ3_checkIndex_8e157 : ByteArray := prog_31_method_11_code
def yJ3_checkIndex_8e157 : MethodName := ⟨RJ3, "checkIndex", "(IILjava/util/function/BiFunction;)I"⟩
abbrev cJ3_checkFromToIndex_8c36e : ByteArray := prog_31_method_12_code
def yJ3_checkFromToIndex_8c36e : MethodName := ⟨RJ3, "checkFromToIndex", "(IIILjava/util/function/BiFunction;)I"⟩
abbrev cJ3_checkFromIndexSize_8c36e : ByteArray := prog_31_method_13_code
def yJ3_checkFromIndexSize_8c36e : MethodName := ⟨RJ3, "checkFromIndexSize", "(IIILjava/util/function/BiFunction;)I"⟩
def RL : String := "HexArbiterLaw"
abbrev cL_cell : ByteArray := method_2_code
def yL_cell : MethodName := ⟨RL, "cell", "([II)I"⟩
abbrev cL_load : ByteArray := method_3_code
def yL_load : MethodName := ⟨RL, "load", "(LHexArbiter;Ljava/lang/String;)I"⟩
abbrev cL_start : ByteArray := method_4_code
def yL_start : MethodName := ⟨RL, "start", "(LHexArbiter;[I)I"⟩
abbrev cL_step : ByteArray := method_5_code
def yL_step : MethodName := ⟨RL, "step", "(LHexArbiter;[II)V"⟩
abbrev cL_whole : ByteArray := method_6_code
def yL_whole : MethodName := ⟨RL, "whole", "(LHexArbiter;)J"⟩
abbrev cL_groups : ByteArray := method_7_code
def yL_groups : MethodName := ⟨RL, "groups", "(LHexArbiter;I)Z"⟩
abbrev cL_bridges : ByteArray := method_8_code
def yL_bridges : MethodName := ⟨RL, "bridges", "(LHexArbiter;I)Z"⟩
abbrev cL_ways : ByteArray := method_9_code
def yL_ways : MethodName := ⟨RL, "ways", "(LHexArbiter;I)Z"⟩
abbrev cL_threats : ByteArray := method_10_code
def yL_threats : MethodName := ⟨RL, "threats", "(LHexArbiter;I)Z"⟩
abbrev cL_foresees : ByteArray := method_11_code
def yL_foresees : MethodName := ⟨RL, "foresees", "(LHexArbiter;[II)Z"⟩
abbrev cL_agrees : ByteArray := method_12_code
def yL_agrees : MethodName := ⟨RL, "agrees", "(LHexArbiter;)Z"⟩
abbrev cL_law : ByteArray := code
def yL_law : MethodName := ⟨RL, "law", "([I)Z"⟩
/-- the classes of the run: the class's own (0 to 11), String (12), StringBuilder (13) -/
abbrev vwCl : List vw_C := [(RX0, TX0, 8), (RX1, TX1, 2), (RX2, TX2, 6), (RX3, TX3, 4), (RX4, TX4, 4), (RX5, TX5, 5), (RX6, TX6, 3), (RX7, TX7, 6), (RX8, TX8, 4), (RX9, TX9, 7), (RX10, TX10, 11), (RX11, TX11, 16), (RJ0, TJ0, 4), (RJ4, TJ4, 4)]
end
section
/-! ===== the abstract heap: ints, references, longs, doubles by object and place; objects have small numbers ===== -/
abbrev Hp : Type := (Nat → Nat → Int32) × (Nat → Nat → Option Nat) × (Nat → Nat → Int64) × (Nat → Nat → UInt64)
def gI (h : Hp) : Nat → Nat → Int32 := h.1
def gR (h : Hp) : Nat → Nat → Option Nat := h.2.1
def gL (h : Hp) : Nat → Nat → Int64 := h.2.2.1
def gD (h : Hp) : Nat → Nat → UInt64 := h.2.2.2
def sI (h : Hp) (a k : Nat) (v : Int32) : Hp := (fun b j => if b = a ∧ j = k then v else h.1 b j, h.2)
def sR (h : Hp) (a k : Nat) (v : Option Nat) : Hp := (h.1, fun b j => if b = a ∧ j = k then v else h.2.1 b j, h.2.2)
def sL (h : Hp) (a k : Nat) (v : Int64) : Hp := (h.1, h.2.1, fun b j => if b = a ∧ j = k then v else h.2.2.1 b j, h.2.2.2)
def sD (h : Hp) (a k : Nat) (v : UInt64) : Hp := (h.1, h.2.1, h.2.2.1, fun b j => if b = a ∧ j = k then v else h.2.2.2 b j)
theorem gI_sI (h : Hp) (a k : Nat) (v : Int32) (b j : Nat) : gI (sI h a k v) b j = if b = a ∧ j = k then v else gI h b j := rfl
theorem gR_sI (h : Hp) (a k : Nat) (v : Int32) : gR (sI h a k v) = gR h := rfl
theorem gL_sI (h : Hp) (a k : Nat) (v : Int32) : gL (sI h a k v) = gL h := rfl
theorem gD_sI (h : Hp) (a k : Nat) (v : Int32) : gD (sI h a k v) = gD h := rfl
theorem gR_sR (h : Hp) (a k : Nat) (v : Option Nat) (b j : Nat) : gR (sR h a k v) b j = if b = a ∧ j = k then v else gR h b j := rfl
theorem gI_sR (h : Hp) (a k : Nat) (v : Option Nat) : gI (sR h a k v) = gI h := rfl
theorem gL_sR (h : Hp) (a k : Nat) (v : Option Nat) : gL (sR h a k v) = gL h := rfl
theorem gD_sR (h : Hp) (a k : Nat) (v : Option Nat) : gD (sR h a k v) = gD h := rfl
theorem gL_sL (h : Hp) (a k : Nat) (v : Int64) (b j : Nat) : gL (sL h a k v) b j = if b = a ∧ j = k then v else gL h b j := rfl
theorem gI_sL (h : Hp) (a k : Nat) (v : Int64) : gI (sL h a k v) = gI h := rfl
theorem gR_sL (h : Hp) (a k : Nat) (v : Int64) : gR (sL h a k v) = gR h := rfl
theorem gD_sL (h : Hp) (a k : Nat) (v : Int64) : gD (sL h a k v) = gD h := rfl
theorem gD_sD (h : Hp) (a k : Nat) (v : UInt64) (b j : Nat) : gD (sD h a k v) b j = if b = a ∧ j = k then v else gD h b j := rfl
theorem gI_sD (h : Hp) (a k : Nat) (v : UInt64) : gI (sD h a k v) = gI h := rfl
theorem gR_sD (h : Hp) (a k : Nat) (v : UInt64) : gR (sD h a k v) = gR h := rfl
theorem gL_sD (h : Hp) (a k : Nat) (v : UInt64) : gL (sD h a k v) = gL h := rfl
/-! the objects: their kinds, by number -/
abbrev Shp : Type := Nat ⊕ (FieldType × Nat)
abbrev ty_pos : FieldType := .object "HexArbiter$Position"

def shL : List Shp := [.inl 11, .inl 5, .inr (.int, 486), .inr (.int, 81), .inr (.int, 81), .inl 7, .inr (.int, 81), .inr (.int, 81), .inr (.int, 81), .inr (.int, 81), .inl 9, .inr (.int, 81), .inr (.int, 200), .inl 9, .inr (.int, 81), .inr (.int, 200), .inl 6, .inr (ty_pos, 8), .inl 9, .inr (.int, 81), .inr (.int, 200), .inl 9, .inr (.int, 81), .inr (.int, 200), .inl 9, .inr (.int, 81), .inr (.int, 200), .inl 9, .inr (.int, 81), .inr (.int, 200), .inl 9, .inr (.int, 81), .inr (.int, 200), .inl 9, .inr (.int, 81), .inr (.int, 200), .inl 9, .inr (.int, 81), .inr (.int, 200), .inl 9, .inr (.int, 81), .inr (.int, 200), .inl 9, .inr (.int, 81), .inr (.int, 200), .inl 9, .inr (.int, 81), .inr (.int, 200), .inl 1, .inr (.int, 400), .inl 1, .inr (.int, 9), .inl 10, .inl 9, .inr (.int, 81), .inr (.int, 200), .inl 0, .inr (.int, 405), .inr (.int, 405), .inr (.int, 405), .inr (.int, 405), .inr (.int, 405), .inr (.int, 81), .inl 8, .inr (.int, 81), .inr (.int, 81), .inr (.int, 81), .inl 8, .inr (.int, 81), .inr (.int, 81), .inr (.int, 81), .inl 4, .inr (.int, 81), .inr (.int, 81), .inl 2, .inr (.int, 81), .inr (.int, 6), .inr (.int, 64), .inl 3, .inr (.int, 81)]
def shp (i : Nat) : Option Shp := shL[i]?
abbrev KN : Nat := 80
theorem shL_len : shL.length = KN := rfl
def cty (c : Nat) : Nat → FieldType := match c with
  | 0 => tyX0
  | 1 => tyX1
  | 2 => tyX2
  | 3 => tyX3
  | 4 => tyX4
  | 5 => tyX5
  | 6 => tyX6
  | 7 => tyX7
  | 8 => tyX8
  | 9 => tyX9
  | 10 => tyX10
  | 11 => tyX11
  | 12 => tyJ0
  | _ => tyJ4
abbrev cn (c : Nat) : Nat := ((vwCl[c]?).getD (RX0, TX0, 0)).2.2
abbrev cT (c : Nat) : u_T := ((vwCl[c]?).getD (RX0, TX0, 0)).2.1
abbrev cR (c : Nat) : String := ((vwCl[c]?).getD (RX0, TX0, 0)).1
/-- what is fixed for a run: classes' numbers and slots, array classes, the first new cell, where old cells lie, the script's length, what old arrays hold, what comes behind the class's objects -/
abbrev Cx : Type := va_G × (FieldType → ClassId) × Nat × (Nat → Nat) × Nat × (Nat → Nat → Int32) × List Shp
abbrev xD (C : Cx) : va_G := C.1
abbrev xA (C : Cx) : FieldType → ClassId := C.2.1
abbrev xB (C : Cx) : Nat := C.2.2.1
abbrev xO (C : Cx) : Nat → Nat := C.2.2.2.1
abbrev xL (C : Cx) : Nat := C.2.2.2.2.1
abbrev xV (C : Cx) : Nat → Nat → Int32 := C.2.2.2.2.2.1
abbrev xE (C : Cx) : List Shp := C.2.2.2.2.2.2
/-- all objects of the run -/
def KC (C : Cx) : Nat := KN + (xE C).length
def shC (C : Cx) (i : Nat) : Option Shp := if i < KN then shp i else (xE C)[i - KN]?
theorem shp_C {C : Cx} {i : Nat} {x : Shp} (h : shp i = some x) : shC C i = some x := by
  have hl : i < KN := by
    have := (List.getElem?_eq_some_iff.mp h).1
    rwa [shL_len] at this
  unfold shC
  rw [if_pos hl]
  exact h
theorem shC_lt {C : Cx} {i : Nat} {x : Shp} (h : shC C i = some x) : i < KC C := by
  unfold shC at h
  unfold KC
  split at h
  · omega
  · have := (List.getElem?_eq_some_iff.mp h).1
    omega
def ad (C : Cx) (i : Nat) : Nat := if i < 1000 then xB C + i else xO C i
def up (C : Cx) (v : Value) : Value := match v with
  | .ref i => .ref (ad C i)
  | w => w
theorem up_int (C : Cx) (x : Int32) : up C (.int x) = .int x := rfl
theorem up_long (C : Cx) (x : Int64) : up C (.long x) = .long x := rfl
theorem up_float (C : Cx) (x : UInt32) : up C (.float x) = .float x := rfl
theorem up_double (C : Cx) (x : UInt64) : up C (.double x) = .double x := rfl
theorem up_null (C : Cx) : up C .null = .null := rfl
theorem up_ref (C : Cx) (i : Nat) : up C (.ref i) = .ref (ad C i) := rfl
theorem up_cat (C : Cx) (v : Value) : (up C v).category = v.category := by cases v <;> rfl
def isR (ty : FieldType) : Bool := match ty with
  | .object _ => true
  | .array _ => true
  | _ => false
def isI (ty : FieldType) : Bool := match ty with
  | .int => true
  | .boolean => true
  | .byte => true
  | _ => false
def fv (C : Cx) (h : Hp) (i k : Nat) (ty : FieldType) : Value := match ty with
  | .long => .long (gL h i k)
  | .double => .double (gD h i k)
  | .object _ => va_rf ((gR h i k).map (ad C))
  | .array _ => va_rf ((gR h i k).map (ad C))
  | _ => .int (gI h i k)
def ac (C : Cx) (h : Hp) (i : Nat) (ty : FieldType) : (Nat → Int32) ⊕ (Nat → Int64) ⊕ (Nat → UInt32) ⊕ (Nat → UInt64) ⊕ (Nat → Option Nat) := match ty with
  | .long => .inr (.inl (gL h i))
  | .double => .inr (.inr (.inr (.inl (gD h i))))
  | .object _ => .inr (.inr (.inr (.inr (fun j => (gR h i j).map (ad C)))))
  | .array _ => .inr (.inr (.inr (.inr (fun j => (gR h i j).map (ad C)))))
  | _ => .inl (gI h i)
def ce (C : Cx) (h : Hp) (i : Nat) : va_E := match shC C i with
  | some (.inl c) => .inr (c, (List.range (cn c)).map (fun k => fv C h i k (cty c k)))
  | some (.inr (ty, n)) => .inl (xA C ty, (n, ac C h i ty))
  | none => .inr (0, [])
/-- the world: the first nx objects -/
def wl (C : Cx) (nx : Nat) (h : Hp) : va_W := (List.range nx).map (fun i => (xB C + i, ce C h i))
theorem wl_at (C : Cx) (nx : Nat) (h : Hp) {i : Nat} (hi : i < nx) : (wl C nx h)[i]? = some (xB C + i, ce C h i) := by simp [wl, hi]
theorem wl_len (C : Cx) (nx : Nat) (h : Hp) : (wl C nx h).length = nx := by simp [wl]
def xAl (C : Cx) : Nat → Prop := fun q => xB C ≤ q
theorem wl_D (C : Cx) (nx : Nat) (h : Hp) : va_D (xAl C) (wl C nx h) := by
  refine ⟨fun i j p q hi hj e => ?_, fun k q hk => ?_⟩
  · have h1 : i < nx := by have := (List.getElem?_eq_some_iff.mp hi).1; rwa [wl_len] at this
    have h2 : j < nx := by have := (List.getElem?_eq_some_iff.mp hj).1; rwa [wl_len] at this
    rw [wl_at C nx h h1] at hi
    rw [wl_at C nx h h2] at hj
    cases hi; cases hj
    exact Nat.add_left_cancel e
  · have h1 : k < nx := by have := (List.getElem?_eq_some_iff.mp hk).1; rwa [wl_len] at this
    rw [wl_at C nx h h1] at hk
    cases hk
    exact Nat.le_add_right _ _
theorem wl_set (C : Cx) (nx : Nat) (h h' : Hp) (i : Nat) (ho : ∀ j, j ≠ i → ce C h' j = ce C h j) : (wl C nx h).set i (xB C + i, ce C h' i) = wl C nx h' := by
  refine List.ext_getElem? fun k => ?_
  rw [List.getElem?_set]
  by_cases hk : i = k
  · subst hk
    by_cases hn : i < nx
    · rw [if_pos rfl, wl_len, if_pos hn, wl_at C nx h' hn]
    · rw [if_pos rfl, wl_len, if_neg hn]
      exact (List.getElem?_eq_none (by rw [wl_len]; exact Nat.le_of_not_lt hn)).symm
  · rw [if_neg hk]
    by_cases hn : k < nx
    · rw [wl_at C nx h hn, wl_at C nx h' hn, ho k (fun e => hk e.symm)]
    · rw [List.getElem?_eq_none (by rw [wl_len]; exact Nat.le_of_not_lt hn), List.getElem?_eq_none (by rw [wl_len]; exact Nat.le_of_not_lt hn)]
theorem ce_congr (C : Cx) (h h' : Hp) (i : Nat) (e1 : ∀ k, gI h' i k = gI h i k) (e2 : ∀ k, gR h' i k = gR h i k) (e3 : ∀ k, gL h' i k = gL h i k) (e4 : ∀ k, gD h' i k = gD h i k) : ce C h' i = ce C h i := by
  have f1 : gI h' i = gI h i := funext e1
  have f2 : gR h' i = gR h i := funext e2
  have f3 : gL h' i = gL h i := funext e3
  have f4 : gD h' i = gD h i := funext e4
  unfold ce fv ac
  simp only [f1, f2, f3, f4]
theorem ce_sI (C : Cx) (h : Hp) (a k : Nat) (v : Int32) (j : Nat) (hj : j ≠ a) : ce C (sI h a k v) j = ce C h j :=
  ce_congr C h _ j (fun q => by rw [gI_sI, if_neg (fun e => hj e.1)]) (fun _ => rfl) (fun _ => rfl) (fun _ => rfl)
theorem ce_sR (C : Cx) (h : Hp) (a k : Nat) (v : Option Nat) (j : Nat) (hj : j ≠ a) : ce C (sR h a k v) j = ce C h j :=
  ce_congr C h _ j (fun _ => rfl) (fun q => by rw [gR_sR, if_neg (fun e => hj e.1)]) (fun _ => rfl) (fun _ => rfl)
theorem ce_sL (C : Cx) (h : Hp) (a k : Nat) (v : Int64) (j : Nat) (hj : j ≠ a) : ce C (sL h a k v) j = ce C h j :=
  ce_congr C h _ j (fun _ => rfl) (fun _ => rfl) (fun q => by rw [gL_sL, if_neg (fun e => hj e.1)]) (fun _ => rfl)
theorem ce_sD (C : Cx) (h : Hp) (a k : Nat) (v : UInt64) (j : Nat) (hj : j ≠ a) : ce C (sD h a k v) j = ce C h j :=
  ce_congr C h _ j (fun _ => rfl) (fun _ => rfl) (fun _ => rfl) (fun q => by rw [gD_sD, if_neg (fun e => hj e.1)])
theorem ce_objC (C : Cx) (h : Hp) {i c : Nat} (hs : shC C i = some (.inl c)) : ce C h i = .inr (c, (List.range (cn c)).map (fun k => fv C h i k (cty c k))) := by
  unfold ce; rw [hs]
theorem ce_arrC (C : Cx) (h : Hp) {i n : Nat} {ty : FieldType} (hs : shC C i = some (.inr (ty, n))) : ce C h i = .inl (xA C ty, (n, ac C h i ty)) := by
  unfold ce; rw [hs]
theorem ce_obj (C : Cx) (h : Hp) {i c : Nat} (hs : shp i = some (.inl c)) : ce C h i = .inr (c, (List.range (cn c)).map (fun k => fv C h i k (cty c k))) := ce_objC C h (shp_C hs)
theorem ce_arr (C : Cx) (h : Hp) {i n : Nat} {ty : FieldType} (hs : shp i = some (.inr (ty, n))) : ce C h i = .inl (xA C ty, (n, ac C h i ty)) := ce_arrC C h (shp_C hs)
theorem shp_lt {i : Nat} {x : Shp} (hs : shp i = some x) : i < KN := by
  have := (List.getElem?_eq_some_iff.mp hs).1
  rwa [shL_len] at this
theorem ad_lt {C : Cx} {i : Nat} (h : i < KN) : ad C i = xB C + i := by unfold ad; rw [if_pos (by unfold KN at h; omega)]
theorem ad_l9 {C : Cx} {i : Nat} (h : i < 1000) : ad C i = xB C + i := by unfold ad; rw [if_pos h]
/-- a field's new value -/
theorem fl_set (C : Cx) (h h' : Hp) (i c k : Nat) (v : Value) (hk : k < cn c) (hv : fv C h' i k (cty c k) = v) (ho : ∀ j, j ≠ k → fv C h' i j (cty c j) = fv C h i j (cty c j)) :
    ((List.range (cn c)).map (fun k => fv C h i k (cty c k))).set k v = (List.range (cn c)).map (fun k => fv C h' i k (cty c k)) := by
  refine List.ext_getElem? fun j => ?_
  rw [List.getElem?_set]
  by_cases hj : k = j
  · subst hj
    simp [hk, hv]
  · by_cases hn : j < cn c
    · simp [hj, hn, ho j (fun e => hj e.symm)]
    · simp [hj, hn]
end
section
/-! ===== the static part of a world ===== -/
def tyl (C : Cx) : List (ClassId × FieldType) := [(xA C .int, .int), (xA C .boolean, .boolean), (xA C .byte, .byte), (xA C ty_pos, ty_pos)]
/-- an old row of ints, by its number -/
def roC (C : Cx) (i n : Nat) (U : State) (H : Heap) : Prop := ∃ cell : Cell, xO C i < xB C ∧ H[xO C i]? = some cell ∧ U.isArrayOf cell .int ∧ cell.vm ≠ .unknown ∧ (n ≤ cell.slots.size ∧ cell.slots.size.toInt32 = Int32.ofNat n) ∧ ∀ j : Nat, j < n → cell.slots[j]? = some (.int (xV C i j))
theorem roC.moved {C : Cx} {i n : Nat} {u U : State} {H : Heap} (hvm : u.vm.Alike U.vm) (h : roC C i n u H) : roC C i n U H := by
  obtain ⟨cell, h0, h1, h2, h3⟩ := h
  exact ⟨cell, h0, h1, State.isArrayOf_alike hvm h2, h3⟩
theorem roC.kept {C : Cx} {i n : Nat} {U : State} {H H1 : Heap} (h : roC C i n U H) (hq : ∀ a : Nat, a < H.size → ¬ xAl C a → H1[a]? = H[a]?) : roC C i n U H1 := by
  obtain ⟨cell, h0, h1, h2⟩ := h
  exact ⟨cell, h0, by rw [hq _ (Array.getElem?_eq_some_iff.mp h1).1 (Nat.not_le.mpr h0)]; exact h1, h2⟩
/-- the old rows: number, length -/
def roL (C : Cx) : List (Nat × Nat) := [(1000, 6), (1001, 6), (1002, 3), (1003, 3), (1004, 3), (1005, 3), (1006, 3), (1007, 3), (1200, xL C)]
/-- the static fields that hold the first eight -/
def rsF : List (String × String × Nat) := [("HexArbiter$Grid", "STEP_ROWS", 1000), ("HexArbiter$Grid", "STEP_COLUMNS", 1001), ("HexArbiter$BridgeList", "FAR_ROWS", 1002), ("HexArbiter$BridgeList", "FAR_COLUMNS", 1003), ("HexArbiter$BridgeList", "LOW_ROWS", 1004), ("HexArbiter$BridgeList", "LOW_COLUMNS", 1005), ("HexArbiter$BridgeList", "HIGH_ROWS", 1006), ("HexArbiter$BridgeList", "HIGH_COLUMNS", 1007)]
/-- the words on private members of nest mates -/
def nw_all : List Cond := tables_1.filter (fun w => match w with
  | .fieldLinkNest .. => true
  | .methodLinkNest .. => true
  | _ => false)
def nwF (U : State) : Prop := ∀ w ∈ nw_all, va_Nw w U
theorem nwF.warm {s U : State} (hW : s.WarmedH U.vm) (h : nwF s) : nwF U := by
  intro w hw
  have h1 := h w hw
  have h2 := (List.mem_filter.mp hw).2
  revert h1 h2
  cases w <;> intro h1 h2 <;> first | exact va_Nw.warmF hW h1 | exact va_Nw.warmM hW h1 | cases h2
theorem nwF.same {u U : State} (e : u.vm = U.vm) (h : nwF u) : nwF U := by
  intro w hw
  have h1 := h w hw
  have h2 := (List.mem_filter.mp hw).2
  revert h1 h2
  cases w <;> intro h1 h2 <;> first | exact va_Nw.same rfl e h1 | cases h2
def sStat (_ : Cx) (_ : State) (_ : Heap) : Prop := True
/-! the String constants: the Reader's words (0 to 5), the law's (20 to 26) -/
def wordL : List (List Int) := [[98, 111, 97, 114, 100], [115, 119, 97, 112], [109, 111, 118, 101], [116, 117, 114, 110], [114, 101, 100], [98, 108, 117, 101], [], [], [], [], [], [], [], [], [], [], [], [], [], [], [98, 111, 97, 114, 100, 32], [32, 115, 119, 97, 112], [], [59, 114, 101, 100], [59, 98, 108, 117, 101], [59, 116, 117, 114, 110, 32, 114, 101, 100], [59, 116, 117, 114, 110, 32, 98, 108, 117, 101]]
def wlen (w : Nat) : Nat := ((wordL[w]?).getD []).length
def wch (w j : Nat) : Int := (((wordL[w]?).getD [])[j]?).getD 0
def isStr (w : Nat) : Prop := w < 6 ∨ (20 ≤ w ∧ w < 27)
def strL : List (String × Nat × String × Nat) := [("HexArbiterLaw", 41, "board ", 2020), ("HexArbiterLaw", 49, " swap", 2021), ("HexArbiterLaw", 51, "", 2022), ("HexArbiterLaw", 56, ";red", 2023), ("HexArbiterLaw", 58, ";blue", 2024), ("HexArbiterLaw", 63, ";turn red", 2025), ("HexArbiterLaw", 65, ";turn blue", 2026), ("HexArbiter$Reader", 59, "board", 2000), ("HexArbiter$Reader", 77, "swap", 2001), ("HexArbiter$Reader", 83, "move", 2002), ("HexArbiter$Reader", 85, "turn", 2003), ("HexArbiter$Reader", 135, "red", 2004), ("HexArbiter$Reader", 137, "blue", 2005)]
/-- a static that may be null -/
def sio (C : Cx) : Value := if xV C 1900 0 = 0 then .null else .ref (xO C 1900)
def fwF (U : State) : Prop := va_AO "HexArbiter$Position" U
theorem fwF.same {u U : State} (e : u.vm = U.vm) (h : fwF u) : fwF U := va_AO.moved (by rw [e]; exact Vm.Alike.refl _) h
theorem fwF.warm {s U : State} (hW : s.WarmedH U.vm) (h : fwF s) : fwF U := va_AO.moved hW.alike h
def sStr (C : Cx) (U : State) (H : Heap) : Prop := (fwF U ∧ ∀ q ∈ strL, vk_R q.1 q.2.1 q.2.2.1 (xO C q.2.2.2) U) ∧
  (∀ w, isStr w → va_O "java/lang/String" (xO C (2000 + w)) (xAl C) U H ∧ va_OF "java/lang/String" "coder" "B" (.int 0) (xO C (2000 + w)) (xAl C) U H ∧ va_OF "java/lang/String" "value" "[B" (.ref (xO C (2100 + w))) (xO C (2000 + w)) (xAl C) U H ∧ va_T .byte (xO C (2100 + w)) (wlen w) (fun j => .int (Int32.ofInt (wch w j))) (xAl C) U H) ∧
  va_Z "java/lang/String" "COMPACT_STRINGS" "Z" (.int 1) (xAl C) U H ∧ va_Z "jdk/internal/util/Preconditions" "SIOOBE_FORMATTER" "Ljava/util/function/BiFunction;" (sio C) (xAl C) U H
theorem sStr.warm {C : Cx} {s U : State} {H : Heap} (hW : s.WarmedH U.vm) (h : sStr C s H) : sStr C U H :=
  ⟨⟨h.1.1.warm hW, fun q hq => (h.1.2 q hq).warm hW⟩, fun w hw => ⟨(h.2.1 w hw).1.moved hW.alike, (h.2.1 w hw).2.1.moved hW.alike, (h.2.1 w hw).2.2.1.moved hW.alike, (h.2.1 w hw).2.2.2.moved hW.alike⟩, h.2.2.1.moved hW.alike, h.2.2.2.moved hW.alike⟩
theorem sStr.same {C : Cx} {u U : State} {H : Heap} (e : u.vm = U.vm) (h : sStr C u H) : sStr C U H := by
  have hA : u.vm.Alike U.vm := by rw [e]; exact Vm.Alike.refl _
  exact ⟨⟨h.1.1.same e, fun q hq => (h.1.2 q hq).same e.symm⟩, fun w hw => ⟨(h.2.1 w hw).1.moved hA, (h.2.1 w hw).2.1.moved hA, (h.2.1 w hw).2.2.1.moved hA, (h.2.1 w hw).2.2.2.moved hA⟩, h.2.2.1.moved hA, h.2.2.2.moved hA⟩
theorem sStr.kept {C : Cx} {U : State} {H H1 : Heap} (h : sStr C U H) (hq : ∀ a : Nat, a < H.size → ¬ xAl C a → H1[a]? = H[a]?) : sStr C U H1 :=
  ⟨h.1, fun w hw => ⟨(h.2.1 w hw).1.kept hq, (h.2.1 w hw).2.1.kept hq, (h.2.1 w hw).2.2.1.kept hq, (h.2.1 w hw).2.2.2.kept hq⟩, h.2.2.1.kept hq, h.2.2.2.kept hq⟩
def St (C : Cx) (U : State) (H : Heap) : Prop := va_K (xD C) vwCl (tyl C) U ∧ nwF U ∧ (∀ q ∈ roL C, roC C q.1 q.2 U H) ∧ (∀ q ∈ rsF, va_Z q.1 q.2.1 "[I" (.ref (xO C q.2.2)) (xAl C) U H) ∧ sStat C U H ∧ sStr C U H
theorem St.warm {C : Cx} {s U : State} {H : Heap} (hW : s.WarmedH U.vm) (h : St C s H) : St C U H :=
  ⟨va_K.moved hW.alike h.1, h.2.1.warm hW, fun q hq => (h.2.2.1 q hq).moved hW.alike, fun q hq => (h.2.2.2.1 q hq).moved hW.alike, trivial, h.2.2.2.2.2.warm hW⟩
theorem St.same {C : Cx} {u U : State} {H : Heap} (e : u.vm = U.vm) (h : St C u H) : St C U H := by
  have hA : u.vm.Alike U.vm := by rw [e]; exact Vm.Alike.refl _
  exact ⟨va_K.moved hA h.1, h.2.1.same e, fun q hq => (h.2.2.1 q hq).moved hA, fun q hq => (h.2.2.2.1 q hq).moved hA, trivial, h.2.2.2.2.2.same e⟩
theorem St.kept {C : Cx} {U : State} {H H1 : Heap} (h : St C U H) (hq : ∀ a : Nat, a < H.size → ¬ xAl C a → H1[a]? = H[a]?) : St C U H1 :=
  ⟨h.1, h.2.1, fun q hm => (h.2.2.1 q hm).kept hq, fun q hm => (h.2.2.2.1 q hm).kept hq, trivial, h.2.2.2.2.2.kept hq⟩
/-! ===== the moving part ===== -/
/-- the first nx objects lie there and hold what h says; the old rows' contents are h's too; nothing else was made before the last of them -/
def HPh (C : Cx) (nx : Nat) (h : Hp) (H : Heap) : Prop := va_P (xD C) vwCl (wl C nx h) H ∧ (∀ i, 1000 ≤ i → ∀ j, gI h i j = xV C i j) ∧ xB C + nx ≤ H.size ∧ H.size = xB C + nx ∧ (nx ≤ KC C ∧ KC C ≤ 1000 ∧ ∀ c, Sum.inl c ∈ xE C → c < 14) ∧ ∀ i, nx ≤ i → i < KC C → ∀ j, gI h i j = 0 ∧ gR h i j = none ∧ gL h i j = 0 ∧ gD h i j = 0
/-! ===== methods ===== -/
abbrev Mk : Type := MethodName × ByteArray × Nat × Option FieldType × List (Nat × Nat × Nat × Nat)
abbrev mY (M : Mk) : MethodName := M.1
abbrev mB (M : Mk) : ByteArray := M.2.1
abbrev mL (M : Mk) : Nat := M.2.2.1
abbrev mR (M : Mk) : Option FieldType := M.2.2.2.1
abbrev mH (M : Mk) : List (Nat × Nat × Nat × Nat) := M.2.2.2.2
def lw_all : List Cond := lw_tbl.filter goodWord
theorem lw_all_mem {w : Cond} (h : w ∈ lw_tbl) (g : goodWord w = true) : w ∈ lw_all := List.mem_filter.mpr ⟨h, g⟩
theorem lw_all_good {w : Cond} (h : w ∈ lw_all) : goodWord w = true := (List.mem_filter.mp h).2
def mW (M : Mk) : List Cond := .code (mY M) (mB M) (mL M) (mR M) :: lw_all
def rmF (d mc ms : Nat) : Room := { frames := d, cells := mc, slots := ms, locals := 70 * d }
/-- what holds all through a method's run -/
def Cz (C : Cx) (M : Mk) (p : Program) (l : Launch) (s : State) (m : MethodId) (args : Array Value) (meth : Method) (c : Code) : Prop :=
  (p.tables.exec = Jvm.exec ∧ c.code = mB M ∧ meth.sig.returnType = mR M ∧ c.maxLocals = mL M ∧ s.vm.findClass (mY M).cls = some m.cls) ∧ (∀ w ∈ lw_all, w.before args s = true) ∧ (meth.locks = false ∧ meth.name = (mY M).name ∧ l.stackTraces = false ∧ c.exceptionTable.toList = tableOf (mH M)) ∧ St C s s.heap ∧ xB C ≤ s.heap.size
/-- which instruction hands a value back -/
def rtOK (ret : Option FieldType) (v : Option Value) (i : Instr) : Prop :=
  (∃ x : Int32, v = some (.int x) ∧ i = .ireturn ∧ ∃ ty, ret = some ty ∧ narrow ty (.int x) = .int x) ∨ (v = none ∧ i = .return_ ∧ ret = none) ∨ (∃ a : Nat, v = some (.ref a) ∧ i = .areturn ∧ ∃ ty, ret = some ty ∧ isR ty = true) ∨ (v = some .null ∧ i = .areturn ∧ ∃ ty, ret = some ty ∧ isR ty = true) ∨ (∃ x : UInt32, v = some (.float x) ∧ i = .freturn ∧ ret = some .float) ∨ (∃ x : Int64, v = some (.long x) ∧ i = .lreturn ∧ ret = some .long)
def lm (C : Cx) (lv : List (Nat × Value)) : List (Nat × Value) := lv.map (fun q => (q.1, up C q.2))
/-- a walk over the abstract heap -/
def ww (C : Cx) (M : Mk) (d mc ms ne : Nat) (Qr : Option Value → Hp → Prop) (Qx : String → Hp → Prop) (nx k n pc : Nat) (lv : List (Nat × Value)) (st : List Value) (h : Hp) : Prop :=
  ∀ (p : Program) (l : Launch) (e : Env) (s : State) (m : MethodId) (args : Array Value) (below : List Frame) (meth : Method) (c : Code) (Fin : State → Prop), Cz C M p l s m args meth c →
    (∀ (v : Option Value) (h' : Hp) (H : Heap) (locs : List Loc) (ls : Array Slot) (pc k' n' : Nat) (i : Instr), Qr v h' → HPh C ne h' H → va_S (xAl C) s.heap H locs → k' ≤ mc → n' ≤ ms → decode c.code pc = .ok (i, 1) → rtOK (mR M) v i → W p l e (rmF d mc ms) s m args below meth c H locs k' n' Fin (F0 m pc ls ((v.map (up C)).toList))) →
    (∀ (E : String) (ce : Cell) (q : Addr) (h' : Hp) (H : Heap) (locs : List Loc) (ls : Array Slot) (rest : List Value) (pc k' n' : Nat), Qx E h' → HPh C ne h' H → va_S (xAl C) s.heap H locs → k' ≤ mc → n' ≤ ms → (∀ x ∈ c.exceptionTable.toList, covers x pc = false) → H[q]? = some ce → ce.vm = .none → s.vm.findClass E = some ce.cls → vx_W p l e (rmF d mc ms) s m args below meth c H locs k' n' Fin (F0 m pc ls rest) q) →
    (∀ (E : String) (ce : Cell) (q : Addr) (h' : Hp) (U : State) (locs : List Loc) (k' n' : Nat), Qx E h' → HPh C ne h' U.heap → va_F (xAl C) s U → U.status = .running → Ended U below (.threw q) → U.heap[q]? = some ce → ce.vm = .none → s.vm.findClass E = some ce.cls → s.WarmedH U.vm → s.sameButNew ({ U with vm := s.vm } : State) locs k' n' → (∀ z ∈ locs, xAl C z.base) → k' ≤ mc → n' ≤ ms → Fin U) →
    ∀ (H : Heap) (locs : List Loc) (ls : Array Slot), HPh C nx h H → va_S (xAl C) s.heap H locs → lv_has ls (mL M) (lm C lv) → W p l e (rmF d mc ms) s m args below meth c H locs k n Fin (F0 m pc ls (st.map (up C)))
/-- a method's contract over the abstract heap: nx objects before, ne behind -/
def QC (C : Cx) (ne : Nat) (Qr : Option Value → Hp → Prop) : Array Value → State → Outcome → State → Prop := fun _ st o t => ∃ (v : Option Value) (h' : Hp), o = .returned (v.map (up C)) ∧ Qr v h' ∧ HPh C ne h' t.heap ∧ va_F (xAl C) st t
def XC (C : Cx) (ne : Nat) (Qx : String → Hp → Prop) : String → State → State → Prop := fun E st t => ∃ h' : Hp, Qx E h' ∧ HPh C ne h' t.heap ∧ va_F (xAl C) st t
def PB (C : Cx) (nx : Nat) (h : Hp) : State → Prop := fun U => St C U U.heap ∧ HPh C nx h U.heap ∧ xB C ≤ U.heap.size
def mm (C : Cx) (M : Mk) (d mc ms nx ne : Nat) (args : List Value) (h : Hp) (Qr : Option Value → Hp → Prop) (Qx : String → Hp → Prop) : Prop :=
  ∀ l : Launch, l.stackTraces = false → vx_Met l (mY M) (mW M) (rmF d mc ms) (va_Pc (args.map (up C)) (PB C nx h)) (QC C ne Qr) (XC C ne Qx) mc ms (xAl C)
theorem lm_at (C : Cx) {lv : List (Nat × Value)} {k i : Nat} {v : Value} (hk : lv[k]? = some (i, v)) : (lm C lv)[k]? = some (i, up C v) := by
  simp [lm, hk]
theorem lm_set1 (C : Cx) (lv : List (Nat × Value)) (i : Nat) (v : Value) : (i, up C v) :: (lm C lv).filter (fun q => !(q.1 == i) && !(q.1 + 1 == i && q.2.category == 2)) = lm C ((i, v) :: lv.filter (fun q => !(q.1 == i) && !(q.1 + 1 == i && q.2.category == 2))) := by
  simp only [lm, List.map_cons, List.cons.injEq, true_and]
  induction lv with
  | nil => rfl
  | cons a t ih =>
    simp only [List.map_cons, List.filter_cons, up_cat]
    split
    · rw [List.map_cons, ih]
    · exact ih
theorem lm_set2 (C : Cx) (lv : List (Nat × Value)) (i : Nat) (v : Value) : (i, up C v) :: (lm C lv).filter (fun q => !(q.1 == i) && (!(q.1 == i + 1) && !(q.1 + 1 == i && q.2.category == 2))) = lm C ((i, v) :: lv.filter (fun q => !(q.1 == i) && (!(q.1 == i + 1) && !(q.1 + 1 == i && q.2.category == 2)))) := by
  simp only [lm, List.map_cons, List.cons.injEq, true_and]
  induction lv with
  | nil => rfl
  | cons a t ih =>
    simp only [List.map_cons, List.filter_cons, up_cat]
    split
    · rw [List.map_cons, ih]
    · exact ih
theorem lm_pick {C : Cx} {lv lv' : List (Nat × Value)} {ks : List Nat} (h : lv_pick lv ks = lv') : lv_pick (lm C lv) ks = lm C lv' := by
  subst h
  unfold lv_pick lm
  rw [List.map_filterMap]
  congr 1
  funext q
  exact List.getElem?_map
section WW
variable {C : Cx} {M : Mk} {d mc ms ne : Nat} {Qr : Option Value → Hp → Prop} {Qx : String → Hp → Prop} {nx k n pc : Nat} {lv lv' : List (Nat × Value)} {st : List Value} {h : Hp}
/-- fewer locals, in another order -/
theorem w_lv (ks : List Nat) (hl : lv_pick lv ks = lv') (kk : ww C M d mc ms ne Qr Qx nx k n pc lv' st h) : ww C M d mc ms ne Qr Qx nx k n pc lv st h :=
  fun p l e s m args below meth c Fin cz hr hx hzz H locs ls hP hS hL => kk p l e s m args below meth c Fin cz hr hx hzz H locs ls hP hS (lv_sub hL ks (lm_pick hl))

theorem w_iconst {z : Int} {v : Int32} (hd : decode (mB M) pc = .ok (.iconst z, 1)) (hv : Int32.ofInt z = v) (kk : ww C M d mc ms ne Qr Qx nx k n (pc + 1) lv (.int v :: st) h) : ww C M d mc ms ne Qr Qx nx k n pc lv (st) h := by
  intro p l e s m args below meth c Fin cz hr hx hzz H locs ls hP hS hL
  exact lv_iconst cz.1.1 cz.1.2.1 hd hv (kk p l e s m args below meth c Fin cz hr hx hzz H locs ls hP hS hL)
theorem w_bipush {z : Int} {v : Int32} (hd : decode (mB M) pc = .ok (.bipush z, 2)) (hv : (Int8.ofInt z).toInt32 = v) (kk : ww C M d mc ms ne Qr Qx nx k n (pc + 2) lv (.int v :: st) h) : ww C M d mc ms ne Qr Qx nx k n pc lv (st) h := by
  intro p l e s m args below meth c Fin cz hr hx hzz H locs ls hP hS hL
  exact lv_bipush cz.1.1 cz.1.2.1 hd hv (kk p l e s m args below meth c Fin cz hr hx hzz H locs ls hP hS hL)
theorem w_sipush {z : Int} {v : Int32} (hd : decode (mB M) pc = .ok (.sipush z, 3)) (hv : (Int16.ofInt z).toInt32 = v) (kk : ww C M d mc ms ne Qr Qx nx k n (pc + 3) lv (.int v :: st) h) : ww C M d mc ms ne Qr Qx nx k n pc lv (st) h := by
  intro p l e s m args below meth c Fin cz hr hx hzz H locs ls hP hS hL
  exact lv_sipush cz.1.1 cz.1.2.1 hd hv (kk p l e s m args below meth c Fin cz hr hx hzz H locs ls hP hS hL)
theorem w_lconst {z : Fin 2} {v : Int64} (hd : decode (mB M) pc = .ok (.lconst z, 1)) (hv : Int64.ofNat (z : Nat) = v) (kk : ww C M d mc ms ne Qr Qx nx k n (pc + 1) lv (.long v :: st) h) : ww C M d mc ms ne Qr Qx nx k n pc lv (st) h := by
  intro p l e s m args below meth c Fin cz hr hx hzz H locs ls hP hS hL
  exact lv_lconst cz.1.1 cz.1.2.1 hd hv (kk p l e s m args below meth c Fin cz hr hx hzz H locs ls hP hS hL)
theorem w_iload_n (q : Nat) {z : Fin 4} {i : Nat} {x : Int32} (hd : decode (mB M) pc = .ok (.iload_n z, 1)) (hi : (z : Nat) = i) (hl : lv[q]? = some (i, .int x)) (kk : ww C M d mc ms ne Qr Qx nx k n (pc + 1) lv (.int x :: st) h) : ww C M d mc ms ne Qr Qx nx k n pc lv (st) h := by
  intro p l e s m args below meth c Fin cz hr hx hzz H locs ls hP hS hL
  exact lv_iload_n cz.1.1 cz.1.2.1 hd hi (lv_at hL q (lm_at C hl)) (kk p l e s m args below meth c Fin cz hr hx hzz H locs ls hP hS hL)
theorem w_iload (q : Nat) {i : Nat} {x : Int32} (hd : decode (mB M) pc = .ok (.iload i, 2)) (hl : lv[q]? = some (i, .int x)) (kk : ww C M d mc ms ne Qr Qx nx k n (pc + 2) lv (.int x :: st) h) : ww C M d mc ms ne Qr Qx nx k n pc lv (st) h := by
  intro p l e s m args below meth c Fin cz hr hx hzz H locs ls hP hS hL
  exact lv_iload cz.1.1 cz.1.2.1 hd (lv_at hL q (lm_at C hl)) (kk p l e s m args below meth c Fin cz hr hx hzz H locs ls hP hS hL)
theorem w_lload_n (q : Nat) {z : Fin 4} {i : Nat} {x : Int64} (hd : decode (mB M) pc = .ok (.lload_n z, 1)) (hi : (z : Nat) = i) (hl : lv[q]? = some (i, .long x)) (kk : ww C M d mc ms ne Qr Qx nx k n (pc + 1) lv (.long x :: st) h) : ww C M d mc ms ne Qr Qx nx k n pc lv (st) h := by
  intro p l e s m args below meth c Fin cz hr hx hzz H locs ls hP hS hL
  exact lv_lload_n cz.1.1 cz.1.2.1 hd hi (lv_at hL q (lm_at C hl)) (kk p l e s m args below meth c Fin cz hr hx hzz H locs ls hP hS hL)
theorem w_lload (q : Nat) {i : Nat} {x : Int64} (hd : decode (mB M) pc = .ok (.lload i, 2)) (hl : lv[q]? = some (i, .long x)) (kk : ww C M d mc ms ne Qr Qx nx k n (pc + 2) lv (.long x :: st) h) : ww C M d mc ms ne Qr Qx nx k n pc lv (st) h := by
  intro p l e s m args below meth c Fin cz hr hx hzz H locs ls hP hS hL
  exact lv_lload cz.1.1 cz.1.2.1 hd (lv_at hL q (lm_at C hl)) (kk p l e s m args below meth c Fin cz hr hx hzz H locs ls hP hS hL)
theorem w_aload_n (q : Nat) {z : Fin 4} {i : Nat} {x : Nat} (hd : decode (mB M) pc = .ok (.aload_n z, 1)) (hi : (z : Nat) = i) (hl : lv[q]? = some (i, .ref x)) (kk : ww C M d mc ms ne Qr Qx nx k n (pc + 1) lv (.ref x :: st) h) : ww C M d mc ms ne Qr Qx nx k n pc lv (st) h := by
  intro p l e s m args below meth c Fin cz hr hx hzz H locs ls hP hS hL
  exact lv_aload_n cz.1.1 cz.1.2.1 hd hi (lv_at hL q (lm_at C hl)) (kk p l e s m args below meth c Fin cz hr hx hzz H locs ls hP hS hL)
theorem w_aload (q : Nat) {i : Nat} {x : Nat} (hd : decode (mB M) pc = .ok (.aload i, 2)) (hl : lv[q]? = some (i, .ref x)) (kk : ww C M d mc ms ne Qr Qx nx k n (pc + 2) lv (.ref x :: st) h) : ww C M d mc ms ne Qr Qx nx k n pc lv (st) h := by
  intro p l e s m args below meth c Fin cz hr hx hzz H locs ls hP hS hL
  exact lv_aload cz.1.1 cz.1.2.1 hd (lv_at hL q (lm_at C hl)) (kk p l e s m args below meth c Fin cz hr hx hzz H locs ls hP hS hL)
theorem w_fload_n (q : Nat) {z : Fin 4} {i : Nat} {x : UInt32} (hd : decode (mB M) pc = .ok (.fload_n z, 1)) (hi : (z : Nat) = i) (hl : lv[q]? = some (i, .float x)) (kk : ww C M d mc ms ne Qr Qx nx k n (pc + 1) lv (.float x :: st) h) : ww C M d mc ms ne Qr Qx nx k n pc lv (st) h := by
  intro p l e s m args below meth c Fin cz hr hx hzz H locs ls hP hS hL
  exact lv_fload_n cz.1.1 cz.1.2.1 hd hi (lv_at hL q (lm_at C hl)) (kk p l e s m args below meth c Fin cz hr hx hzz H locs ls hP hS hL)
theorem w_fload (q : Nat) {i : Nat} {x : UInt32} (hd : decode (mB M) pc = .ok (.fload i, 2)) (hl : lv[q]? = some (i, .float x)) (kk : ww C M d mc ms ne Qr Qx nx k n (pc + 2) lv (.float x :: st) h) : ww C M d mc ms ne Qr Qx nx k n pc lv (st) h := by
  intro p l e s m args below meth c Fin cz hr hx hzz H locs ls hP hS hL
  exact lv_fload cz.1.1 cz.1.2.1 hd (lv_at hL q (lm_at C hl)) (kk p l e s m args below meth c Fin cz hr hx hzz H locs ls hP hS hL)
theorem w_dload_n (q : Nat) {z : Fin 4} {i : Nat} {x : UInt64} (hd : decode (mB M) pc = .ok (.dload_n z, 1)) (hi : (z : Nat) = i) (hl : lv[q]? = some (i, .double x)) (kk : ww C M d mc ms ne Qr Qx nx k n (pc + 1) lv (.double x :: st) h) : ww C M d mc ms ne Qr Qx nx k n pc lv (st) h := by
  intro p l e s m args below meth c Fin cz hr hx hzz H locs ls hP hS hL
  exact lv_dload_n cz.1.1 cz.1.2.1 hd hi (lv_at hL q (lm_at C hl)) (kk p l e s m args below meth c Fin cz hr hx hzz H locs ls hP hS hL)
theorem w_dload (q : Nat) {i : Nat} {x : UInt64} (hd : decode (mB M) pc = .ok (.dload i, 2)) (hl : lv[q]? = some (i, .double x)) (kk : ww C M d mc ms ne Qr Qx nx k n (pc + 2) lv (.double x :: st) h) : ww C M d mc ms ne Qr Qx nx k n pc lv (st) h := by
  intro p l e s m args below meth c Fin cz hr hx hzz H locs ls hP hS hL
  exact lv_dload cz.1.1 cz.1.2.1 hd (lv_at hL q (lm_at C hl)) (kk p l e s m args below meth c Fin cz hr hx hzz H locs ls hP hS hL)
theorem w_istore_n {z : Fin 4} {i : Nat} {x : Int32} (hd : decode (mB M) pc = .ok (.istore_n z, 1)) (hi : (z : Nat) = i) (hn : i < mL M) (hl : (i, Value.int x) :: lv.filter (fun q => !(q.1 == i) && !(q.1 + 1 == i && q.2.category == 2)) = lv') (kk : ww C M d mc ms ne Qr Qx nx k n (pc + 1) lv' st h) : ww C M d mc ms ne Qr Qx nx k n pc lv (.int x :: st) h := by
  intro p l e s m args below meth c Fin cz hr hx hzz H locs ls hP hS hL
  refine lv_istore_n (lv' := lm C lv') cz.1.1 cz.1.2.1 hd hi hL hn (by subst hl; exact lm_set1 C lv i (.int x)) (fun ls hL => ?_)
  exact kk p l e s m args below meth c Fin cz hr hx hzz H locs ls hP hS hL
theorem w_istore {i : Nat} {x : Int32} (hd : decode (mB M) pc = .ok (.istore i, 2)) (hn : i < mL M) (hl : (i, Value.int x) :: lv.filter (fun q => !(q.1 == i) && !(q.1 + 1 == i && q.2.category == 2)) = lv') (kk : ww C M d mc ms ne Qr Qx nx k n (pc + 2) lv' st h) : ww C M d mc ms ne Qr Qx nx k n pc lv (.int x :: st) h := by
  intro p l e s m args below meth c Fin cz hr hx hzz H locs ls hP hS hL
  refine lv_istore (lv' := lm C lv') cz.1.1 cz.1.2.1 hd hL hn (by subst hl; exact lm_set1 C lv i (.int x)) (fun ls hL => ?_)
  exact kk p l e s m args below meth c Fin cz hr hx hzz H locs ls hP hS hL
theorem w_lstore_n {z : Fin 4} {i : Nat} {x : Int64} (hd : decode (mB M) pc = .ok (.lstore_n z, 1)) (hi : (z : Nat) = i) (hn : i + 1 < mL M) (hl : (i, Value.long x) :: lv.filter (fun q => !(q.1 == i) && (!(q.1 == i + 1) && !(q.1 + 1 == i && q.2.category == 2))) = lv') (kk : ww C M d mc ms ne Qr Qx nx k n (pc + 1) lv' st h) : ww C M d mc ms ne Qr Qx nx k n pc lv (.long x :: st) h := by
  intro p l e s m args below meth c Fin cz hr hx hzz H locs ls hP hS hL
  refine lv_lstore_n (lv' := lm C lv') cz.1.1 cz.1.2.1 hd hi hL hn (by subst hl; exact lm_set2 C lv i (.long x)) (fun ls hL => ?_)
  exact kk p l e s m args below meth c Fin cz hr hx hzz H locs ls hP hS hL
theorem w_lstore {i : Nat} {x : Int64} (hd : decode (mB M) pc = .ok (.lstore i, 2)) (hn : i + 1 < mL M) (hl : (i, Value.long x) :: lv.filter (fun q => !(q.1 == i) && (!(q.1 == i + 1) && !(q.1 + 1 == i && q.2.category == 2))) = lv') (kk : ww C M d mc ms ne Qr Qx nx k n (pc + 2) lv' st h) : ww C M d mc ms ne Qr Qx nx k n pc lv (.long x :: st) h := by
  intro p l e s m args below meth c Fin cz hr hx hzz H locs ls hP hS hL
  refine lv_lstore (lv' := lm C lv') cz.1.1 cz.1.2.1 hd hL hn (by subst hl; exact lm_set2 C lv i (.long x)) (fun ls hL => ?_)
  exact kk p l e s m args below meth c Fin cz hr hx hzz H locs ls hP hS hL
theorem w_astore_n {z : Fin 4} {i : Nat} {x : Nat} (hd : decode (mB M) pc = .ok (.astore_n z, 1)) (hi : (z : Nat) = i) (hn : i < mL M) (hl : (i, Value.ref x) :: lv.filter (fun q => !(q.1 == i) && !(q.1 + 1 == i && q.2.category == 2)) = lv') (kk : ww C M d mc ms ne Qr Qx nx k n (pc + 1) lv' st h) : ww C M d mc ms ne Qr Qx nx k n pc lv (.ref x :: st) h := by
  intro p l e s m args below meth c Fin cz hr hx hzz H locs ls hP hS hL
  refine lv_astore_n (lv' := lm C lv') cz.1.1 cz.1.2.1 hd hi hL hn (by subst hl; exact lm_set1 C lv i (.ref x)) (fun ls hL => ?_)
  exact kk p l e s m args below meth c Fin cz hr hx hzz H locs ls hP hS hL
theorem w_astore {i : Nat} {x : Nat} (hd : decode (mB M) pc = .ok (.astore i, 2)) (hn : i < mL M) (hl : (i, Value.ref x) :: lv.filter (fun q => !(q.1 == i) && !(q.1 + 1 == i && q.2.category == 2)) = lv') (kk : ww C M d mc ms ne Qr Qx nx k n (pc + 2) lv' st h) : ww C M d mc ms ne Qr Qx nx k n pc lv (.ref x :: st) h := by
  intro p l e s m args below meth c Fin cz hr hx hzz H locs ls hP hS hL
  refine lv_astore (lv' := lm C lv') cz.1.1 cz.1.2.1 hd hL hn (by subst hl; exact lm_set1 C lv i (.ref x)) (fun ls hL => ?_)
  exact kk p l e s m args below meth c Fin cz hr hx hzz H locs ls hP hS hL
theorem w_fstore_n {z : Fin 4} {i : Nat} {x : UInt32} (hd : decode (mB M) pc = .ok (.fstore_n z, 1)) (hi : (z : Nat) = i) (hn : i < mL M) (hl : (i, Value.float x) :: lv.filter (fun q => !(q.1 == i) && !(q.1 + 1 == i && q.2.category == 2)) = lv') (kk : ww C M d mc ms ne Qr Qx nx k n (pc + 1) lv' st h) : ww C M d mc ms ne Qr Qx nx k n pc lv (.float x :: st) h := by
  intro p l e s m args below meth c Fin cz hr hx hzz H locs ls hP hS hL
  refine lv_fstore_n (lv' := lm C lv') cz.1.1 cz.1.2.1 hd hi hL hn (by subst hl; exact lm_set1 C lv i (.float x)) (fun ls hL => ?_)
  exact kk p l e s m args below meth c Fin cz hr hx hzz H locs ls hP hS hL
theorem w_fstore {i : Nat} {x : UInt32} (hd : decode (mB M) pc = .ok (.fstore i, 2)) (hn : i < mL M) (hl : (i, Value.float x) :: lv.filter (fun q => !(q.1 == i) && !(q.1 + 1 == i && q.2.category == 2)) = lv') (kk : ww C M d mc ms ne Qr Qx nx k n (pc + 2) lv' st h) : ww C M d mc ms ne Qr Qx nx k n pc lv (.float x :: st) h := by
  intro p l e s m args below meth c Fin cz hr hx hzz H locs ls hP hS hL
  refine lv_fstore (lv' := lm C lv') cz.1.1 cz.1.2.1 hd hL hn (by subst hl; exact lm_set1 C lv i (.float x)) (fun ls hL => ?_)
  exact kk p l e s m args below meth c Fin cz hr hx hzz H locs ls hP hS hL
theorem w_dstore_n {z : Fin 4} {i : Nat} {x : UInt64} (hd : decode (mB M) pc = .ok (.dstore_n z, 1)) (hi : (z : Nat) = i) (hn : i + 1 < mL M) (hl : (i, Value.double x) :: lv.filter (fun q => !(q.1 == i) && (!(q.1 == i + 1) && !(q.1 + 1 == i && q.2.category == 2))) = lv') (kk : ww C M d mc ms ne Qr Qx nx k n (pc + 1) lv' st h) : ww C M d mc ms ne Qr Qx nx k n pc lv (.double x :: st) h := by
  intro p l e s m args below meth c Fin cz hr hx hzz H locs ls hP hS hL
  refine lv_dstore_n (lv' := lm C lv') cz.1.1 cz.1.2.1 hd hi hL hn (by subst hl; exact lm_set2 C lv i (.double x)) (fun ls hL => ?_)
  exact kk p l e s m args below meth c Fin cz hr hx hzz H locs ls hP hS hL
theorem w_dstore {i : Nat} {x : UInt64} (hd : decode (mB M) pc = .ok (.dstore i, 2)) (hn : i + 1 < mL M) (hl : (i, Value.double x) :: lv.filter (fun q => !(q.1 == i) && (!(q.1 == i + 1) && !(q.1 + 1 == i && q.2.category == 2))) = lv') (kk : ww C M d mc ms ne Qr Qx nx k n (pc + 2) lv' st h) : ww C M d mc ms ne Qr Qx nx k n pc lv (.double x :: st) h := by
  intro p l e s m args below meth c Fin cz hr hx hzz H locs ls hP hS hL
  refine lv_dstore (lv' := lm C lv') cz.1.1 cz.1.2.1 hd hL hn (by subst hl; exact lm_set2 C lv i (.double x)) (fun ls hL => ?_)
  exact kk p l e s m args below meth c Fin cz hr hx hzz H locs ls hP hS hL
theorem w_iinc (q : Nat) {i : Nat} {z : Int} {x v : Int32} (hd : decode (mB M) pc = .ok (.iinc i z, 3)) (hq : lv[q]? = some (i, .int x)) (hv : x + Int32.ofInt z = v) (hn : i < mL M) (hl : (i, Value.int v) :: lv.filter (fun q => !(q.1 == i) && !(q.1 + 1 == i && q.2.category == 2)) = lv') (kk : ww C M d mc ms ne Qr Qx nx k n (pc + 3) lv' st h) : ww C M d mc ms ne Qr Qx nx k n pc lv (st) h := by
  intro p l e s m args below meth c Fin cz hr hx hzz H locs ls hP hS hL
  refine lv_iinc (lv' := lm C lv') (k := q) cz.1.1 cz.1.2.1 hd hL (lm_at C hq) hv hn (by subst hl; exact lm_set1 C lv i (.int v)) (fun ls hL => ?_)
  exact kk p l e s m args below meth c Fin cz hr hx hzz H locs ls hP hS hL
theorem w_iadd {x y : Int32} (hd : decode (mB M) pc = .ok (.iadd, 1)) (kk : ww C M d mc ms ne Qr Qx nx k n (pc + 1) lv (.int (x + y) :: st) h) : ww C M d mc ms ne Qr Qx nx k n pc lv (.int y :: .int x :: st) h := by
  intro p l e s m args below meth c Fin cz hr hx hzz H locs ls hP hS hL
  exact lv_iadd cz.1.1 cz.1.2.1 hd (kk p l e s m args below meth c Fin cz hr hx hzz H locs ls hP hS hL)
theorem w_isub {x y : Int32} (hd : decode (mB M) pc = .ok (.isub, 1)) (kk : ww C M d mc ms ne Qr Qx nx k n (pc + 1) lv (.int (x - y) :: st) h) : ww C M d mc ms ne Qr Qx nx k n pc lv (.int y :: .int x :: st) h := by
  intro p l e s m args below meth c Fin cz hr hx hzz H locs ls hP hS hL
  exact lv_isub cz.1.1 cz.1.2.1 hd (kk p l e s m args below meth c Fin cz hr hx hzz H locs ls hP hS hL)
theorem w_imul {x y : Int32} (hd : decode (mB M) pc = .ok (.imul, 1)) (kk : ww C M d mc ms ne Qr Qx nx k n (pc + 1) lv (.int (x * y) :: st) h) : ww C M d mc ms ne Qr Qx nx k n pc lv (.int y :: .int x :: st) h := by
  intro p l e s m args below meth c Fin cz hr hx hzz H locs ls hP hS hL
  exact lv_imul cz.1.1 cz.1.2.1 hd (kk p l e s m args below meth c Fin cz hr hx hzz H locs ls hP hS hL)
theorem w_iand {x y : Int32} (hd : decode (mB M) pc = .ok (.iand, 1)) (kk : ww C M d mc ms ne Qr Qx nx k n (pc + 1) lv (.int (x &&& y) :: st) h) : ww C M d mc ms ne Qr Qx nx k n pc lv (.int y :: .int x :: st) h := by
  intro p l e s m args below meth c Fin cz hr hx hzz H locs ls hP hS hL
  exact lv_iand cz.1.1 cz.1.2.1 hd (kk p l e s m args below meth c Fin cz hr hx hzz H locs ls hP hS hL)
theorem w_ior {x y : Int32} (hd : decode (mB M) pc = .ok (.ior, 1)) (kk : ww C M d mc ms ne Qr Qx nx k n (pc + 1) lv (.int (x ||| y) :: st) h) : ww C M d mc ms ne Qr Qx nx k n pc lv (.int y :: .int x :: st) h := by
  intro p l e s m args below meth c Fin cz hr hx hzz H locs ls hP hS hL
  exact lv_ior cz.1.1 cz.1.2.1 hd (kk p l e s m args below meth c Fin cz hr hx hzz H locs ls hP hS hL)
theorem w_ixor {x y : Int32} (hd : decode (mB M) pc = .ok (.ixor, 1)) (kk : ww C M d mc ms ne Qr Qx nx k n (pc + 1) lv (.int (x ^^^ y) :: st) h) : ww C M d mc ms ne Qr Qx nx k n pc lv (.int y :: .int x :: st) h := by
  intro p l e s m args below meth c Fin cz hr hx hzz H locs ls hP hS hL
  exact lv_ixor cz.1.1 cz.1.2.1 hd (kk p l e s m args below meth c Fin cz hr hx hzz H locs ls hP hS hL)
theorem w_ladd {x y : Int64} (hd : decode (mB M) pc = .ok (.ladd, 1)) (kk : ww C M d mc ms ne Qr Qx nx k n (pc + 1) lv (.long (x + y) :: st) h) : ww C M d mc ms ne Qr Qx nx k n pc lv (.long y :: .long x :: st) h := by
  intro p l e s m args below meth c Fin cz hr hx hzz H locs ls hP hS hL
  exact lv_ladd cz.1.1 cz.1.2.1 hd (kk p l e s m args below meth c Fin cz hr hx hzz H locs ls hP hS hL)
theorem w_lsub {x y : Int64} (hd : decode (mB M) pc = .ok (.lsub, 1)) (kk : ww C M d mc ms ne Qr Qx nx k n (pc + 1) lv (.long (x - y) :: st) h) : ww C M d mc ms ne Qr Qx nx k n pc lv (.long y :: .long x :: st) h := by
  intro p l e s m args below meth c Fin cz hr hx hzz H locs ls hP hS hL
  exact lv_lsub cz.1.1 cz.1.2.1 hd (kk p l e s m args below meth c Fin cz hr hx hzz H locs ls hP hS hL)
theorem w_lmul {x y : Int64} (hd : decode (mB M) pc = .ok (.lmul, 1)) (kk : ww C M d mc ms ne Qr Qx nx k n (pc + 1) lv (.long (x * y) :: st) h) : ww C M d mc ms ne Qr Qx nx k n pc lv (.long y :: .long x :: st) h := by
  intro p l e s m args below meth c Fin cz hr hx hzz H locs ls hP hS hL
  exact lv_lmul cz.1.1 cz.1.2.1 hd (kk p l e s m args below meth c Fin cz hr hx hzz H locs ls hP hS hL)
theorem w_land {x y : Int64} (hd : decode (mB M) pc = .ok (.land, 1)) (kk : ww C M d mc ms ne Qr Qx nx k n (pc + 1) lv (.long (x &&& y) :: st) h) : ww C M d mc ms ne Qr Qx nx k n pc lv (.long y :: .long x :: st) h := by
  intro p l e s m args below meth c Fin cz hr hx hzz H locs ls hP hS hL
  exact lv_land cz.1.1 cz.1.2.1 hd (kk p l e s m args below meth c Fin cz hr hx hzz H locs ls hP hS hL)
theorem w_lor {x y : Int64} (hd : decode (mB M) pc = .ok (.lor, 1)) (kk : ww C M d mc ms ne Qr Qx nx k n (pc + 1) lv (.long (x ||| y) :: st) h) : ww C M d mc ms ne Qr Qx nx k n pc lv (.long y :: .long x :: st) h := by
  intro p l e s m args below meth c Fin cz hr hx hzz H locs ls hP hS hL
  exact lv_lor cz.1.1 cz.1.2.1 hd (kk p l e s m args below meth c Fin cz hr hx hzz H locs ls hP hS hL)
theorem w_idiv {x y : Int32} (hd : decode (mB M) pc = .ok (.idiv, 1)) (hz : ¬ y = 0) (kk : ww C M d mc ms ne Qr Qx nx k n (pc + 1) lv (.int (x / y) :: st) h) : ww C M d mc ms ne Qr Qx nx k n pc lv (.int y :: .int x :: st) h := by
  intro p l e s m args below meth c Fin cz hr hx hzz H locs ls hP hS hL
  exact lv_idiv cz.1.1 cz.1.2.1 hd hz (kk p l e s m args below meth c Fin cz hr hx hzz H locs ls hP hS hL)
theorem w_irem {x y : Int32} (hd : decode (mB M) pc = .ok (.irem, 1)) (hz : ¬ y = 0) (kk : ww C M d mc ms ne Qr Qx nx k n (pc + 1) lv (.int (x - x / y * y) :: st) h) : ww C M d mc ms ne Qr Qx nx k n pc lv (.int y :: .int x :: st) h := by
  intro p l e s m args below meth c Fin cz hr hx hzz H locs ls hP hS hL
  exact lv_irem cz.1.1 cz.1.2.1 hd hz (kk p l e s m args below meth c Fin cz hr hx hzz H locs ls hP hS hL)
theorem w_ldiv {x y : Int64} (hd : decode (mB M) pc = .ok (.ldiv, 1)) (hz : ¬ y = 0) (kk : ww C M d mc ms ne Qr Qx nx k n (pc + 1) lv (.long (x / y) :: st) h) : ww C M d mc ms ne Qr Qx nx k n pc lv (.long y :: .long x :: st) h := by
  intro p l e s m args below meth c Fin cz hr hx hzz H locs ls hP hS hL
  exact lv_ldiv cz.1.1 cz.1.2.1 hd hz (kk p l e s m args below meth c Fin cz hr hx hzz H locs ls hP hS hL)
theorem w_lrem {x y : Int64} (hd : decode (mB M) pc = .ok (.lrem, 1)) (hz : ¬ y = 0) (kk : ww C M d mc ms ne Qr Qx nx k n (pc + 1) lv (.long (x - x / y * y) :: st) h) : ww C M d mc ms ne Qr Qx nx k n pc lv (.long y :: .long x :: st) h := by
  intro p l e s m args below meth c Fin cz hr hx hzz H locs ls hP hS hL
  exact lv_lrem cz.1.1 cz.1.2.1 hd hz (kk p l e s m args below meth c Fin cz hr hx hzz H locs ls hP hS hL)
theorem w_ishl {x y : Int32} (hd : decode (mB M) pc = .ok (.ishl, 1)) (kk : ww C M d mc ms ne Qr Qx nx k n (pc + 1) lv (.int (x <<< (y &&& 31)) :: st) h) : ww C M d mc ms ne Qr Qx nx k n pc lv (.int y :: .int x :: st) h := by
  intro p l e s m args below meth c Fin cz hr hx hzz H locs ls hP hS hL
  exact lv_ishl cz.1.1 cz.1.2.1 hd (kk p l e s m args below meth c Fin cz hr hx hzz H locs ls hP hS hL)
theorem w_ishr {x y : Int32} (hd : decode (mB M) pc = .ok (.ishr, 1)) (kk : ww C M d mc ms ne Qr Qx nx k n (pc + 1) lv (.int (x >>> (y &&& 31)) :: st) h) : ww C M d mc ms ne Qr Qx nx k n pc lv (.int y :: .int x :: st) h := by
  intro p l e s m args below meth c Fin cz hr hx hzz H locs ls hP hS hL
  exact lv_ishr cz.1.1 cz.1.2.1 hd (kk p l e s m args below meth c Fin cz hr hx hzz H locs ls hP hS hL)
theorem w_i2l {x : Int32} (hd : decode (mB M) pc = .ok (.i2l, 1)) (kk : ww C M d mc ms ne Qr Qx nx k n (pc + 1) lv (.long x.toInt64 :: st) h) : ww C M d mc ms ne Qr Qx nx k n pc lv (.int x :: st) h := by
  intro p l e s m args below meth c Fin cz hr hx hzz H locs ls hP hS hL
  exact lv_i2l cz.1.1 cz.1.2.1 hd rfl (kk p l e s m args below meth c Fin cz hr hx hzz H locs ls hP hS hL)
theorem w_l2i {x : Int64} (hd : decode (mB M) pc = .ok (.l2i, 1)) (kk : ww C M d mc ms ne Qr Qx nx k n (pc + 1) lv (.int x.toInt32 :: st) h) : ww C M d mc ms ne Qr Qx nx k n pc lv (.long x :: st) h := by
  intro p l e s m args below meth c Fin cz hr hx hzz H locs ls hP hS hL
  exact lv_l2i cz.1.1 cz.1.2.1 hd rfl (kk p l e s m args below meth c Fin cz hr hx hzz H locs ls hP hS hL)
theorem w_i2b {x : Int32} (hd : decode (mB M) pc = .ok (.i2b, 1)) (kk : ww C M d mc ms ne Qr Qx nx k n (pc + 1) lv (.int x.toInt8.toInt32 :: st) h) : ww C M d mc ms ne Qr Qx nx k n pc lv (.int x :: st) h := by
  intro p l e s m args below meth c Fin cz hr hx hzz H locs ls hP hS hL
  exact lv_i2b cz.1.1 cz.1.2.1 hd rfl (kk p l e s m args below meth c Fin cz hr hx hzz H locs ls hP hS hL)
theorem w_lushr {x : Int64} {y : Int32} (hd : decode (mB M) pc = .ok (.lushr, 1)) (kk : ww C M d mc ms ne Qr Qx nx k n (pc + 1) lv (.long ((x.toUInt64 >>> (y.toInt64.toUInt64 &&& Int64.toUInt64 63)).toInt64) :: st) h) : ww C M d mc ms ne Qr Qx nx k n pc lv (.int y :: .long x :: st) h := by
  intro p l e s m args below meth c Fin cz hr hx hzz H locs ls hP hS hL
  exact lv_lushr cz.1.1 cz.1.2.1 hd rfl (kk p l e s m args below meth c Fin cz hr hx hzz H locs ls hP hS hL)
theorem w_lshl {x : Int64} {y : Int32} (hd : decode (mB M) pc = .ok (.lshl, 1)) (kk : ww C M d mc ms ne Qr Qx nx k n (pc + 1) lv (.long (x <<< (y.toInt64 &&& 63)) :: st) h) : ww C M d mc ms ne Qr Qx nx k n pc lv (.int y :: .long x :: st) h := by
  intro p l e s m args below meth c Fin cz hr hx hzz H locs ls hP hS hL
  exact lv_lshl cz.1.1 cz.1.2.1 hd rfl (kk p l e s m args below meth c Fin cz hr hx hzz H locs ls hP hS hL)
theorem w_lshr {x : Int64} {y : Int32} (hd : decode (mB M) pc = .ok (.lshr, 1)) (kk : ww C M d mc ms ne Qr Qx nx k n (pc + 1) lv (.long (x >>> (y.toInt64 &&& 63)) :: st) h) : ww C M d mc ms ne Qr Qx nx k n pc lv (.int y :: .long x :: st) h := by
  intro p l e s m args below meth c Fin cz hr hx hzz H locs ls hP hS hL
  exact lv_lshr cz.1.1 cz.1.2.1 hd rfl (kk p l e s m args below meth c Fin cz hr hx hzz H locs ls hP hS hL)
theorem w_i2f {x : Int32} (hd : decode (mB M) pc = .ok (.i2f, 1)) (kk : ww C M d mc ms ne Qr Qx nx k n (pc + 1) lv (.float (FP.i2f x) :: st) h) : ww C M d mc ms ne Qr Qx nx k n pc lv (.int x :: st) h := by
  intro p l e s m args below meth c Fin cz hr hx hzz H locs ls hP hS hL
  exact lv_i2f cz.1.1 cz.1.2.1 hd (kk p l e s m args below meth c Fin cz hr hx hzz H locs ls hP hS hL)
theorem w_i2d {x : Int32} (hd : decode (mB M) pc = .ok (.i2d, 1)) (kk : ww C M d mc ms ne Qr Qx nx k n (pc + 1) lv (.double (FP.i2d x) :: st) h) : ww C M d mc ms ne Qr Qx nx k n pc lv (.int x :: st) h := by
  intro p l e s m args below meth c Fin cz hr hx hzz H locs ls hP hS hL
  exact lv_i2d cz.1.1 cz.1.2.1 hd (kk p l e s m args below meth c Fin cz hr hx hzz H locs ls hP hS hL)
theorem w_f2d {x : UInt32} (hd : decode (mB M) pc = .ok (.f2d, 1)) (hz : vf_n64 (FP.f2d x)) (kk : ww C M d mc ms ne Qr Qx nx k n (pc + 1) lv (.double (FP.f2d x) :: st) h) : ww C M d mc ms ne Qr Qx nx k n pc lv (.float x :: st) h := by
  intro p l e s m args below meth c Fin cz hr hx hzz H locs ls hP hS hL
  exact lv_f2d cz.1.1 cz.1.2.1 hd hz (kk p l e s m args below meth c Fin cz hr hx hzz H locs ls hP hS hL)
theorem w_fdiv {x y : UInt32} (hd : decode (mB M) pc = .ok (.fdiv, 1)) (hz : vf_n32 (FP.fdiv x y)) (kk : ww C M d mc ms ne Qr Qx nx k n (pc + 1) lv (.float (FP.fdiv x y) :: st) h) : ww C M d mc ms ne Qr Qx nx k n pc lv (.float y :: .float x :: st) h := by
  intro p l e s m args below meth c Fin cz hr hx hzz H locs ls hP hS hL
  exact lv_fdiv cz.1.1 cz.1.2.1 hd hz (kk p l e s m args below meth c Fin cz hr hx hzz H locs ls hP hS hL)
theorem w_ddiv {x y : UInt64} (hd : decode (mB M) pc = .ok (.ddiv, 1)) (hz : vf_n64 (FP.ddiv x y)) (kk : ww C M d mc ms ne Qr Qx nx k n (pc + 1) lv (.double (FP.ddiv x y) :: st) h) : ww C M d mc ms ne Qr Qx nx k n pc lv (.double y :: .double x :: st) h := by
  intro p l e s m args below meth c Fin cz hr hx hzz H locs ls hP hS hL
  exact lv_ddiv cz.1.1 cz.1.2.1 hd hz (kk p l e s m args below meth c Fin cz hr hx hzz H locs ls hP hS hL)
theorem w_fcmp {x y : UInt32} {op : CmpOp} (hd : decode (mB M) pc = .ok (.fcmp op, 1)) (kk : ww C M d mc ms ne Qr Qx nx k n (pc + 1) lv (.int (Op.cmpValue (FP.fcmp x y) op) :: st) h) : ww C M d mc ms ne Qr Qx nx k n pc lv (.float y :: .float x :: st) h := by
  intro p l e s m args below meth c Fin cz hr hx hzz H locs ls hP hS hL
  exact lv_fcmp cz.1.1 cz.1.2.1 hd (kk p l e s m args below meth c Fin cz hr hx hzz H locs ls hP hS hL)
theorem w_dcmp {x y : UInt64} {op : CmpOp} (hd : decode (mB M) pc = .ok (.dcmp op, 1)) (kk : ww C M d mc ms ne Qr Qx nx k n (pc + 1) lv (.int (Op.cmpValue (FP.dcmp x y) op) :: st) h) : ww C M d mc ms ne Qr Qx nx k n pc lv (.double y :: .double x :: st) h := by
  intro p l e s m args below meth c Fin cz hr hx hzz H locs ls hP hS hL
  exact lv_dcmp cz.1.1 cz.1.2.1 hd (kk p l e s m args below meth c Fin cz hr hx hzz H locs ls hP hS hL)
theorem w_fconst0  (hd : decode (mB M) pc = .ok (.fconst 0, 1)) (kk : ww C M d mc ms ne Qr Qx nx k n (pc + 1) lv (.float 0 :: st) h) : ww C M d mc ms ne Qr Qx nx k n pc lv (st) h := by
  intro p l e s m args below meth c Fin cz hr hx hzz H locs ls hP hS hL
  exact lv_fconst0 cz.1.1 cz.1.2.1 hd (kk p l e s m args below meth c Fin cz hr hx hzz H locs ls hP hS hL)
theorem w_dconst0  (hd : decode (mB M) pc = .ok (.dconst 0, 1)) (kk : ww C M d mc ms ne Qr Qx nx k n (pc + 1) lv (.double 0 :: st) h) : ww C M d mc ms ne Qr Qx nx k n pc lv (st) h := by
  intro p l e s m args below meth c Fin cz hr hx hzz H locs ls hP hS hL
  exact lv_dconst0 cz.1.1 cz.1.2.1 hd (kk p l e s m args below meth c Fin cz hr hx hzz H locs ls hP hS hL)
theorem w_lcmp {x y : Int64} (hd : decode (mB M) pc = .ok (.lcmp, 1)) (kk : ww C M d mc ms ne Qr Qx nx k n (pc + 1) lv (.int (lg_cmp x y) :: st) h) : ww C M d mc ms ne Qr Qx nx k n pc lv (.long y :: .long x :: st) h := by
  intro p l e s m args below meth c Fin cz hr hx hzz H locs ls hP hS hL
  exact W.lcmp cz.1.1 cz.1.2.1 hd (kk p l e s m args below meth c Fin cz hr hx hzz H locs ls hP hS hL)
theorem w_dup {v : Value} (hd : decode (mB M) pc = .ok (.dup, 1)) (hv : v.category = 1) (kk : ww C M d mc ms ne Qr Qx nx k n (pc + 1) lv (v :: v :: st) h) : ww C M d mc ms ne Qr Qx nx k n pc lv (v :: st) h := by
  intro p l e s m args below meth c Fin cz hr hx hzz H locs ls hP hS hL
  exact lv_dup cz.1.1 cz.1.2.1 hd (by rw [up_cat]; exact hv) (kk p l e s m args below meth c Fin cz hr hx hzz H locs ls hP hS hL)
theorem w_pop {v : Value} (hd : decode (mB M) pc = .ok (.pop, 1)) (hv : v.category = 1) (kk : ww C M d mc ms ne Qr Qx nx k n (pc + 1) lv (st) h) : ww C M d mc ms ne Qr Qx nx k n pc lv (v :: st) h := by
  intro p l e s m args below meth c Fin cz hr hx hzz H locs ls hP hS hL
  exact lv_pop cz.1.1 cz.1.2.1 hd (by rw [up_cat]; exact hv) (kk p l e s m args below meth c Fin cz hr hx hzz H locs ls hP hS hL)
theorem w_dup2 {v w : Value} (hd : decode (mB M) pc = .ok (.dup2, 1)) (hv : v.category = 1) (hw : w.category = 1) (kk : ww C M d mc ms ne Qr Qx nx k n (pc + 1) lv (v :: w :: v :: w :: st) h) : ww C M d mc ms ne Qr Qx nx k n pc lv (v :: w :: st) h := by
  intro p l e s m args below meth c Fin cz hr hx hzz H locs ls hP hS hL
  exact lv_dup2_11 cz.1.1 cz.1.2.1 hd (by rw [up_cat]; exact hv) (by rw [up_cat]; exact hw) (kk p l e s m args below meth c Fin cz hr hx hzz H locs ls hP hS hL)
theorem w_null  (hd : decode (mB M) pc = .ok (.aconst_null, 1)) (kk : ww C M d mc ms ne Qr Qx nx k n (pc + 1) lv (.null :: st) h) : ww C M d mc ms ne Qr Qx nx k n pc lv (st) h := by
  intro p l e s m args below meth c Fin cz hr hx hzz H locs ls hP hS hL
  exact lv_null cz.1.1 cz.1.2.1 hd (kk p l e s m args below meth c Fin cz hr hx hzz H locs ls hP hS hL)
theorem w_ifeq {x : Int32} {off : Int} {tgt : Nat} (hd : decode (mB M) pc = .ok (.ifCond .eq off, 3)) (ht : (pc : Int) + off = (tgt : Int)) (kt : x = 0 → ww C M d mc ms ne Qr Qx nx k n tgt lv st h) (kf : ¬ x = 0 → ww C M d mc ms ne Qr Qx nx k n (pc + 3) lv st h) : ww C M d mc ms ne Qr Qx nx k n pc lv (.int x :: st) h := by
  intro p l e s m args below meth c Fin cz hr hx hzz H locs ls hP hS hL
  exact lv_if_eq cz.1.1 cz.1.2.1 hd ht (fun q => kt q p l e s m args below meth c Fin cz hr hx hzz H locs ls hP hS hL) (fun q => kf q p l e s m args below meth c Fin cz hr hx hzz H locs ls hP hS hL)
theorem w_ifne {x : Int32} {off : Int} {tgt : Nat} (hd : decode (mB M) pc = .ok (.ifCond .ne off, 3)) (ht : (pc : Int) + off = (tgt : Int)) (kt : ¬ x = 0 → ww C M d mc ms ne Qr Qx nx k n tgt lv st h) (kf : x = 0 → ww C M d mc ms ne Qr Qx nx k n (pc + 3) lv st h) : ww C M d mc ms ne Qr Qx nx k n pc lv (.int x :: st) h := by
  intro p l e s m args below meth c Fin cz hr hx hzz H locs ls hP hS hL
  exact lv_if_ne cz.1.1 cz.1.2.1 hd ht (fun q => kt q p l e s m args below meth c Fin cz hr hx hzz H locs ls hP hS hL) (fun q => kf q p l e s m args below meth c Fin cz hr hx hzz H locs ls hP hS hL)
theorem w_iflt {x : Int32} {off : Int} {tgt : Nat} (hd : decode (mB M) pc = .ok (.ifCond .lt off, 3)) (ht : (pc : Int) + off = (tgt : Int)) (kt : x < 0 → ww C M d mc ms ne Qr Qx nx k n tgt lv st h) (kf : ¬ x < 0 → ww C M d mc ms ne Qr Qx nx k n (pc + 3) lv st h) : ww C M d mc ms ne Qr Qx nx k n pc lv (.int x :: st) h := by
  intro p l e s m args below meth c Fin cz hr hx hzz H locs ls hP hS hL
  exact lv_if_lt cz.1.1 cz.1.2.1 hd ht (fun q => kt q p l e s m args below meth c Fin cz hr hx hzz H locs ls hP hS hL) (fun q => kf q p l e s m args below meth c Fin cz hr hx hzz H locs ls hP hS hL)
theorem w_ifge {x : Int32} {off : Int} {tgt : Nat} (hd : decode (mB M) pc = .ok (.ifCond .ge off, 3)) (ht : (pc : Int) + off = (tgt : Int)) (kt : 0 ≤ x → ww C M d mc ms ne Qr Qx nx k n tgt lv st h) (kf : ¬ 0 ≤ x → ww C M d mc ms ne Qr Qx nx k n (pc + 3) lv st h) : ww C M d mc ms ne Qr Qx nx k n pc lv (.int x :: st) h := by
  intro p l e s m args below meth c Fin cz hr hx hzz H locs ls hP hS hL
  exact lv_if_ge cz.1.1 cz.1.2.1 hd ht (fun q => kt q p l e s m args below meth c Fin cz hr hx hzz H locs ls hP hS hL) (fun q => kf q p l e s m args below meth c Fin cz hr hx hzz H locs ls hP hS hL)
theorem w_ifgt {x : Int32} {off : Int} {tgt : Nat} (hd : decode (mB M) pc = .ok (.ifCond .gt off, 3)) (ht : (pc : Int) + off = (tgt : Int)) (kt : 0 < x → ww C M d mc ms ne Qr Qx nx k n tgt lv st h) (kf : ¬ 0 < x → ww C M d mc ms ne Qr Qx nx k n (pc + 3) lv st h) : ww C M d mc ms ne Qr Qx nx k n pc lv (.int x :: st) h := by
  intro p l e s m args below meth c Fin cz hr hx hzz H locs ls hP hS hL
  exact lv_if_gt cz.1.1 cz.1.2.1 hd ht (fun q => kt q p l e s m args below meth c Fin cz hr hx hzz H locs ls hP hS hL) (fun q => kf q p l e s m args below meth c Fin cz hr hx hzz H locs ls hP hS hL)
theorem w_ifle {x : Int32} {off : Int} {tgt : Nat} (hd : decode (mB M) pc = .ok (.ifCond .le off, 3)) (ht : (pc : Int) + off = (tgt : Int)) (kt : x ≤ 0 → ww C M d mc ms ne Qr Qx nx k n tgt lv st h) (kf : ¬ x ≤ 0 → ww C M d mc ms ne Qr Qx nx k n (pc + 3) lv st h) : ww C M d mc ms ne Qr Qx nx k n pc lv (.int x :: st) h := by
  intro p l e s m args below meth c Fin cz hr hx hzz H locs ls hP hS hL
  exact lv_if_le cz.1.1 cz.1.2.1 hd ht (fun q => kt q p l e s m args below meth c Fin cz hr hx hzz H locs ls hP hS hL) (fun q => kf q p l e s m args below meth c Fin cz hr hx hzz H locs ls hP hS hL)
theorem w_icmpeq {x y : Int32} {off : Int} {tgt : Nat} (hd : decode (mB M) pc = .ok (.if_icmp .eq off, 3)) (ht : (pc : Int) + off = (tgt : Int)) (kt : x = y → ww C M d mc ms ne Qr Qx nx k n tgt lv st h) (kf : ¬ x = y → ww C M d mc ms ne Qr Qx nx k n (pc + 3) lv st h) : ww C M d mc ms ne Qr Qx nx k n pc lv (.int y :: .int x :: st) h := by
  intro p l e s m args below meth c Fin cz hr hx hzz H locs ls hP hS hL
  exact lv_icmp_eq cz.1.1 cz.1.2.1 hd ht (fun q => kt q p l e s m args below meth c Fin cz hr hx hzz H locs ls hP hS hL) (fun q => kf q p l e s m args below meth c Fin cz hr hx hzz H locs ls hP hS hL)
theorem w_icmpne {x y : Int32} {off : Int} {tgt : Nat} (hd : decode (mB M) pc = .ok (.if_icmp .ne off, 3)) (ht : (pc : Int) + off = (tgt : Int)) (kt : ¬ x = y → ww C M d mc ms ne Qr Qx nx k n tgt lv st h) (kf : x = y → ww C M d mc ms ne Qr Qx nx k n (pc + 3) lv st h) : ww C M d mc ms ne Qr Qx nx k n pc lv (.int y :: .int x :: st) h := by
  intro p l e s m args below meth c Fin cz hr hx hzz H locs ls hP hS hL
  exact lv_icmp_ne cz.1.1 cz.1.2.1 hd ht (fun q => kt q p l e s m args below meth c Fin cz hr hx hzz H locs ls hP hS hL) (fun q => kf q p l e s m args below meth c Fin cz hr hx hzz H locs ls hP hS hL)
theorem w_icmplt {x y : Int32} {off : Int} {tgt : Nat} (hd : decode (mB M) pc = .ok (.if_icmp .lt off, 3)) (ht : (pc : Int) + off = (tgt : Int)) (kt : x < y → ww C M d mc ms ne Qr Qx nx k n tgt lv st h) (kf : ¬ x < y → ww C M d mc ms ne Qr Qx nx k n (pc + 3) lv st h) : ww C M d mc ms ne Qr Qx nx k n pc lv (.int y :: .int x :: st) h := by
  intro p l e s m args below meth c Fin cz hr hx hzz H locs ls hP hS hL
  exact lv_icmp_lt cz.1.1 cz.1.2.1 hd ht (fun q => kt q p l e s m args below meth c Fin cz hr hx hzz H locs ls hP hS hL) (fun q => kf q p l e s m args below meth c Fin cz hr hx hzz H locs ls hP hS hL)
theorem w_icmpge {x y : Int32} {off : Int} {tgt : Nat} (hd : decode (mB M) pc = .ok (.if_icmp .ge off, 3)) (ht : (pc : Int) + off = (tgt : Int)) (kt : y ≤ x → ww C M d mc ms ne Qr Qx nx k n tgt lv st h) (kf : ¬ y ≤ x → ww C M d mc ms ne Qr Qx nx k n (pc + 3) lv st h) : ww C M d mc ms ne Qr Qx nx k n pc lv (.int y :: .int x :: st) h := by
  intro p l e s m args below meth c Fin cz hr hx hzz H locs ls hP hS hL
  exact lv_icmp_ge cz.1.1 cz.1.2.1 hd ht (fun q => kt q p l e s m args below meth c Fin cz hr hx hzz H locs ls hP hS hL) (fun q => kf q p l e s m args below meth c Fin cz hr hx hzz H locs ls hP hS hL)
theorem w_icmpgt {x y : Int32} {off : Int} {tgt : Nat} (hd : decode (mB M) pc = .ok (.if_icmp .gt off, 3)) (ht : (pc : Int) + off = (tgt : Int)) (kt : y < x → ww C M d mc ms ne Qr Qx nx k n tgt lv st h) (kf : ¬ y < x → ww C M d mc ms ne Qr Qx nx k n (pc + 3) lv st h) : ww C M d mc ms ne Qr Qx nx k n pc lv (.int y :: .int x :: st) h := by
  intro p l e s m args below meth c Fin cz hr hx hzz H locs ls hP hS hL
  exact lv_icmp_gt cz.1.1 cz.1.2.1 hd ht (fun q => kt q p l e s m args below meth c Fin cz hr hx hzz H locs ls hP hS hL) (fun q => kf q p l e s m args below meth c Fin cz hr hx hzz H locs ls hP hS hL)
theorem w_icmple {x y : Int32} {off : Int} {tgt : Nat} (hd : decode (mB M) pc = .ok (.if_icmp .le off, 3)) (ht : (pc : Int) + off = (tgt : Int)) (kt : x ≤ y → ww C M d mc ms ne Qr Qx nx k n tgt lv st h) (kf : ¬ x ≤ y → ww C M d mc ms ne Qr Qx nx k n (pc + 3) lv st h) : ww C M d mc ms ne Qr Qx nx k n pc lv (.int y :: .int x :: st) h := by
  intro p l e s m args below meth c Fin cz hr hx hzz H locs ls hP hS hL
  exact lv_icmp_le cz.1.1 cz.1.2.1 hd ht (fun q => kt q p l e s m args below meth c Fin cz hr hx hzz H locs ls hP hS hL) (fun q => kf q p l e s m args below meth c Fin cz hr hx hzz H locs ls hP hS hL)
theorem w_goto {off : Int} {tgt : Nat} (hd : decode (mB M) pc = .ok (.goto off, 3)) (ht : (pc : Int) + off = (tgt : Int)) (kk : ww C M d mc ms ne Qr Qx nx k n tgt lv st h) : ww C M d mc ms ne Qr Qx nx k n pc lv st h := by
  intro p l e s m args below meth c Fin cz hr hx hzz H locs ls hP hS hL
  exact lv_goto cz.1.1 cz.1.2.1 hd ht (kk p l e s m args below meth c Fin cz hr hx hzz H locs ls hP hS hL)
theorem w_ifnonnull {x : Nat} {off : Int} {tgt : Nat} (hd : decode (mB M) pc = .ok (.ifnonnull off, 3)) (ht : (pc : Int) + off = (tgt : Int)) (kk : ww C M d mc ms ne Qr Qx nx k n tgt lv st h) : ww C M d mc ms ne Qr Qx nx k n pc lv (.ref x :: st) h := by
  intro p l e s m args below meth c Fin cz hr hx hzz H locs ls hP hS hL
  exact lv_ifnonnull cz.1.1 cz.1.2.1 hd ht (kk p l e s m args below meth c Fin cz hr hx hzz H locs ls hP hS hL)
theorem w_ifnull {x : Nat} {off : Int} (hd : decode (mB M) pc = .ok (.ifnull off, 3)) (kk : ww C M d mc ms ne Qr Qx nx k n (pc + 3) lv st h) : ww C M d mc ms ne Qr Qx nx k n pc lv (.ref x :: st) h := by
  intro p l e s m args below meth c Fin cz hr hx hzz H locs ls hP hS hL
  exact lv_ifnull cz.1.1 cz.1.2.1 hd (kk p l e s m args below meth c Fin cz hr hx hzz H locs ls hP hS hL)
theorem w_ifnullN {off : Int} {tgt : Nat} (hd : decode (mB M) pc = .ok (.ifnull off, 3)) (ht : (pc : Int) + off = (tgt : Int)) (kk : ww C M d mc ms ne Qr Qx nx k n tgt lv st h) : ww C M d mc ms ne Qr Qx nx k n pc lv (.null :: st) h := by
  intro p l e s m args below meth c Fin cz hr hx hzz H locs ls hP hS hL
  exact lv_ifnullN cz.1.1 cz.1.2.1 hd ht (kk p l e s m args below meth c Fin cz hr hx hzz H locs ls hP hS hL)
theorem w_ifnonnullN {off : Int} (hd : decode (mB M) pc = .ok (.ifnonnull off, 3)) (kk : ww C M d mc ms ne Qr Qx nx k n (pc + 3) lv st h) : ww C M d mc ms ne Qr Qx nx k n pc lv (.null :: st) h := by
  intro p l e s m args below meth c Fin cz hr hx hzz H locs ls hP hS hL
  exact lv_ifnonnullN cz.1.1 cz.1.2.1 hd (kk p l e s m args below meth c Fin cz hr hx hzz H locs ls hP hS hL)
theorem w_tableIn {dflt lo hi : Int} {offs : Array Int} {len : Nat} {x : Int32} {off : Int} {tgt : Nat} (hd : decode (mB M) pc = .ok (.tableswitch dflt lo hi offs, len)) (h1 : ¬ x.toInt < lo) (h2 : ¬ hi < x.toInt) (ho : offs[(x.toInt - lo).toNat]? = some off) (ht : (pc : Int) + off = (tgt : Int)) (kk : ww C M d mc ms ne Qr Qx nx k n tgt lv st h) : ww C M d mc ms ne Qr Qx nx k n pc lv (.int x :: st) h := by
  intro p l e s m args below meth c Fin cz hr hx hzz H locs ls hP hS hL
  exact lv_tableIn cz.1.1 cz.1.2.1 hd h1 h2 ho ht (kk p l e s m args below meth c Fin cz hr hx hzz H locs ls hP hS hL)
theorem w_tableOut {dflt lo hi : Int} {offs : Array Int} {len : Nat} {x : Int32} {tgt : Nat} (hd : decode (mB M) pc = .ok (.tableswitch dflt lo hi offs, len)) (h1 : x.toInt < lo ∨ hi < x.toInt) (ht : (pc : Int) + dflt = (tgt : Int)) (kk : ww C M d mc ms ne Qr Qx nx k n tgt lv st h) : ww C M d mc ms ne Qr Qx nx k n pc lv (.int x :: st) h := by
  intro p l e s m args below meth c Fin cz hr hx hzz H locs ls hP hS hL
  exact lv_tableOut cz.1.1 cz.1.2.1 hd h1 ht (kk p l e s m args below meth c Fin cz hr hx hzz H locs ls hP hS hL)
theorem w_ldc {idx : Nat} (v : Int32) (hd : decode (mB M) pc = .ok (.ldc idx, 2)) (hw : Cond.constant (mY M).cls idx v ∈ lw_all) (kk : ww C M d mc ms ne Qr Qx nx k n (pc + 2) lv (.int v :: st) h) : ww C M d mc ms ne Qr Qx nx k n pc lv st h := by
  intro p l e s m args below meth c Fin cz hr hx hzz H locs ls hP hS hL
  exact lv_ldc cz.1.1 cz.1.2.1 cz.1.2.2.2.2 (cz.2.1 _ hw) hd (kk p l e s m args below meth c Fin cz hr hx hzz H locs ls hP hS hL)
theorem w_ldcw {idx : Nat} (v : Int32) (hd : decode (mB M) pc = .ok (.ldc_w idx, 3)) (hw : Cond.constant (mY M).cls idx v ∈ lw_all) (kk : ww C M d mc ms ne Qr Qx nx k n (pc + 3) lv (.int v :: st) h) : ww C M d mc ms ne Qr Qx nx k n pc lv st h := by
  intro p l e s m args below meth c Fin cz hr hx hzz H locs ls hP hS hL
  exact lv_ldcw cz.1.1 cz.1.2.1 cz.1.2.2.2.2 (cz.2.1 _ hw) hd (kk p l e s m args below meth c Fin cz hr hx hzz H locs ls hP hS hL)
theorem w_ldc2 {idx : Nat} (v : Int64) (hd : decode (mB M) pc = .ok (.ldc2_w idx, 3)) (hw : Cond.constantLong (mY M).cls idx v ∈ lw_all) (kk : ww C M d mc ms ne Qr Qx nx k n (pc + 3) lv (.long v :: st) h) : ww C M d mc ms ne Qr Qx nx k n pc lv st h := by
  intro p l e s m args below meth c Fin cz hr hx hzz H locs ls hP hS hL
  exact lv_ldc2 cz.1.1 cz.1.2.1 cz.1.2.2.2.2 (cz.2.1 _ hw) hd (kk p l e s m args below meth c Fin cz hr hx hzz H locs ls hP hS hL)
theorem w_ldcf {idx : Nat} (v : UInt32) (hd : decode (mB M) pc = .ok (.ldc idx, 2)) (hw : Cond.constantFloat (mY M).cls idx v ∈ lw_all) (kk : ww C M d mc ms ne Qr Qx nx k n (pc + 2) lv (.float v :: st) h) : ww C M d mc ms ne Qr Qx nx k n pc lv st h := by
  intro p l e s m args below meth c Fin cz hr hx hzz H locs ls hP hS hL
  exact lv_ldcf cz.1.1 cz.1.2.1 cz.1.2.2.2.2 (cz.2.1 _ hw) hd (kk p l e s m args below meth c Fin cz hr hx hzz H locs ls hP hS hL)
theorem w_ldc2d {idx : Nat} (v : UInt64) (hd : decode (mB M) pc = .ok (.ldc2_w idx, 3)) (hw : Cond.constantDouble (mY M).cls idx v ∈ lw_all) (kk : ww C M d mc ms ne Qr Qx nx k n (pc + 3) lv (.double v :: st) h) : ww C M d mc ms ne Qr Qx nx k n pc lv st h := by
  intro p l e s m args below meth c Fin cz hr hx hzz H locs ls hP hS hL
  exact lv_ldc2d cz.1.1 cz.1.2.1 cz.1.2.2.2.2 (cz.2.1 _ hw) hd (kk p l e s m args below meth c Fin cz hr hx hzz H locs ls hP hS hL)
theorem w_ireturn {x : Int32} {ty : FieldType} (hty : mR M = some ty) (hnr : narrow ty (.int x) = .int x) (hd : decode (mB M) pc = .ok (.ireturn, 1)) (hne : nx = ne) (hk : k ≤ mc) (hn : n ≤ ms) (hq : Qr (some (.int x)) h) : ww C M d mc ms ne Qr Qx nx k n pc lv ([.int x]) h := by
  intro p l e s m args below meth c Fin cz hr hx hzz H locs ls hP hS hL
  subst hne
  exact hr (some (.int x)) h H locs ls pc k n _ hq hP hS hk hn (by rw [cz.1.2.1]; exact hd) (Or.inl ⟨x, rfl, rfl, ty, hty, hnr⟩)
theorem w_return (hty : mR M = none) (hd : decode (mB M) pc = .ok (.return_, 1)) (hne : nx = ne) (hk : k ≤ mc) (hn : n ≤ ms) (hq : Qr (none) h) : ww C M d mc ms ne Qr Qx nx k n pc lv ([]) h := by
  intro p l e s m args below meth c Fin cz hr hx hzz H locs ls hP hS hL
  subst hne
  exact hr (none) h H locs ls pc k n _ hq hP hS hk hn (by rw [cz.1.2.1]; exact hd) (Or.inr (Or.inl ⟨rfl, rfl, hty⟩))
theorem w_areturn {x : Nat} {ty : FieldType} (hty : mR M = some ty) (hnr : isR ty = true) (hd : decode (mB M) pc = .ok (.areturn, 1)) (hne : nx = ne) (hk : k ≤ mc) (hn : n ≤ ms) (hq : Qr (some (.ref x)) h) : ww C M d mc ms ne Qr Qx nx k n pc lv ([.ref x]) h := by
  intro p l e s m args below meth c Fin cz hr hx hzz H locs ls hP hS hL
  subst hne
  exact hr (some (.ref x)) h H locs ls pc k n _ hq hP hS hk hn (by rw [cz.1.2.1]; exact hd) (Or.inr (Or.inr (Or.inl ⟨x, rfl, rfl, ty, hty, hnr⟩)))
theorem w_areturnN {ty : FieldType} (hty : mR M = some ty) (hnr : isR ty = true) (hd : decode (mB M) pc = .ok (.areturn, 1)) (hne : nx = ne) (hk : k ≤ mc) (hn : n ≤ ms) (hq : Qr (some .null) h) : ww C M d mc ms ne Qr Qx nx k n pc lv ([.null]) h := by
  intro p l e s m args below meth c Fin cz hr hx hzz H locs ls hP hS hL
  subst hne
  exact hr (some .null) h H locs ls pc k n _ hq hP hS hk hn (by rw [cz.1.2.1]; exact hd) (Or.inr (Or.inr (Or.inr (Or.inl ⟨rfl, rfl, ty, hty, hnr⟩))))
theorem w_freturn {x : UInt32} (hty : mR M = some .float) (hd : decode (mB M) pc = .ok (.freturn, 1)) (hne : nx = ne) (hk : k ≤ mc) (hn : n ≤ ms) (hq : Qr (some (.float x)) h) : ww C M d mc ms ne Qr Qx nx k n pc lv ([.float x]) h := by
  intro p l e s m args below meth c Fin cz hr hx hzz H locs ls hP hS hL
  subst hne
  exact hr (some (.float x)) h H locs ls pc k n _ hq hP hS hk hn (by rw [cz.1.2.1]; exact hd) (Or.inr (Or.inr (Or.inr (Or.inr (Or.inl ⟨x, rfl, rfl, hty⟩)))))
theorem w_lreturn {x : Int64} (hty : mR M = some .long) (hd : decode (mB M) pc = .ok (.lreturn, 1)) (hne : nx = ne) (hk : k ≤ mc) (hn : n ≤ ms) (hq : Qr (some (.long x)) h) : ww C M d mc ms ne Qr Qx nx k n pc lv ([.long x]) h := by
  intro p l e s m args below meth c Fin cz hr hx hzz H locs ls hP hS hL
  subst hne
  exact hr (some (.long x)) h H locs ls pc k n _ hq hP hS hk hn (by rw [cz.1.2.1]; exact hd) (Or.inr (Or.inr (Or.inr (Or.inr (Or.inr ⟨x, rfl, rfl, hty⟩)))))
end WW
end
section
theorem inws0 : ∀ w ∈ u_ws (cR 0) (cT 0) (cn 0), w ∈ lw_tbl := by decide +kernel
theorem inwg0 : (u_ws (cR 0) (cT 0) (cn 0)).all goodWord = true := by decide +kernel
theorem inws1 : ∀ w ∈ u_ws (cR 1) (cT 1) (cn 1), w ∈ lw_tbl := by decide +kernel
theorem inwg1 : (u_ws (cR 1) (cT 1) (cn 1)).all goodWord = true := by decide +kernel
theorem inws2 : ∀ w ∈ u_ws (cR 2) (cT 2) (cn 2), w ∈ lw_tbl := by decide +kernel
theorem inwg2 : (u_ws (cR 2) (cT 2) (cn 2)).all goodWord = true := by decide +kernel
theorem inws3 : ∀ w ∈ u_ws (cR 3) (cT 3) (cn 3), w ∈ lw_tbl := by decide +kernel
theorem inwg3 : (u_ws (cR 3) (cT 3) (cn 3)).all goodWord = true := by decide +kernel
theorem inws4 : ∀ w ∈ u_ws (cR 4) (cT 4) (cn 4), w ∈ lw_tbl := by decide +kernel
theorem inwg4 : (u_ws (cR 4) (cT 4) (cn 4)).all goodWord = true := by decide +kernel
theorem inws5 : ∀ w ∈ u_ws (cR 5) (cT 5) (cn 5), w ∈ lw_tbl := by decide +kernel
theorem inwg5 : (u_ws (cR 5) (cT 5) (cn 5)).all goodWord = true := by decide +kernel
theorem inws6 : ∀ w ∈ u_ws (cR 6) (cT 6) (cn 6), w ∈ lw_tbl := by decide +kernel
theorem inwg6 : (u_ws (cR 6) (cT 6) (cn 6)).all goodWord = true := by decide +kernel
theorem inws7 : ∀ w ∈ u_ws (cR 7) (cT 7) (cn 7), w ∈ lw_tbl := by decide +kernel
theorem inwg7 : (u_ws (cR 7) (cT 7) (cn 7)).all goodWord = true := by decide +kernel
theorem inws8 : ∀ w ∈ u_ws (cR 8) (cT 8) (cn 8), w ∈ lw_tbl := by decide +kernel
theorem inwg8 : (u_ws (cR 8) (cT 8) (cn 8)).all goodWord = true := by decide +kernel
theorem inws9 : ∀ w ∈ u_ws (cR 9) (cT 9) (cn 9), w ∈ lw_tbl := by decide +kernel
theorem inwg9 : (u_ws (cR 9) (cT 9) (cn 9)).all goodWord = true := by decide +kernel
theorem inws10 : ∀ w ∈ u_ws (cR 10) (cT 10) (cn 10), w ∈ lw_tbl := by decide +kernel
theorem inwg10 : (u_ws (cR 10) (cT 10) (cn 10)).all goodWord = true := by decide +kernel
theorem inws11 : ∀ w ∈ u_ws (cR 11) (cT 11) (cn 11), w ∈ lw_tbl := by decide +kernel
theorem inwg11 : (u_ws (cR 11) (cT 11) (cn 11)).all goodWord = true := by decide +kernel
theorem inws12 : ∀ w ∈ u_ws (cR 12) (cT 12) (cn 12), w ∈ lw_tbl := by decide +kernel
theorem inwg12 : (u_ws (cR 12) (cT 12) (cn 12)).all goodWord = true := by decide +kernel
theorem inws13 : ∀ w ∈ u_ws (cR 13) (cT 13) (cn 13), w ∈ lw_tbl := by decide +kernel
theorem inwg13 : (u_ws (cR 13) (cT 13) (cn 13)).all goodWord = true := by decide +kernel
theorem in_ws : ∀ ci, ci < 14 → ∀ w ∈ u_ws (cR ci) (cT ci) (cn ci), w ∈ lw_all
  | 0, _ => fun w hw => lw_all_mem (inws0 w hw) (List.all_eq_true.mp inwg0 w hw)
  | 1, _ => fun w hw => lw_all_mem (inws1 w hw) (List.all_eq_true.mp inwg1 w hw)
  | 2, _ => fun w hw => lw_all_mem (inws2 w hw) (List.all_eq_true.mp inwg2 w hw)
  | 3, _ => fun w hw => lw_all_mem (inws3 w hw) (List.all_eq_true.mp inwg3 w hw)
  | 4, _ => fun w hw => lw_all_mem (inws4 w hw) (List.all_eq_true.mp inwg4 w hw)
  | 5, _ => fun w hw => lw_all_mem (inws5 w hw) (List.all_eq_true.mp inwg5 w hw)
  | 6, _ => fun w hw => lw_all_mem (inws6 w hw) (List.all_eq_true.mp inwg6 w hw)
  | 7, _ => fun w hw => lw_all_mem (inws7 w hw) (List.all_eq_true.mp inwg7 w hw)
  | 8, _ => fun w hw => lw_all_mem (inws8 w hw) (List.all_eq_true.mp inwg8 w hw)
  | 9, _ => fun w hw => lw_all_mem (inws9 w hw) (List.all_eq_true.mp inwg9 w hw)
  | 10, _ => fun w hw => lw_all_mem (inws10 w hw) (List.all_eq_true.mp inwg10 w hw)
  | 11, _ => fun w hw => lw_all_mem (inws11 w hw) (List.all_eq_true.mp inwg11 w hw)
  | 12, _ => fun w hw => lw_all_mem (inws12 w hw) (List.all_eq_true.mp inwg12 w hw)
  | 13, _ => fun w hw => lw_all_mem (inws13 w hw) (List.all_eq_true.mp inwg13 w hw)
  | (n + 14), h => absurd h (by omega)
theorem cl_ty : ∀ ci, ci < 14 → ∀ k, k < cn ci → parseFieldDescriptor (cT ci k).2.2.1 = some (cty ci k)
  | 0, _ => tyX0_ok
  | 1, _ => tyX1_ok
  | 2, _ => tyX2_ok
  | 3, _ => tyX3_ok
  | 4, _ => tyX4_ok
  | 5, _ => tyX5_ok
  | 6, _ => tyX6_ok
  | 7, _ => tyX7_ok
  | 8, _ => tyX8_ok
  | 9, _ => tyX9_ok
  | 10, _ => tyX10_ok
  | 11, _ => tyX11_ok
  | 12, _ => tyJ0_ok
  | 13, _ => tyJ4_ok
  | (n + 14), h => absurd h (by omega)
theorem cl_nm : ∀ ci, ci < 14 → ∀ a, a < cn ci → ∀ b, b < cn ci → a ≠ b → (cT ci a).2.1 ≠ (cT ci b).2.1
  | 0, _ => nmX0
  | 1, _ => nmX1
  | 2, _ => nmX2
  | 3, _ => nmX3
  | 4, _ => nmX4
  | 5, _ => nmX5
  | 6, _ => nmX6
  | 7, _ => nmX7
  | 8, _ => nmX8
  | 9, _ => nmX9
  | 10, _ => nmX10
  | 11, _ => nmX11
  | 12, _ => nmJ0
  | 13, _ => nmJ4
  | (n + 14), h => absurd h (by omega)
theorem cl_at {ci : Nat} (h : ci < 14) : vwCl[ci]? = some (cR ci, cT ci, cn ci) := by
  unfold cR cT cn
  rw [List.getElem?_eq_getElem (show ci < vwCl.length from h)]
  rfl
theorem shp_cls0 : shL.all (fun x => match x with
  | .inl c => decide (c < 14)
  | .inr _ => true) = true := by decide +kernel
theorem shp_cls {a c : Nat} (h : shp a = some (.inl c)) : c < 14 := by
  have h1 := List.all_eq_true.mp shp_cls0 _ (List.mem_of_getElem? h)
  simpa using h1
theorem shC_cls {C : Cx} {nx : Nat} {h : Hp} {H : Heap} (hP : HPh C nx h H) {a c : Nat} (hs : shC C a = some (.inl c)) : c < 14 := by
  unfold shC at hs
  split at hs
  · exact shp_cls hs
  · exact hP.2.2.2.2.1.2.2 c (List.mem_of_getElem? hs)
theorem hP9 {C : Cx} {nx : Nat} {h : Hp} {H : Heap} (hP : HPh C nx h H) {a : Nat} (ha : a < nx) : a < 1000 := Nat.lt_of_lt_of_le ha (Nat.le_trans hP.2.2.2.2.1.1 hP.2.2.2.2.1.2.1)
theorem HPh_upd {C : Cx} {nx : Nat} {h h' : Hp} {H H1 : Heap} {i : Nat} (hP : HPh C nx h H) (hi : i < nx) (hat : va_at (xD C) vwCl (xB C + i, ce C h' i) H1) (hz : H1.size = H.size) (hq : ∀ q, q ≠ xB C + i → H1[q]? = H[q]?)
    (e1 : ∀ j, j ≠ i → ∀ k, gI h' j k = gI h j k) (e2 : ∀ j, j ≠ i → ∀ k, gR h' j k = gR h j k) (e3 : ∀ j, j ≠ i → ∀ k, gL h' j k = gL h j k) (e4 : ∀ j, j ≠ i → ∀ k, gD h' j k = gD h j k) : HPh C nx h' H1 := by
  obtain ⟨p1, p2, p3, p4, p5, p6⟩ := hP
  have hK : i < KC C := Nat.lt_of_lt_of_le hi p5.1
  have hK2 := p5.2.1
  refine ⟨fun k q hk => ?_, fun j hj k => ?_, by rw [hz]; exact p3, by rw [hz]; exact p4, p5, fun j h1 h2 k => ?_⟩
  · have hl : k < nx := by have := (List.getElem?_eq_some_iff.mp hk).1; rwa [wl_len] at this
    rw [wl_at C nx h' hl] at hk
    cases hk
    by_cases hki : k = i
    · subst hki; exact hat
    · have h0 := p1 k _ (wl_at C nx h hl)
      rw [ce_congr C h h' k (e1 k hki) (e2 k hki) (e3 k hki) (e4 k hki)]
      exact h0.kept (hq _ (fun e => hki (Nat.add_left_cancel e)))
  · rw [e1 j (by omega) k]; exact p2 j hj k
  · rw [e1 j (by omega) k, e2 j (by omega) k, e3 j (by omega) k, e4 j (by omega) k]; exact p6 j h1 h2 k
theorem HPh_len {C : Cx} {nx : Nat} {h : Hp} {H : Heap} (hP : HPh C nx h H) {a : Nat} (ha : a < nx) : a < KC C := Nat.lt_of_lt_of_le ha hP.2.2.2.2.1.1
theorem fv_I {C : Cx} {h : Hp} {i k : Nat} {ty : FieldType} (hty : isI ty = true) : fv C h i k ty = .int (gI h i k) := by
  cases ty <;> first | rfl | cases hty
theorem fv_R {C : Cx} {h : Hp} {i k : Nat} {ty : FieldType} (hty : isR ty = true) : fv C h i k ty = va_rf ((gR h i k).map (ad C)) := by
  cases ty <;> first | rfl | cases hty
theorem fs_at {C : Cx} {h : Hp} {a c f : Nat} (hk : f < cn c) : ((List.range (cn c)).map (fun k => fv C h a k (cty c k)))[f]? = some (fv C h a f (cty c f)) := by
  simp [hk]
section WH
variable {C : Cx} {M : Mk} {d mc ms ne : Nat} {Qr : Option Value → Hp → Prop} {Qx : String → Hp → Prop} {nx k n pc : Nat} {lv lv' : List (Nat × Value)} {st : List Value} {h : Hp}
/-- a field's link -/
def FL (M : Mk) (idx ci f : Nat) : Prop := Cond.fieldLink (mY M).cls idx (cT ci f).1 (cT ci f).2.1 (cT ci f).2.2.1 ∈ lw_all ∧ f < cn ci
def FN (M : Mk) (idx ci f : Nat) : Prop := Cond.fieldLinkNest (mY M).cls idx (cT ci f).1 (cT ci f).2.1 (cT ci f).2.2.1 "HexArbiter" ∈ nw_all ∧ f < cn ci
theorem w_getV (ci f : Nat) {idx a : Nat} {v : Value} (hd : decode (mB M) pc = .ok (.getfield idx, 3)) (hf : FL M idx ci f) (hs : shC C a = some (.inl ci)) (ha : a < nx) (hv : fv C h a f (cty ci f) = up C v)
    (kk : ww C M d mc ms ne Qr Qx nx k n (pc + 3) lv (v :: st) h) : ww C M d mc ms ne Qr Qx nx k n pc lv (.ref a :: st) h := by
  intro p l e s m args below meth c Fin cz hr hx hzz H locs ls hP hS hL
  show W p l e _ s m args below meth c H locs k n Fin (F0 m pc ls (.ref (ad C a) :: st.map (up C)))
  rw [ad_l9 (hP9 hP ha)]
  exact va_get (D := xD C) (cl := vwCl) (ci := ci) (v := up C v) (C := cR ci) (T := cT ci) (N := cn ci) cz.1.1 cz.1.2.1 cz.2.1 (in_ws ci (shC_cls hP hs)) cz.1.2.2.2.2 cz.2.2.2.1.1 hP.1 a (by rw [wl_at C nx h ha, ce_objC C h hs]) (cl_at (shC_cls hP hs)) f hf.2 (cz.2.1 _ hf.1) (fun _ h9 => h9) (by rw [fs_at hf.2, hv]) hd (kk p l e s m args below meth c Fin cz hr hx hzz H locs ls hP hS hL)
theorem w_getVn (ci f : Nat) {idx a : Nat} {v : Value} (hd : decode (mB M) pc = .ok (.getfield idx, 3)) (hf : FN M idx ci f) (hs : shC C a = some (.inl ci)) (ha : a < nx) (hv : fv C h a f (cty ci f) = up C v)
    (kk : ww C M d mc ms ne Qr Qx nx k n (pc + 3) lv (v :: st) h) : ww C M d mc ms ne Qr Qx nx k n pc lv (.ref a :: st) h := by
  intro p l e s m args below meth c Fin cz hr hx hzz H locs ls hP hS hL
  show W p l e _ s m args below meth c H locs k n Fin (F0 m pc ls (.ref (ad C a) :: st.map (up C)))
  rw [ad_l9 (hP9 hP ha)]
  exact va_getN (D := xD C) (cl := vwCl) (ci := ci) (v := up C v) (C := cR ci) (T := cT ci) (N := cn ci) cz.1.1 cz.1.2.1 cz.2.1 (in_ws ci (shC_cls hP hs)) cz.1.2.2.2.2 cz.2.2.2.1.1 hP.1 a (by rw [wl_at C nx h ha, ce_objC C h hs]) (cl_at (shC_cls hP hs)) f hf.2 (va_Nw.use rfl (cz.2.2.2.1.2.1 _ hf.1)) (fun _ h9 => h9) (by rw [fs_at hf.2, hv]) hd (kk p l e s m args below meth c Fin cz hr hx hzz H locs ls hP hS hL)
theorem w_getI (ci f : Nat) {idx a : Nat} (hd : decode (mB M) pc = .ok (.getfield idx, 3)) (hf : FL M idx ci f) (hty : isI (cty ci f) = true) (hs : shC C a = some (.inl ci)) (ha : a < nx)
    (kk : ww C M d mc ms ne Qr Qx nx k n (pc + 3) lv (.int (gI h a f) :: st) h) : ww C M d mc ms ne Qr Qx nx k n pc lv (.ref a :: st) h := w_getV ci f hd hf hs ha (fv_I hty) kk
theorem w_getIn (ci f : Nat) {idx a : Nat} (hd : decode (mB M) pc = .ok (.getfield idx, 3)) (hf : FN M idx ci f) (hty : isI (cty ci f) = true) (hs : shC C a = some (.inl ci)) (ha : a < nx)
    (kk : ww C M d mc ms ne Qr Qx nx k n (pc + 3) lv (.int (gI h a f) :: st) h) : ww C M d mc ms ne Qr Qx nx k n pc lv (.ref a :: st) h := w_getVn ci f hd hf hs ha (fv_I hty) kk
theorem w_getR (ci f : Nat) {idx a b : Nat} (hd : decode (mB M) pc = .ok (.getfield idx, 3)) (hf : FL M idx ci f) (hty : isR (cty ci f) = true) (hs : shC C a = some (.inl ci)) (ha : a < nx) (hb : gR h a f = some b)
    (kk : ww C M d mc ms ne Qr Qx nx k n (pc + 3) lv (.ref b :: st) h) : ww C M d mc ms ne Qr Qx nx k n pc lv (.ref a :: st) h := w_getV ci f hd hf hs ha (by rw [fv_R hty, hb]; rfl) kk
theorem w_getRn (ci f : Nat) {idx a b : Nat} (hd : decode (mB M) pc = .ok (.getfield idx, 3)) (hf : FN M idx ci f) (hty : isR (cty ci f) = true) (hs : shC C a = some (.inl ci)) (ha : a < nx) (hb : gR h a f = some b)
    (kk : ww C M d mc ms ne Qr Qx nx k n (pc + 3) lv (.ref b :: st) h) : ww C M d mc ms ne Qr Qx nx k n pc lv (.ref a :: st) h := w_getVn ci f hd hf hs ha (by rw [fv_R hty, hb]; rfl) kk
theorem w_getL (ci f : Nat) {idx a : Nat} (hd : decode (mB M) pc = .ok (.getfield idx, 3)) (hf : FL M idx ci f) (hty : cty ci f = .long) (hs : shC C a = some (.inl ci)) (ha : a < nx)
    (kk : ww C M d mc ms ne Qr Qx nx k n (pc + 3) lv (.long (gL h a f) :: st) h) : ww C M d mc ms ne Qr Qx nx k n pc lv (.ref a :: st) h := w_getV ci f hd hf hs ha (by rw [hty]; rfl) kk
/-- putfield, whatever the value: h' is h with the field set -/
theorem w_putV (ci f : Nat) {idx a : Nat} {v : Value} {h' : Hp} (hd : decode (mB M) pc = .ok (.putfield idx, 3)) (hs : shC C a = some (.inl ci)) (ha : a < nx)
    (hf : (FL M idx ci f ∧ ((cT ci f).2.2.2 = false ∨ ((cT ci f).2.2.2 = true ∧ (mY M).name = "<init>" ∧ (cT ci f).1 = (mY M).cls))) ∨ (FN M idx ci f ∧ (cT ci f).2.2.2 = false))
    (hn : narrow (cty ci f) (up C v) = up C v) (hfit : fits (cty ci f) (up C v) = true) (hv : fv C h' a f (cty ci f) = up C v) (ho : ∀ j, j ≠ f → fv C h' a j (cty ci j) = fv C h a j (cty ci j))
    (e1 : ∀ j, j ≠ a → ∀ k, gI h' j k = gI h j k) (e2 : ∀ j, j ≠ a → ∀ k, gR h' j k = gR h j k) (e3 : ∀ j, j ≠ a → ∀ k, gL h' j k = gL h j k) (e4 : ∀ j, j ≠ a → ∀ k, gD h' j k = gD h j k)
    (kk : ww C M d mc ms ne Qr Qx nx k n (pc + 3) lv st h') : ww C M d mc ms ne Qr Qx nx k n pc lv (v :: .ref a :: st) h := by
  intro p l e s m args below meth c Fin cz hr hx hzz H locs ls hP hS hL
  show W p l e _ s m args below meth c H locs k n Fin (F0 m pc ls (up C v :: .ref (ad C a) :: st.map (up C)))
  rw [ad_l9 (hP9 hP ha)]
  have hc := shC_cls hP hs
  have hK := cz.2.2.2.1.1
  have hap := va_apart (own := (mY M).cls) cz.2.1 (in_ws ci hc) (cty ci) (cl_ty ci hc) (cl_nm ci hc) hK (cl_at hc)
  have hk : f < cn ci := by
    rcases hf with ⟨h1, -⟩ | ⟨h1, -⟩
    · exact h1.2
    · exact h1.2
  have he : (wl C nx h)[a]? = some (xB C + a, .inr (ci, (List.range (cn ci)).map (fun k => fv C h a k (cty ci k)))) := by rw [wl_at C nx h ha, ce_objC C h hs]
  obtain ⟨r, h1, cell, q1, q2, q3, q4⟩ := hP.1 a _ he
  have hr1 : r = (cR ci, cT ci, cn ci) := Option.some.inj (h1.symm.trans (cl_at hc))
  subst hr1
  obtain ⟨hSl, hfc, kC, hkC, hkind⟩ := hK.1 ci _ (cl_at hc)
  obtain ⟨cf, kf, fi, fd, hi, hsl⟩ := hSl f hk
  have hst := (u_facts hfc hkC (u_lays cz.2.1 (in_ws ci hc) hk) hi).1
  have key : ∀ H' : Heap, H'[xB C + a]? = some (cell.setSlot ((xD C).2 ci f) (up C v)) → H'.size = H.size → (∀ q, q ≠ xB C + a → H'[q]? = H[q]?) → HPh C nx h' H' := by
    intro H' g1 g2 g3
    refine HPh_upd hP ha ?_ g2 g3 e1 e2 e3 e4
    rw [ce_objC C h' hs]
    refine ⟨_, cl_at hc, t_OB.to (V := updV (vp_V ((List.range (cn ci)).map (fun k => fv C h a k (cty ci k)))) f (up C v)) ⟨_, g1, q2, q3, t_set q4 hap hk _⟩ (fun j _ => ?_)⟩
    rw [← fl_set C h h' a ci f (up C v) hk hv ho]
    exact vp_updV_set (by simpa using hk) _ j
  rcases hf with ⟨h1, h2⟩ | ⟨h1, h2⟩
  · rcases h2 with h2 | ⟨h2, h3, h4⟩
    · have hlay := cz.2.1 _ (in_ws ci hc _ (u_in_lay hk))
      unfold u_lay at hlay
      rw [if_neg (by rw [h2]; decide)] at hlay
      have h6 := u_store hfc hkC hkind hlay hi (cl_ty ci hc f hk) hn hfit
      refine W.putK cz.1.1 cz.1.2.1 (f := fd) ⟨cz.1.2.2.2.2, cz.2.1 _ h1.1, ⟨_, _, _, hi⟩, hst⟩ (by rw [q2]; exact h6) q1 q3 (by rw [hsl]; exact k2_hasslot (q4 f hk)) rfl rfl hd fun H' g1 g2 g3 => ?_
      rw [hsl] at g1 ⊢
      exact kk p l e s m args below meth c Fin cz hr hx hzz H' _ ls (key H' g1 g2 g3) (hS.put g2 g3 (Nat.le_add_right _ _)) hL
    · have hlay := cz.2.1 _ (in_ws ci hc _ (u_in_lay hk))
      unfold u_lay at hlay
      rw [if_pos h2] at hlay
      have hcf : m.cls = cf := by
        obtain ⟨_, _, c', _, _, _, -, -, hf', -, -, -, hown2, -⟩ := Cond.laysFinal_spec hlay
        have e9 : c' = cf := by have := hi.symm.trans hf'; simp at this; exact this.1.symm
        rw [h4] at hown2
        rw [← e9]; exact Option.some.inj (cz.1.2.2.2.2.symm.trans hown2)
      have h6 := u_fits hfc hkC hkind (Or.inr hlay) hi (cl_ty ci hc f hk) hn hfit
      refine W.putFinK cz.1.1 cz.1.2.1 cz.1.2.2.2.2 (cz.2.1 _ h1.1) hi hst hcf (by rw [cz.2.2.1.2.1]; exact h3) (by rw [q2]; exact h6) q1 q3 (by rw [hsl]; exact k2_hasslot (q4 f hk)) rfl rfl hd fun H' g1 g2 g3 => ?_
      rw [hsl] at g1 ⊢
      exact kk p l e s m args below meth c Fin cz hr hx hzz H' _ ls (key H' g1 g2 g3) (hS.put g2 g3 (Nat.le_add_right _ _)) hL
  · have hlay := cz.2.1 _ (in_ws ci hc _ (u_in_lay hk))
    unfold u_lay at hlay
    rw [if_neg (by rw [h2]; decide)] at hlay
    have h6 := u_store hfc hkC hkind hlay hi (cl_ty ci hc f hk) hn hfit
    refine va_WputK cz.1.1 cz.1.2.1 (f := fd) cz.1.2.2.2.2 (va_Nw.use rfl (cz.2.2.2.1.2.1 _ h1.1)) hi hst (by rw [q2]; exact h6) q1 q3 (by rw [hsl]; exact k2_hasslot (q4 f hk)) rfl rfl hd fun H' g1 g2 g3 => ?_
    rw [hsl] at g1 ⊢
    exact kk p l e s m args below meth c Fin cz hr hx hzz H' _ ls (key H' g1 g2 g3) (hS.put g2 g3 (Nat.le_add_right _ _)) hL


def putOK (M : Mk) (idx ci f : Nat) : Prop := (FL M idx ci f ∧ ((cT ci f).2.2.2 = false ∨ ((cT ci f).2.2.2 = true ∧ (mY M).name = "<init>" ∧ (cT ci f).1 = (mY M).cls))) ∨ (FN M idx ci f ∧ (cT ci f).2.2.2 = false)
theorem w_putI (ci f : Nat) {idx a : Nat} {x : Int32} (hd : decode (mB M) pc = .ok (.putfield idx, 3)) (hf : putOK M idx ci f) (hty : isI (cty ci f) = true) (hs : shC C a = some (.inl ci)) (ha : a < nx) (hn : narrow (cty ci f) (.int x) = .int x) (hfit : fits (cty ci f) (.int x) = true)
    (kk : ww C M d mc ms ne Qr Qx nx k n (pc + 3) lv st (sI h a f x)) : ww C M d mc ms ne Qr Qx nx k n pc lv (.int x :: .ref a :: st) h := by
  refine w_putV (h' := sI h a f x) ci f hd hs ha hf hn hfit (by rw [fv_I hty, gI_sI, if_pos ⟨rfl, rfl⟩]; rfl) (fun j hj => ?_) (fun j hj k => by rw [gI_sI, if_neg (fun e => hj e.1)]) (fun _ _ _ => rfl) (fun _ _ _ => rfl) (fun _ _ _ => rfl) kk
  unfold fv
  rw [gI_sI, if_neg (fun e => hj e.2)]
  rfl
theorem w_putR (ci f : Nat) {idx a b : Nat} (hd : decode (mB M) pc = .ok (.putfield idx, 3)) (hf : putOK M idx ci f) (hty : isR (cty ci f) = true) (hs : shC C a = some (.inl ci)) (ha : a < nx)
    (kk : ww C M d mc ms ne Qr Qx nx k n (pc + 3) lv st (sR h a f (some b))) : ww C M d mc ms ne Qr Qx nx k n pc lv (.ref b :: .ref a :: st) h := by
  refine w_putV (h' := sR h a f (some b)) ci f hd hs ha hf (by revert hty; cases cty ci f <;> intro hty <;> first | rfl | cases hty) (by revert hty; cases cty ci f <;> intro hty <;> first | rfl | cases hty) (by rw [fv_R hty, gR_sR, if_pos ⟨rfl, rfl⟩]; rfl) (fun j hj => ?_) (fun _ _ _ => rfl) (fun j hj k => by rw [gR_sR, if_neg (fun e => hj e.1)]) (fun _ _ _ => rfl) (fun _ _ _ => rfl) kk
  unfold fv
  rw [gR_sR, if_neg (fun e => hj e.2)]
  rfl
theorem w_putL (ci f : Nat) {idx a : Nat} {x : Int64} (hd : decode (mB M) pc = .ok (.putfield idx, 3)) (hf : putOK M idx ci f) (hty : cty ci f = .long) (hs : shC C a = some (.inl ci)) (ha : a < nx)
    (kk : ww C M d mc ms ne Qr Qx nx k n (pc + 3) lv st (sL h a f x)) : ww C M d mc ms ne Qr Qx nx k n pc lv (.long x :: .ref a :: st) h := by
  refine w_putV (h' := sL h a f x) ci f hd hs ha hf (by rw [hty]; rfl) (by rw [hty]; rfl) (by rw [hty]; show Value.long (gL (sL h a f x) a f) = _; rw [gL_sL, if_pos ⟨rfl, rfl⟩]; rfl) (fun j hj => ?_) (fun _ _ _ => rfl) (fun _ _ _ => rfl) (fun j hj k => by rw [gL_sL, if_neg (fun e => hj e.1)]) (fun _ _ _ => rfl) kk
  unfold fv
  rw [gL_sL, if_neg (fun e => hj e.2)]
  rfl
/-- a row of ints that can be read: a new one, or one of the old ones -/
def isA (C : Cx) (nx a n : Nat) : Prop := (shp a = some (.inr (.int, n)) ∧ a < nx) ∨ (a, n) ∈ roL C
theorem roL_ge {C : Cx} {a n : Nat} (h : (a, n) ∈ roL C) : 1000 ≤ a := by
  simp only [roL, List.mem_cons, Prod.mk.injEq, List.not_mem_nil, or_false] at h
  omega
theorem ad_ge {C : Cx} {i : Nat} (h : 1000 ≤ i) : ad C i = xO C i := by unfold ad; rw [if_neg (by omega)]
theorem w_iald {a m1 : Nat} {i : Int32} (hd : decode (mB M) pc = .ok (.iaload, 1)) (hs : isA C nx a m1) (hi : vp_in i m1)
    (kk : ww C M d mc ms ne Qr Qx nx k n (pc + 1) lv (.int (gI h a i.toNatClampNeg) :: st) h) : ww C M d mc ms ne Qr Qx nx k n pc lv (.int i :: .ref a :: st) h := by
  intro p l e s m args below meth c Fin cz hr hx hzz H locs ls hP hS hL
  show W p l e _ s m args below meth c H locs k n Fin (F0 m pc ls (.int i :: .ref (ad C a) :: st.map (up C)))
  rcases hs with ⟨hs, ha⟩ | ho
  · rw [ad_lt (shp_lt hs)]
    exact va_iald (cl := vwCl) cz.1.1 cz.1.2.1 cz.2.2.2.1.1 hP.1 a 0 (by rw [wl_at C nx h ha, ce_arr C h hs]; rfl) rfl hi hd (kk p l e s m args below meth c Fin cz hr hx hzz H locs ls hP hS hL)
  · have h1000 := roL_ge ho
    rw [ad_ge h1000]
    obtain ⟨cell, g0, g1, g2, g3, g4, g5⟩ := cz.2.2.2.1.2.2.1 _ ho
    have hlt : i.toNatClampNeg < m1 := Nat.not_le.mp fun q => hi (Or.inr q)
    have hH : H[xO C a]? = some cell := by rw [hS.2.1 _ (Array.getElem?_eq_some_iff.mp g1).1 (Nat.not_le.mpr g0)]; exact g1
    have g6 := g5 _ hlt
    rw [← hP.2.1 a h1000] at g6
    exact W.iald (v := .int (gI h a i.toNatClampNeg)) cz.1.1 cz.1.2.1 hH g2 g3 (fun q => hi (q.imp id fun q => Nat.le_trans g4.1 q)) g6 rfl rfl hd (kk p l e s m args below meth c Fin cz hr hx hzz H locs ls hP hS hL)
theorem w_alen {a m1 : Nat} (hd : decode (mB M) pc = .ok (.arraylength, 1)) (hs : isA C nx a m1)
    (kk : ww C M d mc ms ne Qr Qx nx k n (pc + 1) lv (.int (Int32.ofNat m1) :: st) h) : ww C M d mc ms ne Qr Qx nx k n pc lv (.ref a :: st) h := by
  intro p l e s m args below meth c Fin cz hr hx hzz H locs ls hP hS hL
  show W p l e _ s m args below meth c H locs k n Fin (F0 m pc ls (.ref (ad C a) :: st.map (up C)))
  rcases hs with ⟨hs, ha⟩ | ho
  · rw [ad_lt (shp_lt hs)]
    exact va_alen (cl := vwCl) (ty := .int) (x := (m1, ac C h a .int)) cz.1.1 cz.1.2.1 cz.2.2.2.1.1 hP.1 a 0 (by rw [wl_at C nx h ha, ce_arr C h hs]) rfl rfl hd (kk p l e s m args below meth c Fin cz hr hx hzz H locs ls hP hS hL)
  · have h1000 := roL_ge ho
    rw [ad_ge h1000]
    obtain ⟨cell, g0, g1, g2, g3, g4, g5⟩ := cz.2.2.2.1.2.2.1 _ ho
    have hH : H[xO C a]? = some cell := by rw [hS.2.1 _ (Array.getElem?_eq_some_iff.mp g1).1 (Nat.not_le.mpr g0)]; exact g1
    exact W.alen (n := Int32.ofNat m1) cz.1.1 cz.1.2.1 hH g2 g4.2 rfl rfl hd (kk p l e s m args below meth c Fin cz hr hx hzz H locs ls hP hS hL)
/-- the length of a row of references -/
theorem w_alenq {a m1 : Nat} (hd : decode (mB M) pc = .ok (.arraylength, 1)) (hs : shp a = some (.inr (ty_pos, m1))) (ha : a < nx)
    (kk : ww C M d mc ms ne Qr Qx nx k n (pc + 1) lv (.int (Int32.ofNat m1) :: st) h) : ww C M d mc ms ne Qr Qx nx k n pc lv (.ref a :: st) h := by
  intro p l e s m args below meth c Fin cz hr hx hzz H locs ls hP hS hL
  show W p l e _ s m args below meth c H locs k n Fin (F0 m pc ls (.ref (ad C a) :: st.map (up C)))
  rw [ad_lt (shp_lt hs)]
  exact va_alen (cl := vwCl) (ty := ty_pos) (x := (m1, ac C h a ty_pos)) cz.1.1 cz.1.2.1 cz.2.2.2.1.1 hP.1 a 3 (by rw [wl_at C nx h ha, ce_arr C h hs]) rfl rfl hd (kk p l e s m args below meth c Fin cz hr hx hzz H locs ls hP hS hL)
theorem w_bald {a m1 : Nat} {i : Int32} (hd : decode (mB M) pc = .ok (.baload, 1)) (hs : shC C a = some (.inr (.byte, m1))) (ha : a < nx) (hi : vp_in i m1)
    (kk : ww C M d mc ms ne Qr Qx nx k n (pc + 1) lv (.int (gI h a i.toNatClampNeg) :: st) h) : ww C M d mc ms ne Qr Qx nx k n pc lv (.int i :: .ref a :: st) h := by
  intro p l e s m args below meth c Fin cz hr hx hzz H locs ls hP hS hL
  show W p l e _ s m args below meth c H locs k n Fin (F0 m pc ls (.int i :: .ref (ad C a) :: st.map (up C)))
  rw [ad_l9 (hP9 hP ha)]
  exact va_bald (cl := vwCl) cz.1.1 cz.1.2.1 cz.2.2.2.1.1 hP.1 a 2 (by rw [wl_at C nx h ha, ce_arrC C h hs]; rfl) rfl hi hd (kk p l e s m args below meth c Fin cz hr hx hzz H locs ls hP hS hL)
theorem w_zald {a m1 : Nat} {i : Int32} (hd : decode (mB M) pc = .ok (.baload, 1)) (hs : shC C a = some (.inr (.boolean, m1))) (ha : a < nx) (hi : vp_in i m1)
    (kk : ww C M d mc ms ne Qr Qx nx k n (pc + 1) lv (.int (gI h a i.toNatClampNeg) :: st) h) : ww C M d mc ms ne Qr Qx nx k n pc lv (.int i :: .ref a :: st) h := by
  intro p l e s m args below meth c Fin cz hr hx hzz H locs ls hP hS hL
  show W p l e _ s m args below meth c H locs k n Fin (F0 m pc ls (.int i :: .ref (ad C a) :: st.map (up C)))
  rw [ad_l9 (hP9 hP ha)]
  exact va_zald (cl := vwCl) cz.1.1 cz.1.2.1 cz.2.2.2.1.1 hP.1 a 1 (by rw [wl_at C nx h ha, ce_arrC C h hs]; rfl) rfl hi hd (kk p l e s m args below meth c Fin cz hr hx hzz H locs ls hP hS hL)
theorem w_aaldR {a b m1 : Nat} {i : Int32} (hd : decode (mB M) pc = .ok (.aaload, 1)) (hs : shp a = some (.inr (ty_pos, m1))) (ha : a < nx) (hi : vp_in i m1) (hb : gR h a i.toNatClampNeg = some b)
    (kk : ww C M d mc ms ne Qr Qx nx k n (pc + 1) lv (.ref b :: st) h) : ww C M d mc ms ne Qr Qx nx k n pc lv (.int i :: .ref a :: st) h := by
  intro p l e s m args below meth c Fin cz hr hx hzz H locs ls hP hS hL
  show W p l e _ s m args below meth c H locs k n Fin (F0 m pc ls (.int i :: .ref (ad C a) :: st.map (up C)))
  rw [ad_lt (shp_lt hs)]
  refine va_aldq (cl := vwCl) cz.1.1 cz.1.2.1 cz.2.2.2.1.1 hP.1 a 3 (by rw [wl_at C nx h ha, ce_arr C h hs]; rfl) rfl hi hd ?_
  rw [hb]
  exact kk p l e s m args below meth c Fin cz hr hx hzz H locs ls hP hS hL

theorem w_iast {a m1 : Nat} {i : Int32} {x : Int32} (hd : decode (mB M) pc = .ok (.iastore, 1)) (hs : shC C a = some (.inr (.int, m1))) (ha : a < nx) (hi : vp_in i m1)
    (kk : ww C M d mc ms ne Qr Qx nx k n (pc + 1) lv st (sI h a i.toNatClampNeg x)) : ww C M d mc ms ne Qr Qx nx k n pc lv (.int x :: .int i :: .ref a :: st) h := by
  intro p l e s m args below meth c Fin cz hr hx hzz H locs ls hP hS hL
  show W p l e _ s m args below meth c H locs k n Fin (F0 m pc ls (.int x :: .int i :: .ref (ad C a) :: st.map (up C)))
  rw [ad_l9 (hP9 hP ha)]
  have he : (wl C nx h)[a]? = some (xB C + a, .inl (xA C .int, (m1, ac C h a .int))) := by rw [wl_at C nx h ha, ce_arrC C h hs]
  have hc : H[xB C + a]? = some (arrV (xA C .int) m1 (fun j => .int (gI h a j))) := hP.1 a _ he
  refine W.iast cz.1.1 cz.1.2.1 hc ((cz.2.2.2.1.1.2 0 _ rfl).1 m1 _) (fun q => by cases q) (by rw [arrV_size]; exact hi) rfl rfl hd fun H1 e1 z oq => ?_
  refine kk p l e s m args below meth c Fin cz hr hx hzz H1 _ ls (HPh_upd hP ha ?_ z oq (fun j hj k => by rw [gI_sI, if_neg (fun e => hj e.1)]) (fun _ _ _ => rfl) (fun _ _ _ => rfl) (fun _ _ _ => rfl)) (hS.put z oq (Nat.le_add_right _ _)) hL
  rw [ce_arrC C _ hs]
  show H1[xB C + a]? = some (arrV (xA C .int) m1 (fun j => .int (gI (sI h a i.toNatClampNeg x) a j)))
  rw [e1, arrV_store]
  congr 2
  funext q
  rw [gI_sI]
  by_cases hq : q = i.toNatClampNeg
  · subst hq
    simp [updV, vp_nar]
    try rfl
  · simp [updV, hq]
theorem w_zast {a m1 : Nat} {i : Int32} {x : Int32} (hd : decode (mB M) pc = .ok (.bastore, 1)) (hs : shC C a = some (.inr (.boolean, m1))) (ha : a < nx) (hi : vp_in i m1)
    (kk : ww C M d mc ms ne Qr Qx nx k n (pc + 1) lv st (sI h a i.toNatClampNeg (vp_nar .boolean x))) : ww C M d mc ms ne Qr Qx nx k n pc lv (.int x :: .int i :: .ref a :: st) h := by
  intro p l e s m args below meth c Fin cz hr hx hzz H locs ls hP hS hL
  show W p l e _ s m args below meth c H locs k n Fin (F0 m pc ls (.int x :: .int i :: .ref (ad C a) :: st.map (up C)))
  rw [ad_l9 (hP9 hP ha)]
  have he : (wl C nx h)[a]? = some (xB C + a, .inl (xA C .boolean, (m1, ac C h a .boolean))) := by rw [wl_at C nx h ha, ce_arrC C h hs]
  have hc : H[xB C + a]? = some (arrV (xA C .boolean) m1 (fun j => .int (gI h a j))) := hP.1 a _ he
  refine W.zast cz.1.1 cz.1.2.1 hc ((cz.2.2.2.1.1.2 1 _ rfl).1 m1 _) (fun q => by cases q) (by rw [arrV_size]; exact hi) rfl rfl hd fun H1 e1 z oq => ?_
  refine kk p l e s m args below meth c Fin cz hr hx hzz H1 _ ls (HPh_upd hP ha ?_ z oq (fun j hj k => by rw [gI_sI, if_neg (fun e => hj e.1)]) (fun _ _ _ => rfl) (fun _ _ _ => rfl) (fun _ _ _ => rfl)) (hS.put z oq (Nat.le_add_right _ _)) hL
  rw [ce_arrC C _ hs]
  show H1[xB C + a]? = some (arrV (xA C .boolean) m1 (fun j => .int (gI (sI h a i.toNatClampNeg (vp_nar .boolean x)) a j)))
  rw [e1, arrV_store]
  congr 2
  funext q
  rw [gI_sI]
  by_cases hq : q = i.toNatClampNeg
  · subst hq
    simp [updV, vp_nar]
    try rfl
  · simp [updV, hq]
theorem w_bast {a m1 : Nat} {i : Int32} {x : Int32} (hd : decode (mB M) pc = .ok (.bastore, 1)) (hs : shC C a = some (.inr (.byte, m1))) (ha : a < nx) (hi : vp_in i m1)
    (kk : ww C M d mc ms ne Qr Qx nx k n (pc + 1) lv st (sI h a i.toNatClampNeg (vp_nar .byte x))) : ww C M d mc ms ne Qr Qx nx k n pc lv (.int x :: .int i :: .ref a :: st) h := by
  intro p l e s m args below meth c Fin cz hr hx hzz H locs ls hP hS hL
  show W p l e _ s m args below meth c H locs k n Fin (F0 m pc ls (.int x :: .int i :: .ref (ad C a) :: st.map (up C)))
  rw [ad_l9 (hP9 hP ha)]
  have he : (wl C nx h)[a]? = some (xB C + a, .inl (xA C .byte, (m1, ac C h a .byte))) := by rw [wl_at C nx h ha, ce_arrC C h hs]
  have hc : H[xB C + a]? = some (arrV (xA C .byte) m1 (fun j => .int (gI h a j))) := hP.1 a _ he
  refine W.bast cz.1.1 cz.1.2.1 hc ((cz.2.2.2.1.1.2 2 _ rfl).1 m1 _) (fun q => by cases q) (by rw [arrV_size]; exact hi) rfl rfl hd fun H1 e1 z oq => ?_
  refine kk p l e s m args below meth c Fin cz hr hx hzz H1 _ ls (HPh_upd hP ha ?_ z oq (fun j hj k => by rw [gI_sI, if_neg (fun e => hj e.1)]) (fun _ _ _ => rfl) (fun _ _ _ => rfl) (fun _ _ _ => rfl)) (hS.put z oq (Nat.le_add_right _ _)) hL
  rw [ce_arrC C _ hs]
  show H1[xB C + a]? = some (arrV (xA C .byte) m1 (fun j => .int (gI (sI h a i.toNatClampNeg (vp_nar .byte x)) a j)))
  rw [e1, arrV_store]
  congr 2
  funext q
  rw [gI_sI]
  by_cases hq : q = i.toNatClampNeg
  · subst hq
    simp [updV, vp_nar]
    try rfl
  · simp [updV, hq]
end WH
end
section
/-! ===== BEGIN a constructor that throws (launches without stack traces) ===== -/
section VXIA
variable {p : Program} {l : Launch} {e : Env} {R : Room} {s : State} {m : MethodId} {args : Array Value} {below : List Frame} {meth : Method} {c : Code} {T : State} {locs : List Loc} {cells slots : Nat}
theorem vx_callI (X : Stand p l e R s m args below meth c T locs cells slots) (hexec : p.tables.exec = Jvm.exec) {own : String} {index : Nat} {y : MethodName} {bytes : ByteArray} {maxL : Nat}
    (hown : s.vm.findClass own = some m.cls) (hy1 : y.name = "<init>") (hlink : (Cond.methodLink own index y).before args s = true) (hinst : (Cond.instanceMethod y).before args s = true)
    (hcode : (Cond.code y bytes maxL none).before args s = true) (hy : y.cls ≠ "java/lang/invoke/MethodHandle" ∧ y.cls ≠ "java/lang/invoke/VarHandle")
    {W9 : Nat} {Pre : Pt → Array Value → Prop} {Post : Pt → Array Value → Option Value → Pt → Prop} {PostX : Pt → Array Value → Addr → Pt → Prop} (hK : vx_Back l R p e below s args y 3 W9 Pre Post PostX)
    {g : JFrame} (hg : g.method = m) (hsize : g.locals.size = c.maxLocals) {a : Addr} {argsL rest : List Value} (hlen : ∀ sig, parseMethodDescriptor y.desc = some sig → argsL.length = sig.parameters.length)
    (hstack : g.stack = argsL.reverse ++ .ref a :: rest) (hW : 2 * g.monitorRoom + (rest.map fun v => v.category).sum ≤ W9) (hdg : decode c.code g.pc = .ok (.invokespecial index, 3))
    (hpre : ∀ vm₁, s.WarmedH vm₁ → Pre ⟨T.setVm vm₁, locs, cells, slots⟩ (Value.ref a :: argsL).toArray) :
    (∃ (v : Option Value) (vm₁ : Vm) (B : Pt), s.WarmedH vm₁ ∧ Stand p l e R s m args below meth c B.U B.locs B.cells B.slots ∧ Post ⟨T.setVm vm₁, locs, cells, slots⟩ (Value.ref a :: argsL).toArray v B ∧
      ∀ target, Steps p.tables e below (B.U.setTop { g with pc := g.pc + 3, stack := v.toList ++ rest }) target → Steps p.tables e below (T.setTop g) target) ∨
    (∃ (q : Addr) (vm₁ : Vm) (B : Pt), s.WarmedH vm₁ ∧ Stand p l e R s m args below meth c B.U B.locs B.cells B.slots ∧ PostX ⟨T.setVm vm₁, locs, cells, slots⟩ (Value.ref a :: argsL).toArray q B ∧
      Steps p.tables e below (T.setTop g) ((B.U.setTop { g with stack := rest }).pushFrame (.throwing q))) := by
  subst hg
  have hpl : e.platform.magicAccessors = ({} : Platform).magicAccessors := by rw [X.admits.platform]
  obtain ⟨mk, methM, cM, kP, vm₁, hnamed, hmethM, hcodeM, -, hlocalsM, -, hkP, -, hW₁, hstep₁⟩ := Steps.initColdArgs (e := e) X.here hexec X.warmed hpl hown hy1 hy hlink hinst hcode (f := g) rfl hlen hstack hdg
  have X₁ := X.noted hW₁
  rcases hK g.method meth c ⟨T.setVm vm₁, locs, cells, slots⟩ { g with stack := rest } (.invokespecial index) mk (Value.ref a :: argsL).toArray X₁ rfl hsize hdg hW (X₁.named hnamed) (hpre vm₁ X₁.warmed) with ⟨v, B, X', hpost, hsteps⟩ | ⟨q, B, X', hpost, hsteps⟩
  · exact Or.inl ⟨v, vm₁, B, X₁.warmed, X', hpost, fun target h => hstep₁ _ fun acts => by rw [doInvoke_state]; exact hsteps.trans h⟩
  · exact Or.inr ⟨q, vm₁, B, X₁.warmed, X', hpost, hstep₁ _ fun acts => by rw [doInvoke_state]; exact hsteps⟩
end VXIA
section VXIB
variable {p : Program} {l : Launch} {e : Env} {R : Room} {s : State} {m : MethodId} {args : Array Value} {below : List Frame} {meth : Method} {c : Code} {H : Heap} {locs : List Loc} {cells slots : Nat}
variable {y : MethodName} {bytes cc : ByteArray} {maxL nL mc ms n index : Nat} {ret : Option FieldType} {ws : List Cond} {rm : Room} {Pc : Array Value → State → Prop} {Qc : Array Value → State → Outcome → State → Prop} {XC : String → State → State → Prop} {free : Addr → Prop} {Ts : List Cond} {own C : String} {b : Addr} {As rest : List Value} {g : JFrame}
theorem vx_runI (S : CallFix p m c cc nL s args Ts own) (hM : vx_Met l y ws rm Pc Qc XC mc ms free) (cw : CallB R s args own index y bytes maxL none ws rm mc ms n ∧ y.name = "<init>" ∧ (Cond.instanceMethod y).before args s = true) (hp : PreS s H Pc (.ref b :: As))
    (hg : g.method = m) (hn : As.length = n) (hsize : g.locals.size = nL) (hstack : g.stack = As.reverse ++ .ref b :: rest) (hW : 2 * g.monitorRoom + (rest.map fun v => v.category).sum ≤ 8) (hdg : decode cc g.pc = .ok (.invokespecial index, 3)) (hf : cells + mc ≤ R.cells ∧ slots + ms ≤ R.slots) :
    vx_Run p l e R s m args below meth c H locs cells slots mc ms g rest (Qc (Value.ref b :: As).toArray) XC free := by
  have hK : vx_Back l R p e below s args y 3 8 (PreOf R mc ms Pc) (PostOf Qc mc ms free) (vx_Post XC mc ms free) := vx_callBack cw.1 hM hp.1
  obtain ⟨⟨-, -, -, -, -, -, hcode, -, hy, hlen, hl⟩, hy1, hin⟩ := cw
  obtain ⟨hx, hb, hml, ho, -⟩ := S
  have hPc := hp.2
  intro T hT X
  rcases vx_callI X hx (bytes := bytes) (maxL := maxL) ho hy1 hl hin hcode hy hK hg (hsize.trans hml.symm) (a := b) (argsL := As) (rest := rest) (fun sig h => hn.trans (hlen sig h)) hstack hW (by rw [hb]; exact hdg)
    (fun vm₁ hW₁ => ⟨hf.1, hf.2, hPc (T.setVm vm₁) hT hW₁⟩) with ⟨v, vm₁, ⟨U', l2, c2, s2⟩, hW₁, X', ⟨g', mk, t, L, e1, e2, hq, h1, hL, h2, h3⟩, st⟩ | ⟨q, vm₁, ⟨U', l2, c2, s2⟩, hW₁, X', ⟨g', mk, t, L, E, ce, e1, e2, hq, hce, hcv, hcl, h1, hL, h2, h3⟩, st⟩
  · dsimp only [Pt.U, Pt.locs, Pt.cells, Pt.slots] at X' e1 e2 h1 h2 h3 st
    subst h1; subst h2; subst h3
    exact Or.inl ⟨v, (T.setVm vm₁).calling g' mk (Value.ref b :: As).toArray, t, U', L, hT, X', hL, e1, e2, hq, st⟩
  · dsimp only [Pt.U, Pt.locs, Pt.cells, Pt.slots] at X' e1 e2 h1 h2 h3 st hcl
    subst h1; subst h2; subst h3
    exact Or.inr ⟨q, (T.setVm vm₁).calling g' mk (Value.ref b :: As).toArray, t, U', L, E, ce, hT, X', hL, e1, e2, hq, hce, hcv, vx_cls hW₁ hcl, st⟩
end VXIB
/-! ===== END ===== -/
/-! ===== BEGIN a private method of a nest mate that may throw (follows va_callVN, va_callSN, va_runVN, va_runSN) ===== -/
section
variable {p : Program} {l : Launch} {e : Env} {R : Room} {s : State} {m : MethodId} {args : Array Value} {below : List Frame} {meth : Method} {c : Code} {H : Heap} {locs : List Loc} {cells slots : Nat}
variable {T : State}
theorem vx_callVN (X : Stand p l e R s m args below meth c T locs cells slots) (hexec : p.tables.exec = Jvm.exec) {own C : String} {index : Nat} {host : String} {y : MethodName} {bytes : ByteArray} {maxL : Nat} {ret : Option FieldType}
    (hown : s.vm.findClass own = some m.cls) (hlink : (Cond.methodLinkNest own index y host).before args s = true) (hinst : (Cond.instanceMethod y).before args s = true) (hsel : (Cond.selects C y y).before args s = true)
    (hcode : (Cond.code y bytes maxL ret).before args s = true) (hy : y.cls ≠ "java/lang/invoke/MethodHandle" ∧ y.cls ≠ "java/lang/invoke/VarHandle")
    {W : Nat} {Pre : Pt → Array Value → Prop} {Post : Pt → Array Value → Option Value → Pt → Prop} {PostX : Pt → Array Value → Addr → Pt → Prop} (hK : vx_Back l R p e below s args y 3 W Pre Post PostX)
    {b : Addr} {cellB : Cell} (hcell : T.heap[b]? = some cellB) (hobj : cellB.vm.isStatics = false) (hcls : s.vm.findClass C = some cellB.cls)
    {g : JFrame} (hg : g.method = m) (hsize : g.locals.size = c.maxLocals) {argsL rest : List Value} (hlen : ∀ sig, parseMethodDescriptor y.desc = some sig → argsL.length = sig.parameters.length)
    (hstack : g.stack = argsL.reverse ++ .ref b :: rest) (hW : 2 * g.monitorRoom + (rest.map fun v => v.category).sum ≤ W) (hdg : decode c.code g.pc = .ok (.invokevirtual index, 3))
    (hpre : ∀ vm₁, s.WarmedH vm₁ → Pre ⟨T.setVm vm₁, locs, cells, slots⟩ (Value.ref b :: argsL).toArray) :
    (∃ (v : Option Value) (vm₁ : Vm) (B : Pt), s.WarmedH vm₁ ∧ Stand p l e R s m args below meth c B.U B.locs B.cells B.slots ∧ Post ⟨T.setVm vm₁, locs, cells, slots⟩ (Value.ref b :: argsL).toArray v B ∧
      ∀ target, Steps p.tables e below (B.U.setTop { g with pc := g.pc + 3, stack := v.toList ++ rest }) target → Steps p.tables e below (T.setTop g) target) ∨
    (∃ (q : Addr) (vm₁ : Vm) (B : Pt), s.WarmedH vm₁ ∧ Stand p l e R s m args below meth c B.U B.locs B.cells B.slots ∧ PostX ⟨T.setVm vm₁, locs, cells, slots⟩ (Value.ref b :: argsL).toArray q B ∧
      Steps p.tables e below (T.setTop g) ((B.U.setTop { g with stack := rest }).pushFrame (.throwing q))) := by
  obtain ⟨mk, methM, hnamed, hmethM, hstM, habM⟩ := Cond.instanceMethod_spec hinst
  obtain ⟨methM', cM, hmethM', -, -, -, -, -, -, hsigM⟩ := Cond.code_spec hnamed hcode
  cases hmethM.symm.trans hmethM'
  obtain ⟨c2, r2, m2, q1, q2, q3, q4, kP, hkP, hkPi⟩ := Cond.selects_spec hsel
  cases hcls.symm.trans q1
  cases (State.methodFound?_of_named hnamed hy).symm.trans q2
  cases hnamed.symm.trans q3
  have hselP : selectMethod e.platform s.vm cellB.cls mk = .method mk := by rw [Launch.admits_selectMethod X.admits]; exact q4
  obtain ⟨vm₁, X₁, hstep₁⟩ := X.invokevirtualNest hexec hown hlink hnamed hmethM hstM hkP hkPi hy (a := b) (cell := cellB) hcell
    (fun z h => by rw [h] at hobj; cases hobj) hselP hmethM habM hkP hkPi (g := g) hg (argsL := argsL) (rest := rest) (hlen _ hsigM) hstack hdg
  rcases hK m meth c ⟨T.setVm vm₁, locs, cells, slots⟩ { g with stack := rest } (.invokevirtual index) mk (Value.ref b :: argsL).toArray X₁ hg hsize hdg hW (X₁.named hnamed) (hpre vm₁ X₁.warmed) with ⟨v, B, X', hpost, hsteps⟩ | ⟨q, B, X', hpost, hsteps⟩
  · exact Or.inl ⟨v, vm₁, B, X₁.warmed, X', hpost, fun target h => hstep₁ _ fun acts => by rw [doInvoke_state]; exact hsteps.trans h⟩
  · exact Or.inr ⟨q, vm₁, B, X₁.warmed, X', hpost, hstep₁ _ fun acts => by rw [doInvoke_state]; exact hsteps⟩
theorem vx_callSN (X : Stand p l e R s m args below meth c T locs cells slots) (hexec : p.tables.exec = Jvm.exec) {own : String} {index : Nat} {host : String} {y : MethodName} {bytes : ByteArray} {maxL : Nat} {ret : Option FieldType}
    (hown : s.vm.findClass own = some m.cls) (hlink : (Cond.methodLinkNest own index y host).before args s = true) (hstat : (Cond.static y).before args s = true) (hinit : (Cond.initialized y.cls).before args s = true)
    (hcode : (Cond.code y bytes maxL ret).before args s = true) (hy : y.cls ≠ "java/lang/invoke/MethodHandle" ∧ y.cls ≠ "java/lang/invoke/VarHandle")
    {W : Nat} {Pre : Pt → Array Value → Prop} {Post : Pt → Array Value → Option Value → Pt → Prop} {PostX : Pt → Array Value → Addr → Pt → Prop} (hK : vx_Back l R p e below s args y 3 W Pre Post PostX)
    {g : JFrame} (hg : g.method = m) (hsize : g.locals.size = c.maxLocals) {argsL rest : List Value} (hlen : ∀ sig, parseMethodDescriptor y.desc = some sig → argsL.length = sig.parameters.length)
    (hstack : g.stack = argsL.reverse ++ rest) (hW : 2 * g.monitorRoom + (rest.map fun v => v.category).sum ≤ W) (hdg : decode c.code g.pc = .ok (.invokestatic index, 3))
    (hpre : ∀ vm₁, s.WarmedH vm₁ → Pre ⟨T.setVm vm₁, locs, cells, slots⟩ argsL.toArray) :
    (∃ (v : Option Value) (vm₁ : Vm) (B : Pt), s.WarmedH vm₁ ∧ Stand p l e R s m args below meth c B.U B.locs B.cells B.slots ∧ Post ⟨T.setVm vm₁, locs, cells, slots⟩ argsL.toArray v B ∧
      ∀ target, Steps p.tables e below (B.U.setTop { g with pc := g.pc + 3, stack := v.toList ++ rest }) target → Steps p.tables e below (T.setTop g) target) ∨
    (∃ (q : Addr) (vm₁ : Vm) (B : Pt), s.WarmedH vm₁ ∧ Stand p l e R s m args below meth c B.U B.locs B.cells B.slots ∧ PostX ⟨T.setVm vm₁, locs, cells, slots⟩ argsL.toArray q B ∧
      Steps p.tables e below (T.setTop g) ((B.U.setTop { g with stack := rest }).pushFrame (.throwing q))) := by
  obtain ⟨mk, hnamed⟩ := Cond.code_named hcode
  obtain ⟨methM, cM, hmethM, -, -, -, -, -, -, hsigM⟩ := Cond.code_spec hnamed hcode
  have hstatic : methM.isStatic = true := Cond.static_spec hnamed hmethM hstat
  obtain ⟨kP, hkP, -⟩ := className_of_methodNamed hnamed
  have hinitP : kP.init = .initialized := Cond.initialized_spec (findClass_of_methodNamed hnamed) hkP hinit
  obtain ⟨vm₁, X₁, hstep₁⟩ := X.invokestaticNest hexec hown hlink hnamed hmethM hstatic hkP hinitP hy (g := g) hg (argsL := argsL) (rest := rest) (hlen _ hsigM) hstack hdg
  rcases hK m meth c ⟨T.setVm vm₁, locs, cells, slots⟩ { g with stack := rest } (.invokestatic index) mk argsL.toArray X₁ hg hsize hdg hW (X₁.named hnamed) (hpre vm₁ X₁.warmed) with ⟨v, B, X', hpost, hsteps⟩ | ⟨q, B, X', hpost, hsteps⟩
  · exact Or.inl ⟨v, vm₁, B, X₁.warmed, X', hpost, fun target h => hstep₁ _ fun acts => by rw [doInvoke_state]; exact hsteps.trans h⟩
  · exact Or.inr ⟨q, vm₁, B, X₁.warmed, X', hpost, hstep₁ _ fun acts => by rw [doInvoke_state]; exact hsteps⟩
theorem vx_runVN {y : MethodName} {bytes cc : ByteArray} {maxL nL mc ms n index : Nat} {ret : Option FieldType} {ws : List Cond} {rm : Room} {Pc : Array Value → State → Prop} {Qc : Array Value → State → Outcome → State → Prop} {XC : String → State → State → Prop} {free : Addr → Prop} {Ts : List Cond} {own C host : String} {b : Addr} {As rest : List Value} {g : JFrame}
    (S : CallFix p m c cc nL s args Ts own) (hM : vx_Met l y ws rm Pc Qc XC mc ms free) (cw : va_CN R s args own index y host bytes maxL ret ws rm mc ms n ∧ (Cond.instanceMethod y).before args s = true ∧ (Cond.selects C y y).before args s = true) (hp : PreV s H C b Pc As)
    (hg : g.method = m) (hn : As.length = n) (hsize : g.locals.size = nL) (hstack : g.stack = As.reverse ++ .ref b :: rest) (hW : 2 * g.monitorRoom + (rest.map fun v => v.category).sum ≤ 8) (hdg : decode cc g.pc = .ok (.invokevirtual index, 3)) (hf : cells + mc ≤ R.cells ∧ slots + ms ≤ R.slots) :
    vx_Run p l e R s m args below meth c H locs cells slots mc ms g rest (Qc (Value.ref b :: As).toArray) XC free := by
  obtain ⟨⟨⟨hrc, hrs, hfr, hlo, hws, hcw⟩, hcode, hini, hy, hlen, hl⟩, hx1, hx2⟩ := cw
  have hK : vx_Back l R p e below s args y 3 8 (PreOf R mc ms Pc) (PostOf Qc mc ms free) (vx_Post XC mc ms free) := vx_back (bytes := bytes) (maxL := maxL) (ret := ret) hM hp.1 hrc hrs hfr hlo hws hcw (fun a' U hW => word_at hW (Or.inl (by first | rfl | simp [Cond.onTables, Cond.keeps, Cond.steady])) hini)
  obtain ⟨hx, hb, hml, ho, -⟩ := S
  obtain ⟨-, ⟨cellB, hcB, hoB, hclB⟩, hPc⟩ := hp
  intro T hT X
  rcases vx_callVN X hx (C := C) (bytes := bytes) (maxL := maxL) (ret := ret) ho hl hx1 hx2 hcode hy hK (by rw [hT]; exact hcB) hoB hclB hg (hsize.trans hml.symm) (argsL := As) (rest := rest) (fun sig h => hn.trans (hlen sig h)) hstack hW (by rw [hb]; exact hdg)
    (fun vm₁ hW₁ => ⟨hf.1, hf.2, hPc (T.setVm vm₁) hT hW₁⟩) with ⟨v, vm₁, ⟨U', l2, c2, s2⟩, hW₁, X', ⟨g', mk, t, L, e1, e2, hq, h1, hL, h2, h3⟩, st⟩ | ⟨q, vm₁, ⟨U', l2, c2, s2⟩, hW₁, X', ⟨g', mk, t, L, E, ce, e1, e2, hq, hce, hcv, hcl, h1, hL, h2, h3⟩, st⟩
  · dsimp only [Pt.U, Pt.locs, Pt.cells, Pt.slots] at X' e1 e2 h1 h2 h3 st
    subst h1; subst h2; subst h3
    exact Or.inl ⟨v, (T.setVm vm₁).calling g' mk (Value.ref b :: As).toArray, t, U', L, hT, X', hL, e1, e2, hq, st⟩
  · dsimp only [Pt.U, Pt.locs, Pt.cells, Pt.slots] at X' e1 e2 h1 h2 h3 st hcl
    subst h1; subst h2; subst h3
    exact Or.inr ⟨q, (T.setVm vm₁).calling g' mk (Value.ref b :: As).toArray, t, U', L, E, ce, hT, X', hL, e1, e2, hq, hce, hcv, vx_cls hW₁ hcl, st⟩
theorem vx_runSN {y : MethodName} {bytes cc : ByteArray} {maxL nL mc ms n index : Nat} {ret : Option FieldType} {ws : List Cond} {rm : Room} {Pc : Array Value → State → Prop} {Qc : Array Value → State → Outcome → State → Prop} {XC : String → State → State → Prop} {free : Addr → Prop} {Ts : List Cond} {own host : String} {As rest : List Value} {g : JFrame}
    (S : CallFix p m c cc nL s args Ts own) (hM : vx_Met l y ws rm Pc Qc XC mc ms free) (cw : va_CN R s args own index y host bytes maxL ret ws rm mc ms n ∧ (Cond.static y).before args s = true ∧ True) (hp : PreS s H Pc As)
    (hg : g.method = m) (hn : As.length = n) (hsize : g.locals.size = nL) (hstack : g.stack = As.reverse ++ rest) (hW : 2 * g.monitorRoom + (rest.map fun v => v.category).sum ≤ 8) (hdg : decode cc g.pc = .ok (.invokestatic index, 3)) (hf : cells + mc ≤ R.cells ∧ slots + ms ≤ R.slots) :
    vx_Run p l e R s m args below meth c H locs cells slots mc ms g rest (Qc As.toArray) XC free := by
  obtain ⟨⟨⟨hrc, hrs, hfr, hlo, hws, hcw⟩, hcode, hini, hy, hlen, hl⟩, hx1, hx2⟩ := cw
  have hK : vx_Back l R p e below s args y 3 8 (PreOf R mc ms Pc) (PostOf Qc mc ms free) (vx_Post XC mc ms free) := vx_back (bytes := bytes) (maxL := maxL) (ret := ret) hM hp.1 hrc hrs hfr hlo hws hcw (fun a' U hW => word_at hW (Or.inl (by first | rfl | simp [Cond.onTables, Cond.keeps, Cond.steady])) hini)
  obtain ⟨hx, hb, hml, ho, -⟩ := S
  have hPc := hp.2
  intro T hT X
  rcases vx_callSN X hx (bytes := bytes) (maxL := maxL) (ret := ret) ho hl hx1 hini hcode hy hK hg (hsize.trans hml.symm) (argsL := As) (rest := rest) (fun sig h => hn.trans (hlen sig h)) hstack hW (by rw [hb]; exact hdg)
    (fun vm₁ hW₁ => ⟨hf.1, hf.2, hPc (T.setVm vm₁) hT hW₁⟩) with ⟨v, vm₁, ⟨U', l2, c2, s2⟩, hW₁, X', ⟨g', mk, t, L, e1, e2, hq, h1, hL, h2, h3⟩, st⟩ | ⟨q, vm₁, ⟨U', l2, c2, s2⟩, hW₁, X', ⟨g', mk, t, L, E, ce, e1, e2, hq, hce, hcv, hcl, h1, hL, h2, h3⟩, st⟩
  · dsimp only [Pt.U, Pt.locs, Pt.cells, Pt.slots] at X' e1 e2 h1 h2 h3 st
    subst h1; subst h2; subst h3
    exact Or.inl ⟨v, (T.setVm vm₁).calling g' mk As.toArray, t, U', L, hT, X', hL, e1, e2, hq, st⟩
  · dsimp only [Pt.U, Pt.locs, Pt.cells, Pt.slots] at X' e1 e2 h1 h2 h3 st hcl
    subst h1; subst h2; subst h3
    exact Or.inr ⟨q, (T.setVm vm₁).calling g' mk As.toArray, t, U', L, E, ce, hT, X', hL, e1, e2, hq, hce, hcv, vx_cls hW₁ hcl, st⟩
end
/-! ===== END ===== -/
end
section
theorem goodAll {ws : List Cond} (h : ∀ w ∈ ws, w ∈ lw_all) : GoodIn lw_all ws := fun w hw => ⟨h w hw, good_of_word (lw_all_good (h w hw))⟩
theorem mW_sub {M : Mk} (h : Cond.code (mY M) (mB M) (mL M) (mR M) ∈ lw_all) : ∀ w ∈ mW M, w ∈ lw_all := fun w hw => (List.mem_cons.mp hw).elim (fun e => e ▸ h) id
/-- a call's link and the callee's code -/
def LK0 (M' : Mk) (na : Nat) : Prop := Cond.initialized (mY M').cls ∈ lw_all ∧ Cond.code (mY M') (mB M') (mL M') (mR M') ∈ lw_all ∧ ((mY M').cls ≠ "java/lang/invoke/MethodHandle" ∧ (mY M').cls ≠ "java/lang/invoke/VarHandle" ∧ (parseMethodDescriptor (mY M').desc).map (fun d => d.parameters.length) = some na) ∧ mL M' ≤ 51
def LKV (M M' : Mk) (idx na : Nat) : Prop := LK0 M' na ∧ Cond.methodLink (mY M).cls idx (mY M') ∈ lw_all ∧ Cond.instanceMethod (mY M') ∈ lw_all ∧ Cond.selects (mY M').cls (mY M') (mY M') ∈ lw_all
def LKS (M M' : Mk) (idx na : Nat) : Prop := LK0 M' na ∧ Cond.methodLink (mY M).cls idx (mY M') ∈ lw_all ∧ Cond.static (mY M') ∈ lw_all ∧ (mY M').cls = (mY M).cls
def LKT (M M' : Mk) (idx na : Nat) : Prop := LK0 M' na ∧ Cond.methodLink (mY M).cls idx (mY M') ∈ lw_all ∧ Cond.static (mY M') ∈ lw_all
def LKN (M M' : Mk) (idx na : Nat) : Prop := LK0 M' na ∧ Cond.methodLinkNest (mY M).cls idx (mY M') "HexArbiter" ∈ nw_all ∧ Cond.static (mY M') ∈ lw_all
def LKI (M M' : Mk) (idx na : Nat) : Prop := LK0 M' na ∧ Cond.methodLink (mY M).cls idx (mY M') ∈ lw_all ∧ Cond.instanceMethod (mY M') ∈ lw_all ∧ (mY M').name = "<init>" ∧ mR M' = none
theorem PB_blind {C : Cx} {nx : Nat} {h : Hp} {av : List Value} : FrameBlind (va_Pc av (PB C nx h)) := fun a U g mk q => by
  obtain ⟨q1, q2, q3, q4⟩ := q
  exact ⟨q1, (St.same (u := U) (U := U.calling g mk a) rfl q2 : St C (U.calling g mk a) U.heap), q3, q4⟩
theorem PB_now {C : Cx} {M : Mk} {nx : Nat} {h : Hp} {p : Program} {l : Launch} {s : State} {m : MethodId} {args : Array Value} {meth : Method} {c : Code} {H : Heap} {locs : List Loc} (cz : Cz C M p l s m args meth c) (hP : HPh C nx h H) (hS : va_S (xAl C) s.heap H locs) :
    ∀ U : State, U.heap = H → s.WarmedH U.vm → PB C nx h U := by
  intro U hU hW
  subst hU
  exact ⟨(cz.2.2.2.1.warm hW).kept hS.2.1, hP, Nat.le_trans cz.2.2.2.2 hS.1⟩
theorem up_app (C : Cx) (v : Option Value) (st : List Value) : (v.map (up C)).toList ++ st.map (up C) = (v.toList ++ st).map (up C) := by
  cases v <;> rfl
theorem up_sum (C : Cx) (st : List Value) : ((st.map (up C)).map fun v => v.category).sum = (st.map fun v => v.category).sum := by
  rw [List.map_map]
  congr 1
  exact List.map_congr_left fun v _ => up_cat C v
section WC
variable {C : Cx} {M : Mk} {d mc ms ne : Nat} {Qr : Option Value → Hp → Prop} {Qx : String → Hp → Prop} {nx k n pc : Nat} {lv lv' : List (Nat × Value)} {st : List Value} {h : Hp}
theorem hx_fin {p : Program} {l : Launch} {e : Env} {R : Room} {s : State} {m : MethodId} {args : Array Value} {below : List Frame} {meth : Method} {c : Code} {H : Heap} {locs : List Loc} {cells slots mc' ms' : Nat} {Q : State → Prop} {pc : Nat} {ls : Array Slot} {st0 rest : List Value} {a : Array Value} {ne' : Nat} {Qr' : Option Value → Hp → Prop} {Qx' : String → Hp → Prop}
    (hr : vx_Run p l e R s m args below meth c H locs cells slots mc' ms' (F0 m pc ls st0) rest (QC C ne' Qr' a) (XC C ne' Qx') (xAl C)) (hS : va_S (xAl C) s.heap H locs)
    (kx : ∀ (E : String) (ce : Cell) (q : Addr) (h' : Hp) (H1 : Heap) (locs1 : List Loc), Qx' E h' → HPh C ne' h' H1 → va_S (xAl C) s.heap H1 locs1 → H1[q]? = some ce → ce.vm = .none → s.vm.findClass E = some ce.cls → vx_W p l e R s m args below meth c H1 locs1 (cells + mc') (slots + ms') Q (F0 m pc ls rest) q)
    (kk : ∀ (v : Option Value) (h' : Hp) (H1 : Heap) (locs1 : List Loc), Qr' v h' → HPh C ne' h' H1 → va_S (xAl C) s.heap H1 locs1 → W p l e R s m args below meth c H1 locs1 (cells + mc') (slots + ms') Q (F0 m (pc + 3) ls ((v.map (up C)).toList ++ rest))) :
    W p l e R s m args below meth c H locs cells slots Q (F0 m pc ls st0) := by
  intro T hT X
  rcases hr T hT X with ⟨v, st₀, t, T', L, h0, X', hL, e1, e2, ⟨v', h', hv, hq, hP, hF⟩, st⟩ | ⟨q, st₀, t, T', L, E, ce, h0, X', hL, e1, e2, ⟨h', hq, hP, hF⟩, hce, hcv, hcl, st⟩
  · cases hv
    obtain ⟨k1, k2, k3⟩ := vx_keep h0 e1 hS (fun q _ z => z) (fun q z => z) hL hF
    obtain ⟨t2, a1, b1⟩ := kk v' h' T'.heap (locs ++ L) hq (by rw [e1]; exact hP) k3 T' rfl X'
    exact ⟨t2, st t2 a1, b1⟩
  · obtain ⟨k1, k2, k3⟩ := vx_keep h0 e1 hS (fun q _ z => z) (fun q z => z) hL hF
    obtain ⟨t2, a1, b1⟩ := kx E ce q h' T'.heap (locs ++ L) hq (by rw [e1]; exact hP) k3 (by rw [e1]; exact hce) hcv hcl T' rfl X'
    exact ⟨t2, st.trans a1, b1⟩
/-- what may be done with an exception that a call lets out: nothing comes, or it goes on to the caller -/
def XOK (M : Mk) (Qx' Qx : String → Hp → Prop) (ne' ne : Nat) : Prop := (∀ E h', ¬ Qx' E h') ∨ ((∀ E h', Qx' E h' → Qx E h') ∧ ne' = ne ∧ mH M = [])
theorem XOK.no {M : Mk} {Qx : String → Hp → Prop} {ne' ne : Nat} : XOK M (fun _ _ => False) Qx ne' ne := Or.inl fun _ _ q => q

theorem w_callV (M' : Mk) (As : List Value) {idx d' mc' ms' ne' b ci : Nat} {Qr' : Option Value → Hp → Prop} {Qx' : String → Hp → Prop} (hd : decode (mB M) pc = .ok (.invokevirtual idx, 3)) (hlk : LKV M M' idx As.length) (hb : b < nx) (hs : shC C b = some (.inl ci)) (hci : cR ci = (mY M').cls) (hdd : d' + 1 ≤ d) (hk : k + mc' ≤ mc) (hn : n + ms' ≤ ms) (hw : (st.map fun v => v.category).sum ≤ 8)
    (hm : mm C M' d' mc' ms' nx ne' (.ref b :: As) h Qr' Qx') (hxx : XOK M Qx' Qx ne' ne)
    (kk : ∀ v h', Qr' v h' → ww C M d mc ms ne Qr Qx ne' (k + mc') (n + ms') (pc + 3) lv (v.toList ++ st) h') : ww C M d mc ms ne Qr Qx nx k n pc lv (As.reverse ++ .ref b :: st) h := by
  intro p l e s m args below meth c Fin cz hr hx hzz H locs ls hP hS hL
  have hrm : (rmF d' mc' ms').frames + 1 ≤ (rmF d mc ms).frames ∧ 8 + (mL M' + 11) + (rmF d' mc' ms').locals ≤ (rmF d mc ms).locals := ⟨hdd, by
    have := hlk.1.2.2.2
    show 8 + (mL M' + 11) + 70 * d' ≤ 70 * d
    omega⟩
  have hG : GoodIn lw_all (mW M') := goodAll (mW_sub hlk.1.2.1)
  have hout : ∀ (E : String) (ce : Cell) (q : Addr) (h' : Hp) (H1 : Heap) (locs1 : List Loc), Qx' E h' → HPh C ne' h' H1 → va_S (xAl C) s.heap H1 locs1 → H1[q]? = some ce → ce.vm = .none → s.vm.findClass E = some ce.cls → vx_W p l e (rmF d mc ms) s m args below meth c H1 locs1 (k + mc') (n + ms') Fin (F0 m pc ls (st.map (up C))) q := by
    intro E ce q h' H1 locs1 g1 g2 g3 g4 g5 g6
    rcases hxx with hxx | ⟨f1, f2, f3⟩
    · exact absurd g1 (hxx E h')
    · subst f2
      refine hx E ce q h' H1 locs1 ls _ pc _ _ (f1 _ _ g1) g2 g3 hk hn (fun x hx9 => ?_) g4 g5 g6
      rw [cz.2.2.1.2.2.2, f3] at hx9
      cases hx9
  have hcont : ∀ (v : Option Value) (h' : Hp) (H1 : Heap) (locs1 : List Loc), Qr' v h' → HPh C ne' h' H1 → va_S (xAl C) s.heap H1 locs1 → W p l e (rmF d mc ms) s m args below meth c H1 locs1 (k + mc') (n + ms') Fin (F0 m (pc + 3) ls ((v.map (up C)).toList ++ st.map (up C))) := by
    intro v h' H1 locs1 g1 g2 g3
    rw [up_app]
    exact kk v h' g1 p l e s m args below meth c Fin cz hr hx hzz H1 locs1 ls g2 g3 hL
  have hfix : CallFix p m c (mB M) (mL M) s args lw_all (mY M).cls := ⟨cz.1.1, cz.1.2.1, cz.1.2.2.2.1, cz.1.2.2.2.2, cz.2.1⟩
  have hG2 : GoodIn lw_all (wsV (mY M).cls idx (mY M').cls (mY M') (mW M')) := by
    refine goodAll fun w hw9 => ?_
    simp only [wsV, List.mem_append, List.mem_cons, List.not_mem_nil, or_false] at hw9
    rcases hw9 with (rfl | rfl | rfl | rfl) | hw9
    · exact hlk.2.1
    · exact hlk.2.2.1
    · exact hlk.2.2.2
    · exact hlk.1.1
    · exact mW_sub hlk.1.2.1 w hw9
  have hcw := cwV (ret := mR M') (rm := rmF d' mc' ms') (R := rmF d mc ms) (mc := mc') (ms := ms') (maxL := mL M') (bytes := mB M') As.length cz.2.1 hG2 rfl rfl rfl ⟨rfl, hlk.1.2.2.1⟩ hrm
  refine hx_fin (vx_runV (As := As.map (up C)) (rest := st.map (up C)) hfix (hm l cz.2.2.1.2.2.1) hcw ⟨PB_blind, by
    have h9 := va_recv cz.2.2.2.1.1 hP.1 (cl_at (shC_cls hP hs)) (by rw [wl_at C nx h hb, ce_objC C h hs] : (wl C nx h)[b]? = some (xB C + b, _))
    rw [← hci, show ad C b = xB C + b from ad_l9 (hP9 hP hb)]
    exact h9, fun U hU hW9 => ⟨rfl, PB_now cz hP hS U hU hW9⟩⟩ rfl (List.length_map ..) hL.1 (by show (As.reverse ++ .ref b :: st).map (up C) = _; rw [List.map_append, List.map_reverse]; rfl) (lv_room (by rw [up_sum]; exact hw)) hd ⟨hk, hn⟩) hS hout hcont
theorem w_callS (M' : Mk) (As : List Value) {idx d' mc' ms' ne' : Nat} {Qr' : Option Value → Hp → Prop} {Qx' : String → Hp → Prop} (hd : decode (mB M) pc = .ok (.invokestatic idx, 3)) (hlk : LKS M M' idx As.length) (hdd : d' + 1 ≤ d) (hk : k + mc' ≤ mc) (hn : n + ms' ≤ ms) (hw : (st.map fun v => v.category).sum ≤ 8)
    (hm : mm C M' d' mc' ms' nx ne' (As) h Qr' Qx') (hxx : XOK M Qx' Qx ne' ne)
    (kk : ∀ v h', Qr' v h' → ww C M d mc ms ne Qr Qx ne' (k + mc') (n + ms') (pc + 3) lv (v.toList ++ st) h') : ww C M d mc ms ne Qr Qx nx k n pc lv (As.reverse ++ st) h := by
  intro p l e s m args below meth c Fin cz hr hx hzz H locs ls hP hS hL
  have hrm : (rmF d' mc' ms').frames + 1 ≤ (rmF d mc ms).frames ∧ 8 + (mL M' + 11) + (rmF d' mc' ms').locals ≤ (rmF d mc ms).locals := ⟨hdd, by
    have := hlk.1.2.2.2
    show 8 + (mL M' + 11) + 70 * d' ≤ 70 * d
    omega⟩
  have hG : GoodIn lw_all (mW M') := goodAll (mW_sub hlk.1.2.1)
  have hout : ∀ (E : String) (ce : Cell) (q : Addr) (h' : Hp) (H1 : Heap) (locs1 : List Loc), Qx' E h' → HPh C ne' h' H1 → va_S (xAl C) s.heap H1 locs1 → H1[q]? = some ce → ce.vm = .none → s.vm.findClass E = some ce.cls → vx_W p l e (rmF d mc ms) s m args below meth c H1 locs1 (k + mc') (n + ms') Fin (F0 m pc ls (st.map (up C))) q := by
    intro E ce q h' H1 locs1 g1 g2 g3 g4 g5 g6
    rcases hxx with hxx | ⟨f1, f2, f3⟩
    · exact absurd g1 (hxx E h')
    · subst f2
      refine hx E ce q h' H1 locs1 ls _ pc _ _ (f1 _ _ g1) g2 g3 hk hn (fun x hx9 => ?_) g4 g5 g6
      rw [cz.2.2.1.2.2.2, f3] at hx9
      cases hx9
  have hcont : ∀ (v : Option Value) (h' : Hp) (H1 : Heap) (locs1 : List Loc), Qr' v h' → HPh C ne' h' H1 → va_S (xAl C) s.heap H1 locs1 → W p l e (rmF d mc ms) s m args below meth c H1 locs1 (k + mc') (n + ms') Fin (F0 m (pc + 3) ls ((v.map (up C)).toList ++ st.map (up C))) := by
    intro v h' H1 locs1 g1 g2 g3
    rw [up_app]
    exact kk v h' g1 p l e s m args below meth c Fin cz hr hx hzz H1 locs1 ls g2 g3 hL
  have hfix : CallFix p m c (mB M) (mL M) s args lw_all (mY M).cls := ⟨cz.1.1, cz.1.2.1, cz.1.2.2.2.1, cz.1.2.2.2.2, cz.2.1⟩
  have hG2 : GoodIn lw_all (wsS (mY M).cls idx (mY M') (mW M')) := by
    refine goodAll fun w hw9 => ?_
    simp only [wsS, List.mem_append, List.mem_cons, List.not_mem_nil, or_false] at hw9
    rcases hw9 with (rfl | rfl | rfl) | hw9
    · exact hlk.2.1
    · exact hlk.2.2.1
    · rw [← hlk.2.2.2]; exact hlk.1.1
    · exact mW_sub hlk.1.2.1 w hw9
  have hcw := cwS (ret := mR M') (rm := rmF d' mc' ms') (R := rmF d mc ms) (mc := mc') (ms := ms') (maxL := mL M') (bytes := mB M') As.length cz.2.1 hG2 rfl rfl rfl ⟨hlk.2.2.2, hlk.1.2.2.1⟩ hrm
  refine hx_fin (vx_runS (As := As.map (up C)) (rest := st.map (up C)) hfix (hm l cz.2.2.1.2.2.1) hcw ⟨PB_blind, fun U hU hW9 => ⟨rfl, PB_now cz hP hS U hU hW9⟩⟩ rfl (List.length_map ..) hL.1 (by show (As.reverse ++ st).map (up C) = _; rw [List.map_append, List.map_reverse]) (lv_room (by rw [up_sum]; exact hw)) hd ⟨hk, hn⟩) hS hout hcont
theorem w_callT (M' : Mk) (As : List Value) {idx d' mc' ms' ne' : Nat} {Qr' : Option Value → Hp → Prop} {Qx' : String → Hp → Prop} (hd : decode (mB M) pc = .ok (.invokestatic idx, 3)) (hlk : LKT M M' idx As.length) (hdd : d' + 1 ≤ d) (hk : k + mc' ≤ mc) (hn : n + ms' ≤ ms) (hw : (st.map fun v => v.category).sum ≤ 8)
    (hm : mm C M' d' mc' ms' nx ne' (As) h Qr' Qx') (hxx : XOK M Qx' Qx ne' ne)
    (kk : ∀ v h', Qr' v h' → ww C M d mc ms ne Qr Qx ne' (k + mc') (n + ms') (pc + 3) lv (v.toList ++ st) h') : ww C M d mc ms ne Qr Qx nx k n pc lv (As.reverse ++ st) h := by
  intro p l e s m args below meth c Fin cz hr hx hzz H locs ls hP hS hL
  have hrm : (rmF d' mc' ms').frames + 1 ≤ (rmF d mc ms).frames ∧ 8 + (mL M' + 11) + (rmF d' mc' ms').locals ≤ (rmF d mc ms).locals := ⟨hdd, by
    have := hlk.1.2.2.2
    show 8 + (mL M' + 11) + 70 * d' ≤ 70 * d
    omega⟩
  have hG : GoodIn lw_all (mW M') := goodAll (mW_sub hlk.1.2.1)
  have hout : ∀ (E : String) (ce : Cell) (q : Addr) (h' : Hp) (H1 : Heap) (locs1 : List Loc), Qx' E h' → HPh C ne' h' H1 → va_S (xAl C) s.heap H1 locs1 → H1[q]? = some ce → ce.vm = .none → s.vm.findClass E = some ce.cls → vx_W p l e (rmF d mc ms) s m args below meth c H1 locs1 (k + mc') (n + ms') Fin (F0 m pc ls (st.map (up C))) q := by
    intro E ce q h' H1 locs1 g1 g2 g3 g4 g5 g6
    rcases hxx with hxx | ⟨f1, f2, f3⟩
    · exact absurd g1 (hxx E h')
    · subst f2
      refine hx E ce q h' H1 locs1 ls _ pc _ _ (f1 _ _ g1) g2 g3 hk hn (fun x hx9 => ?_) g4 g5 g6
      rw [cz.2.2.1.2.2.2, f3] at hx9
      cases hx9
  have hcont : ∀ (v : Option Value) (h' : Hp) (H1 : Heap) (locs1 : List Loc), Qr' v h' → HPh C ne' h' H1 → va_S (xAl C) s.heap H1 locs1 → W p l e (rmF d mc ms) s m args below meth c H1 locs1 (k + mc') (n + ms') Fin (F0 m (pc + 3) ls ((v.map (up C)).toList ++ st.map (up C))) := by
    intro v h' H1 locs1 g1 g2 g3
    rw [up_app]
    exact kk v h' g1 p l e s m args below meth c Fin cz hr hx hzz H1 locs1 ls g2 g3 hL
  have hfix : CallFix p m c (mB M) (mL M) s args lw_all (mY M).cls := ⟨cz.1.1, cz.1.2.1, cz.1.2.2.2.1, cz.1.2.2.2.2, cz.2.1⟩
  have hG2 : GoodIn lw_all (va_wsS (mY M).cls idx (mY M') (mW M')) := by
    refine goodAll fun w hw9 => ?_
    simp only [va_wsS, List.mem_append, List.mem_cons, List.not_mem_nil, or_false] at hw9
    rcases hw9 with (rfl | rfl | rfl) | hw9
    · exact hlk.2.1
    · exact hlk.2.2
    · exact hlk.1.1
    · exact mW_sub hlk.1.2.1 w hw9
  have hcw := va_cwS (ret := mR M') (rm := rmF d' mc' ms') (R := rmF d mc ms) (mc := mc') (ms := ms') (maxL := mL M') (bytes := mB M') As.length cz.2.1 hG2 rfl rfl rfl hlk.1.2.2.1 hrm
  refine hx_fin (vx_runS (As := As.map (up C)) (rest := st.map (up C)) hfix (hm l cz.2.2.1.2.2.1) hcw ⟨PB_blind, fun U hU hW9 => ⟨rfl, PB_now cz hP hS U hU hW9⟩⟩ rfl (List.length_map ..) hL.1 (by show (As.reverse ++ st).map (up C) = _; rw [List.map_append, List.map_reverse]) (lv_room (by rw [up_sum]; exact hw)) hd ⟨hk, hn⟩) hS hout hcont
theorem w_callVs (M' : Mk) (As : List Value) {idx d' mc' ms' ne' w : Nat} {Qr' : Option Value → Hp → Prop} {Qx' : String → Hp → Prop} (hd : decode (mB M) pc = .ok (.invokevirtual idx, 3)) (hlk : LKV M M' idx As.length) (hsw : isStr w) (hci : (mY M').cls = "java/lang/String") (hdd : d' + 1 ≤ d) (hk : k + mc' ≤ mc) (hn : n + ms' ≤ ms) (hw : (st.map fun v => v.category).sum ≤ 8)
    (hm : mm C M' d' mc' ms' nx ne' (.ref (2000 + w) :: As) h Qr' Qx') (hxx : XOK M Qx' Qx ne' ne)
    (kk : ∀ v h', Qr' v h' → ww C M d mc ms ne Qr Qx ne' (k + mc') (n + ms') (pc + 3) lv (v.toList ++ st) h') : ww C M d mc ms ne Qr Qx nx k n pc lv (As.reverse ++ .ref (2000 + w) :: st) h := by
  intro p l e s m args below meth c Fin cz hr hx hzz H locs ls hP hS hL
  have hrm : (rmF d' mc' ms').frames + 1 ≤ (rmF d mc ms).frames ∧ 8 + (mL M' + 11) + (rmF d' mc' ms').locals ≤ (rmF d mc ms).locals := ⟨hdd, by
    have := hlk.1.2.2.2
    show 8 + (mL M' + 11) + 70 * d' ≤ 70 * d
    omega⟩
  have hG : GoodIn lw_all (mW M') := goodAll (mW_sub hlk.1.2.1)
  have hout : ∀ (E : String) (ce : Cell) (q : Addr) (h' : Hp) (H1 : Heap) (locs1 : List Loc), Qx' E h' → HPh C ne' h' H1 → va_S (xAl C) s.heap H1 locs1 → H1[q]? = some ce → ce.vm = .none → s.vm.findClass E = some ce.cls → vx_W p l e (rmF d mc ms) s m args below meth c H1 locs1 (k + mc') (n + ms') Fin (F0 m pc ls (st.map (up C))) q := by
    intro E ce q h' H1 locs1 g1 g2 g3 g4 g5 g6
    rcases hxx with hxx | ⟨f1, f2, f3⟩
    · exact absurd g1 (hxx E h')
    · subst f2
      refine hx E ce q h' H1 locs1 ls _ pc _ _ (f1 _ _ g1) g2 g3 hk hn (fun x hx9 => ?_) g4 g5 g6
      rw [cz.2.2.1.2.2.2, f3] at hx9
      cases hx9
  have hcont : ∀ (v : Option Value) (h' : Hp) (H1 : Heap) (locs1 : List Loc), Qr' v h' → HPh C ne' h' H1 → va_S (xAl C) s.heap H1 locs1 → W p l e (rmF d mc ms) s m args below meth c H1 locs1 (k + mc') (n + ms') Fin (F0 m (pc + 3) ls ((v.map (up C)).toList ++ st.map (up C))) := by
    intro v h' H1 locs1 g1 g2 g3
    rw [up_app]
    exact kk v h' g1 p l e s m args below meth c Fin cz hr hx hzz H1 locs1 ls g2 g3 hL
  have hfix : CallFix p m c (mB M) (mL M) s args lw_all (mY M).cls := ⟨cz.1.1, cz.1.2.1, cz.1.2.2.2.1, cz.1.2.2.2.2, cz.2.1⟩
  have hG2 : GoodIn lw_all (wsV (mY M).cls idx (mY M').cls (mY M') (mW M')) := by
    refine goodAll fun w hw9 => ?_
    simp only [wsV, List.mem_append, List.mem_cons, List.not_mem_nil, or_false] at hw9
    rcases hw9 with (rfl | rfl | rfl | rfl) | hw9
    · exact hlk.2.1
    · exact hlk.2.2.1
    · exact hlk.2.2.2
    · exact hlk.1.1
    · exact mW_sub hlk.1.2.1 w hw9
  have hcw := cwV (ret := mR M') (rm := rmF d' mc' ms') (R := rmF d mc ms) (mc := mc') (ms := ms') (maxL := mL M') (bytes := mB M') As.length cz.2.1 hG2 rfl rfl rfl ⟨rfl, hlk.1.2.2.1⟩ hrm
  refine hx_fin (vx_runV (As := As.map (up C)) (rest := st.map (up C)) hfix (hm l cz.2.2.1.2.2.1) hcw ⟨PB_blind, by
    obtain ⟨cell, h1, h2, h3, -⟩ := (cz.2.2.2.1.2.2.2.2.2.2.1 w hsw).1.kept hS.2.1
    rw [hci, show ad C (2000 + w) = xO C (2000 + w) from ad_ge (by omega)]
    exact ⟨cell, h1, h2, h3⟩, fun U hU hW9 => ⟨rfl, PB_now cz hP hS U hU hW9⟩⟩ rfl (List.length_map ..) hL.1 (by show (As.reverse ++ .ref (2000 + w) :: st).map (up C) = _; rw [List.map_append, List.map_reverse]; rfl) (lv_room (by rw [up_sum]; exact hw)) hd ⟨hk, hn⟩) hS hout hcont
theorem w_callN (M' : Mk) (As : List Value) {idx d' mc' ms' ne' : Nat} {Qr' : Option Value → Hp → Prop} {Qx' : String → Hp → Prop} (hd : decode (mB M) pc = .ok (.invokestatic idx, 3)) (hlk : LKN M M' idx As.length) (hdd : d' + 1 ≤ d) (hk : k + mc' ≤ mc) (hn : n + ms' ≤ ms) (hw : (st.map fun v => v.category).sum ≤ 8)
    (hm : mm C M' d' mc' ms' nx ne' (As) h Qr' Qx') (hxx : XOK M Qx' Qx ne' ne)
    (kk : ∀ v h', Qr' v h' → ww C M d mc ms ne Qr Qx ne' (k + mc') (n + ms') (pc + 3) lv (v.toList ++ st) h') : ww C M d mc ms ne Qr Qx nx k n pc lv (As.reverse ++ st) h := by
  intro p l e s m args below meth c Fin cz hr hx hzz H locs ls hP hS hL
  have hrm : (rmF d' mc' ms').frames + 1 ≤ (rmF d mc ms).frames ∧ 8 + (mL M' + 11) + (rmF d' mc' ms').locals ≤ (rmF d mc ms).locals := ⟨hdd, by
    have := hlk.1.2.2.2
    show 8 + (mL M' + 11) + 70 * d' ≤ 70 * d
    omega⟩
  have hG : GoodIn lw_all (mW M') := goodAll (mW_sub hlk.1.2.1)
  have hout : ∀ (E : String) (ce : Cell) (q : Addr) (h' : Hp) (H1 : Heap) (locs1 : List Loc), Qx' E h' → HPh C ne' h' H1 → va_S (xAl C) s.heap H1 locs1 → H1[q]? = some ce → ce.vm = .none → s.vm.findClass E = some ce.cls → vx_W p l e (rmF d mc ms) s m args below meth c H1 locs1 (k + mc') (n + ms') Fin (F0 m pc ls (st.map (up C))) q := by
    intro E ce q h' H1 locs1 g1 g2 g3 g4 g5 g6
    rcases hxx with hxx | ⟨f1, f2, f3⟩
    · exact absurd g1 (hxx E h')
    · subst f2
      refine hx E ce q h' H1 locs1 ls _ pc _ _ (f1 _ _ g1) g2 g3 hk hn (fun x hx9 => ?_) g4 g5 g6
      rw [cz.2.2.1.2.2.2, f3] at hx9
      cases hx9
  have hcont : ∀ (v : Option Value) (h' : Hp) (H1 : Heap) (locs1 : List Loc), Qr' v h' → HPh C ne' h' H1 → va_S (xAl C) s.heap H1 locs1 → W p l e (rmF d mc ms) s m args below meth c H1 locs1 (k + mc') (n + ms') Fin (F0 m (pc + 3) ls ((v.map (up C)).toList ++ st.map (up C))) := by
    intro v h' H1 locs1 g1 g2 g3
    rw [up_app]
    exact kk v h' g1 p l e s m args below meth c Fin cz hr hx hzz H1 locs1 ls g2 g3 hL
  have hfix : CallFix p m c (mB M) (mL M) s args lw_all (mY M).cls := ⟨cz.1.1, cz.1.2.1, cz.1.2.2.2.1, cz.1.2.2.2.2, cz.2.1⟩
  have hcw : va_CN (rmF d mc ms) s args (mY M).cls idx (mY M') "HexArbiter" (mB M') (mL M') (mR M') (mW M') (rmF d' mc' ms') mc' ms' As.length ∧ (Cond.static (mY M')).before args s = true ∧ True :=
    ⟨va_cnB As.length cz.2.1 hG rfl rfl rfl (cz.2.2.2.1.2.1 _ hlk.2.1) (cz.2.1 _ hlk.1.1) hlk.1.2.2.1 hrm, cz.2.1 _ hlk.2.2, trivial⟩
  refine hx_fin (vx_runSN (As := As.map (up C)) (rest := st.map (up C)) hfix (hm l cz.2.2.1.2.2.1) hcw ⟨PB_blind, fun U hU hW9 => ⟨rfl, PB_now cz hP hS U hU hW9⟩⟩ rfl (List.length_map ..) hL.1 (by show (As.reverse ++ st).map (up C) = _; rw [List.map_append, List.map_reverse]) (lv_room (by rw [up_sum]; exact hw)) hd ⟨hk, hn⟩) hS hout hcont
theorem w_callI (M' : Mk) (As : List Value) {idx d' mc' ms' ne' b : Nat} {Qr' : Option Value → Hp → Prop} {Qx' : String → Hp → Prop} (hd : decode (mB M) pc = .ok (.invokespecial idx, 3)) (hlk : LKI M M' idx As.length) (hdd : d' + 1 ≤ d) (hk : k + mc' ≤ mc) (hn : n + ms' ≤ ms) (hw : (st.map fun v => v.category).sum ≤ 8)
    (hm : mm C M' d' mc' ms' nx ne' (.ref b :: As) h Qr' Qx') (hxx : XOK M Qx' Qx ne' ne)
    (kk : ∀ v h', Qr' v h' → ww C M d mc ms ne Qr Qx ne' (k + mc') (n + ms') (pc + 3) lv (v.toList ++ st) h') : ww C M d mc ms ne Qr Qx nx k n pc lv (As.reverse ++ .ref b :: st) h := by
  intro p l e s m args below meth c Fin cz hr hx hzz H locs ls hP hS hL
  have hrm : (rmF d' mc' ms').frames + 1 ≤ (rmF d mc ms).frames ∧ 8 + (mL M' + 11) + (rmF d' mc' ms').locals ≤ (rmF d mc ms).locals := ⟨hdd, by
    have := hlk.1.2.2.2
    show 8 + (mL M' + 11) + 70 * d' ≤ 70 * d
    omega⟩
  have hG : GoodIn lw_all (mW M') := goodAll (mW_sub hlk.1.2.1)
  have hout : ∀ (E : String) (ce : Cell) (q : Addr) (h' : Hp) (H1 : Heap) (locs1 : List Loc), Qx' E h' → HPh C ne' h' H1 → va_S (xAl C) s.heap H1 locs1 → H1[q]? = some ce → ce.vm = .none → s.vm.findClass E = some ce.cls → vx_W p l e (rmF d mc ms) s m args below meth c H1 locs1 (k + mc') (n + ms') Fin (F0 m pc ls (st.map (up C))) q := by
    intro E ce q h' H1 locs1 g1 g2 g3 g4 g5 g6
    rcases hxx with hxx | ⟨f1, f2, f3⟩
    · exact absurd g1 (hxx E h')
    · subst f2
      refine hx E ce q h' H1 locs1 ls _ pc _ _ (f1 _ _ g1) g2 g3 hk hn (fun x hx9 => ?_) g4 g5 g6
      rw [cz.2.2.1.2.2.2, f3] at hx9
      cases hx9
  have hcont : ∀ (v : Option Value) (h' : Hp) (H1 : Heap) (locs1 : List Loc), Qr' v h' → HPh C ne' h' H1 → va_S (xAl C) s.heap H1 locs1 → W p l e (rmF d mc ms) s m args below meth c H1 locs1 (k + mc') (n + ms') Fin (F0 m (pc + 3) ls ((v.map (up C)).toList ++ st.map (up C))) := by
    intro v h' H1 locs1 g1 g2 g3
    rw [up_app]
    exact kk v h' g1 p l e s m args below meth c Fin cz hr hx hzz H1 locs1 ls g2 g3 hL
  have hfix : CallFix p m c (mB M) (mL M) s args lw_all (mY M).cls := ⟨cz.1.1, cz.1.2.1, cz.1.2.2.2.1, cz.1.2.2.2.2, cz.2.1⟩
  have hcode9 : mW M' = Cond.code (mY M') (mB M') (mL M') none :: lw_all := by rw [← hlk.2.2.2.2]; rfl
  have hcw := cwI (rm := rmF d' mc' ms') (R := rmF d mc ms) (mc := mc') (ms := ms') (maxL := mL M') (bytes := mB M') As.length cz.2.1 hG hcode9 rfl rfl (cz.2.1 _ hlk.1.1) (cz.2.1 _ hlk.2.1) (cz.2.1 _ hlk.2.2.1) hlk.2.2.2.1 hlk.1.2.2.1 hrm
  refine hx_fin (vx_runI (As := As.map (up C)) (rest := st.map (up C)) hfix (hm l cz.2.2.1.2.2.1) hcw ⟨PB_blind, fun U hU hW9 => ⟨rfl, PB_now cz hP hS U hU hW9⟩⟩ rfl (List.length_map ..) hL.1 (by show (As.reverse ++ .ref b :: st).map (up C) = _; rw [List.map_append, List.map_reverse]; rfl) (lv_room (by rw [up_sum]; exact hw)) hd ⟨hk, hn⟩) hS hout hcont
theorem lm_args (C : Cx) : ∀ (i : Nat) (vs : List Value), lv_args i (vs.map (up C)) = lm C (lv_args i vs)
  | _, [] => rfl
  | i, v :: vs => by
    simp only [List.map_cons, lv_args, up_cat, lm_args C _ vs]
    rfl
/-- a method's contract out of a walk of its body -/
theorem mm_of {args : List Value} (hy : plainName (mY M).cls = true) (hh : mH M = []) (hlen : (args.map fun v => v.category).sum ≤ mL M)
    (kk : ww C M d mc ms ne Qr Qx nx 0 0 0 (lv_args 0 args) [] h) : mm C M d mc ms nx ne args h Qr Qx := by
  intro l hl
  have hlen2 : (lg_sl (args.map (up C))).length ≤ mL M := by
    refine Nat.le_trans (Nat.le_of_eq ?_) hlen
    clear hlen kk
    induction args with
    | nil => rfl
    | cons a t ih =>
      simp only [List.map_cons, List.sum_cons, lg_sl, List.flatMap_cons, List.length_append, up_cat] at ih ⊢
      rw [ih]
      rcases lv_cat a with h | h <;> simp [h]
  refine vx_ofW (cc := mB M) (maxL := mL M) (ret := mR M) hy rfl ?_
  intro p e s m args' below meth c s₁ B hml ht hv
  obtain ⟨rfl, hSt, hP, hB⟩ := hv
  have hts := atoms_spec (ws := mW M) B.pre
  have hlocks := B.notSynchronized
  have htab : c.exceptionTable.toList = tableOf (mH M) := by
    rw [hh]
    exact List.eq_nil_iff_forall_not_mem.mpr fun x hx => ht x hx
  have cz : Cz C M p l s m (args.map (up C)).toArray meth c := ⟨⟨B.exec, B.bytes, B.returns, hml, findClass_of_methodNamed B.named⟩, fun w hw => hts w (List.mem_cons_of_mem _ hw), ⟨hlocks, (name_of_methodNamed B.named B.method).1, hl, htab⟩, hSt, hB⟩
  have hL := lv_entry (args.map (up C)) hlen2
  rw [lg_entry_eq]
  rw [lm_args] at hL
  refine kk p l e s m _ below meth c _ cz ?_ ?_ (fun E ce q h' U locs k' n' hq hP hF hrun hend hce hv hcl hW hsame hfree hk hn => ⟨.threw q, hrun, hend, Or.inr ⟨q, rfl, E, ce, locs, ⟨h', hq, hP, hF⟩, hce, hv, hcl, hW, hsame.mono hk hn, hfree⟩⟩) s.heap [] _ hP va_S.rf hL
  · intro v h' H locs ls pc k' n' i hq hP' hS' hk' hn' hdg hrt
    refine vx_ret (W.widen hk' hn' ?_)
    have hret : ∀ t : State, t.heap = H → s.WarmedH t.vm → QC C ne Qr (args.map (up C)).toArray s (.returned (v.map (up C))) t := fun t e1 _ => ⟨v, h', rfl, hq, by rw [e1]; exact hP', hS'.F e1⟩
    rcases hrt with ⟨x, rfl, rfl, ty, e1, e2⟩ | ⟨rfl, rfl, e1⟩ | ⟨a, rfl, rfl, ty, e1, e2⟩ | ⟨rfl, rfl, ty, e1, e2⟩ | ⟨x, rfl, rfl, e1⟩ | ⟨x, rfl, rfl, e1⟩
    · exact W.zret B.exec rfl (by rw [B.returns, e1]) e2 hret hS'.2.2 hdg
    · exact W.vret B.exec rfl (by rw [B.returns, e1]) hret hS'.2.2 hdg
    · exact W.aret B.exec rfl (by rw [B.returns, e1]) (by revert e2; cases ty <;> intro e2 <;> first | exact Or.inl ⟨_, rfl⟩ | exact Or.inr ⟨_, rfl⟩ | cases e2) (Or.inr ⟨_, rfl⟩) hret hS'.2.2 hdg
    · exact W.aret B.exec rfl (by rw [B.returns, e1]) (by revert e2; cases ty <;> intro e2 <;> first | exact Or.inl ⟨_, rfl⟩ | exact Or.inr ⟨_, rfl⟩ | cases e2) (Or.inl rfl) hret hS'.2.2 hdg
    · exact W.fret B.exec rfl (by rw [B.returns, e1]) hret hS'.2.2 hdg
    · exact W.lret B.exec rfl (by rw [B.returns, e1]) hret hS'.2.2 hdg
  · intro E ce q h' H locs ls rest pc k' n' hq hP' hS' hk' hn' hcov hce hcv hcl
    exact vx_out hcov hlocks hce hcv hcl (fun t e1 _ => ⟨h', hq, by rw [e1]; exact hP', hS'.F e1⟩) hS'.2.2 hk' hn'

end WC
end
section
/-! ===== the references, fixed once all objects stand ===== -/
def rtL : List (List (Option Nat)) := [[some 1, some 5, some 10, some 13, some 16, some 42, some 45, some 48, some 50, some 52, some 56, some 63, some 67, some 71, some 74, some 78], [some 2, some 3, some 4], [], [], [], [some 1, some 6, some 7, some 8, some 9], [], [], [], [], [some 11, some 12], [], [], [some 14, some 15], [], [], [some 17], [some 18, some 21, some 24, some 27, some 30, some 33, some 36, some 39], [some 19, some 20], [], [], [some 22, some 23], [], [], [some 25, some 26], [], [], [some 28, some 29], [], [], [some 31, some 32], [], [], [some 34, some 35], [], [], [some 37, some 38], [], [], [some 40, some 41], [], [], [some 43, some 44], [], [], [some 46, some 47], [], [], [some 49], [], [some 51], [], [some 48, some 1, some 5, some 53], [some 54, some 55], [], [], [some 1, some 57, some 58, some 59, some 60, some 61, some 62], [], [], [], [], [], [], [some 1, some 64, some 65, some 66], [], [], [], [some 1, some 68, some 69, some 70], [], [], [], [some 1, some 72, some 73], [], [], [some 1, some 5, some 75, some 76, some 77], [], [], [], [some 1, some 5, some 79], []]
def RT (a f : Nat) : Option Nat := (rtL[a]?).bind fun l => (l[f]?).bind id
/-! ===== a heap of whole numbers ===== -/
/-- ints, longs, references of what comes behind the class's objects (0: null) -/
abbrev Sg : Type := (Nat → Nat → Int) × (Nat → Nat → Int) × (Nat → Nat → Nat)
def gi (s : Sg) (a k : Nat) : Int := s.1 a k
def gl (s : Sg) (a k : Nat) : Int := s.2.1 a k
def gd (s : Sg) (a k : Nat) : Nat := s.2.2 a k
def si (s : Sg) (a k : Nat) (v : Int) : Sg := (fun b j => if b = a ∧ j = k then v else s.1 b j, s.2)
def sl (s : Sg) (a k : Nat) (v : Int) : Sg := (s.1, fun b j => if b = a ∧ j = k then v else s.2.1 b j, s.2.2)
def sd (s : Sg) (a k v : Nat) : Sg := (s.1, s.2.1, fun b j => if b = a ∧ j = k then v else s.2.2 b j)
theorem gi_si (s : Sg) (a k : Nat) (v : Int) (b j : Nat) : gi (si s a k v) b j = if b = a ∧ j = k then v else gi s b j := rfl
theorem gl_si (s : Sg) (a k : Nat) (v : Int) : gl (si s a k v) = gl s := rfl
theorem gd_si (s : Sg) (a k : Nat) (v : Int) : gd (si s a k v) = gd s := rfl
theorem gl_sl (s : Sg) (a k : Nat) (v : Int) (b j : Nat) : gl (sl s a k v) b j = if b = a ∧ j = k then v else gl s b j := rfl
theorem gi_sl (s : Sg) (a k : Nat) (v : Int) : gi (sl s a k v) = gi s := rfl
theorem gd_sl (s : Sg) (a k : Nat) (v : Int) : gd (sl s a k v) = gd s := rfl
theorem gd_sd (s : Sg) (a k v : Nat) (b j : Nat) : gd (sd s a k v) b j = if b = a ∧ j = k then v else gd s b j := rfl
theorem gi_sd (s : Sg) (a k v : Nat) : gi (sd s a k v) = gi s := rfl
theorem gl_sd (s : Sg) (a k v : Nat) : gl (sd s a k v) = gl s := rfl
def drf (k : Nat) : Option Nat := if k = 0 then none else some k
def hp (nx : Nat) (s : Sg) : Hp := (fun a f => Int32.ofInt (s.1 a f), fun a f => if a < nx then (if a < KN then RT a f else drf (s.2.2 a f)) else none, fun a f => Int64.ofInt (s.2.1 a f), fun _ _ => 0)
theorem hp_si (nx : Nat) (s : Sg) (a k : Nat) (v : Int) : sI (hp nx s) a k (Int32.ofInt v) = hp nx (si s a k v) := by
  unfold sI hp si
  refine Prod.ext ?_ rfl
  funext b j
  show (if b = a ∧ j = k then Int32.ofInt v else Int32.ofInt (s.1 b j)) = Int32.ofInt (if b = a ∧ j = k then v else s.1 b j)
  split <;> rfl
theorem hp_sl (nx : Nat) (s : Sg) (a k : Nat) (v : Int) : sL (hp nx s) a k (Int64.ofInt v) = hp nx (sl s a k v) := by
  unfold sL hp sl
  refine Prod.ext rfl (Prod.ext rfl (Prod.ext ?_ rfl))
  funext b j
  show (if b = a ∧ j = k then Int64.ofInt v else Int64.ofInt (s.2.1 b j)) = Int64.ofInt (if b = a ∧ j = k then v else s.2.1 b j)
  split <;> rfl
theorem RT_lt {a f b : Nat} (h : RT a f = some b) : a < KN := by
  apply Classical.byContradiction
  intro q
  have e : rtL[a]? = none := List.getElem?_eq_none (by show 80 ≤ a; unfold KN at q; omega)
  unfold RT at h
  rw [e] at h
  cases h
theorem hpR {nx : Nat} {s : Sg} {a f b : Nat} (ha : a < nx) (h : RT a f = some b) : gR (hp nx s) a f = some b := by
  show (if a < nx then (if a < KN then RT a f else drf (s.2.2 a f)) else none) = some b
  rw [if_pos ha, if_pos (RT_lt h), h]
/-- a reference of what comes behind the class's objects -/
theorem hpD {nx : Nat} {s : Sg} {a f b : Nat} (ha : a < nx) (hK : KN ≤ a) (hb : b ≠ 0) (h : gd s a f = b) : gR (hp nx s) a f = some b := by
  show (if a < nx then (if a < KN then RT a f else drf (gd s a f)) else none) = some b
  rw [if_pos ha, if_neg (Nat.not_lt.mpr hK), h]
  unfold drf
  rw [if_neg hb]
theorem hp_sr {nx : Nat} {s : Sg} {a f b : Nat} (ha : a < nx) (hK : KN ≤ a) (hb : b ≠ 0) : sR (hp nx s) a f (some b) = hp nx (sd s a f b) := by
  unfold sR hp sd
  refine Prod.ext rfl (Prod.ext ?_ rfl)
  funext x y
  show (if x = a ∧ y = f then some b else (if x < nx then (if x < KN then RT x y else drf (s.2.2 x y)) else none)) = (if x < nx then (if x < KN then RT x y else drf (if x = a ∧ y = f then b else s.2.2 x y)) else none)
  by_cases q : x = a ∧ y = f
  · obtain ⟨rfl, rfl⟩ := q
    rw [if_pos ⟨rfl, rfl⟩, if_pos ha, if_neg (Nat.not_lt.mpr hK), if_pos ⟨rfl, rfl⟩]
    unfold drf
    rw [if_neg hb]
  · rw [if_neg q, if_neg q]
abbrev vi (x : Int) : Value := .int (Int32.ofInt x)
abbrev vl (x : Int) : Value := .long (Int64.ofInt x)
/-- the range of an int, of a long -/
def R (x : Int) : Prop := -2147483648 ≤ x ∧ x ≤ 2147483647
def RL64 (x : Int) : Prop := -9223372036854775808 ≤ x ∧ x ≤ 9223372036854775807
theorem t32 {x : Int} (h : R x) : (Int32.ofInt x).toInt = x := by
  unfold R at h
  rw [Int32.toInt_ofInt, show Int32.size = 4294967296 from rfl]
  exact Int.bmod_eq_of_le_mul_two (by omega) (by omega)
theorem t64 {x : Int} (h : RL64 x) : (Int64.ofInt x).toInt = x := by
  unfold RL64 at h
  rw [Int64.toInt_ofInt, show Int64.size = 18446744073709551616 from rfl]
  exact Int.bmod_eq_of_le_mul_two (by omega) (by omega)
theorem c32e {x y : Int} (hx : R x) (hy : R y) : Int32.ofInt x = Int32.ofInt y ↔ x = y :=
  ⟨fun h => by rw [← t32 hx, ← t32 hy, h], fun h => by rw [h]⟩
theorem c32l {x y : Int} (hx : R x) (hy : R y) : Int32.ofInt x < Int32.ofInt y ↔ x < y := by
  rw [Int32.lt_iff_toInt_lt, t32 hx, t32 hy]
theorem c32m {x y : Int} (hx : R x) (hy : R y) : Int32.ofInt x ≤ Int32.ofInt y ↔ x ≤ y := by
  rw [Int32.le_iff_toInt_le, t32 hx, t32 hy]
theorem R0 : R 0 := by unfold R; omega
theorem z32 : (0 : Int32) = Int32.ofInt 0 := by decide
/-! ===== combinators of the models ===== -/
noncomputable def grd {α : Type} (p : Prop) (x : Option α) : Option α := @ite _ p (Classical.propDecidable p) x none
theorem grd_e {α : Type} {p : Prop} {x : Option α} {o : α} {G : Prop} (hs : grd p x = some o) (k : p → x = some o → G) : G := by
  unfold grd at hs
  split at hs
  · exact k ‹_› hs
  · cases hs
theorem grd_t {α : Type} {p : Prop} {x : Option α} (h : p) : grd p x = x := by unfold grd; exact if_pos h
def bnd {α β : Type} (m : Option α) (f : α → Option β) : Option β := match m with
  | some a => f a
  | none => none
def bnd2 {α β : Type} (m : Option (α × Sg)) (f : α → Sg → Option β) : Option β := match m with
  | some (a, s) => f a s
  | none => none
/-- behind a call that doesn't throw -/
def bndr {α β : Type} (m : Option ((Nat ⊕ α) × Sg)) (f : α → Sg → Option β) : Option β := match m with
  | some (.inr a, s) => f a s
  | _ => none
theorem bndr_some {α β : Type} (a : α) (s : Sg) (f : α → Sg → Option β) : bndr (some (.inr a, s)) f = f a s := rfl
/-- behind a call that may throw -/
def bndx {α β : Type} (m : Option ((Nat ⊕ α) × Sg)) (f : α → Sg → Option ((Nat ⊕ β) × Sg)) : Option ((Nat ⊕ β) × Sg) := match m with
  | some (.inr a, s) => f a s
  | some (.inl e, s) => some (.inl e, s)
  | none => none
theorem bnd_some {α β : Type} (a : α) (f : α → Option β) : bnd (some a) f = f a := rfl
theorem bnd2_some {α β : Type} (a : α) (s : Sg) (f : α → Sg → Option β) : bnd2 (some (a, s)) f = f a s := rfl
theorem bndx_some {α β : Type} (a : α) (s : Sg) (f : α → Sg → Option ((Nat ⊕ β) × Sg)) : bndx (some (.inr a, s)) f = f a s := rfl
theorem bndx_thrown {α β : Type} (e : Nat) (s : Sg) (f : α → Sg → Option ((Nat ⊕ β) × Sg)) : bndx (some (.inl e, s)) f = some (.inl e, s) := rfl
theorem bnd_e {α β : Type} {m : Option α} {f : α → Option β} {o : β} {G : Prop} (hs : bnd m f = some o) (k : ∀ a, m = some a → f a = some o → G) : G := by
  cases m with
  | none => cases hs
  | some a => exact k a rfl hs
theorem bnd2_e {α β : Type} {m : Option (α × Sg)} {f : α → Sg → Option β} {o : β} {G : Prop} (hs : bnd2 m f = some o) (k : ∀ a s, m = some (a, s) → f a s = some o → G) : G := by
  cases m with
  | none => cases hs
  | some a => exact k a.1 a.2 rfl hs
theorem bndx_e {α β : Type} {m : Option ((Nat ⊕ α) × Sg)} {f : α → Sg → Option ((Nat ⊕ β) × Sg)} {o : (Nat ⊕ β) × Sg} {G : Prop} (hs : bndx m f = some o) (k : ∀ a s, m = some (.inr a, s) → f a s = some o → G) (kx : ∀ e s, m = some (.inl e, s) → o = (.inl e, s) → G) : G := by
  rcases m with _ | ⟨e | a, s⟩
  · cases hs
  · exact kx e s rfl (by cases hs; rfl)
  · exact k a s rfl hs
noncomputable def ifLt {α : Type} (x y : Int) (A B : Option α) : Option α := grd (R x ∧ R y) (if x < y then A else B)
noncomputable def ifEq {α : Type} (x y : Int) (A B : Option α) : Option α := grd (R x ∧ R y) (if x = y then A else B)
theorem ifLt_e {α : Type} {x y : Int} {A B : Option α} {o : α} {G : Prop} (hs : ifLt x y A B = some o) (k : R x → R y → (x < y → A = some o → G) ∧ (¬ x < y → B = some o → G) → G) (k1 : x < y → A = some o → G) (k2 : ¬ x < y → B = some o → G) : G :=
  grd_e hs fun h _ => k h.1 h.2 ⟨k1, k2⟩
theorem ifLt_u {α : Type} {x y : Int} {A B : Option α} {o : α} (hs : ifLt x y A B = some o) : R x ∧ R y ∧ (x < y → A = some o) ∧ (¬ x < y → B = some o) :=
  grd_e hs fun h hs => ⟨h.1, h.2, fun q => (if_pos q).symm.trans hs, fun q => (if_neg q).symm.trans hs⟩
theorem ifEq_u {α : Type} {x y : Int} {A B : Option α} {o : α} (hs : ifEq x y A B = some o) : R x ∧ R y ∧ (x = y → A = some o) ∧ (¬ x = y → B = some o) :=
  grd_e hs fun h hs => ⟨h.1, h.2, fun q => (if_pos q).symm.trans hs, fun q => (if_neg q).symm.trans hs⟩
theorem ifLt_eq {α : Type} {x y : Int} (A B : Option α) (hx : R x) (hy : R y) : ifLt x y A B = if x < y then A else B := grd_t ⟨hx, hy⟩
theorem ifEq_eq {α : Type} {x y : Int} (A B : Option α) (hx : R x) (hy : R y) : ifEq x y A B = if x = y then A else B := grd_t ⟨hx, hy⟩
/-- a value that gets a name -/
def lett {α β : Type} (x : α) (f : α → Option β) : Option β := f x
theorem lett_e {α β : Type} {x : α} {f : α → Option β} {o : β} {G : α → Prop} (hs : lett x f = some o) (k : ∀ a, a = x → f a = some o → G a) : G x := k x rfl hs
theorem lett_eq {α β : Type} (x : α) (f : α → Option β) : lett x f = f x := rfl
section WHL
variable {σ ρ : Type} {f : σ → Option (σ ⊕ ρ)}
def itr (f : σ → Option (σ ⊕ ρ)) : Nat → σ → Option ρ
  | 0, _ => none
  | n + 1, s => match f s with
    | some (.inl s') => itr f n s'
    | some (.inr r) => some r
    | none => none
theorem itr_more {r : ρ} : ∀ (n : Nat) (s : σ), itr f n s = some r → itr f (n + 1) s = some r
  | 0, s, h => by cases h
  | n + 1, s, h => by
    unfold itr at h ⊢
    revert h
    rcases f s with _ | s' | r'
    · exact fun h => h
    · exact fun h => itr_more n s' h
    · exact fun h => h
theorem itr_le {r : ρ} {n : Nat} {s : σ} (h : itr f n s = some r) : ∀ k, itr f (n + k) s = some r
  | 0 => h
  | k + 1 => itr_more _ _ (itr_le h k)
theorem itr_det {r r' : ρ} {n m : Nat} {s : σ} (h : itr f n s = some r) (h' : itr f m s = some r') : r = r' := by
  have h1 := itr_le h m
  have h2 := itr_le h' n
  rw [Nat.add_comm] at h2
  exact Option.some.inj (h1.symm.trans h2)
/-- as long as f says so -/
noncomputable def whl (f : σ → Option (σ ⊕ ρ)) (s : σ) : Option ρ := @dite _ (∃ r n, itr f n s = some r) (Classical.propDecidable _) (fun h => some h.choose) (fun _ => none)
theorem whl_iff {s : σ} {r : ρ} : whl f s = some r ↔ ∃ n, itr f n s = some r := by
  unfold whl
  split
  · rename_i h
    constructor
    · intro e
      cases e
      exact h.choose_spec
    · rintro ⟨n, e⟩
      obtain ⟨m, e'⟩ := h.choose_spec
      rw [itr_det e' e]
  · rename_i h
    exact ⟨fun e => (nomatch e), fun ⟨n, e⟩ => absurd ⟨r, n, e⟩ h⟩
theorem whl_w {P : σ → Prop} {E : ρ → Prop} {s0 : σ} {r : ρ} (h : whl f s0 = some r) (hE : E r) (hi : ∀ s o, f s = some o → (∀ s', o = .inl s' → P s') → (∀ r', o = .inr r' → E r') → P s) : P s0 := by
  obtain ⟨n, e⟩ := whl_iff.mp h
  clear h
  induction n generalizing s0 with
  | zero => cases e
  | succ n ih =>
    unfold itr at e
    revert e
    rcases ho : f s0 with _ | s' | r'
    · exact fun e => (nomatch e)
    · intro e
      exact hi s0 _ ho (fun s2 h2 => by cases h2; exact ih e) (fun r2 h2 => by cases h2)
    · intro e
      cases e
      exact hi s0 _ ho (fun s2 h2 => by cases h2) (fun r2 h2 => by cases h2; exact hE)
/-- total: what a loop comes to -/
theorem whl_t (I : σ → Prop) (μ : σ → Nat) {Q : ρ → Prop} {s0 : σ} (h0 : I s0) (hi : ∀ s, I s → ∃ o, f s = some o ∧ (∀ s', o = .inl s' → I s' ∧ μ s' < μ s) ∧ (∀ r, o = .inr r → Q r)) : ∃ r, whl f s0 = some r ∧ Q r := by
  have key : ∀ n s, I s → μ s < n → ∃ r, itr f n s = some r ∧ Q r := by
    intro n
    induction n with
    | zero => intro s _ h; omega
    | succ n ih =>
      intro s hs hn
      obtain ⟨o, ho, h1, h2⟩ := hi s hs
      unfold itr
      rw [ho]
      rcases o with s' | r
      · obtain ⟨a, b⟩ := h1 s' rfl
        exact ih s' a (by omega)
      · exact ⟨r, rfl, h2 r rfl⟩
  obtain ⟨r, e, q⟩ := key _ s0 h0 (Nat.lt_succ_self _)
  exact ⟨r, whl_iff.mpr ⟨_, e⟩, q⟩
end WHL
/-! ===== values of the operations ===== -/
def iandI (x y : Int) : Int := (Int32.ofInt x &&& Int32.ofInt y).toInt
def iorI (x y : Int) : Int := (Int32.ofInt x ||| Int32.ofInt y).toInt
def ixorI (x y : Int) : Int := (Int32.ofInt x ^^^ Int32.ofInt y).toInt
def ishlI (x y : Int) : Int := (Int32.ofInt x <<< (Int32.ofInt y &&& 31)).toInt
def ishrI (x y : Int) : Int := (Int32.ofInt x >>> (Int32.ofInt y &&& 31)).toInt
def i2bI (x : Int) : Int := (Int32.ofInt x).toInt8.toInt32.toInt
def landI (x y : Int) : Int := (Int64.ofInt x &&& Int64.ofInt y).toInt
def lorI (x y : Int) : Int := (Int64.ofInt x ||| Int64.ofInt y).toInt
def lshlI (x y : Int) : Int := (Int64.ofInt x <<< ((Int32.ofInt y).toInt64 &&& 63)).toInt
def lshrI (x y : Int) : Int := (Int64.ofInt x >>> ((Int32.ofInt y).toInt64 &&& 63)).toInt
def lushrI (x y : Int) : Int := (((Int64.ofInt x).toUInt64 >>> ((Int32.ofInt y).toInt64.toUInt64 &&& Int64.toUInt64 63)).toInt64).toInt
def lcmpI (x y : Int) : Int := if x < y then -1 else if x = y then 0 else 1
def b01 (x : Int) : Prop := x = 0 ∨ x = 1
def exN : Nat → String
  | 0 => "java/lang/IllegalArgumentException"
  | _ => "java/lang/IndexOutOfBoundsException"
abbrev XF : String → Hp → Prop := fun _ _ => False
abbrev QI (nx : Nat) (s : Sg) (r : Int) : Option Value → Hp → Prop := fun v h' => v = some (vi r) ∧ h' = hp nx s
abbrev QV (nx : Nat) (s : Sg) : Option Value → Hp → Prop := fun v h' => v = none ∧ h' = hp nx s
abbrev QA (nx : Nat) (s : Sg) (r : Nat) : Option Value → Hp → Prop := fun v h' => v = some (.ref r) ∧ h' = hp nx s
abbrev QO (nx : Nat) (s : Sg) (r : Option Nat) : Option Value → Hp → Prop := fun v h' => v = some (va_rf r) ∧ h' = hp nx s
abbrev QF (nx : Nat) (s : Sg) (r : UInt32) : Option Value → Hp → Prop := fun v h' => v = some (.float r) ∧ h' = hp nx s
abbrev QD (nx : Nat) (s : Sg) (r : UInt64) : Option Value → Hp → Prop := fun v h' => v = some (.double r) ∧ h' = hp nx s
abbrev QJ (nx : Nat) (s : Sg) (r : Int) : Option Value → Hp → Prop := fun v h' => v = some (vl r) ∧ h' = hp nx s
abbrev QT (nx : Nat) (o : (Nat ⊕ Int) × Sg) : Option Value → Hp → Prop := fun v h' => ∃ r, o.1 = .inr r ∧ v = some (vi r) ∧ h' = hp nx o.2
abbrev QTV (nx : Nat) (o : (Nat ⊕ Int) × Sg) : Option Value → Hp → Prop := fun v h' => ∃ r, o.1 = .inr r ∧ v = none ∧ h' = hp nx o.2
abbrev QTF (nx : Nat) (o : (Nat ⊕ UInt32) × Sg) : Option Value → Hp → Prop := fun v h' => ∃ r, o.1 = .inr r ∧ v = some (.float r) ∧ h' = hp nx o.2
abbrev QTD (nx : Nat) (o : (Nat ⊕ UInt64) × Sg) : Option Value → Hp → Prop := fun v h' => ∃ r, o.1 = .inr r ∧ v = some (.double r) ∧ h' = hp nx o.2
abbrev XT {α : Type} (nx : Nat) (o : (Nat ⊕ α) × Sg) : String → Hp → Prop := fun E h' => ∃ e, o.1 = .inl e ∧ E = exN e ∧ h' = hp nx o.2
/-! ===== kinds of references ===== -/
def posL : List Nat := [10, 13, 18, 21, 24, 27, 30, 33, 36, 39, 42, 45, 53]
def isPos (p : Nat) : Prop := p ∈ posL
def isPaths (p : Nat) : Prop := p = 63 ∨ p = 67
def isBytes (p : Nat) : Prop := p = 48 ∨ p = 50
def alen (a : Nat) : Nat := match shp a with
  | some (.inr (_, n)) => n
  | _ => if a = 1000 ∨ a = 1001 then 6 else if 1002 ≤ a ∧ a ≤ 1007 then 3 else 0
theorem alen_all : shL.all (fun x => match x with
  | .inl _ => true
  | .inr (_, n) => decide (n ≤ 4096)) = true := by decide +kernel
theorem alen_le (a : Nat) : alen a ≤ 4096 := by
  unfold alen shp
  split
  · rename_i h
    have h1 := List.all_eq_true.mp alen_all _ (List.mem_of_getElem? h)
    simpa using h1
  · split
    · omega
    · split <;> omega
theorem pos_lt : ∀ p ∈ posL, p + 2 < 80 := by decide +kernel
theorem pos_s0 : ∀ p ∈ posL, shp p = some (.inl 9) := by decide +kernel
theorem pos_s1 : ∀ p ∈ posL, shp (p + 1) = some (.inr (.int, 81)) := by decide +kernel
theorem pos_s2 : ∀ p ∈ posL, shp (p + 2) = some (.inr (.int, 200)) := by decide +kernel
theorem pos_r0 : ∀ p ∈ posL, RT p 0 = some (p + 1) := by decide +kernel
theorem pos_r1 : ∀ p ∈ posL, RT p 1 = some (p + 2) := by decide +kernel
theorem pos_a1 (p : Nat) (h : isPos p) : alen (p + 1) = 81 := by unfold alen; rw [pos_s1 p h]
theorem pos_a2 (p : Nat) (h : isPos p) : alen (p + 2) = 200 := by unfold alen; rw [pos_s2 p h]
theorem pos_n0 {p nx : Nat} (h : isPos p) (hn : 80 ≤ nx) : p < nx := by have := pos_lt p h; omega
theorem pos_n1 {p nx : Nat} (h : isPos p) (hn : 80 ≤ nx) : p + 1 < nx := by have := pos_lt p h; omega
theorem pos_n2 {p nx : Nat} (h : isPos p) (hn : 80 ≤ nx) : p + 2 < nx := by have := pos_lt p h; omega
theorem paths_n {p nx j : Nat} (h : isPaths p) (hj : j ≤ 3) (hn : 80 ≤ nx) : p + j < nx := by rcases h with rfl | rfl <;> omega
theorem paths_s0 {p : Nat} (h : isPaths p) : shp p = some (.inl 8) := by rcases h with rfl | rfl <;> rfl
theorem paths_s1 {p : Nat} (h : isPaths p) : shp (p + 1) = some (.inr (.int, 81)) := by rcases h with rfl | rfl <;> rfl
theorem paths_s2 {p : Nat} (h : isPaths p) : shp (p + 2) = some (.inr (.int, 81)) := by rcases h with rfl | rfl <;> rfl
theorem paths_s3 {p : Nat} (h : isPaths p) : shp (p + 3) = some (.inr (.int, 81)) := by rcases h with rfl | rfl <;> rfl
theorem paths_r0 {p : Nat} (h : isPaths p) : RT p 0 = some 1 := by rcases h with rfl | rfl <;> rfl
theorem paths_r1 {p : Nat} (h : isPaths p) : RT p 1 = some (p + 1) := by rcases h with rfl | rfl <;> rfl
theorem paths_r2 {p : Nat} (h : isPaths p) : RT p 2 = some (p + 2) := by rcases h with rfl | rfl <;> rfl
theorem paths_r3 {p : Nat} (h : isPaths p) : RT p 3 = some (p + 3) := by rcases h with rfl | rfl <;> rfl
theorem bytes_n {p nx j : Nat} (h : isBytes p) (hj : j ≤ 1) (hn : 80 ≤ nx) : p + j < nx := by rcases h with rfl | rfl <;> omega
theorem bytes_s0 {p : Nat} (h : isBytes p) : shp p = some (.inl 1) := by rcases h with rfl | rfl <;> rfl
theorem bytes_s1 {p : Nat} (h : isBytes p) : shp (p + 1) = some (.inr (.int, alen (p + 1))) := by rcases h with rfl | rfl <;> rfl
theorem bytes_r0 {p : Nat} (h : isBytes p) : RT p 0 = some (p + 1) := by rcases h with rfl | rfl <;> rfl
/-- rows that may be written, rows that may be read -/
def isRowW (nx a : Nat) : Prop := shp a = some (.inr (.int, alen a)) ∧ a < nx
def isRow (nx a : Nat) : Prop := isRowW nx a ∨ (1000 ≤ a ∧ a ≤ 1007)
theorem isRow_A {C : Cx} {nx a : Nat} (h : isRow nx a) : isA C nx a (alen a) := by
  rcases h with h | ⟨h1, h2⟩
  · exact Or.inl h
  · refine Or.inr ?_
    obtain rfl | rfl | rfl | rfl | rfl | rfl | rfl | rfl : a = 1000 ∨ a = 1001 ∨ a = 1002 ∨ a = 1003 ∨ a = 1004 ∨ a = 1005 ∨ a = 1006 ∨ a = 1007 := by omega
    · exact List.mem_of_getElem? (i := 0) rfl
    · exact List.mem_of_getElem? (i := 1) rfl
    · exact List.mem_of_getElem? (i := 2) rfl
    · exact List.mem_of_getElem? (i := 3) rfl
    · exact List.mem_of_getElem? (i := 4) rfl
    · exact List.mem_of_getElem? (i := 5) rfl
    · exact List.mem_of_getElem? (i := 6) rfl
    · exact List.mem_of_getElem? (i := 7) rfl
theorem rowW_of {nx a n : Nat} (h : shp a = some (.inr (.int, n))) (hl : a < nx) : isRowW nx a := by
  refine ⟨?_, hl⟩
  rw [show alen a = n by unfold alen; rw [h]]
  exact h
theorem lt_of {a n nx : Nat} (h : n ≤ nx) (ha : a < n) : a < nx := Nat.lt_of_lt_of_le ha h

section XX
variable {C : Cx} {M : Mk} {d mc ms ne : Nat} {Qr : Option Value → Hp → Prop} {Qx : String → Hp → Prop} {nx k n pc : Nat} {lv lv' : List (Nat × Value)} {st stk : List Value} {h : Hp} {s : Sg} {α β : Type} {o : β}
theorem x_iconst {z : Int} (hd : decode (mB M) pc = .ok (.iconst z, 1)) (kk : ww C M d mc ms ne Qr Qx nx k n (pc + 1) lv (vi z :: st) h) : ww C M d mc ms ne Qr Qx nx k n pc lv (st) h := w_iconst hd rfl kk
theorem x_bipush {z : Int} (hd : decode (mB M) pc = .ok (.bipush z, 2)) (hv : (Int8.ofInt z).toInt32 = Int32.ofInt z) (kk : ww C M d mc ms ne Qr Qx nx k n (pc + 2) lv (vi z :: st) h) : ww C M d mc ms ne Qr Qx nx k n pc lv (st) h := w_bipush hd hv kk
theorem x_sipush {z : Int} (hd : decode (mB M) pc = .ok (.sipush z, 3)) (hv : (Int16.ofInt z).toInt32 = Int32.ofInt z) (kk : ww C M d mc ms ne Qr Qx nx k n (pc + 3) lv (vi z :: st) h) : ww C M d mc ms ne Qr Qx nx k n pc lv (st) h := w_sipush hd hv kk
theorem x_lconst {z : Fin 2} {x : Int} (hd : decode (mB M) pc = .ok (.lconst z, 1)) (hv : ((z : Nat) : Int) = x) (kk : ww C M d mc ms ne Qr Qx nx k n (pc + 1) lv (vl x :: st) h) : ww C M d mc ms ne Qr Qx nx k n pc lv (st) h := by
  subst hv
  exact w_lconst hd (by rw [Int64.ofInt_eq_ofNat]) kk
theorem x_ldc {idx : Nat} (x : Int) (hd : decode (mB M) pc = .ok (.ldc idx, 2)) (hw : Cond.constant (mY M).cls idx (Int32.ofInt x) ∈ lw_all) (kk : ww C M d mc ms ne Qr Qx nx k n (pc + 2) lv (vi x :: st) h) : ww C M d mc ms ne Qr Qx nx k n pc lv (st) h := w_ldc _ hd hw kk
theorem x_ldcw {idx : Nat} (x : Int) (hd : decode (mB M) pc = .ok (.ldc_w idx, 3)) (hw : Cond.constant (mY M).cls idx (Int32.ofInt x) ∈ lw_all) (kk : ww C M d mc ms ne Qr Qx nx k n (pc + 3) lv (vi x :: st) h) : ww C M d mc ms ne Qr Qx nx k n pc lv (st) h := w_ldcw _ hd hw kk
theorem x_ldc2 {idx : Nat} (x : Int) (hd : decode (mB M) pc = .ok (.ldc2_w idx, 3)) (hw : Cond.constantLong (mY M).cls idx (Int64.ofInt x) ∈ lw_all) (kk : ww C M d mc ms ne Qr Qx nx k n (pc + 3) lv (vl x :: st) h) : ww C M d mc ms ne Qr Qx nx k n pc lv (st) h := w_ldc2 _ hd hw kk
theorem x_iadd {x y : Int} (hd : decode (mB M) pc = .ok (.iadd, 1)) (kk : ww C M d mc ms ne Qr Qx nx k n (pc + 1) lv (vi (x + y) :: st) h) : ww C M d mc ms ne Qr Qx nx k n pc lv (vi y :: vi x :: st) h := w_iadd hd (by rw [← Int32.ofInt_add]; exact kk)
theorem x_isub {x y : Int} (hd : decode (mB M) pc = .ok (.isub, 1)) (kk : ww C M d mc ms ne Qr Qx nx k n (pc + 1) lv (vi (x - y) :: st) h) : ww C M d mc ms ne Qr Qx nx k n pc lv (vi y :: vi x :: st) h := w_isub hd (by rw [← Int32.ofInt_sub]; exact kk)
theorem x_imul {x y : Int} (hd : decode (mB M) pc = .ok (.imul, 1)) (kk : ww C M d mc ms ne Qr Qx nx k n (pc + 1) lv (vi (x * y) :: st) h) : ww C M d mc ms ne Qr Qx nx k n pc lv (vi y :: vi x :: st) h := w_imul hd (by rw [← Int32.ofInt_mul]; exact kk)
theorem x_ladd {x y : Int} (hd : decode (mB M) pc = .ok (.ladd, 1)) (kk : ww C M d mc ms ne Qr Qx nx k n (pc + 1) lv (vl (x + y) :: st) h) : ww C M d mc ms ne Qr Qx nx k n pc lv (vl y :: vl x :: st) h := w_ladd hd (by rw [← Int64.ofInt_add]; exact kk)
theorem x_lsub {x y : Int} (hd : decode (mB M) pc = .ok (.lsub, 1)) (kk : ww C M d mc ms ne Qr Qx nx k n (pc + 1) lv (vl (x - y) :: st) h) : ww C M d mc ms ne Qr Qx nx k n pc lv (vl y :: vl x :: st) h := w_lsub hd (by rw [← Int64.ofInt_sub]; exact kk)
theorem x_lmul {x y : Int} (hd : decode (mB M) pc = .ok (.lmul, 1)) (kk : ww C M d mc ms ne Qr Qx nx k n (pc + 1) lv (vl (x * y) :: st) h) : ww C M d mc ms ne Qr Qx nx k n pc lv (vl y :: vl x :: st) h := w_lmul hd (by rw [← Int64.ofInt_mul]; exact kk)
theorem x_iand {x y : Int} (hd : decode (mB M) pc = .ok (.iand, 1)) (kk : ww C M d mc ms ne Qr Qx nx k n (pc + 1) lv (vi (iandI x y) :: st) h) : ww C M d mc ms ne Qr Qx nx k n pc lv (vi y :: vi x :: st) h := w_iand hd (by rw [show vi (iandI x y) = _ from congrArg Value.int (Int32.ofInt_toInt _)] at kk; exact kk)
theorem x_ior {x y : Int} (hd : decode (mB M) pc = .ok (.ior, 1)) (kk : ww C M d mc ms ne Qr Qx nx k n (pc + 1) lv (vi (iorI x y) :: st) h) : ww C M d mc ms ne Qr Qx nx k n pc lv (vi y :: vi x :: st) h := w_ior hd (by rw [show vi (iorI x y) = _ from congrArg Value.int (Int32.ofInt_toInt _)] at kk; exact kk)
theorem x_ixor {x y : Int} (hd : decode (mB M) pc = .ok (.ixor, 1)) (kk : ww C M d mc ms ne Qr Qx nx k n (pc + 1) lv (vi (ixorI x y) :: st) h) : ww C M d mc ms ne Qr Qx nx k n pc lv (vi y :: vi x :: st) h := w_ixor hd (by rw [show vi (ixorI x y) = _ from congrArg Value.int (Int32.ofInt_toInt _)] at kk; exact kk)
theorem x_ishl {x y : Int} (hd : decode (mB M) pc = .ok (.ishl, 1)) (kk : ww C M d mc ms ne Qr Qx nx k n (pc + 1) lv (vi (ishlI x y) :: st) h) : ww C M d mc ms ne Qr Qx nx k n pc lv (vi y :: vi x :: st) h := w_ishl hd (by rw [show vi (ishlI x y) = _ from congrArg Value.int (Int32.ofInt_toInt _)] at kk; exact kk)
theorem x_ishr {x y : Int} (hd : decode (mB M) pc = .ok (.ishr, 1)) (kk : ww C M d mc ms ne Qr Qx nx k n (pc + 1) lv (vi (ishrI x y) :: st) h) : ww C M d mc ms ne Qr Qx nx k n pc lv (vi y :: vi x :: st) h := w_ishr hd (by rw [show vi (ishrI x y) = _ from congrArg Value.int (Int32.ofInt_toInt _)] at kk; exact kk)
theorem x_land {x y : Int} (hd : decode (mB M) pc = .ok (.land, 1)) (kk : ww C M d mc ms ne Qr Qx nx k n (pc + 1) lv (vl (landI x y) :: st) h) : ww C M d mc ms ne Qr Qx nx k n pc lv (vl y :: vl x :: st) h := w_land hd (by rw [show vl (landI x y) = _ from congrArg Value.long (Int64.ofInt_toInt _)] at kk; exact kk)
theorem x_lor {x y : Int} (hd : decode (mB M) pc = .ok (.lor, 1)) (kk : ww C M d mc ms ne Qr Qx nx k n (pc + 1) lv (vl (lorI x y) :: st) h) : ww C M d mc ms ne Qr Qx nx k n pc lv (vl y :: vl x :: st) h := w_lor hd (by rw [show vl (lorI x y) = _ from congrArg Value.long (Int64.ofInt_toInt _)] at kk; exact kk)
theorem x_lshl {x y : Int} (hd : decode (mB M) pc = .ok (.lshl, 1)) (kk : ww C M d mc ms ne Qr Qx nx k n (pc + 1) lv (vl (lshlI x y) :: st) h) : ww C M d mc ms ne Qr Qx nx k n pc lv (vi y :: vl x :: st) h := w_lshl hd (by rw [show vl (lshlI x y) = _ from congrArg Value.long (Int64.ofInt_toInt _)] at kk; exact kk)
theorem x_lshr {x y : Int} (hd : decode (mB M) pc = .ok (.lshr, 1)) (kk : ww C M d mc ms ne Qr Qx nx k n (pc + 1) lv (vl (lshrI x y) :: st) h) : ww C M d mc ms ne Qr Qx nx k n pc lv (vi y :: vl x :: st) h := w_lshr hd (by rw [show vl (lshrI x y) = _ from congrArg Value.long (Int64.ofInt_toInt _)] at kk; exact kk)
theorem x_lushr {x y : Int} (hd : decode (mB M) pc = .ok (.lushr, 1)) (kk : ww C M d mc ms ne Qr Qx nx k n (pc + 1) lv (vl (lushrI x y) :: st) h) : ww C M d mc ms ne Qr Qx nx k n pc lv (vi y :: vl x :: st) h := w_lushr hd (by rw [show vl (lushrI x y) = _ from congrArg Value.long (Int64.ofInt_toInt _)] at kk; exact kk)
theorem x_i2b {x : Int} (hd : decode (mB M) pc = .ok (.i2b, 1)) (kk : ww C M d mc ms ne Qr Qx nx k n (pc + 1) lv (vi (i2bI x) :: st) h) : ww C M d mc ms ne Qr Qx nx k n pc lv (vi x :: st) h := w_i2b hd (by rw [show vi (i2bI x) = _ from congrArg Value.int (Int32.ofInt_toInt _)] at kk; exact kk)
theorem i2l_v {x : Int} (h : R x) : (Int32.ofInt x).toInt64 = Int64.ofInt x := by
  apply Int64.toInt.inj
  rw [Int32.toInt_toInt64, t32 h, t64 (by unfold R at h; unfold RL64; omega)]
theorem l2i_v (x : Int) : (Int64.ofInt x).toInt32 = Int32.ofInt x := by
  apply Int32.toInt.inj
  rw [Int64.toInt_toInt32, Int64.toInt_ofInt, Int32.toInt_ofInt]
  exact Int.bmod_bmod_of_dvd (by decide)
theorem div_v {x y : Int} (hx : 0 ≤ x ∧ R x) (hy : 0 < y ∧ R y) : Int32.ofInt x / Int32.ofInt y = Int32.ofInt (x / y) := by
  apply Int32.toInt.inj
  rw [Int32.toInt_div, t32 hx.2, t32 hy.2, Int32.toInt_ofInt, Int.tdiv_eq_ediv_of_nonneg hx.1]
theorem ldiv_v {x y : Int} (hx : 0 ≤ x ∧ RL64 x) (hy : 0 < y ∧ RL64 y) : Int64.ofInt x / Int64.ofInt y = Int64.ofInt (x / y) := by
  apply Int64.toInt.inj
  rw [Int64.toInt_div, t64 hx.2, t64 hy.2, Int64.toInt_ofInt, Int.tdiv_eq_ediv_of_nonneg hx.1]
theorem rem_v {x y : Int} (hx : 0 ≤ x ∧ R x) (hy : 0 < y ∧ R y) : Int32.ofInt x - Int32.ofInt x / Int32.ofInt y * Int32.ofInt y = Int32.ofInt (x % y) := by
  rw [div_v hx hy, ← Int32.ofInt_mul, ← Int32.ofInt_sub]
  congr 1
  rw [Int.emod_def, Int.mul_comm]
theorem lrem_v {x y : Int} (hx : 0 ≤ x ∧ RL64 x) (hy : 0 < y ∧ RL64 y) : Int64.ofInt x - Int64.ofInt x / Int64.ofInt y * Int64.ofInt y = Int64.ofInt (x % y) := by
  rw [ldiv_v hx hy, ← Int64.ofInt_mul, ← Int64.ofInt_sub]
  congr 1
  rw [Int.emod_def, Int.mul_comm]
theorem nz_v {y : Int} (hy : 0 < y ∧ R y) : ¬ Int32.ofInt y = 0 := by
  rw [z32, c32e hy.2 R0]; omega
theorem lnz_v {y : Int} (hy : 0 < y ∧ RL64 y) : ¬ Int64.ofInt y = 0 := by
  intro e
  have := congrArg Int64.toInt e
  rw [t64 hy.2] at this
  have h0 : (0 : Int64).toInt = 0 := by decide
  omega
theorem x_i2l {x : Int} (hd : decode (mB M) pc = .ok (.i2l, 1)) (hx : R x) (kk : ww C M d mc ms ne Qr Qx nx k n (pc + 1) lv (vl x :: st) h) : ww C M d mc ms ne Qr Qx nx k n pc lv (vi x :: st) h := w_i2l hd (by rw [i2l_v hx]; exact kk)
theorem x_l2i {x : Int} (hd : decode (mB M) pc = .ok (.l2i, 1)) (kk : ww C M d mc ms ne Qr Qx nx k n (pc + 1) lv (vi x :: st) h) : ww C M d mc ms ne Qr Qx nx k n pc lv (vl x :: st) h := w_l2i hd (by rw [l2i_v x]; exact kk)
theorem x_idiv {x y : Int} (hd : decode (mB M) pc = .ok (.idiv, 1)) (hg : (0 ≤ x ∧ R x) ∧ (0 < y ∧ R y)) (kk : ww C M d mc ms ne Qr Qx nx k n (pc + 1) lv (vi (x / y) :: st) h) : ww C M d mc ms ne Qr Qx nx k n pc lv (vi y :: vi x :: st) h := w_idiv hd (nz_v hg.2) (by rw [div_v hg.1 hg.2]; exact kk)
theorem x_irem {x y : Int} (hd : decode (mB M) pc = .ok (.irem, 1)) (hg : (0 ≤ x ∧ R x) ∧ (0 < y ∧ R y)) (kk : ww C M d mc ms ne Qr Qx nx k n (pc + 1) lv (vi (x % y) :: st) h) : ww C M d mc ms ne Qr Qx nx k n pc lv (vi y :: vi x :: st) h := w_irem hd (nz_v hg.2) (by rw [rem_v hg.1 hg.2]; exact kk)
theorem x_ldiv {x y : Int} (hd : decode (mB M) pc = .ok (.ldiv, 1)) (hg : (0 ≤ x ∧ RL64 x) ∧ (0 < y ∧ RL64 y)) (kk : ww C M d mc ms ne Qr Qx nx k n (pc + 1) lv (vl (x / y) :: st) h) : ww C M d mc ms ne Qr Qx nx k n pc lv (vl y :: vl x :: st) h := w_ldiv hd (lnz_v hg.2) (by rw [ldiv_v hg.1 hg.2]; exact kk)
theorem x_lrem {x y : Int} (hd : decode (mB M) pc = .ok (.lrem, 1)) (hg : (0 ≤ x ∧ RL64 x) ∧ (0 < y ∧ RL64 y)) (kk : ww C M d mc ms ne Qr Qx nx k n (pc + 1) lv (vl (x % y) :: st) h) : ww C M d mc ms ne Qr Qx nx k n pc lv (vl y :: vl x :: st) h := w_lrem hd (lnz_v hg.2) (by rw [lrem_v hg.1 hg.2]; exact kk)
theorem lcmp_v {x y : Int} (hx : RL64 x) (hy : RL64 y) : lg_cmp (Int64.ofInt x) (Int64.ofInt y) = Int32.ofInt (lcmpI x y) := by
  unfold lg_cmp lcmpI
  have h1 : Int64.ofInt x < Int64.ofInt y ↔ x < y := by rw [Int64.lt_iff_toInt_lt, t64 hx, t64 hy]
  have h2 : Int64.ofInt x = Int64.ofInt y ↔ x = y := ⟨fun h => by rw [← t64 hx, ← t64 hy, h], fun h => by rw [h]⟩
  have h3 : Int64.ofInt y < Int64.ofInt x ↔ y < x := by rw [Int64.lt_iff_toInt_lt, t64 hx, t64 hy]
  rcases Int.lt_trichotomy x y with h | h | h
  · have h4 : ¬ y < x := by omega
    have h5 : ¬ x = y := by omega
    simp only [GT.gt, h3, h2, h4, h5, h, if_true, if_false]
    decide
  · subst h
    simp only [GT.gt, Int.lt_irrefl, h3, h2, if_true, if_false]
    decide
  · have h4 : ¬ x < y := by omega
    have h5 : ¬ x = y := by omega
    simp only [GT.gt, h3, h2, h4, h5, h, if_true, if_false]
    decide
theorem x_lcmp {x y : Int} (hd : decode (mB M) pc = .ok (.lcmp, 1)) (hx : RL64 x) (hy : RL64 y) (kk : ww C M d mc ms ne Qr Qx nx k n (pc + 1) lv (vi (lcmpI x y) :: st) h) : ww C M d mc ms ne Qr Qx nx k n pc lv (vl y :: vl x :: st) h := w_lcmp hd (by rw [lcmp_v hx hy]; exact kk)
theorem lg_self (x : Int64) : lg_cmp x x = 0 := by
  unfold lg_cmp
  rw [if_neg (fun h => Int.lt_irrefl _ (Int64.lt_iff_toInt_lt.mp h)), if_pos rfl]
theorem x_lcmpE {x y : Int} (hd : decode (mB M) pc = .ok (.lcmp, 1)) (he : x = y) (kk : ww C M d mc ms ne Qr Qx nx k n (pc + 1) lv (vi 0 :: st) h) : ww C M d mc ms ne Qr Qx nx k n pc lv (vl y :: vl x :: st) h := by
  subst he
  exact w_lcmp hd (by rw [lg_self, z32]; exact kk)
theorem x_iinc (q : Nat) {i : Nat} {z x : Int} (hd : decode (mB M) pc = .ok (.iinc i z, 3)) (hq : lv[q]? = some (i, vi x)) (hn : i < mL M) (hl : (i, vi (x + z)) :: lv.filter (fun q => !(q.1 == i) && !(q.1 + 1 == i && q.2.category == 2)) = lv')
    (kk : ww C M d mc ms ne Qr Qx nx k n (pc + 3) lv' st h) : ww C M d mc ms ne Qr Qx nx k n pc lv st h := w_iinc q hd hq (by rw [← Int32.ofInt_add]) hn hl kk
theorem x_icmpeq {x y : Int} {A B : Option β} {off : Int} {tgt : Nat} (hs : ifEq x y A B = some o) (hd : decode (mB M) pc = .ok (.if_icmp .eq off, 3)) (ht : (pc : Int) + off = (tgt : Int)) (kt : A = some o → ww C M d mc ms ne Qr Qx nx k n tgt lv st h) (kf : B = some o → ww C M d mc ms ne Qr Qx nx k n (pc + 3) lv st h) : ww C M d mc ms ne Qr Qx nx k n pc lv (vi y :: vi x :: st) h := by
  obtain ⟨hx, hy, hA, hB⟩ := ifEq_u hs
  exact w_icmpeq hd ht (fun q => kt (hA ((c32e hx hy).mp q))) (fun q => kf (hB (fun e => q ((c32e hx hy).mpr e))))
theorem x_icmpne {x y : Int} {A B : Option β} {off : Int} {tgt : Nat} (hs : ifEq x y A B = some o) (hd : decode (mB M) pc = .ok (.if_icmp .ne off, 3)) (ht : (pc : Int) + off = (tgt : Int)) (kt : B = some o → ww C M d mc ms ne Qr Qx nx k n tgt lv st h) (kf : A = some o → ww C M d mc ms ne Qr Qx nx k n (pc + 3) lv st h) : ww C M d mc ms ne Qr Qx nx k n pc lv (vi y :: vi x :: st) h := by
  obtain ⟨hx, hy, hA, hB⟩ := ifEq_u hs
  exact w_icmpne hd ht (fun q => kt (hB (fun e => q ((c32e hx hy).mpr e)))) (fun q => kf (hA ((c32e hx hy).mp q)))
theorem x_icmplt {x y : Int} {A B : Option β} {off : Int} {tgt : Nat} (hs : ifLt x y A B = some o) (hd : decode (mB M) pc = .ok (.if_icmp .lt off, 3)) (ht : (pc : Int) + off = (tgt : Int)) (kt : A = some o → ww C M d mc ms ne Qr Qx nx k n tgt lv st h) (kf : B = some o → ww C M d mc ms ne Qr Qx nx k n (pc + 3) lv st h) : ww C M d mc ms ne Qr Qx nx k n pc lv (vi y :: vi x :: st) h := by
  obtain ⟨hx, hy, hA, hB⟩ := ifLt_u hs
  exact w_icmplt hd ht (fun q => kt (hA ((c32l hx hy).mp q))) (fun q => kf (hB (fun e => q ((c32l hx hy).mpr e))))
theorem x_icmpge {x y : Int} {A B : Option β} {off : Int} {tgt : Nat} (hs : ifLt x y A B = some o) (hd : decode (mB M) pc = .ok (.if_icmp .ge off, 3)) (ht : (pc : Int) + off = (tgt : Int)) (kt : B = some o → ww C M d mc ms ne Qr Qx nx k n tgt lv st h) (kf : A = some o → ww C M d mc ms ne Qr Qx nx k n (pc + 3) lv st h) : ww C M d mc ms ne Qr Qx nx k n pc lv (vi y :: vi x :: st) h := by
  obtain ⟨hx, hy, hA, hB⟩ := ifLt_u hs
  exact w_icmpge hd ht (fun q => kt (hB (by have := (c32m hy hx).mp q; omega))) (fun q => kf (hA (by have := Int.not_le.mp fun e => q ((c32m hy hx).mpr e); omega)))

theorem x_icmpgt {x y : Int} {A B : Option β} {off : Int} {tgt : Nat} (hs : ifLt y x A B = some o) (hd : decode (mB M) pc = .ok (.if_icmp .gt off, 3)) (ht : (pc : Int) + off = (tgt : Int)) (kt : A = some o → ww C M d mc ms ne Qr Qx nx k n tgt lv st h) (kf : B = some o → ww C M d mc ms ne Qr Qx nx k n (pc + 3) lv st h) : ww C M d mc ms ne Qr Qx nx k n pc lv (vi y :: vi x :: st) h := by
  obtain ⟨hx, hy, hA, hB⟩ := ifLt_u hs
  exact w_icmpgt hd ht (fun q => kt (hA (by exact (c32l hx hy).mp q))) (fun q => kf (hB (by exact fun e => q ((c32l hx hy).mpr e))))
theorem x_icmple {x y : Int} {A B : Option β} {off : Int} {tgt : Nat} (hs : ifLt y x A B = some o) (hd : decode (mB M) pc = .ok (.if_icmp .le off, 3)) (ht : (pc : Int) + off = (tgt : Int)) (kt : B = some o → ww C M d mc ms ne Qr Qx nx k n tgt lv st h) (kf : A = some o → ww C M d mc ms ne Qr Qx nx k n (pc + 3) lv st h) : ww C M d mc ms ne Qr Qx nx k n pc lv (vi y :: vi x :: st) h := by
  obtain ⟨hx, hy, hA, hB⟩ := ifLt_u hs
  exact w_icmple hd ht (fun q => kt (hB (by have := (c32m hy hx).mp q; omega))) (fun q => kf (hA (by have := Int.not_le.mp fun e => q ((c32m hy hx).mpr e); omega)))
theorem x_ifeq {x : Int} {A B : Option β} {off : Int} {tgt : Nat} (hs : ifEq x 0 A B = some o) (hd : decode (mB M) pc = .ok (.ifCond .eq off, 3)) (ht : (pc : Int) + off = (tgt : Int)) (kt : A = some o → ww C M d mc ms ne Qr Qx nx k n tgt lv st h) (kf : B = some o → ww C M d mc ms ne Qr Qx nx k n (pc + 3) lv st h) : ww C M d mc ms ne Qr Qx nx k n pc lv (vi x :: st) h := by
  obtain ⟨hx, hy, hA, hB⟩ := ifEq_u hs
  exact w_ifeq hd ht (fun q => kt (hA ((c32e hx hy).mp (by rw [z32] at q; exact q)))) (fun q => kf (hB (fun e => q (by rw [z32]; exact (c32e hx hy).mpr e))))
theorem x_ifne {x : Int} {A B : Option β} {off : Int} {tgt : Nat} (hs : ifEq x 0 A B = some o) (hd : decode (mB M) pc = .ok (.ifCond .ne off, 3)) (ht : (pc : Int) + off = (tgt : Int)) (kt : B = some o → ww C M d mc ms ne Qr Qx nx k n tgt lv st h) (kf : A = some o → ww C M d mc ms ne Qr Qx nx k n (pc + 3) lv st h) : ww C M d mc ms ne Qr Qx nx k n pc lv (vi x :: st) h := by
  obtain ⟨hx, hy, hA, hB⟩ := ifEq_u hs
  exact w_ifne hd ht (fun q => kt (hB (fun e => q (by rw [z32]; exact (c32e hx hy).mpr e)))) (fun q => kf (hA ((c32e hx hy).mp (by rw [z32] at q; exact q))))
theorem x_iflt {x : Int} {A B : Option β} {off : Int} {tgt : Nat} (hs : ifLt x 0 A B = some o) (hd : decode (mB M) pc = .ok (.ifCond .lt off, 3)) (ht : (pc : Int) + off = (tgt : Int)) (kt : A = some o → ww C M d mc ms ne Qr Qx nx k n tgt lv st h) (kf : B = some o → ww C M d mc ms ne Qr Qx nx k n (pc + 3) lv st h) : ww C M d mc ms ne Qr Qx nx k n pc lv (vi x :: st) h := by
  obtain ⟨hx, hy, hA, hB⟩ := ifLt_u hs
  exact w_iflt hd ht (fun q => kt (hA ((c32l hx hy).mp (by rw [z32] at q; exact q)))) (fun q => kf (hB (fun e => q (by rw [z32]; exact (c32l hx hy).mpr e))))
theorem x_ifge {x : Int} {A B : Option β} {off : Int} {tgt : Nat} (hs : ifLt x 0 A B = some o) (hd : decode (mB M) pc = .ok (.ifCond .ge off, 3)) (ht : (pc : Int) + off = (tgt : Int)) (kt : B = some o → ww C M d mc ms ne Qr Qx nx k n tgt lv st h) (kf : A = some o → ww C M d mc ms ne Qr Qx nx k n (pc + 3) lv st h) : ww C M d mc ms ne Qr Qx nx k n pc lv (vi x :: st) h := by
  obtain ⟨hx, hy, hA, hB⟩ := ifLt_u hs
  exact w_ifge hd ht (fun q => kt (hB (by rw [z32] at q; have := (c32m hy hx).mp q; omega))) (fun q => kf (hA (by rw [z32] at q; have := Int.not_le.mp fun e => q ((c32m hy hx).mpr e); omega)))
theorem x_ifgt {x : Int} {A B : Option β} {off : Int} {tgt : Nat} (hs : ifLt 0 x A B = some o) (hd : decode (mB M) pc = .ok (.ifCond .gt off, 3)) (ht : (pc : Int) + off = (tgt : Int)) (kt : A = some o → ww C M d mc ms ne Qr Qx nx k n tgt lv st h) (kf : B = some o → ww C M d mc ms ne Qr Qx nx k n (pc + 3) lv st h) : ww C M d mc ms ne Qr Qx nx k n pc lv (vi x :: st) h := by
  obtain ⟨hx, hy, hA, hB⟩ := ifLt_u hs
  exact w_ifgt hd ht (fun q => kt (hA (by rw [z32] at q; exact (c32l hx hy).mp q))) (fun q => kf (hB (by rw [z32] at q; exact fun e => q ((c32l hx hy).mpr e))))
theorem x_ifle {x : Int} {A B : Option β} {off : Int} {tgt : Nat} (hs : ifLt 0 x A B = some o) (hd : decode (mB M) pc = .ok (.ifCond .le off, 3)) (ht : (pc : Int) + off = (tgt : Int)) (kt : B = some o → ww C M d mc ms ne Qr Qx nx k n tgt lv st h) (kf : A = some o → ww C M d mc ms ne Qr Qx nx k n (pc + 3) lv st h) : ww C M d mc ms ne Qr Qx nx k n pc lv (vi x :: st) h := by
  obtain ⟨hx, hy, hA, hB⟩ := ifLt_u hs
  exact w_ifle hd ht (fun q => kt (hB (by rw [z32] at q; have := (c32m hy hx).mp q; omega))) (fun q => kf (hA (by rw [z32] at q; have := Int.not_le.mp fun e => q ((c32m hy hx).mpr e); omega)))
theorem x_tableIn {x : Int} {dflt lo hi off : Int} {offs : Array Int} {len tgt : Nat} (z : Int) (hz : x = z) (hR : R z) (hd : decode (mB M) pc = .ok (.tableswitch dflt lo hi offs, len)) (h1 : ¬ z < lo) (h2 : ¬ hi < z) (ho : offs[(z - lo).toNat]? = some off) (ht : (pc : Int) + off = (tgt : Int)) (kk : ww C M d mc ms ne Qr Qx nx k n tgt lv st h) : ww C M d mc ms ne Qr Qx nx k n pc lv (vi x :: st) h := by
  subst hz
  exact w_tableIn hd (by rw [t32 hR]; exact h1) (by rw [t32 hR]; exact h2) (by rw [t32 hR]; exact ho) ht kk
theorem x_tableOut {x : Int} {dflt lo hi : Int} {offs : Array Int} {len tgt : Nat} (hR : R x) (hd : decode (mB M) pc = .ok (.tableswitch dflt lo hi offs, len)) (h1 : x < lo ∨ hi < x) (ht : (pc : Int) + dflt = (tgt : Int)) (kk : ww C M d mc ms ne Qr Qx nx k n tgt lv st h) : ww C M d mc ms ne Qr Qx nx k n pc lv (vi x :: st) h :=
  w_tableOut hd (by rw [t32 hR]; exact h1) ht kk
def FX (M : Mk) (idx ci f : Nat) : Prop := FL M idx ci f ∨ FN M idx ci f
theorem x_getI (ci f : Nat) {idx a : Nat} (hd : decode (mB M) pc = .ok (.getfield idx, 3)) (hf : FX M idx ci f) (hty : isI (cty ci f) = true) (hs : shp a = some (.inl ci)) (ha : a < nx) (kk : ww C M d mc ms ne Qr Qx nx k n (pc + 3) lv (vi (gi s a f) :: st) (hp nx s)) : ww C M d mc ms ne Qr Qx nx k n pc lv (.ref a :: st) (hp nx s) :=
  hf.elim (fun hf => w_getI ci f hd hf hty (shp_C hs) ha kk) (fun hf => w_getIn ci f hd hf hty (shp_C hs) ha kk)
theorem x_getL (ci f : Nat) {idx a : Nat} (hd : decode (mB M) pc = .ok (.getfield idx, 3)) (hf : FL M idx ci f) (hty : cty ci f = .long) (hs : shp a = some (.inl ci)) (ha : a < nx) (kk : ww C M d mc ms ne Qr Qx nx k n (pc + 3) lv (vl (gl s a f) :: st) (hp nx s)) : ww C M d mc ms ne Qr Qx nx k n pc lv (.ref a :: st) (hp nx s) := w_getL ci f hd hf hty (shp_C hs) ha kk
theorem x_getR (ci f : Nat) {idx a b : Nat} (hd : decode (mB M) pc = .ok (.getfield idx, 3)) (hf : FX M idx ci f) (hty : isR (cty ci f) = true) (hs : shp a = some (.inl ci)) (ha : a < nx) (hb : RT a f = some b) (kk : ww C M d mc ms ne Qr Qx nx k n (pc + 3) lv (.ref b :: st) (hp nx s)) : ww C M d mc ms ne Qr Qx nx k n pc lv (.ref a :: st) (hp nx s) :=
  hf.elim (fun hf => w_getR ci f hd hf hty (shp_C hs) ha (hpR ha hb) kk) (fun hf => w_getRn ci f hd hf hty (shp_C hs) ha (hpR ha hb) kk)
theorem x_putI (ci f : Nat) {idx a : Nat} {x : Int} (hd : decode (mB M) pc = .ok (.putfield idx, 3)) (hf : putOK M idx ci f) (hty : cty ci f = .int) (hs : shp a = some (.inl ci)) (ha : a < nx) (kk : ww C M d mc ms ne Qr Qx nx k n (pc + 3) lv st (hp nx (si s a f x))) : ww C M d mc ms ne Qr Qx nx k n pc lv (vi x :: .ref a :: st) (hp nx s) :=
  w_putI ci f hd hf (by rw [hty]; rfl) (shp_C hs) ha (by rw [hty]; rfl) (by rw [hty]; rfl) (by rw [hp_si]; exact kk)
theorem x_putZ (ci f : Nat) {idx a : Nat} {x : Int} (hg : b01 x) (hd : decode (mB M) pc = .ok (.putfield idx, 3)) (hf : putOK M idx ci f) (hty : cty ci f = .boolean) (hs : shp a = some (.inl ci)) (ha : a < nx) (kk : ww C M d mc ms ne Qr Qx nx k n (pc + 3) lv st (hp nx (si s a f x))) : ww C M d mc ms ne Qr Qx nx k n pc lv (vi x :: .ref a :: st) (hp nx s) :=
  w_putI ci f hd hf (by rw [hty]; rfl) (shp_C hs) ha (by rw [hty]; rcases hg with rfl | rfl <;> rfl) (by rw [hty]; rcases hg with rfl | rfl <;> rfl) (by rw [hp_si]; exact kk)
theorem x_putL (ci f : Nat) {idx a : Nat} {x : Int} (hd : decode (mB M) pc = .ok (.putfield idx, 3)) (hf : putOK M idx ci f) (hty : cty ci f = .long) (hs : shp a = some (.inl ci)) (ha : a < nx) (kk : ww C M d mc ms ne Qr Qx nx k n (pc + 3) lv st (hp nx (sl s a f x))) : ww C M d mc ms ne Qr Qx nx k n pc lv (vl x :: .ref a :: st) (hp nx s) :=
  w_putL ci f hd hf hty (shp_C hs) ha (by rw [hp_sl]; exact kk)
theorem ix_v {i : Int} {m1 : Nat} (hi : 0 ≤ i ∧ i < (m1 : Int)) (hm : m1 ≤ 4096) : vp_in (Int32.ofInt i) m1 ∧ (Int32.ofInt i).toNatClampNeg = i.toNat := by
  have hR : R i := by unfold R; omega
  have h2 : (Int32.ofInt i).toNatClampNeg = i.toNat := by
    show (Int32.ofInt i).toInt.toNat = i.toNat
    rw [t32 hR]
  refine ⟨?_, h2⟩
  rintro (q | q)
  · rw [z32, c32l hR R0] at q; omega
  · rw [h2] at q; omega
theorem x_iald {a m1 : Nat} {i : Int} (hi : 0 ≤ i ∧ i < (m1 : Int)) (hm : m1 ≤ 4096) (hd : decode (mB M) pc = .ok (.iaload, 1)) (hA : isA C nx a m1) (kk : ww C M d mc ms ne Qr Qx nx k n (pc + 1) lv (vi (gi s a i.toNat) :: st) (hp nx s)) : ww C M d mc ms ne Qr Qx nx k n pc lv (vi i :: .ref a :: st) (hp nx s) := by
  obtain ⟨h1, h2⟩ := ix_v hi hm
  refine w_iald hd hA h1 ?_
  rw [h2]
  exact kk
theorem x_zald {a m1 : Nat} {i : Int} (hi : 0 ≤ i ∧ i < (m1 : Int)) (hm : m1 ≤ 4096) (hd : decode (mB M) pc = .ok (.baload, 1)) (hA : shp a = some (.inr (.boolean, m1))) (ha : a < nx) (kk : ww C M d mc ms ne Qr Qx nx k n (pc + 1) lv (vi (gi s a i.toNat) :: st) (hp nx s)) : ww C M d mc ms ne Qr Qx nx k n pc lv (vi i :: .ref a :: st) (hp nx s) := by
  obtain ⟨h1, h2⟩ := ix_v hi hm
  refine w_zald hd (shp_C hA) ha h1 ?_
  rw [h2]
  exact kk
theorem x_bald {a m1 : Nat} {i : Int} (hi : 0 ≤ i ∧ i < (m1 : Int)) (hm : m1 ≤ 4096) (hd : decode (mB M) pc = .ok (.baload, 1)) (hA : shp a = some (.inr (.byte, m1))) (ha : a < nx) (kk : ww C M d mc ms ne Qr Qx nx k n (pc + 1) lv (vi (gi s a i.toNat) :: st) (hp nx s)) : ww C M d mc ms ne Qr Qx nx k n pc lv (vi i :: .ref a :: st) (hp nx s) := by
  obtain ⟨h1, h2⟩ := ix_v hi hm
  refine w_bald hd (shp_C hA) ha h1 ?_
  rw [h2]
  exact kk
theorem x_aald {a b m1 : Nat} {i : Int} (hi : 0 ≤ i ∧ i < (m1 : Int)) (hm : m1 ≤ 4096) (hd : decode (mB M) pc = .ok (.aaload, 1)) (hA : shp a = some (.inr (ty_pos, m1))) (ha : a < nx) (hb : RT a i.toNat = some b) (kk : ww C M d mc ms ne Qr Qx nx k n (pc + 1) lv (.ref b :: st) (hp nx s)) : ww C M d mc ms ne Qr Qx nx k n pc lv (vi i :: .ref a :: st) (hp nx s) := by
  obtain ⟨h1, h2⟩ := ix_v hi hm
  exact w_aaldR hd hA ha h1 (by rw [h2]; exact hpR ha hb) kk
theorem x_alen {a m1 : Nat} (hd : decode (mB M) pc = .ok (.arraylength, 1)) (hA : isA C nx a m1) (kk : ww C M d mc ms ne Qr Qx nx k n (pc + 1) lv (vi (m1 : Int) :: st) h) : ww C M d mc ms ne Qr Qx nx k n pc lv (.ref a :: st) h :=
  w_alen hd hA (by rw [← Int32.ofInt_eq_ofNat]; exact kk)
theorem x_alenq {a m1 : Nat} (hd : decode (mB M) pc = .ok (.arraylength, 1)) (hA : shp a = some (.inr (ty_pos, m1))) (ha : a < nx) (kk : ww C M d mc ms ne Qr Qx nx k n (pc + 1) lv (vi (m1 : Int) :: st) h) : ww C M d mc ms ne Qr Qx nx k n pc lv (.ref a :: st) h :=
  w_alenq hd hA ha (by rw [← Int32.ofInt_eq_ofNat]; exact kk)
theorem x_iast {a m1 : Nat} {i x : Int} (hi : 0 ≤ i ∧ i < (m1 : Int)) (hm : m1 ≤ 4096) (hd : decode (mB M) pc = .ok (.iastore, 1)) (hA : shp a = some (.inr (.int, m1))) (ha : a < nx) (kk : ww C M d mc ms ne Qr Qx nx k n (pc + 1) lv st (hp nx (si s a i.toNat x))) : ww C M d mc ms ne Qr Qx nx k n pc lv (vi x :: vi i :: .ref a :: st) (hp nx s) := by
  obtain ⟨h1, h2⟩ := ix_v hi hm
  refine w_iast hd (shp_C hA) ha h1 ?_
  rw [h2, hp_si]
  exact kk
theorem x_zast {a m1 : Nat} {i x : Int} (hg : b01 x) (hi : 0 ≤ i ∧ i < (m1 : Int)) (hm : m1 ≤ 4096) (hd : decode (mB M) pc = .ok (.bastore, 1)) (hA : shp a = some (.inr (.boolean, m1))) (ha : a < nx) (kk : ww C M d mc ms ne Qr Qx nx k n (pc + 1) lv st (hp nx (si s a i.toNat x))) : ww C M d mc ms ne Qr Qx nx k n pc lv (vi x :: vi i :: .ref a :: st) (hp nx s) := by
  obtain ⟨h1, h2⟩ := ix_v hi hm
  refine w_zast hd (shp_C hA) ha h1 ?_
  rw [h2, show vp_nar .boolean (Int32.ofInt x) = Int32.ofInt x by rcases hg with rfl | rfl <;> rfl, hp_si]
  exact kk
theorem x_bast {a m1 : Nat} {i x : Int} (hi : 0 ≤ i ∧ i < (m1 : Int)) (hm : m1 ≤ 4096) (hd : decode (mB M) pc = .ok (.bastore, 1)) (hA : shp a = some (.inr (.byte, m1))) (ha : a < nx) (kk : ww C M d mc ms ne Qr Qx nx k n (pc + 1) lv st (hp nx (si s a i.toNat (i2bI x)))) : ww C M d mc ms ne Qr Qx nx k n pc lv (vi x :: vi i :: .ref a :: st) (hp nx s) := by
  obtain ⟨h1, h2⟩ := ix_v hi hm
  refine w_bast hd (shp_C hA) ha h1 ?_
  rw [h2, show vp_nar .byte (Int32.ofInt x) = Int32.ofInt (i2bI x) from (Int32.ofInt_toInt _).symm, hp_si]
  exact kk

def isTk (C : Cx) (nx a : Nat) : Prop := shC C a = some (.inr (.boolean, 81)) ∧ a < nx
theorem x_zaldC {a m1 : Nat} {i : Int} (hi : 0 ≤ i ∧ i < (m1 : Int)) (hm : m1 ≤ 4096) (hd : decode (mB M) pc = .ok (.baload, 1)) (hA : shC C a = some (.inr (.boolean, m1))) (ha : a < nx) (kk : ww C M d mc ms ne Qr Qx nx k n (pc + 1) lv (vi (gi s a i.toNat) :: st) (hp nx s)) : ww C M d mc ms ne Qr Qx nx k n pc lv (vi i :: .ref a :: st) (hp nx s) := by
  obtain ⟨h1, h2⟩ := ix_v hi hm
  refine w_zald hd hA ha h1 ?_
  rw [h2]
  exact kk
theorem x_zastC {a m1 : Nat} {i x : Int} (hg : b01 x) (hi : 0 ≤ i ∧ i < (m1 : Int)) (hm : m1 ≤ 4096) (hd : decode (mB M) pc = .ok (.bastore, 1)) (hA : shC C a = some (.inr (.boolean, m1))) (ha : a < nx) (kk : ww C M d mc ms ne Qr Qx nx k n (pc + 1) lv st (hp nx (si s a i.toNat x))) : ww C M d mc ms ne Qr Qx nx k n pc lv (vi x :: vi i :: .ref a :: st) (hp nx s) := by
  obtain ⟨h1, h2⟩ := ix_v hi hm
  refine w_zast hd hA ha h1 ?_
  rw [h2, show vp_nar .boolean (Int32.ofInt x) = Int32.ofInt x by rcases hg with rfl | rfl <;> rfl, hp_si]
  exact kk
theorem x_bastC {a m1 : Nat} {i x : Int} (hi : 0 ≤ i ∧ i < (m1 : Int)) (hm : m1 ≤ 4096) (hd : decode (mB M) pc = .ok (.bastore, 1)) (hA : shC C a = some (.inr (.byte, m1))) (ha : a < nx) (kk : ww C M d mc ms ne Qr Qx nx k n (pc + 1) lv st (hp nx (si s a i.toNat (i2bI x)))) : ww C M d mc ms ne Qr Qx nx k n pc lv (vi x :: vi i :: .ref a :: st) (hp nx s) := by
  obtain ⟨h1, h2⟩ := ix_v hi hm
  refine w_bast hd hA ha h1 ?_
  rw [h2, show vp_nar .byte (Int32.ofInt x) = Int32.ofInt (i2bI x) from (Int32.ofInt_toInt _).symm, hp_si]
  exact kk
theorem x_baldC {a m1 : Nat} {i : Int} (hi : 0 ≤ i ∧ i < (m1 : Int)) (hm : m1 ≤ 4096) (hd : decode (mB M) pc = .ok (.baload, 1)) (hA : shC C a = some (.inr (.byte, m1))) (ha : a < nx) (kk : ww C M d mc ms ne Qr Qx nx k n (pc + 1) lv (vi (gi s a i.toNat) :: st) (hp nx s)) : ww C M d mc ms ne Qr Qx nx k n pc lv (vi i :: .ref a :: st) (hp nx s) := by
  obtain ⟨h1, h2⟩ := ix_v hi hm
  refine w_bald hd hA ha h1 ?_
  rw [h2]
  exact kk
theorem x_mmax {x y : Int} {idx : Nat} (hx : R x) (hy : R y) (hd : decode (mB M) pc = .ok (.invokestatic idx, 3)) (hlk : Cond.methodLink (mY M).cls idx Lib.Math.max.name ∈ lw_all ∧ Cond.static Lib.Math.max.name ∈ lw_all ∧ Cond.initialized "java/lang/Math" ∈ lw_all ∧ Cond.code Lib.Math.max.name Lib.Math.max.code 2 (some .int) ∈ lw_all) (hdd : 1 ≤ d) (hw : (st.map fun v => v.category).sum ≤ 8) (hk : k ≤ mc) (hn : n ≤ ms) (kk : ww C M d mc ms ne Qr Qx nx k n (pc + 3) lv (vi (max x y) :: st) h) : ww C M d mc ms ne Qr Qx nx k n pc lv (vi y :: vi x :: st) h := by
  intro p l ee s m args below meth c Fin cz hr hx9 hzz H locs ls hP hS hL
  refine va_mmax (x := Int32.ofInt x) (y := Int32.ofInt y) (rest := st.map (up C)) cz.1.1 cz.1.2.1 (cz.1.2.2.2.1.trans hL.1.symm) cz.1.2.2.2.2 (cz.2.1 _ hlk.1) (cz.2.1 _ hlk.2.1) (cz.2.1 _ hlk.2.2.1) (cz.2.1 _ hlk.2.2.2) hdd (by rw [up_sum]; show _ ≤ 70 * d; omega) hk hn hd ?_
  have e : (if Int32.ofInt x < Int32.ofInt y then Int32.ofInt y else Int32.ofInt x) = Int32.ofInt (max x y) := by
    split
    · rename_i q
      congr 1
      have := (c32l hx hy).mp q
      rw [Int.max_def]
      split <;> omega
    · rename_i q
      congr 1
      have := Int.not_lt.mp fun e => q ((c32l hx hy).mpr e)
      rw [Int.max_def]
      split <;> omega
  rw [e]
  exact kk p l ee s m args below meth c Fin cz hr hx9 hzz H locs ls hP hS hL
theorem x_mmin {x y : Int} {idx : Nat} (hx : R x) (hy : R y) (hd : decode (mB M) pc = .ok (.invokestatic idx, 3)) (hlk : Cond.methodLink (mY M).cls idx Lib.Math.min.name ∈ lw_all ∧ Cond.static Lib.Math.min.name ∈ lw_all ∧ Cond.initialized "java/lang/Math" ∈ lw_all ∧ Cond.code Lib.Math.min.name Lib.Math.min.code 2 (some .int) ∈ lw_all) (hdd : 1 ≤ d) (hw : (st.map fun v => v.category).sum ≤ 8) (hk : k ≤ mc) (hn : n ≤ ms) (kk : ww C M d mc ms ne Qr Qx nx k n (pc + 3) lv (vi (min x y) :: st) h) : ww C M d mc ms ne Qr Qx nx k n pc lv (vi y :: vi x :: st) h := by
  intro p l ee s m args below meth c Fin cz hr hx9 hzz H locs ls hP hS hL
  refine va_mmin (x := Int32.ofInt x) (y := Int32.ofInt y) (rest := st.map (up C)) cz.1.1 cz.1.2.1 (cz.1.2.2.2.1.trans hL.1.symm) cz.1.2.2.2.2 (cz.2.1 _ hlk.1) (cz.2.1 _ hlk.2.1) (cz.2.1 _ hlk.2.2.1) (cz.2.1 _ hlk.2.2.2) hdd (by rw [up_sum]; show _ ≤ 70 * d; omega) hk hn hd ?_
  have e : (if Int32.ofInt y < Int32.ofInt x then Int32.ofInt y else Int32.ofInt x) = Int32.ofInt (min x y) := by
    split
    · rename_i q
      congr 1
      have := (c32l hy hx).mp q
      rw [Int.min_def]
      split <;> omega
    · rename_i q
      congr 1
      have := Int.not_lt.mp fun e => q ((c32l hy hx).mpr e)
      rw [Int.min_def]
      split <;> omega
  rw [e]
  exact kk p l ee s m args below meth c Fin cz hr hx9 hzz H locs ls hP hS hL
theorem x_gets {cls nm : String} {i idx : Nat} (hi : 1000 ≤ i) (hm : (cls, nm, i) ∈ rsF) (hd : decode (mB M) pc = .ok (.getstatic idx, 3)) (hlk : Cond.fieldLink (mY M).cls idx cls nm "[I" ∈ lw_all) (kk : ww C M d mc ms ne Qr Qx nx k n (pc + 3) lv (.ref i :: st) h) : ww C M d mc ms ne Qr Qx nx k n pc lv st h := by
  intro p l e s m args below meth c Fin cz hr hx9 hzz H locs ls hP hS hL
  have h9 := kk p l e s m args below meth c Fin cz hr hx9 hzz H locs ls hP hS hL
  have h8 : up C (.ref i) = .ref (xO C i) := by show Value.ref (ad C i) = _; rw [ad_ge hi]
  rw [List.map_cons, h8] at h9
  exact va_gets (A := xAl C) cz.1.1 cz.1.2.1 (cz.2.2.2.1.2.2.2.1 _ hm) hS cz.1.2.2.2.2 (cz.2.1 _ hlk) (fun _ z => z) hd h9
theorem x_V_I (M' : Mk) (As : List Value) (st : List Value) {idx d' b ci  : Nat} {m : Option Int} {f : Int → Option β} (hs : bnd m f = some o) (hst : stk = As.reverse ++ .ref b :: st) (hd : decode (mB M) pc = .ok (.invokevirtual idx, 3)) (hlk : LKV M M' idx As.length) (hb : b < nx) (hsh : shp b = some (.inl ci)) (hci : cR ci = (mY M').cls) (hdd : d' + 1 ≤ d) (hk : k ≤ mc) (hn : n ≤ ms) (hw : (st.map fun v => v.category).sum ≤ 8)
    (hm : ∀ r, m = some r → mm C M' d' 0 0 nx nx (.ref b :: As) (hp nx s) (QI nx s r) XF) (kk : ∀ r, m = some r → f r = some o → ww C M d mc ms ne Qr Qx nx k n (pc + 3) lv (vi r :: st) (hp nx s)) : ww C M d mc ms ne Qr Qx nx k n pc lv stk (hp nx s) := by
  subst hst
  refine bnd_e hs fun r hr hs => ?_
  refine w_callV M' As hd hlk hb (shp_C hsh) hci hdd hk hn hw (hm r hr) XOK.no (fun v h' hq => ?_)
  obtain ⟨rfl, rfl⟩ := hq
  exact kk r hr hs
theorem x_V_V (M' : Mk) (As : List Value) (st : List Value) {idx d' b ci  : Nat} {m : Option Sg} {f : Sg → Option β} (hs : bnd m f = some o) (hst : stk = As.reverse ++ .ref b :: st) (hd : decode (mB M) pc = .ok (.invokevirtual idx, 3)) (hlk : LKV M M' idx As.length) (hb : b < nx) (hsh : shp b = some (.inl ci)) (hci : cR ci = (mY M').cls) (hdd : d' + 1 ≤ d) (hk : k ≤ mc) (hn : n ≤ ms) (hw : (st.map fun v => v.category).sum ≤ 8)
    (hm : ∀ r, m = some r → mm C M' d' 0 0 nx nx (.ref b :: As) (hp nx s) (QV nx r) XF) (kk : ∀ r, m = some r → f r = some o → ww C M d mc ms ne Qr Qx nx k n (pc + 3) lv st (hp nx r)) : ww C M d mc ms ne Qr Qx nx k n pc lv stk (hp nx s) := by
  subst hst
  refine bnd_e hs fun r hr hs => ?_
  refine w_callV M' As hd hlk hb (shp_C hsh) hci hdd hk hn hw (hm r hr) XOK.no (fun v h' hq => ?_)
  obtain ⟨rfl, rfl⟩ := hq
  exact kk r hr hs
theorem x_V_B (M' : Mk) (As : List Value) (st : List Value) {idx d' b ci  : Nat} {m : Option (Int × Sg)} {f : Int → Sg → Option β} (hs : bnd2 m f = some o) (hst : stk = As.reverse ++ .ref b :: st) (hd : decode (mB M) pc = .ok (.invokevirtual idx, 3)) (hlk : LKV M M' idx As.length) (hb : b < nx) (hsh : shp b = some (.inl ci)) (hci : cR ci = (mY M').cls) (hdd : d' + 1 ≤ d) (hk : k ≤ mc) (hn : n ≤ ms) (hw : (st.map fun v => v.category).sum ≤ 8)
    (hm : ∀ r, m = some r → mm C M' d' 0 0 nx nx (.ref b :: As) (hp nx s) (QI nx r.2 r.1) XF) (kk : ∀ r s1, m = some (r, s1) → f r s1 = some o → ww C M d mc ms ne Qr Qx nx k n (pc + 3) lv (vi r :: st) (hp nx s1)) : ww C M d mc ms ne Qr Qx nx k n pc lv stk (hp nx s) := by
  subst hst
  refine bnd2_e hs fun r s1 hr hs => ?_
  refine w_callV M' As hd hlk hb (shp_C hsh) hci hdd hk hn hw (hm (r, s1) hr) XOK.no (fun v h' hq => ?_)
  obtain ⟨rfl, rfl⟩ := hq
  exact kk r s1 hr hs
theorem x_V_A (M' : Mk) (As : List Value) (st : List Value) {idx d' b ci  : Nat} {m : Option (Nat × Sg)} {f : Nat → Sg → Option β} (hs : bnd2 m f = some o) (hst : stk = As.reverse ++ .ref b :: st) (hd : decode (mB M) pc = .ok (.invokevirtual idx, 3)) (hlk : LKV M M' idx As.length) (hb : b < nx) (hsh : shp b = some (.inl ci)) (hci : cR ci = (mY M').cls) (hdd : d' + 1 ≤ d) (hk : k ≤ mc) (hn : n ≤ ms) (hw : (st.map fun v => v.category).sum ≤ 8)
    (hm : ∀ r, m = some r → mm C M' d' 0 0 nx nx (.ref b :: As) (hp nx s) (QA nx r.2 r.1) XF) (kk : ∀ r s1, m = some (r, s1) → f r s1 = some o → ww C M d mc ms ne Qr Qx nx k n (pc + 3) lv (.ref r :: st) (hp nx s1)) : ww C M d mc ms ne Qr Qx nx k n pc lv stk (hp nx s) := by
  subst hst
  refine bnd2_e hs fun r s1 hr hs => ?_
  refine w_callV M' As hd hlk hb (shp_C hsh) hci hdd hk hn hw (hm (r, s1) hr) XOK.no (fun v h' hq => ?_)
  obtain ⟨rfl, rfl⟩ := hq
  exact kk r s1 hr hs
theorem x_V_O (M' : Mk) (As : List Value) (st : List Value) {idx d' b ci  : Nat} {m : Option (Option Nat)} {f : Option Nat → Option β} (hs : bnd m f = some o) (hst : stk = As.reverse ++ .ref b :: st) (hd : decode (mB M) pc = .ok (.invokevirtual idx, 3)) (hlk : LKV M M' idx As.length) (hb : b < nx) (hsh : shp b = some (.inl ci)) (hci : cR ci = (mY M').cls) (hdd : d' + 1 ≤ d) (hk : k ≤ mc) (hn : n ≤ ms) (hw : (st.map fun v => v.category).sum ≤ 8)
    (hm : ∀ r, m = some r → mm C M' d' 0 0 nx nx (.ref b :: As) (hp nx s) (QO nx s r) XF) (kk : ∀ r, m = some r → f r = some o → ww C M d mc ms ne Qr Qx nx k n (pc + 3) lv (va_rf r :: st) (hp nx s)) : ww C M d mc ms ne Qr Qx nx k n pc lv stk (hp nx s) := by
  subst hst
  refine bnd_e hs fun r hr hs => ?_
  refine w_callV M' As hd hlk hb (shp_C hsh) hci hdd hk hn hw (hm r hr) XOK.no (fun v h' hq => ?_)
  obtain ⟨rfl, rfl⟩ := hq
  exact kk r hr hs
theorem x_S_I (M' : Mk) (As : List Value) (st : List Value) {idx d' : Nat} {m : Option Int} {f : Int → Option β} (hs : bnd m f = some o) (hst : stk = As.reverse ++ st) (hd : decode (mB M) pc = .ok (.invokestatic idx, 3)) (hlk : LKS M M' idx As.length) (hdd : d' + 1 ≤ d) (hk : k ≤ mc) (hn : n ≤ ms) (hw : (st.map fun v => v.category).sum ≤ 8)
    (hm : ∀ r, m = some r → mm C M' d' 0 0 nx nx (As) (hp nx s) (QI nx s r) XF) (kk : ∀ r, m = some r → f r = some o → ww C M d mc ms ne Qr Qx nx k n (pc + 3) lv (vi r :: st) (hp nx s)) : ww C M d mc ms ne Qr Qx nx k n pc lv stk (hp nx s) := by
  subst hst
  refine bnd_e hs fun r hr hs => ?_
  refine w_callS M' As hd hlk hdd hk hn hw (hm r hr) XOK.no (fun v h' hq => ?_)
  obtain ⟨rfl, rfl⟩ := hq
  exact kk r hr hs
theorem x_S_V (M' : Mk) (As : List Value) (st : List Value) {idx d' : Nat} {m : Option Sg} {f : Sg → Option β} (hs : bnd m f = some o) (hst : stk = As.reverse ++ st) (hd : decode (mB M) pc = .ok (.invokestatic idx, 3)) (hlk : LKS M M' idx As.length) (hdd : d' + 1 ≤ d) (hk : k ≤ mc) (hn : n ≤ ms) (hw : (st.map fun v => v.category).sum ≤ 8)
    (hm : ∀ r, m = some r → mm C M' d' 0 0 nx nx (As) (hp nx s) (QV nx r) XF) (kk : ∀ r, m = some r → f r = some o → ww C M d mc ms ne Qr Qx nx k n (pc + 3) lv st (hp nx r)) : ww C M d mc ms ne Qr Qx nx k n pc lv stk (hp nx s) := by
  subst hst
  refine bnd_e hs fun r hr hs => ?_
  refine w_callS M' As hd hlk hdd hk hn hw (hm r hr) XOK.no (fun v h' hq => ?_)
  obtain ⟨rfl, rfl⟩ := hq
  exact kk r hr hs
theorem x_S_B (M' : Mk) (As : List Value) (st : List Value) {idx d' : Nat} {m : Option (Int × Sg)} {f : Int → Sg → Option β} (hs : bnd2 m f = some o) (hst : stk = As.reverse ++ st) (hd : decode (mB M) pc = .ok (.invokestatic idx, 3)) (hlk : LKS M M' idx As.length) (hdd : d' + 1 ≤ d) (hk : k ≤ mc) (hn : n ≤ ms) (hw : (st.map fun v => v.category).sum ≤ 8)
    (hm : ∀ r, m = some r → mm C M' d' 0 0 nx nx (As) (hp nx s) (QI nx r.2 r.1) XF) (kk : ∀ r s1, m = some (r, s1) → f r s1 = some o → ww C M d mc ms ne Qr Qx nx k n (pc + 3) lv (vi r :: st) (hp nx s1)) : ww C M d mc ms ne Qr Qx nx k n pc lv stk (hp nx s) := by
  subst hst
  refine bnd2_e hs fun r s1 hr hs => ?_
  refine w_callS M' As hd hlk hdd hk hn hw (hm (r, s1) hr) XOK.no (fun v h' hq => ?_)
  obtain ⟨rfl, rfl⟩ := hq
  exact kk r s1 hr hs
theorem x_S_J (M' : Mk) (As : List Value) (st : List Value) {idx d' : Nat} {m : Option Int} {f : Int → Option β} (hs : bnd m f = some o) (hst : stk = As.reverse ++ st) (hd : decode (mB M) pc = .ok (.invokestatic idx, 3)) (hlk : LKS M M' idx As.length) (hdd : d' + 1 ≤ d) (hk : k ≤ mc) (hn : n ≤ ms) (hw : (st.map fun v => v.category).sum ≤ 8)
    (hm : ∀ r, m = some r → mm C M' d' 0 0 nx nx (As) (hp nx s) (QJ nx s r) XF) (kk : ∀ r, m = some r → f r = some o → ww C M d mc ms ne Qr Qx nx k n (pc + 3) lv (vl r :: st) (hp nx s)) : ww C M d mc ms ne Qr Qx nx k n pc lv stk (hp nx s) := by
  subst hst
  refine bnd_e hs fun r hr hs => ?_
  refine w_callS M' As hd hlk hdd hk hn hw (hm r hr) XOK.no (fun v h' hq => ?_)
  obtain ⟨rfl, rfl⟩ := hq
  exact kk r hr hs
theorem x_S_BJ (M' : Mk) (As : List Value) (st : List Value) {idx d' : Nat} {m : Option (Int × Sg)} {f : Int → Sg → Option β} (hs : bnd2 m f = some o) (hst : stk = As.reverse ++ st) (hd : decode (mB M) pc = .ok (.invokestatic idx, 3)) (hlk : LKS M M' idx As.length) (hdd : d' + 1 ≤ d) (hk : k ≤ mc) (hn : n ≤ ms) (hw : (st.map fun v => v.category).sum ≤ 8)
    (hm : ∀ r, m = some r → mm C M' d' 0 0 nx nx (As) (hp nx s) (QJ nx r.2 r.1) XF) (kk : ∀ r s1, m = some (r, s1) → f r s1 = some o → ww C M d mc ms ne Qr Qx nx k n (pc + 3) lv (vl r :: st) (hp nx s1)) : ww C M d mc ms ne Qr Qx nx k n pc lv stk (hp nx s) := by
  subst hst
  refine bnd2_e hs fun r s1 hr hs => ?_
  refine w_callS M' As hd hlk hdd hk hn hw (hm (r, s1) hr) XOK.no (fun v h' hq => ?_)
  obtain ⟨rfl, rfl⟩ := hq
  exact kk r s1 hr hs
theorem x_N_I (M' : Mk) (As : List Value) (st : List Value) {idx d' : Nat} {m : Option Int} {f : Int → Option β} (hs : bnd m f = some o) (hst : stk = As.reverse ++ st) (hd : decode (mB M) pc = .ok (.invokestatic idx, 3)) (hlk : LKN M M' idx As.length) (hdd : d' + 1 ≤ d) (hk : k ≤ mc) (hn : n ≤ ms) (hw : (st.map fun v => v.category).sum ≤ 8)
    (hm : ∀ r, m = some r → mm C M' d' 0 0 nx nx (As) (hp nx s) (QI nx s r) XF) (kk : ∀ r, m = some r → f r = some o → ww C M d mc ms ne Qr Qx nx k n (pc + 3) lv (vi r :: st) (hp nx s)) : ww C M d mc ms ne Qr Qx nx k n pc lv stk (hp nx s) := by
  subst hst
  refine bnd_e hs fun r hr hs => ?_
  refine w_callN M' As hd hlk hdd hk hn hw (hm r hr) XOK.no (fun v h' hq => ?_)
  obtain ⟨rfl, rfl⟩ := hq
  exact kk r hr hs
theorem x_N_V (M' : Mk) (As : List Value) (st : List Value) {idx d' : Nat} {m : Option Sg} {f : Sg → Option β} (hs : bnd m f = some o) (hst : stk = As.reverse ++ st) (hd : decode (mB M) pc = .ok (.invokestatic idx, 3)) (hlk : LKN M M' idx As.length) (hdd : d' + 1 ≤ d) (hk : k ≤ mc) (hn : n ≤ ms) (hw : (st.map fun v => v.category).sum ≤ 8)
    (hm : ∀ r, m = some r → mm C M' d' 0 0 nx nx (As) (hp nx s) (QV nx r) XF) (kk : ∀ r, m = some r → f r = some o → ww C M d mc ms ne Qr Qx nx k n (pc + 3) lv st (hp nx r)) : ww C M d mc ms ne Qr Qx nx k n pc lv stk (hp nx s) := by
  subst hst
  refine bnd_e hs fun r hr hs => ?_
  refine w_callN M' As hd hlk hdd hk hn hw (hm r hr) XOK.no (fun v h' hq => ?_)
  obtain ⟨rfl, rfl⟩ := hq
  exact kk r hr hs
theorem x_N_B (M' : Mk) (As : List Value) (st : List Value) {idx d' : Nat} {m : Option (Int × Sg)} {f : Int → Sg → Option β} (hs : bnd2 m f = some o) (hst : stk = As.reverse ++ st) (hd : decode (mB M) pc = .ok (.invokestatic idx, 3)) (hlk : LKN M M' idx As.length) (hdd : d' + 1 ≤ d) (hk : k ≤ mc) (hn : n ≤ ms) (hw : (st.map fun v => v.category).sum ≤ 8)
    (hm : ∀ r, m = some r → mm C M' d' 0 0 nx nx (As) (hp nx s) (QI nx r.2 r.1) XF) (kk : ∀ r s1, m = some (r, s1) → f r s1 = some o → ww C M d mc ms ne Qr Qx nx k n (pc + 3) lv (vi r :: st) (hp nx s1)) : ww C M d mc ms ne Qr Qx nx k n pc lv stk (hp nx s) := by
  subst hst
  refine bnd2_e hs fun r s1 hr hs => ?_
  refine w_callN M' As hd hlk hdd hk hn hw (hm (r, s1) hr) XOK.no (fun v h' hq => ?_)
  obtain ⟨rfl, rfl⟩ := hq
  exact kk r s1 hr hs
theorem x_V_T (M' : Mk) (As : List Value) (st : List Value) {γ : Type} {o : (Nat ⊕ γ) × Sg} {idx d' b ci : Nat} {m : Option ((Nat ⊕ Int) × Sg)} {f : Int → Sg → Option ((Nat ⊕ γ) × Sg)} (hs : bndx m f = some o) (hst : stk = As.reverse ++ .ref b :: st) (hd : decode (mB M) pc = .ok (.invokevirtual idx, 3)) (hlk : LKV M M' idx As.length) (hb : b < nx) (hsh : shp b = some (.inl ci)) (hci : cR ci = (mY M').cls) (hdd : d' + 1 ≤ d) (hk : k ≤ mc) (hn : n ≤ ms) (hw : (st.map fun v => v.category).sum ≤ 8)
    (hm : ∀ r, m = some r → mm C M' d' 0 0 nx nx (.ref b :: As) (hp nx s) (QT nx r) XF) (kk : ∀ r s1, m = some (.inr r, s1) → f r s1 = some o → ww C M d mc ms ne Qr Qx nx k n (pc + 3) lv (vi r :: st) (hp nx s1)) : ww C M d mc ms ne Qr Qx nx k n pc lv stk (hp nx s) := by
  subst hst
  rcases m with _ | ⟨e | a, s1⟩
  · cases hs
  · refine w_callV M' As hd hlk hb (shp_C hsh) hci hdd hk hn hw (hm _ rfl) XOK.no (fun v h' hq => ?_)
    obtain ⟨r', h1, -⟩ := hq
    cases h1
  · refine w_callV M' As hd hlk hb (shp_C hsh) hci hdd hk hn hw (hm _ rfl) XOK.no (fun v h' hq => ?_)
    obtain ⟨r', h1, rfl, rfl⟩ := hq
    cases h1
    exact kk a s1 rfl hs
theorem x_V_Tr (M' : Mk) (As : List Value) (st : List Value)  {idx d' b ci : Nat} {m : Option ((Nat ⊕ Int) × Sg)} {f : Int → Sg → Option β} (hs : bndr m f = some o) (hst : stk = As.reverse ++ .ref b :: st) (hd : decode (mB M) pc = .ok (.invokevirtual idx, 3)) (hlk : LKV M M' idx As.length) (hb : b < nx) (hsh : shp b = some (.inl ci)) (hci : cR ci = (mY M').cls) (hdd : d' + 1 ≤ d) (hk : k ≤ mc) (hn : n ≤ ms) (hw : (st.map fun v => v.category).sum ≤ 8)
    (hm : ∀ r, m = some r → mm C M' d' 0 0 nx nx (.ref b :: As) (hp nx s) (QT nx r) XF) (kk : ∀ r s1, m = some (.inr r, s1) → f r s1 = some o → ww C M d mc ms ne Qr Qx nx k n (pc + 3) lv (vi r :: st) (hp nx s1)) : ww C M d mc ms ne Qr Qx nx k n pc lv stk (hp nx s) := by
  subst hst
  rcases m with _ | ⟨e | a, s1⟩
  · cases hs
  · refine w_callV M' As hd hlk hb (shp_C hsh) hci hdd hk hn hw (hm _ rfl) XOK.no (fun v h' hq => ?_)
    obtain ⟨r', h1, -⟩ := hq
    cases h1
  · refine w_callV M' As hd hlk hb (shp_C hsh) hci hdd hk hn hw (hm _ rfl) XOK.no (fun v h' hq => ?_)
    obtain ⟨r', h1, rfl, rfl⟩ := hq
    cases h1
    exact kk a s1 rfl hs
theorem x_V_U (M' : Mk) (As : List Value) (st : List Value) {γ : Type} {o : (Nat ⊕ γ) × Sg} {idx d' b ci : Nat} {m : Option ((Nat ⊕ Int) × Sg)} {f : Int → Sg → Option ((Nat ⊕ γ) × Sg)} (hs : bndx m f = some o) (hst : stk = As.reverse ++ .ref b :: st) (hd : decode (mB M) pc = .ok (.invokevirtual idx, 3)) (hlk : LKV M M' idx As.length) (hb : b < nx) (hsh : shp b = some (.inl ci)) (hci : cR ci = (mY M').cls) (hdd : d' + 1 ≤ d) (hk : k ≤ mc) (hn : n ≤ ms) (hw : (st.map fun v => v.category).sum ≤ 8)
    (hm : ∀ r, m = some r → mm C M' d' 0 0 nx nx (.ref b :: As) (hp nx s) (QTV nx r) XF) (kk : ∀ r s1, m = some (.inr r, s1) → f r s1 = some o → ww C M d mc ms ne Qr Qx nx k n (pc + 3) lv (st) (hp nx s1)) : ww C M d mc ms ne Qr Qx nx k n pc lv stk (hp nx s) := by
  subst hst
  rcases m with _ | ⟨e | a, s1⟩
  · cases hs
  · refine w_callV M' As hd hlk hb (shp_C hsh) hci hdd hk hn hw (hm _ rfl) XOK.no (fun v h' hq => ?_)
    obtain ⟨r', h1, -⟩ := hq
    cases h1
  · refine w_callV M' As hd hlk hb (shp_C hsh) hci hdd hk hn hw (hm _ rfl) XOK.no (fun v h' hq => ?_)
    obtain ⟨r', h1, rfl, rfl⟩ := hq
    cases h1
    exact kk a s1 rfl hs
theorem x_V_Ur (M' : Mk) (As : List Value) (st : List Value)  {idx d' b ci : Nat} {m : Option ((Nat ⊕ Int) × Sg)} {f : Int → Sg → Option β} (hs : bndr m f = some o) (hst : stk = As.reverse ++ .ref b :: st) (hd : decode (mB M) pc = .ok (.invokevirtual idx, 3)) (hlk : LKV M M' idx As.length) (hb : b < nx) (hsh : shp b = some (.inl ci)) (hci : cR ci = (mY M').cls) (hdd : d' + 1 ≤ d) (hk : k ≤ mc) (hn : n ≤ ms) (hw : (st.map fun v => v.category).sum ≤ 8)
    (hm : ∀ r, m = some r → mm C M' d' 0 0 nx nx (.ref b :: As) (hp nx s) (QTV nx r) XF) (kk : ∀ r s1, m = some (.inr r, s1) → f r s1 = some o → ww C M d mc ms ne Qr Qx nx k n (pc + 3) lv (st) (hp nx s1)) : ww C M d mc ms ne Qr Qx nx k n pc lv stk (hp nx s) := by
  subst hst
  rcases m with _ | ⟨e | a, s1⟩
  · cases hs
  · refine w_callV M' As hd hlk hb (shp_C hsh) hci hdd hk hn hw (hm _ rfl) XOK.no (fun v h' hq => ?_)
    obtain ⟨r', h1, -⟩ := hq
    cases h1
  · refine w_callV M' As hd hlk hb (shp_C hsh) hci hdd hk hn hw (hm _ rfl) XOK.no (fun v h' hq => ?_)
    obtain ⟨r', h1, rfl, rfl⟩ := hq
    cases h1
    exact kk a s1 rfl hs
theorem x_S_T (M' : Mk) (As : List Value) (st : List Value) {γ : Type} {o : (Nat ⊕ γ) × Sg} {idx d' : Nat} {m : Option ((Nat ⊕ Int) × Sg)} {f : Int → Sg → Option ((Nat ⊕ γ) × Sg)} (hs : bndx m f = some o) (hst : stk = As.reverse ++ st) (hd : decode (mB M) pc = .ok (.invokestatic idx, 3)) (hlk : LKS M M' idx As.length) (hdd : d' + 1 ≤ d) (hk : k ≤ mc) (hn : n ≤ ms) (hw : (st.map fun v => v.category).sum ≤ 8)
    (hm : ∀ r, m = some r → mm C M' d' 0 0 nx nx (As) (hp nx s) (QT nx r) XF) (kk : ∀ r s1, m = some (.inr r, s1) → f r s1 = some o → ww C M d mc ms ne Qr Qx nx k n (pc + 3) lv (vi r :: st) (hp nx s1)) : ww C M d mc ms ne Qr Qx nx k n pc lv stk (hp nx s) := by
  subst hst
  rcases m with _ | ⟨e | a, s1⟩
  · cases hs
  · refine w_callS M' As hd hlk hdd hk hn hw (hm _ rfl) XOK.no (fun v h' hq => ?_)
    obtain ⟨r', h1, -⟩ := hq
    cases h1
  · refine w_callS M' As hd hlk hdd hk hn hw (hm _ rfl) XOK.no (fun v h' hq => ?_)
    obtain ⟨r', h1, rfl, rfl⟩ := hq
    cases h1
    exact kk a s1 rfl hs
theorem x_S_Tr (M' : Mk) (As : List Value) (st : List Value)  {idx d' : Nat} {m : Option ((Nat ⊕ Int) × Sg)} {f : Int → Sg → Option β} (hs : bndr m f = some o) (hst : stk = As.reverse ++ st) (hd : decode (mB M) pc = .ok (.invokestatic idx, 3)) (hlk : LKS M M' idx As.length) (hdd : d' + 1 ≤ d) (hk : k ≤ mc) (hn : n ≤ ms) (hw : (st.map fun v => v.category).sum ≤ 8)
    (hm : ∀ r, m = some r → mm C M' d' 0 0 nx nx (As) (hp nx s) (QT nx r) XF) (kk : ∀ r s1, m = some (.inr r, s1) → f r s1 = some o → ww C M d mc ms ne Qr Qx nx k n (pc + 3) lv (vi r :: st) (hp nx s1)) : ww C M d mc ms ne Qr Qx nx k n pc lv stk (hp nx s) := by
  subst hst
  rcases m with _ | ⟨e | a, s1⟩
  · cases hs
  · refine w_callS M' As hd hlk hdd hk hn hw (hm _ rfl) XOK.no (fun v h' hq => ?_)
    obtain ⟨r', h1, -⟩ := hq
    cases h1
  · refine w_callS M' As hd hlk hdd hk hn hw (hm _ rfl) XOK.no (fun v h' hq => ?_)
    obtain ⟨r', h1, rfl, rfl⟩ := hq
    cases h1
    exact kk a s1 rfl hs
theorem x_S_U (M' : Mk) (As : List Value) (st : List Value) {γ : Type} {o : (Nat ⊕ γ) × Sg} {idx d' : Nat} {m : Option ((Nat ⊕ Int) × Sg)} {f : Int → Sg → Option ((Nat ⊕ γ) × Sg)} (hs : bndx m f = some o) (hst : stk = As.reverse ++ st) (hd : decode (mB M) pc = .ok (.invokestatic idx, 3)) (hlk : LKS M M' idx As.length) (hdd : d' + 1 ≤ d) (hk : k ≤ mc) (hn : n ≤ ms) (hw : (st.map fun v => v.category).sum ≤ 8)
    (hm : ∀ r, m = some r → mm C M' d' 0 0 nx nx (As) (hp nx s) (QTV nx r) XF) (kk : ∀ r s1, m = some (.inr r, s1) → f r s1 = some o → ww C M d mc ms ne Qr Qx nx k n (pc + 3) lv (st) (hp nx s1)) : ww C M d mc ms ne Qr Qx nx k n pc lv stk (hp nx s) := by
  subst hst
  rcases m with _ | ⟨e | a, s1⟩
  · cases hs
  · refine w_callS M' As hd hlk hdd hk hn hw (hm _ rfl) XOK.no (fun v h' hq => ?_)
    obtain ⟨r', h1, -⟩ := hq
    cases h1
  · refine w_callS M' As hd hlk hdd hk hn hw (hm _ rfl) XOK.no (fun v h' hq => ?_)
    obtain ⟨r', h1, rfl, rfl⟩ := hq
    cases h1
    exact kk a s1 rfl hs
theorem x_S_Ur (M' : Mk) (As : List Value) (st : List Value)  {idx d' : Nat} {m : Option ((Nat ⊕ Int) × Sg)} {f : Int → Sg → Option β} (hs : bndr m f = some o) (hst : stk = As.reverse ++ st) (hd : decode (mB M) pc = .ok (.invokestatic idx, 3)) (hlk : LKS M M' idx As.length) (hdd : d' + 1 ≤ d) (hk : k ≤ mc) (hn : n ≤ ms) (hw : (st.map fun v => v.category).sum ≤ 8)
    (hm : ∀ r, m = some r → mm C M' d' 0 0 nx nx (As) (hp nx s) (QTV nx r) XF) (kk : ∀ r s1, m = some (.inr r, s1) → f r s1 = some o → ww C M d mc ms ne Qr Qx nx k n (pc + 3) lv (st) (hp nx s1)) : ww C M d mc ms ne Qr Qx nx k n pc lv stk (hp nx s) := by
  subst hst
  rcases m with _ | ⟨e | a, s1⟩
  · cases hs
  · refine w_callS M' As hd hlk hdd hk hn hw (hm _ rfl) XOK.no (fun v h' hq => ?_)
    obtain ⟨r', h1, -⟩ := hq
    cases h1
  · refine w_callS M' As hd hlk hdd hk hn hw (hm _ rfl) XOK.no (fun v h' hq => ?_)
    obtain ⟨r', h1, rfl, rfl⟩ := hq
    cases h1
    exact kk a s1 rfl hs
theorem x_ireturn {x : Int} (hd : decode (mB M) pc = .ok (.ireturn, 1)) (hty : mR M = some .int) (hne : nx = ne) (hk : k ≤ mc) (hn : n ≤ ms) (hq : Qr (some (vi x)) h) : ww C M d mc ms ne Qr Qx nx k n pc lv [vi x] h := w_ireturn (ty := .int) hty rfl hd hne hk hn hq
theorem x_zreturn {x : Int} (hg : b01 x) (hd : decode (mB M) pc = .ok (.ireturn, 1)) (hty : mR M = some .boolean) (hne : nx = ne) (hk : k ≤ mc) (hn : n ≤ ms) (hq : Qr (some (vi x)) h) : ww C M d mc ms ne Qr Qx nx k n pc lv [vi x] h := w_ireturn (ty := .boolean) hty (by rcases hg with rfl | rfl <;> rfl) hd hne hk hn hq
theorem x_null_ref (r : Option Nat) {A B : Option β} {off : Int} {tgt : Nat} (hd : decode (mB M) pc = .ok (.ifnull off, 3)) (ht : (pc : Int) + off = (tgt : Int)) (kn : r = none → ww C M d mc ms ne Qr Qx nx k n tgt lv st h) (kr : ∀ a, r = some a → ww C M d mc ms ne Qr Qx nx k n (pc + 3) lv st h) : ww C M d mc ms ne Qr Qx nx k n pc lv (va_rf r :: st) h := by
  cases r with
  | none => exact w_ifnullN hd ht (kn rfl)
  | some a => exact w_ifnull hd (kr a rfl)
theorem x_nonnull_ref (r : Option Nat) {off : Int} {tgt : Nat} (hd : decode (mB M) pc = .ok (.ifnonnull off, 3)) (ht : (pc : Int) + off = (tgt : Int)) (kn : r = none → ww C M d mc ms ne Qr Qx nx k n (pc + 3) lv st h) (kr : ∀ a, r = some a → ww C M d mc ms ne Qr Qx nx k n tgt lv st h) : ww C M d mc ms ne Qr Qx nx k n pc lv (va_rf r :: st) h := by
  cases r with
  | none => exact w_ifnonnullN hd (kn rfl)
  | some a => exact w_ifnonnull hd ht (kr a rfl)
end XX
end
section
theorem ifEq_c {α : Type} {x y : Int} {A B : Option α} {o : α} {G : Prop} (hs : ifEq x y A B = some o) (kt : R x → x = y → A = some o → G) (kf : R x → ¬ x = y → B = some o → G) : G := by
  obtain ⟨hx, hy, hA, hB⟩ := ifEq_u hs
  by_cases q : x = y
  · exact kt hx q (hA q)
  · exact kf hx q (hB q)
def cpy (s : Sg) (a b n : Nat) : Sg := (fun c j => if c = b ∧ j < n then s.1 a j else s.1 c j, s.2)
theorem gi_cpy (s : Sg) (a b n c j : Nat) : gi (cpy s a b n) c j = if c = b ∧ j < n then gi s a j else gi s c j := rfl
theorem rt17 {i : Int} (h : 0 ≤ i ∧ i < 8) : RT 17 i.toNat = some (18 + 3 * i.toNat) := by
  obtain ⟨n, rfl⟩ := Int.eq_ofNat_of_zero_le h.1
  have hn : n < 8 := by omega
  exact (show ∀ n, n < 8 → RT 17 n = some (18 + 3 * n) by decide) n hn
theorem pos17 {i : Int} (h : 0 ≤ i ∧ i < 8) : isPos (18 + 3 * i.toNat) := by
  obtain ⟨n, rfl⟩ := Int.eq_ofNat_of_zero_le h.1
  have hn : n < 8 := by omega
  exact (show ∀ n, n < 8 → 18 + 3 * n ∈ posL by decide) n hn
section NULLS
variable {p : Program} {l : Launch} {e : Env} {R : Room} {s : State} {m : MethodId} {args : Array Value} {below : List Frame} {meth : Method} {c : Code} {H : Heap} {locs : List Loc} {cells slots : Nat} {Q : State → Prop}
variable {cc : ByteArray} {pc : Nat} {ls : Array Slot} {rest : List Value}
theorem lv_astoreN_n (hexec : p.tables.exec = Jvm.exec) (hb : c.code = cc) {k : Fin 4} {i nL : Nat} {lv lv' : List (Nat × Value)} (hdg : decode cc pc = .ok (.astore_n k, 1)) (hi : (k : Nat) = i) (h : lv_has ls nL lv) (hn : i < nL) (hl : (i, Value.null) :: lv.filter (fun q => !(q.1 == i) && !(q.1 + 1 == i && q.2.category == 2)) = lv')
    (kk : ∀ ls' : Array Slot, lv_has ls' nL lv' → W p l e R s m args below meth c H locs cells slots Q (F0 m (pc + 1) ls' rest)) : W p l e R s m args below meth c H locs cells slots Q (F0 m pc ls (.null :: rest)) := by
  subst hi
  obtain ⟨ls', e', h'⟩ := lv_store1 (v := .null) h hn rfl
  intro T hT X
  obtain ⟨t, a, b⟩ := kk ls' (hl ▸ h') T hT X
  refine ⟨t, ?_, b⟩
  jvm_step X.here [X.here.top, ↓top_set X.here.top, hexec, hb, hdg, e', Value.isRef]
  exact a
theorem lv_ldcfw (hexec : p.tables.exec = Jvm.exec) (hb : c.code = cc) {own : String} {index : Nat} {v : UInt32} (hown : s.vm.findClass own = some m.cls) (hconst : (Jvm.Cond.constantFloat own index v).before args s = true) (hdg : decode cc pc = .ok (.ldc_w index, 3)) (k : W p l e R s m args below meth c H locs cells slots Q (F0 m (pc + 3) ls (.float v :: rest))) : W p l e R s m args below meth c H locs cells slots Q (F0 m pc ls rest) := by
  intro T hT X
  obtain ⟨t, a, b⟩ := k T hT X
  refine ⟨t, ?_, b⟩
  obtain ⟨k, cf, hk, hcf, hcp⟩ := Cond.constantFloat_spec hown hconst
  obtain ⟨k', hk', he⟩ := X.warmed.alike.2.2 _ _ hk
  jvm_step X.here [hexec, hb, hdg, ldc_w.wp_float (s := T) (f := F0 m pc ls rest) X.here.top hk' (by rw [he]; exact hcf) hcp]
  exact a
theorem nfw_le : nativeFrameWords "java/lang/System" "arraycopy" 5 ≤ 51 := by decide +kernel
end NULLS
section XY
variable {C : Cx} {M : Mk} {d mc ms ne : Nat} {Qr : Option Value → Hp → Prop} {Qx : String → Hp → Prop} {nx k n pc : Nat} {lv lv' : List (Nat × Value)} {st stk : List Value} {h : Hp} {s : Sg} {α β : Type} {o : β}
theorem nam_s {g : Sg → Option β} {s0 : Sg} (hs : lett s0 g = some o) (kk : ∀ s', g s' = some o → ww C M d mc ms ne Qr Qx nx k n pc lv st (hp nx s')) : ww C M d mc ms ne Qr Qx nx k n pc lv st (hp nx s0) := kk s0 hs
theorem w_astore_nN {z : Fin 4} {i : Nat} (hd : decode (mB M) pc = .ok (.astore_n z, 1)) (hi : (z : Nat) = i) (hn : i < mL M) (hl : (i, Value.null) :: lv.filter (fun q => !(q.1 == i) && !(q.1 + 1 == i && q.2.category == 2)) = lv') (kk : ww C M d mc ms ne Qr Qx nx k n (pc + 1) lv' st h) : ww C M d mc ms ne Qr Qx nx k n pc lv (.null :: st) h := by
  intro p l e s m args below meth c Fin cz hr hx hzz H locs ls hP hS hL
  refine lv_astoreN_n (lv' := lm C lv') cz.1.1 cz.1.2.1 hd hi hL hn (by subst hl; exact lm_set1 C lv i .null) (fun ls hL => ?_)
  exact kk p l e s m args below meth c Fin cz hr hx hzz H locs ls hP hS hL
theorem w_aload_nN (q : Nat) {z : Fin 4} {i : Nat} (hd : decode (mB M) pc = .ok (.aload_n z, 1)) (hi : (z : Nat) = i) (hl : lv[q]? = some (i, .null)) (kk : ww C M d mc ms ne Qr Qx nx k n (pc + 1) lv (.null :: st) h) : ww C M d mc ms ne Qr Qx nx k n pc lv st h := by
  intro p l e s m args below meth c Fin cz hr hx hzz H locs ls hP hS hL
  exact lv_aload_nN cz.1.1 cz.1.2.1 hd hi (lv_at hL q (lm_at C hl)) (kk p l e s m args below meth c Fin cz hr hx hzz H locs ls hP hS hL)
theorem x_istore_n {z : Fin 4} {i : Nat} {x : Int} {f : Int → Option β} (lv' : Int → List (Nat × Value)) (hs : lett x f = some o) (hd : decode (mB M) pc = .ok (.istore_n z, 1)) (hi : (z : Nat) = i) (hn : i < mL M) (hl : ∀ y, (i, vi y) :: lv.filter (fun q => !(q.1 == i) && !(q.1 + 1 == i && q.2.category == 2)) = lv' y) (kk : ∀ y, f y = some o → ww C M d mc ms ne Qr Qx nx k n (pc + 1) (lv' y) st h) : ww C M d mc ms ne Qr Qx nx k n pc lv (vi x :: st) h := w_istore_n hd hi hn (hl x) (kk x hs)
theorem x_istore {i : Nat} {x : Int} {f : Int → Option β} (lv' : Int → List (Nat × Value)) (hs : lett x f = some o) (hd : decode (mB M) pc = .ok (.istore i, 2)) (hn : i < mL M) (hl : ∀ y, (i, vi y) :: lv.filter (fun q => !(q.1 == i) && !(q.1 + 1 == i && q.2.category == 2)) = lv' y) (kk : ∀ y, f y = some o → ww C M d mc ms ne Qr Qx nx k n (pc + 2) (lv' y) st h) : ww C M d mc ms ne Qr Qx nx k n pc lv (vi x :: st) h := w_istore hd hn (hl x) (kk x hs)
theorem x_lstore_n {z : Fin 4} {i : Nat} {x : Int} {f : Int → Option β} (lv' : Int → List (Nat × Value)) (hs : lett x f = some o) (hd : decode (mB M) pc = .ok (.lstore_n z, 1)) (hi : (z : Nat) = i) (hn : i + 1 < mL M) (hl : ∀ y, (i, vl y) :: lv.filter (fun q => !(q.1 == i) && (!(q.1 == i + 1) && !(q.1 + 1 == i && q.2.category == 2))) = lv' y) (kk : ∀ y, f y = some o → ww C M d mc ms ne Qr Qx nx k n (pc + 1) (lv' y) st h) : ww C M d mc ms ne Qr Qx nx k n pc lv (vl x :: st) h := w_lstore_n hd hi hn (hl x) (kk x hs)
theorem x_lstore {i : Nat} {x : Int} {f : Int → Option β} (lv' : Int → List (Nat × Value)) (hs : lett x f = some o) (hd : decode (mB M) pc = .ok (.lstore i, 2)) (hn : i + 1 < mL M) (hl : ∀ y, (i, vl y) :: lv.filter (fun q => !(q.1 == i) && (!(q.1 == i + 1) && !(q.1 + 1 == i && q.2.category == 2))) = lv' y) (kk : ∀ y, f y = some o → ww C M d mc ms ne Qr Qx nx k n (pc + 2) (lv' y) st h) : ww C M d mc ms ne Qr Qx nx k n pc lv (vl x :: st) h := w_lstore hd hn (hl x) (kk x hs)
theorem w_ldcfw {idx : Nat} (v : UInt32) (hd : decode (mB M) pc = .ok (.ldc_w idx, 3)) (hw : Cond.constantFloat (mY M).cls idx v ∈ lw_all) (kk : ww C M d mc ms ne Qr Qx nx k n (pc + 3) lv (.float v :: st) h) : ww C M d mc ms ne Qr Qx nx k n pc lv st h := by
  intro p l e s m args below meth c Fin cz hr hx hzz H locs ls hP hS hL
  exact lv_ldcfw cz.1.1 cz.1.2.1 cz.1.2.2.2.2 (cz.2.1 _ hw) hd (kk p l e s m args below meth c Fin cz hr hx hzz H locs ls hP hS hL)
theorem x_V_P (M' : Mk) (As : List Value) (st : List Value) {idx d' b ci : Nat} {m : Option Nat} {f : Nat → Option β} (hs : bnd m f = some o) (hst : stk = As.reverse ++ .ref b :: st) (hd : decode (mB M) pc = .ok (.invokevirtual idx, 3)) (hlk : LKV M M' idx As.length) (hb : b < nx) (hsh : shp b = some (.inl ci)) (hci : cR ci = (mY M').cls) (hdd : d' + 1 ≤ d) (hk : k ≤ mc) (hn : n ≤ ms) (hw : (st.map fun v => v.category).sum ≤ 8)
    (hm : ∀ r, m = some r → mm C M' d' 0 0 nx nx (.ref b :: As) (hp nx s) (QA nx s r) XF) (kk : ∀ r, m = some r → f r = some o → ww C M d mc ms ne Qr Qx nx k n (pc + 3) lv (.ref r :: st) (hp nx s)) : ww C M d mc ms ne Qr Qx nx k n pc lv stk (hp nx s) := by
  subst hst
  refine bnd_e hs fun r hr hs => ?_
  refine w_callV M' As hd hlk hb (shp_C hsh) hci hdd hk hn hw (hm r hr) XOK.no (fun v h' hq => ?_)
  obtain ⟨rfl, rfl⟩ := hq
  exact kk r hr hs
/-- a row that can be copied from -/
def srcR (ty : FieldType) (n0 : Nat) (f : Nat → Int32) (q : Nat) (U : State) (H : Heap) : Prop := ∃ cs : Cell, H[q]? = some cs ∧ cs.vm ≠ .unknown ∧ U.isArrayOf cs ty ∧ n0 ≤ cs.slots.size ∧ ∀ j : Nat, j < n0 → cs.slots[j]? = some (.int (f j))
theorem srcR_new {U : State} {H : Heap} {a n t1 : Nat} {ty : FieldType} (hK : va_K (xD C) vwCl (tyl C) U) (hP : HPh C nx h H) (hs : shC C a = some (.inr (ty, n))) (ha : a < nx) (ht : (tyl C)[t1]? = some (xA C ty, ty)) (hI : ty = .int ∨ ty = .byte) : srcR ty n (gI h a) (ad C a) U H := by
  have hc : H[xB C + a]? = some (arrV (xA C ty) n (fun j => .int (gI h a j))) := by
    have h9 := hP.1 a _ (wl_at C nx h ha)
    rw [ce_arrC C h hs] at h9
    rcases hI with rfl | rfl <;> exact h9
  rw [ad_l9 (hP9 hP ha)]
  exact ⟨_, hc, (fun q => by cases q), (hK.2 t1 _ ht).1 n _, by rw [arrV_size]; exact Nat.le_refl _, fun j hj => arrV_read _ _ hj⟩
theorem srcR_old {U : State} {H : Heap} {ty : FieldType} {t N : Nat} {f : Nat → Int32} {A : Nat → Prop} (hT : va_T ty t N (fun j => .int (f j)) A U H) : srcR ty N f t U H := by
  obtain ⟨cell, h1, h2, h3, h4, -, h5, -⟩ := hT
  exact ⟨cell, h1, h3, h2, h4, h5⟩
/-- a stretch of a row into another one -/
theorem w_copyG {a b n0 n1 t1 idx : Nat} {ty : FieldType} {f : Nat → Int32} {sp dp m0 : Int32} {h' : Hp} (hsrc : ∀ (U : State) (H : Heap) (locs : List Loc), St C U U.heap → va_S (xAl C) U.heap H locs → HPh C nx h H → srcR ty n0 f (ad C a) U H) (ht : (tyl C)[t1]? = some (xA C ty, ty)) (hI : ty = .int ∨ ty = .byte) (hs : shC C b = some (.inr (ty, n1))) (hb : b < nx)
    (h1 : ¬ sp < 0) (h2 : ¬ dp < 0) (h3 : ¬ m0 < 0) (h4 : sp.toNatClampNeg + m0.toNatClampNeg ≤ n0) (h5 : dp.toNatClampNeg + m0.toNatClampNeg ≤ n1) (hfit : ∀ i, i < m0.toNatClampNeg → fits ty (.int (f (sp.toNatClampNeg + i))) = true) (hd : decode (mB M) pc = .ok (.invokestatic idx, 3)) (hlk : Cond.methodLink (mY M).cls idx arraycopyName ∈ lw_all ∧ Cond.native arraycopyName ∈ lw_all ∧ Cond.static arraycopyName ∈ lw_all ∧ Cond.initialized "java/lang/System" ∈ lw_all) (hdd : 1 ≤ d) (hw : (st.map fun v => v.category).sum ≤ 8)
    (e0 : ∀ q, gI h' b q = va_cpy f (gI h b) sp.toNatClampNeg dp.toNatClampNeg m0.toNatClampNeg q) (e1 : ∀ j, j ≠ b → ∀ k, gI h' j k = gI h j k) (e2 : gR h' = gR h) (e3 : gL h' = gL h) (e4 : gD h' = gD h) (kk : ww C M d mc ms ne Qr Qx nx k n (pc + 3) lv st h') : ww C M d mc ms ne Qr Qx nx k n pc lv (.int m0 :: .int dp :: .ref b :: .int sp :: .ref a :: st) h := by
  intro p l ee s9 m args below meth c Fin cz hr hx hzz H locs ls hP hS hL
  show W p l ee _ s9 m args below meth c H locs k n Fin (F0 m pc ls (.int m0 :: .int dp :: .ref (ad C b) :: .int sp :: .ref (ad C a) :: st.map (up C)))
  rw [show ad C b = xB C + b from ad_l9 (hP9 hP hb)]
  obtain ⟨cs, c1, c3, c4, c5, c6⟩ := hsrc s9 H locs cz.2.2.2.1 hS hP
  obtain ⟨c2, ks, hks, cms, hkks⟩ := c4
  have nn : ∀ z : Int32, ¬ z < 0 → z.toInt = (z.toNatClampNeg : Int) := by
    intro z hz
    have hz0 : (0 : Int) ≤ z.toInt := by
      have := Int32.not_lt.mp hz
      simpa using Int32.le_iff_toInt_le.mp this
    show z.toInt = ((z.toInt.toNat : Nat) : Int)
    omega
  have hc1 : H[xB C + b]? = some (arrV (xA C ty) n1 (fun j => .int (gI h b j))) := by
    have h9 := hP.1 b _ (wl_at C nx h hb)
    rw [ce_arrC C h hs] at h9
    rcases hI with rfl | rfl <;> exact h9
  obtain ⟨-, kd, hkd, cmd, hkkd⟩ := (cz.2.2.2.1.1.2 t1 _ ht).1 n1 (fun j => .int (gI h b j))
  intro T hT X
  obtain ⟨vm', X', step⟩ := X.arraycopy cz.1.1 cz.1.2.2.2.2 (cz.2.1 _ hlk.1) (cz.2.1 _ hlk.2.1) (cz.2.1 _ hlk.2.2.1) (cz.2.1 _ hlk.2.2.2) (src := ad C a) (dst := xB C + b) (cs := cs) (cd := arrV (xA C ty) n1 (fun j => .int (gI h b j))) (srcPos := sp) (destPos := dp) (n := m0) (by rw [hT]; exact c1) (by rw [hT]; exact hc1) c2 (fun _ z => by cases z) c3 (fun z => by cases z) hks hkd hkks hkkd (by rcases hI with rfl | rfl <;> rfl) h1 h2 h3
    (by rw [nn sp h1, nn m0 h3]; omega) (by rw [nn dp h2, nn m0 h3, arrV_size]; omega)
    (fun vm1 _ i hi => by
      have e : cs.slots.getD (sp.toNatClampNeg + i) .null = .int (f (sp.toNatClampNeg + i)) := by
        rw [Array.getD_eq_getD_getElem?, c6 _ (by omega)]
        rfl
      rw [e]
      exact ⟨hfit i hi, trivial⟩)
    (g := F0 m pc ls (.int m0 :: .int dp :: .ref (xB C + b) :: .int sp :: .ref (ad C a) :: st.map (up C))) rfl (hL.1.trans cz.1.2.2.2.1.symm) (rest := st.map (up C)) rfl (by rw [cz.1.2.1]; exact hd) (by show 1 ≤ d; exact hdd) (by
      have := nfw_le
      rw [up_sum]
      show 2 * 0 + _ + _ ≤ 70 * d
      omega)
  have e9 : copied cs (arrV (xA C ty) n1 (fun j => .int (gI h b j))) sp dp m0 = arrV (xA C ty) n1 (fun j => .int (va_cpy f (gI h b) sp.toNatClampNeg dp.toNatClampNeg m0.toNatClampNeg j)) := va_copiedX (fun z => .int z) cs (xA C ty) f (gI h b) c6 h4
  rw [e9] at X' step
  generalize hcN : arrV (xA C ty) n1 (fun j => .int (va_cpy f (gI h b) sp.toNatClampNeg dp.toNatClampNeg m0.toNatClampNeg j)) = cN at X' step
  have hl : xB C + b < H.size := (Array.getElem?_eq_some_iff.mp hc1).1
  have hheap : ((T.setVm vm').setCell (xB C + b) cN).heap = H.setIfInBounds (xB C + b) cN := by rw [← hT]; rfl
  have oq : ∀ q : Nat, q ≠ xB C + b → (H.setIfInBounds (xB C + b) cN)[q]? = H[q]? := fun q hq => by simp [Array.getElem?_setIfInBounds, Ne.symm hq]
  have sq : (H.setIfInBounds (xB C + b) cN)[xB C + b]? = some cN := by simp [Array.getElem?_setIfInBounds, hl]
  have zq : (H.setIfInBounds (xB C + b) cN).size = H.size := by simp
  have key : HPh C nx h' (H.setIfInBounds (xB C + b) cN) := by
    refine HPh_upd hP hb ?_ zq oq e1 (fun j _ k => by rw [e2]) (fun j _ k => by rw [e3]) (fun j _ k => by rw [e4])
    rw [ce_arrC C h' hs]
    have e8 : cN = arrV (xA C ty) n1 (fun j => .int (gI h' b j)) := by
      rw [← hcN]
      congr 1
      funext j
      rw [e0 j]
    rw [e8] at sq
    rw [e8]
    rcases hI with rfl | rfl <;> exact sq
  obtain ⟨t, a1, b1⟩ := kk p l ee s9 m args below meth c Fin cz hr hx hzz (H.setIfInBounds (xB C + b) cN) _ ls key ⟨by rw [zq]; exact hS.1, fun q g1 g2 => by
      rw [oq q (fun e => g2 (by rw [e]; exact Nat.le_add_right _ _))]
      exact hS.2.1 q g1 g2, fun q hq => by
      rcases List.mem_append.mp hq with z | z
      · exact hS.2.2 q z
      · obtain ⟨y, -, hy⟩ := List.mem_map.mp z
        rw [← hy]
        exact Nat.le_add_right _ _⟩ hL _ hheap X'
  exact ⟨t, step t a1, b1⟩
theorem x_copy {a b N idx : Nat} {x : Int} (hxN : x = (N : Int)) (ha : shp a = some (.inr (.int, N))) (hla : a < nx) (hb : shp b = some (.inr (.int, N))) (hlb : b < nx) (hd : decode (mB M) pc = .ok (.invokestatic idx, 3)) (hlk : Cond.methodLink (mY M).cls idx arraycopyName ∈ lw_all ∧ Cond.native arraycopyName ∈ lw_all ∧ Cond.static arraycopyName ∈ lw_all ∧ Cond.initialized "java/lang/System" ∈ lw_all) (hdd : 1 ≤ d) (hN : N ≤ 4096) (hw : (st.map fun v => v.category).sum ≤ 8) (kk : ww C M d mc ms ne Qr Qx nx k n (pc + 3) lv st (hp nx (cpy s a b N))) : ww C M d mc ms ne Qr Qx nx k n pc lv (vi x :: vi 0 :: .ref b :: vi 0 :: .ref a :: st) (hp nx s) := by
  subst hxN
  have e0 : (Int32.ofInt 0).toNatClampNeg = 0 := by decide
  have eN : (Int32.ofInt (N : Int)).toNatClampNeg = N := by
    show (Int32.ofInt (N : Int)).toInt.toNat = N
    rw [t32 (by unfold R; omega)]
    exact Int.toNat_natCast N
  have hNn : ¬ Int32.ofInt (N : Int) < 0 := by
    rw [z32, c32l (by unfold R; omega) R0]; omega
  refine w_copyG (f := gI (hp nx s) a) (n0 := N) (n1 := N) (ty := .int) (t1 := 0) (h' := hp nx (cpy s a b N)) (fun U H locs hSt _ hP => srcR_new (t1 := 0) hSt.1 hP (shp_C ha) hla rfl (Or.inl rfl)) rfl (Or.inl rfl) (shp_C hb) hlb (by decide) (by decide) hNn (by rw [e0, eN]; omega) (by rw [e0, eN]; omega) (fun _ _ => rfl) hd hlk hdd hw (fun q => ?_) (fun j hj k => ?_) rfl rfl rfl kk
  · rw [e0, eN]
    show Int32.ofInt (if b = b ∧ q < N then s.1 a q else s.1 b q) = (if 0 ≤ q ∧ q < 0 + N then Int32.ofInt (s.1 a (0 + (q - 0))) else Int32.ofInt (s.1 b q))
    by_cases hq : q < N
    · rw [if_pos ⟨rfl, hq⟩, if_pos ⟨Nat.zero_le _, by omega⟩]; simp
    · rw [if_neg (by omega), if_neg (by omega)]
  · show Int32.ofInt (if j = b ∧ k < N then s.1 a k else s.1 j k) = Int32.ofInt (s.1 j k)
    rw [if_neg (fun e => hj e.1)]
end XY

def slen (w : Nat) : Int := (wlen w : Int)
def schr (w : Nat) (i : Int) : Int := wch w i.toNat
end
