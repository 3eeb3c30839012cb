-- ===== PART A: goes FIRST, ahead of the names: the tables' words, and 'selects' of the private methods out of them =====
/-- a private method of a class that the tables say can be made, by its rows of tables_1 -/
def lw_okq (q : MethodName × Nat) : Prop := (q.1.cls ≠ "java/lang/invoke/MethodHandle" ∧ q.1.cls ≠ "java/lang/invoke/VarHandle") ∧ Cond.instantiable q.1.cls q.2 ∈ tables_1 ∧ Cond.privateMethod q.1 ∈ tables_1 ∧ Cond.instanceMethod q.1 ∈ tables_1
theorem lw_p0 : lw_okq (⟨"BlockYard$LevelReader", "endRow", "()Z"⟩, 7) := ⟨⟨by decide +kernel, by decide +kernel⟩, List.mem_of_getElem? (i := 157) (by decide +kernel), List.mem_of_getElem? (i := 338) (by decide +kernel), List.mem_of_getElem? (i := 339) (by decide +kernel)⟩
theorem lw_p1 : lw_okq (⟨"BlockYard$LevelReader", "addCell", "(CI)Z"⟩, 7) := ⟨⟨by decide +kernel, by decide +kernel⟩, List.mem_of_getElem? (i := 157) (by decide +kernel), List.mem_of_getElem? (i := 342) (by decide +kernel), List.mem_of_getElem? (i := 343) (by decide +kernel)⟩
theorem lw_p2 : lw_okq (⟨"BlockYard$LevelReader", "addBlockCell", "(IZI)Z"⟩, 7) := ⟨⟨by decide +kernel, by decide +kernel⟩, List.mem_of_getElem? (i := 157) (by decide +kernel), List.mem_of_getElem? (i := 360) (by decide +kernel), List.mem_of_getElem? (i := 361) (by decide +kernel)⟩
theorem lw_p3 : lw_okq (⟨"BlockYard$LevelReader", "faultOfPivots", "()I"⟩, 7) := ⟨⟨by decide +kernel, by decide +kernel⟩, List.mem_of_getElem? (i := 157) (by decide +kernel), List.mem_of_getElem? (i := 364) (by decide +kernel), List.mem_of_getElem? (i := 365) (by decide +kernel)⟩
theorem lw_p4 : lw_okq (⟨"BlockYard$LevelReader", "buildCell", "(LBlockYard$Level;II)V"⟩, 7) := ⟨⟨by decide +kernel, by decide +kernel⟩, List.mem_of_getElem? (i := 157) (by decide +kernel), List.mem_of_getElem? (i := 393) (by decide +kernel), List.mem_of_getElem? (i := 394) (by decide +kernel)⟩
theorem lw_p5 : lw_okq (⟨"BlockYard$Block", "cellsIn", "(LBlockYard$Yard;I)J"⟩, 8) := ⟨⟨by decide +kernel, by decide +kernel⟩, List.mem_of_getElem? (i := 86) (by decide +kernel), List.mem_of_getElem? (i := 415) (by decide +kernel), List.mem_of_getElem? (i := 416) (by decide +kernel)⟩
theorem lw_p6 : lw_okq (⟨"BlockYard", "faultOfMoves", "()I"⟩, 8) := ⟨⟨by decide +kernel, by decide +kernel⟩, List.mem_of_getElem? (i := 14) (by decide +kernel), List.mem_of_getElem? (i := 456) (by decide +kernel), List.mem_of_getElem? (i := 457) (by decide +kernel)⟩
theorem lw_p7 : lw_okq (⟨"BlockYard$Mover", "push", "(II)I"⟩, 8) := ⟨⟨by decide +kernel, by decide +kernel⟩, List.mem_of_getElem? (i := 185) (by decide +kernel), List.mem_of_getElem? (i := 488) (by decide +kernel), List.mem_of_getElem? (i := 489) (by decide +kernel)⟩
theorem lw_p8 : lw_okq (⟨"BlockYard", "attempt", "(II)I"⟩, 8) := ⟨⟨by decide +kernel, by decide +kernel⟩, List.mem_of_getElem? (i := 14) (by decide +kernel), List.mem_of_getElem? (i := 524) (by decide +kernel), List.mem_of_getElem? (i := 525) (by decide +kernel)⟩
theorem lw_p9 : lw_okq (⟨"BlockYard", "makeMove", "(III)V"⟩, 8) := ⟨⟨by decide +kernel, by decide +kernel⟩, List.mem_of_getElem? (i := 14) (by decide +kernel), List.mem_of_getElem? (i := 528) (by decide +kernel), List.mem_of_getElem? (i := 529) (by decide +kernel)⟩
theorem lw_p10 : lw_okq (⟨"BlockYard$Block", "placementBefore", "(LBlockYard$Yard;II)I"⟩, 8) := ⟨⟨by decide +kernel, by decide +kernel⟩, List.mem_of_getElem? (i := 86) (by decide +kernel), List.mem_of_getElem? (i := 589) (by decide +kernel), List.mem_of_getElem? (i := 590) (by decide +kernel)⟩
theorem lw_p11 : lw_okq (⟨"BlockYard", "isEmptySlot", "(I)Z"⟩, 8) := ⟨⟨by decide +kernel, by decide +kernel⟩, List.mem_of_getElem? (i := 14) (by decide +kernel), List.mem_of_getElem? (i := 661) (by decide +kernel), List.mem_of_getElem? (i := 662) (by decide +kernel)⟩
theorem lw_p12 : lw_okq (⟨"BlockYard$Search", "findSolution", "(J)I"⟩, 11) := ⟨⟨by decide +kernel, by decide +kernel⟩, List.mem_of_getElem? (i := 245) (by decide +kernel), List.mem_of_getElem? (i := 704) (by decide +kernel), List.mem_of_getElem? (i := 705) (by decide +kernel)⟩
theorem lw_p13 : lw_okq (⟨"BlockYard$Search", "begin", "(J)V"⟩, 11) := ⟨⟨by decide +kernel, by decide +kernel⟩, List.mem_of_getElem? (i := 245) (by decide +kernel), List.mem_of_getElem? (i := 709) (by decide +kernel), List.mem_of_getElem? (i := 710) (by decide +kernel)⟩
theorem lw_p14 : lw_okq (⟨"BlockYard$Search", "freePlaceFor", "(J)I"⟩, 11) := ⟨⟨by decide +kernel, by decide +kernel⟩, List.mem_of_getElem? (i := 245) (by decide +kernel), List.mem_of_getElem? (i := 714) (by decide +kernel), List.mem_of_getElem? (i := 715) (by decide +kernel)⟩
theorem lw_p15 : lw_okq (⟨"BlockYard$Search", "append", "(IJII)V"⟩, 11) := ⟨⟨by decide +kernel, by decide +kernel⟩, List.mem_of_getElem? (i := 245) (by decide +kernel), List.mem_of_getElem? (i := 719) (by decide +kernel), List.mem_of_getElem? (i := 720) (by decide +kernel)⟩
def lw_privs_1 : List (MethodName × Nat) := [(⟨"BlockYard$LevelReader", "endRow", "()Z"⟩, 7), (⟨"BlockYard$LevelReader", "addCell", "(CI)Z"⟩, 7), (⟨"BlockYard$LevelReader", "addBlockCell", "(IZI)Z"⟩, 7), (⟨"BlockYard$LevelReader", "faultOfPivots", "()I"⟩, 7), (⟨"BlockYard$LevelReader", "buildCell", "(LBlockYard$Level;II)V"⟩, 7), (⟨"BlockYard$Block", "cellsIn", "(LBlockYard$Yard;I)J"⟩, 8), (⟨"BlockYard", "faultOfMoves", "()I"⟩, 8), (⟨"BlockYard$Mover", "push", "(II)I"⟩, 8), (⟨"BlockYard", "attempt", "(II)I"⟩, 8), (⟨"BlockYard", "makeMove", "(III)V"⟩, 8), (⟨"BlockYard$Block", "placementBefore", "(LBlockYard$Yard;II)I"⟩, 8), (⟨"BlockYard", "isEmptySlot", "(I)Z"⟩, 8), (⟨"BlockYard$Search", "findSolution", "(J)I"⟩, 11), (⟨"BlockYard$Search", "begin", "(J)V"⟩, 11), (⟨"BlockYard$Search", "freePlaceFor", "(J)I"⟩, 11), (⟨"BlockYard$Search", "append", "(IJII)V"⟩, 11)]
theorem lw_r1 : ∀ q ∈ lw_privs_1, lw_okq q := List.forall_mem_cons.mpr ⟨lw_p0, List.forall_mem_cons.mpr ⟨lw_p1, List.forall_mem_cons.mpr ⟨lw_p2, List.forall_mem_cons.mpr ⟨lw_p3, List.forall_mem_cons.mpr ⟨lw_p4, List.forall_mem_cons.mpr ⟨lw_p5, List.forall_mem_cons.mpr ⟨lw_p6, List.forall_mem_cons.mpr ⟨lw_p7, List.forall_mem_cons.mpr ⟨lw_p8, List.forall_mem_cons.mpr ⟨lw_p9, List.forall_mem_cons.mpr ⟨lw_p10, List.forall_mem_cons.mpr ⟨lw_p11, List.forall_mem_cons.mpr ⟨lw_p12, List.forall_mem_cons.mpr ⟨lw_p13, List.forall_mem_cons.mpr ⟨lw_p14, List.forall_mem_cons.mpr ⟨lw_p15, fun _ h => absurd h List.not_mem_nil⟩⟩⟩⟩⟩⟩⟩⟩⟩⟩⟩⟩⟩⟩⟩⟩
theorem lw_p16 : lw_okq (⟨"BlockYard$Search", "spread", "(IZ)I"⟩, 11) := ⟨⟨by decide +kernel, by decide +kernel⟩, List.mem_of_getElem? (i := 245) (by decide +kernel), List.mem_of_getElem? (i := 723) (by decide +kernel), List.mem_of_getElem? (i := 724) (by decide +kernel)⟩
theorem lw_p17 : lw_okq (⟨"BlockYard$Search", "traceSolution", "()I"⟩, 11) := ⟨⟨by decide +kernel, by decide +kernel⟩, List.mem_of_getElem? (i := 245) (by decide +kernel), List.mem_of_getElem? (i := 730) (by decide +kernel), List.mem_of_getElem? (i := 731) (by decide +kernel)⟩
theorem lw_p18 : lw_okq (⟨"BlockYardModel", "findFault", "()I"⟩, 44) := ⟨⟨by decide +kernel, by decide +kernel⟩, List.mem_of_getElem? (i := 746) (by decide +kernel), List.mem_of_getElem? (i := 898) (by decide +kernel), List.mem_of_getElem? (i := 899) (by decide +kernel)⟩
theorem lw_p19 : lw_okq (⟨"BlockYardModel", "readsCell", "(III)Z"⟩, 44) := ⟨⟨by decide +kernel, by decide +kernel⟩, List.mem_of_getElem? (i := 746) (by decide +kernel), List.mem_of_getElem? (i := 902) (by decide +kernel), List.mem_of_getElem? (i := 903) (by decide +kernel)⟩
theorem lw_p20 : lw_okq (⟨"BlockYardModel", "moveBarred", "(II)I"⟩, 44) := ⟨⟨by decide +kernel, by decide +kernel⟩, List.mem_of_getElem? (i := 746) (by decide +kernel), List.mem_of_getElem? (i := 916) (by decide +kernel), List.mem_of_getElem? (i := 917) (by decide +kernel)⟩
theorem lw_p21 : lw_okq (⟨"BlockYardModel", "noBlock", "(I)Z"⟩, 44) := ⟨⟨by decide +kernel, by decide +kernel⟩, List.mem_of_getElem? (i := 746) (by decide +kernel), List.mem_of_getElem? (i := 920) (by decide +kernel), List.mem_of_getElem? (i := 921) (by decide +kernel)⟩
theorem lw_p22 : lw_okq (⟨"BlockYardModel", "movedBy", "(II)I"⟩, 44) := ⟨⟨by decide +kernel, by decide +kernel⟩, List.mem_of_getElem? (i := 746) (by decide +kernel), List.mem_of_getElem? (i := 927) (by decide +kernel), List.mem_of_getElem? (i := 928) (by decide +kernel)⟩
theorem lw_p23 : lw_okq (⟨"BlockYardModel", "layOwners", "()V"⟩, 44) := ⟨⟨by decide +kernel, by decide +kernel⟩, List.mem_of_getElem? (i := 746) (by decide +kernel), List.mem_of_getElem? (i := 931) (by decide +kernel), List.mem_of_getElem? (i := 932) (by decide +kernel)⟩
theorem lw_p24 : lw_okq (⟨"BlockYardModel", "cellY", "(III)I"⟩, 44) := ⟨⟨by decide +kernel, by decide +kernel⟩, List.mem_of_getElem? (i := 746) (by decide +kernel), List.mem_of_getElem? (i := 935) (by decide +kernel), List.mem_of_getElem? (i := 936) (by decide +kernel)⟩
theorem lw_p25 : lw_okq (⟨"BlockYardModel", "cellX", "(III)I"⟩, 44) := ⟨⟨by decide +kernel, by decide +kernel⟩, List.mem_of_getElem? (i := 746) (by decide +kernel), List.mem_of_getElem? (i := 942) (by decide +kernel), List.mem_of_getElem? (i := 943) (by decide +kernel)⟩
theorem lw_p26 : lw_okq (⟨"BlockYardModel", "pushed", "(II)I"⟩, 44) := ⟨⟨by decide +kernel, by decide +kernel⟩, List.mem_of_getElem? (i := 746) (by decide +kernel), List.mem_of_getElem? (i := 949) (by decide +kernel), List.mem_of_getElem? (i := 950) (by decide +kernel)⟩
theorem lw_p27 : lw_okq (⟨"BlockYardModel", "isInYard", "(II)Z"⟩, 44) := ⟨⟨by decide +kernel, by decide +kernel⟩, List.mem_of_getElem? (i := 746) (by decide +kernel), List.mem_of_getElem? (i := 959) (by decide +kernel), List.mem_of_getElem? (i := 960) (by decide +kernel)⟩
theorem lw_p28 : lw_okq (⟨"BlockYardModel", "maySlide", "(II)Z"⟩, 44) := ⟨⟨by decide +kernel, by decide +kernel⟩, List.mem_of_getElem? (i := 746) (by decide +kernel), List.mem_of_getElem? (i := 963) (by decide +kernel), List.mem_of_getElem? (i := 964) (by decide +kernel)⟩
theorem lw_p29 : lw_okq (⟨"BlockYardModel", "isPassable", "(III)Z"⟩, 44) := ⟨⟨by decide +kernel, by decide +kernel⟩, List.mem_of_getElem? (i := 746) (by decide +kernel), List.mem_of_getElem? (i := 967) (by decide +kernel), List.mem_of_getElem? (i := 968) (by decide +kernel)⟩
theorem lw_p30 : lw_okq (⟨"BlockYardModel", "kindAt", "(II)I"⟩, 44) := ⟨⟨by decide +kernel, by decide +kernel⟩, List.mem_of_getElem? (i := 746) (by decide +kernel), List.mem_of_getElem? (i := 971) (by decide +kernel), List.mem_of_getElem? (i := 972) (by decide +kernel)⟩
theorem lw_p31 : lw_okq (⟨"BlockYardModel", "mayTurn", "(IZ)Z"⟩, 44) := ⟨⟨by decide +kernel, by decide +kernel⟩, List.mem_of_getElem? (i := 746) (by decide +kernel), List.mem_of_getElem? (i := 975) (by decide +kernel), List.mem_of_getElem? (i := 976) (by decide +kernel)⟩
def lw_privs_2 : List (MethodName × Nat) := [(⟨"BlockYard$Search", "spread", "(IZ)I"⟩, 11), (⟨"BlockYard$Search", "traceSolution", "()I"⟩, 11), (⟨"BlockYardModel", "findFault", "()I"⟩, 44), (⟨"BlockYardModel", "readsCell", "(III)Z"⟩, 44), (⟨"BlockYardModel", "moveBarred", "(II)I"⟩, 44), (⟨"BlockYardModel", "noBlock", "(I)Z"⟩, 44), (⟨"BlockYardModel", "movedBy", "(II)I"⟩, 44), (⟨"BlockYardModel", "layOwners", "()V"⟩, 44), (⟨"BlockYardModel", "cellY", "(III)I"⟩, 44), (⟨"BlockYardModel", "cellX", "(III)I"⟩, 44), (⟨"BlockYardModel", "pushed", "(II)I"⟩, 44), (⟨"BlockYardModel", "isInYard", "(II)Z"⟩, 44), (⟨"BlockYardModel", "maySlide", "(II)Z"⟩, 44), (⟨"BlockYardModel", "isPassable", "(III)Z"⟩, 44), (⟨"BlockYardModel", "kindAt", "(II)I"⟩, 44), (⟨"BlockYardModel", "mayTurn", "(IZ)Z"⟩, 44)]
theorem lw_r2 : ∀ q ∈ lw_privs_2, lw_okq q := List.forall_mem_cons.mpr ⟨lw_p16, List.forall_mem_cons.mpr ⟨lw_p17, List.forall_mem_cons.mpr ⟨lw_p18, List.forall_mem_cons.mpr ⟨lw_p19, List.forall_mem_cons.mpr ⟨lw_p20, List.forall_mem_cons.mpr ⟨lw_p21, List.forall_mem_cons.mpr ⟨lw_p22, List.forall_mem_cons.mpr ⟨lw_p23, List.forall_mem_cons.mpr ⟨lw_p24, List.forall_mem_cons.mpr ⟨lw_p25, List.forall_mem_cons.mpr ⟨lw_p26, List.forall_mem_cons.mpr ⟨lw_p27, List.forall_mem_cons.mpr ⟨lw_p28, List.forall_mem_cons.mpr ⟨lw_p29, List.forall_mem_cons.mpr ⟨lw_p30, List.forall_mem_cons.mpr ⟨lw_p31, fun _ h => absurd h List.not_mem_nil⟩⟩⟩⟩⟩⟩⟩⟩⟩⟩⟩⟩⟩⟩⟩⟩
theorem lw_p32 : lw_okq (⟨"BlockYardModel", "goRound", "(IZ)V"⟩, 44) := ⟨⟨by decide +kernel, by decide +kernel⟩, List.mem_of_getElem? (i := 746) (by decide +kernel), List.mem_of_getElem? (i := 982) (by decide +kernel), List.mem_of_getElem? (i := 983) (by decide +kernel)⟩
theorem lw_p33 : lw_okq (⟨"BlockYardModel", "makes", "(III)V"⟩, 44) := ⟨⟨by decide +kernel, by decide +kernel⟩, List.mem_of_getElem? (i := 746) (by decide +kernel), List.mem_of_getElem? (i := 990) (by decide +kernel), List.mem_of_getElem? (i := 991) (by decide +kernel)⟩
theorem lw_p34 : lw_okq (⟨"BlockYardModel", "weightBy", "(I)I"⟩, 44) := ⟨⟨by decide +kernel, by decide +kernel⟩, List.mem_of_getElem? (i := 746) (by decide +kernel), List.mem_of_getElem? (i := 994) (by decide +kernel), List.mem_of_getElem? (i := 995) (by decide +kernel)⟩
theorem lw_p35 : lw_okq (⟨"BlockYardModel", "packed", "()J"⟩, 44) := ⟨⟨by decide +kernel, by decide +kernel⟩, List.mem_of_getElem? (i := 746) (by decide +kernel), List.mem_of_getElem? (i := 998) (by decide +kernel), List.mem_of_getElem? (i := 999) (by decide +kernel)⟩
theorem lw_p36 : lw_okq (⟨"BlockYardModel", "carryOut", "(II)V"⟩, 44) := ⟨⟨by decide +kernel, by decide +kernel⟩, List.mem_of_getElem? (i := 746) (by decide +kernel), List.mem_of_getElem? (i := 1003) (by decide +kernel), List.mem_of_getElem? (i := 1004) (by decide +kernel)⟩
theorem lw_p37 : lw_okq (⟨"BlockYardModel", "possibleAt", "(I)I"⟩, 44) := ⟨⟨by decide +kernel, by decide +kernel⟩, List.mem_of_getElem? (i := 746) (by decide +kernel), List.mem_of_getElem? (i := 1014) (by decide +kernel), List.mem_of_getElem? (i := 1015) (by decide +kernel)⟩
theorem lw_p38 : lw_okq (⟨"BlockYardModel", "unpack", "(J)V"⟩, 44) := ⟨⟨by decide +kernel, by decide +kernel⟩, List.mem_of_getElem? (i := 746) (by decide +kernel), List.mem_of_getElem? (i := 1026) (by decide +kernel), List.mem_of_getElem? (i := 1027) (by decide +kernel)⟩
theorem lw_p39 : lw_okq (⟨"BlockYardModel", "goThrough", "()I"⟩, 44) := ⟨⟨by decide +kernel, by decide +kernel⟩, List.mem_of_getElem? (i := 746) (by decide +kernel), List.mem_of_getElem? (i := 1046) (by decide +kernel), List.mem_of_getElem? (i := 1047) (by decide +kernel)⟩
theorem lw_p40 : lw_okq (⟨"BlockYardModel", "isPlacement", "(II)Z"⟩, 44) := ⟨⟨by decide +kernel, by decide +kernel⟩, List.mem_of_getElem? (i := 746) (by decide +kernel), List.mem_of_getElem? (i := 1112) (by decide +kernel), List.mem_of_getElem? (i := 1113) (by decide +kernel)⟩
theorem lw_p41 : lw_okq (⟨"BlockYardModel", "isFree", "(II)Z"⟩, 44) := ⟨⟨by decide +kernel, by decide +kernel⟩, List.mem_of_getElem? (i := 746) (by decide +kernel), List.mem_of_getElem? (i := 1116) (by decide +kernel), List.mem_of_getElem? (i := 1117) (by decide +kernel)⟩
theorem lw_p42 : lw_okq (⟨"BlockYardModel", "findFar", "(I)V"⟩, 44) := ⟨⟨by decide +kernel, by decide +kernel⟩, List.mem_of_getElem? (i := 746) (by decide +kernel), List.mem_of_getElem? (i := 1120) (by decide +kernel), List.mem_of_getElem? (i := 1121) (by decide +kernel)⟩
theorem lw_p43 : lw_okq (⟨"BlockYardModel", "isAtGoal", "(II)Z"⟩, 44) := ⟨⟨by decide +kernel, by decide +kernel⟩, List.mem_of_getElem? (i := 746) (by decide +kernel), List.mem_of_getElem? (i := 1124) (by decide +kernel), List.mem_of_getElem? (i := 1125) (by decide +kernel)⟩
theorem lw_p44 : lw_okq (⟨"BlockYardModel", "maySlideAlone", "(III)Z"⟩, 44) := ⟨⟨by decide +kernel, by decide +kernel⟩, List.mem_of_getElem? (i := 746) (by decide +kernel), List.mem_of_getElem? (i := 1128) (by decide +kernel), List.mem_of_getElem? (i := 1129) (by decide +kernel)⟩
theorem lw_p45 : lw_okq (⟨"BlockYardModel", "mayTurnAlone", "(IIZ)Z"⟩, 44) := ⟨⟨by decide +kernel, by decide +kernel⟩, List.mem_of_getElem? (i := 746) (by decide +kernel), List.mem_of_getElem? (i := 1132) (by decide +kernel), List.mem_of_getElem? (i := 1133) (by decide +kernel)⟩
theorem lw_p46 : lw_okq (⟨"BlockYardModel", "leadsTo", "(III)Z"⟩, 44) := ⟨⟨by decide +kernel, by decide +kernel⟩, List.mem_of_getElem? (i := 746) (by decide +kernel), List.mem_of_getElem? (i := 1136) (by decide +kernel), List.mem_of_getElem? (i := 1137) (by decide +kernel)⟩
theorem lw_p47 : lw_okq (⟨"BlockYardModel", "findAllFar", "()V"⟩, 44) := ⟨⟨by decide +kernel, by decide +kernel⟩, List.mem_of_getElem? (i := 746) (by decide +kernel), List.mem_of_getElem? (i := 1152) (by decide +kernel), List.mem_of_getElem? (i := 1153) (by decide +kernel)⟩
def lw_privs_3 : List (MethodName × Nat) := [(⟨"BlockYardModel", "goRound", "(IZ)V"⟩, 44), (⟨"BlockYardModel", "makes", "(III)V"⟩, 44), (⟨"BlockYardModel", "weightBy", "(I)I"⟩, 44), (⟨"BlockYardModel", "packed", "()J"⟩, 44), (⟨"BlockYardModel", "carryOut", "(II)V"⟩, 44), (⟨"BlockYardModel", "possibleAt", "(I)I"⟩, 44), (⟨"BlockYardModel", "unpack", "(J)V"⟩, 44), (⟨"BlockYardModel", "goThrough", "()I"⟩, 44), (⟨"BlockYardModel", "isPlacement", "(II)Z"⟩, 44), (⟨"BlockYardModel", "isFree", "(II)Z"⟩, 44), (⟨"BlockYardModel", "findFar", "(I)V"⟩, 44), (⟨"BlockYardModel", "isAtGoal", "(II)Z"⟩, 44), (⟨"BlockYardModel", "maySlideAlone", "(III)Z"⟩, 44), (⟨"BlockYardModel", "mayTurnAlone", "(IIZ)Z"⟩, 44), (⟨"BlockYardModel", "leadsTo", "(III)Z"⟩, 44), (⟨"BlockYardModel", "findAllFar", "()V"⟩, 44)]
theorem lw_r3 : ∀ q ∈ lw_privs_3, lw_okq q := List.forall_mem_cons.mpr ⟨lw_p32, List.forall_mem_cons.mpr ⟨lw_p33, List.forall_mem_cons.mpr ⟨lw_p34, List.forall_mem_cons.mpr ⟨lw_p35, List.forall_mem_cons.mpr ⟨lw_p36, List.forall_mem_cons.mpr ⟨lw_p37, List.forall_mem_cons.mpr ⟨lw_p38, List.forall_mem_cons.mpr ⟨lw_p39, List.forall_mem_cons.mpr ⟨lw_p40, List.forall_mem_cons.mpr ⟨lw_p41, List.forall_mem_cons.mpr ⟨lw_p42, List.forall_mem_cons.mpr ⟨lw_p43, List.forall_mem_cons.mpr ⟨lw_p44, List.forall_mem_cons.mpr ⟨lw_p45, List.forall_mem_cons.mpr ⟨lw_p46, List.forall_mem_cons.mpr ⟨lw_p47, fun _ h => absurd h List.not_mem_nil⟩⟩⟩⟩⟩⟩⟩⟩⟩⟩⟩⟩⟩⟩⟩⟩
theorem lw_p48 : lw_okq (⟨"BlockYardModel", "isDeadNow", "()Z"⟩, 44) := ⟨⟨by decide +kernel, by decide +kernel⟩, List.mem_of_getElem? (i := 746) (by decide +kernel), List.mem_of_getElem? (i := 1156) (by decide +kernel), List.mem_of_getElem? (i := 1157) (by decide +kernel)⟩
theorem lw_p49 : lw_okq (⟨"BlockYardModel", "isSolvedNow", "()Z"⟩, 44) := ⟨⟨by decide +kernel, by decide +kernel⟩, List.mem_of_getElem? (i := 746) (by decide +kernel), List.mem_of_getElem? (i := 1164) (by decide +kernel), List.mem_of_getElem? (i := 1165) (by decide +kernel)⟩
theorem lw_p50 : lw_okq (⟨"BlockYardModel", "findSolution", "()V"⟩, 44) := ⟨⟨by decide +kernel, by decide +kernel⟩, List.mem_of_getElem? (i := 746) (by decide +kernel), List.mem_of_getElem? (i := 1172) (by decide +kernel), List.mem_of_getElem? (i := 1173) (by decide +kernel)⟩
theorem lw_p51 : lw_okq (⟨"BlockYardModel", "search", "(ZI)V"⟩, 44) := ⟨⟨by decide +kernel, by decide +kernel⟩, List.mem_of_getElem? (i := 746) (by decide +kernel), List.mem_of_getElem? (i := 1176) (by decide +kernel), List.mem_of_getElem? (i := 1177) (by decide +kernel)⟩
theorem lw_p52 : lw_okq (⟨"BlockYardModel", "tries", "(IIIZ)Z"⟩, 44) := ⟨⟨by decide +kernel, by decide +kernel⟩, List.mem_of_getElem? (i := 746) (by decide +kernel), List.mem_of_getElem? (i := 1180) (by decide +kernel), List.mem_of_getElem? (i := 1181) (by decide +kernel)⟩
theorem lw_p53 : lw_okq (⟨"BlockYardModel", "isListed", "(J)Z"⟩, 44) := ⟨⟨by decide +kernel, by decide +kernel⟩, List.mem_of_getElem? (i := 746) (by decide +kernel), List.mem_of_getElem? (i := 1184) (by decide +kernel), List.mem_of_getElem? (i := 1185) (by decide +kernel)⟩
def lw_privs_4 : List (MethodName × Nat) := [(⟨"BlockYardModel", "isDeadNow", "()Z"⟩, 44), (⟨"BlockYardModel", "isSolvedNow", "()Z"⟩, 44), (⟨"BlockYardModel", "findSolution", "()V"⟩, 44), (⟨"BlockYardModel", "search", "(ZI)V"⟩, 44), (⟨"BlockYardModel", "tries", "(IIIZ)Z"⟩, 44), (⟨"BlockYardModel", "isListed", "(J)Z"⟩, 44)]
theorem lw_r4 : ∀ q ∈ lw_privs_4, lw_okq q := List.forall_mem_cons.mpr ⟨lw_p48, List.forall_mem_cons.mpr ⟨lw_p49, List.forall_mem_cons.mpr ⟨lw_p50, List.forall_mem_cons.mpr ⟨lw_p51, List.forall_mem_cons.mpr ⟨lw_p52, List.forall_mem_cons.mpr ⟨lw_p53, fun _ h => absurd h List.not_mem_nil⟩⟩⟩⟩⟩⟩
def lw_privs : List (MethodName × Nat) := lw_privs_1 ++ (lw_privs_2 ++ (lw_privs_3 ++ (lw_privs_4)))
def lw_tbl : List Cond := k2_sels lw_privs ++ tables_1
theorem lw_privs_ok : ∀ q ∈ lw_privs, lw_okq q := by
  show ∀ q ∈ lw_privs_1 ++ (lw_privs_2 ++ (lw_privs_3 ++ (lw_privs_4))), lw_okq q
  exact List.forall_mem_append.mpr ⟨lw_r1, List.forall_mem_append.mpr ⟨lw_r2, List.forall_mem_append.mpr ⟨lw_r3, lw_r4⟩⟩⟩
theorem goodIn_r {big : List Cond} (ws : List Cond) (ps : List Nat) (hp : ws = ps.filterMap (fun i => big[i]?)) (h : ws.all goodWord = true) : GoodIn big ws := by
  intro w hw
  have h1 := List.all_eq_true.mp h w hw
  rw [hp] at hw
  obtain ⟨i, -, hi⟩ := List.mem_filterMap.mp hw
  have hm : w ∈ big := by first | exact List.mem_of_getElem? hi | exact List.getElem?_mem hi
  exact ⟨hm, good_of_word h1⟩
theorem goodIn_app {big a b : List Cond} (ha : GoodIn big a) (hb : GoodIn big b) : GoodIn big (a ++ b) := fun w h => (List.mem_append.mp h).elim (ha w) (hb w)
theorem goodIn_ca {big a b : List Cond} {c : Cond} (ha : GoodIn big (c :: a)) (hb : GoodIn big b) : GoodIn big (c :: (a ++ b)) := fun w h => (List.mem_cons.mp h).elim (fun e => ha w (List.mem_cons.mpr (Or.inl e))) (fun h => (List.mem_append.mp h).elim (fun h => ha w (List.mem_cons.mpr (Or.inr h))) (hb w))
theorem goodIn_sub {big ws : List Cond} (hm : ∀ w ∈ ws, w ∈ big) (h : ws.all goodWord = true) : GoodIn big ws := fun w hw => ⟨hm w hw, good_of_word (List.all_eq_true.mp h w hw)⟩
def RX0 : String := "BlockYard$Block"
def TX0 : u_T := fun k => match k with
  | 0 => ("BlockYard$Block", "offsetX", "[I", true)
  | 1 => ("BlockYard$Block", "offsetY", "[I", true)
  | 2 => ("BlockYard$Block", "cells", "[J", true)
  | 3 => ("BlockYard$Block", "distances", "[I", true)
  | 4 => ("BlockYard$Block", "cellCount", "I", false)
  | 5 => ("BlockYard$Block", "weight", "I", false)
  | 6 => ("BlockYard$Block", "goalCell", "I", false)
  | _ => ("BlockYard$Block", "goalOrientation", "I", false)
def tyX0 : Nat → FieldType := fun k => match k with
  | 0 => .array .int
  | 1 => .array .int
  | 2 => .array .long
  | 3 => .array .int
  | 4 => .int
  | 5 => .int
  | 6 => .int
  | _ => .int
abbrev wsX00 : List Cond := u_ws RX0 TX0 8
theorem nmX0 : ∀ a, a < 8 → ∀ b, b < 8 → a ≠ b → (TX0 a).2.1 ≠ (TX0 b).2.1 := by decide +kernel
theorem tyX0_ok : ∀ k, k < 8 → parseFieldDescriptor (TX0 k).2.2.1 = some (tyX0 k) := by decide +kernel
abbrev cX0_init : ByteArray := prog_2_method_1_code
def yX0_init : MethodName := ⟨RX0, "<init>", "()V"⟩
abbrev cX0_clear : ByteArray := prog_2_method_2_code
def yX0_clear : MethodName := ⟨RX0, "clear", "()V"⟩
abbrev cX0_hasGoal : ByteArray := prog_2_method_3_code
def yX0_hasGoal : MethodName := ⟨RX0, "hasGoal", "()Z"⟩
abbrev cX0_aimAt : ByteArray := prog_2_method_4_code
def yX0_aimAt : MethodName := ⟨RX0, "aimAt", "(II)V"⟩
abbrev cX0_dropGoal : ByteArray := prog_2_method_5_code
def yX0_dropGoal : MethodName := ⟨RX0, "dropGoal", "()V"⟩
abbrev cX0_goalProperty : ByteArray := prog_2_method_6_code
def yX0_goalProperty : MethodName := ⟨RX0, "goalProperty", "(I)I"⟩
abbrev cX0_fits : ByteArray := prog_2_method_7_code
def yX0_fits : MethodName := ⟨RX0, "fits", "(I)Z"⟩
abbrev cX0_addCell : ByteArray := prog_2_method_8_code
def yX0_addCell : MethodName := ⟨RX0, "addCell", "(II)V"⟩
abbrev cX0_findPlacements : ByteArray := prog_2_method_9_code
def yX0_findPlacements : MethodName := ⟨RX0, "findPlacements", "(LBlockYard$Yard;)V"⟩
abbrev cX0_cellsIn : ByteArray := prog_2_method_10_code
def yX0_cellsIn : MethodName := ⟨RX0, "cellsIn", "(LBlockYard$Yard;I)J"⟩
abbrev cX0_afterPush : ByteArray := prog_2_method_11_code
def yX0_afterPush : MethodName := ⟨RX0, "afterPush", "(LBlockYard$Yard;IIJ)I"⟩
abbrev cX0_afterTurn : ByteArray := prog_2_method_12_code
def yX0_afterTurn : MethodName := ⟨RX0, "afterTurn", "(LBlockYard$Yard;IIJ)I"⟩
abbrev cX0_sweepIsClear : ByteArray := prog_2_method_13_code
def yX0_sweepIsClear : MethodName := ⟨RX0, "sweepIsClear", "(LBlockYard$Yard;IIIIJ)Z"⟩
abbrev cX0_measure : ByteArray := prog_2_method_14_code
def yX0_measure : MethodName := ⟨RX0, "measure", "(LBlockYard$Yard;[I)V"⟩
abbrev cX0_placementBefore : ByteArray := prog_2_method_15_code
def yX0_placementBefore : MethodName := ⟨RX0, "placementBefore", "(LBlockYard$Yard;II)I"⟩
def RX1 : String := "BlockYard$History"
def TX1 : u_T := fun k => match k with
  | 0 => ("BlockYard$History", "arrangements", "[J", true)
  | 1 => ("BlockYard$History", "moves", "[I", true)
  | 2 => ("BlockYard$History", "efforts", "[I", true)
  | 3 => ("BlockYard$History", "made", "I", false)
  | _ => ("BlockYard$History", "known", "I", false)
def tyX1 : Nat → FieldType := fun k => match k with
  | 0 => .array .long
  | 1 => .array .int
  | 2 => .array .int
  | 3 => .int
  | _ => .int
abbrev wsX10 : List Cond := u_ws RX1 TX1 5
theorem nmX1 : ∀ a, a < 5 → ∀ b, b < 5 → a ≠ b → (TX1 a).2.1 ≠ (TX1 b).2.1 := by decide +kernel
theorem tyX1_ok : ∀ k, k < 5 → parseFieldDescriptor (TX1 k).2.2.1 = some (tyX1 k) := by decide +kernel
abbrev cX1_init : ByteArray := prog_3_method_1_code
def yX1_init : MethodName := ⟨RX1, "<init>", "()V"⟩
abbrev cX1_begin : ByteArray := prog_3_method_2_code
def yX1_begin : MethodName := ⟨RX1, "begin", "(J)V"⟩
abbrev cX1_present : ByteArray := prog_3_method_3_code
def yX1_present : MethodName := ⟨RX1, "present", "()J"⟩
abbrev cX1_add : ByteArray := prog_3_method_4_code
def yX1_add : MethodName := ⟨RX1, "add", "(IIJ)V"⟩
def RX2 : String := "BlockYard$Level"
def TX2 : u_T := fun k => match k with
  | 0 => ("BlockYard$Level", "yard", "LBlockYard$Yard;", true)
  | 1 => ("BlockYard$Level", "blocks", "[LBlockYard$Block;", true)
  | 2 => ("BlockYard$Level", "thresholds", "[I", true)
  | 3 => ("BlockYard$Level", "strength", "I", false)
  | _ => ("BlockYard$Level", "queue", "[I", true)
def tyX2 : Nat → FieldType := fun k => match k with
  | 0 => .object "BlockYard$Yard"
  | 1 => .array (.object "BlockYard$Block")
  | 2 => .array .int
  | 3 => .int
  | _ => .array .int
abbrev wsX20 : List Cond := u_ws RX2 TX2 5
theorem nmX2 : ∀ a, a < 5 → ∀ b, b < 5 → a ≠ b → (TX2 a).2.1 ≠ (TX2 b).2.1 := by decide +kernel
theorem tyX2_ok : ∀ k, k < 5 → parseFieldDescriptor (TX2 k).2.2.1 = some (tyX2 k) := by decide +kernel
abbrev cX2_init : ByteArray := prog_4_method_1_code
def yX2_init : MethodName := ⟨RX2, "<init>", "()V"⟩
abbrev cX2_clear : ByteArray := prog_4_method_2_code
def yX2_clear : MethodName := ⟨RX2, "clear", "(II)V"⟩
abbrev cX2_has : ByteArray := prog_4_method_3_code
def yX2_has : MethodName := ⟨RX2, "has", "(I)Z"⟩
abbrev cX2_blockCount : ByteArray := prog_4_method_4_code
def yX2_blockCount : MethodName := ⟨RX2, "blockCount", "()I"⟩
abbrev cX2_weightOf : ByteArray := prog_4_method_5_code
def yX2_weightOf : MethodName := ⟨RX2, "weightOf", "(I)I"⟩
abbrev cX2_boundOf : ByteArray := prog_4_method_6_code
def yX2_boundOf : MethodName := ⟨RX2, "boundOf", "(J)I"⟩
def RX3 : String := "BlockYard$LevelReader"
def TX3 : u_T := fun k => match k with
  | 0 => ("BlockYard$LevelReader", "text", "LBlockYard$Text;", true)
  | 1 => ("BlockYard$LevelReader", "cellCounts", "[I", true)
  | 2 => ("BlockYard$LevelReader", "firstPlaces", "[I", true)
  | 3 => ("BlockYard$LevelReader", "pivots", "[I", true)
  | 4 => ("BlockYard$LevelReader", "columns", "I", false)
  | 5 => ("BlockYard$LevelReader", "row", "I", false)
  | _ => ("BlockYard$LevelReader", "column", "I", false)
def tyX3 : Nat → FieldType := fun k => match k with
  | 0 => .object "BlockYard$Text"
  | 1 => .array .int
  | 2 => .array .int
  | 3 => .array .int
  | 4 => .int
  | 5 => .int
  | _ => .int
abbrev wsX30 : List Cond := u_ws RX3 TX3 7
theorem nmX3 : ∀ a, a < 7 → ∀ b, b < 7 → a ≠ b → (TX3 a).2.1 ≠ (TX3 b).2.1 := by decide +kernel
theorem tyX3_ok : ∀ k, k < 7 → parseFieldDescriptor (TX3 k).2.2.1 = some (tyX3 k) := by decide +kernel
abbrev cX3_init : ByteArray := prog_5_method_1_code
def yX3_init : MethodName := ⟨RX3, "<init>", "(LBlockYard$Text;)V"⟩
abbrev cX3_fault : ByteArray := prog_5_method_2_code
def yX3_fault : MethodName := ⟨RX3, "fault", "()I"⟩
abbrev cX3_endRow : ByteArray := prog_5_method_3_code
def yX3_endRow : MethodName := ⟨RX3, "endRow", "()Z"⟩
abbrev cX3_addCell : ByteArray := prog_5_method_4_code
def yX3_addCell : MethodName := ⟨RX3, "addCell", "(CI)Z"⟩
abbrev cX3_addBlockCell : ByteArray := prog_5_method_5_code
def yX3_addBlockCell : MethodName := ⟨RX3, "addBlockCell", "(IZI)Z"⟩
abbrev cX3_faultOfPivots : ByteArray := prog_5_method_6_code
def yX3_faultOfPivots : MethodName := ⟨RX3, "faultOfPivots", "()I"⟩
abbrev cX3_build : ByteArray := prog_5_method_7_code
def yX3_build : MethodName := ⟨RX3, "build", "(LBlockYard$Level;)J"⟩
abbrev cX3_buildCell : ByteArray := prog_5_method_8_code
def yX3_buildCell : MethodName := ⟨RX3, "buildCell", "(LBlockYard$Level;II)V"⟩
abbrev cX3_groundOf : ByteArray := prog_5_method_9_code
def yX3_groundOf : MethodName := ⟨RX3, "groundOf", "(C)I"⟩
abbrev cX3_isPivot : ByteArray := prog_5_method_10_code
def yX3_isPivot : MethodName := ⟨RX3, "isPivot", "(C)Z"⟩
abbrev cX3_blockOf : ByteArray := prog_5_method_11_code
def yX3_blockOf : MethodName := ⟨RX3, "blockOf", "(C)I"⟩
def RX4 : String := "BlockYard$Mover"
def TX4 : u_T := fun k => match k with
  | 0 => ("BlockYard$Mover", "level", "LBlockYard$Level;", true)
  | 1 => ("BlockYard$Mover", "placements", "[I", true)
  | 2 => ("BlockYard$Mover", "pushed", "[I", true)
  | 3 => ("BlockYard$Mover", "masks", "[J", true)
  | 4 => ("BlockYard$Mover", "arrangement", "J", false)
  | 5 => ("BlockYard$Mover", "occupied", "J", false)
  | 6 => ("BlockYard$Mover", "closedGates", "J", false)
  | _ => ("BlockYard$Mover", "result", "J", false)
def tyX4 : Nat → FieldType := fun k => match k with
  | 0 => .object "BlockYard$Level"
  | 1 => .array .int
  | 2 => .array .int
  | 3 => .array .long
  | 4 => .long
  | 5 => .long
  | 6 => .long
  | _ => .long
abbrev wsX40 : List Cond := u_ws RX4 TX4 8
theorem nmX4 : ∀ a, a < 8 → ∀ b, b < 8 → a ≠ b → (TX4 a).2.1 ≠ (TX4 b).2.1 := by decide +kernel
theorem tyX4_ok : ∀ k, k < 8 → parseFieldDescriptor (TX4 k).2.2.1 = some (tyX4 k) := by decide +kernel
abbrev cX4_init : ByteArray := prog_6_method_1_code
def yX4_init : MethodName := ⟨RX4, "<init>", "(LBlockYard$Level;)V"⟩
abbrev cX4_stand : ByteArray := prog_6_method_2_code
def yX4_stand : MethodName := ⟨RX4, "stand", "(J)V"⟩
abbrev cX4_loadOf : ByteArray := prog_6_method_3_code
def yX4_loadOf : MethodName := ⟨RX4, "loadOf", "(I)I"⟩
abbrev cX4_attempt : ByteArray := prog_6_method_4_code
def yX4_attempt : MethodName := ⟨RX4, "attempt", "(II)I"⟩
abbrev cX4_push : ByteArray := prog_6_method_5_code
def yX4_push : MethodName := ⟨RX4, "push", "(II)I"⟩
def RX5 : String := "BlockYard$Search"
def TX5 : u_T := fun k => match k with
  | 0 => ("BlockYard$Search", "level", "LBlockYard$Level;", true)
  | 1 => ("BlockYard$Search", "mover", "LBlockYard$Mover;", true)
  | 2 => ("BlockYard$Search", "list", "[J", true)
  | 3 => ("BlockYard$Search", "origins", "[I", true)
  | 4 => ("BlockYard$Search", "leadingMoves", "[I", true)
  | 5 => ("BlockYard$Search", "listed", "I", false)
  | 6 => ("BlockYard$Search", "table", "[I", true)
  | 7 => ("BlockYard$Search", "solutionMoves", "[I", true)
  | 8 => ("BlockYard$Search", "solutionResult", "I", false)
  | 9 => ("BlockYard$Search", "solutionStart", "J", false)
  | _ => ("BlockYard$Search", "solutionIsKnown", "Z", false)
def tyX5 : Nat → FieldType := fun k => match k with
  | 0 => .object "BlockYard$Level"
  | 1 => .object "BlockYard$Mover"
  | 2 => .array .long
  | 3 => .array .int
  | 4 => .array .int
  | 5 => .int
  | 6 => .array .int
  | 7 => .array .int
  | 8 => .int
  | 9 => .long
  | _ => .boolean
abbrev wsX50 : List Cond := u_ws RX5 TX5 11
theorem nmX5 : ∀ a, a < 11 → ∀ b, b < 11 → a ≠ b → (TX5 a).2.1 ≠ (TX5 b).2.1 := by decide +kernel
theorem tyX5_ok : ∀ k, k < 11 → parseFieldDescriptor (TX5 k).2.2.1 = some (tyX5 k) := by decide +kernel
abbrev cX5_init : ByteArray := prog_7_method_1_code
def yX5_init : MethodName := ⟨RX5, "<init>", "(LBlockYard$Level;)V"⟩
abbrev cX5_forget : ByteArray := prog_7_method_2_code
def yX5_forget : MethodName := ⟨RX5, "forget", "()V"⟩
abbrev cX5_solutionLength : ByteArray := prog_7_method_3_code
def yX5_solutionLength : MethodName := ⟨RX5, "solutionLength", "(J)I"⟩
abbrev cX5_findSolution : ByteArray := prog_7_method_4_code
def yX5_findSolution : MethodName := ⟨RX5, "findSolution", "(J)I"⟩
abbrev cX5_traceSolution : ByteArray := prog_7_method_5_code
def yX5_traceSolution : MethodName := ⟨RX5, "traceSolution", "()I"⟩
abbrev cX5_countWithin : ByteArray := prog_7_method_6_code
def yX5_countWithin : MethodName := ⟨RX5, "countWithin", "(JI)I"⟩
abbrev cX5_begin : ByteArray := prog_7_method_7_code
def yX5_begin : MethodName := ⟨RX5, "begin", "(J)V"⟩
abbrev cX5_spread : ByteArray := prog_7_method_8_code
def yX5_spread : MethodName := ⟨RX5, "spread", "(IZ)I"⟩
abbrev cX5_append : ByteArray := prog_7_method_9_code
def yX5_append : MethodName := ⟨RX5, "append", "(IJII)V"⟩
abbrev cX5_freePlaceFor : ByteArray := prog_7_method_10_code
def yX5_freePlaceFor : MethodName := ⟨RX5, "freePlaceFor", "(J)I"⟩
def RX6 : String := "BlockYard$Text"
def TX6 : u_T := fun k => match k with
  | 0 => ("BlockYard$Text", "signs", "[C", true)
  | _ => ("BlockYard$Text", "length", "I", false)
def tyX6 : Nat → FieldType := fun k => match k with
  | 0 => .array .char
  | _ => .int
abbrev wsX60 : List Cond := u_ws RX6 TX6 2
theorem nmX6 : ∀ a, a < 2 → ∀ b, b < 2 → a ≠ b → (TX6 a).2.1 ≠ (TX6 b).2.1 := by decide +kernel
theorem tyX6_ok : ∀ k, k < 2 → parseFieldDescriptor (TX6 k).2.2.1 = some (tyX6 k) := by decide +kernel
abbrev cX6_init : ByteArray := prog_8_method_1_code
def yX6_init : MethodName := ⟨RX6, "<init>", "()V"⟩
abbrev cX6_append : ByteArray := prog_8_method_2_code
def yX6_append : MethodName := ⟨RX6, "append", "(C)Z"⟩
abbrev cX6_at : ByteArray := prog_8_method_3_code
def yX6_at : MethodName := ⟨RX6, "at", "(I)C"⟩
def RX7 : String := "BlockYard$Yard"
def TX7 : u_T := fun k => match k with
  | 0 => ("BlockYard$Yard", "columns", "I", false)
  | 1 => ("BlockYard$Yard", "rows", "I", false)
  | 2 => ("BlockYard$Yard", "kinds", "[I", true)
  | 3 => ("BlockYard$Yard", "walls", "J", false)
  | 4 => ("BlockYard$Yard", "oneWays", "J", false)
  | 5 => ("BlockYard$Yard", "oneWaysFor", "[J", true)
  | 6 => ("BlockYard$Yard", "plates", "[J", true)
  | _ => ("BlockYard$Yard", "gates", "[J", true)
def tyX7 : Nat → FieldType := fun k => match k with
  | 0 => .int
  | 1 => .int
  | 2 => .array .int
  | 3 => .long
  | 4 => .long
  | 5 => .array .long
  | 6 => .array .long
  | _ => .array .long
abbrev wsX70 : List Cond := u_ws RX7 TX7 8
theorem nmX7 : ∀ a, a < 8 → ∀ b, b < 8 → a ≠ b → (TX7 a).2.1 ≠ (TX7 b).2.1 := by decide +kernel
theorem tyX7_ok : ∀ k, k < 8 → parseFieldDescriptor (TX7 k).2.2.1 = some (tyX7 k) := by decide +kernel
abbrev cX7_init : ByteArray := prog_9_method_1_code
def yX7_init : MethodName := ⟨RX7, "<init>", "()V"⟩
abbrev cX7_clear : ByteArray := prog_9_method_2_code
def yX7_clear : MethodName := ⟨RX7, "clear", "(II)V"⟩
abbrev cX7_put : ByteArray := prog_9_method_3_code
def yX7_put : MethodName := ⟨RX7, "put", "(II)V"⟩
abbrev cX7_cellAt : ByteArray := prog_9_method_4_code
def yX7_cellAt : MethodName := ⟨RX7, "cellAt", "(II)I"⟩
abbrev cX7_shifted : ByteArray := prog_9_method_5_code
def yX7_shifted : MethodName := ⟨RX7, "shifted", "(II)I"⟩
def RX8 : String := "BlockYard"
def TX8 : u_T := fun k => match k with
  | 0 => ("BlockYard", "text", "LBlockYard$Text;", true)
  | 1 => ("BlockYard", "level", "LBlockYard$Level;", true)
  | 2 => ("BlockYard", "levelReader", "LBlockYard$LevelReader;", true)
  | 3 => ("BlockYard", "mover", "LBlockYard$Mover;", true)
  | 4 => ("BlockYard", "history", "LBlockYard$History;", true)
  | 5 => ("BlockYard", "search", "LBlockYard$Search;", true)
  | 6 => ("BlockYard", "saved", "[J", true)
  | _ => ("BlockYard", "filledSlots", "I", false)
def tyX8 : Nat → FieldType := fun k => match k with
  | 0 => .object "BlockYard$Text"
  | 1 => .object "BlockYard$Level"
  | 2 => .object "BlockYard$LevelReader"
  | 3 => .object "BlockYard$Mover"
  | 4 => .object "BlockYard$History"
  | 5 => .object "BlockYard$Search"
  | 6 => .array .long
  | _ => .int
abbrev wsX80 : List Cond := u_ws RX8 TX8 8
theorem nmX8 : ∀ a, a < 8 → ∀ b, b < 8 → a ≠ b → (TX8 a).2.1 ≠ (TX8 b).2.1 := by decide +kernel
theorem tyX8_ok : ∀ k, k < 8 → parseFieldDescriptor (TX8 k).2.2.1 = some (tyX8 k) := by decide +kernel
abbrev cX8_init : ByteArray := prog_1_method_1_code
def yX8_init : MethodName := ⟨RX8, "<init>", "()V"⟩
abbrev cX8_type : ByteArray := prog_1_method_2_code
def yX8_type : MethodName := ⟨RX8, "type", "(C)I"⟩
abbrev cX8_clearText : ByteArray := prog_1_method_3_code
def yX8_clearText : MethodName := ⟨RX8, "clearText", "()I"⟩
abbrev cX8_readLevel : ByteArray := prog_1_method_4_code
def yX8_readLevel : MethodName := ⟨RX8, "readLevel", "()I"⟩
abbrev cX8_readMoves : ByteArray := prog_1_method_5_code
def yX8_readMoves : MethodName := ⟨RX8, "readMoves", "()I"⟩
abbrev cX8_size : ByteArray := prog_1_method_6_code
def yX8_size : MethodName := ⟨RX8, "size", "(I)I"⟩
abbrev cX8_cell : ByteArray := prog_1_method_7_code
def yX8_cell : MethodName := ⟨RX8, "cell", "(II)I"⟩
abbrev cX8_blockAt : ByteArray := prog_1_method_8_code
def yX8_blockAt : MethodName := ⟨RX8, "blockAt", "(II)I"⟩
abbrev cX8_block : ByteArray := prog_1_method_9_code
def yX8_block : MethodName := ⟨RX8, "block", "(II)I"⟩
abbrev cX8_setWeight : ByteArray := prog_1_method_10_code
def yX8_setWeight : MethodName := ⟨RX8, "setWeight", "(II)I"⟩
abbrev cX8_setGoal : ByteArray := prog_1_method_11_code
def yX8_setGoal : MethodName := ⟨RX8, "setGoal", "(IIII)I"⟩
abbrev cX8_clearGoal : ByteArray := prog_1_method_12_code
def yX8_clearGoal : MethodName := ⟨RX8, "clearGoal", "(I)I"⟩
abbrev cX8_setThreshold : ByteArray := prog_1_method_13_code
def yX8_setThreshold : MethodName := ⟨RX8, "setThreshold", "(II)I"⟩
abbrev cX8_setStrength : ByteArray := prog_1_method_14_code
def yX8_setStrength : MethodName := ⟨RX8, "setStrength", "(I)I"⟩
abbrev cX8_load : ByteArray := prog_1_method_15_code
def yX8_load : MethodName := ⟨RX8, "load", "(I)I"⟩
abbrev cX8_isOpen : ByteArray := prog_1_method_16_code
def yX8_isOpen : MethodName := ⟨RX8, "isOpen", "(I)I"⟩
abbrev cX8_moved : ByteArray := prog_1_method_17_code
def yX8_moved : MethodName := ⟨RX8, "moved", "(II)I"⟩
abbrev cX8_move : ByteArray := prog_1_method_18_code
def yX8_move : MethodName := ⟨RX8, "move", "(II)I"⟩
abbrev cX8_possibleCount : ByteArray := prog_1_method_19_code
def yX8_possibleCount : MethodName := ⟨RX8, "possibleCount", "()I"⟩
abbrev cX8_possible : ByteArray := prog_1_method_20_code
def yX8_possible : MethodName := ⟨RX8, "possible", "(I)I"⟩
abbrev cX8_undo : ByteArray := prog_1_method_21_code
def yX8_undo : MethodName := ⟨RX8, "undo", "()I"⟩
abbrev cX8_redo : ByteArray := prog_1_method_22_code
def yX8_redo : MethodName := ⟨RX8, "redo", "()I"⟩
abbrev cX8_moveAt : ByteArray := prog_1_method_23_code
def yX8_moveAt : MethodName := ⟨RX8, "moveAt", "(I)I"⟩
abbrev cX8_effort : ByteArray := prog_1_method_24_code
def yX8_effort : MethodName := ⟨RX8, "effort", "()I"⟩
abbrev cX8_save : ByteArray := prog_1_method_25_code
def yX8_save : MethodName := ⟨RX8, "save", "(I)I"⟩
abbrev cX8_restore : ByteArray := prog_1_method_26_code
def yX8_restore : MethodName := ⟨RX8, "restore", "(I)I"⟩
abbrev cX8_isSolved : ByteArray := prog_1_method_27_code
def yX8_isSolved : MethodName := ⟨RX8, "isSolved", "()I"⟩
abbrev cX8_isDead : ByteArray := prog_1_method_28_code
def yX8_isDead : MethodName := ⟨RX8, "isDead", "(IIII)I"⟩
abbrev cX8_deadCount : ByteArray := prog_1_method_29_code
def yX8_deadCount : MethodName := ⟨RX8, "deadCount", "(I)I"⟩
abbrev cX8_distance : ByteArray := prog_1_method_30_code
def yX8_distance : MethodName := ⟨RX8, "distance", "(I)I"⟩
abbrev cX8_lowerBound : ByteArray := prog_1_method_31_code
def yX8_lowerBound : MethodName := ⟨RX8, "lowerBound", "()I"⟩
abbrev cX8_solve : ByteArray := prog_1_method_32_code
def yX8_solve : MethodName := ⟨RX8, "solve", "()I"⟩
abbrev cX8_solution : ByteArray := prog_1_method_33_code
def yX8_solution : MethodName := ⟨RX8, "solution", "(I)I"⟩
abbrev cX8_reachable : ByteArray := prog_1_method_34_code
def yX8_reachable : MethodName := ⟨RX8, "reachable", "(I)I"⟩
abbrev cX8_attempt : ByteArray := prog_1_method_35_code
def yX8_attempt : MethodName := ⟨RX8, "attempt", "(II)I"⟩
abbrev cX8_makeMove : ByteArray := prog_1_method_36_code
def yX8_makeMove : MethodName := ⟨RX8, "makeMove", "(III)V"⟩
abbrev cX8_faultOfMoves : ByteArray := prog_1_method_37_code
def yX8_faultOfMoves : MethodName := ⟨RX8, "faultOfMoves", "()I"⟩
abbrev cX8_isEmptySlot : ByteArray := prog_1_method_38_code
def yX8_isEmptySlot : MethodName := ⟨RX8, "isEmptySlot", "(I)Z"⟩
abbrev cX8_isSlot : ByteArray := prog_1_method_39_code
def yX8_isSlot : MethodName := ⟨RX8, "isSlot", "(I)Z"⟩
abbrev cX8_isGroup : ByteArray := prog_1_method_40_code
def yX8_isGroup : MethodName := ⟨RX8, "isGroup", "(I)Z"⟩
abbrev cX8_kindOfLetter : ByteArray := prog_1_method_41_code
def yX8_kindOfLetter : MethodName := ⟨RX8, "kindOfLetter", "(C)I"⟩
abbrev cX8_placeOf : ByteArray := prog_1_method_42_code
def yX8_placeOf : MethodName := ⟨RX8, "placeOf", "(C[C)I"⟩
abbrev cX8_moveCode : ByteArray := prog_1_method_43_code
def yX8_moveCode : MethodName := ⟨RX8, "moveCode", "(II)I"⟩
abbrev cX8_holds : ByteArray := prog_1_method_44_code
def yX8_holds : MethodName := ⟨RX8, "holds", "(JI)Z"⟩
abbrev cX8_columnOf : ByteArray := prog_1_method_45_code
def yX8_columnOf : MethodName := ⟨RX8, "columnOf", "(I)I"⟩
abbrev cX8_rowOf : ByteArray := prog_1_method_46_code
def yX8_rowOf : MethodName := ⟨RX8, "rowOf", "(I)I"⟩
abbrev cX8_orientationOf : ByteArray := prog_1_method_47_code
def yX8_orientationOf : MethodName := ⟨RX8, "orientationOf", "(I)I"⟩
abbrev cX8_placementIn : ByteArray := prog_1_method_48_code
def yX8_placementIn : MethodName := ⟨RX8, "placementIn", "(JI)I"⟩
abbrev cX8_withPlacement : ByteArray := prog_1_method_49_code
def yX8_withPlacement : MethodName := ⟨RX8, "withPlacement", "(JII)J"⟩
def RX9 : String := "BlockYardModel"
def TX9 : u_T := fun k => match k with
  | 0 => ("BlockYardModel", "columns", "I", false)
  | 1 => ("BlockYardModel", "rows", "I", false)
  | 2 => ("BlockYardModel", "strength", "I", false)
  | 3 => ("BlockYardModel", "threshold", "[I", true)
  | 4 => ("BlockYardModel", "kindOf", "[I", true)
  | 5 => ("BlockYardModel", "cells", "[I", true)
  | 6 => ("BlockYardModel", "offX", "[I", true)
  | 7 => ("BlockYardModel", "offY", "[I", true)
  | 8 => ("BlockYardModel", "weightOf", "[I", true)
  | 9 => ("BlockYardModel", "goalX", "[I", true)
  | 10 => ("BlockYardModel", "goalY", "[I", true)
  | 11 => ("BlockYardModel", "goalTurn", "[I", true)
  | 12 => ("BlockYardModel", "placeOf", "[I", true)
  | 13 => ("BlockYardModel", "typed", "I", false)
  | 14 => ("BlockYardModel", "text", "[C", true)
  | 15 => ("BlockYardModel", "readKind", "[I", true)
  | 16 => ("BlockYardModel", "readCells", "[I", true)
  | 17 => ("BlockYardModel", "readX", "[I", true)
  | 18 => ("BlockYardModel", "readY", "[I", true)
  | 19 => ("BlockYardModel", "firstOf", "[I", true)
  | 20 => ("BlockYardModel", "pivotX", "[I", true)
  | 21 => ("BlockYardModel", "pivotY", "[I", true)
  | 22 => ("BlockYardModel", "readWide", "I", false)
  | 23 => ("BlockYardModel", "readRows", "I", false)
  | 24 => ("BlockYardModel", "ownerOf", "[I", true)
  | 25 => ("BlockYardModel", "loadOf", "[I", true)
  | 26 => ("BlockYardModel", "ringX", "I", false)
  | 27 => ("BlockYardModel", "ringY", "I", false)
  | 28 => ("BlockYardModel", "made", "I", false)
  | 29 => ("BlockYardModel", "known", "I", false)
  | 30 => ("BlockYardModel", "moveOf", "[I", true)
  | 31 => ("BlockYardModel", "effortOf", "[I", true)
  | 32 => ("BlockYardModel", "beforeOf", "[J", true)
  | 33 => ("BlockYardModel", "afterOf", "[J", true)
  | 34 => ("BlockYardModel", "isSaved", "[Z", true)
  | 35 => ("BlockYardModel", "savedOf", "[J", true)
  | 36 => ("BlockYardModel", "nextOf", "[I", true)
  | 37 => ("BlockYardModel", "farOf", "[I", true)
  | 38 => ("BlockYardModel", "listOf", "[J", true)
  | 39 => ("BlockYardModel", "cameFrom", "[I", true)
  | 40 => ("BlockYardModel", "cameBy", "[I", true)
  | 41 => ("BlockYardModel", "stepsTo", "[I", true)
  | 42 => ("BlockYardModel", "listed", "I", false)
  | _ => ("BlockYardModel", "foundAt", "I", false)
def tyX9 : Nat → FieldType := fun k => match k with
  | 0 => .int
  | 1 => .int
  | 2 => .int
  | 3 => .array .int
  | 4 => .array .int
  | 5 => .array .int
  | 6 => .array .int
  | 7 => .array .int
  | 8 => .array .int
  | 9 => .array .int
  | 10 => .array .int
  | 11 => .array .int
  | 12 => .array .int
  | 13 => .int
  | 14 => .array .char
  | 15 => .array .int
  | 16 => .array .int
  | 17 => .array .int
  | 18 => .array .int
  | 19 => .array .int
  | 20 => .array .int
  | 21 => .array .int
  | 22 => .int
  | 23 => .int
  | 24 => .array .int
  | 25 => .array .int
  | 26 => .int
  | 27 => .int
  | 28 => .int
  | 29 => .int
  | 30 => .array .int
  | 31 => .array .int
  | 32 => .array .long
  | 33 => .array .long
  | 34 => .array .boolean
  | 35 => .array .long
  | 36 => .array .int
  | 37 => .array .int
  | 38 => .array .long
  | 39 => .array .int
  | 40 => .array .int
  | 41 => .array .int
  | 42 => .int
  | _ => .int
abbrev wsX90 : List Cond := u_ws RX9 TX9 44
theorem nmX9 : ∀ a, a < 44 → ∀ b, b < 44 → a ≠ b → (TX9 a).2.1 ≠ (TX9 b).2.1 := by decide +kernel
theorem tyX9_ok : ∀ k, k < 44 → parseFieldDescriptor (TX9 k).2.2.1 = some (tyX9 k) := by decide +kernel
abbrev cX9_init : ByteArray := prog_11_method_1_code
def yX9_init : MethodName := ⟨RX9, "<init>", "()V"⟩
abbrev cX9_in : ByteArray := prog_11_method_2_code
def yX9_in : MethodName := ⟨RX9, "in", "(III)Z"⟩
abbrev cX9_noBlock : ByteArray := prog_11_method_3_code
def yX9_noBlock : MethodName := ⟨RX9, "noBlock", "(I)Z"⟩
abbrev cX9_isInYard : ByteArray := prog_11_method_4_code
def yX9_isInYard : MethodName := ⟨RX9, "isInYard", "(II)Z"⟩
abbrev cX9_kindAt : ByteArray := prog_11_method_5_code
def yX9_kindAt : MethodName := ⟨RX9, "kindAt", "(II)I"⟩
abbrev cX9_turnedX : ByteArray := prog_11_method_6_code
def yX9_turnedX : MethodName := ⟨RX9, "turnedX", "(III)I"⟩
abbrev cX9_turnedY : ByteArray := prog_11_method_7_code
def yX9_turnedY : MethodName := ⟨RX9, "turnedY", "(III)I"⟩
abbrev cX9_cellX : ByteArray := prog_11_method_8_code
def yX9_cellX : MethodName := ⟨RX9, "cellX", "(III)I"⟩
abbrev cX9_cellY : ByteArray := prog_11_method_9_code
def yX9_cellY : MethodName := ⟨RX9, "cellY", "(III)I"⟩
abbrev cX9_stepX : ByteArray := prog_11_method_10_code
def yX9_stepX : MethodName := ⟨RX9, "stepX", "(I)I"⟩
abbrev cX9_stepY : ByteArray := prog_11_method_11_code
def yX9_stepY : MethodName := ⟨RX9, "stepY", "(I)I"⟩
abbrev cX9_type : ByteArray := prog_11_method_12_code
def yX9_type : MethodName := ⟨RX9, "type", "(C)I"⟩
abbrev cX9_clearText : ByteArray := prog_11_method_13_code
def yX9_clearText : MethodName := ⟨RX9, "clearText", "()I"⟩
abbrev cX9_kindBy : ByteArray := prog_11_method_14_code
def yX9_kindBy : MethodName := ⟨RX9, "kindBy", "(C)I"⟩
abbrev cX9_blockBy : ByteArray := prog_11_method_15_code
def yX9_blockBy : MethodName := ⟨RX9, "blockBy", "(C)I"⟩
abbrev cX9_readsCell : ByteArray := prog_11_method_16_code
def yX9_readsCell : MethodName := ⟨RX9, "readsCell", "(III)Z"⟩
abbrev cX9_findFault : ByteArray := prog_11_method_17_code
def yX9_findFault : MethodName := ⟨RX9, "findFault", "()I"⟩
abbrev cX9_readLevel : ByteArray := prog_11_method_18_code
def yX9_readLevel : MethodName := ⟨RX9, "readLevel", "()I"⟩
abbrev cX9_packed : ByteArray := prog_11_method_19_code
def yX9_packed : MethodName := ⟨RX9, "packed", "()J"⟩
abbrev cX9_unpack : ByteArray := prog_11_method_20_code
def yX9_unpack : MethodName := ⟨RX9, "unpack", "(J)V"⟩
abbrev cX9_layOwners : ByteArray := prog_11_method_21_code
def yX9_layOwners : MethodName := ⟨RX9, "layOwners", "()V"⟩
abbrev cX9_isPassable : ByteArray := prog_11_method_22_code
def yX9_isPassable : MethodName := ⟨RX9, "isPassable", "(III)Z"⟩
abbrev cX9_pushed : ByteArray := prog_11_method_23_code
def yX9_pushed : MethodName := ⟨RX9, "pushed", "(II)I"⟩
abbrev cX9_maySlide : ByteArray := prog_11_method_24_code
def yX9_maySlide : MethodName := ⟨RX9, "maySlide", "(II)Z"⟩
abbrev cX9_goRound : ByteArray := prog_11_method_25_code
def yX9_goRound : MethodName := ⟨RX9, "goRound", "(IZ)V"⟩
abbrev cX9_absolute : ByteArray := prog_11_method_26_code
def yX9_absolute : MethodName := ⟨RX9, "absolute", "(I)I"⟩
abbrev cX9_mayTurn : ByteArray := prog_11_method_27_code
def yX9_mayTurn : MethodName := ⟨RX9, "mayTurn", "(IZ)Z"⟩
abbrev cX9_movedBy : ByteArray := prog_11_method_28_code
def yX9_movedBy : MethodName := ⟨RX9, "movedBy", "(II)I"⟩
abbrev cX9_placeBehind : ByteArray := prog_11_method_29_code
def yX9_placeBehind : MethodName := ⟨RX9, "placeBehind", "(II)I"⟩
abbrev cX9_carryOut : ByteArray := prog_11_method_30_code
def yX9_carryOut : MethodName := ⟨RX9, "carryOut", "(II)V"⟩
abbrev cX9_weightBy : ByteArray := prog_11_method_31_code
def yX9_weightBy : MethodName := ⟨RX9, "weightBy", "(I)I"⟩
abbrev cX9_makes : ByteArray := prog_11_method_32_code
def yX9_makes : MethodName := ⟨RX9, "makes", "(III)V"⟩
abbrev cX9_moveBarred : ByteArray := prog_11_method_33_code
def yX9_moveBarred : MethodName := ⟨RX9, "moveBarred", "(II)I"⟩
abbrev cX9_moved : ByteArray := prog_11_method_34_code
def yX9_moved : MethodName := ⟨RX9, "moved", "(II)I"⟩
abbrev cX9_move : ByteArray := prog_11_method_35_code
def yX9_move : MethodName := ⟨RX9, "move", "(II)I"⟩
abbrev cX9_possibleAt : ByteArray := prog_11_method_36_code
def yX9_possibleAt : MethodName := ⟨RX9, "possibleAt", "(I)I"⟩
abbrev cX9_possibleCount : ByteArray := prog_11_method_37_code
def yX9_possibleCount : MethodName := ⟨RX9, "possibleCount", "()I"⟩
abbrev cX9_possible : ByteArray := prog_11_method_38_code
def yX9_possible : MethodName := ⟨RX9, "possible", "(I)I"⟩
abbrev cX9_undo : ByteArray := prog_11_method_39_code
def yX9_undo : MethodName := ⟨RX9, "undo", "()I"⟩
abbrev cX9_redo : ByteArray := prog_11_method_40_code
def yX9_redo : MethodName := ⟨RX9, "redo", "()I"⟩
abbrev cX9_moveAt : ByteArray := prog_11_method_41_code
def yX9_moveAt : MethodName := ⟨RX9, "moveAt", "(I)I"⟩
abbrev cX9_effort : ByteArray := prog_11_method_42_code
def yX9_effort : MethodName := ⟨RX9, "effort", "()I"⟩
abbrev cX9_kindOfMove : ByteArray := prog_11_method_43_code
def yX9_kindOfMove : MethodName := ⟨RX9, "kindOfMove", "(C)I"⟩
abbrev cX9_goThrough : ByteArray := prog_11_method_44_code
def yX9_goThrough : MethodName := ⟨RX9, "goThrough", "()I"⟩
abbrev cX9_readMoves : ByteArray := prog_11_method_45_code
def yX9_readMoves : MethodName := ⟨RX9, "readMoves", "()I"⟩
abbrev cX9_size : ByteArray := prog_11_method_46_code
def yX9_size : MethodName := ⟨RX9, "size", "(I)I"⟩
abbrev cX9_cell : ByteArray := prog_11_method_47_code
def yX9_cell : MethodName := ⟨RX9, "cell", "(II)I"⟩
abbrev cX9_blockAt : ByteArray := prog_11_method_48_code
def yX9_blockAt : MethodName := ⟨RX9, "blockAt", "(II)I"⟩
abbrev cX9_block : ByteArray := prog_11_method_49_code
def yX9_block : MethodName := ⟨RX9, "block", "(II)I"⟩
abbrev cX9_setWeight : ByteArray := prog_11_method_50_code
def yX9_setWeight : MethodName := ⟨RX9, "setWeight", "(II)I"⟩
abbrev cX9_setGoal : ByteArray := prog_11_method_51_code
def yX9_setGoal : MethodName := ⟨RX9, "setGoal", "(IIII)I"⟩
abbrev cX9_clearGoal : ByteArray := prog_11_method_52_code
def yX9_clearGoal : MethodName := ⟨RX9, "clearGoal", "(I)I"⟩
abbrev cX9_isGroup : ByteArray := prog_11_method_53_code
def yX9_isGroup : MethodName := ⟨RX9, "isGroup", "(I)Z"⟩
abbrev cX9_setThreshold : ByteArray := prog_11_method_54_code
def yX9_setThreshold : MethodName := ⟨RX9, "setThreshold", "(II)I"⟩
abbrev cX9_setStrength : ByteArray := prog_11_method_55_code
def yX9_setStrength : MethodName := ⟨RX9, "setStrength", "(I)I"⟩
abbrev cX9_load : ByteArray := prog_11_method_56_code
def yX9_load : MethodName := ⟨RX9, "load", "(I)I"⟩
abbrev cX9_isOpen : ByteArray := prog_11_method_57_code
def yX9_isOpen : MethodName := ⟨RX9, "isOpen", "(I)I"⟩
abbrev cX9_save : ByteArray := prog_11_method_58_code
def yX9_save : MethodName := ⟨RX9, "save", "(I)I"⟩
abbrev cX9_restore : ByteArray := prog_11_method_59_code
def yX9_restore : MethodName := ⟨RX9, "restore", "(I)I"⟩
abbrev cX9_isFree : ByteArray := prog_11_method_60_code
def yX9_isFree : MethodName := ⟨RX9, "isFree", "(II)Z"⟩
abbrev cX9_isPlacement : ByteArray := prog_11_method_61_code
def yX9_isPlacement : MethodName := ⟨RX9, "isPlacement", "(II)Z"⟩
abbrev cX9_maySlideAlone : ByteArray := prog_11_method_62_code
def yX9_maySlideAlone : MethodName := ⟨RX9, "maySlideAlone", "(III)Z"⟩
abbrev cX9_mayTurnAlone : ByteArray := prog_11_method_63_code
def yX9_mayTurnAlone : MethodName := ⟨RX9, "mayTurnAlone", "(IIZ)Z"⟩
abbrev cX9_isAtGoal : ByteArray := prog_11_method_64_code
def yX9_isAtGoal : MethodName := ⟨RX9, "isAtGoal", "(II)Z"⟩
abbrev cX9_findFar : ByteArray := prog_11_method_65_code
def yX9_findFar : MethodName := ⟨RX9, "findFar", "(I)V"⟩
abbrev cX9_leadsTo : ByteArray := prog_11_method_66_code
def yX9_leadsTo : MethodName := ⟨RX9, "leadsTo", "(III)Z"⟩
abbrev cX9_isDead : ByteArray := prog_11_method_67_code
def yX9_isDead : MethodName := ⟨RX9, "isDead", "(IIII)I"⟩
abbrev cX9_deadCount : ByteArray := prog_11_method_68_code
def yX9_deadCount : MethodName := ⟨RX9, "deadCount", "(I)I"⟩
abbrev cX9_distance : ByteArray := prog_11_method_69_code
def yX9_distance : MethodName := ⟨RX9, "distance", "(I)I"⟩
abbrev cX9_findAllFar : ByteArray := prog_11_method_70_code
def yX9_findAllFar : MethodName := ⟨RX9, "findAllFar", "()V"⟩
abbrev cX9_isDeadNow : ByteArray := prog_11_method_71_code
def yX9_isDeadNow : MethodName := ⟨RX9, "isDeadNow", "()Z"⟩
abbrev cX9_lowerBound : ByteArray := prog_11_method_72_code
def yX9_lowerBound : MethodName := ⟨RX9, "lowerBound", "()I"⟩
abbrev cX9_isSolvedNow : ByteArray := prog_11_method_73_code
def yX9_isSolvedNow : MethodName := ⟨RX9, "isSolvedNow", "()Z"⟩
abbrev cX9_isSolved : ByteArray := prog_11_method_74_code
def yX9_isSolved : MethodName := ⟨RX9, "isSolved", "()I"⟩
abbrev cX9_isListed : ByteArray := prog_11_method_75_code
def yX9_isListed : MethodName := ⟨RX9, "isListed", "(J)Z"⟩
abbrev cX9_tries : ByteArray := prog_11_method_76_code
def yX9_tries : MethodName := ⟨RX9, "tries", "(IIIZ)Z"⟩
abbrev cX9_search : ByteArray := prog_11_method_77_code
def yX9_search : MethodName := ⟨RX9, "search", "(ZI)V"⟩
abbrev cX9_findSolution : ByteArray := prog_11_method_78_code
def yX9_findSolution : MethodName := ⟨RX9, "findSolution", "()V"⟩
abbrev cX9_solve : ByteArray := prog_11_method_79_code
def yX9_solve : MethodName := ⟨RX9, "solve", "()I"⟩
abbrev cX9_solution : ByteArray := prog_11_method_80_code
def yX9_solution : MethodName := ⟨RX9, "solution", "(I)I"⟩
abbrev cX9_reachable : ByteArray := prog_11_method_81_code
def yX9_reachable : MethodName := ⟨RX9, "reachable", "(I)I"⟩
def RJ9 : String := "java/lang/Math"
def TJ9 : u_T := fun k => match k with
  | _ => ("", "", "", false)
def tyJ9 : Nat → FieldType := fun k => match k with
  | _ => .int
abbrev wsJ90 : List Cond := u_ws RJ9 TJ9 0
theorem nmJ9 : ∀ a, a < 0 → ∀ b, b < 0 → a ≠ b → (TJ9 a).2.1 ≠ (TJ9 b).2.1 := by decide +kernel
theorem tyJ9_ok : ∀ k, k < 0 → parseFieldDescriptor (TJ9 k).2.2.1 = some (tyJ9 k) := by decide +kernel
abbrev cJ9_abs_0f7a4 : ByteArray := prog_12_method_59_code
def yJ9_abs_0f7a4 : MethodName := ⟨RJ9, "abs", "(I)I"⟩
abbrev cJ9_max_7cf53 : ByteArray := prog_12_method_65_code
def yJ9_max_7cf53 : MethodName := ⟨RJ9, "max", "(II)I"⟩
def RJ7 : String := "java/util/Arrays"
def TJ7 : u_T := fun k => match k with
  | _ => ("", "", "", false)
def tyJ7 : Nat → FieldType := fun k => match k with
  | _ => .int
abbrev wsJ70 : List Cond := u_ws RJ7 TJ7 0
theorem nmJ7 : ∀ a, a < 0 → ∀ b, b < 0 → a ≠ b → (TJ7 a).2.1 ≠ (TJ7 b).2.1 := by decide +kernel
theorem tyJ7_ok : ∀ k, k < 0 → parseFieldDescriptor (TJ7 k).2.2.1 = some (tyJ7 k) := by decide +kernel
abbrev cJ7_fill_d0a16 : ByteArray := prog_13_method_101_code
def yJ7_fill_d0a16 : MethodName := ⟨RJ7, "fill", "([JJ)V"⟩
abbrev cJ7_fill_53178 : ByteArray := prog_13_method_103_code
def yJ7_fill_53178 : MethodName := ⟨RJ7, "fill", "([II)V"⟩
def RL : String := "BlockYardLaw"
abbrev cL_law : ByteArray := code
def yL_law : MethodName := ⟨RL, "law", "([I)Z"⟩
abbrev vwCl : List vw_C := [(RX0, TX0, 8), (RX1, TX1, 5), (RX2, TX2, 5), (RX3, TX3, 7), (RX4, TX4, 8), (RX5, TX5, 11), (RX6, TX6, 2), (RX7, TX7, 8), (RX8, TX8, 8), (RX9, TX9, 44)]
