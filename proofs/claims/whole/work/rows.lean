section
-- ===== PART A: goes FIRST, ahead of the names: the tables' words, and 'selects' of the private methods out of them =====
/-- a private method of a class that the tables say can be made, by its rows of tables_1 -/
def lw_okq (q : MethodName × Nat) : Prop := (q.1.cls ≠ "java/lang/invoke/MethodHandle" ∧ q.1.cls ≠ "java/lang/invoke/VarHandle") ∧ Cond.instantiable q.1.cls q.2 ∈ tables_1 ∧ Cond.privateMethod q.1 ∈ tables_1 ∧ Cond.instanceMethod q.1 ∈ tables_1
theorem lw_p0 : lw_okq (⟨"BlockYard$LevelReader", "endRow", "()Z"⟩, 7) := ⟨⟨by decide +kernel, by decide +kernel⟩, List.mem_of_getElem? (i := 157) (by decide +kernel), List.mem_of_getElem? (i := 338) (by decide +kernel), List.mem_of_getElem? (i := 339) (by decide +kernel)⟩
theorem lw_p1 : lw_okq (⟨"BlockYard$LevelReader", "addCell", "(CI)Z"⟩, 7) := ⟨⟨by decide +kernel, by decide +kernel⟩, List.mem_of_getElem? (i := 157) (by decide +kernel), List.mem_of_getElem? (i := 342) (by decide +kernel), List.mem_of_getElem? (i := 343) (by decide +kernel)⟩
theorem lw_p2 : lw_okq (⟨"BlockYard$LevelReader", "addBlockCell", "(IZI)Z"⟩, 7) := ⟨⟨by decide +kernel, by decide +kernel⟩, List.mem_of_getElem? (i := 157) (by decide +kernel), List.mem_of_getElem? (i := 360) (by decide +kernel), List.mem_of_getElem? (i := 361) (by decide +kernel)⟩
theorem lw_p3 : lw_okq (⟨"BlockYard$LevelReader", "faultOfPivots", "()I"⟩, 7) := ⟨⟨by decide +kernel, by decide +kernel⟩, List.mem_of_getElem? (i := 157) (by decide +kernel), List.mem_of_getElem? (i := 364) (by decide +kernel), List.mem_of_getElem? (i := 365) (by decide +kernel)⟩
theorem lw_p4 : lw_okq (⟨"BlockYard$LevelReader", "buildCell", "(LBlockYard$Level;II)V"⟩, 7) := ⟨⟨by decide +kernel, by decide +kernel⟩, List.mem_of_getElem? (i := 157) (by decide +kernel), List.mem_of_getElem? (i := 393) (by decide +kernel), List.mem_of_getElem? (i := 394) (by decide +kernel)⟩
theorem lw_p5 : lw_okq (⟨"BlockYard$Block", "cellsIn", "(LBlockYard$Yard;I)J"⟩, 8) := ⟨⟨by decide +kernel, by decide +kernel⟩, List.mem_of_getElem? (i := 86) (by decide +kernel), List.mem_of_getElem? (i := 415) (by decide +kernel), List.mem_of_getElem? (i := 416) (by decide +kernel)⟩
theorem lw_p6 : lw_okq (⟨"BlockYard", "faultOfMoves", "()I"⟩, 8) := ⟨⟨by decide +kernel, by decide +kernel⟩, List.mem_of_getElem? (i := 14) (by decide +kernel), List.mem_of_getElem? (i := 456) (by decide +kernel), List.mem_of_getElem? (i := 457) (by decide +kernel)⟩
theorem lw_p7 : lw_okq (⟨"BlockYard$Mover", "push", "(II)I"⟩, 8) := ⟨⟨by decide +kernel, by decide +kernel⟩, List.mem_of_getElem? (i := 185) (by decide +kernel), List.mem_of_getElem? (i := 488) (by decide +kernel), List.mem_of_getElem? (i := 489) (by decide +kernel)⟩
theorem lw_p8 : lw_okq (⟨"BlockYard", "attempt", "(II)I"⟩, 8) := ⟨⟨by decide +kernel, by decide +kernel⟩, List.mem_of_getElem? (i := 14) (by decide +kernel), List.mem_of_getElem? (i := 524) (by decide +kernel), List.mem_of_getElem? (i := 525) (by decide +kernel)⟩
theorem lw_p9 : lw_okq (⟨"BlockYard", "makeMove", "(III)V"⟩, 8) := ⟨⟨by decide +kernel, by decide +kernel⟩, List.mem_of_getElem? (i := 14) (by decide +kernel), List.mem_of_getElem? (i := 528) (by decide +kernel), List.mem_of_getElem? (i := 529) (by decide +kernel)⟩
theorem lw_p10 : lw_okq (⟨"BlockYard$Block", "placementBefore", "(LBlockYard$Yard;II)I"⟩, 8) := ⟨⟨by decide +kernel, by decide +kernel⟩, List.mem_of_getElem? (i := 86) (by decide +kernel), List.mem_of_getElem? (i := 589) (by decide +kernel), List.mem_of_getElem? (i := 590) (by decide +kernel)⟩
theorem lw_p11 : lw_okq (⟨"BlockYard", "isEmptySlot", "(I)Z"⟩, 8) := ⟨⟨by decide +kernel, by decide +kernel⟩, List.mem_of_getElem? (i := 14) (by decide +kernel), List.mem_of_getElem? (i := 661) (by decide +kernel), List.mem_of_getElem? (i := 662) (by decide +kernel)⟩
theorem lw_p12 : lw_okq (⟨"BlockYard$Search", "findSolution", "(J)I"⟩, 11) := ⟨⟨by decide +kernel, by decide +kernel⟩, List.mem_of_getElem? (i := 245) (by decide +kernel), List.mem_of_getElem? (i := 704) (by decide +kernel), List.mem_of_getElem? (i := 705) (by decide +kernel)⟩
theorem lw_p13 : lw_okq (⟨"BlockYard$Search", "begin", "(J)V"⟩, 11) := ⟨⟨by decide +kernel, by decide +kernel⟩, List.mem_of_getElem? (i := 245) (by decide +kernel), List.mem_of_getElem? (i := 709) (by decide +kernel), List.mem_of_getElem? (i := 710) (by decide +kernel)⟩
theorem lw_p14 : lw_okq (⟨"BlockYard$Search", "freePlaceFor", "(J)I"⟩, 11) := ⟨⟨by decide +kernel, by decide +kernel⟩, List.mem_of_getElem? (i := 245) (by decide +kernel), List.mem_of_getElem? (i := 714) (by decide +kernel), List.mem_of_getElem? (i := 715) (by decide +kernel)⟩
theorem lw_p15 : lw_okq (⟨"BlockYard$Search", "append", "(IJII)V"⟩, 11) := ⟨⟨by decide +kernel, by decide +kernel⟩, List.mem_of_getElem? (i := 245) (by decide +kernel), List.mem_of_getElem? (i := 719) (by decide +kernel), List.mem_of_getElem? (i := 720) (by decide +kernel)⟩
def lw_privs_1 : List (MethodName × Nat) := [(⟨"BlockYard$LevelReader", "endRow", "()Z"⟩, 7), (⟨"BlockYard$LevelReader", "addCell", "(CI)Z"⟩, 7), (⟨"BlockYard$LevelReader", "addBlockCell", "(IZI)Z"⟩, 7), (⟨"BlockYard$LevelReader", "faultOfPivots", "()I"⟩, 7), (⟨"BlockYard$LevelReader", "buildCell", "(LBlockYard$Level;II)V"⟩, 7), (⟨"BlockYard$Block", "cellsIn", "(LBlockYard$Yard;I)J"⟩, 8), (⟨"BlockYard", "faultOfMoves", "()I"⟩, 8), (⟨"BlockYard$Mover", "push", "(II)I"⟩, 8), (⟨"BlockYard", "attempt", "(II)I"⟩, 8), (⟨"BlockYard", "makeMove", "(III)V"⟩, 8), (⟨"BlockYard$Block", "placementBefore", "(LBlockYard$Yard;II)I"⟩, 8), (⟨"BlockYard", "isEmptySlot", "(I)Z"⟩, 8), (⟨"BlockYard$Search", "findSolution", "(J)I"⟩, 11), (⟨"BlockYard$Search", "begin", "(J)V"⟩, 11), (⟨"BlockYard$Search", "freePlaceFor", "(J)I"⟩, 11), (⟨"BlockYard$Search", "append", "(IJII)V"⟩, 11)]
theorem lw_r1 : ∀ q ∈ lw_privs_1, lw_okq q := List.forall_mem_cons.mpr ⟨lw_p0, List.forall_mem_cons.mpr ⟨lw_p1, List.forall_mem_cons.mpr ⟨lw_p2, List.forall_mem_cons.mpr ⟨lw_p3, List.forall_mem_cons.mpr ⟨lw_p4, List.forall_mem_cons.mpr ⟨lw_p5, List.forall_mem_cons.mpr ⟨lw_p6, List.forall_mem_cons.mpr ⟨lw_p7, List.forall_mem_cons.mpr ⟨lw_p8, List.forall_mem_cons.mpr ⟨lw_p9, List.forall_mem_cons.mpr ⟨lw_p10, List.forall_mem_cons.mpr ⟨lw_p11, List.forall_mem_cons.mpr ⟨lw_p12, List.forall_mem_cons.mpr ⟨lw_p13, List.forall_mem_cons.mpr ⟨lw_p14, List.forall_mem_cons.mpr ⟨lw_p15, fun _ h => absurd h List.not_mem_nil⟩⟩⟩⟩⟩⟩⟩⟩⟩⟩⟩⟩⟩⟩⟩⟩
theorem lw_p16 : lw_okq (⟨"BlockYard$Search", "spread", "(IZ)I"⟩, 11) := ⟨⟨by decide +kernel, by decide +kernel⟩, List.mem_of_getElem? (i := 245) (by decide +kernel), List.mem_of_getElem? (i := 723) (by decide +kernel), List.mem_of_getElem? (i := 724) (by decide +kernel)⟩
theorem lw_p17 : lw_okq (⟨"BlockYard$Search", "traceSolution", "()I"⟩, 11) := ⟨⟨by decide +kernel, by decide +kernel⟩, List.mem_of_getElem? (i := 245) (by decide +kernel), List.mem_of_getElem? (i := 730) (by decide +kernel), List.mem_of_getElem? (i := 731) (by decide +kernel)⟩
theorem lw_p18 : lw_okq (⟨"BlockYardModel", "findFault", "()I"⟩, 44) := ⟨⟨by decide +kernel, by decide +kernel⟩, List.mem_of_getElem? (i := 746) (by decide +kernel), List.mem_of_getElem? (i := 898) (by decide +kernel), List.mem_of_getElem? (i := 899) (by decide +kernel)⟩
theorem lw_p19 : lw_okq (⟨"BlockYardModel", "readsCell", "(III)Z"⟩, 44) := ⟨⟨by decide +kernel, by decide +kernel⟩, List.mem_of_getElem? (i := 746) (by decide +kernel), List.mem_of_getElem? (i := 902) (by decide +kernel), List.mem_of_getElem? (i := 903) (by decide +kernel)⟩
theorem lw_p20 : lw_okq (⟨"BlockYardModel", "moveBarred", "(II)I"⟩, 44) := ⟨⟨by decide +kernel, by decide +kernel⟩, List.mem_of_getElem? (i := 746) (by decide +kernel), List.mem_of_getElem? (i := 916) (by decide +kernel), List.mem_of_getElem? (i := 917) (by decide +kernel)⟩
theorem lw_p21 : lw_okq (⟨"BlockYardModel", "noBlock", "(I)Z"⟩, 44) := ⟨⟨by decide +kernel, by decide +kernel⟩, List.mem_of_getElem? (i := 746) (by decide +kernel), List.mem_of_getElem? (i := 920) (by decide +kernel), List.mem_of_getElem? (i := 921) (by decide +kernel)⟩
theorem lw_p22 : lw_okq (⟨"BlockYardModel", "movedBy", "(II)I"⟩, 44) := ⟨⟨by decide +kernel, by decide +kernel⟩, List.mem_of_getElem? (i := 746) (by decide +kernel), List.mem_of_getElem? (i := 927) (by decide +kernel), List.mem_of_getElem? (i := 928) (by decide +kernel)⟩
theorem lw_p23 : lw_okq (⟨"BlockYardModel", "layOwners", "()V"⟩, 44) := ⟨⟨by decide +kernel, by decide +kernel⟩, List.mem_of_getElem? (i := 746) (by decide +kernel), List.mem_of_getElem? (i := 931) (by decide +kernel), List.mem_of_getElem? (i := 932) (by decide +kernel)⟩
theorem lw_p24 : lw_okq (⟨"BlockYardModel", "cellY", "(III)I"⟩, 44) := ⟨⟨by decide +kernel, by decide +kernel⟩, List.mem_of_getElem? (i := 746) (by decide +kernel), List.mem_of_getElem? (i := 935) (by decide +kernel), List.mem_of_getElem? (i := 936) (by decide +kernel)⟩
theorem lw_p25 : lw_okq (⟨"BlockYardModel", "cellX", "(III)I"⟩, 44) := ⟨⟨by decide +kernel, by decide +kernel⟩, List.mem_of_getElem? (i := 746) (by decide +kernel), List.mem_of_getElem? (i := 942) (by decide +kernel), List.mem_of_getElem? (i := 943) (by decide +kernel)⟩
theorem lw_p26 : lw_okq (⟨"BlockYardModel", "pushed", "(II)I"⟩, 44) := ⟨⟨by decide +kernel, by decide +kernel⟩, List.mem_of_getElem? (i := 746) (by decide +kernel), List.mem_of_getElem? (i := 949) (by decide +kernel), List.mem_of_getElem? (i := 950) (by decide +kernel)⟩
theorem lw_p27 : lw_okq (⟨"BlockYardModel", "isInYard", "(II)Z"⟩, 44) := ⟨⟨by decide +kernel, by decide +kernel⟩, List.mem_of_getElem? (i := 746) (by decide +kernel), List.mem_of_getElem? (i := 959) (by decide +kernel), List.mem_of_getElem? (i := 960) (by decide +kernel)⟩
theorem lw_p28 : lw_okq (⟨"BlockYardModel", "maySlide", "(II)Z"⟩, 44) := ⟨⟨by decide +kernel, by decide +kernel⟩, List.mem_of_getElem? (i := 746) (by decide +kernel), List.mem_of_getElem? (i := 963) (by decide +kernel), List.mem_of_getElem? (i := 964) (by decide +kernel)⟩
theorem lw_p29 : lw_okq (⟨"BlockYardModel", "isPassable", "(III)Z"⟩, 44) := ⟨⟨by decide +kernel, by decide +kernel⟩, List.mem_of_getElem? (i := 746) (by decide +kernel), List.mem_of_getElem? (i := 967) (by decide +kernel), List.mem_of_getElem? (i := 968) (by decide +kernel)⟩
theorem lw_p30 : lw_okq (⟨"BlockYardModel", "kindAt", "(II)I"⟩, 44) := ⟨⟨by decide +kernel, by decide +kernel⟩, List.mem_of_getElem? (i := 746) (by decide +kernel), List.mem_of_getElem? (i := 971) (by decide +kernel), List.mem_of_getElem? (i := 972) (by decide +kernel)⟩
theorem lw_p31 : lw_okq (⟨"BlockYardModel", "mayTurn", "(IZ)Z"⟩, 44) := ⟨⟨by decide +kernel, by decide +kernel⟩, List.mem_of_getElem? (i := 746) (by decide +kernel), List.mem_of_getElem? (i := 975) (by decide +kernel), List.mem_of_getElem? (i := 976) (by decide +kernel)⟩
def lw_privs_2 : List (MethodName × Nat) := [(⟨"BlockYard$Search", "spread", "(IZ)I"⟩, 11), (⟨"BlockYard$Search", "traceSolution", "()I"⟩, 11), (⟨"BlockYardModel", "findFault", "()I"⟩, 44), (⟨"BlockYardModel", "readsCell", "(III)Z"⟩, 44), (⟨"BlockYardModel", "moveBarred", "(II)I"⟩, 44), (⟨"BlockYardModel", "noBlock", "(I)Z"⟩, 44), (⟨"BlockYardModel", "movedBy", "(II)I"⟩, 44), (⟨"BlockYardModel", "layOwners", "()V"⟩, 44), (⟨"BlockYardModel", "cellY", "(III)I"⟩, 44), (⟨"BlockYardModel", "cellX", "(III)I"⟩, 44), (⟨"BlockYardModel", "pushed", "(II)I"⟩, 44), (⟨"BlockYardModel", "isInYard", "(II)Z"⟩, 44), (⟨"BlockYardModel", "maySlide", "(II)Z"⟩, 44), (⟨"BlockYardModel", "isPassable", "(III)Z"⟩, 44), (⟨"BlockYardModel", "kindAt", "(II)I"⟩, 44), (⟨"BlockYardModel", "mayTurn", "(IZ)Z"⟩, 44)]
theorem lw_r2 : ∀ q ∈ lw_privs_2, lw_okq q := List.forall_mem_cons.mpr ⟨lw_p16, List.forall_mem_cons.mpr ⟨lw_p17, List.forall_mem_cons.mpr ⟨lw_p18, List.forall_mem_cons.mpr ⟨lw_p19, List.forall_mem_cons.mpr ⟨lw_p20, List.forall_mem_cons.mpr ⟨lw_p21, List.forall_mem_cons.mpr ⟨lw_p22, List.forall_mem_cons.mpr ⟨lw_p23, List.forall_mem_cons.mpr ⟨lw_p24, List.forall_mem_cons.mpr ⟨lw_p25, List.forall_mem_cons.mpr ⟨lw_p26, List.forall_mem_cons.mpr ⟨lw_p27, List.forall_mem_cons.mpr ⟨lw_p28, List.forall_mem_cons.mpr ⟨lw_p29, List.forall_mem_cons.mpr ⟨lw_p30, List.forall_mem_cons.mpr ⟨lw_p31, fun _ h => absurd h List.not_mem_nil⟩⟩⟩⟩⟩⟩⟩⟩⟩⟩⟩⟩⟩⟩⟩⟩
theorem lw_p32 : lw_okq (⟨"BlockYardModel", "goRound", "(IZ)V"⟩, 44) := ⟨⟨by decide +kernel, by decide +kernel⟩, List.mem_of_getElem? (i := 746) (by decide +kernel), List.mem_of_getElem? (i := 982) (by decide +kernel), List.mem_of_getElem? (i := 983) (by decide +kernel)⟩
theorem lw_p33 : lw_okq (⟨"BlockYardModel", "makes", "(III)V"⟩, 44) := ⟨⟨by decide +kernel, by decide +kernel⟩, List.mem_of_getElem? (i := 746) (by decide +kernel), List.mem_of_getElem? (i := 990) (by decide +kernel), List.mem_of_getElem? (i := 991) (by decide +kernel)⟩
theorem lw_p34 : lw_okq (⟨"BlockYardModel", "weightBy", "(I)I"⟩, 44) := ⟨⟨by decide +kernel, by decide +kernel⟩, List.mem_of_getElem? (i := 746) (by decide +kernel), List.mem_of_getElem? (i := 994) (by decide +kernel), List.mem_of_getElem? (i := 995) (by decide +kernel)⟩
theorem lw_p35 : lw_okq (⟨"BlockYardModel", "packed", "()J"⟩, 44) := ⟨⟨by decide +kernel, by decide +kernel⟩, List.mem_of_getElem? (i := 746) (by decide +kernel), List.mem_of_getElem? (i := 998) (by decide +kernel), List.mem_of_getElem? (i := 999) (by decide +kernel)⟩
theorem lw_p36 : lw_okq (⟨"BlockYardModel", "carryOut", "(II)V"⟩, 44) := ⟨⟨by decide +kernel, by decide +kernel⟩, List.mem_of_getElem? (i := 746) (by decide +kernel), List.mem_of_getElem? (i := 1003) (by decide +kernel), List.mem_of_getElem? (i := 1004) (by decide +kernel)⟩
theorem lw_p37 : lw_okq (⟨"BlockYardModel", "possibleAt", "(I)I"⟩, 44) := ⟨⟨by decide +kernel, by decide +kernel⟩, List.mem_of_getElem? (i := 746) (by decide +kernel), List.mem_of_getElem? (i := 1014) (by decide +kernel), List.mem_of_getElem? (i := 1015) (by decide +kernel)⟩
theorem lw_p38 : lw_okq (⟨"BlockYardModel", "unpack", "(J)V"⟩, 44) := ⟨⟨by decide +kernel, by decide +kernel⟩, List.mem_of_getElem? (i := 746) (by decide +kernel), List.mem_of_getElem? (i := 1026) (by decide +kernel), List.mem_of_getElem? (i := 1027) (by decide +kernel)⟩
theorem lw_p39 : lw_okq (⟨"BlockYardModel", "goThrough", "()I"⟩, 44) := ⟨⟨by decide +kernel, by decide +kernel⟩, List.mem_of_getElem? (i := 746) (by decide +kernel), List.mem_of_getElem? (i := 1046) (by decide +kernel), List.mem_of_getElem? (i := 1047) (by decide +kernel)⟩
theorem lw_p40 : lw_okq (⟨"BlockYardModel", "isPlacement", "(II)Z"⟩, 44) := ⟨⟨by decide +kernel, by decide +kernel⟩, List.mem_of_getElem? (i := 746) (by decide +kernel), List.mem_of_getElem? (i := 1112) (by decide +kernel), List.mem_of_getElem? (i := 1113) (by decide +kernel)⟩
theorem lw_p41 : lw_okq (⟨"BlockYardModel", "isFree", "(II)Z"⟩, 44) := ⟨⟨by decide +kernel, by decide +kernel⟩, List.mem_of_getElem? (i := 746) (by decide +kernel), List.mem_of_getElem? (i := 1116) (by decide +kernel), List.mem_of_getElem? (i := 1117) (by decide +kernel)⟩
theorem lw_p42 : lw_okq (⟨"BlockYardModel", "findFar", "(I)V"⟩, 44) := ⟨⟨by decide +kernel, by decide +kernel⟩, List.mem_of_getElem? (i := 746) (by decide +kernel), List.mem_of_getElem? (i := 1120) (by decide +kernel), List.mem_of_getElem? (i := 1121) (by decide +kernel)⟩
theorem lw_p43 : lw_okq (⟨"BlockYardModel", "isAtGoal", "(II)Z"⟩, 44) := ⟨⟨by decide +kernel, by decide +kernel⟩, List.mem_of_getElem? (i := 746) (by decide +kernel), List.mem_of_getElem? (i := 1124) (by decide +kernel), List.mem_of_getElem? (i := 1125) (by decide +kernel)⟩
theorem lw_p44 : lw_okq (⟨"BlockYardModel", "maySlideAlone", "(III)Z"⟩, 44) := ⟨⟨by decide +kernel, by decide +kernel⟩, List.mem_of_getElem? (i := 746) (by decide +kernel), List.mem_of_getElem? (i := 1128) (by decide +kernel), List.mem_of_getElem? (i := 1129) (by decide +kernel)⟩
theorem lw_p45 : lw_okq (⟨"BlockYardModel", "mayTurnAlone", "(IIZ)Z"⟩, 44) := ⟨⟨by decide +kernel, by decide +kernel⟩, List.mem_of_getElem? (i := 746) (by decide +kernel), List.mem_of_getElem? (i := 1132) (by decide +kernel), List.mem_of_getElem? (i := 1133) (by decide +kernel)⟩
theorem lw_p46 : lw_okq (⟨"BlockYardModel", "leadsTo", "(III)Z"⟩, 44) := ⟨⟨by decide +kernel, by decide +kernel⟩, List.mem_of_getElem? (i := 746) (by decide +kernel), List.mem_of_getElem? (i := 1136) (by decide +kernel), List.mem_of_getElem? (i := 1137) (by decide +kernel)⟩
theorem lw_p47 : lw_okq (⟨"BlockYardModel", "findAllFar", "()V"⟩, 44) := ⟨⟨by decide +kernel, by decide +kernel⟩, List.mem_of_getElem? (i := 746) (by decide +kernel), List.mem_of_getElem? (i := 1152) (by decide +kernel), List.mem_of_getElem? (i := 1153) (by decide +kernel)⟩
def lw_privs_3 : List (MethodName × Nat) := [(⟨"BlockYardModel", "goRound", "(IZ)V"⟩, 44), (⟨"BlockYardModel", "makes", "(III)V"⟩, 44), (⟨"BlockYardModel", "weightBy", "(I)I"⟩, 44), (⟨"BlockYardModel", "packed", "()J"⟩, 44), (⟨"BlockYardModel", "carryOut", "(II)V"⟩, 44), (⟨"BlockYardModel", "possibleAt", "(I)I"⟩, 44), (⟨"BlockYardModel", "unpack", "(J)V"⟩, 44), (⟨"BlockYardModel", "goThrough", "()I"⟩, 44), (⟨"BlockYardModel", "isPlacement", "(II)Z"⟩, 44), (⟨"BlockYardModel", "isFree", "(II)Z"⟩, 44), (⟨"BlockYardModel", "findFar", "(I)V"⟩, 44), (⟨"BlockYardModel", "isAtGoal", "(II)Z"⟩, 44), (⟨"BlockYardModel", "maySlideAlone", "(III)Z"⟩, 44), (⟨"BlockYardModel", "mayTurnAlone", "(IIZ)Z"⟩, 44), (⟨"BlockYardModel", "leadsTo", "(III)Z"⟩, 44), (⟨"BlockYardModel", "findAllFar", "()V"⟩, 44)]
theorem lw_r3 : ∀ q ∈ lw_privs_3, lw_okq q := List.forall_mem_cons.mpr ⟨lw_p32, List.forall_mem_cons.mpr ⟨lw_p33, List.forall_mem_cons.mpr ⟨lw_p34, List.forall_mem_cons.mpr ⟨lw_p35, List.forall_mem_cons.mpr ⟨lw_p36, List.forall_mem_cons.mpr ⟨lw_p37, List.forall_mem_cons.mpr ⟨lw_p38, List.forall_mem_cons.mpr ⟨lw_p39, List.forall_mem_cons.mpr ⟨lw_p40, List.forall_mem_cons.mpr ⟨lw_p41, List.forall_mem_cons.mpr ⟨lw_p42, List.forall_mem_cons.mpr ⟨lw_p43, List.forall_mem_cons.mpr ⟨lw_p44, List.forall_mem_cons.mpr ⟨lw_p45, List.forall_mem_cons.mpr ⟨lw_p46, List.forall_mem_cons.mpr ⟨lw_p47, fun _ h => absurd h List.not_mem_nil⟩⟩⟩⟩⟩⟩⟩⟩⟩⟩⟩⟩⟩⟩⟩⟩
theorem lw_p48 : lw_okq (⟨"BlockYardModel", "isDeadNow", "()Z"⟩, 44) := ⟨⟨by decide +kernel, by decide +kernel⟩, List.mem_of_getElem? (i := 746) (by decide +kernel), List.mem_of_getElem? (i := 1156) (by decide +kernel), List.mem_of_getElem? (i := 1157) (by decide +kernel)⟩
theorem lw_p49 : lw_okq (⟨"BlockYardModel", "isSolvedNow", "()Z"⟩, 44) := ⟨⟨by decide +kernel, by decide +kernel⟩, List.mem_of_getElem? (i := 746) (by decide +kernel), List.mem_of_getElem? (i := 1164) (by decide +kernel), List.mem_of_getElem? (i := 1165) (by decide +kernel)⟩
theorem lw_p50 : lw_okq (⟨"BlockYardModel", "findSolution", "()V"⟩, 44) := ⟨⟨by decide +kernel, by decide +kernel⟩, List.mem_of_getElem? (i := 746) (by decide +kernel), List.mem_of_getElem? (i := 1172) (by decide +kernel), List.mem_of_getElem? (i := 1173) (by decide +kernel)⟩
theorem lw_p51 : lw_okq (⟨"BlockYardModel", "search", "(ZI)V"⟩, 44) := ⟨⟨by decide +kernel, by decide +kernel⟩, List.mem_of_getElem? (i := 746) (by decide +kernel), List.mem_of_getElem? (i := 1176) (by decide +kernel), List.mem_of_getElem? (i := 1177) (by decide +kernel)⟩
theorem lw_p52 : lw_okq (⟨"BlockYardModel", "tries", "(IIIZ)Z"⟩, 44) := ⟨⟨by decide +kernel, by decide +kernel⟩, List.mem_of_getElem? (i := 746) (by decide +kernel), List.mem_of_getElem? (i := 1180) (by decide +kernel), List.mem_of_getElem? (i := 1181) (by decide +kernel)⟩
theorem lw_p53 : lw_okq (⟨"BlockYardModel", "isListed", "(J)Z"⟩, 44) := ⟨⟨by decide +kernel, by decide +kernel⟩, List.mem_of_getElem? (i := 746) (by decide +kernel), List.mem_of_getElem? (i := 1184) (by decide +kernel), List.mem_of_getElem? (i := 1185) (by decide +kernel)⟩
def lw_privs_4 : List (MethodName × Nat) := [(⟨"BlockYardModel", "isDeadNow", "()Z"⟩, 44), (⟨"BlockYardModel", "isSolvedNow", "()Z"⟩, 44), (⟨"BlockYardModel", "findSolution", "()V"⟩, 44), (⟨"BlockYardModel", "search", "(ZI)V"⟩, 44), (⟨"BlockYardModel", "tries", "(IIIZ)Z"⟩, 44), (⟨"BlockYardModel", "isListed", "(J)Z"⟩, 44)]
theorem lw_r4 : ∀ q ∈ lw_privs_4, lw_okq q := List.forall_mem_cons.mpr ⟨lw_p48, List.forall_mem_cons.mpr ⟨lw_p49, List.forall_mem_cons.mpr ⟨lw_p50, List.forall_mem_cons.mpr ⟨lw_p51, List.forall_mem_cons.mpr ⟨lw_p52, List.forall_mem_cons.mpr ⟨lw_p53, fun _ h => absurd h List.not_mem_nil⟩⟩⟩⟩⟩⟩
def lw_privs : List (MethodName × Nat) := lw_privs_1 ++ (lw_privs_2 ++ (lw_privs_3 ++ (lw_privs_4)))
def lw_tbl : List Cond := k2_sels lw_privs ++ tables_1
theorem lw_privs_ok : ∀ q ∈ lw_privs, lw_okq q := by
  show ∀ q ∈ lw_privs_1 ++ (lw_privs_2 ++ (lw_privs_3 ++ (lw_privs_4))), lw_okq q
  exact List.forall_mem_append.mpr ⟨lw_r1, List.forall_mem_append.mpr ⟨lw_r2, List.forall_mem_append.mpr ⟨lw_r3, lw_r4⟩⟩⟩
theorem goodIn_r {big : List Cond} (ws : List Cond) (ps : List Nat) (hp : ws = ps.filterMap (fun i => big[i]?)) (h : ws.all goodWord = true) : GoodIn big ws := by
  intro w hw
  have h1 := List.all_eq_true.mp h w hw
  rw [hp] at hw
  obtain ⟨i, -, hi⟩ := List.mem_filterMap.mp hw
  have hm : w ∈ big := by first | exact List.mem_of_getElem? hi | exact List.getElem?_mem hi
  exact ⟨hm, good_of_word h1⟩
theorem goodIn_app {big a b : List Cond} (ha : GoodIn big a) (hb : GoodIn big b) : GoodIn big (a ++ b) := fun w h => (List.mem_append.mp h).elim (ha w) (hb w)
theorem goodIn_ca {big a b : List Cond} {c : Cond} (ha : GoodIn big (c :: a)) (hb : GoodIn big b) : GoodIn big (c :: (a ++ b)) := fun w h => (List.mem_cons.mp h).elim (fun e => ha w (List.mem_cons.mpr (Or.inl e))) (fun h => (List.mem_append.mp h).elim (fun h => ha w (List.mem_cons.mpr (Or.inr h))) (hb w))
theorem goodIn_sub {big ws : List Cond} (hm : ∀ w ∈ ws, w ∈ big) (h : ws.all goodWord = true) : GoodIn big ws := fun w hw => ⟨hm w hw, good_of_word (List.all_eq_true.mp h w hw)⟩
def RX0 : String := "BlockYard$Block"
def TX0 : u_T := fun k => match k with
  | 0 => ("BlockYard$Block", "offsetX", "[I", true)
  | 1 => ("BlockYard$Block", "offsetY", "[I", true)
  | 2 => ("BlockYard$Block", "cells", "[J", true)
  | 3 => ("BlockYard$Block", "distances", "[I", true)
  | 4 => ("BlockYard$Block", "cellCount", "I", false)
  | 5 => ("BlockYard$Block", "weight", "I", false)
  | 6 => ("BlockYard$Block", "goalCell", "I", false)
  | _ => ("BlockYard$Block", "goalOrientation", "I", false)
def tyX0 : Nat → FieldType := fun k => match k with
  | 0 => .array .int
  | 1 => .array .int
  | 2 => .array .long
  | 3 => .array .int
  | 4 => .int
  | 5 => .int
  | 6 => .int
  | _ => .int
abbrev wsX00 : List Cond := u_ws RX0 TX0 8
theorem nmX0 : ∀ a, a < 8 → ∀ b, b < 8 → a ≠ b → (TX0 a).2.1 ≠ (TX0 b).2.1 := by decide +kernel
theorem tyX0_ok : ∀ k, k < 8 → parseFieldDescriptor (TX0 k).2.2.1 = some (tyX0 k) := by decide +kernel
abbrev cX0_init : ByteArray := prog_2_method_1_code
def yX0_init : MethodName := ⟨RX0, "<init>", "()V"⟩
abbrev cX0_clear : ByteArray := prog_2_method_2_code
def yX0_clear : MethodName := ⟨RX0, "clear", "()V"⟩
abbrev cX0_hasGoal : ByteArray := prog_2_method_3_code
def yX0_hasGoal : MethodName := ⟨RX0, "hasGoal", "()Z"⟩
abbrev cX0_aimAt : ByteArray := prog_2_method_4_code
def yX0_aimAt : MethodName := ⟨RX0, "aimAt", "(II)V"⟩
abbrev cX0_dropGoal : ByteArray := prog_2_method_5_code
def yX0_dropGoal : MethodName := ⟨RX0, "dropGoal", "()V"⟩
abbrev cX0_goalProperty : ByteArray := prog_2_method_6_code
def yX0_goalProperty : MethodName := ⟨RX0, "goalProperty", "(I)I"⟩
abbrev cX0_fits : ByteArray := prog_2_method_7_code
def yX0_fits : MethodName := ⟨RX0, "fits", "(I)Z"⟩
abbrev cX0_addCell : ByteArray := prog_2_method_8_code
def yX0_addCell : MethodName := ⟨RX0, "addCell", "(II)V"⟩
abbrev cX0_findPlacements : ByteArray := prog_2_method_9_code
def yX0_findPlacements : MethodName := ⟨RX0, "findPlacements", "(LBlockYard$Yard;)V"⟩
abbrev cX0_cellsIn : ByteArray := prog_2_method_10_code
def yX0_cellsIn : MethodName := ⟨RX0, "cellsIn", "(LBlockYard$Yard;I)J"⟩
abbrev cX0_afterPush : ByteArray := prog_2_method_11_code
def yX0_afterPush : MethodName := ⟨RX0, "afterPush", "(LBlockYard$Yard;IIJ)I"⟩
abbrev cX0_afterTurn : ByteArray := prog_2_method_12_code
def yX0_afterTurn : MethodName := ⟨RX0, "afterTurn", "(LBlockYard$Yard;IIJ)I"⟩
abbrev cX0_sweepIsClear : ByteArray := prog_2_method_13_code
def yX0_sweepIsClear : MethodName := ⟨RX0, "sweepIsClear", "(LBlockYard$Yard;IIIIJ)Z"⟩
abbrev cX0_measure : ByteArray := prog_2_method_14_code
def yX0_measure : MethodName := ⟨RX0, "measure", "(LBlockYard$Yard;[I)V"⟩
abbrev cX0_placementBefore : ByteArray := prog_2_method_15_code
def yX0_placementBefore : MethodName := ⟨RX0, "placementBefore", "(LBlockYard$Yard;II)I"⟩
def RX1 : String := "BlockYard$History"
def TX1 : u_T := fun k => match k with
  | 0 => ("BlockYard$History", "arrangements", "[J", true)
  | 1 => ("BlockYard$History", "moves", "[I", true)
  | 2 => ("BlockYard$History", "efforts", "[I", true)
  | 3 => ("BlockYard$History", "made", "I", false)
  | _ => ("BlockYard$History", "known", "I", false)
def tyX1 : Nat → FieldType := fun k => match k with
  | 0 => .array .long
  | 1 => .array .int
  | 2 => .array .int
  | 3 => .int
  | _ => .int
abbrev wsX10 : List Cond := u_ws RX1 TX1 5
theorem nmX1 : ∀ a, a < 5 → ∀ b, b < 5 → a ≠ b → (TX1 a).2.1 ≠ (TX1 b).2.1 := by decide +kernel
theorem tyX1_ok : ∀ k, k < 5 → parseFieldDescriptor (TX1 k).2.2.1 = some (tyX1 k) := by decide +kernel
abbrev cX1_init : ByteArray := prog_3_method_1_code
def yX1_init : MethodName := ⟨RX1, "<init>", "()V"⟩
abbrev cX1_begin : ByteArray := prog_3_method_2_code
def yX1_begin : MethodName := ⟨RX1, "begin", "(J)V"⟩
abbrev cX1_present : ByteArray := prog_3_method_3_code
def yX1_present : MethodName := ⟨RX1, "present", "()J"⟩
abbrev cX1_add : ByteArray := prog_3_method_4_code
def yX1_add : MethodName := ⟨RX1, "add", "(IIJ)V"⟩
def RX2 : String := "BlockYard$Level"
def TX2 : u_T := fun k => match k with
  | 0 => ("BlockYard$Level", "yard", "LBlockYard$Yard;", true)
  | 1 => ("BlockYard$Level", "blocks", "[LBlockYard$Block;", true)
  | 2 => ("BlockYard$Level", "thresholds", "[I", true)
  | 3 => ("BlockYard$Level", "strength", "I", false)
  | _ => ("BlockYard$Level", "queue", "[I", true)
def tyX2 : Nat → FieldType := fun k => match k with
  | 0 => .object "BlockYard$Yard"
  | 1 => .array (.object "BlockYard$Block")
  | 2 => .array .int
  | 3 => .int
  | _ => .array .int
abbrev wsX20 : List Cond := u_ws RX2 TX2 5
theorem nmX2 : ∀ a, a < 5 → ∀ b, b < 5 → a ≠ b → (TX2 a).2.1 ≠ (TX2 b).2.1 := by decide +kernel
theorem tyX2_ok : ∀ k, k < 5 → parseFieldDescriptor (TX2 k).2.2.1 = some (tyX2 k) := by decide +kernel
abbrev cX2_init : ByteArray := prog_4_method_1_code
def yX2_init : MethodName := ⟨RX2, "<init>", "()V"⟩
abbrev cX2_clear : ByteArray := prog_4_method_2_code
def yX2_clear : MethodName := ⟨RX2, "clear", "(II)V"⟩
abbrev cX2_has : ByteArray := prog_4_method_3_code
def yX2_has : MethodName := ⟨RX2, "has", "(I)Z"⟩
abbrev cX2_blockCount : ByteArray := prog_4_method_4_code
def yX2_blockCount : MethodName := ⟨RX2, "blockCount", "()I"⟩
abbrev cX2_weightOf : ByteArray := prog_4_method_5_code
def yX2_weightOf : MethodName := ⟨RX2, "weightOf", "(I)I"⟩
abbrev cX2_boundOf : ByteArray := prog_4_method_6_code
def yX2_boundOf : MethodName := ⟨RX2, "boundOf", "(J)I"⟩
def RX3 : String := "BlockYard$LevelReader"
def TX3 : u_T := fun k => match k with
  | 0 => ("BlockYard$LevelReader", "text", "LBlockYard$Text;", true)
  | 1 => ("BlockYard$LevelReader", "cellCounts", "[I", true)
  | 2 => ("BlockYard$LevelReader", "firstPlaces", "[I", true)
  | 3 => ("BlockYard$LevelReader", "pivots", "[I", true)
  | 4 => ("BlockYard$LevelReader", "columns", "I", false)
  | 5 => ("BlockYard$LevelReader", "row", "I", false)
  | _ => ("BlockYard$LevelReader", "column", "I", false)
def tyX3 : Nat → FieldType := fun k => match k with
  | 0 => .object "BlockYard$Text"
  | 1 => .array .int
  | 2 => .array .int
  | 3 => .array .int
  | 4 => .int
  | 5 => .int
  | _ => .int
abbrev wsX30 : List Cond := u_ws RX3 TX3 7
theorem nmX3 : ∀ a, a < 7 → ∀ b, b < 7 → a ≠ b → (TX3 a).2.1 ≠ (TX3 b).2.1 := by decide +kernel
theorem tyX3_ok : ∀ k, k < 7 → parseFieldDescriptor (TX3 k).2.2.1 = some (tyX3 k) := by decide +kernel
abbrev cX3_init : ByteArray := prog_5_method_1_code
def yX3_init : MethodName := ⟨RX3, "<init>", "(LBlockYard$Text;)V"⟩
abbrev cX3_fault : ByteArray := prog_5_method_2_code
def yX3_fault : MethodName := ⟨RX3, "fault", "()I"⟩
abbrev cX3_endRow : ByteArray := prog_5_method_3_code
def yX3_endRow : MethodName := ⟨RX3, "endRow", "()Z"⟩
abbrev cX3_addCell : ByteArray := prog_5_method_4_code
def yX3_addCell : MethodName := ⟨RX3, "addCell", "(CI)Z"⟩
abbrev cX3_addBlockCell : ByteArray := prog_5_method_5_code
def yX3_addBlockCell : MethodName := ⟨RX3, "addBlockCell", "(IZI)Z"⟩
abbrev cX3_faultOfPivots : ByteArray := prog_5_method_6_code
def yX3_faultOfPivots : MethodName := ⟨RX3, "faultOfPivots", "()I"⟩
abbrev cX3_build : ByteArray := prog_5_method_7_code
def yX3_build : MethodName := ⟨RX3, "build", "(LBlockYard$Level;)J"⟩
abbrev cX3_buildCell : ByteArray := prog_5_method_8_code
def yX3_buildCell : MethodName := ⟨RX3, "buildCell", "(LBlockYard$Level;II)V"⟩
abbrev cX3_groundOf : ByteArray := prog_5_method_9_code
def yX3_groundOf : MethodName := ⟨RX3, "groundOf", "(C)I"⟩
abbrev cX3_isPivot : ByteArray := prog_5_method_10_code
def yX3_isPivot : MethodName := ⟨RX3, "isPivot", "(C)Z"⟩
abbrev cX3_blockOf : ByteArray := prog_5_method_11_code
def yX3_blockOf : MethodName := ⟨RX3, "blockOf", "(C)I"⟩
def RX4 : String := "BlockYard$Mover"
def TX4 : u_T := fun k => match k with
  | 0 => ("BlockYard$Mover", "level", "LBlockYard$Level;", true)
  | 1 => ("BlockYard$Mover", "placements", "[I", true)
  | 2 => ("BlockYard$Mover", "pushed", "[I", true)
  | 3 => ("BlockYard$Mover", "masks", "[J", true)
  | 4 => ("BlockYard$Mover", "arrangement", "J", false)
  | 5 => ("BlockYard$Mover", "occupied", "J", false)
  | 6 => ("BlockYard$Mover", "closedGates", "J", false)
  | _ => ("BlockYard$Mover", "result", "J", false)
def tyX4 : Nat → FieldType := fun k => match k with
  | 0 => .object "BlockYard$Level"
  | 1 => .array .int
  | 2 => .array .int
  | 3 => .array .long
  | 4 => .long
  | 5 => .long
  | 6 => .long
  | _ => .long
abbrev wsX40 : List Cond := u_ws RX4 TX4 8
theorem nmX4 : ∀ a, a < 8 → ∀ b, b < 8 → a ≠ b → (TX4 a).2.1 ≠ (TX4 b).2.1 := by decide +kernel
theorem tyX4_ok : ∀ k, k < 8 → parseFieldDescriptor (TX4 k).2.2.1 = some (tyX4 k) := by decide +kernel
abbrev cX4_init : ByteArray := prog_6_method_1_code
def yX4_init : MethodName := ⟨RX4, "<init>", "(LBlockYard$Level;)V"⟩
abbrev cX4_stand : ByteArray := prog_6_method_2_code
def yX4_stand : MethodName := ⟨RX4, "stand", "(J)V"⟩
abbrev cX4_loadOf : ByteArray := prog_6_method_3_code
def yX4_loadOf : MethodName := ⟨RX4, "loadOf", "(I)I"⟩
abbrev cX4_attempt : ByteArray := prog_6_method_4_code
def yX4_attempt : MethodName := ⟨RX4, "attempt", "(II)I"⟩
abbrev cX4_push : ByteArray := prog_6_method_5_code
def yX4_push : MethodName := ⟨RX4, "push", "(II)I"⟩
def RX5 : String := "BlockYard$Search"
def TX5 : u_T := fun k => match k with
  | 0 => ("BlockYard$Search", "level", "LBlockYard$Level;", true)
  | 1 => ("BlockYard$Search", "mover", "LBlockYard$Mover;", true)
  | 2 => ("BlockYard$Search", "list", "[J", true)
  | 3 => ("BlockYard$Search", "origins", "[I", true)
  | 4 => ("BlockYard$Search", "leadingMoves", "[I", true)
  | 5 => ("BlockYard$Search", "listed", "I", false)
  | 6 => ("BlockYard$Search", "table", "[I", true)
  | 7 => ("BlockYard$Search", "solutionMoves", "[I", true)
  | 8 => ("BlockYard$Search", "solutionResult", "I", false)
  | 9 => ("BlockYard$Search", "solutionStart", "J", false)
  | _ => ("BlockYard$Search", "solutionIsKnown", "Z", false)
def tyX5 : Nat → FieldType := fun k => match k with
  | 0 => .object "BlockYard$Level"
  | 1 => .object "BlockYard$Mover"
  | 2 => .array .long
  | 3 => .array .int
  | 4 => .array .int
  | 5 => .int
  | 6 => .array .int
  | 7 => .array .int
  | 8 => .int
  | 9 => .long
  | _ => .boolean
abbrev wsX50 : List Cond := u_ws RX5 TX5 11
theorem nmX5 : ∀ a, a < 11 → ∀ b, b < 11 → a ≠ b → (TX5 a).2.1 ≠ (TX5 b).2.1 := by decide +kernel
theorem tyX5_ok : ∀ k, k < 11 → parseFieldDescriptor (TX5 k).2.2.1 = some (tyX5 k) := by decide +kernel
abbrev cX5_init : ByteArray := prog_7_method_1_code
def yX5_init : MethodName := ⟨RX5, "<init>", "(LBlockYard$Level;)V"⟩
abbrev cX5_forget : ByteArray := prog_7_method_2_code
def yX5_forget : MethodName := ⟨RX5, "forget", "()V"⟩
abbrev cX5_solutionLength : ByteArray := prog_7_method_3_code
def yX5_solutionLength : MethodName := ⟨RX5, "solutionLength", "(J)I"⟩
abbrev cX5_findSolution : ByteArray := prog_7_method_4_code
def yX5_findSolution : MethodName := ⟨RX5, "findSolution", "(J)I"⟩
abbrev cX5_traceSolution : ByteArray := prog_7_method_5_code
def yX5_traceSolution : MethodName := ⟨RX5, "traceSolution", "()I"⟩
abbrev cX5_countWithin : ByteArray := prog_7_method_6_code
def yX5_countWithin : MethodName := ⟨RX5, "countWithin", "(JI)I"⟩
abbrev cX5_begin : ByteArray := prog_7_method_7_code
def yX5_begin : MethodName := ⟨RX5, "begin", "(J)V"⟩
abbrev cX5_spread : ByteArray := prog_7_method_8_code
def yX5_spread : MethodName := ⟨RX5, "spread", "(IZ)I"⟩
abbrev cX5_append : ByteArray := prog_7_method_9_code
def yX5_append : MethodName := ⟨RX5, "append", "(IJII)V"⟩
abbrev cX5_freePlaceFor : ByteArray := prog_7_method_10_code
def yX5_freePlaceFor : MethodName := ⟨RX5, "freePlaceFor", "(J)I"⟩
def RX6 : String := "BlockYard$Text"
def TX6 : u_T := fun k => match k with
  | 0 => ("BlockYard$Text", "signs", "[C", true)
  | _ => ("BlockYard$Text", "length", "I", false)
def tyX6 : Nat → FieldType := fun k => match k with
  | 0 => .array .char
  | _ => .int
abbrev wsX60 : List Cond := u_ws RX6 TX6 2
theorem nmX6 : ∀ a, a < 2 → ∀ b, b < 2 → a ≠ b → (TX6 a).2.1 ≠ (TX6 b).2.1 := by decide +kernel
theorem tyX6_ok : ∀ k, k < 2 → parseFieldDescriptor (TX6 k).2.2.1 = some (tyX6 k) := by decide +kernel
abbrev cX6_init : ByteArray := prog_8_method_1_code
def yX6_init : MethodName := ⟨RX6, "<init>", "()V"⟩
abbrev cX6_append : ByteArray := prog_8_method_2_code
def yX6_append : MethodName := ⟨RX6, "append", "(C)Z"⟩
abbrev cX6_at : ByteArray := prog_8_method_3_code
def yX6_at : MethodName := ⟨RX6, "at", "(I)C"⟩
def RX7 : String := "BlockYard$Yard"
def TX7 : u_T := fun k => match k with
  | 0 => ("BlockYard$Yard", "columns", "I", false)
  | 1 => ("BlockYard$Yard", "rows", "I", false)
  | 2 => ("BlockYard$Yard", "kinds", "[I", true)
  | 3 => ("BlockYard$Yard", "walls", "J", false)
  | 4 => ("BlockYard$Yard", "oneWays", "J", false)
  | 5 => ("BlockYard$Yard", "oneWaysFor", "[J", true)
  | 6 => ("BlockYard$Yard", "plates", "[J", true)
  | _ => ("BlockYard$Yard", "gates", "[J", true)
def tyX7 : Nat → FieldType := fun k => match k with
  | 0 => .int
  | 1 => .int
  | 2 => .array .int
  | 3 => .long
  | 4 => .long
  | 5 => .array .long
  | 6 => .array .long
  | _ => .array .long
abbrev wsX70 : List Cond := u_ws RX7 TX7 8
theorem nmX7 : ∀ a, a < 8 → ∀ b, b < 8 → a ≠ b → (TX7 a).2.1 ≠ (TX7 b).2.1 := by decide +kernel
theorem tyX7_ok : ∀ k, k < 8 → parseFieldDescriptor (TX7 k).2.2.1 = some (tyX7 k) := by decide +kernel
abbrev cX7_init : ByteArray := prog_9_method_1_code
def yX7_init : MethodName := ⟨RX7, "<init>", "()V"⟩
abbrev cX7_clear : ByteArray := prog_9_method_2_code
def yX7_clear : MethodName := ⟨RX7, "clear", "(II)V"⟩
abbrev cX7_put : ByteArray := prog_9_method_3_code
def yX7_put : MethodName := ⟨RX7, "put", "(II)V"⟩
abbrev cX7_cellAt : ByteArray := prog_9_method_4_code
def yX7_cellAt : MethodName := ⟨RX7, "cellAt", "(II)I"⟩
abbrev cX7_shifted : ByteArray := prog_9_method_5_code
def yX7_shifted : MethodName := ⟨RX7, "shifted", "(II)I"⟩
def RX8 : String := "BlockYard"
def TX8 : u_T := fun k => match k with
  | 0 => ("BlockYard", "text", "LBlockYard$Text;", true)
  | 1 => ("BlockYard", "level", "LBlockYard$Level;", true)
  | 2 => ("BlockYard", "levelReader", "LBlockYard$LevelReader;", true)
  | 3 => ("BlockYard", "mover", "LBlockYard$Mover;", true)
  | 4 => ("BlockYard", "history", "LBlockYard$History;", true)
  | 5 => ("BlockYard", "search", "LBlockYard$Search;", true)
  | 6 => ("BlockYard", "saved", "[J", true)
  | _ => ("BlockYard", "filledSlots", "I", false)
def tyX8 : Nat → FieldType := fun k => match k with
  | 0 => .object "BlockYard$Text"
  | 1 => .object "BlockYard$Level"
  | 2 => .object "BlockYard$LevelReader"
  | 3 => .object "BlockYard$Mover"
  | 4 => .object "BlockYard$History"
  | 5 => .object "BlockYard$Search"
  | 6 => .array .long
  | _ => .int
abbrev wsX80 : List Cond := u_ws RX8 TX8 8
theorem nmX8 : ∀ a, a < 8 → ∀ b, b < 8 → a ≠ b → (TX8 a).2.1 ≠ (TX8 b).2.1 := by decide +kernel
theorem tyX8_ok : ∀ k, k < 8 → parseFieldDescriptor (TX8 k).2.2.1 = some (tyX8 k) := by decide +kernel
abbrev cX8_init : ByteArray := prog_1_method_1_code
def yX8_init : MethodName := ⟨RX8, "<init>", "()V"⟩
abbrev cX8_type : ByteArray := prog_1_method_2_code
def yX8_type : MethodName := ⟨RX8, "type", "(C)I"⟩
abbrev cX8_clearText : ByteArray := prog_1_method_3_code
def yX8_clearText : MethodName := ⟨RX8, "clearText", "()I"⟩
abbrev cX8_readLevel : ByteArray := prog_1_method_4_code
def yX8_readLevel : MethodName := ⟨RX8, "readLevel", "()I"⟩
abbrev cX8_readMoves : ByteArray := prog_1_method_5_code
def yX8_readMoves : MethodName := ⟨RX8, "readMoves", "()I"⟩
abbrev cX8_size : ByteArray := prog_1_method_6_code
def yX8_size : MethodName := ⟨RX8, "size", "(I)I"⟩
abbrev cX8_cell : ByteArray := prog_1_method_7_code
def yX8_cell : MethodName := ⟨RX8, "cell", "(II)I"⟩
abbrev cX8_blockAt : ByteArray := prog_1_method_8_code
def yX8_blockAt : MethodName := ⟨RX8, "blockAt", "(II)I"⟩
abbrev cX8_block : ByteArray := prog_1_method_9_code
def yX8_block : MethodName := ⟨RX8, "block", "(II)I"⟩
abbrev cX8_setWeight : ByteArray := prog_1_method_10_code
def yX8_setWeight : MethodName := ⟨RX8, "setWeight", "(II)I"⟩
abbrev cX8_setGoal : ByteArray := prog_1_method_11_code
def yX8_setGoal : MethodName := ⟨RX8, "setGoal", "(IIII)I"⟩
abbrev cX8_clearGoal : ByteArray := prog_1_method_12_code
def yX8_clearGoal : MethodName := ⟨RX8, "clearGoal", "(I)I"⟩
abbrev cX8_setThreshold : ByteArray := prog_1_method_13_code
def yX8_setThreshold : MethodName := ⟨RX8, "setThreshold", "(II)I"⟩
abbrev cX8_setStrength : ByteArray := prog_1_method_14_code
def yX8_setStrength : MethodName := ⟨RX8, "setStrength", "(I)I"⟩
abbrev cX8_load : ByteArray := prog_1_method_15_code
def yX8_load : MethodName := ⟨RX8, "load", "(I)I"⟩
abbrev cX8_isOpen : ByteArray := prog_1_method_16_code
def yX8_isOpen : MethodName := ⟨RX8, "isOpen", "(I)I"⟩
abbrev cX8_moved : ByteArray := prog_1_method_17_code
def yX8_moved : MethodName := ⟨RX8, "moved", "(II)I"⟩
abbrev cX8_move : ByteArray := prog_1_method_18_code
def yX8_move : MethodName := ⟨RX8, "move", "(II)I"⟩
abbrev cX8_possibleCount : ByteArray := prog_1_method_19_code
def yX8_possibleCount : MethodName := ⟨RX8, "possibleCount", "()I"⟩
abbrev cX8_possible : ByteArray := prog_1_method_20_code
def yX8_possible : MethodName := ⟨RX8, "possible", "(I)I"⟩
abbrev cX8_undo : ByteArray := prog_1_method_21_code
def yX8_undo : MethodName := ⟨RX8, "undo", "()I"⟩
abbrev cX8_redo : ByteArray := prog_1_method_22_code
def yX8_redo : MethodName := ⟨RX8, "redo", "()I"⟩
abbrev cX8_moveAt : ByteArray := prog_1_method_23_code
def yX8_moveAt : MethodName := ⟨RX8, "moveAt", "(I)I"⟩
abbrev cX8_effort : ByteArray := prog_1_method_24_code
def yX8_effort : MethodName := ⟨RX8, "effort", "()I"⟩
abbrev cX8_save : ByteArray := prog_1_method_25_code
def yX8_save : MethodName := ⟨RX8, "save", "(I)I"⟩
abbrev cX8_restore : ByteArray := prog_1_method_26_code
def yX8_restore : MethodName := ⟨RX8, "restore", "(I)I"⟩
abbrev cX8_isSolved : ByteArray := prog_1_method_27_code
def yX8_isSolved : MethodName := ⟨RX8, "isSolved", "()I"⟩
abbrev cX8_isDead : ByteArray := prog_1_method_28_code
def yX8_isDead : MethodName := ⟨RX8, "isDead", "(IIII)I"⟩
abbrev cX8_deadCount : ByteArray := prog_1_method_29_code
def yX8_deadCount : MethodName := ⟨RX8, "deadCount", "(I)I"⟩
abbrev cX8_distance : ByteArray := prog_1_method_30_code
def yX8_distance : MethodName := ⟨RX8, "distance", "(I)I"⟩
abbrev cX8_lowerBound : ByteArray := prog_1_method_31_code
def yX8_lowerBound : MethodName := ⟨RX8, "lowerBound", "()I"⟩
abbrev cX8_solve : ByteArray := prog_1_method_32_code
def yX8_solve : MethodName := ⟨RX8, "solve", "()I"⟩
abbrev cX8_solution : ByteArray := prog_1_method_33_code
def yX8_solution : MethodName := ⟨RX8, "solution", "(I)I"⟩
abbrev cX8_reachable : ByteArray := prog_1_method_34_code
def yX8_reachable : MethodName := ⟨RX8, "reachable", "(I)I"⟩
abbrev cX8_attempt : ByteArray := prog_1_method_35_code
def yX8_attempt : MethodName := ⟨RX8, "attempt", "(II)I"⟩
abbrev cX8_makeMove : ByteArray := prog_1_method_36_code
def yX8_makeMove : MethodName := ⟨RX8, "makeMove", "(III)V"⟩
abbrev cX8_faultOfMoves : ByteArray := prog_1_method_37_code
def yX8_faultOfMoves : MethodName := ⟨RX8, "faultOfMoves", "()I"⟩
abbrev cX8_isEmptySlot : ByteArray := prog_1_method_38_code
def yX8_isEmptySlot : MethodName := ⟨RX8, "isEmptySlot", "(I)Z"⟩
abbrev cX8_isSlot : ByteArray := prog_1_method_39_code
def yX8_isSlot : MethodName := ⟨RX8, "isSlot", "(I)Z"⟩
abbrev cX8_isGroup : ByteArray := prog_1_method_40_code
def yX8_isGroup : MethodName := ⟨RX8, "isGroup", "(I)Z"⟩
abbrev cX8_kindOfLetter : ByteArray := prog_1_method_41_code
def yX8_kindOfLetter : MethodName := ⟨RX8, "kindOfLetter", "(C)I"⟩
abbrev cX8_placeOf : ByteArray := prog_1_method_42_code
def yX8_placeOf : MethodName := ⟨RX8, "placeOf", "(C[C)I"⟩
abbrev cX8_moveCode : ByteArray := prog_1_method_43_code
def yX8_moveCode : MethodName := ⟨RX8, "moveCode", "(II)I"⟩
abbrev cX8_holds : ByteArray := prog_1_method_44_code
def yX8_holds : MethodName := ⟨RX8, "holds", "(JI)Z"⟩
abbrev cX8_columnOf : ByteArray := prog_1_method_45_code
def yX8_columnOf : MethodName := ⟨RX8, "columnOf", "(I)I"⟩
abbrev cX8_rowOf : ByteArray := prog_1_method_46_code
def yX8_rowOf : MethodName := ⟨RX8, "rowOf", "(I)I"⟩
abbrev cX8_orientationOf : ByteArray := prog_1_method_47_code
def yX8_orientationOf : MethodName := ⟨RX8, "orientationOf", "(I)I"⟩
abbrev cX8_placementIn : ByteArray := prog_1_method_48_code
def yX8_placementIn : MethodName := ⟨RX8, "placementIn", "(JI)I"⟩
abbrev cX8_withPlacement : ByteArray := prog_1_method_49_code
def yX8_withPlacement : MethodName := ⟨RX8, "withPlacement", "(JII)J"⟩
def RX9 : String := "BlockYardModel"
def TX9 : u_T := fun k => match k with
  | 0 => ("BlockYardModel", "columns", "I", false)
  | 1 => ("BlockYardModel", "rows", "I", false)
  | 2 => ("BlockYardModel", "strength", "I", false)
  | 3 => ("BlockYardModel", "threshold", "[I", true)
  | 4 => ("BlockYardModel", "kindOf", "[I", true)
  | 5 => ("BlockYardModel", "cells", "[I", true)
  | 6 => ("BlockYardModel", "offX", "[I", true)
  | 7 => ("BlockYardModel", "offY", "[I", true)
  | 8 => ("BlockYardModel", "weightOf", "[I", true)
  | 9 => ("BlockYardModel", "goalX", "[I", true)
  | 10 => ("BlockYardModel", "goalY", "[I", true)
  | 11 => ("BlockYardModel", "goalTurn", "[I", true)
  | 12 => ("BlockYardModel", "placeOf", "[I", true)
  | 13 => ("BlockYardModel", "typed", "I", false)
  | 14 => ("BlockYardModel", "text", "[C", true)
  | 15 => ("BlockYardModel", "readKind", "[I", true)
  | 16 => ("BlockYardModel", "readCells", "[I", true)
  | 17 => ("BlockYardModel", "readX", "[I", true)
  | 18 => ("BlockYardModel", "readY", "[I", true)
  | 19 => ("BlockYardModel", "firstOf", "[I", true)
  | 20 => ("BlockYardModel", "pivotX", "[I", true)
  | 21 => ("BlockYardModel", "pivotY", "[I", true)
  | 22 => ("BlockYardModel", "readWide", "I", false)
  | 23 => ("BlockYardModel", "readRows", "I", false)
  | 24 => ("BlockYardModel", "ownerOf", "[I", true)
  | 25 => ("BlockYardModel", "loadOf", "[I", true)
  | 26 => ("BlockYardModel", "ringX", "I", false)
  | 27 => ("BlockYardModel", "ringY", "I", false)
  | 28 => ("BlockYardModel", "made", "I", false)
  | 29 => ("BlockYardModel", "known", "I", false)
  | 30 => ("BlockYardModel", "moveOf", "[I", true)
  | 31 => ("BlockYardModel", "effortOf", "[I", true)
  | 32 => ("BlockYardModel", "beforeOf", "[J", true)
  | 33 => ("BlockYardModel", "afterOf", "[J", true)
  | 34 => ("BlockYardModel", "isSaved", "[Z", true)
  | 35 => ("BlockYardModel", "savedOf", "[J", true)
  | 36 => ("BlockYardModel", "nextOf", "[I", true)
  | 37 => ("BlockYardModel", "farOf", "[I", true)
  | 38 => ("BlockYardModel", "listOf", "[J", true)
  | 39 => ("BlockYardModel", "cameFrom", "[I", true)
  | 40 => ("BlockYardModel", "cameBy", "[I", true)
  | 41 => ("BlockYardModel", "stepsTo", "[I", true)
  | 42 => ("BlockYardModel", "listed", "I", false)
  | _ => ("BlockYardModel", "foundAt", "I", false)
def tyX9 : Nat → FieldType := fun k => match k with
  | 0 => .int
  | 1 => .int
  | 2 => .int
  | 3 => .array .int
  | 4 => .array .int
  | 5 => .array .int
  | 6 => .array .int
  | 7 => .array .int
  | 8 => .array .int
  | 9 => .array .int
  | 10 => .array .int
  | 11 => .array .int
  | 12 => .array .int
  | 13 => .int
  | 14 => .array .char
  | 15 => .array .int
  | 16 => .array .int
  | 17 => .array .int
  | 18 => .array .int
  | 19 => .array .int
  | 20 => .array .int
  | 21 => .array .int
  | 22 => .int
  | 23 => .int
  | 24 => .array .int
  | 25 => .array .int
  | 26 => .int
  | 27 => .int
  | 28 => .int
  | 29 => .int
  | 30 => .array .int
  | 31 => .array .int
  | 32 => .array .long
  | 33 => .array .long
  | 34 => .array .boolean
  | 35 => .array .long
  | 36 => .array .int
  | 37 => .array .int
  | 38 => .array .long
  | 39 => .array .int
  | 40 => .array .int
  | 41 => .array .int
  | 42 => .int
  | _ => .int
abbrev wsX90 : List Cond := u_ws RX9 TX9 44
theorem nmX9 : ∀ a, a < 44 → ∀ b, b < 44 → a ≠ b → (TX9 a).2.1 ≠ (TX9 b).2.1 := by decide +kernel
theorem tyX9_ok : ∀ k, k < 44 → parseFieldDescriptor (TX9 k).2.2.1 = some (tyX9 k) := by decide +kernel
abbrev cX9_init : ByteArray := prog_11_method_1_code
def yX9_init : MethodName := ⟨RX9, "<init>", "()V"⟩
abbrev cX9_in : ByteArray := prog_11_method_2_code
def yX9_in : MethodName := ⟨RX9, "in", "(III)Z"⟩
abbrev cX9_noBlock : ByteArray := prog_11_method_3_code
def yX9_noBlock : MethodName := ⟨RX9, "noBlock", "(I)Z"⟩
abbrev cX9_isInYard : ByteArray := prog_11_method_4_code
def yX9_isInYard : MethodName := ⟨RX9, "isInYard", "(II)Z"⟩
abbrev cX9_kindAt : ByteArray := prog_11_method_5_code
def yX9_kindAt : MethodName := ⟨RX9, "kindAt", "(II)I"⟩
abbrev cX9_turnedX : ByteArray := prog_11_method_6_code
def yX9_turnedX : MethodName := ⟨RX9, "turnedX", "(III)I"⟩
abbrev cX9_turnedY : ByteArray := prog_11_method_7_code
def yX9_turnedY : MethodName := ⟨RX9, "turnedY", "(III)I"⟩
abbrev cX9_cellX : ByteArray := prog_11_method_8_code
def yX9_cellX : MethodName := ⟨RX9, "cellX", "(III)I"⟩
abbrev cX9_cellY : ByteArray := prog_11_method_9_code
def yX9_cellY : MethodName := ⟨RX9, "cellY", "(III)I"⟩
abbrev cX9_stepX : ByteArray := prog_11_method_10_code
def yX9_stepX : MethodName := ⟨RX9, "stepX", "(I)I"⟩
abbrev cX9_stepY : ByteArray := prog_11_method_11_code
def yX9_stepY : MethodName := ⟨RX9, "stepY", "(I)I"⟩
abbrev cX9_type : ByteArray := prog_11_method_12_code
def yX9_type : MethodName := ⟨RX9, "type", "(C)I"⟩
abbrev cX9_clearText : ByteArray := prog_11_method_13_code
def yX9_clearText : MethodName := ⟨RX9, "clearText", "()I"⟩
abbrev cX9_kindBy : ByteArray := prog_11_method_14_code
def yX9_kindBy : MethodName := ⟨RX9, "kindBy", "(C)I"⟩
abbrev cX9_blockBy : ByteArray := prog_11_method_15_code
def yX9_blockBy : MethodName := ⟨RX9, "blockBy", "(C)I"⟩
abbrev cX9_readsCell : ByteArray := prog_11_method_16_code
def yX9_readsCell : MethodName := ⟨RX9, "readsCell", "(III)Z"⟩
abbrev cX9_findFault : ByteArray := prog_11_method_17_code
def yX9_findFault : MethodName := ⟨RX9, "findFault", "()I"⟩
abbrev cX9_readLevel : ByteArray := prog_11_method_18_code
def yX9_readLevel : MethodName := ⟨RX9, "readLevel", "()I"⟩
abbrev cX9_packed : ByteArray := prog_11_method_19_code
def yX9_packed : MethodName := ⟨RX9, "packed", "()J"⟩
abbrev cX9_unpack : ByteArray := prog_11_method_20_code
def yX9_unpack : MethodName := ⟨RX9, "unpack", "(J)V"⟩
abbrev cX9_layOwners : ByteArray := prog_11_method_21_code
def yX9_layOwners : MethodName := ⟨RX9, "layOwners", "()V"⟩
abbrev cX9_isPassable : ByteArray := prog_11_method_22_code
def yX9_isPassable : MethodName := ⟨RX9, "isPassable", "(III)Z"⟩
abbrev cX9_pushed : ByteArray := prog_11_method_23_code
def yX9_pushed : MethodName := ⟨RX9, "pushed", "(II)I"⟩
abbrev cX9_maySlide : ByteArray := prog_11_method_24_code
def yX9_maySlide : MethodName := ⟨RX9, "maySlide", "(II)Z"⟩
abbrev cX9_goRound : ByteArray := prog_11_method_25_code
def yX9_goRound : MethodName := ⟨RX9, "goRound", "(IZ)V"⟩
abbrev cX9_absolute : ByteArray := prog_11_method_26_code
def yX9_absolute : MethodName := ⟨RX9, "absolute", "(I)I"⟩
abbrev cX9_mayTurn : ByteArray := prog_11_method_27_code
def yX9_mayTurn : MethodName := ⟨RX9, "mayTurn", "(IZ)Z"⟩
abbrev cX9_movedBy : ByteArray := prog_11_method_28_code
def yX9_movedBy : MethodName := ⟨RX9, "movedBy", "(II)I"⟩
abbrev cX9_placeBehind : ByteArray := prog_11_method_29_code
def yX9_placeBehind : MethodName := ⟨RX9, "placeBehind", "(II)I"⟩
abbrev cX9_carryOut : ByteArray := prog_11_method_30_code
def yX9_carryOut : MethodName := ⟨RX9, "carryOut", "(II)V"⟩
abbrev cX9_weightBy : ByteArray := prog_11_method_31_code
def yX9_weightBy : MethodName := ⟨RX9, "weightBy", "(I)I"⟩
abbrev cX9_makes : ByteArray := prog_11_method_32_code
def yX9_makes : MethodName := ⟨RX9, "makes", "(III)V"⟩
abbrev cX9_moveBarred : ByteArray := prog_11_method_33_code
def yX9_moveBarred : MethodName := ⟨RX9, "moveBarred", "(II)I"⟩
abbrev cX9_moved : ByteArray := prog_11_method_34_code
def yX9_moved : MethodName := ⟨RX9, "moved", "(II)I"⟩
abbrev cX9_move : ByteArray := prog_11_method_35_code
def yX9_move : MethodName := ⟨RX9, "move", "(II)I"⟩
abbrev cX9_possibleAt : ByteArray := prog_11_method_36_code
def yX9_possibleAt : MethodName := ⟨RX9, "possibleAt", "(I)I"⟩
abbrev cX9_possibleCount : ByteArray := prog_11_method_37_code
def yX9_possibleCount : MethodName := ⟨RX9, "possibleCount", "()I"⟩
abbrev cX9_possible : ByteArray := prog_11_method_38_code
def yX9_possible : MethodName := ⟨RX9, "possible", "(I)I"⟩
abbrev cX9_undo : ByteArray := prog_11_method_39_code
def yX9_undo : MethodName := ⟨RX9, "undo", "()I"⟩
abbrev cX9_redo : ByteArray := prog_11_method_40_code
def yX9_redo : MethodName := ⟨RX9, "redo", "()I"⟩
abbrev cX9_moveAt : ByteArray := prog_11_method_41_code
def yX9_moveAt : MethodName := ⟨RX9, "moveAt", "(I)I"⟩
abbrev cX9_effort : ByteArray := prog_11_method_42_code
def yX9_effort : MethodName := ⟨RX9, "effort", "()I"⟩
abbrev cX9_kindOfMove : ByteArray := prog_11_method_43_code
def yX9_kindOfMove : MethodName := ⟨RX9, "kindOfMove", "(C)I"⟩
abbrev cX9_goThrough : ByteArray := prog_11_method_44_code
def yX9_goThrough : MethodName := ⟨RX9, "goThrough", "()I"⟩
abbrev cX9_readMoves : ByteArray := prog_11_method_45_code
def yX9_readMoves : MethodName := ⟨RX9, "readMoves", "()I"⟩
abbrev cX9_size : ByteArray := prog_11_method_46_code
def yX9_size : MethodName := ⟨RX9, "size", "(I)I"⟩
abbrev cX9_cell : ByteArray := prog_11_method_47_code
def yX9_cell : MethodName := ⟨RX9, "cell", "(II)I"⟩
abbrev cX9_blockAt : ByteArray := prog_11_method_48_code
def yX9_blockAt : MethodName := ⟨RX9, "blockAt", "(II)I"⟩
abbrev cX9_block : ByteArray := prog_11_method_49_code
def yX9_block : MethodName := ⟨RX9, "block", "(II)I"⟩
abbrev cX9_setWeight : ByteArray := prog_11_method_50_code
def yX9_setWeight : MethodName := ⟨RX9, "setWeight", "(II)I"⟩
abbrev cX9_setGoal : ByteArray := prog_11_method_51_code
def yX9_setGoal : MethodName := ⟨RX9, "setGoal", "(IIII)I"⟩
abbrev cX9_clearGoal : ByteArray := prog_11_method_52_code
def yX9_clearGoal : MethodName := ⟨RX9, "clearGoal", "(I)I"⟩
abbrev cX9_isGroup : ByteArray := prog_11_method_53_code
def yX9_isGroup : MethodName := ⟨RX9, "isGroup", "(I)Z"⟩
abbrev cX9_setThreshold : ByteArray := prog_11_method_54_code
def yX9_setThreshold : MethodName := ⟨RX9, "setThreshold", "(II)I"⟩
abbrev cX9_setStrength : ByteArray := prog_11_method_55_code
def yX9_setStrength : MethodName := ⟨RX9, "setStrength", "(I)I"⟩
abbrev cX9_load : ByteArray := prog_11_method_56_code
def yX9_load : MethodName := ⟨RX9, "load", "(I)I"⟩
abbrev cX9_isOpen : ByteArray := prog_11_method_57_code
def yX9_isOpen : MethodName := ⟨RX9, "isOpen", "(I)I"⟩
abbrev cX9_save : ByteArray := prog_11_method_58_code
def yX9_save : MethodName := ⟨RX9, "save", "(I)I"⟩
abbrev cX9_restore : ByteArray := prog_11_method_59_code
def yX9_restore : MethodName := ⟨RX9, "restore", "(I)I"⟩
abbrev cX9_isFree : ByteArray := prog_11_method_60_code
def yX9_isFree : MethodName := ⟨RX9, "isFree", "(II)Z"⟩
abbrev cX9_isPlacement : ByteArray := prog_11_method_61_code
def yX9_isPlacement : MethodName := ⟨RX9, "isPlacement", "(II)Z"⟩
abbrev cX9_maySlideAlone : ByteArray := prog_11_method_62_code
def yX9_maySlideAlone : MethodName := ⟨RX9, "maySlideAlone", "(III)Z"⟩
abbrev cX9_mayTurnAlone : ByteArray := prog_11_method_63_code
def yX9_mayTurnAlone : MethodName := ⟨RX9, "mayTurnAlone", "(IIZ)Z"⟩
abbrev cX9_isAtGoal : ByteArray := prog_11_method_64_code
def yX9_isAtGoal : MethodName := ⟨RX9, "isAtGoal", "(II)Z"⟩
abbrev cX9_findFar : ByteArray := prog_11_method_65_code
def yX9_findFar : MethodName := ⟨RX9, "findFar", "(I)V"⟩
abbrev cX9_leadsTo : ByteArray := prog_11_method_66_code
def yX9_leadsTo : MethodName := ⟨RX9, "leadsTo", "(III)Z"⟩
abbrev cX9_isDead : ByteArray := prog_11_method_67_code
def yX9_isDead : MethodName := ⟨RX9, "isDead", "(IIII)I"⟩
abbrev cX9_deadCount : ByteArray := prog_11_method_68_code
def yX9_deadCount : MethodName := ⟨RX9, "deadCount", "(I)I"⟩
abbrev cX9_distance : ByteArray := prog_11_method_69_code
def yX9_distance : MethodName := ⟨RX9, "distance", "(I)I"⟩
abbrev cX9_findAllFar : ByteArray := prog_11_method_70_code
def yX9_findAllFar : MethodName := ⟨RX9, "findAllFar", "()V"⟩
abbrev cX9_isDeadNow : ByteArray := prog_11_method_71_code
def yX9_isDeadNow : MethodName := ⟨RX9, "isDeadNow", "()Z"⟩
abbrev cX9_lowerBound : ByteArray := prog_11_method_72_code
def yX9_lowerBound : MethodName := ⟨RX9, "lowerBound", "()I"⟩
abbrev cX9_isSolvedNow : ByteArray := prog_11_method_73_code
def yX9_isSolvedNow : MethodName := ⟨RX9, "isSolvedNow", "()Z"⟩
abbrev cX9_isSolved : ByteArray := prog_11_method_74_code
def yX9_isSolved : MethodName := ⟨RX9, "isSolved", "()I"⟩
abbrev cX9_isListed : ByteArray := prog_11_method_75_code
def yX9_isListed : MethodName := ⟨RX9, "isListed", "(J)Z"⟩
abbrev cX9_tries : ByteArray := prog_11_method_76_code
def yX9_tries : MethodName := ⟨RX9, "tries", "(IIIZ)Z"⟩
abbrev cX9_search : ByteArray := prog_11_method_77_code
def yX9_search : MethodName := ⟨RX9, "search", "(ZI)V"⟩
abbrev cX9_findSolution : ByteArray := prog_11_method_78_code
def yX9_findSolution : MethodName := ⟨RX9, "findSolution", "()V"⟩
abbrev cX9_solve : ByteArray := prog_11_method_79_code
def yX9_solve : MethodName := ⟨RX9, "solve", "()I"⟩
abbrev cX9_solution : ByteArray := prog_11_method_80_code
def yX9_solution : MethodName := ⟨RX9, "solution", "(I)I"⟩
abbrev cX9_reachable : ByteArray := prog_11_method_81_code
def yX9_reachable : MethodName := ⟨RX9, "reachable", "(I)I"⟩
def RJ9 : String := "java/lang/Math"
def TJ9 : u_T := fun k => match k with
  | _ => ("", "", "", false)
def tyJ9 : Nat → FieldType := fun k => match k with
  | _ => .int
abbrev wsJ90 : List Cond := u_ws RJ9 TJ9 0
theorem nmJ9 : ∀ a, a < 0 → ∀ b, b < 0 → a ≠ b → (TJ9 a).2.1 ≠ (TJ9 b).2.1 := by decide +kernel
theorem tyJ9_ok : ∀ k, k < 0 → parseFieldDescriptor (TJ9 k).2.2.1 = some (tyJ9 k) := by decide +kernel
abbrev cJ9_abs_0f7a4 : ByteArray := prog_12_method_59_code
def yJ9_abs_0f7a4 : MethodName := ⟨RJ9, "abs", "(I)I"⟩
abbrev cJ9_max_7cf53 : ByteArray := prog_12_method_65_code
def yJ9_max_7cf53 : MethodName := ⟨RJ9, "max", "(II)I"⟩
def RJ7 : String := "java/util/Arrays"
def TJ7 : u_T := fun k => match k with
  | _ => ("", "", "", false)
def tyJ7 : Nat → FieldType := fun k => match k with
  | _ => .int
abbrev wsJ70 : List Cond := u_ws RJ7 TJ7 0
theorem nmJ7 : ∀ a, a < 0 → ∀ b, b < 0 → a ≠ b → (TJ7 a).2.1 ≠ (TJ7 b).2.1 := by decide +kernel
theorem tyJ7_ok : ∀ k, k < 0 → parseFieldDescriptor (TJ7 k).2.2.1 = some (tyJ7 k) := by decide +kernel
abbrev cJ7_fill_d0a16 : ByteArray := prog_13_method_101_code
def yJ7_fill_d0a16 : MethodName := ⟨RJ7, "fill", "([JJ)V"⟩
abbrev cJ7_fill_53178 : ByteArray := prog_13_method_103_code
def yJ7_fill_53178 : MethodName := ⟨RJ7, "fill", "([II)V"⟩
def RL : String := "BlockYardLaw"
abbrev cL_law : ByteArray := code
def yL_law : MethodName := ⟨RL, "law", "([I)Z"⟩
abbrev vwCl : List vw_C := [(RX0, TX0, 8), (RX1, TX1, 5), (RX2, TX2, 5), (RX3, TX3, 7), (RX4, TX4, 8), (RX5, TX5, 11), (RX6, TX6, 2), (RX7, TX7, 8), (RX8, TX8, 8), (RX9, TX9, 44)]
end
section
theorem dJ7_fill_d0a16_0 : decode cJ7_fill_d0a16 0 = .ok (.iconst 0, 1) := by decide +kernel
theorem dJ7_fill_d0a16_1 : decode cJ7_fill_d0a16 1 = .ok (.istore_n 3, 1) := by decide +kernel
theorem dJ7_fill_d0a16_2 : decode cJ7_fill_d0a16 2 = .ok (.aload_n 0, 1) := by decide +kernel
theorem dJ7_fill_d0a16_3 : decode cJ7_fill_d0a16 3 = .ok (.arraylength, 1) := by decide +kernel
theorem dJ7_fill_d0a16_4 : decode cJ7_fill_d0a16 4 = .ok (.istore 4, 2) := by decide +kernel
theorem dJ7_fill_d0a16_6 : decode cJ7_fill_d0a16 6 = .ok (.iload_n 3, 1) := by decide +kernel
theorem dJ7_fill_d0a16_7 : decode cJ7_fill_d0a16 7 = .ok (.iload 4, 2) := by decide +kernel
theorem dJ7_fill_d0a16_9 : decode cJ7_fill_d0a16 9 = .ok (.if_icmp .ge 13, 3) := by decide +kernel
theorem dJ7_fill_d0a16_12 : decode cJ7_fill_d0a16 12 = .ok (.aload_n 0, 1) := by decide +kernel
theorem dJ7_fill_d0a16_13 : decode cJ7_fill_d0a16 13 = .ok (.iload_n 3, 1) := by decide +kernel
theorem dJ7_fill_d0a16_14 : decode cJ7_fill_d0a16 14 = .ok (.lload_n 1, 1) := by decide +kernel
theorem dJ7_fill_d0a16_15 : decode cJ7_fill_d0a16 15 = .ok (.lastore, 1) := by decide +kernel
theorem dJ7_fill_d0a16_16 : decode cJ7_fill_d0a16 16 = .ok (.iinc 3 1, 3) := by decide +kernel
theorem dJ7_fill_d0a16_19 : decode cJ7_fill_d0a16 19 = .ok (.goto (-13), 3) := by decide +kernel
theorem dJ7_fill_d0a16_22 : decode cJ7_fill_d0a16 22 = .ok (.return_, 1) := by decide +kernel
theorem dJ7_fill_53178_0 : decode cJ7_fill_53178 0 = .ok (.iconst 0, 1) := by decide +kernel
theorem dJ7_fill_53178_1 : decode cJ7_fill_53178 1 = .ok (.istore_n 2, 1) := by decide +kernel
theorem dJ7_fill_53178_2 : decode cJ7_fill_53178 2 = .ok (.aload_n 0, 1) := by decide +kernel
theorem dJ7_fill_53178_3 : decode cJ7_fill_53178 3 = .ok (.arraylength, 1) := by decide +kernel
theorem dJ7_fill_53178_4 : decode cJ7_fill_53178 4 = .ok (.istore_n 3, 1) := by decide +kernel
theorem dJ7_fill_53178_5 : decode cJ7_fill_53178 5 = .ok (.iload_n 2, 1) := by decide +kernel
theorem dJ7_fill_53178_6 : decode cJ7_fill_53178 6 = .ok (.iload_n 3, 1) := by decide +kernel
theorem dJ7_fill_53178_7 : decode cJ7_fill_53178 7 = .ok (.if_icmp .ge 13, 3) := by decide +kernel
theorem dJ7_fill_53178_10 : decode cJ7_fill_53178 10 = .ok (.aload_n 0, 1) := by decide +kernel
theorem dJ7_fill_53178_11 : decode cJ7_fill_53178 11 = .ok (.iload_n 2, 1) := by decide +kernel
theorem dJ7_fill_53178_12 : decode cJ7_fill_53178 12 = .ok (.iload_n 1, 1) := by decide +kernel
theorem dJ7_fill_53178_13 : decode cJ7_fill_53178 13 = .ok (.iastore, 1) := by decide +kernel
theorem dJ7_fill_53178_14 : decode cJ7_fill_53178 14 = .ok (.iinc 2 1, 3) := by decide +kernel
theorem dJ7_fill_53178_17 : decode cJ7_fill_53178 17 = .ok (.goto (-12), 3) := by decide +kernel
theorem dJ7_fill_53178_20 : decode cJ7_fill_53178 20 = .ok (.return_, 1) := by decide +kernel
theorem dJ9_abs_0f7a4_0 : decode cJ9_abs_0f7a4 0 = .ok (.iload_n 0, 1) := by decide +kernel
theorem dJ9_abs_0f7a4_1 : decode cJ9_abs_0f7a4 1 = .ok (.ifCond .ge 8, 3) := by decide +kernel
theorem dJ9_abs_0f7a4_4 : decode cJ9_abs_0f7a4 4 = .ok (.iload_n 0, 1) := by decide +kernel
theorem dJ9_abs_0f7a4_5 : decode cJ9_abs_0f7a4 5 = .ok (.ineg, 1) := by decide +kernel
theorem dJ9_abs_0f7a4_6 : decode cJ9_abs_0f7a4 6 = .ok (.goto 4, 3) := by decide +kernel
theorem dJ9_abs_0f7a4_9 : decode cJ9_abs_0f7a4 9 = .ok (.iload_n 0, 1) := by decide +kernel
theorem dJ9_abs_0f7a4_10 : decode cJ9_abs_0f7a4 10 = .ok (.ireturn, 1) := by decide +kernel
theorem dJ9_max_7cf53_0 : decode cJ9_max_7cf53 0 = .ok (.iload_n 0, 1) := by decide +kernel
theorem dJ9_max_7cf53_1 : decode cJ9_max_7cf53 1 = .ok (.iload_n 1, 1) := by decide +kernel
theorem dJ9_max_7cf53_2 : decode cJ9_max_7cf53 2 = .ok (.if_icmp .lt 7, 3) := by decide +kernel
theorem dJ9_max_7cf53_5 : decode cJ9_max_7cf53 5 = .ok (.iload_n 0, 1) := by decide +kernel
theorem dJ9_max_7cf53_6 : decode cJ9_max_7cf53 6 = .ok (.goto 4, 3) := by decide +kernel
theorem dJ9_max_7cf53_9 : decode cJ9_max_7cf53 9 = .ok (.iload_n 1, 1) := by decide +kernel
theorem dJ9_max_7cf53_10 : decode cJ9_max_7cf53 10 = .ok (.ireturn, 1) := by decide +kernel
theorem dL_law_0 : decode cL_law 0 = .ok (.new 7, 3) := by decide +kernel
theorem dL_law_3 : decode cL_law 3 = .ok (.dup, 1) := by decide +kernel
theorem dL_law_4 : decode cL_law 4 = .ok (.invokespecial 9, 3) := by decide +kernel
theorem dL_law_7 : decode cL_law 7 = .ok (.astore_n 1, 1) := by decide +kernel
theorem dL_law_8 : decode cL_law 8 = .ok (.new 10, 3) := by decide +kernel
theorem dL_law_11 : decode cL_law 11 = .ok (.dup, 1) := by decide +kernel
theorem dL_law_12 : decode cL_law 12 = .ok (.invokespecial 12, 3) := by decide +kernel
theorem dL_law_15 : decode cL_law 15 = .ok (.astore_n 2, 1) := by decide +kernel
theorem dL_law_16 : decode cL_law 16 = .ok (.iconst 0, 1) := by decide +kernel
theorem dL_law_17 : decode cL_law 17 = .ok (.istore_n 3, 1) := by decide +kernel
theorem dL_law_18 : decode cL_law 18 = .ok (.iload_n 3, 1) := by decide +kernel
theorem dL_law_19 : decode cL_law 19 = .ok (.aload_n 0, 1) := by decide +kernel
theorem dL_law_20 : decode cL_law 20 = .ok (.arraylength, 1) := by decide +kernel
theorem dL_law_21 : decode cL_law 21 = .ok (.iconst 5, 1) := by decide +kernel
theorem dL_law_22 : decode cL_law 22 = .ok (.isub, 1) := by decide +kernel
theorem dL_law_23 : decode cL_law 23 = .ok (.if_icmp .gt 954, 3) := by decide +kernel
theorem dL_law_26 : decode cL_law 26 = .ok (.aload_n 0, 1) := by decide +kernel
theorem dL_law_27 : decode cL_law 27 = .ok (.iload_n 3, 1) := by decide +kernel
theorem dL_law_28 : decode cL_law 28 = .ok (.iaload, 1) := by decide +kernel
theorem dL_law_29 : decode cL_law 29 = .ok (.bipush 63, 2) := by decide +kernel
theorem dL_law_31 : decode cL_law 31 = .ok (.iand, 1) := by decide +kernel
theorem dL_law_32 : decode cL_law 32 = .ok (.tableswitch 939 0 32 #[148, 173, 186, 199, 212, 235, 268, 301, 334, 367, 420, 443, 476, 499, 522, 545, 578, 611, 624, 647, 660, 673, 696, 709, 732, 755, 768, 821, 844, 867, 880, 893, 916], 148) := by decide +kernel
theorem dL_law_180 : decode cL_law 180 = .ok (.aload_n 1, 1) := by decide +kernel
theorem dL_law_181 : decode cL_law 181 = .ok (.aload_n 0, 1) := by decide +kernel
theorem dL_law_182 : decode cL_law 182 = .ok (.iload_n 3, 1) := by decide +kernel
theorem dL_law_183 : decode cL_law 183 = .ok (.iconst 1, 1) := by decide +kernel
theorem dL_law_184 : decode cL_law 184 = .ok (.iadd, 1) := by decide +kernel
theorem dL_law_185 : decode cL_law 185 = .ok (.iaload, 1) := by decide +kernel
theorem dL_law_186 : decode cL_law 186 = .ok (.i2c, 1) := by decide +kernel
theorem dL_law_187 : decode cL_law 187 = .ok (.invokevirtual 13, 3) := by decide +kernel
theorem dL_law_190 : decode cL_law 190 = .ok (.aload_n 2, 1) := by decide +kernel
theorem dL_law_191 : decode cL_law 191 = .ok (.aload_n 0, 1) := by decide +kernel
theorem dL_law_192 : decode cL_law 192 = .ok (.iload_n 3, 1) := by decide +kernel
theorem dL_law_193 : decode cL_law 193 = .ok (.iconst 1, 1) := by decide +kernel
theorem dL_law_194 : decode cL_law 194 = .ok (.iadd, 1) := by decide +kernel
theorem dL_law_195 : decode cL_law 195 = .ok (.iaload, 1) := by decide +kernel
theorem dL_law_196 : decode cL_law 196 = .ok (.i2c, 1) := by decide +kernel
theorem dL_law_197 : decode cL_law 197 = .ok (.invokevirtual 17, 3) := by decide +kernel
theorem dL_law_200 : decode cL_law 200 = .ok (.if_icmp .eq 771, 3) := by decide +kernel
theorem dL_law_203 : decode cL_law 203 = .ok (.iconst 0, 1) := by decide +kernel
theorem dL_law_204 : decode cL_law 204 = .ok (.ireturn, 1) := by decide +kernel
theorem dL_law_205 : decode cL_law 205 = .ok (.aload_n 1, 1) := by decide +kernel
theorem dL_law_206 : decode cL_law 206 = .ok (.invokevirtual 18, 3) := by decide +kernel
theorem dL_law_209 : decode cL_law 209 = .ok (.aload_n 2, 1) := by decide +kernel
theorem dL_law_210 : decode cL_law 210 = .ok (.invokevirtual 22, 3) := by decide +kernel
theorem dL_law_213 : decode cL_law 213 = .ok (.if_icmp .eq 758, 3) := by decide +kernel
theorem dL_law_216 : decode cL_law 216 = .ok (.iconst 0, 1) := by decide +kernel
theorem dL_law_217 : decode cL_law 217 = .ok (.ireturn, 1) := by decide +kernel
theorem dL_law_218 : decode cL_law 218 = .ok (.aload_n 1, 1) := by decide +kernel
theorem dL_law_219 : decode cL_law 219 = .ok (.invokevirtual 23, 3) := by decide +kernel
theorem dL_law_222 : decode cL_law 222 = .ok (.aload_n 2, 1) := by decide +kernel
theorem dL_law_223 : decode cL_law 223 = .ok (.invokevirtual 26, 3) := by decide +kernel
theorem dL_law_226 : decode cL_law 226 = .ok (.if_icmp .eq 745, 3) := by decide +kernel
theorem dL_law_229 : decode cL_law 229 = .ok (.iconst 0, 1) := by decide +kernel
theorem dL_law_230 : decode cL_law 230 = .ok (.ireturn, 1) := by decide +kernel
theorem dL_law_231 : decode cL_law 231 = .ok (.aload_n 1, 1) := by decide +kernel
theorem dL_law_232 : decode cL_law 232 = .ok (.invokevirtual 27, 3) := by decide +kernel
theorem dL_law_235 : decode cL_law 235 = .ok (.aload_n 2, 1) := by decide +kernel
theorem dL_law_236 : decode cL_law 236 = .ok (.invokevirtual 30, 3) := by decide +kernel
theorem dL_law_239 : decode cL_law 239 = .ok (.if_icmp .eq 732, 3) := by decide +kernel
theorem dL_law_242 : decode cL_law 242 = .ok (.iconst 0, 1) := by decide +kernel
theorem dL_law_243 : decode cL_law 243 = .ok (.ireturn, 1) := by decide +kernel
theorem dL_law_244 : decode cL_law 244 = .ok (.aload_n 1, 1) := by decide +kernel
theorem dL_law_245 : decode cL_law 245 = .ok (.aload_n 0, 1) := by decide +kernel
theorem dL_law_246 : decode cL_law 246 = .ok (.iload_n 3, 1) := by decide +kernel
theorem dL_law_247 : decode cL_law 247 = .ok (.iconst 1, 1) := by decide +kernel
theorem dL_law_248 : decode cL_law 248 = .ok (.iadd, 1) := by decide +kernel
theorem dL_law_249 : decode cL_law 249 = .ok (.iaload, 1) := by decide +kernel
theorem dL_law_250 : decode cL_law 250 = .ok (.invokevirtual 31, 3) := by decide +kernel
theorem dL_law_253 : decode cL_law 253 = .ok (.aload_n 2, 1) := by decide +kernel
theorem dL_law_254 : decode cL_law 254 = .ok (.aload_n 0, 1) := by decide +kernel
theorem dL_law_255 : decode cL_law 255 = .ok (.iload_n 3, 1) := by decide +kernel
theorem dL_law_256 : decode cL_law 256 = .ok (.iconst 1, 1) := by decide +kernel
theorem dL_law_257 : decode cL_law 257 = .ok (.iadd, 1) := by decide +kernel
theorem dL_law_258 : decode cL_law 258 = .ok (.iaload, 1) := by decide +kernel
theorem dL_law_259 : decode cL_law 259 = .ok (.invokevirtual 35, 3) := by decide +kernel
theorem dL_law_262 : decode cL_law 262 = .ok (.if_icmp .eq 709, 3) := by decide +kernel
theorem dL_law_265 : decode cL_law 265 = .ok (.iconst 0, 1) := by decide +kernel
theorem dL_law_266 : decode cL_law 266 = .ok (.ireturn, 1) := by decide +kernel
theorem dL_law_267 : decode cL_law 267 = .ok (.aload_n 1, 1) := by decide +kernel
theorem dL_law_268 : decode cL_law 268 = .ok (.aload_n 0, 1) := by decide +kernel
theorem dL_law_269 : decode cL_law 269 = .ok (.iload_n 3, 1) := by decide +kernel
theorem dL_law_270 : decode cL_law 270 = .ok (.iconst 1, 1) := by decide +kernel
theorem dL_law_271 : decode cL_law 271 = .ok (.iadd, 1) := by decide +kernel
theorem dL_law_272 : decode cL_law 272 = .ok (.iaload, 1) := by decide +kernel
theorem dL_law_273 : decode cL_law 273 = .ok (.aload_n 0, 1) := by decide +kernel
theorem dL_law_274 : decode cL_law 274 = .ok (.iload_n 3, 1) := by decide +kernel
theorem dL_law_275 : decode cL_law 275 = .ok (.iconst 2, 1) := by decide +kernel
theorem dL_law_276 : decode cL_law 276 = .ok (.iadd, 1) := by decide +kernel
theorem dL_law_277 : decode cL_law 277 = .ok (.iaload, 1) := by decide +kernel
theorem dL_law_278 : decode cL_law 278 = .ok (.invokevirtual 36, 3) := by decide +kernel
theorem dL_law_281 : decode cL_law 281 = .ok (.aload_n 2, 1) := by decide +kernel
theorem dL_law_282 : decode cL_law 282 = .ok (.aload_n 0, 1) := by decide +kernel
theorem dL_law_283 : decode cL_law 283 = .ok (.iload_n 3, 1) := by decide +kernel
theorem dL_law_284 : decode cL_law 284 = .ok (.iconst 1, 1) := by decide +kernel
theorem dL_law_285 : decode cL_law 285 = .ok (.iadd, 1) := by decide +kernel
theorem dL_law_286 : decode cL_law 286 = .ok (.iaload, 1) := by decide +kernel
theorem dL_law_287 : decode cL_law 287 = .ok (.aload_n 0, 1) := by decide +kernel
theorem dL_law_288 : decode cL_law 288 = .ok (.iload_n 3, 1) := by decide +kernel
theorem dL_law_289 : decode cL_law 289 = .ok (.iconst 2, 1) := by decide +kernel
theorem dL_law_290 : decode cL_law 290 = .ok (.iadd, 1) := by decide +kernel
theorem dL_law_291 : decode cL_law 291 = .ok (.iaload, 1) := by decide +kernel
theorem dL_law_292 : decode cL_law 292 = .ok (.invokevirtual 40, 3) := by decide +kernel
theorem dL_law_295 : decode cL_law 295 = .ok (.if_icmp .eq 676, 3) := by decide +kernel
theorem dL_law_298 : decode cL_law 298 = .ok (.iconst 0, 1) := by decide +kernel
theorem dL_law_299 : decode cL_law 299 = .ok (.ireturn, 1) := by decide +kernel
theorem dL_law_300 : decode cL_law 300 = .ok (.aload_n 1, 1) := by decide +kernel
theorem dL_law_301 : decode cL_law 301 = .ok (.aload_n 0, 1) := by decide +kernel
theorem dL_law_302 : decode cL_law 302 = .ok (.iload_n 3, 1) := by decide +kernel
theorem dL_law_303 : decode cL_law 303 = .ok (.iconst 1, 1) := by decide +kernel
theorem dL_law_304 : decode cL_law 304 = .ok (.iadd, 1) := by decide +kernel
theorem dL_law_305 : decode cL_law 305 = .ok (.iaload, 1) := by decide +kernel
theorem dL_law_306 : decode cL_law 306 = .ok (.aload_n 0, 1) := by decide +kernel
theorem dL_law_307 : decode cL_law 307 = .ok (.iload_n 3, 1) := by decide +kernel
theorem dL_law_308 : decode cL_law 308 = .ok (.iconst 2, 1) := by decide +kernel
theorem dL_law_309 : decode cL_law 309 = .ok (.iadd, 1) := by decide +kernel
theorem dL_law_310 : decode cL_law 310 = .ok (.iaload, 1) := by decide +kernel
theorem dL_law_311 : decode cL_law 311 = .ok (.invokevirtual 41, 3) := by decide +kernel
theorem dL_law_314 : decode cL_law 314 = .ok (.aload_n 2, 1) := by decide +kernel
theorem dL_law_315 : decode cL_law 315 = .ok (.aload_n 0, 1) := by decide +kernel
theorem dL_law_316 : decode cL_law 316 = .ok (.iload_n 3, 1) := by decide +kernel
theorem dL_law_317 : decode cL_law 317 = .ok (.iconst 1, 1) := by decide +kernel
theorem dL_law_318 : decode cL_law 318 = .ok (.iadd, 1) := by decide +kernel
theorem dL_law_319 : decode cL_law 319 = .ok (.iaload, 1) := by decide +kernel
theorem dL_law_320 : decode cL_law 320 = .ok (.aload_n 0, 1) := by decide +kernel
theorem dL_law_321 : decode cL_law 321 = .ok (.iload_n 3, 1) := by decide +kernel
theorem dL_law_322 : decode cL_law 322 = .ok (.iconst 2, 1) := by decide +kernel
theorem dL_law_323 : decode cL_law 323 = .ok (.iadd, 1) := by decide +kernel
theorem dL_law_324 : decode cL_law 324 = .ok (.iaload, 1) := by decide +kernel
theorem dL_law_325 : decode cL_law 325 = .ok (.invokevirtual 44, 3) := by decide +kernel
theorem dL_law_328 : decode cL_law 328 = .ok (.if_icmp .eq 643, 3) := by decide +kernel
theorem dL_law_331 : decode cL_law 331 = .ok (.iconst 0, 1) := by decide +kernel
theorem dL_law_332 : decode cL_law 332 = .ok (.ireturn, 1) := by decide +kernel
theorem dL_law_333 : decode cL_law 333 = .ok (.aload_n 1, 1) := by decide +kernel
theorem dL_law_334 : decode cL_law 334 = .ok (.aload_n 0, 1) := by decide +kernel
theorem dL_law_335 : decode cL_law 335 = .ok (.iload_n 3, 1) := by decide +kernel
theorem dL_law_336 : decode cL_law 336 = .ok (.iconst 1, 1) := by decide +kernel
theorem dL_law_337 : decode cL_law 337 = .ok (.iadd, 1) := by decide +kernel
theorem dL_law_338 : decode cL_law 338 = .ok (.iaload, 1) := by decide +kernel
theorem dL_law_339 : decode cL_law 339 = .ok (.aload_n 0, 1) := by decide +kernel
theorem dL_law_340 : decode cL_law 340 = .ok (.iload_n 3, 1) := by decide +kernel
theorem dL_law_341 : decode cL_law 341 = .ok (.iconst 2, 1) := by decide +kernel
theorem dL_law_342 : decode cL_law 342 = .ok (.iadd, 1) := by decide +kernel
theorem dL_law_343 : decode cL_law 343 = .ok (.iaload, 1) := by decide +kernel
theorem dL_law_344 : decode cL_law 344 = .ok (.invokevirtual 45, 3) := by decide +kernel
theorem dL_law_347 : decode cL_law 347 = .ok (.aload_n 2, 1) := by decide +kernel
theorem dL_law_348 : decode cL_law 348 = .ok (.aload_n 0, 1) := by decide +kernel
theorem dL_law_349 : decode cL_law 349 = .ok (.iload_n 3, 1) := by decide +kernel
theorem dL_law_350 : decode cL_law 350 = .ok (.iconst 1, 1) := by decide +kernel
theorem dL_law_351 : decode cL_law 351 = .ok (.iadd, 1) := by decide +kernel
theorem dL_law_352 : decode cL_law 352 = .ok (.iaload, 1) := by decide +kernel
theorem dL_law_353 : decode cL_law 353 = .ok (.aload_n 0, 1) := by decide +kernel
theorem dL_law_354 : decode cL_law 354 = .ok (.iload_n 3, 1) := by decide +kernel
theorem dL_law_355 : decode cL_law 355 = .ok (.iconst 2, 1) := by decide +kernel
theorem dL_law_356 : decode cL_law 356 = .ok (.iadd, 1) := by decide +kernel
theorem dL_law_357 : decode cL_law 357 = .ok (.iaload, 1) := by decide +kernel
theorem dL_law_358 : decode cL_law 358 = .ok (.invokevirtual 48, 3) := by decide +kernel
theorem dL_law_361 : decode cL_law 361 = .ok (.if_icmp .eq 610, 3) := by decide +kernel
theorem dL_law_364 : decode cL_law 364 = .ok (.iconst 0, 1) := by decide +kernel
theorem dL_law_365 : decode cL_law 365 = .ok (.ireturn, 1) := by decide +kernel
theorem dL_law_366 : decode cL_law 366 = .ok (.aload_n 1, 1) := by decide +kernel
theorem dL_law_367 : decode cL_law 367 = .ok (.aload_n 0, 1) := by decide +kernel
theorem dL_law_368 : decode cL_law 368 = .ok (.iload_n 3, 1) := by decide +kernel
theorem dL_law_369 : decode cL_law 369 = .ok (.iconst 1, 1) := by decide +kernel
theorem dL_law_370 : decode cL_law 370 = .ok (.iadd, 1) := by decide +kernel
theorem dL_law_371 : decode cL_law 371 = .ok (.iaload, 1) := by decide +kernel
theorem dL_law_372 : decode cL_law 372 = .ok (.aload_n 0, 1) := by decide +kernel
theorem dL_law_373 : decode cL_law 373 = .ok (.iload_n 3, 1) := by decide +kernel
theorem dL_law_374 : decode cL_law 374 = .ok (.iconst 2, 1) := by decide +kernel
theorem dL_law_375 : decode cL_law 375 = .ok (.iadd, 1) := by decide +kernel
theorem dL_law_376 : decode cL_law 376 = .ok (.iaload, 1) := by decide +kernel
theorem dL_law_377 : decode cL_law 377 = .ok (.invokevirtual 49, 3) := by decide +kernel
theorem dL_law_380 : decode cL_law 380 = .ok (.aload_n 2, 1) := by decide +kernel
theorem dL_law_381 : decode cL_law 381 = .ok (.aload_n 0, 1) := by decide +kernel
theorem dL_law_382 : decode cL_law 382 = .ok (.iload_n 3, 1) := by decide +kernel
theorem dL_law_383 : decode cL_law 383 = .ok (.iconst 1, 1) := by decide +kernel
theorem dL_law_384 : decode cL_law 384 = .ok (.iadd, 1) := by decide +kernel
theorem dL_law_385 : decode cL_law 385 = .ok (.iaload, 1) := by decide +kernel
theorem dL_law_386 : decode cL_law 386 = .ok (.aload_n 0, 1) := by decide +kernel
theorem dL_law_387 : decode cL_law 387 = .ok (.iload_n 3, 1) := by decide +kernel
theorem dL_law_388 : decode cL_law 388 = .ok (.iconst 2, 1) := by decide +kernel
theorem dL_law_389 : decode cL_law 389 = .ok (.iadd, 1) := by decide +kernel
theorem dL_law_390 : decode cL_law 390 = .ok (.iaload, 1) := by decide +kernel
theorem dL_law_391 : decode cL_law 391 = .ok (.invokevirtual 52, 3) := by decide +kernel
theorem dL_law_394 : decode cL_law 394 = .ok (.if_icmp .eq 577, 3) := by decide +kernel
theorem dL_law_397 : decode cL_law 397 = .ok (.iconst 0, 1) := by decide +kernel
theorem dL_law_398 : decode cL_law 398 = .ok (.ireturn, 1) := by decide +kernel
theorem dL_law_399 : decode cL_law 399 = .ok (.aload_n 1, 1) := by decide +kernel
theorem dL_law_400 : decode cL_law 400 = .ok (.aload_n 0, 1) := by decide +kernel
theorem dL_law_401 : decode cL_law 401 = .ok (.iload_n 3, 1) := by decide +kernel
theorem dL_law_402 : decode cL_law 402 = .ok (.iconst 1, 1) := by decide +kernel
theorem dL_law_403 : decode cL_law 403 = .ok (.iadd, 1) := by decide +kernel
theorem dL_law_404 : decode cL_law 404 = .ok (.iaload, 1) := by decide +kernel
theorem dL_law_405 : decode cL_law 405 = .ok (.aload_n 0, 1) := by decide +kernel
theorem dL_law_406 : decode cL_law 406 = .ok (.iload_n 3, 1) := by decide +kernel
theorem dL_law_407 : decode cL_law 407 = .ok (.iconst 2, 1) := by decide +kernel
theorem dL_law_408 : decode cL_law 408 = .ok (.iadd, 1) := by decide +kernel
theorem dL_law_409 : decode cL_law 409 = .ok (.iaload, 1) := by decide +kernel
theorem dL_law_410 : decode cL_law 410 = .ok (.aload_n 0, 1) := by decide +kernel
theorem dL_law_411 : decode cL_law 411 = .ok (.iload_n 3, 1) := by decide +kernel
theorem dL_law_412 : decode cL_law 412 = .ok (.iconst 3, 1) := by decide +kernel
theorem dL_law_413 : decode cL_law 413 = .ok (.iadd, 1) := by decide +kernel
theorem dL_law_414 : decode cL_law 414 = .ok (.iaload, 1) := by decide +kernel
theorem dL_law_415 : decode cL_law 415 = .ok (.aload_n 0, 1) := by decide +kernel
theorem dL_law_416 : decode cL_law 416 = .ok (.iload_n 3, 1) := by decide +kernel
theorem dL_law_417 : decode cL_law 417 = .ok (.iconst 4, 1) := by decide +kernel
theorem dL_law_418 : decode cL_law 418 = .ok (.iadd, 1) := by decide +kernel
theorem dL_law_419 : decode cL_law 419 = .ok (.iaload, 1) := by decide +kernel
theorem dL_law_420 : decode cL_law 420 = .ok (.invokevirtual 53, 3) := by decide +kernel
theorem dL_law_423 : decode cL_law 423 = .ok (.aload_n 2, 1) := by decide +kernel
theorem dL_law_424 : decode cL_law 424 = .ok (.aload_n 0, 1) := by decide +kernel
theorem dL_law_425 : decode cL_law 425 = .ok (.iload_n 3, 1) := by decide +kernel
theorem dL_law_426 : decode cL_law 426 = .ok (.iconst 1, 1) := by decide +kernel
theorem dL_law_427 : decode cL_law 427 = .ok (.iadd, 1) := by decide +kernel
theorem dL_law_428 : decode cL_law 428 = .ok (.iaload, 1) := by decide +kernel
theorem dL_law_429 : decode cL_law 429 = .ok (.aload_n 0, 1) := by decide +kernel
theorem dL_law_430 : decode cL_law 430 = .ok (.iload_n 3, 1) := by decide +kernel
theorem dL_law_431 : decode cL_law 431 = .ok (.iconst 2, 1) := by decide +kernel
theorem dL_law_432 : decode cL_law 432 = .ok (.iadd, 1) := by decide +kernel
theorem dL_law_433 : decode cL_law 433 = .ok (.iaload, 1) := by decide +kernel
theorem dL_law_434 : decode cL_law 434 = .ok (.aload_n 0, 1) := by decide +kernel
theorem dL_law_435 : decode cL_law 435 = .ok (.iload_n 3, 1) := by decide +kernel
theorem dL_law_436 : decode cL_law 436 = .ok (.iconst 3, 1) := by decide +kernel
theorem dL_law_437 : decode cL_law 437 = .ok (.iadd, 1) := by decide +kernel
theorem dL_law_438 : decode cL_law 438 = .ok (.iaload, 1) := by decide +kernel
theorem dL_law_439 : decode cL_law 439 = .ok (.aload_n 0, 1) := by decide +kernel
theorem dL_law_440 : decode cL_law 440 = .ok (.iload_n 3, 1) := by decide +kernel
theorem dL_law_441 : decode cL_law 441 = .ok (.iconst 4, 1) := by decide +kernel
theorem dL_law_442 : decode cL_law 442 = .ok (.iadd, 1) := by decide +kernel
theorem dL_law_443 : decode cL_law 443 = .ok (.iaload, 1) := by decide +kernel
theorem dL_law_444 : decode cL_law 444 = .ok (.invokevirtual 57, 3) := by decide +kernel
theorem dL_law_447 : decode cL_law 447 = .ok (.if_icmp .eq 524, 3) := by decide +kernel
theorem dL_law_450 : decode cL_law 450 = .ok (.iconst 0, 1) := by decide +kernel
theorem dL_law_451 : decode cL_law 451 = .ok (.ireturn, 1) := by decide +kernel
theorem dL_law_452 : decode cL_law 452 = .ok (.aload_n 1, 1) := by decide +kernel
theorem dL_law_453 : decode cL_law 453 = .ok (.aload_n 0, 1) := by decide +kernel
theorem dL_law_454 : decode cL_law 454 = .ok (.iload_n 3, 1) := by decide +kernel
theorem dL_law_455 : decode cL_law 455 = .ok (.iconst 1, 1) := by decide +kernel
theorem dL_law_456 : decode cL_law 456 = .ok (.iadd, 1) := by decide +kernel
theorem dL_law_457 : decode cL_law 457 = .ok (.iaload, 1) := by decide +kernel
theorem dL_law_458 : decode cL_law 458 = .ok (.invokevirtual 58, 3) := by decide +kernel
theorem dL_law_461 : decode cL_law 461 = .ok (.aload_n 2, 1) := by decide +kernel
theorem dL_law_462 : decode cL_law 462 = .ok (.aload_n 0, 1) := by decide +kernel
theorem dL_law_463 : decode cL_law 463 = .ok (.iload_n 3, 1) := by decide +kernel
theorem dL_law_464 : decode cL_law 464 = .ok (.iconst 1, 1) := by decide +kernel
theorem dL_law_465 : decode cL_law 465 = .ok (.iadd, 1) := by decide +kernel
theorem dL_law_466 : decode cL_law 466 = .ok (.iaload, 1) := by decide +kernel
theorem dL_law_467 : decode cL_law 467 = .ok (.invokevirtual 61, 3) := by decide +kernel
theorem dL_law_470 : decode cL_law 470 = .ok (.if_icmp .eq 501, 3) := by decide +kernel
theorem dL_law_473 : decode cL_law 473 = .ok (.iconst 0, 1) := by decide +kernel
theorem dL_law_474 : decode cL_law 474 = .ok (.ireturn, 1) := by decide +kernel
theorem dL_law_475 : decode cL_law 475 = .ok (.aload_n 1, 1) := by decide +kernel
theorem dL_law_476 : decode cL_law 476 = .ok (.aload_n 0, 1) := by decide +kernel
theorem dL_law_477 : decode cL_law 477 = .ok (.iload_n 3, 1) := by decide +kernel
theorem dL_law_478 : decode cL_law 478 = .ok (.iconst 1, 1) := by decide +kernel
theorem dL_law_479 : decode cL_law 479 = .ok (.iadd, 1) := by decide +kernel
theorem dL_law_480 : decode cL_law 480 = .ok (.iaload, 1) := by decide +kernel
theorem dL_law_481 : decode cL_law 481 = .ok (.aload_n 0, 1) := by decide +kernel
theorem dL_law_482 : decode cL_law 482 = .ok (.iload_n 3, 1) := by decide +kernel
theorem dL_law_483 : decode cL_law 483 = .ok (.iconst 2, 1) := by decide +kernel
theorem dL_law_484 : decode cL_law 484 = .ok (.iadd, 1) := by decide +kernel
theorem dL_law_485 : decode cL_law 485 = .ok (.iaload, 1) := by decide +kernel
theorem dL_law_486 : decode cL_law 486 = .ok (.invokevirtual 62, 3) := by decide +kernel
theorem dL_law_489 : decode cL_law 489 = .ok (.aload_n 2, 1) := by decide +kernel
theorem dL_law_490 : decode cL_law 490 = .ok (.aload_n 0, 1) := by decide +kernel
theorem dL_law_491 : decode cL_law 491 = .ok (.iload_n 3, 1) := by decide +kernel
theorem dL_law_492 : decode cL_law 492 = .ok (.iconst 1, 1) := by decide +kernel
theorem dL_law_493 : decode cL_law 493 = .ok (.iadd, 1) := by decide +kernel
theorem dL_law_494 : decode cL_law 494 = .ok (.iaload, 1) := by decide +kernel
theorem dL_law_495 : decode cL_law 495 = .ok (.aload_n 0, 1) := by decide +kernel
theorem dL_law_496 : decode cL_law 496 = .ok (.iload_n 3, 1) := by decide +kernel
theorem dL_law_497 : decode cL_law 497 = .ok (.iconst 2, 1) := by decide +kernel
theorem dL_law_498 : decode cL_law 498 = .ok (.iadd, 1) := by decide +kernel
theorem dL_law_499 : decode cL_law 499 = .ok (.iaload, 1) := by decide +kernel
theorem dL_law_500 : decode cL_law 500 = .ok (.invokevirtual 65, 3) := by decide +kernel
theorem dL_law_503 : decode cL_law 503 = .ok (.if_icmp .eq 468, 3) := by decide +kernel
theorem dL_law_506 : decode cL_law 506 = .ok (.iconst 0, 1) := by decide +kernel
theorem dL_law_507 : decode cL_law 507 = .ok (.ireturn, 1) := by decide +kernel
theorem dL_law_508 : decode cL_law 508 = .ok (.aload_n 1, 1) := by decide +kernel
theorem dL_law_509 : decode cL_law 509 = .ok (.aload_n 0, 1) := by decide +kernel
theorem dL_law_510 : decode cL_law 510 = .ok (.iload_n 3, 1) := by decide +kernel
theorem dL_law_511 : decode cL_law 511 = .ok (.iconst 1, 1) := by decide +kernel
theorem dL_law_512 : decode cL_law 512 = .ok (.iadd, 1) := by decide +kernel
theorem dL_law_513 : decode cL_law 513 = .ok (.iaload, 1) := by decide +kernel
theorem dL_law_514 : decode cL_law 514 = .ok (.invokevirtual 66, 3) := by decide +kernel
theorem dL_law_517 : decode cL_law 517 = .ok (.aload_n 2, 1) := by decide +kernel
theorem dL_law_518 : decode cL_law 518 = .ok (.aload_n 0, 1) := by decide +kernel
theorem dL_law_519 : decode cL_law 519 = .ok (.iload_n 3, 1) := by decide +kernel
theorem dL_law_520 : decode cL_law 520 = .ok (.iconst 1, 1) := by decide +kernel
theorem dL_law_521 : decode cL_law 521 = .ok (.iadd, 1) := by decide +kernel
theorem dL_law_522 : decode cL_law 522 = .ok (.iaload, 1) := by decide +kernel
theorem dL_law_523 : decode cL_law 523 = .ok (.invokevirtual 69, 3) := by decide +kernel
theorem dL_law_526 : decode cL_law 526 = .ok (.if_icmp .eq 445, 3) := by decide +kernel
theorem dL_law_529 : decode cL_law 529 = .ok (.iconst 0, 1) := by decide +kernel
theorem dL_law_530 : decode cL_law 530 = .ok (.ireturn, 1) := by decide +kernel
theorem dL_law_531 : decode cL_law 531 = .ok (.aload_n 1, 1) := by decide +kernel
theorem dL_law_532 : decode cL_law 532 = .ok (.aload_n 0, 1) := by decide +kernel
theorem dL_law_533 : decode cL_law 533 = .ok (.iload_n 3, 1) := by decide +kernel
theorem dL_law_534 : decode cL_law 534 = .ok (.iconst 1, 1) := by decide +kernel
theorem dL_law_535 : decode cL_law 535 = .ok (.iadd, 1) := by decide +kernel
theorem dL_law_536 : decode cL_law 536 = .ok (.iaload, 1) := by decide +kernel
theorem dL_law_537 : decode cL_law 537 = .ok (.invokevirtual 70, 3) := by decide +kernel
theorem dL_law_540 : decode cL_law 540 = .ok (.aload_n 2, 1) := by decide +kernel
theorem dL_law_541 : decode cL_law 541 = .ok (.aload_n 0, 1) := by decide +kernel
theorem dL_law_542 : decode cL_law 542 = .ok (.iload_n 3, 1) := by decide +kernel
theorem dL_law_543 : decode cL_law 543 = .ok (.iconst 1, 1) := by decide +kernel
theorem dL_law_544 : decode cL_law 544 = .ok (.iadd, 1) := by decide +kernel
theorem dL_law_545 : decode cL_law 545 = .ok (.iaload, 1) := by decide +kernel
theorem dL_law_546 : decode cL_law 546 = .ok (.invokevirtual 73, 3) := by decide +kernel
theorem dL_law_549 : decode cL_law 549 = .ok (.if_icmp .eq 422, 3) := by decide +kernel
theorem dL_law_552 : decode cL_law 552 = .ok (.iconst 0, 1) := by decide +kernel
theorem dL_law_553 : decode cL_law 553 = .ok (.ireturn, 1) := by decide +kernel
theorem dL_law_554 : decode cL_law 554 = .ok (.aload_n 1, 1) := by decide +kernel
theorem dL_law_555 : decode cL_law 555 = .ok (.aload_n 0, 1) := by decide +kernel
theorem dL_law_556 : decode cL_law 556 = .ok (.iload_n 3, 1) := by decide +kernel
theorem dL_law_557 : decode cL_law 557 = .ok (.iconst 1, 1) := by decide +kernel
theorem dL_law_558 : decode cL_law 558 = .ok (.iadd, 1) := by decide +kernel
theorem dL_law_559 : decode cL_law 559 = .ok (.iaload, 1) := by decide +kernel
theorem dL_law_560 : decode cL_law 560 = .ok (.invokevirtual 74, 3) := by decide +kernel
theorem dL_law_563 : decode cL_law 563 = .ok (.aload_n 2, 1) := by decide +kernel
theorem dL_law_564 : decode cL_law 564 = .ok (.aload_n 0, 1) := by decide +kernel
theorem dL_law_565 : decode cL_law 565 = .ok (.iload_n 3, 1) := by decide +kernel
theorem dL_law_566 : decode cL_law 566 = .ok (.iconst 1, 1) := by decide +kernel
theorem dL_law_567 : decode cL_law 567 = .ok (.iadd, 1) := by decide +kernel
theorem dL_law_568 : decode cL_law 568 = .ok (.iaload, 1) := by decide +kernel
theorem dL_law_569 : decode cL_law 569 = .ok (.invokevirtual 77, 3) := by decide +kernel
theorem dL_law_572 : decode cL_law 572 = .ok (.if_icmp .eq 399, 3) := by decide +kernel
theorem dL_law_575 : decode cL_law 575 = .ok (.iconst 0, 1) := by decide +kernel
theorem dL_law_576 : decode cL_law 576 = .ok (.ireturn, 1) := by decide +kernel
theorem dL_law_577 : decode cL_law 577 = .ok (.aload_n 1, 1) := by decide +kernel
theorem dL_law_578 : decode cL_law 578 = .ok (.aload_n 0, 1) := by decide +kernel
theorem dL_law_579 : decode cL_law 579 = .ok (.iload_n 3, 1) := by decide +kernel
theorem dL_law_580 : decode cL_law 580 = .ok (.iconst 1, 1) := by decide +kernel
theorem dL_law_581 : decode cL_law 581 = .ok (.iadd, 1) := by decide +kernel
theorem dL_law_582 : decode cL_law 582 = .ok (.iaload, 1) := by decide +kernel
theorem dL_law_583 : decode cL_law 583 = .ok (.aload_n 0, 1) := by decide +kernel
theorem dL_law_584 : decode cL_law 584 = .ok (.iload_n 3, 1) := by decide +kernel
theorem dL_law_585 : decode cL_law 585 = .ok (.iconst 2, 1) := by decide +kernel
theorem dL_law_586 : decode cL_law 586 = .ok (.iadd, 1) := by decide +kernel
theorem dL_law_587 : decode cL_law 587 = .ok (.iaload, 1) := by decide +kernel
theorem dL_law_588 : decode cL_law 588 = .ok (.invokevirtual 78, 3) := by decide +kernel
theorem dL_law_591 : decode cL_law 591 = .ok (.aload_n 2, 1) := by decide +kernel
theorem dL_law_592 : decode cL_law 592 = .ok (.aload_n 0, 1) := by decide +kernel
theorem dL_law_593 : decode cL_law 593 = .ok (.iload_n 3, 1) := by decide +kernel
theorem dL_law_594 : decode cL_law 594 = .ok (.iconst 1, 1) := by decide +kernel
theorem dL_law_595 : decode cL_law 595 = .ok (.iadd, 1) := by decide +kernel
theorem dL_law_596 : decode cL_law 596 = .ok (.iaload, 1) := by decide +kernel
theorem dL_law_597 : decode cL_law 597 = .ok (.aload_n 0, 1) := by decide +kernel
theorem dL_law_598 : decode cL_law 598 = .ok (.iload_n 3, 1) := by decide +kernel
theorem dL_law_599 : decode cL_law 599 = .ok (.iconst 2, 1) := by decide +kernel
theorem dL_law_600 : decode cL_law 600 = .ok (.iadd, 1) := by decide +kernel
theorem dL_law_601 : decode cL_law 601 = .ok (.iaload, 1) := by decide +kernel
theorem dL_law_602 : decode cL_law 602 = .ok (.invokevirtual 81, 3) := by decide +kernel
theorem dL_law_605 : decode cL_law 605 = .ok (.if_icmp .eq 366, 3) := by decide +kernel
theorem dL_law_608 : decode cL_law 608 = .ok (.iconst 0, 1) := by decide +kernel
theorem dL_law_609 : decode cL_law 609 = .ok (.ireturn, 1) := by decide +kernel
theorem dL_law_610 : decode cL_law 610 = .ok (.aload_n 1, 1) := by decide +kernel
theorem dL_law_611 : decode cL_law 611 = .ok (.aload_n 0, 1) := by decide +kernel
theorem dL_law_612 : decode cL_law 612 = .ok (.iload_n 3, 1) := by decide +kernel
theorem dL_law_613 : decode cL_law 613 = .ok (.iconst 1, 1) := by decide +kernel
theorem dL_law_614 : decode cL_law 614 = .ok (.iadd, 1) := by decide +kernel
theorem dL_law_615 : decode cL_law 615 = .ok (.iaload, 1) := by decide +kernel
theorem dL_law_616 : decode cL_law 616 = .ok (.aload_n 0, 1) := by decide +kernel
theorem dL_law_617 : decode cL_law 617 = .ok (.iload_n 3, 1) := by decide +kernel
theorem dL_law_618 : decode cL_law 618 = .ok (.iconst 2, 1) := by decide +kernel
theorem dL_law_619 : decode cL_law 619 = .ok (.iadd, 1) := by decide +kernel
theorem dL_law_620 : decode cL_law 620 = .ok (.iaload, 1) := by decide +kernel
theorem dL_law_621 : decode cL_law 621 = .ok (.invokevirtual 82, 3) := by decide +kernel
theorem dL_law_624 : decode cL_law 624 = .ok (.aload_n 2, 1) := by decide +kernel
theorem dL_law_625 : decode cL_law 625 = .ok (.aload_n 0, 1) := by decide +kernel
theorem dL_law_626 : decode cL_law 626 = .ok (.iload_n 3, 1) := by decide +kernel
theorem dL_law_627 : decode cL_law 627 = .ok (.iconst 1, 1) := by decide +kernel
theorem dL_law_628 : decode cL_law 628 = .ok (.iadd, 1) := by decide +kernel
theorem dL_law_629 : decode cL_law 629 = .ok (.iaload, 1) := by decide +kernel
theorem dL_law_630 : decode cL_law 630 = .ok (.aload_n 0, 1) := by decide +kernel
theorem dL_law_631 : decode cL_law 631 = .ok (.iload_n 3, 1) := by decide +kernel
theorem dL_law_632 : decode cL_law 632 = .ok (.iconst 2, 1) := by decide +kernel
theorem dL_law_633 : decode cL_law 633 = .ok (.iadd, 1) := by decide +kernel
theorem dL_law_634 : decode cL_law 634 = .ok (.iaload, 1) := by decide +kernel
theorem dL_law_635 : decode cL_law 635 = .ok (.invokevirtual 85, 3) := by decide +kernel
theorem dL_law_638 : decode cL_law 638 = .ok (.if_icmp .eq 333, 3) := by decide +kernel
theorem dL_law_641 : decode cL_law 641 = .ok (.iconst 0, 1) := by decide +kernel
theorem dL_law_642 : decode cL_law 642 = .ok (.ireturn, 1) := by decide +kernel
theorem dL_law_643 : decode cL_law 643 = .ok (.aload_n 1, 1) := by decide +kernel
theorem dL_law_644 : decode cL_law 644 = .ok (.invokevirtual 86, 3) := by decide +kernel
theorem dL_law_647 : decode cL_law 647 = .ok (.aload_n 2, 1) := by decide +kernel
theorem dL_law_648 : decode cL_law 648 = .ok (.invokevirtual 89, 3) := by decide +kernel
theorem dL_law_651 : decode cL_law 651 = .ok (.if_icmp .eq 320, 3) := by decide +kernel
theorem dL_law_654 : decode cL_law 654 = .ok (.iconst 0, 1) := by decide +kernel
theorem dL_law_655 : decode cL_law 655 = .ok (.ireturn, 1) := by decide +kernel
theorem dL_law_656 : decode cL_law 656 = .ok (.aload_n 1, 1) := by decide +kernel
theorem dL_law_657 : decode cL_law 657 = .ok (.aload_n 0, 1) := by decide +kernel
theorem dL_law_658 : decode cL_law 658 = .ok (.iload_n 3, 1) := by decide +kernel
theorem dL_law_659 : decode cL_law 659 = .ok (.iconst 1, 1) := by decide +kernel
theorem dL_law_660 : decode cL_law 660 = .ok (.iadd, 1) := by decide +kernel
theorem dL_law_661 : decode cL_law 661 = .ok (.iaload, 1) := by decide +kernel
theorem dL_law_662 : decode cL_law 662 = .ok (.invokevirtual 90, 3) := by decide +kernel
theorem dL_law_665 : decode cL_law 665 = .ok (.aload_n 2, 1) := by decide +kernel
theorem dL_law_666 : decode cL_law 666 = .ok (.aload_n 0, 1) := by decide +kernel
theorem dL_law_667 : decode cL_law 667 = .ok (.iload_n 3, 1) := by decide +kernel
theorem dL_law_668 : decode cL_law 668 = .ok (.iconst 1, 1) := by decide +kernel
theorem dL_law_669 : decode cL_law 669 = .ok (.iadd, 1) := by decide +kernel
theorem dL_law_670 : decode cL_law 670 = .ok (.iaload, 1) := by decide +kernel
theorem dL_law_671 : decode cL_law 671 = .ok (.invokevirtual 93, 3) := by decide +kernel
theorem dL_law_674 : decode cL_law 674 = .ok (.if_icmp .eq 297, 3) := by decide +kernel
theorem dL_law_677 : decode cL_law 677 = .ok (.iconst 0, 1) := by decide +kernel
theorem dL_law_678 : decode cL_law 678 = .ok (.ireturn, 1) := by decide +kernel
theorem dL_law_679 : decode cL_law 679 = .ok (.aload_n 1, 1) := by decide +kernel
theorem dL_law_680 : decode cL_law 680 = .ok (.invokevirtual 94, 3) := by decide +kernel
theorem dL_law_683 : decode cL_law 683 = .ok (.aload_n 2, 1) := by decide +kernel
theorem dL_law_684 : decode cL_law 684 = .ok (.invokevirtual 97, 3) := by decide +kernel
theorem dL_law_687 : decode cL_law 687 = .ok (.if_icmp .eq 284, 3) := by decide +kernel
theorem dL_law_690 : decode cL_law 690 = .ok (.iconst 0, 1) := by decide +kernel
theorem dL_law_691 : decode cL_law 691 = .ok (.ireturn, 1) := by decide +kernel
theorem dL_law_692 : decode cL_law 692 = .ok (.aload_n 1, 1) := by decide +kernel
theorem dL_law_693 : decode cL_law 693 = .ok (.invokevirtual 98, 3) := by decide +kernel
theorem dL_law_696 : decode cL_law 696 = .ok (.aload_n 2, 1) := by decide +kernel
theorem dL_law_697 : decode cL_law 697 = .ok (.invokevirtual 101, 3) := by decide +kernel
theorem dL_law_700 : decode cL_law 700 = .ok (.if_icmp .eq 271, 3) := by decide +kernel
theorem dL_law_703 : decode cL_law 703 = .ok (.iconst 0, 1) := by decide +kernel
theorem dL_law_704 : decode cL_law 704 = .ok (.ireturn, 1) := by decide +kernel
theorem dL_law_705 : decode cL_law 705 = .ok (.aload_n 1, 1) := by decide +kernel
theorem dL_law_706 : decode cL_law 706 = .ok (.aload_n 0, 1) := by decide +kernel
theorem dL_law_707 : decode cL_law 707 = .ok (.iload_n 3, 1) := by decide +kernel
theorem dL_law_708 : decode cL_law 708 = .ok (.iconst 1, 1) := by decide +kernel
theorem dL_law_709 : decode cL_law 709 = .ok (.iadd, 1) := by decide +kernel
theorem dL_law_710 : decode cL_law 710 = .ok (.iaload, 1) := by decide +kernel
theorem dL_law_711 : decode cL_law 711 = .ok (.invokevirtual 102, 3) := by decide +kernel
theorem dL_law_714 : decode cL_law 714 = .ok (.aload_n 2, 1) := by decide +kernel
theorem dL_law_715 : decode cL_law 715 = .ok (.aload_n 0, 1) := by decide +kernel
theorem dL_law_716 : decode cL_law 716 = .ok (.iload_n 3, 1) := by decide +kernel
theorem dL_law_717 : decode cL_law 717 = .ok (.iconst 1, 1) := by decide +kernel
theorem dL_law_718 : decode cL_law 718 = .ok (.iadd, 1) := by decide +kernel
theorem dL_law_719 : decode cL_law 719 = .ok (.iaload, 1) := by decide +kernel
theorem dL_law_720 : decode cL_law 720 = .ok (.invokevirtual 105, 3) := by decide +kernel
theorem dL_law_723 : decode cL_law 723 = .ok (.if_icmp .eq 248, 3) := by decide +kernel
theorem dL_law_726 : decode cL_law 726 = .ok (.iconst 0, 1) := by decide +kernel
theorem dL_law_727 : decode cL_law 727 = .ok (.ireturn, 1) := by decide +kernel
theorem dL_law_728 : decode cL_law 728 = .ok (.aload_n 1, 1) := by decide +kernel
theorem dL_law_729 : decode cL_law 729 = .ok (.invokevirtual 106, 3) := by decide +kernel
theorem dL_law_732 : decode cL_law 732 = .ok (.aload_n 2, 1) := by decide +kernel
theorem dL_law_733 : decode cL_law 733 = .ok (.invokevirtual 109, 3) := by decide +kernel
theorem dL_law_736 : decode cL_law 736 = .ok (.if_icmp .eq 235, 3) := by decide +kernel
theorem dL_law_739 : decode cL_law 739 = .ok (.iconst 0, 1) := by decide +kernel
theorem dL_law_740 : decode cL_law 740 = .ok (.ireturn, 1) := by decide +kernel
theorem dL_law_741 : decode cL_law 741 = .ok (.aload_n 1, 1) := by decide +kernel
theorem dL_law_742 : decode cL_law 742 = .ok (.aload_n 0, 1) := by decide +kernel
theorem dL_law_743 : decode cL_law 743 = .ok (.iload_n 3, 1) := by decide +kernel
theorem dL_law_744 : decode cL_law 744 = .ok (.iconst 1, 1) := by decide +kernel
theorem dL_law_745 : decode cL_law 745 = .ok (.iadd, 1) := by decide +kernel
theorem dL_law_746 : decode cL_law 746 = .ok (.iaload, 1) := by decide +kernel
theorem dL_law_747 : decode cL_law 747 = .ok (.invokevirtual 110, 3) := by decide +kernel
theorem dL_law_750 : decode cL_law 750 = .ok (.aload_n 2, 1) := by decide +kernel
theorem dL_law_751 : decode cL_law 751 = .ok (.aload_n 0, 1) := by decide +kernel
theorem dL_law_752 : decode cL_law 752 = .ok (.iload_n 3, 1) := by decide +kernel
theorem dL_law_753 : decode cL_law 753 = .ok (.iconst 1, 1) := by decide +kernel
theorem dL_law_754 : decode cL_law 754 = .ok (.iadd, 1) := by decide +kernel
theorem dL_law_755 : decode cL_law 755 = .ok (.iaload, 1) := by decide +kernel
theorem dL_law_756 : decode cL_law 756 = .ok (.invokevirtual 113, 3) := by decide +kernel
theorem dL_law_759 : decode cL_law 759 = .ok (.if_icmp .eq 212, 3) := by decide +kernel
theorem dL_law_762 : decode cL_law 762 = .ok (.iconst 0, 1) := by decide +kernel
theorem dL_law_763 : decode cL_law 763 = .ok (.ireturn, 1) := by decide +kernel
theorem dL_law_764 : decode cL_law 764 = .ok (.aload_n 1, 1) := by decide +kernel
theorem dL_law_765 : decode cL_law 765 = .ok (.aload_n 0, 1) := by decide +kernel
theorem dL_law_766 : decode cL_law 766 = .ok (.iload_n 3, 1) := by decide +kernel
theorem dL_law_767 : decode cL_law 767 = .ok (.iconst 1, 1) := by decide +kernel
theorem dL_law_768 : decode cL_law 768 = .ok (.iadd, 1) := by decide +kernel
theorem dL_law_769 : decode cL_law 769 = .ok (.iaload, 1) := by decide +kernel
theorem dL_law_770 : decode cL_law 770 = .ok (.invokevirtual 114, 3) := by decide +kernel
theorem dL_law_773 : decode cL_law 773 = .ok (.aload_n 2, 1) := by decide +kernel
theorem dL_law_774 : decode cL_law 774 = .ok (.aload_n 0, 1) := by decide +kernel
theorem dL_law_775 : decode cL_law 775 = .ok (.iload_n 3, 1) := by decide +kernel
theorem dL_law_776 : decode cL_law 776 = .ok (.iconst 1, 1) := by decide +kernel
theorem dL_law_777 : decode cL_law 777 = .ok (.iadd, 1) := by decide +kernel
theorem dL_law_778 : decode cL_law 778 = .ok (.iaload, 1) := by decide +kernel
theorem dL_law_779 : decode cL_law 779 = .ok (.invokevirtual 117, 3) := by decide +kernel
theorem dL_law_782 : decode cL_law 782 = .ok (.if_icmp .eq 189, 3) := by decide +kernel
theorem dL_law_785 : decode cL_law 785 = .ok (.iconst 0, 1) := by decide +kernel
theorem dL_law_786 : decode cL_law 786 = .ok (.ireturn, 1) := by decide +kernel
theorem dL_law_787 : decode cL_law 787 = .ok (.aload_n 1, 1) := by decide +kernel
theorem dL_law_788 : decode cL_law 788 = .ok (.invokevirtual 118, 3) := by decide +kernel
theorem dL_law_791 : decode cL_law 791 = .ok (.aload_n 2, 1) := by decide +kernel
theorem dL_law_792 : decode cL_law 792 = .ok (.invokevirtual 121, 3) := by decide +kernel
theorem dL_law_795 : decode cL_law 795 = .ok (.if_icmp .eq 176, 3) := by decide +kernel
theorem dL_law_798 : decode cL_law 798 = .ok (.iconst 0, 1) := by decide +kernel
theorem dL_law_799 : decode cL_law 799 = .ok (.ireturn, 1) := by decide +kernel
theorem dL_law_800 : decode cL_law 800 = .ok (.aload_n 1, 1) := by decide +kernel
theorem dL_law_801 : decode cL_law 801 = .ok (.aload_n 0, 1) := by decide +kernel
theorem dL_law_802 : decode cL_law 802 = .ok (.iload_n 3, 1) := by decide +kernel
theorem dL_law_803 : decode cL_law 803 = .ok (.iconst 1, 1) := by decide +kernel
theorem dL_law_804 : decode cL_law 804 = .ok (.iadd, 1) := by decide +kernel
theorem dL_law_805 : decode cL_law 805 = .ok (.iaload, 1) := by decide +kernel
theorem dL_law_806 : decode cL_law 806 = .ok (.aload_n 0, 1) := by decide +kernel
theorem dL_law_807 : decode cL_law 807 = .ok (.iload_n 3, 1) := by decide +kernel
theorem dL_law_808 : decode cL_law 808 = .ok (.iconst 2, 1) := by decide +kernel
theorem dL_law_809 : decode cL_law 809 = .ok (.iadd, 1) := by decide +kernel
theorem dL_law_810 : decode cL_law 810 = .ok (.iaload, 1) := by decide +kernel
theorem dL_law_811 : decode cL_law 811 = .ok (.aload_n 0, 1) := by decide +kernel
theorem dL_law_812 : decode cL_law 812 = .ok (.iload_n 3, 1) := by decide +kernel
theorem dL_law_813 : decode cL_law 813 = .ok (.iconst 3, 1) := by decide +kernel
theorem dL_law_814 : decode cL_law 814 = .ok (.iadd, 1) := by decide +kernel
theorem dL_law_815 : decode cL_law 815 = .ok (.iaload, 1) := by decide +kernel
theorem dL_law_816 : decode cL_law 816 = .ok (.aload_n 0, 1) := by decide +kernel
theorem dL_law_817 : decode cL_law 817 = .ok (.iload_n 3, 1) := by decide +kernel
theorem dL_law_818 : decode cL_law 818 = .ok (.iconst 4, 1) := by decide +kernel
theorem dL_law_819 : decode cL_law 819 = .ok (.iadd, 1) := by decide +kernel
theorem dL_law_820 : decode cL_law 820 = .ok (.iaload, 1) := by decide +kernel
theorem dL_law_821 : decode cL_law 821 = .ok (.invokevirtual 122, 3) := by decide +kernel
theorem dL_law_824 : decode cL_law 824 = .ok (.aload_n 2, 1) := by decide +kernel
theorem dL_law_825 : decode cL_law 825 = .ok (.aload_n 0, 1) := by decide +kernel
theorem dL_law_826 : decode cL_law 826 = .ok (.iload_n 3, 1) := by decide +kernel
theorem dL_law_827 : decode cL_law 827 = .ok (.iconst 1, 1) := by decide +kernel
theorem dL_law_828 : decode cL_law 828 = .ok (.iadd, 1) := by decide +kernel
theorem dL_law_829 : decode cL_law 829 = .ok (.iaload, 1) := by decide +kernel
theorem dL_law_830 : decode cL_law 830 = .ok (.aload_n 0, 1) := by decide +kernel
theorem dL_law_831 : decode cL_law 831 = .ok (.iload_n 3, 1) := by decide +kernel
theorem dL_law_832 : decode cL_law 832 = .ok (.iconst 2, 1) := by decide +kernel
theorem dL_law_833 : decode cL_law 833 = .ok (.iadd, 1) := by decide +kernel
theorem dL_law_834 : decode cL_law 834 = .ok (.iaload, 1) := by decide +kernel
theorem dL_law_835 : decode cL_law 835 = .ok (.aload_n 0, 1) := by decide +kernel
theorem dL_law_836 : decode cL_law 836 = .ok (.iload_n 3, 1) := by decide +kernel
theorem dL_law_837 : decode cL_law 837 = .ok (.iconst 3, 1) := by decide +kernel
theorem dL_law_838 : decode cL_law 838 = .ok (.iadd, 1) := by decide +kernel
theorem dL_law_839 : decode cL_law 839 = .ok (.iaload, 1) := by decide +kernel
theorem dL_law_840 : decode cL_law 840 = .ok (.aload_n 0, 1) := by decide +kernel
theorem dL_law_841 : decode cL_law 841 = .ok (.iload_n 3, 1) := by decide +kernel
theorem dL_law_842 : decode cL_law 842 = .ok (.iconst 4, 1) := by decide +kernel
theorem dL_law_843 : decode cL_law 843 = .ok (.iadd, 1) := by decide +kernel
theorem dL_law_844 : decode cL_law 844 = .ok (.iaload, 1) := by decide +kernel
theorem dL_law_845 : decode cL_law 845 = .ok (.invokevirtual 125, 3) := by decide +kernel
theorem dL_law_848 : decode cL_law 848 = .ok (.if_icmp .eq 123, 3) := by decide +kernel
theorem dL_law_851 : decode cL_law 851 = .ok (.iconst 0, 1) := by decide +kernel
theorem dL_law_852 : decode cL_law 852 = .ok (.ireturn, 1) := by decide +kernel
theorem dL_law_853 : decode cL_law 853 = .ok (.aload_n 1, 1) := by decide +kernel
theorem dL_law_854 : decode cL_law 854 = .ok (.aload_n 0, 1) := by decide +kernel
theorem dL_law_855 : decode cL_law 855 = .ok (.iload_n 3, 1) := by decide +kernel
theorem dL_law_856 : decode cL_law 856 = .ok (.iconst 1, 1) := by decide +kernel
theorem dL_law_857 : decode cL_law 857 = .ok (.iadd, 1) := by decide +kernel
theorem dL_law_858 : decode cL_law 858 = .ok (.iaload, 1) := by decide +kernel
theorem dL_law_859 : decode cL_law 859 = .ok (.invokevirtual 126, 3) := by decide +kernel
theorem dL_law_862 : decode cL_law 862 = .ok (.aload_n 2, 1) := by decide +kernel
theorem dL_law_863 : decode cL_law 863 = .ok (.aload_n 0, 1) := by decide +kernel
theorem dL_law_864 : decode cL_law 864 = .ok (.iload_n 3, 1) := by decide +kernel
theorem dL_law_865 : decode cL_law 865 = .ok (.iconst 1, 1) := by decide +kernel
theorem dL_law_866 : decode cL_law 866 = .ok (.iadd, 1) := by decide +kernel
theorem dL_law_867 : decode cL_law 867 = .ok (.iaload, 1) := by decide +kernel
theorem dL_law_868 : decode cL_law 868 = .ok (.invokevirtual 129, 3) := by decide +kernel
theorem dL_law_871 : decode cL_law 871 = .ok (.if_icmp .eq 100, 3) := by decide +kernel
theorem dL_law_874 : decode cL_law 874 = .ok (.iconst 0, 1) := by decide +kernel
theorem dL_law_875 : decode cL_law 875 = .ok (.ireturn, 1) := by decide +kernel
theorem dL_law_876 : decode cL_law 876 = .ok (.aload_n 1, 1) := by decide +kernel
theorem dL_law_877 : decode cL_law 877 = .ok (.aload_n 0, 1) := by decide +kernel
theorem dL_law_878 : decode cL_law 878 = .ok (.iload_n 3, 1) := by decide +kernel
theorem dL_law_879 : decode cL_law 879 = .ok (.iconst 1, 1) := by decide +kernel
theorem dL_law_880 : decode cL_law 880 = .ok (.iadd, 1) := by decide +kernel
theorem dL_law_881 : decode cL_law 881 = .ok (.iaload, 1) := by decide +kernel
theorem dL_law_882 : decode cL_law 882 = .ok (.invokevirtual 130, 3) := by decide +kernel
theorem dL_law_885 : decode cL_law 885 = .ok (.aload_n 2, 1) := by decide +kernel
theorem dL_law_886 : decode cL_law 886 = .ok (.aload_n 0, 1) := by decide +kernel
theorem dL_law_887 : decode cL_law 887 = .ok (.iload_n 3, 1) := by decide +kernel
theorem dL_law_888 : decode cL_law 888 = .ok (.iconst 1, 1) := by decide +kernel
theorem dL_law_889 : decode cL_law 889 = .ok (.iadd, 1) := by decide +kernel
theorem dL_law_890 : decode cL_law 890 = .ok (.iaload, 1) := by decide +kernel
theorem dL_law_891 : decode cL_law 891 = .ok (.invokevirtual 133, 3) := by decide +kernel
theorem dL_law_894 : decode cL_law 894 = .ok (.if_icmp .eq 77, 3) := by decide +kernel
theorem dL_law_897 : decode cL_law 897 = .ok (.iconst 0, 1) := by decide +kernel
theorem dL_law_898 : decode cL_law 898 = .ok (.ireturn, 1) := by decide +kernel
theorem dL_law_899 : decode cL_law 899 = .ok (.aload_n 1, 1) := by decide +kernel
theorem dL_law_900 : decode cL_law 900 = .ok (.invokevirtual 134, 3) := by decide +kernel
theorem dL_law_903 : decode cL_law 903 = .ok (.aload_n 2, 1) := by decide +kernel
theorem dL_law_904 : decode cL_law 904 = .ok (.invokevirtual 137, 3) := by decide +kernel
theorem dL_law_907 : decode cL_law 907 = .ok (.if_icmp .eq 64, 3) := by decide +kernel
theorem dL_law_910 : decode cL_law 910 = .ok (.iconst 0, 1) := by decide +kernel
theorem dL_law_911 : decode cL_law 911 = .ok (.ireturn, 1) := by decide +kernel
theorem dL_law_912 : decode cL_law 912 = .ok (.aload_n 1, 1) := by decide +kernel
theorem dL_law_913 : decode cL_law 913 = .ok (.invokevirtual 138, 3) := by decide +kernel
theorem dL_law_916 : decode cL_law 916 = .ok (.aload_n 2, 1) := by decide +kernel
theorem dL_law_917 : decode cL_law 917 = .ok (.invokevirtual 141, 3) := by decide +kernel
theorem dL_law_920 : decode cL_law 920 = .ok (.if_icmp .eq 51, 3) := by decide +kernel
theorem dL_law_923 : decode cL_law 923 = .ok (.iconst 0, 1) := by decide +kernel
theorem dL_law_924 : decode cL_law 924 = .ok (.ireturn, 1) := by decide +kernel
theorem dL_law_925 : decode cL_law 925 = .ok (.aload_n 1, 1) := by decide +kernel
theorem dL_law_926 : decode cL_law 926 = .ok (.aload_n 0, 1) := by decide +kernel
theorem dL_law_927 : decode cL_law 927 = .ok (.iload_n 3, 1) := by decide +kernel
theorem dL_law_928 : decode cL_law 928 = .ok (.iconst 1, 1) := by decide +kernel
theorem dL_law_929 : decode cL_law 929 = .ok (.iadd, 1) := by decide +kernel
theorem dL_law_930 : decode cL_law 930 = .ok (.iaload, 1) := by decide +kernel
theorem dL_law_931 : decode cL_law 931 = .ok (.invokevirtual 142, 3) := by decide +kernel
theorem dL_law_934 : decode cL_law 934 = .ok (.aload_n 2, 1) := by decide +kernel
theorem dL_law_935 : decode cL_law 935 = .ok (.aload_n 0, 1) := by decide +kernel
theorem dL_law_936 : decode cL_law 936 = .ok (.iload_n 3, 1) := by decide +kernel
theorem dL_law_937 : decode cL_law 937 = .ok (.iconst 1, 1) := by decide +kernel
theorem dL_law_938 : decode cL_law 938 = .ok (.iadd, 1) := by decide +kernel
theorem dL_law_939 : decode cL_law 939 = .ok (.iaload, 1) := by decide +kernel
theorem dL_law_940 : decode cL_law 940 = .ok (.invokevirtual 145, 3) := by decide +kernel
theorem dL_law_943 : decode cL_law 943 = .ok (.if_icmp .eq 28, 3) := by decide +kernel
theorem dL_law_946 : decode cL_law 946 = .ok (.iconst 0, 1) := by decide +kernel
theorem dL_law_947 : decode cL_law 947 = .ok (.ireturn, 1) := by decide +kernel
theorem dL_law_948 : decode cL_law 948 = .ok (.aload_n 1, 1) := by decide +kernel
theorem dL_law_949 : decode cL_law 949 = .ok (.aload_n 0, 1) := by decide +kernel
theorem dL_law_950 : decode cL_law 950 = .ok (.iload_n 3, 1) := by decide +kernel
theorem dL_law_951 : decode cL_law 951 = .ok (.iconst 1, 1) := by decide +kernel
theorem dL_law_952 : decode cL_law 952 = .ok (.iadd, 1) := by decide +kernel
theorem dL_law_953 : decode cL_law 953 = .ok (.iaload, 1) := by decide +kernel
theorem dL_law_954 : decode cL_law 954 = .ok (.invokevirtual 146, 3) := by decide +kernel
theorem dL_law_957 : decode cL_law 957 = .ok (.aload_n 2, 1) := by decide +kernel
theorem dL_law_958 : decode cL_law 958 = .ok (.aload_n 0, 1) := by decide +kernel
theorem dL_law_959 : decode cL_law 959 = .ok (.iload_n 3, 1) := by decide +kernel
theorem dL_law_960 : decode cL_law 960 = .ok (.iconst 1, 1) := by decide +kernel
theorem dL_law_961 : decode cL_law 961 = .ok (.iadd, 1) := by decide +kernel
theorem dL_law_962 : decode cL_law 962 = .ok (.iaload, 1) := by decide +kernel
theorem dL_law_963 : decode cL_law 963 = .ok (.invokevirtual 149, 3) := by decide +kernel
theorem dL_law_966 : decode cL_law 966 = .ok (.if_icmp .eq 5, 3) := by decide +kernel
theorem dL_law_969 : decode cL_law 969 = .ok (.iconst 0, 1) := by decide +kernel
theorem dL_law_970 : decode cL_law 970 = .ok (.ireturn, 1) := by decide +kernel
theorem dL_law_971 : decode cL_law 971 = .ok (.iinc 3 5, 3) := by decide +kernel
theorem dL_law_974 : decode cL_law 974 = .ok (.goto (-956), 3) := by decide +kernel
theorem dL_law_977 : decode cL_law 977 = .ok (.iconst 1, 1) := by decide +kernel
theorem dL_law_978 : decode cL_law 978 = .ok (.ireturn, 1) := by decide +kernel
theorem dX0_init_0 : decode cX0_init 0 = .ok (.aload_n 0, 1) := by decide +kernel
theorem dX0_init_1 : decode cX0_init 1 = .ok (.invokespecial 3, 3) := by decide +kernel
theorem dX0_init_4 : decode cX0_init 4 = .ok (.aload_n 0, 1) := by decide +kernel
theorem dX0_init_5 : decode cX0_init 5 = .ok (.bipush 20, 2) := by decide +kernel
theorem dX0_init_7 : decode cX0_init 7 = .ok (.newarray .int, 2) := by decide +kernel
theorem dX0_init_9 : decode cX0_init 9 = .ok (.putfield 9, 3) := by decide +kernel
theorem dX0_init_12 : decode cX0_init 12 = .ok (.aload_n 0, 1) := by decide +kernel
theorem dX0_init_13 : decode cX0_init 13 = .ok (.bipush 20, 2) := by decide +kernel
theorem dX0_init_15 : decode cX0_init 15 = .ok (.newarray .int, 2) := by decide +kernel
theorem dX0_init_17 : decode cX0_init 17 = .ok (.putfield 15, 3) := by decide +kernel
theorem dX0_init_20 : decode cX0_init 20 = .ok (.aload_n 0, 1) := by decide +kernel
theorem dX0_init_21 : decode cX0_init 21 = .ok (.sipush 256, 3) := by decide +kernel
theorem dX0_init_24 : decode cX0_init 24 = .ok (.newarray .long, 2) := by decide +kernel
theorem dX0_init_26 : decode cX0_init 26 = .ok (.putfield 18, 3) := by decide +kernel
theorem dX0_init_29 : decode cX0_init 29 = .ok (.aload_n 0, 1) := by decide +kernel
theorem dX0_init_30 : decode cX0_init 30 = .ok (.sipush 256, 3) := by decide +kernel
theorem dX0_init_33 : decode cX0_init 33 = .ok (.newarray .int, 2) := by decide +kernel
theorem dX0_init_35 : decode cX0_init 35 = .ok (.putfield 22, 3) := by decide +kernel
theorem dX0_init_38 : decode cX0_init 38 = .ok (.aload_n 0, 1) := by decide +kernel
theorem dX0_init_39 : decode cX0_init 39 = .ok (.iconst 0, 1) := by decide +kernel
theorem dX0_init_40 : decode cX0_init 40 = .ok (.putfield 25, 3) := by decide +kernel
theorem dX0_init_43 : decode cX0_init 43 = .ok (.aload_n 0, 1) := by decide +kernel
theorem dX0_init_44 : decode cX0_init 44 = .ok (.iconst 1, 1) := by decide +kernel
theorem dX0_init_45 : decode cX0_init 45 = .ok (.putfield 29, 3) := by decide +kernel
theorem dX0_init_48 : decode cX0_init 48 = .ok (.aload_n 0, 1) := by decide +kernel
theorem dX0_init_49 : decode cX0_init 49 = .ok (.iconst (-1), 1) := by decide +kernel
theorem dX0_init_50 : decode cX0_init 50 = .ok (.putfield 32, 3) := by decide +kernel
theorem dX0_init_53 : decode cX0_init 53 = .ok (.aload_n 0, 1) := by decide +kernel
theorem dX0_init_54 : decode cX0_init 54 = .ok (.iconst 4, 1) := by decide +kernel
theorem dX0_init_55 : decode cX0_init 55 = .ok (.putfield 35, 3) := by decide +kernel
theorem dX0_init_58 : decode cX0_init 58 = .ok (.return_, 1) := by decide +kernel
theorem dX0_clear_0 : decode cX0_clear 0 = .ok (.aload_n 0, 1) := by decide +kernel
theorem dX0_clear_1 : decode cX0_clear 1 = .ok (.iconst 0, 1) := by decide +kernel
theorem dX0_clear_2 : decode cX0_clear 2 = .ok (.putfield 25, 3) := by decide +kernel
theorem dX0_clear_5 : decode cX0_clear 5 = .ok (.aload_n 0, 1) := by decide +kernel
theorem dX0_clear_6 : decode cX0_clear 6 = .ok (.iconst 1, 1) := by decide +kernel
theorem dX0_clear_7 : decode cX0_clear 7 = .ok (.putfield 29, 3) := by decide +kernel
theorem dX0_clear_10 : decode cX0_clear 10 = .ok (.aload_n 0, 1) := by decide +kernel
theorem dX0_clear_11 : decode cX0_clear 11 = .ok (.invokevirtual 38, 3) := by decide +kernel
theorem dX0_clear_14 : decode cX0_clear 14 = .ok (.return_, 1) := by decide +kernel
theorem dX0_hasGoal_0 : decode cX0_hasGoal 0 = .ok (.aload_n 0, 1) := by decide +kernel
theorem dX0_hasGoal_1 : decode cX0_hasGoal 1 = .ok (.getfield 32, 3) := by decide +kernel
theorem dX0_hasGoal_4 : decode cX0_hasGoal 4 = .ok (.iconst (-1), 1) := by decide +kernel
theorem dX0_hasGoal_5 : decode cX0_hasGoal 5 = .ok (.if_icmp .eq 7, 3) := by decide +kernel
theorem dX0_hasGoal_8 : decode cX0_hasGoal 8 = .ok (.iconst 1, 1) := by decide +kernel
theorem dX0_hasGoal_9 : decode cX0_hasGoal 9 = .ok (.goto 4, 3) := by decide +kernel
theorem dX0_hasGoal_12 : decode cX0_hasGoal 12 = .ok (.iconst 0, 1) := by decide +kernel
theorem dX0_hasGoal_13 : decode cX0_hasGoal 13 = .ok (.ireturn, 1) := by decide +kernel
theorem dX0_aimAt_0 : decode cX0_aimAt 0 = .ok (.aload_n 0, 1) := by decide +kernel
theorem dX0_aimAt_1 : decode cX0_aimAt 1 = .ok (.iload_n 1, 1) := by decide +kernel
theorem dX0_aimAt_2 : decode cX0_aimAt 2 = .ok (.putfield 32, 3) := by decide +kernel
theorem dX0_aimAt_5 : decode cX0_aimAt 5 = .ok (.aload_n 0, 1) := by decide +kernel
theorem dX0_aimAt_6 : decode cX0_aimAt 6 = .ok (.iload_n 2, 1) := by decide +kernel
theorem dX0_aimAt_7 : decode cX0_aimAt 7 = .ok (.putfield 35, 3) := by decide +kernel
theorem dX0_aimAt_10 : decode cX0_aimAt 10 = .ok (.return_, 1) := by decide +kernel
theorem dX0_dropGoal_0 : decode cX0_dropGoal 0 = .ok (.aload_n 0, 1) := by decide +kernel
theorem dX0_dropGoal_1 : decode cX0_dropGoal 1 = .ok (.iconst (-1), 1) := by decide +kernel
theorem dX0_dropGoal_2 : decode cX0_dropGoal 2 = .ok (.putfield 32, 3) := by decide +kernel
theorem dX0_dropGoal_5 : decode cX0_dropGoal 5 = .ok (.aload_n 0, 1) := by decide +kernel
theorem dX0_dropGoal_6 : decode cX0_dropGoal 6 = .ok (.iconst 4, 1) := by decide +kernel
theorem dX0_dropGoal_7 : decode cX0_dropGoal 7 = .ok (.putfield 35, 3) := by decide +kernel
theorem dX0_dropGoal_10 : decode cX0_dropGoal 10 = .ok (.aload_n 0, 1) := by decide +kernel
theorem dX0_dropGoal_11 : decode cX0_dropGoal 11 = .ok (.getfield 22, 3) := by decide +kernel
theorem dX0_dropGoal_14 : decode cX0_dropGoal 14 = .ok (.iconst 0, 1) := by decide +kernel
theorem dX0_dropGoal_15 : decode cX0_dropGoal 15 = .ok (.invokestatic 41, 3) := by decide +kernel
theorem dX0_dropGoal_18 : decode cX0_dropGoal 18 = .ok (.return_, 1) := by decide +kernel
theorem dX0_goalProperty_0 : decode cX0_goalProperty 0 = .ok (.aload_n 0, 1) := by decide +kernel
theorem dX0_goalProperty_1 : decode cX0_goalProperty 1 = .ok (.invokevirtual 47, 3) := by decide +kernel
theorem dX0_goalProperty_4 : decode cX0_goalProperty 4 = .ok (.ifCond .ne 6, 3) := by decide +kernel
theorem dX0_goalProperty_7 : decode cX0_goalProperty 7 = .ok (.bipush (-7), 2) := by decide +kernel
theorem dX0_goalProperty_9 : decode cX0_goalProperty 9 = .ok (.ireturn, 1) := by decide +kernel
theorem dX0_goalProperty_10 : decode cX0_goalProperty 10 = .ok (.iload_n 1, 1) := by decide +kernel
theorem dX0_goalProperty_11 : decode cX0_goalProperty 11 = .ok (.iconst 2, 1) := by decide +kernel
theorem dX0_goalProperty_12 : decode cX0_goalProperty 12 = .ok (.if_icmp .ne 8, 3) := by decide +kernel
theorem dX0_goalProperty_15 : decode cX0_goalProperty 15 = .ok (.aload_n 0, 1) := by decide +kernel
theorem dX0_goalProperty_16 : decode cX0_goalProperty 16 = .ok (.getfield 35, 3) := by decide +kernel
theorem dX0_goalProperty_19 : decode cX0_goalProperty 19 = .ok (.ireturn, 1) := by decide +kernel
theorem dX0_goalProperty_20 : decode cX0_goalProperty 20 = .ok (.iload_n 1, 1) := by decide +kernel
theorem dX0_goalProperty_21 : decode cX0_goalProperty 21 = .ok (.ifCond .ne 13, 3) := by decide +kernel
theorem dX0_goalProperty_24 : decode cX0_goalProperty 24 = .ok (.aload_n 0, 1) := by decide +kernel
theorem dX0_goalProperty_25 : decode cX0_goalProperty 25 = .ok (.getfield 32, 3) := by decide +kernel
theorem dX0_goalProperty_28 : decode cX0_goalProperty 28 = .ok (.invokestatic 51, 3) := by decide +kernel
theorem dX0_goalProperty_31 : decode cX0_goalProperty 31 = .ok (.goto 10, 3) := by decide +kernel
theorem dX0_goalProperty_34 : decode cX0_goalProperty 34 = .ok (.aload_n 0, 1) := by decide +kernel
theorem dX0_goalProperty_35 : decode cX0_goalProperty 35 = .ok (.getfield 32, 3) := by decide +kernel
theorem dX0_goalProperty_38 : decode cX0_goalProperty 38 = .ok (.invokestatic 55, 3) := by decide +kernel
theorem dX0_goalProperty_41 : decode cX0_goalProperty 41 = .ok (.ireturn, 1) := by decide +kernel
theorem dX0_fits_0 : decode cX0_fits 0 = .ok (.aload_n 0, 1) := by decide +kernel
theorem dX0_fits_1 : decode cX0_fits 1 = .ok (.getfield 18, 3) := by decide +kernel
theorem dX0_fits_4 : decode cX0_fits 4 = .ok (.iload_n 1, 1) := by decide +kernel
theorem dX0_fits_5 : decode cX0_fits 5 = .ok (.laload, 1) := by decide +kernel
theorem dX0_fits_6 : decode cX0_fits 6 = .ok (.lconst 0, 1) := by decide +kernel
theorem dX0_fits_7 : decode cX0_fits 7 = .ok (.lcmp, 1) := by decide +kernel
theorem dX0_fits_8 : decode cX0_fits 8 = .ok (.ifCond .eq 7, 3) := by decide +kernel
theorem dX0_fits_11 : decode cX0_fits 11 = .ok (.iconst 1, 1) := by decide +kernel
theorem dX0_fits_12 : decode cX0_fits 12 = .ok (.goto 4, 3) := by decide +kernel
theorem dX0_fits_15 : decode cX0_fits 15 = .ok (.iconst 0, 1) := by decide +kernel
theorem dX0_fits_16 : decode cX0_fits 16 = .ok (.ireturn, 1) := by decide +kernel
theorem dX0_addCell_0 : decode cX0_addCell 0 = .ok (.aload_n 0, 1) := by decide +kernel
theorem dX0_addCell_1 : decode cX0_addCell 1 = .ok (.getfield 25, 3) := by decide +kernel
theorem dX0_addCell_4 : decode cX0_addCell 4 = .ok (.iconst 5, 1) := by decide +kernel
theorem dX0_addCell_5 : decode cX0_addCell 5 = .ok (.if_icmp .lt 4, 3) := by decide +kernel
theorem dX0_addCell_8 : decode cX0_addCell 8 = .ok (.return_, 1) := by decide +kernel
theorem dX0_addCell_9 : decode cX0_addCell 9 = .ok (.iload_n 1, 1) := by decide +kernel
theorem dX0_addCell_10 : decode cX0_addCell 10 = .ok (.istore_n 3, 1) := by decide +kernel
theorem dX0_addCell_11 : decode cX0_addCell 11 = .ok (.iload_n 2, 1) := by decide +kernel
theorem dX0_addCell_12 : decode cX0_addCell 12 = .ok (.istore 4, 2) := by decide +kernel
theorem dX0_addCell_14 : decode cX0_addCell 14 = .ok (.iconst 0, 1) := by decide +kernel
theorem dX0_addCell_15 : decode cX0_addCell 15 = .ok (.istore 5, 2) := by decide +kernel
theorem dX0_addCell_17 : decode cX0_addCell 17 = .ok (.iload 5, 2) := by decide +kernel
theorem dX0_addCell_19 : decode cX0_addCell 19 = .ok (.iconst 4, 1) := by decide +kernel
theorem dX0_addCell_20 : decode cX0_addCell 20 = .ok (.if_icmp .ge 51, 3) := by decide +kernel
theorem dX0_addCell_23 : decode cX0_addCell 23 = .ok (.aload_n 0, 1) := by decide +kernel
theorem dX0_addCell_24 : decode cX0_addCell 24 = .ok (.getfield 9, 3) := by decide +kernel
theorem dX0_addCell_27 : decode cX0_addCell 27 = .ok (.iconst 5, 1) := by decide +kernel
theorem dX0_addCell_28 : decode cX0_addCell 28 = .ok (.iload 5, 2) := by decide +kernel
theorem dX0_addCell_30 : decode cX0_addCell 30 = .ok (.imul, 1) := by decide +kernel
theorem dX0_addCell_31 : decode cX0_addCell 31 = .ok (.aload_n 0, 1) := by decide +kernel
theorem dX0_addCell_32 : decode cX0_addCell 32 = .ok (.getfield 25, 3) := by decide +kernel
theorem dX0_addCell_35 : decode cX0_addCell 35 = .ok (.iadd, 1) := by decide +kernel
theorem dX0_addCell_36 : decode cX0_addCell 36 = .ok (.iload_n 3, 1) := by decide +kernel
theorem dX0_addCell_37 : decode cX0_addCell 37 = .ok (.iastore, 1) := by decide +kernel
theorem dX0_addCell_38 : decode cX0_addCell 38 = .ok (.aload_n 0, 1) := by decide +kernel
theorem dX0_addCell_39 : decode cX0_addCell 39 = .ok (.getfield 15, 3) := by decide +kernel
theorem dX0_addCell_42 : decode cX0_addCell 42 = .ok (.iconst 5, 1) := by decide +kernel
theorem dX0_addCell_43 : decode cX0_addCell 43 = .ok (.iload 5, 2) := by decide +kernel
theorem dX0_addCell_45 : decode cX0_addCell 45 = .ok (.imul, 1) := by decide +kernel
theorem dX0_addCell_46 : decode cX0_addCell 46 = .ok (.aload_n 0, 1) := by decide +kernel
theorem dX0_addCell_47 : decode cX0_addCell 47 = .ok (.getfield 25, 3) := by decide +kernel
theorem dX0_addCell_50 : decode cX0_addCell 50 = .ok (.iadd, 1) := by decide +kernel
theorem dX0_addCell_51 : decode cX0_addCell 51 = .ok (.iload 4, 2) := by decide +kernel
theorem dX0_addCell_53 : decode cX0_addCell 53 = .ok (.iastore, 1) := by decide +kernel
theorem dX0_addCell_54 : decode cX0_addCell 54 = .ok (.iload 4, 2) := by decide +kernel
theorem dX0_addCell_56 : decode cX0_addCell 56 = .ok (.ineg, 1) := by decide +kernel
theorem dX0_addCell_57 : decode cX0_addCell 57 = .ok (.istore 6, 2) := by decide +kernel
theorem dX0_addCell_59 : decode cX0_addCell 59 = .ok (.iload_n 3, 1) := by decide +kernel
theorem dX0_addCell_60 : decode cX0_addCell 60 = .ok (.istore 4, 2) := by decide +kernel
theorem dX0_addCell_62 : decode cX0_addCell 62 = .ok (.iload 6, 2) := by decide +kernel
theorem dX0_addCell_64 : decode cX0_addCell 64 = .ok (.istore_n 3, 1) := by decide +kernel
theorem dX0_addCell_65 : decode cX0_addCell 65 = .ok (.iinc 5 1, 3) := by decide +kernel
theorem dX0_addCell_68 : decode cX0_addCell 68 = .ok (.goto (-51), 3) := by decide +kernel
theorem dX0_addCell_71 : decode cX0_addCell 71 = .ok (.aload_n 0, 1) := by decide +kernel
theorem dX0_addCell_72 : decode cX0_addCell 72 = .ok (.dup, 1) := by decide +kernel
theorem dX0_addCell_73 : decode cX0_addCell 73 = .ok (.getfield 25, 3) := by decide +kernel
theorem dX0_addCell_76 : decode cX0_addCell 76 = .ok (.iconst 1, 1) := by decide +kernel
theorem dX0_addCell_77 : decode cX0_addCell 77 = .ok (.iadd, 1) := by decide +kernel
theorem dX0_addCell_78 : decode cX0_addCell 78 = .ok (.putfield 25, 3) := by decide +kernel
theorem dX0_addCell_81 : decode cX0_addCell 81 = .ok (.return_, 1) := by decide +kernel
theorem dX0_findPlacements_0 : decode cX0_findPlacements 0 = .ok (.iconst 0, 1) := by decide +kernel
theorem dX0_findPlacements_1 : decode cX0_findPlacements 1 = .ok (.istore_n 2, 1) := by decide +kernel
theorem dX0_findPlacements_2 : decode cX0_findPlacements 2 = .ok (.iload_n 2, 1) := by decide +kernel
theorem dX0_findPlacements_3 : decode cX0_findPlacements 3 = .ok (.sipush 256, 3) := by decide +kernel
theorem dX0_findPlacements_6 : decode cX0_findPlacements 6 = .ok (.if_icmp .ge 21, 3) := by decide +kernel
theorem dX0_findPlacements_9 : decode cX0_findPlacements 9 = .ok (.aload_n 0, 1) := by decide +kernel
theorem dX0_findPlacements_10 : decode cX0_findPlacements 10 = .ok (.getfield 18, 3) := by decide +kernel
theorem dX0_findPlacements_13 : decode cX0_findPlacements 13 = .ok (.iload_n 2, 1) := by decide +kernel
theorem dX0_findPlacements_14 : decode cX0_findPlacements 14 = .ok (.aload_n 0, 1) := by decide +kernel
theorem dX0_findPlacements_15 : decode cX0_findPlacements 15 = .ok (.aload_n 1, 1) := by decide +kernel
theorem dX0_findPlacements_16 : decode cX0_findPlacements 16 = .ok (.iload_n 2, 1) := by decide +kernel
theorem dX0_findPlacements_17 : decode cX0_findPlacements 17 = .ok (.invokevirtual 58, 3) := by decide +kernel
theorem dX0_findPlacements_20 : decode cX0_findPlacements 20 = .ok (.lastore, 1) := by decide +kernel
theorem dX0_findPlacements_21 : decode cX0_findPlacements 21 = .ok (.iinc 2 1, 3) := by decide +kernel
theorem dX0_findPlacements_24 : decode cX0_findPlacements 24 = .ok (.goto (-22), 3) := by decide +kernel
theorem dX0_findPlacements_27 : decode cX0_findPlacements 27 = .ok (.return_, 1) := by decide +kernel
theorem dX0_cellsIn_0 : decode cX0_cellsIn 0 = .ok (.iconst 5, 1) := by decide +kernel
theorem dX0_cellsIn_1 : decode cX0_cellsIn 1 = .ok (.iload_n 2, 1) := by decide +kernel
theorem dX0_cellsIn_2 : decode cX0_cellsIn 2 = .ok (.invokestatic 62, 3) := by decide +kernel
theorem dX0_cellsIn_5 : decode cX0_cellsIn 5 = .ok (.imul, 1) := by decide +kernel
theorem dX0_cellsIn_6 : decode cX0_cellsIn 6 = .ok (.istore_n 3, 1) := by decide +kernel
theorem dX0_cellsIn_7 : decode cX0_cellsIn 7 = .ok (.lconst 0, 1) := by decide +kernel
theorem dX0_cellsIn_8 : decode cX0_cellsIn 8 = .ok (.lstore 4, 2) := by decide +kernel
theorem dX0_cellsIn_10 : decode cX0_cellsIn 10 = .ok (.iload_n 3, 1) := by decide +kernel
theorem dX0_cellsIn_11 : decode cX0_cellsIn 11 = .ok (.istore 6, 2) := by decide +kernel
theorem dX0_cellsIn_13 : decode cX0_cellsIn 13 = .ok (.iload 6, 2) := by decide +kernel
theorem dX0_cellsIn_15 : decode cX0_cellsIn 15 = .ok (.iload_n 3, 1) := by decide +kernel
theorem dX0_cellsIn_16 : decode cX0_cellsIn 16 = .ok (.aload_n 0, 1) := by decide +kernel
theorem dX0_cellsIn_17 : decode cX0_cellsIn 17 = .ok (.getfield 25, 3) := by decide +kernel
theorem dX0_cellsIn_20 : decode cX0_cellsIn 20 = .ok (.iadd, 1) := by decide +kernel
theorem dX0_cellsIn_21 : decode cX0_cellsIn 21 = .ok (.if_icmp .ge 67, 3) := by decide +kernel
theorem dX0_cellsIn_24 : decode cX0_cellsIn 24 = .ok (.aload_n 1, 1) := by decide +kernel
theorem dX0_cellsIn_25 : decode cX0_cellsIn 25 = .ok (.iload_n 2, 1) := by decide +kernel
theorem dX0_cellsIn_26 : decode cX0_cellsIn 26 = .ok (.invokestatic 51, 3) := by decide +kernel
theorem dX0_cellsIn_29 : decode cX0_cellsIn 29 = .ok (.aload_n 0, 1) := by decide +kernel
theorem dX0_cellsIn_30 : decode cX0_cellsIn 30 = .ok (.getfield 9, 3) := by decide +kernel
theorem dX0_cellsIn_33 : decode cX0_cellsIn 33 = .ok (.iload 6, 2) := by decide +kernel
theorem dX0_cellsIn_35 : decode cX0_cellsIn 35 = .ok (.iaload, 1) := by decide +kernel
theorem dX0_cellsIn_36 : decode cX0_cellsIn 36 = .ok (.iadd, 1) := by decide +kernel
theorem dX0_cellsIn_37 : decode cX0_cellsIn 37 = .ok (.iload_n 2, 1) := by decide +kernel
theorem dX0_cellsIn_38 : decode cX0_cellsIn 38 = .ok (.invokestatic 55, 3) := by decide +kernel
theorem dX0_cellsIn_41 : decode cX0_cellsIn 41 = .ok (.aload_n 0, 1) := by decide +kernel
theorem dX0_cellsIn_42 : decode cX0_cellsIn 42 = .ok (.getfield 15, 3) := by decide +kernel
theorem dX0_cellsIn_45 : decode cX0_cellsIn 45 = .ok (.iload 6, 2) := by decide +kernel
theorem dX0_cellsIn_47 : decode cX0_cellsIn 47 = .ok (.iaload, 1) := by decide +kernel
theorem dX0_cellsIn_48 : decode cX0_cellsIn 48 = .ok (.iadd, 1) := by decide +kernel
theorem dX0_cellsIn_49 : decode cX0_cellsIn 49 = .ok (.invokevirtual 65, 3) := by decide +kernel
theorem dX0_cellsIn_52 : decode cX0_cellsIn 52 = .ok (.istore 7, 2) := by decide +kernel
theorem dX0_cellsIn_54 : decode cX0_cellsIn 54 = .ok (.iload 7, 2) := by decide +kernel
theorem dX0_cellsIn_56 : decode cX0_cellsIn 56 = .ok (.ifCond .lt 15, 3) := by decide +kernel
theorem dX0_cellsIn_59 : decode cX0_cellsIn 59 = .ok (.aload_n 1, 1) := by decide +kernel
theorem dX0_cellsIn_60 : decode cX0_cellsIn 60 = .ok (.getfield 71, 3) := by decide +kernel
theorem dX0_cellsIn_63 : decode cX0_cellsIn 63 = .ok (.iload 7, 2) := by decide +kernel
theorem dX0_cellsIn_65 : decode cX0_cellsIn 65 = .ok (.invokestatic 75, 3) := by decide +kernel
theorem dX0_cellsIn_68 : decode cX0_cellsIn 68 = .ok (.ifCond .eq 5, 3) := by decide +kernel
theorem dX0_cellsIn_71 : decode cX0_cellsIn 71 = .ok (.lconst 0, 1) := by decide +kernel
theorem dX0_cellsIn_72 : decode cX0_cellsIn 72 = .ok (.lreturn, 1) := by decide +kernel
theorem dX0_cellsIn_73 : decode cX0_cellsIn 73 = .ok (.lload 4, 2) := by decide +kernel
theorem dX0_cellsIn_75 : decode cX0_cellsIn 75 = .ok (.lconst 1, 1) := by decide +kernel
theorem dX0_cellsIn_76 : decode cX0_cellsIn 76 = .ok (.iload 7, 2) := by decide +kernel
theorem dX0_cellsIn_78 : decode cX0_cellsIn 78 = .ok (.lshl, 1) := by decide +kernel
theorem dX0_cellsIn_79 : decode cX0_cellsIn 79 = .ok (.lor, 1) := by decide +kernel
theorem dX0_cellsIn_80 : decode cX0_cellsIn 80 = .ok (.lstore 4, 2) := by decide +kernel
theorem dX0_cellsIn_82 : decode cX0_cellsIn 82 = .ok (.iinc 6 1, 3) := by decide +kernel
theorem dX0_cellsIn_85 : decode cX0_cellsIn 85 = .ok (.goto (-72), 3) := by decide +kernel
theorem dX0_cellsIn_88 : decode cX0_cellsIn 88 = .ok (.lload 4, 2) := by decide +kernel
theorem dX0_cellsIn_90 : decode cX0_cellsIn 90 = .ok (.lreturn, 1) := by decide +kernel
theorem dX0_afterPush_0 : decode cX0_afterPush 0 = .ok (.aload_n 1, 1) := by decide +kernel
theorem dX0_afterPush_1 : decode cX0_afterPush 1 = .ok (.iload_n 2, 1) := by decide +kernel
theorem dX0_afterPush_2 : decode cX0_afterPush 2 = .ok (.iload_n 3, 1) := by decide +kernel
theorem dX0_afterPush_3 : decode cX0_afterPush 3 = .ok (.invokevirtual 79, 3) := by decide +kernel
theorem dX0_afterPush_6 : decode cX0_afterPush 6 = .ok (.istore 6, 2) := by decide +kernel
theorem dX0_afterPush_8 : decode cX0_afterPush 8 = .ok (.iload 6, 2) := by decide +kernel
theorem dX0_afterPush_10 : decode cX0_afterPush 10 = .ok (.ifCond .lt 12, 3) := by decide +kernel
theorem dX0_afterPush_13 : decode cX0_afterPush 13 = .ok (.aload_n 0, 1) := by decide +kernel
theorem dX0_afterPush_14 : decode cX0_afterPush 14 = .ok (.iload 6, 2) := by decide +kernel
theorem dX0_afterPush_16 : decode cX0_afterPush 16 = .ok (.invokevirtual 82, 3) := by decide +kernel
theorem dX0_afterPush_19 : decode cX0_afterPush 19 = .ok (.ifCond .ne 5, 3) := by decide +kernel
theorem dX0_afterPush_22 : decode cX0_afterPush 22 = .ok (.iconst (-1), 1) := by decide +kernel
theorem dX0_afterPush_23 : decode cX0_afterPush 23 = .ok (.ireturn, 1) := by decide +kernel
theorem dX0_afterPush_24 : decode cX0_afterPush 24 = .ok (.lload 4, 2) := by decide +kernel
theorem dX0_afterPush_26 : decode cX0_afterPush 26 = .ok (.aload_n 1, 1) := by decide +kernel
theorem dX0_afterPush_27 : decode cX0_afterPush 27 = .ok (.getfield 86, 3) := by decide +kernel
theorem dX0_afterPush_30 : decode cX0_afterPush 30 = .ok (.aload_n 1, 1) := by decide +kernel
theorem dX0_afterPush_31 : decode cX0_afterPush 31 = .ok (.getfield 89, 3) := by decide +kernel
theorem dX0_afterPush_34 : decode cX0_afterPush 34 = .ok (.iload_n 3, 1) := by decide +kernel
theorem dX0_afterPush_35 : decode cX0_afterPush 35 = .ok (.laload, 1) := by decide +kernel
theorem dX0_afterPush_36 : decode cX0_afterPush 36 = .ok (.ldc2_w 92, 3) := by decide +kernel
theorem dX0_afterPush_39 : decode cX0_afterPush 39 = .ok (.lxor, 1) := by decide +kernel
theorem dX0_afterPush_40 : decode cX0_afterPush 40 = .ok (.land, 1) := by decide +kernel
theorem dX0_afterPush_41 : decode cX0_afterPush 41 = .ok (.lor, 1) := by decide +kernel
theorem dX0_afterPush_42 : decode cX0_afterPush 42 = .ok (.lstore 7, 2) := by decide +kernel
theorem dX0_afterPush_44 : decode cX0_afterPush 44 = .ok (.aload_n 0, 1) := by decide +kernel
theorem dX0_afterPush_45 : decode cX0_afterPush 45 = .ok (.getfield 18, 3) := by decide +kernel
theorem dX0_afterPush_48 : decode cX0_afterPush 48 = .ok (.iload 6, 2) := by decide +kernel
theorem dX0_afterPush_50 : decode cX0_afterPush 50 = .ok (.laload, 1) := by decide +kernel
theorem dX0_afterPush_51 : decode cX0_afterPush 51 = .ok (.lload 7, 2) := by decide +kernel
theorem dX0_afterPush_53 : decode cX0_afterPush 53 = .ok (.land, 1) := by decide +kernel
theorem dX0_afterPush_54 : decode cX0_afterPush 54 = .ok (.lconst 0, 1) := by decide +kernel
theorem dX0_afterPush_55 : decode cX0_afterPush 55 = .ok (.lcmp, 1) := by decide +kernel
theorem dX0_afterPush_56 : decode cX0_afterPush 56 = .ok (.ifCond .ne 8, 3) := by decide +kernel
theorem dX0_afterPush_59 : decode cX0_afterPush 59 = .ok (.iload 6, 2) := by decide +kernel
theorem dX0_afterPush_61 : decode cX0_afterPush 61 = .ok (.goto 4, 3) := by decide +kernel
theorem dX0_afterPush_64 : decode cX0_afterPush 64 = .ok (.iconst (-1), 1) := by decide +kernel
theorem dX0_afterPush_65 : decode cX0_afterPush 65 = .ok (.ireturn, 1) := by decide +kernel
theorem dX0_afterTurn_0 : decode cX0_afterTurn 0 = .ok (.iconst 5, 1) := by decide +kernel
theorem dX0_afterTurn_1 : decode cX0_afterTurn 1 = .ok (.iload_n 2, 1) := by decide +kernel
theorem dX0_afterTurn_2 : decode cX0_afterTurn 2 = .ok (.invokestatic 62, 3) := by decide +kernel
theorem dX0_afterTurn_5 : decode cX0_afterTurn 5 = .ok (.imul, 1) := by decide +kernel
theorem dX0_afterTurn_6 : decode cX0_afterTurn 6 = .ok (.istore 6, 2) := by decide +kernel
theorem dX0_afterTurn_8 : decode cX0_afterTurn 8 = .ok (.lload 4, 2) := by decide +kernel
theorem dX0_afterTurn_10 : decode cX0_afterTurn 10 = .ok (.aload_n 1, 1) := by decide +kernel
theorem dX0_afterTurn_11 : decode cX0_afterTurn 11 = .ok (.getfield 71, 3) := by decide +kernel
theorem dX0_afterTurn_14 : decode cX0_afterTurn 14 = .ok (.lor, 1) := by decide +kernel
theorem dX0_afterTurn_15 : decode cX0_afterTurn 15 = .ok (.aload_n 1, 1) := by decide +kernel
theorem dX0_afterTurn_16 : decode cX0_afterTurn 16 = .ok (.getfield 86, 3) := by decide +kernel
theorem dX0_afterTurn_19 : decode cX0_afterTurn 19 = .ok (.lor, 1) := by decide +kernel
theorem dX0_afterTurn_20 : decode cX0_afterTurn 20 = .ok (.lstore 7, 2) := by decide +kernel
theorem dX0_afterTurn_22 : decode cX0_afterTurn 22 = .ok (.iload 6, 2) := by decide +kernel
theorem dX0_afterTurn_24 : decode cX0_afterTurn 24 = .ok (.istore 9, 2) := by decide +kernel
theorem dX0_afterTurn_26 : decode cX0_afterTurn 26 = .ok (.iload 9, 2) := by decide +kernel
theorem dX0_afterTurn_28 : decode cX0_afterTurn 28 = .ok (.iload 6, 2) := by decide +kernel
theorem dX0_afterTurn_30 : decode cX0_afterTurn 30 = .ok (.aload_n 0, 1) := by decide +kernel
theorem dX0_afterTurn_31 : decode cX0_afterTurn 31 = .ok (.getfield 25, 3) := by decide +kernel
theorem dX0_afterTurn_34 : decode cX0_afterTurn 34 = .ok (.iadd, 1) := by decide +kernel
theorem dX0_afterTurn_35 : decode cX0_afterTurn 35 = .ok (.if_icmp .ge 52, 3) := by decide +kernel
theorem dX0_afterTurn_38 : decode cX0_afterTurn 38 = .ok (.iload_n 3, 1) := by decide +kernel
theorem dX0_afterTurn_39 : decode cX0_afterTurn 39 = .ok (.iconst 4, 1) := by decide +kernel
theorem dX0_afterTurn_40 : decode cX0_afterTurn 40 = .ok (.if_icmp .ne 7, 3) := by decide +kernel
theorem dX0_afterTurn_43 : decode cX0_afterTurn 43 = .ok (.iconst 1, 1) := by decide +kernel
theorem dX0_afterTurn_44 : decode cX0_afterTurn 44 = .ok (.goto 4, 3) := by decide +kernel
theorem dX0_afterTurn_47 : decode cX0_afterTurn 47 = .ok (.iconst (-1), 1) := by decide +kernel
theorem dX0_afterTurn_48 : decode cX0_afterTurn 48 = .ok (.istore 10, 2) := by decide +kernel
theorem dX0_afterTurn_50 : decode cX0_afterTurn 50 = .ok (.aload_n 1, 1) := by decide +kernel
theorem dX0_afterTurn_51 : decode cX0_afterTurn 51 = .ok (.iload_n 2, 1) := by decide +kernel
theorem dX0_afterTurn_52 : decode cX0_afterTurn 52 = .ok (.aload_n 0, 1) := by decide +kernel
theorem dX0_afterTurn_53 : decode cX0_afterTurn 53 = .ok (.getfield 9, 3) := by decide +kernel
theorem dX0_afterTurn_56 : decode cX0_afterTurn 56 = .ok (.iload 9, 2) := by decide +kernel
theorem dX0_afterTurn_58 : decode cX0_afterTurn 58 = .ok (.iaload, 1) := by decide +kernel
theorem dX0_afterTurn_59 : decode cX0_afterTurn 59 = .ok (.iload 10, 2) := by decide +kernel
theorem dX0_afterTurn_61 : decode cX0_afterTurn 61 = .ok (.aload_n 0, 1) := by decide +kernel
theorem dX0_afterTurn_62 : decode cX0_afterTurn 62 = .ok (.getfield 15, 3) := by decide +kernel
theorem dX0_afterTurn_65 : decode cX0_afterTurn 65 = .ok (.iload 9, 2) := by decide +kernel
theorem dX0_afterTurn_67 : decode cX0_afterTurn 67 = .ok (.iaload, 1) := by decide +kernel
theorem dX0_afterTurn_68 : decode cX0_afterTurn 68 = .ok (.imul, 1) := by decide +kernel
theorem dX0_afterTurn_69 : decode cX0_afterTurn 69 = .ok (.iload 10, 2) := by decide +kernel
theorem dX0_afterTurn_71 : decode cX0_afterTurn 71 = .ok (.lload 7, 2) := by decide +kernel
theorem dX0_afterTurn_73 : decode cX0_afterTurn 73 = .ok (.invokestatic 94, 3) := by decide +kernel
theorem dX0_afterTurn_76 : decode cX0_afterTurn 76 = .ok (.ifCond .ne 5, 3) := by decide +kernel
theorem dX0_afterTurn_79 : decode cX0_afterTurn 79 = .ok (.iconst (-1), 1) := by decide +kernel
theorem dX0_afterTurn_80 : decode cX0_afterTurn 80 = .ok (.ireturn, 1) := by decide +kernel
theorem dX0_afterTurn_81 : decode cX0_afterTurn 81 = .ok (.iinc 9 1, 3) := by decide +kernel
theorem dX0_afterTurn_84 : decode cX0_afterTurn 84 = .ok (.goto (-58), 3) := by decide +kernel
theorem dX0_afterTurn_87 : decode cX0_afterTurn 87 = .ok (.aload_n 1, 1) := by decide +kernel
theorem dX0_afterTurn_88 : decode cX0_afterTurn 88 = .ok (.iload_n 2, 1) := by decide +kernel
theorem dX0_afterTurn_89 : decode cX0_afterTurn 89 = .ok (.iload_n 3, 1) := by decide +kernel
theorem dX0_afterTurn_90 : decode cX0_afterTurn 90 = .ok (.invokevirtual 79, 3) := by decide +kernel
theorem dX0_afterTurn_93 : decode cX0_afterTurn 93 = .ok (.ireturn, 1) := by decide +kernel
theorem dX0_sweepIsClear_0 : decode cX0_sweepIsClear 0 = .ok (.iload_n 2, 1) := by decide +kernel
theorem dX0_sweepIsClear_1 : decode cX0_sweepIsClear 1 = .ok (.invokestatic 98, 3) := by decide +kernel
theorem dX0_sweepIsClear_4 : decode cX0_sweepIsClear 4 = .ok (.iload_n 3, 1) := by decide +kernel
theorem dX0_sweepIsClear_5 : decode cX0_sweepIsClear 5 = .ok (.invokestatic 98, 3) := by decide +kernel
theorem dX0_sweepIsClear_8 : decode cX0_sweepIsClear 8 = .ok (.invokestatic 103, 3) := by decide +kernel
theorem dX0_sweepIsClear_11 : decode cX0_sweepIsClear 11 = .ok (.istore 7, 2) := by decide +kernel
theorem dX0_sweepIsClear_13 : decode cX0_sweepIsClear 13 = .ok (.iload_n 2, 1) := by decide +kernel
theorem dX0_sweepIsClear_14 : decode cX0_sweepIsClear 14 = .ok (.istore 8, 2) := by decide +kernel
theorem dX0_sweepIsClear_16 : decode cX0_sweepIsClear 16 = .ok (.iload_n 3, 1) := by decide +kernel
theorem dX0_sweepIsClear_17 : decode cX0_sweepIsClear 17 = .ok (.istore 9, 2) := by decide +kernel
theorem dX0_sweepIsClear_19 : decode cX0_sweepIsClear 19 = .ok (.iconst 0, 1) := by decide +kernel
theorem dX0_sweepIsClear_20 : decode cX0_sweepIsClear 20 = .ok (.istore 10, 2) := by decide +kernel
theorem dX0_sweepIsClear_22 : decode cX0_sweepIsClear 22 = .ok (.iload 10, 2) := by decide +kernel
theorem dX0_sweepIsClear_24 : decode cX0_sweepIsClear 24 = .ok (.iconst 2, 1) := by decide +kernel
theorem dX0_sweepIsClear_25 : decode cX0_sweepIsClear 25 = .ok (.iload 7, 2) := by decide +kernel
theorem dX0_sweepIsClear_27 : decode cX0_sweepIsClear 27 = .ok (.imul, 1) := by decide +kernel
theorem dX0_sweepIsClear_28 : decode cX0_sweepIsClear 28 = .ok (.if_icmp .ge 114, 3) := by decide +kernel
theorem dX0_sweepIsClear_31 : decode cX0_sweepIsClear 31 = .ok (.iload 9, 2) := by decide +kernel
theorem dX0_sweepIsClear_33 : decode cX0_sweepIsClear 33 = .ok (.iload 7, 2) := by decide +kernel
theorem dX0_sweepIsClear_35 : decode cX0_sweepIsClear 35 = .ok (.ineg, 1) := by decide +kernel
theorem dX0_sweepIsClear_36 : decode cX0_sweepIsClear 36 = .ok (.if_icmp .ne 16, 3) := by decide +kernel
theorem dX0_sweepIsClear_39 : decode cX0_sweepIsClear 39 = .ok (.iload 8, 2) := by decide +kernel
theorem dX0_sweepIsClear_41 : decode cX0_sweepIsClear 41 = .ok (.iload 7, 2) := by decide +kernel
theorem dX0_sweepIsClear_43 : decode cX0_sweepIsClear 43 = .ok (.if_icmp .ge 9, 3) := by decide +kernel
theorem dX0_sweepIsClear_46 : decode cX0_sweepIsClear 46 = .ok (.iinc 8 1, 3) := by decide +kernel
theorem dX0_sweepIsClear_49 : decode cX0_sweepIsClear 49 = .ok (.goto 47, 3) := by decide +kernel
theorem dX0_sweepIsClear_52 : decode cX0_sweepIsClear 52 = .ok (.iload 8, 2) := by decide +kernel
theorem dX0_sweepIsClear_54 : decode cX0_sweepIsClear 54 = .ok (.iload 7, 2) := by decide +kernel
theorem dX0_sweepIsClear_56 : decode cX0_sweepIsClear 56 = .ok (.if_icmp .ne 16, 3) := by decide +kernel
theorem dX0_sweepIsClear_59 : decode cX0_sweepIsClear 59 = .ok (.iload 9, 2) := by decide +kernel
theorem dX0_sweepIsClear_61 : decode cX0_sweepIsClear 61 = .ok (.iload 7, 2) := by decide +kernel
theorem dX0_sweepIsClear_63 : decode cX0_sweepIsClear 63 = .ok (.if_icmp .ge 9, 3) := by decide +kernel
theorem dX0_sweepIsClear_66 : decode cX0_sweepIsClear 66 = .ok (.iinc 9 1, 3) := by decide +kernel
theorem dX0_sweepIsClear_69 : decode cX0_sweepIsClear 69 = .ok (.goto 27, 3) := by decide +kernel
theorem dX0_sweepIsClear_72 : decode cX0_sweepIsClear 72 = .ok (.iload 9, 2) := by decide +kernel
theorem dX0_sweepIsClear_74 : decode cX0_sweepIsClear 74 = .ok (.iload 7, 2) := by decide +kernel
theorem dX0_sweepIsClear_76 : decode cX0_sweepIsClear 76 = .ok (.if_icmp .ne 17, 3) := by decide +kernel
theorem dX0_sweepIsClear_79 : decode cX0_sweepIsClear 79 = .ok (.iload 8, 2) := by decide +kernel
theorem dX0_sweepIsClear_81 : decode cX0_sweepIsClear 81 = .ok (.iload 7, 2) := by decide +kernel
theorem dX0_sweepIsClear_83 : decode cX0_sweepIsClear 83 = .ok (.ineg, 1) := by decide +kernel
theorem dX0_sweepIsClear_84 : decode cX0_sweepIsClear 84 = .ok (.if_icmp .le 9, 3) := by decide +kernel
theorem dX0_sweepIsClear_87 : decode cX0_sweepIsClear 87 = .ok (.iinc 8 (-1), 3) := by decide +kernel
theorem dX0_sweepIsClear_90 : decode cX0_sweepIsClear 90 = .ok (.goto 6, 3) := by decide +kernel
theorem dX0_sweepIsClear_93 : decode cX0_sweepIsClear 93 = .ok (.iinc 9 (-1), 3) := by decide +kernel
theorem dX0_sweepIsClear_96 : decode cX0_sweepIsClear 96 = .ok (.aload_n 0, 1) := by decide +kernel
theorem dX0_sweepIsClear_97 : decode cX0_sweepIsClear 97 = .ok (.iload_n 1, 1) := by decide +kernel
theorem dX0_sweepIsClear_98 : decode cX0_sweepIsClear 98 = .ok (.invokestatic 51, 3) := by decide +kernel
theorem dX0_sweepIsClear_101 : decode cX0_sweepIsClear 101 = .ok (.iload 8, 2) := by decide +kernel
theorem dX0_sweepIsClear_103 : decode cX0_sweepIsClear 103 = .ok (.iadd, 1) := by decide +kernel
theorem dX0_sweepIsClear_104 : decode cX0_sweepIsClear 104 = .ok (.iload_n 1, 1) := by decide +kernel
theorem dX0_sweepIsClear_105 : decode cX0_sweepIsClear 105 = .ok (.invokestatic 55, 3) := by decide +kernel
theorem dX0_sweepIsClear_108 : decode cX0_sweepIsClear 108 = .ok (.iload 4, 2) := by decide +kernel
theorem dX0_sweepIsClear_110 : decode cX0_sweepIsClear 110 = .ok (.iload 9, 2) := by decide +kernel
theorem dX0_sweepIsClear_112 : decode cX0_sweepIsClear 112 = .ok (.imul, 1) := by decide +kernel
theorem dX0_sweepIsClear_113 : decode cX0_sweepIsClear 113 = .ok (.iadd, 1) := by decide +kernel
theorem dX0_sweepIsClear_114 : decode cX0_sweepIsClear 114 = .ok (.invokevirtual 65, 3) := by decide +kernel
theorem dX0_sweepIsClear_117 : decode cX0_sweepIsClear 117 = .ok (.istore 11, 2) := by decide +kernel
theorem dX0_sweepIsClear_119 : decode cX0_sweepIsClear 119 = .ok (.iload 11, 2) := by decide +kernel
theorem dX0_sweepIsClear_121 : decode cX0_sweepIsClear 121 = .ok (.ifCond .lt 13, 3) := by decide +kernel
theorem dX0_sweepIsClear_124 : decode cX0_sweepIsClear 124 = .ok (.lload 5, 2) := by decide +kernel
theorem dX0_sweepIsClear_126 : decode cX0_sweepIsClear 126 = .ok (.iload 11, 2) := by decide +kernel
theorem dX0_sweepIsClear_128 : decode cX0_sweepIsClear 128 = .ok (.invokestatic 75, 3) := by decide +kernel
theorem dX0_sweepIsClear_131 : decode cX0_sweepIsClear 131 = .ok (.ifCond .eq 5, 3) := by decide +kernel
theorem dX0_sweepIsClear_134 : decode cX0_sweepIsClear 134 = .ok (.iconst 0, 1) := by decide +kernel
theorem dX0_sweepIsClear_135 : decode cX0_sweepIsClear 135 = .ok (.ireturn, 1) := by decide +kernel
theorem dX0_sweepIsClear_136 : decode cX0_sweepIsClear 136 = .ok (.iinc 10 1, 3) := by decide +kernel
theorem dX0_sweepIsClear_139 : decode cX0_sweepIsClear 139 = .ok (.goto (-117), 3) := by decide +kernel
theorem dX0_sweepIsClear_142 : decode cX0_sweepIsClear 142 = .ok (.iconst 1, 1) := by decide +kernel
theorem dX0_sweepIsClear_143 : decode cX0_sweepIsClear 143 = .ok (.ireturn, 1) := by decide +kernel
theorem dX0_measure_0 : decode cX0_measure 0 = .ok (.aload_n 0, 1) := by decide +kernel
theorem dX0_measure_1 : decode cX0_measure 1 = .ok (.getfield 22, 3) := by decide +kernel
theorem dX0_measure_4 : decode cX0_measure 4 = .ok (.iconst (-1), 1) := by decide +kernel
theorem dX0_measure_5 : decode cX0_measure 5 = .ok (.invokestatic 41, 3) := by decide +kernel
theorem dX0_measure_8 : decode cX0_measure 8 = .ok (.iconst 0, 1) := by decide +kernel
theorem dX0_measure_9 : decode cX0_measure 9 = .ok (.istore_n 3, 1) := by decide +kernel
theorem dX0_measure_10 : decode cX0_measure 10 = .ok (.iconst 0, 1) := by decide +kernel
theorem dX0_measure_11 : decode cX0_measure 11 = .ok (.istore 4, 2) := by decide +kernel
theorem dX0_measure_13 : decode cX0_measure 13 = .ok (.iload 4, 2) := by decide +kernel
theorem dX0_measure_15 : decode cX0_measure 15 = .ok (.iconst 4, 1) := by decide +kernel
theorem dX0_measure_16 : decode cX0_measure 16 = .ok (.if_icmp .ge 75, 3) := by decide +kernel
theorem dX0_measure_19 : decode cX0_measure 19 = .ok (.bipush 64, 2) := by decide +kernel
theorem dX0_measure_21 : decode cX0_measure 21 = .ok (.iload 4, 2) := by decide +kernel
theorem dX0_measure_23 : decode cX0_measure 23 = .ok (.imul, 1) := by decide +kernel
theorem dX0_measure_24 : decode cX0_measure 24 = .ok (.aload_n 0, 1) := by decide +kernel
theorem dX0_measure_25 : decode cX0_measure 25 = .ok (.getfield 32, 3) := by decide +kernel
theorem dX0_measure_28 : decode cX0_measure 28 = .ok (.iadd, 1) := by decide +kernel
theorem dX0_measure_29 : decode cX0_measure 29 = .ok (.istore 5, 2) := by decide +kernel
theorem dX0_measure_31 : decode cX0_measure 31 = .ok (.aload_n 0, 1) := by decide +kernel
theorem dX0_measure_32 : decode cX0_measure 32 = .ok (.getfield 35, 3) := by decide +kernel
theorem dX0_measure_35 : decode cX0_measure 35 = .ok (.iconst 4, 1) := by decide +kernel
theorem dX0_measure_36 : decode cX0_measure 36 = .ok (.if_icmp .eq 12, 3) := by decide +kernel
theorem dX0_measure_39 : decode cX0_measure 39 = .ok (.aload_n 0, 1) := by decide +kernel
theorem dX0_measure_40 : decode cX0_measure 40 = .ok (.getfield 35, 3) := by decide +kernel
theorem dX0_measure_43 : decode cX0_measure 43 = .ok (.iload 4, 2) := by decide +kernel
theorem dX0_measure_45 : decode cX0_measure 45 = .ok (.if_icmp .ne 7, 3) := by decide +kernel
theorem dX0_measure_48 : decode cX0_measure 48 = .ok (.iconst 1, 1) := by decide +kernel
theorem dX0_measure_49 : decode cX0_measure 49 = .ok (.goto 4, 3) := by decide +kernel
theorem dX0_measure_52 : decode cX0_measure 52 = .ok (.iconst 0, 1) := by decide +kernel
theorem dX0_measure_53 : decode cX0_measure 53 = .ok (.istore 6, 2) := by decide +kernel
theorem dX0_measure_55 : decode cX0_measure 55 = .ok (.iload 6, 2) := by decide +kernel
theorem dX0_measure_57 : decode cX0_measure 57 = .ok (.ifCond .eq 28, 3) := by decide +kernel
theorem dX0_measure_60 : decode cX0_measure 60 = .ok (.aload_n 0, 1) := by decide +kernel
theorem dX0_measure_61 : decode cX0_measure 61 = .ok (.iload 5, 2) := by decide +kernel
theorem dX0_measure_63 : decode cX0_measure 63 = .ok (.invokevirtual 82, 3) := by decide +kernel
theorem dX0_measure_66 : decode cX0_measure 66 = .ok (.ifCond .eq 19, 3) := by decide +kernel
theorem dX0_measure_69 : decode cX0_measure 69 = .ok (.aload_n 0, 1) := by decide +kernel
theorem dX0_measure_70 : decode cX0_measure 70 = .ok (.getfield 22, 3) := by decide +kernel
theorem dX0_measure_73 : decode cX0_measure 73 = .ok (.iload 5, 2) := by decide +kernel
theorem dX0_measure_75 : decode cX0_measure 75 = .ok (.iconst 0, 1) := by decide +kernel
theorem dX0_measure_76 : decode cX0_measure 76 = .ok (.iastore, 1) := by decide +kernel
theorem dX0_measure_77 : decode cX0_measure 77 = .ok (.aload_n 2, 1) := by decide +kernel
theorem dX0_measure_78 : decode cX0_measure 78 = .ok (.iload_n 3, 1) := by decide +kernel
theorem dX0_measure_79 : decode cX0_measure 79 = .ok (.iload 5, 2) := by decide +kernel
theorem dX0_measure_81 : decode cX0_measure 81 = .ok (.iastore, 1) := by decide +kernel
theorem dX0_measure_82 : decode cX0_measure 82 = .ok (.iinc 3 1, 3) := by decide +kernel
theorem dX0_measure_85 : decode cX0_measure 85 = .ok (.iinc 4 1, 3) := by decide +kernel
theorem dX0_measure_88 : decode cX0_measure 88 = .ok (.goto (-75), 3) := by decide +kernel
theorem dX0_measure_91 : decode cX0_measure 91 = .ok (.iconst 0, 1) := by decide +kernel
theorem dX0_measure_92 : decode cX0_measure 92 = .ok (.istore 4, 2) := by decide +kernel
theorem dX0_measure_94 : decode cX0_measure 94 = .ok (.iload 4, 2) := by decide +kernel
theorem dX0_measure_96 : decode cX0_measure 96 = .ok (.iload_n 3, 1) := by decide +kernel
theorem dX0_measure_97 : decode cX0_measure 97 = .ok (.if_icmp .ge 87, 3) := by decide +kernel
theorem dX0_measure_100 : decode cX0_measure 100 = .ok (.iload 4, 2) := by decide +kernel
theorem dX0_measure_102 : decode cX0_measure 102 = .ok (.sipush 256, 3) := by decide +kernel
theorem dX0_measure_105 : decode cX0_measure 105 = .ok (.if_icmp .ge 79, 3) := by decide +kernel
theorem dX0_measure_108 : decode cX0_measure 108 = .ok (.iconst 0, 1) := by decide +kernel
theorem dX0_measure_109 : decode cX0_measure 109 = .ok (.istore 5, 2) := by decide +kernel
theorem dX0_measure_111 : decode cX0_measure 111 = .ok (.iload 5, 2) := by decide +kernel
theorem dX0_measure_113 : decode cX0_measure 113 = .ok (.bipush 6, 2) := by decide +kernel
theorem dX0_measure_115 : decode cX0_measure 115 = .ok (.if_icmp .ge 63, 3) := by decide +kernel
theorem dX0_measure_118 : decode cX0_measure 118 = .ok (.aload_n 0, 1) := by decide +kernel
theorem dX0_measure_119 : decode cX0_measure 119 = .ok (.aload_n 1, 1) := by decide +kernel
theorem dX0_measure_120 : decode cX0_measure 120 = .ok (.aload_n 2, 1) := by decide +kernel
theorem dX0_measure_121 : decode cX0_measure 121 = .ok (.iload 4, 2) := by decide +kernel
theorem dX0_measure_123 : decode cX0_measure 123 = .ok (.iaload, 1) := by decide +kernel
theorem dX0_measure_124 : decode cX0_measure 124 = .ok (.iload 5, 2) := by decide +kernel
theorem dX0_measure_126 : decode cX0_measure 126 = .ok (.invokevirtual 106, 3) := by decide +kernel
theorem dX0_measure_129 : decode cX0_measure 129 = .ok (.istore 6, 2) := by decide +kernel
theorem dX0_measure_131 : decode cX0_measure 131 = .ok (.iload 6, 2) := by decide +kernel
theorem dX0_measure_133 : decode cX0_measure 133 = .ok (.ifCond .lt 39, 3) := by decide +kernel
theorem dX0_measure_136 : decode cX0_measure 136 = .ok (.aload_n 0, 1) := by decide +kernel
theorem dX0_measure_137 : decode cX0_measure 137 = .ok (.getfield 22, 3) := by decide +kernel
theorem dX0_measure_140 : decode cX0_measure 140 = .ok (.iload 6, 2) := by decide +kernel
theorem dX0_measure_142 : decode cX0_measure 142 = .ok (.iaload, 1) := by decide +kernel
theorem dX0_measure_143 : decode cX0_measure 143 = .ok (.ifCond .ge 29, 3) := by decide +kernel
theorem dX0_measure_146 : decode cX0_measure 146 = .ok (.aload_n 0, 1) := by decide +kernel
theorem dX0_measure_147 : decode cX0_measure 147 = .ok (.getfield 22, 3) := by decide +kernel
theorem dX0_measure_150 : decode cX0_measure 150 = .ok (.iload 6, 2) := by decide +kernel
theorem dX0_measure_152 : decode cX0_measure 152 = .ok (.aload_n 0, 1) := by decide +kernel
theorem dX0_measure_153 : decode cX0_measure 153 = .ok (.getfield 22, 3) := by decide +kernel
theorem dX0_measure_156 : decode cX0_measure 156 = .ok (.aload_n 2, 1) := by decide +kernel
theorem dX0_measure_157 : decode cX0_measure 157 = .ok (.iload 4, 2) := by decide +kernel
theorem dX0_measure_159 : decode cX0_measure 159 = .ok (.iaload, 1) := by decide +kernel
theorem dX0_measure_160 : decode cX0_measure 160 = .ok (.iaload, 1) := by decide +kernel
theorem dX0_measure_161 : decode cX0_measure 161 = .ok (.iconst 1, 1) := by decide +kernel
theorem dX0_measure_162 : decode cX0_measure 162 = .ok (.iadd, 1) := by decide +kernel
theorem dX0_measure_163 : decode cX0_measure 163 = .ok (.iastore, 1) := by decide +kernel
theorem dX0_measure_164 : decode cX0_measure 164 = .ok (.aload_n 2, 1) := by decide +kernel
theorem dX0_measure_165 : decode cX0_measure 165 = .ok (.iload_n 3, 1) := by decide +kernel
theorem dX0_measure_166 : decode cX0_measure 166 = .ok (.iload 6, 2) := by decide +kernel
theorem dX0_measure_168 : decode cX0_measure 168 = .ok (.iastore, 1) := by decide +kernel
theorem dX0_measure_169 : decode cX0_measure 169 = .ok (.iinc 3 1, 3) := by decide +kernel
theorem dX0_measure_172 : decode cX0_measure 172 = .ok (.iinc 5 1, 3) := by decide +kernel
theorem dX0_measure_175 : decode cX0_measure 175 = .ok (.goto (-64), 3) := by decide +kernel
theorem dX0_measure_178 : decode cX0_measure 178 = .ok (.iinc 4 1, 3) := by decide +kernel
theorem dX0_measure_181 : decode cX0_measure 181 = .ok (.goto (-87), 3) := by decide +kernel
theorem dX0_measure_184 : decode cX0_measure 184 = .ok (.return_, 1) := by decide +kernel
theorem dX0_placementBefore_0 : decode cX0_placementBefore 0 = .ok (.iload_n 3, 1) := by decide +kernel
theorem dX0_placementBefore_1 : decode cX0_placementBefore 1 = .ok (.iconst 4, 1) := by decide +kernel
theorem dX0_placementBefore_2 : decode cX0_placementBefore 2 = .ok (.if_icmp .ge 7, 3) := by decide +kernel
theorem dX0_placementBefore_5 : decode cX0_placementBefore 5 = .ok (.iconst 1, 1) := by decide +kernel
theorem dX0_placementBefore_6 : decode cX0_placementBefore 6 = .ok (.goto 4, 3) := by decide +kernel
theorem dX0_placementBefore_9 : decode cX0_placementBefore 9 = .ok (.iconst 0, 1) := by decide +kernel
theorem dX0_placementBefore_10 : decode cX0_placementBefore 10 = .ok (.istore 4, 2) := by decide +kernel
theorem dX0_placementBefore_12 : decode cX0_placementBefore 12 = .ok (.aload_n 1, 1) := by decide +kernel
theorem dX0_placementBefore_13 : decode cX0_placementBefore 13 = .ok (.iload_n 2, 1) := by decide +kernel
theorem dX0_placementBefore_14 : decode cX0_placementBefore 14 = .ok (.iload 4, 2) := by decide +kernel
theorem dX0_placementBefore_16 : decode cX0_placementBefore 16 = .ok (.ifCond .eq 9, 3) := by decide +kernel
theorem dX0_placementBefore_19 : decode cX0_placementBefore 19 = .ok (.iload_n 3, 1) := by decide +kernel
theorem dX0_placementBefore_20 : decode cX0_placementBefore 20 = .ok (.iconst 2, 1) := by decide +kernel
theorem dX0_placementBefore_21 : decode cX0_placementBefore 21 = .ok (.ixor, 1) := by decide +kernel
theorem dX0_placementBefore_22 : decode cX0_placementBefore 22 = .ok (.goto 6, 3) := by decide +kernel
theorem dX0_placementBefore_25 : decode cX0_placementBefore 25 = .ok (.iload_n 3, 1) := by decide +kernel
theorem dX0_placementBefore_26 : decode cX0_placementBefore 26 = .ok (.iconst 1, 1) := by decide +kernel
theorem dX0_placementBefore_27 : decode cX0_placementBefore 27 = .ok (.ixor, 1) := by decide +kernel
theorem dX0_placementBefore_28 : decode cX0_placementBefore 28 = .ok (.invokevirtual 79, 3) := by decide +kernel
theorem dX0_placementBefore_31 : decode cX0_placementBefore 31 = .ok (.istore 5, 2) := by decide +kernel
theorem dX0_placementBefore_33 : decode cX0_placementBefore 33 = .ok (.iload 5, 2) := by decide +kernel
theorem dX0_placementBefore_35 : decode cX0_placementBefore 35 = .ok (.ifCond .lt 12, 3) := by decide +kernel
theorem dX0_placementBefore_38 : decode cX0_placementBefore 38 = .ok (.aload_n 0, 1) := by decide +kernel
theorem dX0_placementBefore_39 : decode cX0_placementBefore 39 = .ok (.iload 5, 2) := by decide +kernel
theorem dX0_placementBefore_41 : decode cX0_placementBefore 41 = .ok (.invokevirtual 82, 3) := by decide +kernel
theorem dX0_placementBefore_44 : decode cX0_placementBefore 44 = .ok (.ifCond .ne 5, 3) := by decide +kernel
theorem dX0_placementBefore_47 : decode cX0_placementBefore 47 = .ok (.iconst (-1), 1) := by decide +kernel
theorem dX0_placementBefore_48 : decode cX0_placementBefore 48 = .ok (.ireturn, 1) := by decide +kernel
theorem dX0_placementBefore_49 : decode cX0_placementBefore 49 = .ok (.iload 4, 2) := by decide +kernel
theorem dX0_placementBefore_51 : decode cX0_placementBefore 51 = .ok (.ifCond .eq 15, 3) := by decide +kernel
theorem dX0_placementBefore_54 : decode cX0_placementBefore 54 = .ok (.aload_n 0, 1) := by decide +kernel
theorem dX0_placementBefore_55 : decode cX0_placementBefore 55 = .ok (.aload_n 1, 1) := by decide +kernel
theorem dX0_placementBefore_56 : decode cX0_placementBefore 56 = .ok (.iload 5, 2) := by decide +kernel
theorem dX0_placementBefore_58 : decode cX0_placementBefore 58 = .ok (.iload_n 3, 1) := by decide +kernel
theorem dX0_placementBefore_59 : decode cX0_placementBefore 59 = .ok (.lconst 0, 1) := by decide +kernel
theorem dX0_placementBefore_60 : decode cX0_placementBefore 60 = .ok (.invokevirtual 110, 3) := by decide +kernel
theorem dX0_placementBefore_63 : decode cX0_placementBefore 63 = .ok (.goto 12, 3) := by decide +kernel
theorem dX0_placementBefore_66 : decode cX0_placementBefore 66 = .ok (.aload_n 0, 1) := by decide +kernel
theorem dX0_placementBefore_67 : decode cX0_placementBefore 67 = .ok (.aload_n 1, 1) := by decide +kernel
theorem dX0_placementBefore_68 : decode cX0_placementBefore 68 = .ok (.iload 5, 2) := by decide +kernel
theorem dX0_placementBefore_70 : decode cX0_placementBefore 70 = .ok (.iload_n 3, 1) := by decide +kernel
theorem dX0_placementBefore_71 : decode cX0_placementBefore 71 = .ok (.lconst 0, 1) := by decide +kernel
theorem dX0_placementBefore_72 : decode cX0_placementBefore 72 = .ok (.invokevirtual 114, 3) := by decide +kernel
theorem dX0_placementBefore_75 : decode cX0_placementBefore 75 = .ok (.istore 6, 2) := by decide +kernel
theorem dX0_placementBefore_77 : decode cX0_placementBefore 77 = .ok (.iload 6, 2) := by decide +kernel
theorem dX0_placementBefore_79 : decode cX0_placementBefore 79 = .ok (.ifCond .ge 7, 3) := by decide +kernel
theorem dX0_placementBefore_82 : decode cX0_placementBefore 82 = .ok (.iconst (-1), 1) := by decide +kernel
theorem dX0_placementBefore_83 : decode cX0_placementBefore 83 = .ok (.goto 5, 3) := by decide +kernel
theorem dX0_placementBefore_86 : decode cX0_placementBefore 86 = .ok (.iload 5, 2) := by decide +kernel
theorem dX0_placementBefore_88 : decode cX0_placementBefore 88 = .ok (.ireturn, 1) := by decide +kernel
theorem dX1_init_0 : decode cX1_init 0 = .ok (.aload_n 0, 1) := by decide +kernel
theorem dX1_init_1 : decode cX1_init 1 = .ok (.invokespecial 3, 3) := by decide +kernel
theorem dX1_init_4 : decode cX1_init 4 = .ok (.aload_n 0, 1) := by decide +kernel
theorem dX1_init_5 : decode cX1_init 5 = .ok (.sipush 201, 3) := by decide +kernel
theorem dX1_init_8 : decode cX1_init 8 = .ok (.newarray .long, 2) := by decide +kernel
theorem dX1_init_10 : decode cX1_init 10 = .ok (.putfield 9, 3) := by decide +kernel
theorem dX1_init_13 : decode cX1_init 13 = .ok (.aload_n 0, 1) := by decide +kernel
theorem dX1_init_14 : decode cX1_init 14 = .ok (.sipush 200, 3) := by decide +kernel
theorem dX1_init_17 : decode cX1_init 17 = .ok (.newarray .int, 2) := by decide +kernel
theorem dX1_init_19 : decode cX1_init 19 = .ok (.putfield 15, 3) := by decide +kernel
theorem dX1_init_22 : decode cX1_init 22 = .ok (.aload_n 0, 1) := by decide +kernel
theorem dX1_init_23 : decode cX1_init 23 = .ok (.sipush 201, 3) := by decide +kernel
theorem dX1_init_26 : decode cX1_init 26 = .ok (.newarray .int, 2) := by decide +kernel
theorem dX1_init_28 : decode cX1_init 28 = .ok (.putfield 19, 3) := by decide +kernel
theorem dX1_init_31 : decode cX1_init 31 = .ok (.aload_n 0, 1) := by decide +kernel
theorem dX1_init_32 : decode cX1_init 32 = .ok (.iconst 0, 1) := by decide +kernel
theorem dX1_init_33 : decode cX1_init 33 = .ok (.putfield 22, 3) := by decide +kernel
theorem dX1_init_36 : decode cX1_init 36 = .ok (.aload_n 0, 1) := by decide +kernel
theorem dX1_init_37 : decode cX1_init 37 = .ok (.iconst 0, 1) := by decide +kernel
theorem dX1_init_38 : decode cX1_init 38 = .ok (.putfield 26, 3) := by decide +kernel
theorem dX1_init_41 : decode cX1_init 41 = .ok (.return_, 1) := by decide +kernel
theorem dX1_begin_0 : decode cX1_begin 0 = .ok (.aload_n 0, 1) := by decide +kernel
theorem dX1_begin_1 : decode cX1_begin 1 = .ok (.getfield 9, 3) := by decide +kernel
theorem dX1_begin_4 : decode cX1_begin 4 = .ok (.iconst 0, 1) := by decide +kernel
theorem dX1_begin_5 : decode cX1_begin 5 = .ok (.lload_n 1, 1) := by decide +kernel
theorem dX1_begin_6 : decode cX1_begin 6 = .ok (.lastore, 1) := by decide +kernel
theorem dX1_begin_7 : decode cX1_begin 7 = .ok (.aload_n 0, 1) := by decide +kernel
theorem dX1_begin_8 : decode cX1_begin 8 = .ok (.iconst 0, 1) := by decide +kernel
theorem dX1_begin_9 : decode cX1_begin 9 = .ok (.putfield 22, 3) := by decide +kernel
theorem dX1_begin_12 : decode cX1_begin 12 = .ok (.aload_n 0, 1) := by decide +kernel
theorem dX1_begin_13 : decode cX1_begin 13 = .ok (.iconst 0, 1) := by decide +kernel
theorem dX1_begin_14 : decode cX1_begin 14 = .ok (.putfield 26, 3) := by decide +kernel
theorem dX1_begin_17 : decode cX1_begin 17 = .ok (.return_, 1) := by decide +kernel
theorem dX1_present_0 : decode cX1_present 0 = .ok (.aload_n 0, 1) := by decide +kernel
theorem dX1_present_1 : decode cX1_present 1 = .ok (.getfield 9, 3) := by decide +kernel
theorem dX1_present_4 : decode cX1_present 4 = .ok (.aload_n 0, 1) := by decide +kernel
theorem dX1_present_5 : decode cX1_present 5 = .ok (.getfield 22, 3) := by decide +kernel
theorem dX1_present_8 : decode cX1_present 8 = .ok (.laload, 1) := by decide +kernel
theorem dX1_present_9 : decode cX1_present 9 = .ok (.lreturn, 1) := by decide +kernel
theorem dX1_add_0 : decode cX1_add 0 = .ok (.aload_n 0, 1) := by decide +kernel
theorem dX1_add_1 : decode cX1_add 1 = .ok (.getfield 22, 3) := by decide +kernel
theorem dX1_add_4 : decode cX1_add 4 = .ok (.sipush 200, 3) := by decide +kernel
theorem dX1_add_7 : decode cX1_add 7 = .ok (.if_icmp .lt 4, 3) := by decide +kernel
theorem dX1_add_10 : decode cX1_add 10 = .ok (.return_, 1) := by decide +kernel
theorem dX1_add_11 : decode cX1_add 11 = .ok (.aload_n 0, 1) := by decide +kernel
theorem dX1_add_12 : decode cX1_add 12 = .ok (.getfield 15, 3) := by decide +kernel
theorem dX1_add_15 : decode cX1_add 15 = .ok (.aload_n 0, 1) := by decide +kernel
theorem dX1_add_16 : decode cX1_add 16 = .ok (.getfield 22, 3) := by decide +kernel
theorem dX1_add_19 : decode cX1_add 19 = .ok (.iload_n 1, 1) := by decide +kernel
theorem dX1_add_20 : decode cX1_add 20 = .ok (.iastore, 1) := by decide +kernel
theorem dX1_add_21 : decode cX1_add 21 = .ok (.aload_n 0, 1) := by decide +kernel
theorem dX1_add_22 : decode cX1_add 22 = .ok (.getfield 19, 3) := by decide +kernel
theorem dX1_add_25 : decode cX1_add 25 = .ok (.aload_n 0, 1) := by decide +kernel
theorem dX1_add_26 : decode cX1_add 26 = .ok (.getfield 22, 3) := by decide +kernel
theorem dX1_add_29 : decode cX1_add 29 = .ok (.iconst 1, 1) := by decide +kernel
theorem dX1_add_30 : decode cX1_add 30 = .ok (.iadd, 1) := by decide +kernel
theorem dX1_add_31 : decode cX1_add 31 = .ok (.aload_n 0, 1) := by decide +kernel
theorem dX1_add_32 : decode cX1_add 32 = .ok (.getfield 19, 3) := by decide +kernel
theorem dX1_add_35 : decode cX1_add 35 = .ok (.aload_n 0, 1) := by decide +kernel
theorem dX1_add_36 : decode cX1_add 36 = .ok (.getfield 22, 3) := by decide +kernel
theorem dX1_add_39 : decode cX1_add 39 = .ok (.iaload, 1) := by decide +kernel
theorem dX1_add_40 : decode cX1_add 40 = .ok (.iload_n 2, 1) := by decide +kernel
theorem dX1_add_41 : decode cX1_add 41 = .ok (.iadd, 1) := by decide +kernel
theorem dX1_add_42 : decode cX1_add 42 = .ok (.iastore, 1) := by decide +kernel
theorem dX1_add_43 : decode cX1_add 43 = .ok (.aload_n 0, 1) := by decide +kernel
theorem dX1_add_44 : decode cX1_add 44 = .ok (.getfield 9, 3) := by decide +kernel
theorem dX1_add_47 : decode cX1_add 47 = .ok (.aload_n 0, 1) := by decide +kernel
theorem dX1_add_48 : decode cX1_add 48 = .ok (.getfield 22, 3) := by decide +kernel
theorem dX1_add_51 : decode cX1_add 51 = .ok (.iconst 1, 1) := by decide +kernel
theorem dX1_add_52 : decode cX1_add 52 = .ok (.iadd, 1) := by decide +kernel
theorem dX1_add_53 : decode cX1_add 53 = .ok (.lload_n 3, 1) := by decide +kernel
theorem dX1_add_54 : decode cX1_add 54 = .ok (.lastore, 1) := by decide +kernel
theorem dX1_add_55 : decode cX1_add 55 = .ok (.aload_n 0, 1) := by decide +kernel
theorem dX1_add_56 : decode cX1_add 56 = .ok (.dup, 1) := by decide +kernel
theorem dX1_add_57 : decode cX1_add 57 = .ok (.getfield 22, 3) := by decide +kernel
theorem dX1_add_60 : decode cX1_add 60 = .ok (.iconst 1, 1) := by decide +kernel
theorem dX1_add_61 : decode cX1_add 61 = .ok (.iadd, 1) := by decide +kernel
theorem dX1_add_62 : decode cX1_add 62 = .ok (.putfield 22, 3) := by decide +kernel
theorem dX1_add_65 : decode cX1_add 65 = .ok (.aload_n 0, 1) := by decide +kernel
theorem dX1_add_66 : decode cX1_add 66 = .ok (.aload_n 0, 1) := by decide +kernel
theorem dX1_add_67 : decode cX1_add 67 = .ok (.getfield 22, 3) := by decide +kernel
theorem dX1_add_70 : decode cX1_add 70 = .ok (.putfield 26, 3) := by decide +kernel
theorem dX1_add_73 : decode cX1_add 73 = .ok (.return_, 1) := by decide +kernel
theorem dX2_init_0 : decode cX2_init 0 = .ok (.aload_n 0, 1) := by decide +kernel
theorem dX2_init_1 : decode cX2_init 1 = .ok (.invokespecial 3, 3) := by decide +kernel
theorem dX2_init_4 : decode cX2_init 4 = .ok (.aload_n 0, 1) := by decide +kernel
theorem dX2_init_5 : decode cX2_init 5 = .ok (.new 9, 3) := by decide +kernel
theorem dX2_init_8 : decode cX2_init 8 = .ok (.dup, 1) := by decide +kernel
theorem dX2_init_9 : decode cX2_init 9 = .ok (.invokespecial 11, 3) := by decide +kernel
theorem dX2_init_12 : decode cX2_init 12 = .ok (.putfield 12, 3) := by decide +kernel
theorem dX2_init_15 : decode cX2_init 15 = .ok (.aload_n 0, 1) := by decide +kernel
theorem dX2_init_16 : decode cX2_init 16 = .ok (.iconst 5, 1) := by decide +kernel
theorem dX2_init_17 : decode cX2_init 17 = .ok (.anewarray 18, 3) := by decide +kernel
theorem dX2_init_20 : decode cX2_init 20 = .ok (.putfield 20, 3) := by decide +kernel
theorem dX2_init_23 : decode cX2_init 23 = .ok (.aload_n 0, 1) := by decide +kernel
theorem dX2_init_24 : decode cX2_init 24 = .ok (.iconst 4, 1) := by decide +kernel
theorem dX2_init_25 : decode cX2_init 25 = .ok (.newarray .int, 2) := by decide +kernel
theorem dX2_init_27 : decode cX2_init 27 = .ok (.putfield 24, 3) := by decide +kernel
theorem dX2_init_30 : decode cX2_init 30 = .ok (.aload_n 0, 1) := by decide +kernel
theorem dX2_init_31 : decode cX2_init 31 = .ok (.bipush 45, 2) := by decide +kernel
theorem dX2_init_33 : decode cX2_init 33 = .ok (.putfield 28, 3) := by decide +kernel
theorem dX2_init_36 : decode cX2_init 36 = .ok (.aload_n 0, 1) := by decide +kernel
theorem dX2_init_37 : decode cX2_init 37 = .ok (.sipush 256, 3) := by decide +kernel
theorem dX2_init_40 : decode cX2_init 40 = .ok (.newarray .int, 2) := by decide +kernel
theorem dX2_init_42 : decode cX2_init 42 = .ok (.putfield 32, 3) := by decide +kernel
theorem dX2_init_45 : decode cX2_init 45 = .ok (.iconst 0, 1) := by decide +kernel
theorem dX2_init_46 : decode cX2_init 46 = .ok (.istore_n 1, 1) := by decide +kernel
theorem dX2_init_47 : decode cX2_init 47 = .ok (.iload_n 1, 1) := by decide +kernel
theorem dX2_init_48 : decode cX2_init 48 = .ok (.iconst 5, 1) := by decide +kernel
theorem dX2_init_49 : decode cX2_init 49 = .ok (.if_icmp .ge 22, 3) := by decide +kernel
theorem dX2_init_52 : decode cX2_init 52 = .ok (.aload_n 0, 1) := by decide +kernel
theorem dX2_init_53 : decode cX2_init 53 = .ok (.getfield 20, 3) := by decide +kernel
theorem dX2_init_56 : decode cX2_init 56 = .ok (.iload_n 1, 1) := by decide +kernel
theorem dX2_init_57 : decode cX2_init 57 = .ok (.new 18, 3) := by decide +kernel
end
section
theorem dX2_init_60 : decode cX2_init 60 = .ok (.dup, 1) := by decide +kernel
theorem dX2_init_61 : decode cX2_init 61 = .ok (.invokespecial 35, 3) := by decide +kernel
theorem dX2_init_64 : decode cX2_init 64 = .ok (.aastore, 1) := by decide +kernel
theorem dX2_init_65 : decode cX2_init 65 = .ok (.iinc 1 1, 3) := by decide +kernel
theorem dX2_init_68 : decode cX2_init 68 = .ok (.goto (-21), 3) := by decide +kernel
theorem dX2_init_71 : decode cX2_init 71 = .ok (.aload_n 0, 1) := by decide +kernel
theorem dX2_init_72 : decode cX2_init 72 = .ok (.getfield 24, 3) := by decide +kernel
theorem dX2_init_75 : decode cX2_init 75 = .ok (.iconst 1, 1) := by decide +kernel
theorem dX2_init_76 : decode cX2_init 76 = .ok (.invokestatic 36, 3) := by decide +kernel
theorem dX2_init_79 : decode cX2_init 79 = .ok (.return_, 1) := by decide +kernel
theorem dX2_clear_0 : decode cX2_clear 0 = .ok (.aload_n 0, 1) := by decide +kernel
theorem dX2_clear_1 : decode cX2_clear 1 = .ok (.getfield 12, 3) := by decide +kernel
theorem dX2_clear_4 : decode cX2_clear 4 = .ok (.iload_n 1, 1) := by decide +kernel
theorem dX2_clear_5 : decode cX2_clear 5 = .ok (.iload_n 2, 1) := by decide +kernel
theorem dX2_clear_6 : decode cX2_clear 6 = .ok (.invokevirtual 42, 3) := by decide +kernel
theorem dX2_clear_9 : decode cX2_clear 9 = .ok (.iconst 0, 1) := by decide +kernel
theorem dX2_clear_10 : decode cX2_clear 10 = .ok (.istore_n 3, 1) := by decide +kernel
theorem dX2_clear_11 : decode cX2_clear 11 = .ok (.iload_n 3, 1) := by decide +kernel
theorem dX2_clear_12 : decode cX2_clear 12 = .ok (.iconst 5, 1) := by decide +kernel
theorem dX2_clear_13 : decode cX2_clear 13 = .ok (.if_icmp .ge 18, 3) := by decide +kernel
theorem dX2_clear_16 : decode cX2_clear 16 = .ok (.aload_n 0, 1) := by decide +kernel
theorem dX2_clear_17 : decode cX2_clear 17 = .ok (.getfield 20, 3) := by decide +kernel
theorem dX2_clear_20 : decode cX2_clear 20 = .ok (.iload_n 3, 1) := by decide +kernel
theorem dX2_clear_21 : decode cX2_clear 21 = .ok (.aaload, 1) := by decide +kernel
theorem dX2_clear_22 : decode cX2_clear 22 = .ok (.invokevirtual 46, 3) := by decide +kernel
theorem dX2_clear_25 : decode cX2_clear 25 = .ok (.iinc 3 1, 3) := by decide +kernel
theorem dX2_clear_28 : decode cX2_clear 28 = .ok (.goto (-17), 3) := by decide +kernel
theorem dX2_clear_31 : decode cX2_clear 31 = .ok (.return_, 1) := by decide +kernel
theorem dX2_has_0 : decode cX2_has 0 = .ok (.iload_n 1, 1) := by decide +kernel
theorem dX2_has_1 : decode cX2_has 1 = .ok (.ifCond .lt 24, 3) := by decide +kernel
theorem dX2_has_4 : decode cX2_has 4 = .ok (.iload_n 1, 1) := by decide +kernel
theorem dX2_has_5 : decode cX2_has 5 = .ok (.iconst 5, 1) := by decide +kernel
theorem dX2_has_6 : decode cX2_has 6 = .ok (.if_icmp .ge 19, 3) := by decide +kernel
theorem dX2_has_9 : decode cX2_has 9 = .ok (.aload_n 0, 1) := by decide +kernel
theorem dX2_has_10 : decode cX2_has 10 = .ok (.getfield 20, 3) := by decide +kernel
theorem dX2_has_13 : decode cX2_has 13 = .ok (.iload_n 1, 1) := by decide +kernel
theorem dX2_has_14 : decode cX2_has 14 = .ok (.aaload, 1) := by decide +kernel
theorem dX2_has_15 : decode cX2_has 15 = .ok (.getfield 48, 3) := by decide +kernel
theorem dX2_has_18 : decode cX2_has 18 = .ok (.ifCond .le 7, 3) := by decide +kernel
theorem dX2_has_21 : decode cX2_has 21 = .ok (.iconst 1, 1) := by decide +kernel
theorem dX2_has_22 : decode cX2_has 22 = .ok (.goto 4, 3) := by decide +kernel
theorem dX2_has_25 : decode cX2_has 25 = .ok (.iconst 0, 1) := by decide +kernel
theorem dX2_has_26 : decode cX2_has 26 = .ok (.ireturn, 1) := by decide +kernel
theorem dX2_blockCount_0 : decode cX2_blockCount 0 = .ok (.iconst 0, 1) := by decide +kernel
theorem dX2_blockCount_1 : decode cX2_blockCount 1 = .ok (.istore_n 1, 1) := by decide +kernel
theorem dX2_blockCount_2 : decode cX2_blockCount 2 = .ok (.iconst 0, 1) := by decide +kernel
theorem dX2_blockCount_3 : decode cX2_blockCount 3 = .ok (.istore_n 2, 1) := by decide +kernel
theorem dX2_blockCount_4 : decode cX2_blockCount 4 = .ok (.iload_n 2, 1) := by decide +kernel
theorem dX2_blockCount_5 : decode cX2_blockCount 5 = .ok (.iconst 5, 1) := by decide +kernel
theorem dX2_blockCount_6 : decode cX2_blockCount 6 = .ok (.if_icmp .ge 20, 3) := by decide +kernel
theorem dX2_blockCount_9 : decode cX2_blockCount 9 = .ok (.aload_n 0, 1) := by decide +kernel
theorem dX2_blockCount_10 : decode cX2_blockCount 10 = .ok (.iload_n 2, 1) := by decide +kernel
theorem dX2_blockCount_11 : decode cX2_blockCount 11 = .ok (.invokevirtual 51, 3) := by decide +kernel
theorem dX2_blockCount_14 : decode cX2_blockCount 14 = .ok (.ifCond .eq 6, 3) := by decide +kernel
theorem dX2_blockCount_17 : decode cX2_blockCount 17 = .ok (.iinc 1 1, 3) := by decide +kernel
theorem dX2_blockCount_20 : decode cX2_blockCount 20 = .ok (.iinc 2 1, 3) := by decide +kernel
theorem dX2_blockCount_23 : decode cX2_blockCount 23 = .ok (.goto (-19), 3) := by decide +kernel
theorem dX2_blockCount_26 : decode cX2_blockCount 26 = .ok (.iload_n 1, 1) := by decide +kernel
theorem dX2_blockCount_27 : decode cX2_blockCount 27 = .ok (.ireturn, 1) := by decide +kernel
theorem dX2_weightOf_0 : decode cX2_weightOf 0 = .ok (.iconst 0, 1) := by decide +kernel
theorem dX2_weightOf_1 : decode cX2_weightOf 1 = .ok (.istore_n 2, 1) := by decide +kernel
theorem dX2_weightOf_2 : decode cX2_weightOf 2 = .ok (.iconst 0, 1) := by decide +kernel
theorem dX2_weightOf_3 : decode cX2_weightOf 3 = .ok (.istore_n 3, 1) := by decide +kernel
theorem dX2_weightOf_4 : decode cX2_weightOf 4 = .ok (.iload_n 3, 1) := by decide +kernel
theorem dX2_weightOf_5 : decode cX2_weightOf 5 = .ok (.iconst 5, 1) := by decide +kernel
theorem dX2_weightOf_6 : decode cX2_weightOf 6 = .ok (.if_icmp .ge 29, 3) := by decide +kernel
theorem dX2_weightOf_9 : decode cX2_weightOf 9 = .ok (.iload_n 1, 1) := by decide +kernel
theorem dX2_weightOf_10 : decode cX2_weightOf 10 = .ok (.iload_n 3, 1) := by decide +kernel
theorem dX2_weightOf_11 : decode cX2_weightOf 11 = .ok (.ishr, 1) := by decide +kernel
theorem dX2_weightOf_12 : decode cX2_weightOf 12 = .ok (.iconst 1, 1) := by decide +kernel
theorem dX2_weightOf_13 : decode cX2_weightOf 13 = .ok (.iand, 1) := by decide +kernel
theorem dX2_weightOf_14 : decode cX2_weightOf 14 = .ok (.ifCond .eq 15, 3) := by decide +kernel
theorem dX2_weightOf_17 : decode cX2_weightOf 17 = .ok (.iload_n 2, 1) := by decide +kernel
theorem dX2_weightOf_18 : decode cX2_weightOf 18 = .ok (.aload_n 0, 1) := by decide +kernel
theorem dX2_weightOf_19 : decode cX2_weightOf 19 = .ok (.getfield 20, 3) := by decide +kernel
theorem dX2_weightOf_22 : decode cX2_weightOf 22 = .ok (.iload_n 3, 1) := by decide +kernel
theorem dX2_weightOf_23 : decode cX2_weightOf 23 = .ok (.aaload, 1) := by decide +kernel
theorem dX2_weightOf_24 : decode cX2_weightOf 24 = .ok (.getfield 55, 3) := by decide +kernel
theorem dX2_weightOf_27 : decode cX2_weightOf 27 = .ok (.iadd, 1) := by decide +kernel
theorem dX2_weightOf_28 : decode cX2_weightOf 28 = .ok (.istore_n 2, 1) := by decide +kernel
theorem dX2_weightOf_29 : decode cX2_weightOf 29 = .ok (.iinc 3 1, 3) := by decide +kernel
theorem dX2_weightOf_32 : decode cX2_weightOf 32 = .ok (.goto (-28), 3) := by decide +kernel
theorem dX2_weightOf_35 : decode cX2_weightOf 35 = .ok (.iload_n 2, 1) := by decide +kernel
theorem dX2_weightOf_36 : decode cX2_weightOf 36 = .ok (.ireturn, 1) := by decide +kernel
theorem dX2_boundOf_0 : decode cX2_boundOf 0 = .ok (.iconst 0, 1) := by decide +kernel
theorem dX2_boundOf_1 : decode cX2_boundOf 1 = .ok (.istore_n 3, 1) := by decide +kernel
theorem dX2_boundOf_2 : decode cX2_boundOf 2 = .ok (.iconst 0, 1) := by decide +kernel
theorem dX2_boundOf_3 : decode cX2_boundOf 3 = .ok (.istore 4, 2) := by decide +kernel
theorem dX2_boundOf_5 : decode cX2_boundOf 5 = .ok (.iload 4, 2) := by decide +kernel
theorem dX2_boundOf_7 : decode cX2_boundOf 7 = .ok (.iconst 5, 1) := by decide +kernel
theorem dX2_boundOf_8 : decode cX2_boundOf 8 = .ok (.if_icmp .ge 42, 3) := by decide +kernel
theorem dX2_boundOf_11 : decode cX2_boundOf 11 = .ok (.aload_n 0, 1) := by decide +kernel
theorem dX2_boundOf_12 : decode cX2_boundOf 12 = .ok (.getfield 20, 3) := by decide +kernel
theorem dX2_boundOf_15 : decode cX2_boundOf 15 = .ok (.iload 4, 2) := by decide +kernel
theorem dX2_boundOf_17 : decode cX2_boundOf 17 = .ok (.aaload, 1) := by decide +kernel
theorem dX2_boundOf_18 : decode cX2_boundOf 18 = .ok (.getfield 58, 3) := by decide +kernel
theorem dX2_boundOf_21 : decode cX2_boundOf 21 = .ok (.lload_n 1, 1) := by decide +kernel
theorem dX2_boundOf_22 : decode cX2_boundOf 22 = .ok (.iload 4, 2) := by decide +kernel
theorem dX2_boundOf_24 : decode cX2_boundOf 24 = .ok (.invokestatic 61, 3) := by decide +kernel
theorem dX2_boundOf_27 : decode cX2_boundOf 27 = .ok (.iaload, 1) := by decide +kernel
theorem dX2_boundOf_28 : decode cX2_boundOf 28 = .ok (.istore 5, 2) := by decide +kernel
theorem dX2_boundOf_30 : decode cX2_boundOf 30 = .ok (.iload 5, 2) := by decide +kernel
theorem dX2_boundOf_32 : decode cX2_boundOf 32 = .ok (.ifCond .ge 5, 3) := by decide +kernel
theorem dX2_boundOf_35 : decode cX2_boundOf 35 = .ok (.iconst (-1), 1) := by decide +kernel
theorem dX2_boundOf_36 : decode cX2_boundOf 36 = .ok (.ireturn, 1) := by decide +kernel
theorem dX2_boundOf_37 : decode cX2_boundOf 37 = .ok (.iload_n 3, 1) := by decide +kernel
theorem dX2_boundOf_38 : decode cX2_boundOf 38 = .ok (.iload 5, 2) := by decide +kernel
theorem dX2_boundOf_40 : decode cX2_boundOf 40 = .ok (.invokestatic 65, 3) := by decide +kernel
theorem dX2_boundOf_43 : decode cX2_boundOf 43 = .ok (.istore_n 3, 1) := by decide +kernel
theorem dX2_boundOf_44 : decode cX2_boundOf 44 = .ok (.iinc 4 1, 3) := by decide +kernel
theorem dX2_boundOf_47 : decode cX2_boundOf 47 = .ok (.goto (-42), 3) := by decide +kernel
theorem dX2_boundOf_50 : decode cX2_boundOf 50 = .ok (.iload_n 3, 1) := by decide +kernel
theorem dX2_boundOf_51 : decode cX2_boundOf 51 = .ok (.ireturn, 1) := by decide +kernel
theorem dX3_init_0 : decode cX3_init 0 = .ok (.aload_n 0, 1) := by decide +kernel
theorem dX3_init_1 : decode cX3_init 1 = .ok (.invokespecial 3, 3) := by decide +kernel
theorem dX3_init_4 : decode cX3_init 4 = .ok (.aload_n 0, 1) := by decide +kernel
theorem dX3_init_5 : decode cX3_init 5 = .ok (.iconst 5, 1) := by decide +kernel
theorem dX3_init_6 : decode cX3_init 6 = .ok (.newarray .int, 2) := by decide +kernel
theorem dX3_init_8 : decode cX3_init 8 = .ok (.putfield 9, 3) := by decide +kernel
theorem dX3_init_11 : decode cX3_init 11 = .ok (.aload_n 0, 1) := by decide +kernel
theorem dX3_init_12 : decode cX3_init 12 = .ok (.iconst 5, 1) := by decide +kernel
theorem dX3_init_13 : decode cX3_init 13 = .ok (.newarray .int, 2) := by decide +kernel
theorem dX3_init_15 : decode cX3_init 15 = .ok (.putfield 15, 3) := by decide +kernel
theorem dX3_init_18 : decode cX3_init 18 = .ok (.aload_n 0, 1) := by decide +kernel
theorem dX3_init_19 : decode cX3_init 19 = .ok (.iconst 5, 1) := by decide +kernel
theorem dX3_init_20 : decode cX3_init 20 = .ok (.newarray .int, 2) := by decide +kernel
theorem dX3_init_22 : decode cX3_init 22 = .ok (.putfield 18, 3) := by decide +kernel
theorem dX3_init_25 : decode cX3_init 25 = .ok (.aload_n 0, 1) := by decide +kernel
theorem dX3_init_26 : decode cX3_init 26 = .ok (.iconst 0, 1) := by decide +kernel
theorem dX3_init_27 : decode cX3_init 27 = .ok (.putfield 21, 3) := by decide +kernel
theorem dX3_init_30 : decode cX3_init 30 = .ok (.aload_n 0, 1) := by decide +kernel
theorem dX3_init_31 : decode cX3_init 31 = .ok (.iconst 0, 1) := by decide +kernel
theorem dX3_init_32 : decode cX3_init 32 = .ok (.putfield 25, 3) := by decide +kernel
theorem dX3_init_35 : decode cX3_init 35 = .ok (.aload_n 0, 1) := by decide +kernel
theorem dX3_init_36 : decode cX3_init 36 = .ok (.iconst 0, 1) := by decide +kernel
theorem dX3_init_37 : decode cX3_init 37 = .ok (.putfield 28, 3) := by decide +kernel
theorem dX3_init_40 : decode cX3_init 40 = .ok (.aload_n 0, 1) := by decide +kernel
theorem dX3_init_41 : decode cX3_init 41 = .ok (.aload_n 1, 1) := by decide +kernel
theorem dX3_init_42 : decode cX3_init 42 = .ok (.putfield 31, 3) := by decide +kernel
theorem dX3_init_45 : decode cX3_init 45 = .ok (.return_, 1) := by decide +kernel
theorem dX3_fault_0 : decode cX3_fault 0 = .ok (.aload_n 0, 1) := by decide +kernel
theorem dX3_fault_1 : decode cX3_fault 1 = .ok (.getfield 9, 3) := by decide +kernel
theorem dX3_fault_4 : decode cX3_fault 4 = .ok (.iconst 0, 1) := by decide +kernel
theorem dX3_fault_5 : decode cX3_fault 5 = .ok (.invokestatic 35, 3) := by decide +kernel
theorem dX3_fault_8 : decode cX3_fault 8 = .ok (.aload_n 0, 1) := by decide +kernel
theorem dX3_fault_9 : decode cX3_fault 9 = .ok (.getfield 18, 3) := by decide +kernel
theorem dX3_fault_12 : decode cX3_fault 12 = .ok (.iconst (-1), 1) := by decide +kernel
theorem dX3_fault_13 : decode cX3_fault 13 = .ok (.invokestatic 35, 3) := by decide +kernel
theorem dX3_fault_16 : decode cX3_fault 16 = .ok (.aload_n 0, 1) := by decide +kernel
theorem dX3_fault_17 : decode cX3_fault 17 = .ok (.bipush 8, 2) := by decide +kernel
theorem dX3_fault_19 : decode cX3_fault 19 = .ok (.putfield 21, 3) := by decide +kernel
theorem dX3_fault_22 : decode cX3_fault 22 = .ok (.aload_n 0, 1) := by decide +kernel
theorem dX3_fault_23 : decode cX3_fault 23 = .ok (.iconst 0, 1) := by decide +kernel
theorem dX3_fault_24 : decode cX3_fault 24 = .ok (.putfield 25, 3) := by decide +kernel
theorem dX3_fault_27 : decode cX3_fault 27 = .ok (.aload_n 0, 1) := by decide +kernel
theorem dX3_fault_28 : decode cX3_fault 28 = .ok (.iconst 0, 1) := by decide +kernel
theorem dX3_fault_29 : decode cX3_fault 29 = .ok (.putfield 28, 3) := by decide +kernel
theorem dX3_fault_32 : decode cX3_fault 32 = .ok (.iconst 0, 1) := by decide +kernel
theorem dX3_fault_33 : decode cX3_fault 33 = .ok (.istore_n 1, 1) := by decide +kernel
theorem dX3_fault_34 : decode cX3_fault 34 = .ok (.iload_n 1, 1) := by decide +kernel
theorem dX3_fault_35 : decode cX3_fault 35 = .ok (.aload_n 0, 1) := by decide +kernel
theorem dX3_fault_36 : decode cX3_fault 36 = .ok (.getfield 31, 3) := by decide +kernel
theorem dX3_fault_39 : decode cX3_fault 39 = .ok (.getfield 41, 3) := by decide +kernel
theorem dX3_fault_42 : decode cX3_fault 42 = .ok (.if_icmp .ge 44, 3) := by decide +kernel
theorem dX3_fault_45 : decode cX3_fault 45 = .ok (.aload_n 0, 1) := by decide +kernel
theorem dX3_fault_46 : decode cX3_fault 46 = .ok (.getfield 31, 3) := by decide +kernel
theorem dX3_fault_49 : decode cX3_fault 49 = .ok (.iload_n 1, 1) := by decide +kernel
theorem dX3_fault_50 : decode cX3_fault 50 = .ok (.invokevirtual 46, 3) := by decide +kernel
theorem dX3_fault_53 : decode cX3_fault 53 = .ok (.istore_n 2, 1) := by decide +kernel
theorem dX3_fault_54 : decode cX3_fault 54 = .ok (.iload_n 2, 1) := by decide +kernel
theorem dX3_fault_55 : decode cX3_fault 55 = .ok (.bipush 47, 2) := by decide +kernel
theorem dX3_fault_57 : decode cX3_fault 57 = .ok (.if_icmp .ne 10, 3) := by decide +kernel
theorem dX3_fault_60 : decode cX3_fault 60 = .ok (.aload_n 0, 1) := by decide +kernel
theorem dX3_fault_61 : decode cX3_fault 61 = .ok (.invokevirtual 50, 3) := by decide +kernel
theorem dX3_fault_64 : decode cX3_fault 64 = .ok (.goto 9, 3) := by decide +kernel
theorem dX3_fault_67 : decode cX3_fault 67 = .ok (.aload_n 0, 1) := by decide +kernel
theorem dX3_fault_68 : decode cX3_fault 68 = .ok (.iload_n 2, 1) := by decide +kernel
theorem dX3_fault_69 : decode cX3_fault 69 = .ok (.iload_n 1, 1) := by decide +kernel
theorem dX3_fault_70 : decode cX3_fault 70 = .ok (.invokevirtual 54, 3) := by decide +kernel
theorem dX3_fault_73 : decode cX3_fault 73 = .ok (.istore_n 3, 1) := by decide +kernel
theorem dX3_fault_74 : decode cX3_fault 74 = .ok (.iload_n 3, 1) := by decide +kernel
theorem dX3_fault_75 : decode cX3_fault 75 = .ok (.ifCond .ne 5, 3) := by decide +kernel
theorem dX3_fault_78 : decode cX3_fault 78 = .ok (.iload_n 1, 1) := by decide +kernel
theorem dX3_fault_79 : decode cX3_fault 79 = .ok (.ireturn, 1) := by decide +kernel
theorem dX3_fault_80 : decode cX3_fault 80 = .ok (.iinc 1 1, 3) := by decide +kernel
theorem dX3_fault_83 : decode cX3_fault 83 = .ok (.goto (-49), 3) := by decide +kernel
theorem dX3_fault_86 : decode cX3_fault 86 = .ok (.aload_n 0, 1) := by decide +kernel
theorem dX3_fault_87 : decode cX3_fault 87 = .ok (.getfield 25, 3) := by decide +kernel
theorem dX3_fault_90 : decode cX3_fault 90 = .ok (.iconst 1, 1) := by decide +kernel
theorem dX3_fault_91 : decode cX3_fault 91 = .ok (.iadd, 1) := by decide +kernel
theorem dX3_fault_92 : decode cX3_fault 92 = .ok (.iconst 3, 1) := by decide +kernel
theorem dX3_fault_93 : decode cX3_fault 93 = .ok (.if_icmp .lt 18, 3) := by decide +kernel
theorem dX3_fault_96 : decode cX3_fault 96 = .ok (.aload_n 0, 1) := by decide +kernel
theorem dX3_fault_97 : decode cX3_fault 97 = .ok (.getfield 28, 3) := by decide +kernel
theorem dX3_fault_100 : decode cX3_fault 100 = .ok (.aload_n 0, 1) := by decide +kernel
theorem dX3_fault_101 : decode cX3_fault 101 = .ok (.getfield 21, 3) := by decide +kernel
theorem dX3_fault_104 : decode cX3_fault 104 = .ok (.if_icmp .ne 7, 3) := by decide +kernel
theorem dX3_fault_107 : decode cX3_fault 107 = .ok (.iconst 1, 1) := by decide +kernel
theorem dX3_fault_108 : decode cX3_fault 108 = .ok (.goto 4, 3) := by decide +kernel
theorem dX3_fault_111 : decode cX3_fault 111 = .ok (.iconst 0, 1) := by decide +kernel
theorem dX3_fault_112 : decode cX3_fault 112 = .ok (.istore_n 1, 1) := by decide +kernel
theorem dX3_fault_113 : decode cX3_fault 113 = .ok (.iload_n 1, 1) := by decide +kernel
theorem dX3_fault_114 : decode cX3_fault 114 = .ok (.ifCond .eq 10, 3) := by decide +kernel
theorem dX3_fault_117 : decode cX3_fault 117 = .ok (.aload_n 0, 1) := by decide +kernel
theorem dX3_fault_118 : decode cX3_fault 118 = .ok (.invokevirtual 58, 3) := by decide +kernel
theorem dX3_fault_121 : decode cX3_fault 121 = .ok (.goto 10, 3) := by decide +kernel
theorem dX3_fault_124 : decode cX3_fault 124 = .ok (.aload_n 0, 1) := by decide +kernel
theorem dX3_fault_125 : decode cX3_fault 125 = .ok (.getfield 31, 3) := by decide +kernel
theorem dX3_fault_128 : decode cX3_fault 128 = .ok (.getfield 41, 3) := by decide +kernel
theorem dX3_fault_131 : decode cX3_fault 131 = .ok (.ireturn, 1) := by decide +kernel
theorem dX3_endRow_0 : decode cX3_endRow 0 = .ok (.aload_n 0, 1) := by decide +kernel
theorem dX3_endRow_1 : decode cX3_endRow 1 = .ok (.getfield 25, 3) := by decide +kernel
theorem dX3_endRow_4 : decode cX3_endRow 4 = .ok (.ifCond .ne 19, 3) := by decide +kernel
theorem dX3_endRow_7 : decode cX3_endRow 7 = .ok (.aload_n 0, 1) := by decide +kernel
theorem dX3_endRow_8 : decode cX3_endRow 8 = .ok (.getfield 28, 3) := by decide +kernel
theorem dX3_endRow_11 : decode cX3_endRow 11 = .ok (.iconst 3, 1) := by decide +kernel
theorem dX3_endRow_12 : decode cX3_endRow 12 = .ok (.if_icmp .lt 7, 3) := by decide +kernel
theorem dX3_endRow_15 : decode cX3_endRow 15 = .ok (.iconst 1, 1) := by decide +kernel
theorem dX3_endRow_16 : decode cX3_endRow 16 = .ok (.goto 23, 3) := by decide +kernel
theorem dX3_endRow_19 : decode cX3_endRow 19 = .ok (.iconst 0, 1) := by decide +kernel
theorem dX3_endRow_20 : decode cX3_endRow 20 = .ok (.goto 19, 3) := by decide +kernel
theorem dX3_endRow_23 : decode cX3_endRow 23 = .ok (.aload_n 0, 1) := by decide +kernel
theorem dX3_endRow_24 : decode cX3_endRow 24 = .ok (.getfield 28, 3) := by decide +kernel
theorem dX3_endRow_27 : decode cX3_endRow 27 = .ok (.aload_n 0, 1) := by decide +kernel
theorem dX3_endRow_28 : decode cX3_endRow 28 = .ok (.getfield 21, 3) := by decide +kernel
theorem dX3_endRow_31 : decode cX3_endRow 31 = .ok (.if_icmp .ne 7, 3) := by decide +kernel
theorem dX3_endRow_34 : decode cX3_endRow 34 = .ok (.iconst 1, 1) := by decide +kernel
theorem dX3_endRow_35 : decode cX3_endRow 35 = .ok (.goto 4, 3) := by decide +kernel
theorem dX3_endRow_38 : decode cX3_endRow 38 = .ok (.iconst 0, 1) := by decide +kernel
theorem dX3_endRow_39 : decode cX3_endRow 39 = .ok (.istore_n 1, 1) := by decide +kernel
theorem dX3_endRow_40 : decode cX3_endRow 40 = .ok (.iload_n 1, 1) := by decide +kernel
theorem dX3_endRow_41 : decode cX3_endRow 41 = .ok (.ifCond .eq 14, 3) := by decide +kernel
theorem dX3_endRow_44 : decode cX3_endRow 44 = .ok (.aload_n 0, 1) := by decide +kernel
theorem dX3_endRow_45 : decode cX3_endRow 45 = .ok (.getfield 25, 3) := by decide +kernel
theorem dX3_endRow_48 : decode cX3_endRow 48 = .ok (.iconst 1, 1) := by decide +kernel
theorem dX3_endRow_49 : decode cX3_endRow 49 = .ok (.iadd, 1) := by decide +kernel
theorem dX3_endRow_50 : decode cX3_endRow 50 = .ok (.bipush 8, 2) := by decide +kernel
theorem dX3_endRow_52 : decode cX3_endRow 52 = .ok (.if_icmp .lt 5, 3) := by decide +kernel
theorem dX3_endRow_55 : decode cX3_endRow 55 = .ok (.iconst 0, 1) := by decide +kernel
theorem dX3_endRow_56 : decode cX3_endRow 56 = .ok (.ireturn, 1) := by decide +kernel
theorem dX3_endRow_57 : decode cX3_endRow 57 = .ok (.aload_n 0, 1) := by decide +kernel
theorem dX3_endRow_58 : decode cX3_endRow 58 = .ok (.aload_n 0, 1) := by decide +kernel
theorem dX3_endRow_59 : decode cX3_endRow 59 = .ok (.getfield 28, 3) := by decide +kernel
theorem dX3_endRow_62 : decode cX3_endRow 62 = .ok (.putfield 21, 3) := by decide +kernel
theorem dX3_endRow_65 : decode cX3_endRow 65 = .ok (.aload_n 0, 1) := by decide +kernel
theorem dX3_endRow_66 : decode cX3_endRow 66 = .ok (.dup, 1) := by decide +kernel
theorem dX3_endRow_67 : decode cX3_endRow 67 = .ok (.getfield 25, 3) := by decide +kernel
theorem dX3_endRow_70 : decode cX3_endRow 70 = .ok (.iconst 1, 1) := by decide +kernel
theorem dX3_endRow_71 : decode cX3_endRow 71 = .ok (.iadd, 1) := by decide +kernel
theorem dX3_endRow_72 : decode cX3_endRow 72 = .ok (.putfield 25, 3) := by decide +kernel
theorem dX3_endRow_75 : decode cX3_endRow 75 = .ok (.aload_n 0, 1) := by decide +kernel
theorem dX3_endRow_76 : decode cX3_endRow 76 = .ok (.iconst 0, 1) := by decide +kernel
theorem dX3_endRow_77 : decode cX3_endRow 77 = .ok (.putfield 28, 3) := by decide +kernel
theorem dX3_endRow_80 : decode cX3_endRow 80 = .ok (.iconst 1, 1) := by decide +kernel
theorem dX3_endRow_81 : decode cX3_endRow 81 = .ok (.ireturn, 1) := by decide +kernel
theorem dX3_addCell_0 : decode cX3_addCell 0 = .ok (.aload_n 0, 1) := by decide +kernel
theorem dX3_addCell_1 : decode cX3_addCell 1 = .ok (.getfield 28, 3) := by decide +kernel
theorem dX3_addCell_4 : decode cX3_addCell 4 = .ok (.aload_n 0, 1) := by decide +kernel
theorem dX3_addCell_5 : decode cX3_addCell 5 = .ok (.getfield 21, 3) := by decide +kernel
theorem dX3_addCell_8 : decode cX3_addCell 8 = .ok (.if_icmp .lt 5, 3) := by decide +kernel
theorem dX3_addCell_11 : decode cX3_addCell 11 = .ok (.iconst 0, 1) := by decide +kernel
theorem dX3_addCell_12 : decode cX3_addCell 12 = .ok (.ireturn, 1) := by decide +kernel
theorem dX3_addCell_13 : decode cX3_addCell 13 = .ok (.iload_n 1, 1) := by decide +kernel
theorem dX3_addCell_14 : decode cX3_addCell 14 = .ok (.invokestatic 62, 3) := by decide +kernel
theorem dX3_addCell_17 : decode cX3_addCell 17 = .ok (.istore_n 3, 1) := by decide +kernel
theorem dX3_addCell_18 : decode cX3_addCell 18 = .ok (.iload_n 3, 1) := by decide +kernel
theorem dX3_addCell_19 : decode cX3_addCell 19 = .ok (.ifCond .ge 18, 3) := by decide +kernel
theorem dX3_addCell_22 : decode cX3_addCell 22 = .ok (.iload_n 1, 1) := by decide +kernel
theorem dX3_addCell_23 : decode cX3_addCell 23 = .ok (.invokestatic 66, 3) := by decide +kernel
theorem dX3_addCell_26 : decode cX3_addCell 26 = .ok (.ifCond .lt 7, 3) := by decide +kernel
theorem dX3_addCell_29 : decode cX3_addCell 29 = .ok (.iconst 1, 1) := by decide +kernel
theorem dX3_addCell_30 : decode cX3_addCell 30 = .ok (.goto 17, 3) := by decide +kernel
theorem dX3_addCell_33 : decode cX3_addCell 33 = .ok (.iconst 0, 1) := by decide +kernel
theorem dX3_addCell_34 : decode cX3_addCell 34 = .ok (.goto 13, 3) := by decide +kernel
theorem dX3_addCell_37 : decode cX3_addCell 37 = .ok (.aload_n 0, 1) := by decide +kernel
theorem dX3_addCell_38 : decode cX3_addCell 38 = .ok (.iload_n 3, 1) := by decide +kernel
theorem dX3_addCell_39 : decode cX3_addCell 39 = .ok (.iload_n 1, 1) := by decide +kernel
theorem dX3_addCell_40 : decode cX3_addCell 40 = .ok (.invokestatic 69, 3) := by decide +kernel
theorem dX3_addCell_43 : decode cX3_addCell 43 = .ok (.iload_n 2, 1) := by decide +kernel
theorem dX3_addCell_44 : decode cX3_addCell 44 = .ok (.invokevirtual 73, 3) := by decide +kernel
theorem dX3_addCell_47 : decode cX3_addCell 47 = .ok (.istore 4, 2) := by decide +kernel
theorem dX3_addCell_49 : decode cX3_addCell 49 = .ok (.aload_n 0, 1) := by decide +kernel
theorem dX3_addCell_50 : decode cX3_addCell 50 = .ok (.dup, 1) := by decide +kernel
theorem dX3_addCell_51 : decode cX3_addCell 51 = .ok (.getfield 28, 3) := by decide +kernel
theorem dX3_addCell_54 : decode cX3_addCell 54 = .ok (.iconst 1, 1) := by decide +kernel
theorem dX3_addCell_55 : decode cX3_addCell 55 = .ok (.iadd, 1) := by decide +kernel
theorem dX3_addCell_56 : decode cX3_addCell 56 = .ok (.putfield 28, 3) := by decide +kernel
theorem dX3_addCell_59 : decode cX3_addCell 59 = .ok (.iload 4, 2) := by decide +kernel
theorem dX3_addCell_61 : decode cX3_addCell 61 = .ok (.ireturn, 1) := by decide +kernel
theorem dX3_addBlockCell_0 : decode cX3_addBlockCell 0 = .ok (.aload_n 0, 1) := by decide +kernel
theorem dX3_addBlockCell_1 : decode cX3_addBlockCell 1 = .ok (.getfield 9, 3) := by decide +kernel
theorem dX3_addBlockCell_4 : decode cX3_addBlockCell 4 = .ok (.iload_n 1, 1) := by decide +kernel
theorem dX3_addBlockCell_5 : decode cX3_addBlockCell 5 = .ok (.iaload, 1) := by decide +kernel
theorem dX3_addBlockCell_6 : decode cX3_addBlockCell 6 = .ok (.iconst 5, 1) := by decide +kernel
theorem dX3_addBlockCell_7 : decode cX3_addBlockCell 7 = .ok (.if_icmp .ge 17, 3) := by decide +kernel
theorem dX3_addBlockCell_10 : decode cX3_addBlockCell 10 = .ok (.iload_n 2, 1) := by decide +kernel
theorem dX3_addBlockCell_11 : decode cX3_addBlockCell 11 = .ok (.ifCond .eq 15, 3) := by decide +kernel
theorem dX3_addBlockCell_14 : decode cX3_addBlockCell 14 = .ok (.aload_n 0, 1) := by decide +kernel
theorem dX3_addBlockCell_15 : decode cX3_addBlockCell 15 = .ok (.getfield 18, 3) := by decide +kernel
theorem dX3_addBlockCell_18 : decode cX3_addBlockCell 18 = .ok (.iload_n 1, 1) := by decide +kernel
theorem dX3_addBlockCell_19 : decode cX3_addBlockCell 19 = .ok (.iaload, 1) := by decide +kernel
theorem dX3_addBlockCell_20 : decode cX3_addBlockCell 20 = .ok (.iconst (-1), 1) := by decide +kernel
theorem dX3_addBlockCell_21 : decode cX3_addBlockCell 21 = .ok (.if_icmp .eq 5, 3) := by decide +kernel
theorem dX3_addBlockCell_24 : decode cX3_addBlockCell 24 = .ok (.iconst 0, 1) := by decide +kernel
theorem dX3_addBlockCell_25 : decode cX3_addBlockCell 25 = .ok (.ireturn, 1) := by decide +kernel
theorem dX3_addBlockCell_26 : decode cX3_addBlockCell 26 = .ok (.aload_n 0, 1) := by decide +kernel
theorem dX3_addBlockCell_27 : decode cX3_addBlockCell 27 = .ok (.getfield 9, 3) := by decide +kernel
theorem dX3_addBlockCell_30 : decode cX3_addBlockCell 30 = .ok (.iload_n 1, 1) := by decide +kernel
theorem dX3_addBlockCell_31 : decode cX3_addBlockCell 31 = .ok (.iaload, 1) := by decide +kernel
theorem dX3_addBlockCell_32 : decode cX3_addBlockCell 32 = .ok (.ifCond .ne 10, 3) := by decide +kernel
theorem dX3_addBlockCell_35 : decode cX3_addBlockCell 35 = .ok (.aload_n 0, 1) := by decide +kernel
theorem dX3_addBlockCell_36 : decode cX3_addBlockCell 36 = .ok (.getfield 15, 3) := by decide +kernel
theorem dX3_addBlockCell_39 : decode cX3_addBlockCell 39 = .ok (.iload_n 1, 1) := by decide +kernel
theorem dX3_addBlockCell_40 : decode cX3_addBlockCell 40 = .ok (.iload_n 3, 1) := by decide +kernel
theorem dX3_addBlockCell_41 : decode cX3_addBlockCell 41 = .ok (.iastore, 1) := by decide +kernel
theorem dX3_addBlockCell_42 : decode cX3_addBlockCell 42 = .ok (.iload_n 2, 1) := by decide +kernel
theorem dX3_addBlockCell_43 : decode cX3_addBlockCell 43 = .ok (.ifCond .eq 21, 3) := by decide +kernel
theorem dX3_addBlockCell_46 : decode cX3_addBlockCell 46 = .ok (.aload_n 0, 1) := by decide +kernel
theorem dX3_addBlockCell_47 : decode cX3_addBlockCell 47 = .ok (.getfield 18, 3) := by decide +kernel
theorem dX3_addBlockCell_50 : decode cX3_addBlockCell 50 = .ok (.iload_n 1, 1) := by decide +kernel
theorem dX3_addBlockCell_51 : decode cX3_addBlockCell 51 = .ok (.bipush 8, 2) := by decide +kernel
theorem dX3_addBlockCell_53 : decode cX3_addBlockCell 53 = .ok (.aload_n 0, 1) := by decide +kernel
theorem dX3_addBlockCell_54 : decode cX3_addBlockCell 54 = .ok (.getfield 25, 3) := by decide +kernel
theorem dX3_addBlockCell_57 : decode cX3_addBlockCell 57 = .ok (.imul, 1) := by decide +kernel
theorem dX3_addBlockCell_58 : decode cX3_addBlockCell 58 = .ok (.aload_n 0, 1) := by decide +kernel
theorem dX3_addBlockCell_59 : decode cX3_addBlockCell 59 = .ok (.getfield 28, 3) := by decide +kernel
theorem dX3_addBlockCell_62 : decode cX3_addBlockCell 62 = .ok (.iadd, 1) := by decide +kernel
theorem dX3_addBlockCell_63 : decode cX3_addBlockCell 63 = .ok (.iastore, 1) := by decide +kernel
theorem dX3_addBlockCell_64 : decode cX3_addBlockCell 64 = .ok (.aload_n 0, 1) := by decide +kernel
theorem dX3_addBlockCell_65 : decode cX3_addBlockCell 65 = .ok (.getfield 9, 3) := by decide +kernel
theorem dX3_addBlockCell_68 : decode cX3_addBlockCell 68 = .ok (.iload_n 1, 1) := by decide +kernel
theorem dX3_addBlockCell_69 : decode cX3_addBlockCell 69 = .ok (.dup2, 1) := by decide +kernel
theorem dX3_addBlockCell_70 : decode cX3_addBlockCell 70 = .ok (.iaload, 1) := by decide +kernel
theorem dX3_addBlockCell_71 : decode cX3_addBlockCell 71 = .ok (.iconst 1, 1) := by decide +kernel
theorem dX3_addBlockCell_72 : decode cX3_addBlockCell 72 = .ok (.iadd, 1) := by decide +kernel
theorem dX3_addBlockCell_73 : decode cX3_addBlockCell 73 = .ok (.iastore, 1) := by decide +kernel
theorem dX3_addBlockCell_74 : decode cX3_addBlockCell 74 = .ok (.iconst 1, 1) := by decide +kernel
theorem dX3_addBlockCell_75 : decode cX3_addBlockCell 75 = .ok (.ireturn, 1) := by decide +kernel
theorem dX3_faultOfPivots_0 : decode cX3_faultOfPivots 0 = .ok (.iconst (-1), 1) := by decide +kernel
theorem dX3_faultOfPivots_1 : decode cX3_faultOfPivots 1 = .ok (.istore_n 1, 1) := by decide +kernel
theorem dX3_faultOfPivots_2 : decode cX3_faultOfPivots 2 = .ok (.iconst 0, 1) := by decide +kernel
theorem dX3_faultOfPivots_3 : decode cX3_faultOfPivots 3 = .ok (.istore_n 2, 1) := by decide +kernel
theorem dX3_faultOfPivots_4 : decode cX3_faultOfPivots 4 = .ok (.iload_n 2, 1) := by decide +kernel
theorem dX3_faultOfPivots_5 : decode cX3_faultOfPivots 5 = .ok (.iconst 5, 1) := by decide +kernel
theorem dX3_faultOfPivots_6 : decode cX3_faultOfPivots 6 = .ok (.if_icmp .ge 60, 3) := by decide +kernel
theorem dX3_faultOfPivots_9 : decode cX3_faultOfPivots 9 = .ok (.aload_n 0, 1) := by decide +kernel
theorem dX3_faultOfPivots_10 : decode cX3_faultOfPivots 10 = .ok (.getfield 9, 3) := by decide +kernel
theorem dX3_faultOfPivots_13 : decode cX3_faultOfPivots 13 = .ok (.iload_n 2, 1) := by decide +kernel
theorem dX3_faultOfPivots_14 : decode cX3_faultOfPivots 14 = .ok (.iaload, 1) := by decide +kernel
theorem dX3_faultOfPivots_15 : decode cX3_faultOfPivots 15 = .ok (.ifCond .le 17, 3) := by decide +kernel
theorem dX3_faultOfPivots_18 : decode cX3_faultOfPivots 18 = .ok (.aload_n 0, 1) := by decide +kernel
theorem dX3_faultOfPivots_19 : decode cX3_faultOfPivots 19 = .ok (.getfield 18, 3) := by decide +kernel
theorem dX3_faultOfPivots_22 : decode cX3_faultOfPivots 22 = .ok (.iload_n 2, 1) := by decide +kernel
theorem dX3_faultOfPivots_23 : decode cX3_faultOfPivots 23 = .ok (.iaload, 1) := by decide +kernel
theorem dX3_faultOfPivots_24 : decode cX3_faultOfPivots 24 = .ok (.iconst (-1), 1) := by decide +kernel
theorem dX3_faultOfPivots_25 : decode cX3_faultOfPivots 25 = .ok (.if_icmp .ne 7, 3) := by decide +kernel
theorem dX3_faultOfPivots_28 : decode cX3_faultOfPivots 28 = .ok (.iconst 1, 1) := by decide +kernel
theorem dX3_faultOfPivots_29 : decode cX3_faultOfPivots 29 = .ok (.goto 4, 3) := by decide +kernel
theorem dX3_faultOfPivots_32 : decode cX3_faultOfPivots 32 = .ok (.iconst 0, 1) := by decide +kernel
theorem dX3_faultOfPivots_33 : decode cX3_faultOfPivots 33 = .ok (.istore_n 3, 1) := by decide +kernel
theorem dX3_faultOfPivots_34 : decode cX3_faultOfPivots 34 = .ok (.iload_n 3, 1) := by decide +kernel
theorem dX3_faultOfPivots_35 : decode cX3_faultOfPivots 35 = .ok (.ifCond .eq 25, 3) := by decide +kernel
theorem dX3_faultOfPivots_38 : decode cX3_faultOfPivots 38 = .ok (.iload_n 1, 1) := by decide +kernel
theorem dX3_faultOfPivots_39 : decode cX3_faultOfPivots 39 = .ok (.iconst (-1), 1) := by decide +kernel
theorem dX3_faultOfPivots_40 : decode cX3_faultOfPivots 40 = .ok (.if_icmp .eq 13, 3) := by decide +kernel
theorem dX3_faultOfPivots_43 : decode cX3_faultOfPivots 43 = .ok (.aload_n 0, 1) := by decide +kernel
theorem dX3_faultOfPivots_44 : decode cX3_faultOfPivots 44 = .ok (.getfield 15, 3) := by decide +kernel
theorem dX3_faultOfPivots_47 : decode cX3_faultOfPivots 47 = .ok (.iload_n 2, 1) := by decide +kernel
theorem dX3_faultOfPivots_48 : decode cX3_faultOfPivots 48 = .ok (.iaload, 1) := by decide +kernel
theorem dX3_faultOfPivots_49 : decode cX3_faultOfPivots 49 = .ok (.iload_n 1, 1) := by decide +kernel
theorem dX3_faultOfPivots_50 : decode cX3_faultOfPivots 50 = .ok (.if_icmp .ge 10, 3) := by decide +kernel
theorem dX3_faultOfPivots_53 : decode cX3_faultOfPivots 53 = .ok (.aload_n 0, 1) := by decide +kernel
theorem dX3_faultOfPivots_54 : decode cX3_faultOfPivots 54 = .ok (.getfield 15, 3) := by decide +kernel
theorem dX3_faultOfPivots_57 : decode cX3_faultOfPivots 57 = .ok (.iload_n 2, 1) := by decide +kernel
theorem dX3_faultOfPivots_58 : decode cX3_faultOfPivots 58 = .ok (.iaload, 1) := by decide +kernel
theorem dX3_faultOfPivots_59 : decode cX3_faultOfPivots 59 = .ok (.istore_n 1, 1) := by decide +kernel
theorem dX3_faultOfPivots_60 : decode cX3_faultOfPivots 60 = .ok (.iinc 2 1, 3) := by decide +kernel
theorem dX3_faultOfPivots_63 : decode cX3_faultOfPivots 63 = .ok (.goto (-59), 3) := by decide +kernel
theorem dX3_faultOfPivots_66 : decode cX3_faultOfPivots 66 = .ok (.iload_n 1, 1) := by decide +kernel
theorem dX3_faultOfPivots_67 : decode cX3_faultOfPivots 67 = .ok (.ireturn, 1) := by decide +kernel
theorem dX3_build_0 : decode cX3_build 0 = .ok (.aload_n 1, 1) := by decide +kernel
theorem dX3_build_1 : decode cX3_build 1 = .ok (.aload_n 0, 1) := by decide +kernel
theorem dX3_build_2 : decode cX3_build 2 = .ok (.getfield 21, 3) := by decide +kernel
theorem dX3_build_5 : decode cX3_build 5 = .ok (.aload_n 0, 1) := by decide +kernel
theorem dX3_build_6 : decode cX3_build 6 = .ok (.getfield 25, 3) := by decide +kernel
theorem dX3_build_9 : decode cX3_build 9 = .ok (.iconst 1, 1) := by decide +kernel
theorem dX3_build_10 : decode cX3_build 10 = .ok (.iadd, 1) := by decide +kernel
theorem dX3_build_11 : decode cX3_build 11 = .ok (.invokevirtual 77, 3) := by decide +kernel
theorem dX3_build_14 : decode cX3_build 14 = .ok (.iconst 0, 1) := by decide +kernel
theorem dX3_build_15 : decode cX3_build 15 = .ok (.istore_n 2, 1) := by decide +kernel
theorem dX3_build_16 : decode cX3_build 16 = .ok (.iload_n 2, 1) := by decide +kernel
theorem dX3_build_17 : decode cX3_build 17 = .ok (.aload_n 0, 1) := by decide +kernel
theorem dX3_build_18 : decode cX3_build 18 = .ok (.getfield 25, 3) := by decide +kernel
theorem dX3_build_21 : decode cX3_build 21 = .ok (.if_icmp .gt 32, 3) := by decide +kernel
theorem dX3_build_24 : decode cX3_build 24 = .ok (.iconst 0, 1) := by decide +kernel
theorem dX3_build_25 : decode cX3_build 25 = .ok (.istore_n 3, 1) := by decide +kernel
theorem dX3_build_26 : decode cX3_build 26 = .ok (.iload_n 3, 1) := by decide +kernel
theorem dX3_build_27 : decode cX3_build 27 = .ok (.aload_n 0, 1) := by decide +kernel
theorem dX3_build_28 : decode cX3_build 28 = .ok (.getfield 21, 3) := by decide +kernel
theorem dX3_build_31 : decode cX3_build 31 = .ok (.if_icmp .ge 16, 3) := by decide +kernel
theorem dX3_build_34 : decode cX3_build 34 = .ok (.aload_n 0, 1) := by decide +kernel
theorem dX3_build_35 : decode cX3_build 35 = .ok (.aload_n 1, 1) := by decide +kernel
theorem dX3_build_36 : decode cX3_build 36 = .ok (.iload_n 3, 1) := by decide +kernel
theorem dX3_build_37 : decode cX3_build 37 = .ok (.iload_n 2, 1) := by decide +kernel
theorem dX3_build_38 : decode cX3_build 38 = .ok (.invokevirtual 83, 3) := by decide +kernel
theorem dX3_build_41 : decode cX3_build 41 = .ok (.iinc 3 1, 3) := by decide +kernel
theorem dX3_build_44 : decode cX3_build 44 = .ok (.goto (-18), 3) := by decide +kernel
theorem dX3_build_47 : decode cX3_build 47 = .ok (.iinc 2 1, 3) := by decide +kernel
theorem dX3_build_50 : decode cX3_build 50 = .ok (.goto (-34), 3) := by decide +kernel
theorem dX3_build_53 : decode cX3_build 53 = .ok (.lconst 0, 1) := by decide +kernel
theorem dX3_build_54 : decode cX3_build 54 = .ok (.lstore_n 2, 1) := by decide +kernel
theorem dX3_build_55 : decode cX3_build 55 = .ok (.iconst 0, 1) := by decide +kernel
theorem dX3_build_56 : decode cX3_build 56 = .ok (.istore 4, 2) := by decide +kernel
theorem dX3_build_58 : decode cX3_build 58 = .ok (.iload 4, 2) := by decide +kernel
theorem dX3_build_60 : decode cX3_build 60 = .ok (.iconst 5, 1) := by decide +kernel
theorem dX3_build_61 : decode cX3_build 61 = .ok (.if_icmp .ge 48, 3) := by decide +kernel
theorem dX3_build_64 : decode cX3_build 64 = .ok (.aload_n 0, 1) := by decide +kernel
theorem dX3_build_65 : decode cX3_build 65 = .ok (.getfield 18, 3) := by decide +kernel
theorem dX3_build_68 : decode cX3_build 68 = .ok (.iload 4, 2) := by decide +kernel
theorem dX3_build_70 : decode cX3_build 70 = .ok (.iaload, 1) := by decide +kernel
theorem dX3_build_71 : decode cX3_build 71 = .ok (.iconst (-1), 1) := by decide +kernel
theorem dX3_build_72 : decode cX3_build 72 = .ok (.if_icmp .eq 31, 3) := by decide +kernel
theorem dX3_build_75 : decode cX3_build 75 = .ok (.aload_n 1, 1) := by decide +kernel
theorem dX3_build_76 : decode cX3_build 76 = .ok (.getfield 87, 3) := by decide +kernel
theorem dX3_build_79 : decode cX3_build 79 = .ok (.iload 4, 2) := by decide +kernel
theorem dX3_build_81 : decode cX3_build 81 = .ok (.aaload, 1) := by decide +kernel
theorem dX3_build_82 : decode cX3_build 82 = .ok (.aload_n 1, 1) := by decide +kernel
theorem dX3_build_83 : decode cX3_build 83 = .ok (.getfield 91, 3) := by decide +kernel
theorem dX3_build_86 : decode cX3_build 86 = .ok (.invokevirtual 95, 3) := by decide +kernel
theorem dX3_build_89 : decode cX3_build 89 = .ok (.lload_n 2, 1) := by decide +kernel
theorem dX3_build_90 : decode cX3_build 90 = .ok (.iload 4, 2) := by decide +kernel
theorem dX3_build_92 : decode cX3_build 92 = .ok (.aload_n 0, 1) := by decide +kernel
theorem dX3_build_93 : decode cX3_build 93 = .ok (.getfield 18, 3) := by decide +kernel
theorem dX3_build_96 : decode cX3_build 96 = .ok (.iload 4, 2) := by decide +kernel
theorem dX3_build_98 : decode cX3_build 98 = .ok (.iaload, 1) := by decide +kernel
theorem dX3_build_99 : decode cX3_build 99 = .ok (.invokestatic 101, 3) := by decide +kernel
theorem dX3_build_102 : decode cX3_build 102 = .ok (.lstore_n 2, 1) := by decide +kernel
theorem dX3_build_103 : decode cX3_build 103 = .ok (.iinc 4 1, 3) := by decide +kernel
theorem dX3_build_106 : decode cX3_build 106 = .ok (.goto (-48), 3) := by decide +kernel
theorem dX3_build_109 : decode cX3_build 109 = .ok (.lload_n 2, 1) := by decide +kernel
theorem dX3_build_110 : decode cX3_build 110 = .ok (.lreturn, 1) := by decide +kernel
theorem dX3_buildCell_0 : decode cX3_buildCell 0 = .ok (.aload_n 0, 1) := by decide +kernel
theorem dX3_buildCell_1 : decode cX3_buildCell 1 = .ok (.getfield 31, 3) := by decide +kernel
theorem dX3_buildCell_4 : decode cX3_buildCell 4 = .ok (.aload_n 0, 1) := by decide +kernel
theorem dX3_buildCell_5 : decode cX3_buildCell 5 = .ok (.getfield 21, 3) := by decide +kernel
theorem dX3_buildCell_8 : decode cX3_buildCell 8 = .ok (.iconst 1, 1) := by decide +kernel
theorem dX3_buildCell_9 : decode cX3_buildCell 9 = .ok (.iadd, 1) := by decide +kernel
theorem dX3_buildCell_10 : decode cX3_buildCell 10 = .ok (.iload_n 3, 1) := by decide +kernel
theorem dX3_buildCell_11 : decode cX3_buildCell 11 = .ok (.imul, 1) := by decide +kernel
theorem dX3_buildCell_12 : decode cX3_buildCell 12 = .ok (.iload_n 2, 1) := by decide +kernel
theorem dX3_buildCell_13 : decode cX3_buildCell 13 = .ok (.iadd, 1) := by decide +kernel
theorem dX3_buildCell_14 : decode cX3_buildCell 14 = .ok (.invokevirtual 46, 3) := by decide +kernel
theorem dX3_buildCell_17 : decode cX3_buildCell 17 = .ok (.istore 4, 2) := by decide +kernel
theorem dX3_buildCell_19 : decode cX3_buildCell 19 = .ok (.iload 4, 2) := by decide +kernel
theorem dX3_buildCell_21 : decode cX3_buildCell 21 = .ok (.invokestatic 62, 3) := by decide +kernel
theorem dX3_buildCell_24 : decode cX3_buildCell 24 = .ok (.istore 5, 2) := by decide +kernel
theorem dX3_buildCell_26 : decode cX3_buildCell 26 = .ok (.iload 5, 2) := by decide +kernel
theorem dX3_buildCell_28 : decode cX3_buildCell 28 = .ok (.ifCond .ge 24, 3) := by decide +kernel
theorem dX3_buildCell_31 : decode cX3_buildCell 31 = .ok (.aload_n 1, 1) := by decide +kernel
theorem dX3_buildCell_32 : decode cX3_buildCell 32 = .ok (.getfield 91, 3) := by decide +kernel
theorem dX3_buildCell_35 : decode cX3_buildCell 35 = .ok (.bipush 8, 2) := by decide +kernel
theorem dX3_buildCell_37 : decode cX3_buildCell 37 = .ok (.iload_n 3, 1) := by decide +kernel
theorem dX3_buildCell_38 : decode cX3_buildCell 38 = .ok (.imul, 1) := by decide +kernel
theorem dX3_buildCell_39 : decode cX3_buildCell 39 = .ok (.iload_n 2, 1) := by decide +kernel
theorem dX3_buildCell_40 : decode cX3_buildCell 40 = .ok (.iadd, 1) := by decide +kernel
theorem dX3_buildCell_41 : decode cX3_buildCell 41 = .ok (.iload 4, 2) := by decide +kernel
theorem dX3_buildCell_43 : decode cX3_buildCell 43 = .ok (.invokestatic 66, 3) := by decide +kernel
theorem dX3_buildCell_46 : decode cX3_buildCell 46 = .ok (.invokevirtual 105, 3) := by decide +kernel
theorem dX3_buildCell_49 : decode cX3_buildCell 49 = .ok (.goto 37, 3) := by decide +kernel
theorem dX3_buildCell_52 : decode cX3_buildCell 52 = .ok (.aload_n 1, 1) := by decide +kernel
theorem dX3_buildCell_53 : decode cX3_buildCell 53 = .ok (.getfield 87, 3) := by decide +kernel
theorem dX3_buildCell_56 : decode cX3_buildCell 56 = .ok (.iload 5, 2) := by decide +kernel
theorem dX3_buildCell_58 : decode cX3_buildCell 58 = .ok (.aaload, 1) := by decide +kernel
theorem dX3_buildCell_59 : decode cX3_buildCell 59 = .ok (.iload_n 2, 1) := by decide +kernel
theorem dX3_buildCell_60 : decode cX3_buildCell 60 = .ok (.aload_n 0, 1) := by decide +kernel
theorem dX3_buildCell_61 : decode cX3_buildCell 61 = .ok (.getfield 18, 3) := by decide +kernel
theorem dX3_buildCell_64 : decode cX3_buildCell 64 = .ok (.iload 5, 2) := by decide +kernel
theorem dX3_buildCell_66 : decode cX3_buildCell 66 = .ok (.iaload, 1) := by decide +kernel
theorem dX3_buildCell_67 : decode cX3_buildCell 67 = .ok (.invokestatic 110, 3) := by decide +kernel
theorem dX3_buildCell_70 : decode cX3_buildCell 70 = .ok (.isub, 1) := by decide +kernel
theorem dX3_buildCell_71 : decode cX3_buildCell 71 = .ok (.iload_n 3, 1) := by decide +kernel
theorem dX3_buildCell_72 : decode cX3_buildCell 72 = .ok (.aload_n 0, 1) := by decide +kernel
theorem dX3_buildCell_73 : decode cX3_buildCell 73 = .ok (.getfield 18, 3) := by decide +kernel
theorem dX3_buildCell_76 : decode cX3_buildCell 76 = .ok (.iload 5, 2) := by decide +kernel
theorem dX3_buildCell_78 : decode cX3_buildCell 78 = .ok (.iaload, 1) := by decide +kernel
theorem dX3_buildCell_79 : decode cX3_buildCell 79 = .ok (.invokestatic 114, 3) := by decide +kernel
theorem dX3_buildCell_82 : decode cX3_buildCell 82 = .ok (.isub, 1) := by decide +kernel
theorem dX3_buildCell_83 : decode cX3_buildCell 83 = .ok (.invokevirtual 117, 3) := by decide +kernel
theorem dX3_buildCell_86 : decode cX3_buildCell 86 = .ok (.return_, 1) := by decide +kernel
theorem dX3_groundOf_0 : decode cX3_groundOf 0 = .ok (.iload_n 0, 1) := by decide +kernel
theorem dX3_groundOf_1 : decode cX3_groundOf 1 = .ok (.getstatic 119, 3) := by decide +kernel
theorem dX3_groundOf_4 : decode cX3_groundOf 4 = .ok (.invokestatic 123, 3) := by decide +kernel
theorem dX3_groundOf_7 : decode cX3_groundOf 7 = .ok (.ireturn, 1) := by decide +kernel
theorem dX3_isPivot_0 : decode cX3_isPivot 0 = .ok (.iload_n 0, 1) := by decide +kernel
theorem dX3_isPivot_1 : decode cX3_isPivot 1 = .ok (.bipush 65, 2) := by decide +kernel
theorem dX3_isPivot_3 : decode cX3_isPivot 3 = .ok (.if_icmp .lt 13, 3) := by decide +kernel
theorem dX3_isPivot_6 : decode cX3_isPivot 6 = .ok (.iload_n 0, 1) := by decide +kernel
theorem dX3_isPivot_7 : decode cX3_isPivot 7 = .ok (.bipush 70, 2) := by decide +kernel
theorem dX3_isPivot_9 : decode cX3_isPivot 9 = .ok (.if_icmp .ge 7, 3) := by decide +kernel
theorem dX3_isPivot_12 : decode cX3_isPivot 12 = .ok (.iconst 1, 1) := by decide +kernel
theorem dX3_isPivot_13 : decode cX3_isPivot 13 = .ok (.goto 4, 3) := by decide +kernel
theorem dX3_isPivot_16 : decode cX3_isPivot 16 = .ok (.iconst 0, 1) := by decide +kernel
theorem dX3_isPivot_17 : decode cX3_isPivot 17 = .ok (.ireturn, 1) := by decide +kernel
theorem dX3_blockOf_0 : decode cX3_blockOf 0 = .ok (.iload_n 0, 1) := by decide +kernel
theorem dX3_blockOf_1 : decode cX3_blockOf 1 = .ok (.invokestatic 69, 3) := by decide +kernel
theorem dX3_blockOf_4 : decode cX3_blockOf 4 = .ok (.ifCond .eq 8, 3) := by decide +kernel
theorem dX3_blockOf_7 : decode cX3_blockOf 7 = .ok (.iload_n 0, 1) := by decide +kernel
theorem dX3_blockOf_8 : decode cX3_blockOf 8 = .ok (.bipush 65, 2) := by decide +kernel
theorem dX3_blockOf_10 : decode cX3_blockOf 10 = .ok (.isub, 1) := by decide +kernel
theorem dX3_blockOf_11 : decode cX3_blockOf 11 = .ok (.ireturn, 1) := by decide +kernel
theorem dX3_blockOf_12 : decode cX3_blockOf 12 = .ok (.iload_n 0, 1) := by decide +kernel
theorem dX3_blockOf_13 : decode cX3_blockOf 13 = .ok (.bipush 97, 2) := by decide +kernel
theorem dX3_blockOf_15 : decode cX3_blockOf 15 = .ok (.if_icmp .lt 16, 3) := by decide +kernel
theorem dX3_blockOf_18 : decode cX3_blockOf 18 = .ok (.iload_n 0, 1) := by decide +kernel
theorem dX3_blockOf_19 : decode cX3_blockOf 19 = .ok (.bipush 102, 2) := by decide +kernel
theorem dX3_blockOf_21 : decode cX3_blockOf 21 = .ok (.if_icmp .ge 10, 3) := by decide +kernel
theorem dX3_blockOf_24 : decode cX3_blockOf 24 = .ok (.iload_n 0, 1) := by decide +kernel
theorem dX3_blockOf_25 : decode cX3_blockOf 25 = .ok (.bipush 97, 2) := by decide +kernel
theorem dX3_blockOf_27 : decode cX3_blockOf 27 = .ok (.isub, 1) := by decide +kernel
theorem dX3_blockOf_28 : decode cX3_blockOf 28 = .ok (.goto 4, 3) := by decide +kernel
theorem dX3_blockOf_31 : decode cX3_blockOf 31 = .ok (.iconst (-1), 1) := by decide +kernel
theorem dX3_blockOf_32 : decode cX3_blockOf 32 = .ok (.ireturn, 1) := by decide +kernel
theorem dX4_init_0 : decode cX4_init 0 = .ok (.aload_n 0, 1) := by decide +kernel
theorem dX4_init_1 : decode cX4_init 1 = .ok (.invokespecial 3, 3) := by decide +kernel
theorem dX4_init_4 : decode cX4_init 4 = .ok (.aload_n 0, 1) := by decide +kernel
theorem dX4_init_5 : decode cX4_init 5 = .ok (.iconst 5, 1) := by decide +kernel
theorem dX4_init_6 : decode cX4_init 6 = .ok (.newarray .int, 2) := by decide +kernel
theorem dX4_init_8 : decode cX4_init 8 = .ok (.putfield 9, 3) := by decide +kernel
theorem dX4_init_11 : decode cX4_init 11 = .ok (.aload_n 0, 1) := by decide +kernel
theorem dX4_init_12 : decode cX4_init 12 = .ok (.iconst 5, 1) := by decide +kernel
theorem dX4_init_13 : decode cX4_init 13 = .ok (.newarray .int, 2) := by decide +kernel
theorem dX4_init_15 : decode cX4_init 15 = .ok (.putfield 15, 3) := by decide +kernel
theorem dX4_init_18 : decode cX4_init 18 = .ok (.aload_n 0, 1) := by decide +kernel
theorem dX4_init_19 : decode cX4_init 19 = .ok (.iconst 5, 1) := by decide +kernel
theorem dX4_init_20 : decode cX4_init 20 = .ok (.newarray .long, 2) := by decide +kernel
theorem dX4_init_22 : decode cX4_init 22 = .ok (.putfield 18, 3) := by decide +kernel
theorem dX4_init_25 : decode cX4_init 25 = .ok (.aload_n 0, 1) := by decide +kernel
theorem dX4_init_26 : decode cX4_init 26 = .ok (.lconst 0, 1) := by decide +kernel
theorem dX4_init_27 : decode cX4_init 27 = .ok (.putfield 22, 3) := by decide +kernel
theorem dX4_init_30 : decode cX4_init 30 = .ok (.aload_n 0, 1) := by decide +kernel
theorem dX4_init_31 : decode cX4_init 31 = .ok (.lconst 0, 1) := by decide +kernel
theorem dX4_init_32 : decode cX4_init 32 = .ok (.putfield 26, 3) := by decide +kernel
theorem dX4_init_35 : decode cX4_init 35 = .ok (.aload_n 0, 1) := by decide +kernel
theorem dX4_init_36 : decode cX4_init 36 = .ok (.lconst 0, 1) := by decide +kernel
theorem dX4_init_37 : decode cX4_init 37 = .ok (.putfield 29, 3) := by decide +kernel
theorem dX4_init_40 : decode cX4_init 40 = .ok (.aload_n 0, 1) := by decide +kernel
theorem dX4_init_41 : decode cX4_init 41 = .ok (.lconst 0, 1) := by decide +kernel
theorem dX4_init_42 : decode cX4_init 42 = .ok (.putfield 32, 3) := by decide +kernel
theorem dX4_init_45 : decode cX4_init 45 = .ok (.aload_n 0, 1) := by decide +kernel
theorem dX4_init_46 : decode cX4_init 46 = .ok (.aload_n 1, 1) := by decide +kernel
theorem dX4_init_47 : decode cX4_init 47 = .ok (.putfield 35, 3) := by decide +kernel
theorem dX4_init_50 : decode cX4_init 50 = .ok (.return_, 1) := by decide +kernel
theorem dX4_stand_0 : decode cX4_stand 0 = .ok (.aload_n 0, 1) := by decide +kernel
theorem dX4_stand_1 : decode cX4_stand 1 = .ok (.lload_n 1, 1) := by decide +kernel
theorem dX4_stand_2 : decode cX4_stand 2 = .ok (.putfield 22, 3) := by decide +kernel
theorem dX4_stand_5 : decode cX4_stand 5 = .ok (.aload_n 0, 1) := by decide +kernel
theorem dX4_stand_6 : decode cX4_stand 6 = .ok (.lconst 0, 1) := by decide +kernel
theorem dX4_stand_7 : decode cX4_stand 7 = .ok (.putfield 26, 3) := by decide +kernel
theorem dX4_stand_10 : decode cX4_stand 10 = .ok (.iconst 0, 1) := by decide +kernel
theorem dX4_stand_11 : decode cX4_stand 11 = .ok (.istore_n 3, 1) := by decide +kernel
theorem dX4_stand_12 : decode cX4_stand 12 = .ok (.iload_n 3, 1) := by decide +kernel
theorem dX4_stand_13 : decode cX4_stand 13 = .ok (.iconst 5, 1) := by decide +kernel
theorem dX4_stand_14 : decode cX4_stand 14 = .ok (.if_icmp .ge 78, 3) := by decide +kernel
theorem dX4_stand_17 : decode cX4_stand 17 = .ok (.aload_n 0, 1) := by decide +kernel
theorem dX4_stand_18 : decode cX4_stand 18 = .ok (.getfield 9, 3) := by decide +kernel
theorem dX4_stand_21 : decode cX4_stand 21 = .ok (.iload_n 3, 1) := by decide +kernel
theorem dX4_stand_22 : decode cX4_stand 22 = .ok (.aload_n 0, 1) := by decide +kernel
theorem dX4_stand_23 : decode cX4_stand 23 = .ok (.getfield 22, 3) := by decide +kernel
theorem dX4_stand_26 : decode cX4_stand 26 = .ok (.iload_n 3, 1) := by decide +kernel
theorem dX4_stand_27 : decode cX4_stand 27 = .ok (.invokestatic 39, 3) := by decide +kernel
theorem dX4_stand_30 : decode cX4_stand 30 = .ok (.iastore, 1) := by decide +kernel
theorem dX4_stand_31 : decode cX4_stand 31 = .ok (.aload_n 0, 1) := by decide +kernel
theorem dX4_stand_32 : decode cX4_stand 32 = .ok (.getfield 18, 3) := by decide +kernel
theorem dX4_stand_35 : decode cX4_stand 35 = .ok (.iload_n 3, 1) := by decide +kernel
theorem dX4_stand_36 : decode cX4_stand 36 = .ok (.aload_n 0, 1) := by decide +kernel
theorem dX4_stand_37 : decode cX4_stand 37 = .ok (.getfield 35, 3) := by decide +kernel
theorem dX4_stand_40 : decode cX4_stand 40 = .ok (.iload_n 3, 1) := by decide +kernel
theorem dX4_stand_41 : decode cX4_stand 41 = .ok (.invokevirtual 43, 3) := by decide +kernel
theorem dX4_stand_44 : decode cX4_stand 44 = .ok (.ifCond .eq 25, 3) := by decide +kernel
theorem dX4_stand_47 : decode cX4_stand 47 = .ok (.aload_n 0, 1) := by decide +kernel
theorem dX4_stand_48 : decode cX4_stand 48 = .ok (.getfield 35, 3) := by decide +kernel
theorem dX4_stand_51 : decode cX4_stand 51 = .ok (.getfield 49, 3) := by decide +kernel
theorem dX4_stand_54 : decode cX4_stand 54 = .ok (.iload_n 3, 1) := by decide +kernel
theorem dX4_stand_55 : decode cX4_stand 55 = .ok (.aaload, 1) := by decide +kernel
theorem dX4_stand_56 : decode cX4_stand 56 = .ok (.getfield 53, 3) := by decide +kernel
theorem dX4_stand_59 : decode cX4_stand 59 = .ok (.aload_n 0, 1) := by decide +kernel
theorem dX4_stand_60 : decode cX4_stand 60 = .ok (.getfield 9, 3) := by decide +kernel
theorem dX4_stand_63 : decode cX4_stand 63 = .ok (.iload_n 3, 1) := by decide +kernel
theorem dX4_stand_64 : decode cX4_stand 64 = .ok (.iaload, 1) := by decide +kernel
theorem dX4_stand_65 : decode cX4_stand 65 = .ok (.laload, 1) := by decide +kernel
theorem dX4_stand_66 : decode cX4_stand 66 = .ok (.goto 4, 3) := by decide +kernel
theorem dX4_stand_69 : decode cX4_stand 69 = .ok (.lconst 0, 1) := by decide +kernel
theorem dX4_stand_70 : decode cX4_stand 70 = .ok (.lastore, 1) := by decide +kernel
theorem dX4_stand_71 : decode cX4_stand 71 = .ok (.aload_n 0, 1) := by decide +kernel
theorem dX4_stand_72 : decode cX4_stand 72 = .ok (.dup, 1) := by decide +kernel
theorem dX4_stand_73 : decode cX4_stand 73 = .ok (.getfield 26, 3) := by decide +kernel
theorem dX4_stand_76 : decode cX4_stand 76 = .ok (.aload_n 0, 1) := by decide +kernel
theorem dX4_stand_77 : decode cX4_stand 77 = .ok (.getfield 18, 3) := by decide +kernel
theorem dX4_stand_80 : decode cX4_stand 80 = .ok (.iload_n 3, 1) := by decide +kernel
theorem dX4_stand_81 : decode cX4_stand 81 = .ok (.laload, 1) := by decide +kernel
theorem dX4_stand_82 : decode cX4_stand 82 = .ok (.lor, 1) := by decide +kernel
theorem dX4_stand_83 : decode cX4_stand 83 = .ok (.putfield 26, 3) := by decide +kernel
theorem dX4_stand_86 : decode cX4_stand 86 = .ok (.iinc 3 1, 3) := by decide +kernel
theorem dX4_stand_89 : decode cX4_stand 89 = .ok (.goto (-77), 3) := by decide +kernel
theorem dX4_stand_92 : decode cX4_stand 92 = .ok (.aload_n 0, 1) := by decide +kernel
theorem dX4_stand_93 : decode cX4_stand 93 = .ok (.lconst 0, 1) := by decide +kernel
theorem dX4_stand_94 : decode cX4_stand 94 = .ok (.putfield 29, 3) := by decide +kernel
theorem dX4_stand_97 : decode cX4_stand 97 = .ok (.iconst 0, 1) := by decide +kernel
theorem dX4_stand_98 : decode cX4_stand 98 = .ok (.istore_n 3, 1) := by decide +kernel
theorem dX4_stand_99 : decode cX4_stand 99 = .ok (.iload_n 3, 1) := by decide +kernel
theorem dX4_stand_100 : decode cX4_stand 100 = .ok (.iconst 4, 1) := by decide +kernel
theorem dX4_stand_101 : decode cX4_stand 101 = .ok (.if_icmp .ge 64, 3) := by decide +kernel
theorem dX4_stand_104 : decode cX4_stand 104 = .ok (.aload_n 0, 1) := by decide +kernel
theorem dX4_stand_105 : decode cX4_stand 105 = .ok (.getfield 35, 3) := by decide +kernel
theorem dX4_stand_108 : decode cX4_stand 108 = .ok (.getfield 58, 3) := by decide +kernel
theorem dX4_stand_111 : decode cX4_stand 111 = .ok (.getfield 62, 3) := by decide +kernel
theorem dX4_stand_114 : decode cX4_stand 114 = .ok (.iload_n 3, 1) := by decide +kernel
theorem dX4_stand_115 : decode cX4_stand 115 = .ok (.laload, 1) := by decide +kernel
theorem dX4_stand_116 : decode cX4_stand 116 = .ok (.lconst 0, 1) := by decide +kernel
theorem dX4_stand_117 : decode cX4_stand 117 = .ok (.lcmp, 1) := by decide +kernel
theorem dX4_stand_118 : decode cX4_stand 118 = .ok (.ifCond .eq 41, 3) := by decide +kernel
theorem dX4_stand_121 : decode cX4_stand 121 = .ok (.aload_n 0, 1) := by decide +kernel
theorem dX4_stand_122 : decode cX4_stand 122 = .ok (.iload_n 3, 1) := by decide +kernel
theorem dX4_stand_123 : decode cX4_stand 123 = .ok (.invokevirtual 67, 3) := by decide +kernel
theorem dX4_stand_126 : decode cX4_stand 126 = .ok (.aload_n 0, 1) := by decide +kernel
theorem dX4_stand_127 : decode cX4_stand 127 = .ok (.getfield 35, 3) := by decide +kernel
theorem dX4_stand_130 : decode cX4_stand 130 = .ok (.getfield 71, 3) := by decide +kernel
theorem dX4_stand_133 : decode cX4_stand 133 = .ok (.iload_n 3, 1) := by decide +kernel
theorem dX4_stand_134 : decode cX4_stand 134 = .ok (.iaload, 1) := by decide +kernel
theorem dX4_stand_135 : decode cX4_stand 135 = .ok (.if_icmp .ge 24, 3) := by decide +kernel
theorem dX4_stand_138 : decode cX4_stand 138 = .ok (.aload_n 0, 1) := by decide +kernel
theorem dX4_stand_139 : decode cX4_stand 139 = .ok (.dup, 1) := by decide +kernel
theorem dX4_stand_140 : decode cX4_stand 140 = .ok (.getfield 29, 3) := by decide +kernel
theorem dX4_stand_143 : decode cX4_stand 143 = .ok (.aload_n 0, 1) := by decide +kernel
theorem dX4_stand_144 : decode cX4_stand 144 = .ok (.getfield 35, 3) := by decide +kernel
theorem dX4_stand_147 : decode cX4_stand 147 = .ok (.getfield 58, 3) := by decide +kernel
theorem dX4_stand_150 : decode cX4_stand 150 = .ok (.getfield 62, 3) := by decide +kernel
theorem dX4_stand_153 : decode cX4_stand 153 = .ok (.iload_n 3, 1) := by decide +kernel
theorem dX4_stand_154 : decode cX4_stand 154 = .ok (.laload, 1) := by decide +kernel
theorem dX4_stand_155 : decode cX4_stand 155 = .ok (.lor, 1) := by decide +kernel
theorem dX4_stand_156 : decode cX4_stand 156 = .ok (.putfield 29, 3) := by decide +kernel
theorem dX4_stand_159 : decode cX4_stand 159 = .ok (.iinc 3 1, 3) := by decide +kernel
theorem dX4_stand_162 : decode cX4_stand 162 = .ok (.goto (-63), 3) := by decide +kernel
theorem dX4_stand_165 : decode cX4_stand 165 = .ok (.return_, 1) := by decide +kernel
theorem dX4_loadOf_0 : decode cX4_loadOf 0 = .ok (.iconst 0, 1) := by decide +kernel
theorem dX4_loadOf_1 : decode cX4_loadOf 1 = .ok (.istore_n 2, 1) := by decide +kernel
theorem dX4_loadOf_2 : decode cX4_loadOf 2 = .ok (.iconst 0, 1) := by decide +kernel
theorem dX4_loadOf_3 : decode cX4_loadOf 3 = .ok (.istore_n 3, 1) := by decide +kernel
theorem dX4_loadOf_4 : decode cX4_loadOf 4 = .ok (.iload_n 3, 1) := by decide +kernel
theorem dX4_loadOf_5 : decode cX4_loadOf 5 = .ok (.iconst 5, 1) := by decide +kernel
theorem dX4_loadOf_6 : decode cX4_loadOf 6 = .ok (.if_icmp .ge 48, 3) := by decide +kernel
theorem dX4_loadOf_9 : decode cX4_loadOf 9 = .ok (.aload_n 0, 1) := by decide +kernel
theorem dX4_loadOf_10 : decode cX4_loadOf 10 = .ok (.getfield 18, 3) := by decide +kernel
theorem dX4_loadOf_13 : decode cX4_loadOf 13 = .ok (.iload_n 3, 1) := by decide +kernel
theorem dX4_loadOf_14 : decode cX4_loadOf 14 = .ok (.laload, 1) := by decide +kernel
theorem dX4_loadOf_15 : decode cX4_loadOf 15 = .ok (.aload_n 0, 1) := by decide +kernel
theorem dX4_loadOf_16 : decode cX4_loadOf 16 = .ok (.getfield 35, 3) := by decide +kernel
theorem dX4_loadOf_19 : decode cX4_loadOf 19 = .ok (.getfield 58, 3) := by decide +kernel
theorem dX4_loadOf_22 : decode cX4_loadOf 22 = .ok (.getfield 74, 3) := by decide +kernel
theorem dX4_loadOf_25 : decode cX4_loadOf 25 = .ok (.iload_n 1, 1) := by decide +kernel
theorem dX4_loadOf_26 : decode cX4_loadOf 26 = .ok (.laload, 1) := by decide +kernel
theorem dX4_loadOf_27 : decode cX4_loadOf 27 = .ok (.land, 1) := by decide +kernel
theorem dX4_loadOf_28 : decode cX4_loadOf 28 = .ok (.lconst 0, 1) := by decide +kernel
theorem dX4_loadOf_29 : decode cX4_loadOf 29 = .ok (.lcmp, 1) := by decide +kernel
theorem dX4_loadOf_30 : decode cX4_loadOf 30 = .ok (.ifCond .eq 18, 3) := by decide +kernel
theorem dX4_loadOf_33 : decode cX4_loadOf 33 = .ok (.iload_n 2, 1) := by decide +kernel
theorem dX4_loadOf_34 : decode cX4_loadOf 34 = .ok (.aload_n 0, 1) := by decide +kernel
theorem dX4_loadOf_35 : decode cX4_loadOf 35 = .ok (.getfield 35, 3) := by decide +kernel
theorem dX4_loadOf_38 : decode cX4_loadOf 38 = .ok (.getfield 49, 3) := by decide +kernel
theorem dX4_loadOf_41 : decode cX4_loadOf 41 = .ok (.iload_n 3, 1) := by decide +kernel
theorem dX4_loadOf_42 : decode cX4_loadOf 42 = .ok (.aaload, 1) := by decide +kernel
theorem dX4_loadOf_43 : decode cX4_loadOf 43 = .ok (.getfield 77, 3) := by decide +kernel
theorem dX4_loadOf_46 : decode cX4_loadOf 46 = .ok (.iadd, 1) := by decide +kernel
theorem dX4_loadOf_47 : decode cX4_loadOf 47 = .ok (.istore_n 2, 1) := by decide +kernel
theorem dX4_loadOf_48 : decode cX4_loadOf 48 = .ok (.iinc 3 1, 3) := by decide +kernel
theorem dX4_loadOf_51 : decode cX4_loadOf 51 = .ok (.goto (-47), 3) := by decide +kernel
theorem dX4_loadOf_54 : decode cX4_loadOf 54 = .ok (.iload_n 2, 1) := by decide +kernel
theorem dX4_loadOf_55 : decode cX4_loadOf 55 = .ok (.ireturn, 1) := by decide +kernel
theorem dX4_attempt_0 : decode cX4_attempt 0 = .ok (.aload_n 0, 1) := by decide +kernel
theorem dX4_attempt_1 : decode cX4_attempt 1 = .ok (.getfield 35, 3) := by decide +kernel
theorem dX4_attempt_4 : decode cX4_attempt 4 = .ok (.iload_n 1, 1) := by decide +kernel
theorem dX4_attempt_5 : decode cX4_attempt 5 = .ok (.invokevirtual 43, 3) := by decide +kernel
theorem dX4_attempt_8 : decode cX4_attempt 8 = .ok (.ifCond .ne 5, 3) := by decide +kernel
theorem dX4_attempt_11 : decode cX4_attempt 11 = .ok (.iconst 0, 1) := by decide +kernel
theorem dX4_attempt_12 : decode cX4_attempt 12 = .ok (.ireturn, 1) := by decide +kernel
theorem dX4_attempt_13 : decode cX4_attempt 13 = .ok (.iload_n 2, 1) := by decide +kernel
theorem dX4_attempt_14 : decode cX4_attempt 14 = .ok (.iconst 4, 1) := by decide +kernel
theorem dX4_attempt_15 : decode cX4_attempt 15 = .ok (.if_icmp .ge 10, 3) := by decide +kernel
theorem dX4_attempt_18 : decode cX4_attempt 18 = .ok (.aload_n 0, 1) := by decide +kernel
theorem dX4_attempt_19 : decode cX4_attempt 19 = .ok (.iload_n 1, 1) := by decide +kernel
theorem dX4_attempt_20 : decode cX4_attempt 20 = .ok (.iload_n 2, 1) := by decide +kernel
theorem dX4_attempt_21 : decode cX4_attempt 21 = .ok (.invokevirtual 81, 3) := by decide +kernel
theorem dX4_attempt_24 : decode cX4_attempt 24 = .ok (.ireturn, 1) := by decide +kernel
theorem dX4_attempt_25 : decode cX4_attempt 25 = .ok (.aload_n 0, 1) := by decide +kernel
theorem dX4_attempt_26 : decode cX4_attempt 26 = .ok (.getfield 29, 3) := by decide +kernel
theorem dX4_attempt_29 : decode cX4_attempt 29 = .ok (.aload_n 0, 1) := by decide +kernel
theorem dX4_attempt_30 : decode cX4_attempt 30 = .ok (.getfield 26, 3) := by decide +kernel
theorem dX4_attempt_33 : decode cX4_attempt 33 = .ok (.lor, 1) := by decide +kernel
theorem dX4_attempt_34 : decode cX4_attempt 34 = .ok (.aload_n 0, 1) := by decide +kernel
theorem dX4_attempt_35 : decode cX4_attempt 35 = .ok (.getfield 18, 3) := by decide +kernel
theorem dX4_attempt_38 : decode cX4_attempt 38 = .ok (.iload_n 1, 1) := by decide +kernel
theorem dX4_attempt_39 : decode cX4_attempt 39 = .ok (.laload, 1) := by decide +kernel
theorem dX4_attempt_40 : decode cX4_attempt 40 = .ok (.ldc2_w 85, 3) := by decide +kernel
theorem dX4_attempt_43 : decode cX4_attempt 43 = .ok (.lxor, 1) := by decide +kernel
theorem dX4_attempt_44 : decode cX4_attempt 44 = .ok (.land, 1) := by decide +kernel
theorem dX4_attempt_45 : decode cX4_attempt 45 = .ok (.lstore_n 3, 1) := by decide +kernel
theorem dX4_attempt_46 : decode cX4_attempt 46 = .ok (.aload_n 0, 1) := by decide +kernel
theorem dX4_attempt_47 : decode cX4_attempt 47 = .ok (.getfield 35, 3) := by decide +kernel
theorem dX4_attempt_50 : decode cX4_attempt 50 = .ok (.getfield 49, 3) := by decide +kernel
theorem dX4_attempt_53 : decode cX4_attempt 53 = .ok (.iload_n 1, 1) := by decide +kernel
theorem dX4_attempt_54 : decode cX4_attempt 54 = .ok (.aaload, 1) := by decide +kernel
theorem dX4_attempt_55 : decode cX4_attempt 55 = .ok (.aload_n 0, 1) := by decide +kernel
theorem dX4_attempt_56 : decode cX4_attempt 56 = .ok (.getfield 35, 3) := by decide +kernel
theorem dX4_attempt_59 : decode cX4_attempt 59 = .ok (.getfield 58, 3) := by decide +kernel
theorem dX4_attempt_62 : decode cX4_attempt 62 = .ok (.aload_n 0, 1) := by decide +kernel
theorem dX4_attempt_63 : decode cX4_attempt 63 = .ok (.getfield 9, 3) := by decide +kernel
theorem dX4_attempt_66 : decode cX4_attempt 66 = .ok (.iload_n 1, 1) := by decide +kernel
theorem dX4_attempt_67 : decode cX4_attempt 67 = .ok (.iaload, 1) := by decide +kernel
theorem dX4_attempt_68 : decode cX4_attempt 68 = .ok (.iload_n 2, 1) := by decide +kernel
theorem dX4_attempt_69 : decode cX4_attempt 69 = .ok (.lload_n 3, 1) := by decide +kernel
theorem dX4_attempt_70 : decode cX4_attempt 70 = .ok (.invokevirtual 87, 3) := by decide +kernel
theorem dX4_attempt_73 : decode cX4_attempt 73 = .ok (.istore 5, 2) := by decide +kernel
theorem dX4_attempt_75 : decode cX4_attempt 75 = .ok (.iload 5, 2) := by decide +kernel
theorem dX4_attempt_77 : decode cX4_attempt 77 = .ok (.ifCond .ge 5, 3) := by decide +kernel
theorem dX4_attempt_80 : decode cX4_attempt 80 = .ok (.iconst 0, 1) := by decide +kernel
theorem dX4_attempt_81 : decode cX4_attempt 81 = .ok (.ireturn, 1) := by decide +kernel
theorem dX4_attempt_82 : decode cX4_attempt 82 = .ok (.aload_n 0, 1) := by decide +kernel
theorem dX4_attempt_83 : decode cX4_attempt 83 = .ok (.aload_n 0, 1) := by decide +kernel
theorem dX4_attempt_84 : decode cX4_attempt 84 = .ok (.getfield 22, 3) := by decide +kernel
theorem dX4_attempt_87 : decode cX4_attempt 87 = .ok (.iload_n 1, 1) := by decide +kernel
theorem dX4_attempt_88 : decode cX4_attempt 88 = .ok (.iload 5, 2) := by decide +kernel
theorem dX4_attempt_90 : decode cX4_attempt 90 = .ok (.invokestatic 91, 3) := by decide +kernel
theorem dX4_attempt_93 : decode cX4_attempt 93 = .ok (.putfield 32, 3) := by decide +kernel
theorem dX4_attempt_96 : decode cX4_attempt 96 = .ok (.iconst 1, 1) := by decide +kernel
theorem dX4_attempt_97 : decode cX4_attempt 97 = .ok (.iload_n 1, 1) := by decide +kernel
theorem dX4_attempt_98 : decode cX4_attempt 98 = .ok (.ishl, 1) := by decide +kernel
theorem dX4_attempt_99 : decode cX4_attempt 99 = .ok (.ireturn, 1) := by decide +kernel
theorem dX4_push_0 : decode cX4_push 0 = .ok (.iconst 1, 1) := by decide +kernel
theorem dX4_push_1 : decode cX4_push 1 = .ok (.iload_n 1, 1) := by decide +kernel
theorem dX4_push_2 : decode cX4_push 2 = .ok (.ishl, 1) := by decide +kernel
theorem dX4_push_3 : decode cX4_push 3 = .ok (.istore_n 3, 1) := by decide +kernel
theorem dX4_push_4 : decode cX4_push 4 = .ok (.iconst 1, 1) := by decide +kernel
theorem dX4_push_5 : decode cX4_push 5 = .ok (.istore 4, 2) := by decide +kernel
theorem dX4_push_7 : decode cX4_push 7 = .ok (.iconst 0, 1) := by decide +kernel
theorem dX4_push_8 : decode cX4_push 8 = .ok (.istore 5, 2) := by decide +kernel
theorem dX4_push_10 : decode cX4_push 10 = .ok (.aload_n 0, 1) := by decide +kernel
theorem dX4_push_11 : decode cX4_push 11 = .ok (.getfield 22, 3) := by decide +kernel
theorem dX4_push_14 : decode cX4_push 14 = .ok (.lstore 6, 2) := by decide +kernel
theorem dX4_push_16 : decode cX4_push 16 = .ok (.aload_n 0, 1) := by decide +kernel
theorem dX4_push_17 : decode cX4_push 17 = .ok (.getfield 15, 3) := by decide +kernel
theorem dX4_push_20 : decode cX4_push 20 = .ok (.iconst 0, 1) := by decide +kernel
theorem dX4_push_21 : decode cX4_push 21 = .ok (.iload_n 1, 1) := by decide +kernel
theorem dX4_push_22 : decode cX4_push 22 = .ok (.iastore, 1) := by decide +kernel
theorem dX4_push_23 : decode cX4_push 23 = .ok (.iconst 0, 1) := by decide +kernel
theorem dX4_push_24 : decode cX4_push 24 = .ok (.istore 8, 2) := by decide +kernel
theorem dX4_push_26 : decode cX4_push 26 = .ok (.iload 8, 2) := by decide +kernel
theorem dX4_push_28 : decode cX4_push 28 = .ok (.iload 4, 2) := by decide +kernel
theorem dX4_push_30 : decode cX4_push 30 = .ok (.if_icmp .ge 200, 3) := by decide +kernel
theorem dX4_push_33 : decode cX4_push 33 = .ok (.iload 8, 2) := by decide +kernel
theorem dX4_push_35 : decode cX4_push 35 = .ok (.iconst 5, 1) := by decide +kernel
theorem dX4_push_36 : decode cX4_push 36 = .ok (.if_icmp .ge 194, 3) := by decide +kernel
theorem dX4_push_39 : decode cX4_push 39 = .ok (.aload_n 0, 1) := by decide +kernel
theorem dX4_push_40 : decode cX4_push 40 = .ok (.getfield 15, 3) := by decide +kernel
theorem dX4_push_43 : decode cX4_push 43 = .ok (.iload 8, 2) := by decide +kernel
theorem dX4_push_45 : decode cX4_push 45 = .ok (.iaload, 1) := by decide +kernel
theorem dX4_push_46 : decode cX4_push 46 = .ok (.istore 9, 2) := by decide +kernel
theorem dX4_push_48 : decode cX4_push 48 = .ok (.aload_n 0, 1) := by decide +kernel
theorem dX4_push_49 : decode cX4_push 49 = .ok (.getfield 35, 3) := by decide +kernel
theorem dX4_push_52 : decode cX4_push 52 = .ok (.getfield 49, 3) := by decide +kernel
theorem dX4_push_55 : decode cX4_push 55 = .ok (.iload 9, 2) := by decide +kernel
theorem dX4_push_57 : decode cX4_push 57 = .ok (.aaload, 1) := by decide +kernel
theorem dX4_push_58 : decode cX4_push 58 = .ok (.astore 10, 2) := by decide +kernel
theorem dX4_push_60 : decode cX4_push 60 = .ok (.aload_n 0, 1) := by decide +kernel
theorem dX4_push_61 : decode cX4_push 61 = .ok (.getfield 29, 3) := by decide +kernel
theorem dX4_push_64 : decode cX4_push 64 = .ok (.aload_n 0, 1) := by decide +kernel
theorem dX4_push_65 : decode cX4_push 65 = .ok (.getfield 18, 3) := by decide +kernel
theorem dX4_push_68 : decode cX4_push 68 = .ok (.iload 9, 2) := by decide +kernel
theorem dX4_push_70 : decode cX4_push 70 = .ok (.laload, 1) := by decide +kernel
theorem dX4_push_71 : decode cX4_push 71 = .ok (.ldc2_w 85, 3) := by decide +kernel
theorem dX4_push_74 : decode cX4_push 74 = .ok (.lxor, 1) := by decide +kernel
theorem dX4_push_75 : decode cX4_push 75 = .ok (.land, 1) := by decide +kernel
theorem dX4_push_76 : decode cX4_push 76 = .ok (.lstore 11, 2) := by decide +kernel
theorem dX4_push_78 : decode cX4_push 78 = .ok (.aload 10, 2) := by decide +kernel
theorem dX4_push_80 : decode cX4_push 80 = .ok (.aload_n 0, 1) := by decide +kernel
theorem dX4_push_81 : decode cX4_push 81 = .ok (.getfield 35, 3) := by decide +kernel
theorem dX4_push_84 : decode cX4_push 84 = .ok (.getfield 58, 3) := by decide +kernel
theorem dX4_push_87 : decode cX4_push 87 = .ok (.aload_n 0, 1) := by decide +kernel
theorem dX4_push_88 : decode cX4_push 88 = .ok (.getfield 9, 3) := by decide +kernel
theorem dX4_push_91 : decode cX4_push 91 = .ok (.iload 9, 2) := by decide +kernel
theorem dX4_push_93 : decode cX4_push 93 = .ok (.iaload, 1) := by decide +kernel
theorem dX4_push_94 : decode cX4_push 94 = .ok (.iload_n 2, 1) := by decide +kernel
theorem dX4_push_95 : decode cX4_push 95 = .ok (.lload 11, 2) := by decide +kernel
theorem dX4_push_97 : decode cX4_push 97 = .ok (.invokevirtual 95, 3) := by decide +kernel
theorem dX4_push_100 : decode cX4_push 100 = .ok (.istore 13, 2) := by decide +kernel
theorem dX4_push_102 : decode cX4_push 102 = .ok (.iload 5, 2) := by decide +kernel
theorem dX4_push_104 : decode cX4_push 104 = .ok (.aload 10, 2) := by decide +kernel
theorem dX4_push_106 : decode cX4_push 106 = .ok (.getfield 77, 3) := by decide +kernel
theorem dX4_push_109 : decode cX4_push 109 = .ok (.iadd, 1) := by decide +kernel
theorem dX4_push_110 : decode cX4_push 110 = .ok (.istore 5, 2) := by decide +kernel
theorem dX4_push_112 : decode cX4_push 112 = .ok (.iload 13, 2) := by decide +kernel
theorem dX4_push_114 : decode cX4_push 114 = .ok (.ifCond .lt 15, 3) := by decide +kernel
theorem dX4_push_117 : decode cX4_push 117 = .ok (.iload 5, 2) := by decide +kernel
theorem dX4_push_119 : decode cX4_push 119 = .ok (.aload_n 0, 1) := by decide +kernel
theorem dX4_push_120 : decode cX4_push 120 = .ok (.getfield 35, 3) := by decide +kernel
theorem dX4_push_123 : decode cX4_push 123 = .ok (.getfield 98, 3) := by decide +kernel
theorem dX4_push_126 : decode cX4_push 126 = .ok (.if_icmp .le 5, 3) := by decide +kernel
theorem dX4_push_129 : decode cX4_push 129 = .ok (.iconst 0, 1) := by decide +kernel
theorem dX4_push_130 : decode cX4_push 130 = .ok (.ireturn, 1) := by decide +kernel
theorem dX4_push_131 : decode cX4_push 131 = .ok (.lload 6, 2) := by decide +kernel
theorem dX4_push_133 : decode cX4_push 133 = .ok (.iload 9, 2) := by decide +kernel
theorem dX4_push_135 : decode cX4_push 135 = .ok (.iload 13, 2) := by decide +kernel
theorem dX4_push_137 : decode cX4_push 137 = .ok (.invokestatic 91, 3) := by decide +kernel
theorem dX4_push_140 : decode cX4_push 140 = .ok (.lstore 6, 2) := by decide +kernel
theorem dX4_push_142 : decode cX4_push 142 = .ok (.iconst 0, 1) := by decide +kernel
theorem dX4_push_143 : decode cX4_push 143 = .ok (.istore 14, 2) := by decide +kernel
theorem dX4_push_145 : decode cX4_push 145 = .ok (.iload 14, 2) := by decide +kernel
theorem dX4_push_147 : decode cX4_push 147 = .ok (.iconst 5, 1) := by decide +kernel
theorem dX4_push_148 : decode cX4_push 148 = .ok (.if_icmp .ge 76, 3) := by decide +kernel
theorem dX4_push_151 : decode cX4_push 151 = .ok (.iload_n 3, 1) := by decide +kernel
theorem dX4_push_152 : decode cX4_push 152 = .ok (.iload 14, 2) := by decide +kernel
theorem dX4_push_154 : decode cX4_push 154 = .ok (.ishr, 1) := by decide +kernel
theorem dX4_push_155 : decode cX4_push 155 = .ok (.iconst 1, 1) := by decide +kernel
theorem dX4_push_156 : decode cX4_push 156 = .ok (.iand, 1) := by decide +kernel
theorem dX4_push_157 : decode cX4_push 157 = .ok (.ifCond .ne 7, 3) := by decide +kernel
theorem dX4_push_160 : decode cX4_push 160 = .ok (.iconst 1, 1) := by decide +kernel
theorem dX4_push_161 : decode cX4_push 161 = .ok (.goto 4, 3) := by decide +kernel
theorem dX4_push_164 : decode cX4_push 164 = .ok (.iconst 0, 1) := by decide +kernel
theorem dX4_push_165 : decode cX4_push 165 = .ok (.istore 15, 2) := by decide +kernel
theorem dX4_push_167 : decode cX4_push 167 = .ok (.iload 15, 2) := by decide +kernel
theorem dX4_push_169 : decode cX4_push 169 = .ok (.ifCond .eq 49, 3) := by decide +kernel
theorem dX4_push_172 : decode cX4_push 172 = .ok (.iload 4, 2) := by decide +kernel
theorem dX4_push_174 : decode cX4_push 174 = .ok (.iconst 5, 1) := by decide +kernel
theorem dX4_push_175 : decode cX4_push 175 = .ok (.if_icmp .ge 43, 3) := by decide +kernel
theorem dX4_push_178 : decode cX4_push 178 = .ok (.aload_n 0, 1) := by decide +kernel
theorem dX4_push_179 : decode cX4_push 179 = .ok (.getfield 18, 3) := by decide +kernel
theorem dX4_push_182 : decode cX4_push 182 = .ok (.iload 14, 2) := by decide +kernel
theorem dX4_push_184 : decode cX4_push 184 = .ok (.laload, 1) := by decide +kernel
theorem dX4_push_185 : decode cX4_push 185 = .ok (.aload 10, 2) := by decide +kernel
theorem dX4_push_187 : decode cX4_push 187 = .ok (.getfield 53, 3) := by decide +kernel
theorem dX4_push_190 : decode cX4_push 190 = .ok (.iload 13, 2) := by decide +kernel
theorem dX4_push_192 : decode cX4_push 192 = .ok (.laload, 1) := by decide +kernel
theorem dX4_push_193 : decode cX4_push 193 = .ok (.land, 1) := by decide +kernel
theorem dX4_push_194 : decode cX4_push 194 = .ok (.lconst 0, 1) := by decide +kernel
theorem dX4_push_195 : decode cX4_push 195 = .ok (.lcmp, 1) := by decide +kernel
theorem dX4_push_196 : decode cX4_push 196 = .ok (.ifCond .eq 22, 3) := by decide +kernel
theorem dX4_push_199 : decode cX4_push 199 = .ok (.iload_n 3, 1) := by decide +kernel
theorem dX4_push_200 : decode cX4_push 200 = .ok (.iconst 1, 1) := by decide +kernel
theorem dX4_push_201 : decode cX4_push 201 = .ok (.iload 14, 2) := by decide +kernel
theorem dX4_push_203 : decode cX4_push 203 = .ok (.ishl, 1) := by decide +kernel
theorem dX4_push_204 : decode cX4_push 204 = .ok (.ior, 1) := by decide +kernel
theorem dX4_push_205 : decode cX4_push 205 = .ok (.istore_n 3, 1) := by decide +kernel
theorem dX4_push_206 : decode cX4_push 206 = .ok (.aload_n 0, 1) := by decide +kernel
theorem dX4_push_207 : decode cX4_push 207 = .ok (.getfield 15, 3) := by decide +kernel
theorem dX4_push_210 : decode cX4_push 210 = .ok (.iload 4, 2) := by decide +kernel
theorem dX4_push_212 : decode cX4_push 212 = .ok (.iload 14, 2) := by decide +kernel
theorem dX4_push_214 : decode cX4_push 214 = .ok (.iastore, 1) := by decide +kernel
theorem dX4_push_215 : decode cX4_push 215 = .ok (.iinc 4 1, 3) := by decide +kernel
theorem dX4_push_218 : decode cX4_push 218 = .ok (.iinc 14 1, 3) := by decide +kernel
theorem dX4_push_221 : decode cX4_push 221 = .ok (.goto (-76), 3) := by decide +kernel
theorem dX4_push_224 : decode cX4_push 224 = .ok (.iinc 8 1, 3) := by decide +kernel
theorem dX4_push_227 : decode cX4_push 227 = .ok (.goto (-201), 3) := by decide +kernel
theorem dX4_push_230 : decode cX4_push 230 = .ok (.aload_n 0, 1) := by decide +kernel
theorem dX4_push_231 : decode cX4_push 231 = .ok (.lload 6, 2) := by decide +kernel
theorem dX4_push_233 : decode cX4_push 233 = .ok (.putfield 32, 3) := by decide +kernel
theorem dX4_push_236 : decode cX4_push 236 = .ok (.iload_n 3, 1) := by decide +kernel
theorem dX4_push_237 : decode cX4_push 237 = .ok (.ireturn, 1) := by decide +kernel
theorem dX5_init_0 : decode cX5_init 0 = .ok (.aload_n 0, 1) := by decide +kernel
theorem dX5_init_1 : decode cX5_init 1 = .ok (.invokespecial 5, 3) := by decide +kernel
theorem dX5_init_4 : decode cX5_init 4 = .ok (.aload_n 0, 1) := by decide +kernel
theorem dX5_init_5 : decode cX5_init 5 = .ok (.sipush 1200, 3) := by decide +kernel
theorem dX5_init_8 : decode cX5_init 8 = .ok (.newarray .long, 2) := by decide +kernel
theorem dX5_init_10 : decode cX5_init 10 = .ok (.putfield 11, 3) := by decide +kernel
theorem dX5_init_13 : decode cX5_init 13 = .ok (.aload_n 0, 1) := by decide +kernel
theorem dX5_init_14 : decode cX5_init 14 = .ok (.sipush 1200, 3) := by decide +kernel
theorem dX5_init_17 : decode cX5_init 17 = .ok (.newarray .int, 2) := by decide +kernel
theorem dX5_init_19 : decode cX5_init 19 = .ok (.putfield 15, 3) := by decide +kernel
theorem dX5_init_22 : decode cX5_init 22 = .ok (.aload_n 0, 1) := by decide +kernel
theorem dX5_init_23 : decode cX5_init 23 = .ok (.sipush 1200, 3) := by decide +kernel
theorem dX5_init_26 : decode cX5_init 26 = .ok (.newarray .int, 2) := by decide +kernel
theorem dX5_init_28 : decode cX5_init 28 = .ok (.putfield 19, 3) := by decide +kernel
theorem dX5_init_31 : decode cX5_init 31 = .ok (.aload_n 0, 1) := by decide +kernel
theorem dX5_init_32 : decode cX5_init 32 = .ok (.iconst 0, 1) := by decide +kernel
theorem dX5_init_33 : decode cX5_init 33 = .ok (.putfield 22, 3) := by decide +kernel
theorem dX5_init_36 : decode cX5_init 36 = .ok (.aload_n 0, 1) := by decide +kernel
theorem dX5_init_37 : decode cX5_init 37 = .ok (.sipush 2048, 3) := by decide +kernel
theorem dX5_init_40 : decode cX5_init 40 = .ok (.newarray .int, 2) := by decide +kernel
theorem dX5_init_42 : decode cX5_init 42 = .ok (.putfield 26, 3) := by decide +kernel
theorem dX5_init_45 : decode cX5_init 45 = .ok (.aload_n 0, 1) := by decide +kernel
theorem dX5_init_46 : decode cX5_init 46 = .ok (.sipush 1200, 3) := by decide +kernel
theorem dX5_init_49 : decode cX5_init 49 = .ok (.newarray .int, 2) := by decide +kernel
theorem dX5_init_51 : decode cX5_init 51 = .ok (.putfield 29, 3) := by decide +kernel
theorem dX5_init_54 : decode cX5_init 54 = .ok (.aload_n 0, 1) := by decide +kernel
theorem dX5_init_55 : decode cX5_init 55 = .ok (.iconst 0, 1) := by decide +kernel
theorem dX5_init_56 : decode cX5_init 56 = .ok (.putfield 32, 3) := by decide +kernel
theorem dX5_init_59 : decode cX5_init 59 = .ok (.aload_n 0, 1) := by decide +kernel
theorem dX5_init_60 : decode cX5_init 60 = .ok (.lconst 0, 1) := by decide +kernel
theorem dX5_init_61 : decode cX5_init 61 = .ok (.putfield 35, 3) := by decide +kernel
theorem dX5_init_64 : decode cX5_init 64 = .ok (.aload_n 0, 1) := by decide +kernel
theorem dX5_init_65 : decode cX5_init 65 = .ok (.iconst 0, 1) := by decide +kernel
theorem dX5_init_66 : decode cX5_init 66 = .ok (.putfield 39, 3) := by decide +kernel
theorem dX5_init_69 : decode cX5_init 69 = .ok (.aload_n 0, 1) := by decide +kernel
theorem dX5_init_70 : decode cX5_init 70 = .ok (.aload_n 1, 1) := by decide +kernel
theorem dX5_init_71 : decode cX5_init 71 = .ok (.putfield 43, 3) := by decide +kernel
theorem dX5_init_74 : decode cX5_init 74 = .ok (.aload_n 0, 1) := by decide +kernel
theorem dX5_init_75 : decode cX5_init 75 = .ok (.new 47, 3) := by decide +kernel
theorem dX5_init_78 : decode cX5_init 78 = .ok (.dup, 1) := by decide +kernel
theorem dX5_init_79 : decode cX5_init 79 = .ok (.aload_n 1, 1) := by decide +kernel
theorem dX5_init_80 : decode cX5_init 80 = .ok (.invokespecial 49, 3) := by decide +kernel
theorem dX5_init_83 : decode cX5_init 83 = .ok (.putfield 52, 3) := by decide +kernel
theorem dX5_init_86 : decode cX5_init 86 = .ok (.return_, 1) := by decide +kernel
theorem dX5_forget_0 : decode cX5_forget 0 = .ok (.aload_n 0, 1) := by decide +kernel
theorem dX5_forget_1 : decode cX5_forget 1 = .ok (.iconst 0, 1) := by decide +kernel
theorem dX5_forget_2 : decode cX5_forget 2 = .ok (.putfield 39, 3) := by decide +kernel
theorem dX5_forget_5 : decode cX5_forget 5 = .ok (.return_, 1) := by decide +kernel
theorem dX5_solutionLength_0 : decode cX5_solutionLength 0 = .ok (.aload_n 0, 1) := by decide +kernel
theorem dX5_solutionLength_1 : decode cX5_solutionLength 1 = .ok (.getfield 39, 3) := by decide +kernel
theorem dX5_solutionLength_4 : decode cX5_solutionLength 4 = .ok (.ifCond .eq 12, 3) := by decide +kernel
theorem dX5_solutionLength_7 : decode cX5_solutionLength 7 = .ok (.aload_n 0, 1) := by decide +kernel
theorem dX5_solutionLength_8 : decode cX5_solutionLength 8 = .ok (.getfield 35, 3) := by decide +kernel
theorem dX5_solutionLength_11 : decode cX5_solutionLength 11 = .ok (.lload_n 1, 1) := by decide +kernel
theorem dX5_solutionLength_12 : decode cX5_solutionLength 12 = .ok (.lcmp, 1) := by decide +kernel
theorem dX5_solutionLength_13 : decode cX5_solutionLength 13 = .ok (.ifCond .eq 22, 3) := by decide +kernel
theorem dX5_solutionLength_16 : decode cX5_solutionLength 16 = .ok (.aload_n 0, 1) := by decide +kernel
theorem dX5_solutionLength_17 : decode cX5_solutionLength 17 = .ok (.aload_n 0, 1) := by decide +kernel
theorem dX5_solutionLength_18 : decode cX5_solutionLength 18 = .ok (.lload_n 1, 1) := by decide +kernel
theorem dX5_solutionLength_19 : decode cX5_solutionLength 19 = .ok (.invokevirtual 56, 3) := by decide +kernel
theorem dX5_solutionLength_22 : decode cX5_solutionLength 22 = .ok (.putfield 32, 3) := by decide +kernel
theorem dX5_solutionLength_25 : decode cX5_solutionLength 25 = .ok (.aload_n 0, 1) := by decide +kernel
theorem dX5_solutionLength_26 : decode cX5_solutionLength 26 = .ok (.lload_n 1, 1) := by decide +kernel
theorem dX5_solutionLength_27 : decode cX5_solutionLength 27 = .ok (.putfield 35, 3) := by decide +kernel
theorem dX5_solutionLength_30 : decode cX5_solutionLength 30 = .ok (.aload_n 0, 1) := by decide +kernel
theorem dX5_solutionLength_31 : decode cX5_solutionLength 31 = .ok (.iconst 1, 1) := by decide +kernel
theorem dX5_solutionLength_32 : decode cX5_solutionLength 32 = .ok (.putfield 39, 3) := by decide +kernel
theorem dX5_solutionLength_35 : decode cX5_solutionLength 35 = .ok (.aload_n 0, 1) := by decide +kernel
theorem dX5_solutionLength_36 : decode cX5_solutionLength 36 = .ok (.getfield 32, 3) := by decide +kernel
theorem dX5_solutionLength_39 : decode cX5_solutionLength 39 = .ok (.ireturn, 1) := by decide +kernel
theorem dX5_findSolution_0 : decode cX5_findSolution 0 = .ok (.aload_n 0, 1) := by decide +kernel
theorem dX5_findSolution_1 : decode cX5_findSolution 1 = .ok (.getfield 43, 3) := by decide +kernel
theorem dX5_findSolution_4 : decode cX5_findSolution 4 = .ok (.lload_n 1, 1) := by decide +kernel
theorem dX5_findSolution_5 : decode cX5_findSolution 5 = .ok (.invokevirtual 60, 3) := by decide +kernel
theorem dX5_findSolution_8 : decode cX5_findSolution 8 = .ok (.istore_n 3, 1) := by decide +kernel
theorem dX5_findSolution_9 : decode cX5_findSolution 9 = .ok (.iload_n 3, 1) := by decide +kernel
theorem dX5_findSolution_10 : decode cX5_findSolution 10 = .ok (.ifCond .gt 14, 3) := by decide +kernel
theorem dX5_findSolution_13 : decode cX5_findSolution 13 = .ok (.iload_n 3, 1) := by decide +kernel
theorem dX5_findSolution_14 : decode cX5_findSolution 14 = .ok (.ifCond .ge 8, 3) := by decide +kernel
theorem dX5_findSolution_17 : decode cX5_findSolution 17 = .ok (.bipush (-7), 2) := by decide +kernel
theorem dX5_findSolution_19 : decode cX5_findSolution 19 = .ok (.goto 4, 3) := by decide +kernel
theorem dX5_findSolution_22 : decode cX5_findSolution 22 = .ok (.iconst 0, 1) := by decide +kernel
theorem dX5_findSolution_23 : decode cX5_findSolution 23 = .ok (.ireturn, 1) := by decide +kernel
theorem dX5_findSolution_24 : decode cX5_findSolution 24 = .ok (.aload_n 0, 1) := by decide +kernel
theorem dX5_findSolution_25 : decode cX5_findSolution 25 = .ok (.lload_n 1, 1) := by decide +kernel
theorem dX5_findSolution_26 : decode cX5_findSolution 26 = .ok (.invokevirtual 65, 3) := by decide +kernel
theorem dX5_findSolution_29 : decode cX5_findSolution 29 = .ok (.iconst 0, 1) := by decide +kernel
theorem dX5_findSolution_30 : decode cX5_findSolution 30 = .ok (.istore 4, 2) := by decide +kernel
theorem dX5_findSolution_32 : decode cX5_findSolution 32 = .ok (.iload 4, 2) := by decide +kernel
theorem dX5_findSolution_34 : decode cX5_findSolution 34 = .ok (.aload_n 0, 1) := by decide +kernel
theorem dX5_findSolution_35 : decode cX5_findSolution 35 = .ok (.getfield 22, 3) := by decide +kernel
theorem dX5_findSolution_38 : decode cX5_findSolution 38 = .ok (.if_icmp .ge 47, 3) := by decide +kernel
theorem dX5_findSolution_41 : decode cX5_findSolution 41 = .ok (.iload 4, 2) := by decide +kernel
theorem dX5_findSolution_43 : decode cX5_findSolution 43 = .ok (.sipush 1200, 3) := by decide +kernel
theorem dX5_findSolution_46 : decode cX5_findSolution 46 = .ok (.if_icmp .ge 39, 3) := by decide +kernel
theorem dX5_findSolution_49 : decode cX5_findSolution 49 = .ok (.aload_n 0, 1) := by decide +kernel
theorem dX5_findSolution_50 : decode cX5_findSolution 50 = .ok (.iload 4, 2) := by decide +kernel
theorem dX5_findSolution_52 : decode cX5_findSolution 52 = .ok (.iconst 1, 1) := by decide +kernel
theorem dX5_findSolution_53 : decode cX5_findSolution 53 = .ok (.invokevirtual 69, 3) := by decide +kernel
theorem dX5_findSolution_56 : decode cX5_findSolution 56 = .ok (.istore 5, 2) := by decide +kernel
theorem dX5_findSolution_58 : decode cX5_findSolution 58 = .ok (.iload 5, 2) := by decide +kernel
theorem dX5_findSolution_60 : decode cX5_findSolution 60 = .ok (.ifCond .eq 19, 3) := by decide +kernel
theorem dX5_findSolution_63 : decode cX5_findSolution 63 = .ok (.iload 5, 2) := by decide +kernel
theorem dX5_findSolution_65 : decode cX5_findSolution 65 = .ok (.iconst 1, 1) := by decide +kernel
theorem dX5_findSolution_66 : decode cX5_findSolution 66 = .ok (.if_icmp .ne 10, 3) := by decide +kernel
theorem dX5_findSolution_69 : decode cX5_findSolution 69 = .ok (.aload_n 0, 1) := by decide +kernel
theorem dX5_findSolution_70 : decode cX5_findSolution 70 = .ok (.invokevirtual 73, 3) := by decide +kernel
theorem dX5_findSolution_73 : decode cX5_findSolution 73 = .ok (.goto 5, 3) := by decide +kernel
theorem dX5_findSolution_76 : decode cX5_findSolution 76 = .ok (.bipush (-6), 2) := by decide +kernel
theorem dX5_findSolution_78 : decode cX5_findSolution 78 = .ok (.ireturn, 1) := by decide +kernel
theorem dX5_findSolution_79 : decode cX5_findSolution 79 = .ok (.iinc 4 1, 3) := by decide +kernel
theorem dX5_findSolution_82 : decode cX5_findSolution 82 = .ok (.goto (-50), 3) := by decide +kernel
theorem dX5_findSolution_85 : decode cX5_findSolution 85 = .ok (.bipush (-7), 2) := by decide +kernel
theorem dX5_findSolution_87 : decode cX5_findSolution 87 = .ok (.ireturn, 1) := by decide +kernel
theorem dX5_traceSolution_0 : decode cX5_traceSolution 0 = .ok (.iconst 0, 1) := by decide +kernel
theorem dX5_traceSolution_1 : decode cX5_traceSolution 1 = .ok (.istore_n 1, 1) := by decide +kernel
theorem dX5_traceSolution_2 : decode cX5_traceSolution 2 = .ok (.aload_n 0, 1) := by decide +kernel
theorem dX5_traceSolution_3 : decode cX5_traceSolution 3 = .ok (.getfield 22, 3) := by decide +kernel
theorem dX5_traceSolution_6 : decode cX5_traceSolution 6 = .ok (.iconst 1, 1) := by decide +kernel
theorem dX5_traceSolution_7 : decode cX5_traceSolution 7 = .ok (.isub, 1) := by decide +kernel
theorem dX5_traceSolution_8 : decode cX5_traceSolution 8 = .ok (.istore_n 2, 1) := by decide +kernel
theorem dX5_traceSolution_9 : decode cX5_traceSolution 9 = .ok (.iconst 0, 1) := by decide +kernel
theorem dX5_traceSolution_10 : decode cX5_traceSolution 10 = .ok (.istore_n 3, 1) := by decide +kernel
theorem dX5_traceSolution_11 : decode cX5_traceSolution 11 = .ok (.iload_n 3, 1) := by decide +kernel
theorem dX5_traceSolution_12 : decode cX5_traceSolution 12 = .ok (.sipush 1200, 3) := by decide +kernel
theorem dX5_traceSolution_15 : decode cX5_traceSolution 15 = .ok (.if_icmp .ge 23, 3) := by decide +kernel
theorem dX5_traceSolution_18 : decode cX5_traceSolution 18 = .ok (.iload_n 2, 1) := by decide +kernel
theorem dX5_traceSolution_19 : decode cX5_traceSolution 19 = .ok (.ifCond .le 19, 3) := by decide +kernel
theorem dX5_traceSolution_22 : decode cX5_traceSolution 22 = .ok (.iinc 1 1, 3) := by decide +kernel
theorem dX5_traceSolution_25 : decode cX5_traceSolution 25 = .ok (.aload_n 0, 1) := by decide +kernel
theorem dX5_traceSolution_26 : decode cX5_traceSolution 26 = .ok (.getfield 15, 3) := by decide +kernel
theorem dX5_traceSolution_29 : decode cX5_traceSolution 29 = .ok (.iload_n 2, 1) := by decide +kernel
theorem dX5_traceSolution_30 : decode cX5_traceSolution 30 = .ok (.iaload, 1) := by decide +kernel
theorem dX5_traceSolution_31 : decode cX5_traceSolution 31 = .ok (.istore_n 2, 1) := by decide +kernel
theorem dX5_traceSolution_32 : decode cX5_traceSolution 32 = .ok (.iinc 3 1, 3) := by decide +kernel
theorem dX5_traceSolution_35 : decode cX5_traceSolution 35 = .ok (.goto (-24), 3) := by decide +kernel
theorem dX5_traceSolution_38 : decode cX5_traceSolution 38 = .ok (.aload_n 0, 1) := by decide +kernel
theorem dX5_traceSolution_39 : decode cX5_traceSolution 39 = .ok (.getfield 22, 3) := by decide +kernel
theorem dX5_traceSolution_42 : decode cX5_traceSolution 42 = .ok (.iconst 1, 1) := by decide +kernel
theorem dX5_traceSolution_43 : decode cX5_traceSolution 43 = .ok (.isub, 1) := by decide +kernel
theorem dX5_traceSolution_44 : decode cX5_traceSolution 44 = .ok (.istore_n 2, 1) := by decide +kernel
theorem dX5_traceSolution_45 : decode cX5_traceSolution 45 = .ok (.iload_n 1, 1) := by decide +kernel
theorem dX5_traceSolution_46 : decode cX5_traceSolution 46 = .ok (.iconst 1, 1) := by decide +kernel
theorem dX5_traceSolution_47 : decode cX5_traceSolution 47 = .ok (.isub, 1) := by decide +kernel
theorem dX5_traceSolution_48 : decode cX5_traceSolution 48 = .ok (.istore_n 3, 1) := by decide +kernel
theorem dX5_traceSolution_49 : decode cX5_traceSolution 49 = .ok (.iload_n 3, 1) := by decide +kernel
theorem dX5_traceSolution_50 : decode cX5_traceSolution 50 = .ok (.ifCond .lt 28, 3) := by decide +kernel
theorem dX5_traceSolution_53 : decode cX5_traceSolution 53 = .ok (.aload_n 0, 1) := by decide +kernel
theorem dX5_traceSolution_54 : decode cX5_traceSolution 54 = .ok (.getfield 29, 3) := by decide +kernel
theorem dX5_traceSolution_57 : decode cX5_traceSolution 57 = .ok (.iload_n 3, 1) := by decide +kernel
theorem dX5_traceSolution_58 : decode cX5_traceSolution 58 = .ok (.aload_n 0, 1) := by decide +kernel
theorem dX5_traceSolution_59 : decode cX5_traceSolution 59 = .ok (.getfield 19, 3) := by decide +kernel
theorem dX5_traceSolution_62 : decode cX5_traceSolution 62 = .ok (.iload_n 2, 1) := by decide +kernel
theorem dX5_traceSolution_63 : decode cX5_traceSolution 63 = .ok (.iaload, 1) := by decide +kernel
theorem dX5_traceSolution_64 : decode cX5_traceSolution 64 = .ok (.iastore, 1) := by decide +kernel
theorem dX5_traceSolution_65 : decode cX5_traceSolution 65 = .ok (.aload_n 0, 1) := by decide +kernel
theorem dX5_traceSolution_66 : decode cX5_traceSolution 66 = .ok (.getfield 15, 3) := by decide +kernel
theorem dX5_traceSolution_69 : decode cX5_traceSolution 69 = .ok (.iload_n 2, 1) := by decide +kernel
theorem dX5_traceSolution_70 : decode cX5_traceSolution 70 = .ok (.iaload, 1) := by decide +kernel
theorem dX5_traceSolution_71 : decode cX5_traceSolution 71 = .ok (.istore_n 2, 1) := by decide +kernel
theorem dX5_traceSolution_72 : decode cX5_traceSolution 72 = .ok (.iinc 3 (-1), 3) := by decide +kernel
theorem dX5_traceSolution_75 : decode cX5_traceSolution 75 = .ok (.goto (-26), 3) := by decide +kernel
theorem dX5_traceSolution_78 : decode cX5_traceSolution 78 = .ok (.iload_n 1, 1) := by decide +kernel
theorem dX5_traceSolution_79 : decode cX5_traceSolution 79 = .ok (.ireturn, 1) := by decide +kernel
theorem dX5_countWithin_0 : decode cX5_countWithin 0 = .ok (.aload_n 0, 1) := by decide +kernel
theorem dX5_countWithin_1 : decode cX5_countWithin 1 = .ok (.lload_n 1, 1) := by decide +kernel
theorem dX5_countWithin_2 : decode cX5_countWithin 2 = .ok (.invokevirtual 65, 3) := by decide +kernel
theorem dX5_countWithin_5 : decode cX5_countWithin 5 = .ok (.iconst 0, 1) := by decide +kernel
theorem dX5_countWithin_6 : decode cX5_countWithin 6 = .ok (.istore 4, 2) := by decide +kernel
theorem dX5_countWithin_8 : decode cX5_countWithin 8 = .ok (.iconst 0, 1) := by decide +kernel
theorem dX5_countWithin_9 : decode cX5_countWithin 9 = .ok (.istore 5, 2) := by decide +kernel
theorem dX5_countWithin_11 : decode cX5_countWithin 11 = .ok (.iload 5, 2) := by decide +kernel
theorem dX5_countWithin_13 : decode cX5_countWithin 13 = .ok (.iload_n 3, 1) := by decide +kernel
theorem dX5_countWithin_14 : decode cX5_countWithin 14 = .ok (.if_icmp .ge 49, 3) := by decide +kernel
theorem dX5_countWithin_17 : decode cX5_countWithin 17 = .ok (.aload_n 0, 1) := by decide +kernel
theorem dX5_countWithin_18 : decode cX5_countWithin 18 = .ok (.getfield 22, 3) := by decide +kernel
theorem dX5_countWithin_21 : decode cX5_countWithin 21 = .ok (.istore 6, 2) := by decide +kernel
theorem dX5_countWithin_23 : decode cX5_countWithin 23 = .ok (.iload 4, 2) := by decide +kernel
theorem dX5_countWithin_25 : decode cX5_countWithin 25 = .ok (.istore 7, 2) := by decide +kernel
theorem dX5_countWithin_27 : decode cX5_countWithin 27 = .ok (.iload 7, 2) := by decide +kernel
theorem dX5_countWithin_29 : decode cX5_countWithin 29 = .ok (.iload 6, 2) := by decide +kernel
theorem dX5_countWithin_31 : decode cX5_countWithin 31 = .ok (.if_icmp .ge 22, 3) := by decide +kernel
theorem dX5_countWithin_34 : decode cX5_countWithin 34 = .ok (.aload_n 0, 1) := by decide +kernel
theorem dX5_countWithin_35 : decode cX5_countWithin 35 = .ok (.iload 7, 2) := by decide +kernel
theorem dX5_countWithin_37 : decode cX5_countWithin 37 = .ok (.iconst 0, 1) := by decide +kernel
theorem dX5_countWithin_38 : decode cX5_countWithin 38 = .ok (.invokevirtual 69, 3) := by decide +kernel
theorem dX5_countWithin_41 : decode cX5_countWithin 41 = .ok (.ifCond .eq 6, 3) := by decide +kernel
theorem dX5_countWithin_44 : decode cX5_countWithin 44 = .ok (.bipush (-6), 2) := by decide +kernel
theorem dX5_countWithin_46 : decode cX5_countWithin 46 = .ok (.ireturn, 1) := by decide +kernel
theorem dX5_countWithin_47 : decode cX5_countWithin 47 = .ok (.iinc 7 1, 3) := by decide +kernel
theorem dX5_countWithin_50 : decode cX5_countWithin 50 = .ok (.goto (-23), 3) := by decide +kernel
theorem dX5_countWithin_53 : decode cX5_countWithin 53 = .ok (.iload 6, 2) := by decide +kernel
theorem dX5_countWithin_55 : decode cX5_countWithin 55 = .ok (.istore 4, 2) := by decide +kernel
theorem dX5_countWithin_57 : decode cX5_countWithin 57 = .ok (.iinc 5 1, 3) := by decide +kernel
theorem dX5_countWithin_60 : decode cX5_countWithin 60 = .ok (.goto (-49), 3) := by decide +kernel
theorem dX5_countWithin_63 : decode cX5_countWithin 63 = .ok (.aload_n 0, 1) := by decide +kernel
theorem dX5_countWithin_64 : decode cX5_countWithin 64 = .ok (.getfield 22, 3) := by decide +kernel
theorem dX5_countWithin_67 : decode cX5_countWithin 67 = .ok (.ireturn, 1) := by decide +kernel
theorem dX5_begin_0 : decode cX5_begin 0 = .ok (.aload_n 0, 1) := by decide +kernel
theorem dX5_begin_1 : decode cX5_begin 1 = .ok (.getfield 26, 3) := by decide +kernel
theorem dX5_begin_4 : decode cX5_begin 4 = .ok (.iconst 0, 1) := by decide +kernel
theorem dX5_begin_5 : decode cX5_begin 5 = .ok (.invokestatic 77, 3) := by decide +kernel
theorem dX5_begin_8 : decode cX5_begin 8 = .ok (.aload_n 0, 1) := by decide +kernel
theorem dX5_begin_9 : decode cX5_begin 9 = .ok (.iconst 0, 1) := by decide +kernel
theorem dX5_begin_10 : decode cX5_begin 10 = .ok (.putfield 22, 3) := by decide +kernel
theorem dX5_begin_13 : decode cX5_begin 13 = .ok (.aload_n 0, 1) := by decide +kernel
theorem dX5_begin_14 : decode cX5_begin 14 = .ok (.aload_n 0, 1) := by decide +kernel
theorem dX5_begin_15 : decode cX5_begin 15 = .ok (.lload_n 1, 1) := by decide +kernel
theorem dX5_begin_16 : decode cX5_begin 16 = .ok (.invokevirtual 83, 3) := by decide +kernel
theorem dX5_begin_19 : decode cX5_begin 19 = .ok (.lload_n 1, 1) := by decide +kernel
theorem dX5_begin_20 : decode cX5_begin 20 = .ok (.iconst 0, 1) := by decide +kernel
theorem dX5_begin_21 : decode cX5_begin 21 = .ok (.iconst 0, 1) := by decide +kernel
theorem dX5_begin_22 : decode cX5_begin 22 = .ok (.invokevirtual 86, 3) := by decide +kernel
theorem dX5_begin_25 : decode cX5_begin 25 = .ok (.return_, 1) := by decide +kernel
theorem dX5_spread_0 : decode cX5_spread 0 = .ok (.aload_n 0, 1) := by decide +kernel
theorem dX5_spread_1 : decode cX5_spread 1 = .ok (.getfield 52, 3) := by decide +kernel
theorem dX5_spread_4 : decode cX5_spread 4 = .ok (.aload_n 0, 1) := by decide +kernel
theorem dX5_spread_5 : decode cX5_spread 5 = .ok (.getfield 11, 3) := by decide +kernel
theorem dX5_spread_8 : decode cX5_spread 8 = .ok (.iload_n 1, 1) := by decide +kernel
theorem dX5_spread_9 : decode cX5_spread 9 = .ok (.laload, 1) := by decide +kernel
theorem dX5_spread_10 : decode cX5_spread 10 = .ok (.invokevirtual 90, 3) := by decide +kernel
theorem dX5_spread_13 : decode cX5_spread 13 = .ok (.iconst 0, 1) := by decide +kernel
theorem dX5_spread_14 : decode cX5_spread 14 = .ok (.istore_n 3, 1) := by decide +kernel
theorem dX5_spread_15 : decode cX5_spread 15 = .ok (.iload_n 3, 1) := by decide +kernel
theorem dX5_spread_16 : decode cX5_spread 16 = .ok (.iconst 5, 1) := by decide +kernel
theorem dX5_spread_17 : decode cX5_spread 17 = .ok (.if_icmp .ge 125, 3) := by decide +kernel
theorem dX5_spread_20 : decode cX5_spread 20 = .ok (.iconst 0, 1) := by decide +kernel
theorem dX5_spread_21 : decode cX5_spread 21 = .ok (.istore 4, 2) := by decide +kernel
theorem dX5_spread_23 : decode cX5_spread 23 = .ok (.iload 4, 2) := by decide +kernel
theorem dX5_spread_25 : decode cX5_spread 25 = .ok (.bipush 6, 2) := by decide +kernel
theorem dX5_spread_27 : decode cX5_spread 27 = .ok (.if_icmp .ge 109, 3) := by decide +kernel
theorem dX5_spread_30 : decode cX5_spread 30 = .ok (.aload_n 0, 1) := by decide +kernel
theorem dX5_spread_31 : decode cX5_spread 31 = .ok (.getfield 52, 3) := by decide +kernel
theorem dX5_spread_34 : decode cX5_spread 34 = .ok (.iload_n 3, 1) := by decide +kernel
theorem dX5_spread_35 : decode cX5_spread 35 = .ok (.iload 4, 2) := by decide +kernel
theorem dX5_spread_37 : decode cX5_spread 37 = .ok (.invokevirtual 93, 3) := by decide +kernel
theorem dX5_spread_40 : decode cX5_spread 40 = .ok (.ifCond .ne 6, 3) := by decide +kernel
theorem dX5_spread_43 : decode cX5_spread 43 = .ok (.goto 87, 3) := by decide +kernel
theorem dX5_spread_46 : decode cX5_spread 46 = .ok (.aload_n 0, 1) := by decide +kernel
theorem dX5_spread_47 : decode cX5_spread 47 = .ok (.getfield 52, 3) := by decide +kernel
theorem dX5_spread_50 : decode cX5_spread 50 = .ok (.getfield 97, 3) := by decide +kernel
theorem dX5_spread_53 : decode cX5_spread 53 = .ok (.lstore 5, 2) := by decide +kernel
theorem dX5_spread_55 : decode cX5_spread 55 = .ok (.aload_n 0, 1) := by decide +kernel
theorem dX5_spread_56 : decode cX5_spread 56 = .ok (.lload 5, 2) := by decide +kernel
theorem dX5_spread_58 : decode cX5_spread 58 = .ok (.invokevirtual 83, 3) := by decide +kernel
theorem dX5_spread_61 : decode cX5_spread 61 = .ok (.istore 7, 2) := by decide +kernel
theorem dX5_spread_63 : decode cX5_spread 63 = .ok (.iload_n 2, 1) := by decide +kernel
theorem dX5_spread_64 : decode cX5_spread 64 = .ok (.ifCond .eq 15, 3) := by decide +kernel
theorem dX5_spread_67 : decode cX5_spread 67 = .ok (.aload_n 0, 1) := by decide +kernel
theorem dX5_spread_68 : decode cX5_spread 68 = .ok (.getfield 43, 3) := by decide +kernel
theorem dX5_spread_71 : decode cX5_spread 71 = .ok (.lload 5, 2) := by decide +kernel
theorem dX5_spread_73 : decode cX5_spread 73 = .ok (.invokevirtual 60, 3) := by decide +kernel
theorem dX5_spread_76 : decode cX5_spread 76 = .ok (.goto 4, 3) := by decide +kernel
theorem dX5_spread_79 : decode cX5_spread 79 = .ok (.iconst 1, 1) := by decide +kernel
theorem dX5_spread_80 : decode cX5_spread 80 = .ok (.istore 8, 2) := by decide +kernel
theorem dX5_spread_82 : decode cX5_spread 82 = .ok (.iload 7, 2) := by decide +kernel
theorem dX5_spread_84 : decode cX5_spread 84 = .ok (.ifCond .lt 46, 3) := by decide +kernel
theorem dX5_spread_87 : decode cX5_spread 87 = .ok (.iload 8, 2) := by decide +kernel
theorem dX5_spread_89 : decode cX5_spread 89 = .ok (.ifCond .ge 6, 3) := by decide +kernel
theorem dX5_spread_92 : decode cX5_spread 92 = .ok (.goto 38, 3) := by decide +kernel
theorem dX5_spread_95 : decode cX5_spread 95 = .ok (.aload_n 0, 1) := by decide +kernel
theorem dX5_spread_96 : decode cX5_spread 96 = .ok (.getfield 22, 3) := by decide +kernel
theorem dX5_spread_99 : decode cX5_spread 99 = .ok (.sipush 1200, 3) := by decide +kernel
theorem dX5_spread_102 : decode cX5_spread 102 = .ok (.if_icmp .lt 6, 3) := by decide +kernel
theorem dX5_spread_105 : decode cX5_spread 105 = .ok (.bipush (-6), 2) := by decide +kernel
theorem dX5_spread_107 : decode cX5_spread 107 = .ok (.ireturn, 1) := by decide +kernel
theorem dX5_spread_108 : decode cX5_spread 108 = .ok (.aload_n 0, 1) := by decide +kernel
theorem dX5_spread_109 : decode cX5_spread 109 = .ok (.iload 7, 2) := by decide +kernel
theorem dX5_spread_111 : decode cX5_spread 111 = .ok (.lload 5, 2) := by decide +kernel
theorem dX5_spread_113 : decode cX5_spread 113 = .ok (.iload_n 1, 1) := by decide +kernel
theorem dX5_spread_114 : decode cX5_spread 114 = .ok (.iload_n 3, 1) := by decide +kernel
theorem dX5_spread_115 : decode cX5_spread 115 = .ok (.iload 4, 2) := by decide +kernel
theorem dX5_spread_117 : decode cX5_spread 117 = .ok (.invokestatic 100, 3) := by decide +kernel
theorem dX5_spread_120 : decode cX5_spread 120 = .ok (.invokevirtual 86, 3) := by decide +kernel
theorem dX5_spread_123 : decode cX5_spread 123 = .ok (.iload 8, 2) := by decide +kernel
theorem dX5_spread_125 : decode cX5_spread 125 = .ok (.ifCond .ne 5, 3) := by decide +kernel
theorem dX5_spread_128 : decode cX5_spread 128 = .ok (.iconst 1, 1) := by decide +kernel
theorem dX5_spread_129 : decode cX5_spread 129 = .ok (.ireturn, 1) := by decide +kernel
theorem dX5_spread_130 : decode cX5_spread 130 = .ok (.iinc 4 1, 3) := by decide +kernel
theorem dX5_spread_133 : decode cX5_spread 133 = .ok (.goto (-110), 3) := by decide +kernel
theorem dX5_spread_136 : decode cX5_spread 136 = .ok (.iinc 3 1, 3) := by decide +kernel
theorem dX5_spread_139 : decode cX5_spread 139 = .ok (.goto (-124), 3) := by decide +kernel
theorem dX5_spread_142 : decode cX5_spread 142 = .ok (.iconst 0, 1) := by decide +kernel
theorem dX5_spread_143 : decode cX5_spread 143 = .ok (.ireturn, 1) := by decide +kernel
theorem dX5_append_0 : decode cX5_append 0 = .ok (.aload_n 0, 1) := by decide +kernel
theorem dX5_append_1 : decode cX5_append 1 = .ok (.getfield 11, 3) := by decide +kernel
theorem dX5_append_4 : decode cX5_append 4 = .ok (.aload_n 0, 1) := by decide +kernel
theorem dX5_append_5 : decode cX5_append 5 = .ok (.getfield 22, 3) := by decide +kernel
theorem dX5_append_8 : decode cX5_append 8 = .ok (.lload_n 2, 1) := by decide +kernel
theorem dX5_append_9 : decode cX5_append 9 = .ok (.lastore, 1) := by decide +kernel
theorem dX5_append_10 : decode cX5_append 10 = .ok (.aload_n 0, 1) := by decide +kernel
theorem dX5_append_11 : decode cX5_append 11 = .ok (.getfield 15, 3) := by decide +kernel
theorem dX5_append_14 : decode cX5_append 14 = .ok (.aload_n 0, 1) := by decide +kernel
theorem dX5_append_15 : decode cX5_append 15 = .ok (.getfield 22, 3) := by decide +kernel
theorem dX5_append_18 : decode cX5_append 18 = .ok (.iload 4, 2) := by decide +kernel
theorem dX5_append_20 : decode cX5_append 20 = .ok (.iastore, 1) := by decide +kernel
theorem dX5_append_21 : decode cX5_append 21 = .ok (.aload_n 0, 1) := by decide +kernel
theorem dX5_append_22 : decode cX5_append 22 = .ok (.getfield 19, 3) := by decide +kernel
theorem dX5_append_25 : decode cX5_append 25 = .ok (.aload_n 0, 1) := by decide +kernel
theorem dX5_append_26 : decode cX5_append 26 = .ok (.getfield 22, 3) := by decide +kernel
theorem dX5_append_29 : decode cX5_append 29 = .ok (.iload 5, 2) := by decide +kernel
theorem dX5_append_31 : decode cX5_append 31 = .ok (.iastore, 1) := by decide +kernel
theorem dX5_append_32 : decode cX5_append 32 = .ok (.aload_n 0, 1) := by decide +kernel
theorem dX5_append_33 : decode cX5_append 33 = .ok (.dup, 1) := by decide +kernel
theorem dX5_append_34 : decode cX5_append 34 = .ok (.getfield 22, 3) := by decide +kernel
theorem dX5_append_37 : decode cX5_append 37 = .ok (.iconst 1, 1) := by decide +kernel
theorem dX5_append_38 : decode cX5_append 38 = .ok (.iadd, 1) := by decide +kernel
theorem dX5_append_39 : decode cX5_append 39 = .ok (.putfield 22, 3) := by decide +kernel
theorem dX5_append_42 : decode cX5_append 42 = .ok (.aload_n 0, 1) := by decide +kernel
theorem dX5_append_43 : decode cX5_append 43 = .ok (.getfield 26, 3) := by decide +kernel
theorem dX5_append_46 : decode cX5_append 46 = .ok (.iload_n 1, 1) := by decide +kernel
theorem dX5_append_47 : decode cX5_append 47 = .ok (.aload_n 0, 1) := by decide +kernel
theorem dX5_append_48 : decode cX5_append 48 = .ok (.getfield 22, 3) := by decide +kernel
theorem dX5_append_51 : decode cX5_append 51 = .ok (.iastore, 1) := by decide +kernel
theorem dX5_append_52 : decode cX5_append 52 = .ok (.return_, 1) := by decide +kernel
theorem dX5_freePlaceFor_0 : decode cX5_freePlaceFor 0 = .ok (.lload_n 1, 1) := by decide +kernel
theorem dX5_freePlaceFor_1 : decode cX5_freePlaceFor 1 = .ok (.ldc2_w 103, 3) := by decide +kernel
theorem dX5_freePlaceFor_4 : decode cX5_freePlaceFor 4 = .ok (.lmul, 1) := by decide +kernel
theorem dX5_freePlaceFor_5 : decode cX5_freePlaceFor 5 = .ok (.bipush 53, 2) := by decide +kernel
theorem dX5_freePlaceFor_7 : decode cX5_freePlaceFor 7 = .ok (.lushr, 1) := by decide +kernel
theorem dX5_freePlaceFor_8 : decode cX5_freePlaceFor 8 = .ok (.l2i, 1) := by decide +kernel
theorem dX5_freePlaceFor_9 : decode cX5_freePlaceFor 9 = .ok (.istore_n 3, 1) := by decide +kernel
theorem dX5_freePlaceFor_10 : decode cX5_freePlaceFor 10 = .ok (.iconst 0, 1) := by decide +kernel
theorem dX5_freePlaceFor_11 : decode cX5_freePlaceFor 11 = .ok (.istore 4, 2) := by decide +kernel
theorem dX5_freePlaceFor_13 : decode cX5_freePlaceFor 13 = .ok (.iload 4, 2) := by decide +kernel
theorem dX5_freePlaceFor_15 : decode cX5_freePlaceFor 15 = .ok (.sipush 2048, 3) := by decide +kernel
theorem dX5_freePlaceFor_18 : decode cX5_freePlaceFor 18 = .ok (.if_icmp .ge 48, 3) := by decide +kernel
theorem dX5_freePlaceFor_21 : decode cX5_freePlaceFor 21 = .ok (.aload_n 0, 1) := by decide +kernel
theorem dX5_freePlaceFor_22 : decode cX5_freePlaceFor 22 = .ok (.getfield 26, 3) := by decide +kernel
theorem dX5_freePlaceFor_25 : decode cX5_freePlaceFor 25 = .ok (.iload_n 3, 1) := by decide +kernel
theorem dX5_freePlaceFor_26 : decode cX5_freePlaceFor 26 = .ok (.iaload, 1) := by decide +kernel
theorem dX5_freePlaceFor_27 : decode cX5_freePlaceFor 27 = .ok (.istore 5, 2) := by decide +kernel
theorem dX5_freePlaceFor_29 : decode cX5_freePlaceFor 29 = .ok (.iload 5, 2) := by decide +kernel
theorem dX5_freePlaceFor_31 : decode cX5_freePlaceFor 31 = .ok (.ifCond .ne 5, 3) := by decide +kernel
theorem dX5_freePlaceFor_34 : decode cX5_freePlaceFor 34 = .ok (.iload_n 3, 1) := by decide +kernel
theorem dX5_freePlaceFor_35 : decode cX5_freePlaceFor 35 = .ok (.ireturn, 1) := by decide +kernel
theorem dX5_freePlaceFor_36 : decode cX5_freePlaceFor 36 = .ok (.aload_n 0, 1) := by decide +kernel
theorem dX5_freePlaceFor_37 : decode cX5_freePlaceFor 37 = .ok (.getfield 11, 3) := by decide +kernel
theorem dX5_freePlaceFor_40 : decode cX5_freePlaceFor 40 = .ok (.iload 5, 2) := by decide +kernel
theorem dX5_freePlaceFor_42 : decode cX5_freePlaceFor 42 = .ok (.iconst 1, 1) := by decide +kernel
theorem dX5_freePlaceFor_43 : decode cX5_freePlaceFor 43 = .ok (.isub, 1) := by decide +kernel
theorem dX5_freePlaceFor_44 : decode cX5_freePlaceFor 44 = .ok (.laload, 1) := by decide +kernel
theorem dX5_freePlaceFor_45 : decode cX5_freePlaceFor 45 = .ok (.lload_n 1, 1) := by decide +kernel
theorem dX5_freePlaceFor_46 : decode cX5_freePlaceFor 46 = .ok (.lcmp, 1) := by decide +kernel
theorem dX5_freePlaceFor_47 : decode cX5_freePlaceFor 47 = .ok (.ifCond .ne 5, 3) := by decide +kernel
theorem dX5_freePlaceFor_50 : decode cX5_freePlaceFor 50 = .ok (.iconst (-1), 1) := by decide +kernel
theorem dX5_freePlaceFor_51 : decode cX5_freePlaceFor 51 = .ok (.ireturn, 1) := by decide +kernel
theorem dX5_freePlaceFor_52 : decode cX5_freePlaceFor 52 = .ok (.iload_n 3, 1) := by decide +kernel
theorem dX5_freePlaceFor_53 : decode cX5_freePlaceFor 53 = .ok (.iconst 1, 1) := by decide +kernel
theorem dX5_freePlaceFor_54 : decode cX5_freePlaceFor 54 = .ok (.iadd, 1) := by decide +kernel
theorem dX5_freePlaceFor_55 : decode cX5_freePlaceFor 55 = .ok (.sipush 2047, 3) := by decide +kernel
theorem dX5_freePlaceFor_58 : decode cX5_freePlaceFor 58 = .ok (.iand, 1) := by decide +kernel
theorem dX5_freePlaceFor_59 : decode cX5_freePlaceFor 59 = .ok (.istore_n 3, 1) := by decide +kernel
theorem dX5_freePlaceFor_60 : decode cX5_freePlaceFor 60 = .ok (.iinc 4 1, 3) := by decide +kernel
theorem dX5_freePlaceFor_63 : decode cX5_freePlaceFor 63 = .ok (.goto (-50), 3) := by decide +kernel
theorem dX5_freePlaceFor_66 : decode cX5_freePlaceFor 66 = .ok (.iconst (-1), 1) := by decide +kernel
theorem dX5_freePlaceFor_67 : decode cX5_freePlaceFor 67 = .ok (.ireturn, 1) := by decide +kernel
theorem dX6_init_0 : decode cX6_init 0 = .ok (.aload_n 0, 1) := by decide +kernel
theorem dX6_init_1 : decode cX6_init 1 = .ok (.invokespecial 3, 3) := by decide +kernel
theorem dX6_init_4 : decode cX6_init 4 = .ok (.aload_n 0, 1) := by decide +kernel
theorem dX6_init_5 : decode cX6_init 5 = .ok (.bipush 80, 2) := by decide +kernel
theorem dX6_init_7 : decode cX6_init 7 = .ok (.newarray .char, 2) := by decide +kernel
theorem dX6_init_9 : decode cX6_init 9 = .ok (.putfield 9, 3) := by decide +kernel
theorem dX6_init_12 : decode cX6_init 12 = .ok (.aload_n 0, 1) := by decide +kernel
theorem dX6_init_13 : decode cX6_init 13 = .ok (.iconst 0, 1) := by decide +kernel
theorem dX6_init_14 : decode cX6_init 14 = .ok (.putfield 15, 3) := by decide +kernel
theorem dX6_init_17 : decode cX6_init 17 = .ok (.return_, 1) := by decide +kernel
theorem dX6_append_0 : decode cX6_append 0 = .ok (.aload_n 0, 1) := by decide +kernel
theorem dX6_append_1 : decode cX6_append 1 = .ok (.getfield 15, 3) := by decide +kernel
theorem dX6_append_4 : decode cX6_append 4 = .ok (.bipush 80, 2) := by decide +kernel
theorem dX6_append_6 : decode cX6_append 6 = .ok (.if_icmp .lt 5, 3) := by decide +kernel
theorem dX6_append_9 : decode cX6_append 9 = .ok (.iconst 0, 1) := by decide +kernel
theorem dX6_append_10 : decode cX6_append 10 = .ok (.ireturn, 1) := by decide +kernel
theorem dX6_append_11 : decode cX6_append 11 = .ok (.aload_n 0, 1) := by decide +kernel
theorem dX6_append_12 : decode cX6_append 12 = .ok (.getfield 9, 3) := by decide +kernel
theorem dX6_append_15 : decode cX6_append 15 = .ok (.aload_n 0, 1) := by decide +kernel
theorem dX6_append_16 : decode cX6_append 16 = .ok (.getfield 15, 3) := by decide +kernel
theorem dX6_append_19 : decode cX6_append 19 = .ok (.iload_n 1, 1) := by decide +kernel
theorem dX6_append_20 : decode cX6_append 20 = .ok (.castore, 1) := by decide +kernel
theorem dX6_append_21 : decode cX6_append 21 = .ok (.aload_n 0, 1) := by decide +kernel
theorem dX6_append_22 : decode cX6_append 22 = .ok (.dup, 1) := by decide +kernel
theorem dX6_append_23 : decode cX6_append 23 = .ok (.getfield 15, 3) := by decide +kernel
theorem dX6_append_26 : decode cX6_append 26 = .ok (.iconst 1, 1) := by decide +kernel
theorem dX6_append_27 : decode cX6_append 27 = .ok (.iadd, 1) := by decide +kernel
theorem dX6_append_28 : decode cX6_append 28 = .ok (.putfield 15, 3) := by decide +kernel
theorem dX6_append_31 : decode cX6_append 31 = .ok (.iconst 1, 1) := by decide +kernel
theorem dX6_append_32 : decode cX6_append 32 = .ok (.ireturn, 1) := by decide +kernel
theorem dX6_at_0 : decode cX6_at 0 = .ok (.iload_n 1, 1) := by decide +kernel
theorem dX6_at_1 : decode cX6_at 1 = .ok (.ifCond .lt 20, 3) := by decide +kernel
theorem dX6_at_4 : decode cX6_at 4 = .ok (.iload_n 1, 1) := by decide +kernel
theorem dX6_at_5 : decode cX6_at 5 = .ok (.aload_n 0, 1) := by decide +kernel
theorem dX6_at_6 : decode cX6_at 6 = .ok (.getfield 15, 3) := by decide +kernel
theorem dX6_at_9 : decode cX6_at 9 = .ok (.if_icmp .ge 12, 3) := by decide +kernel
theorem dX6_at_12 : decode cX6_at 12 = .ok (.aload_n 0, 1) := by decide +kernel
theorem dX6_at_13 : decode cX6_at 13 = .ok (.getfield 9, 3) := by decide +kernel
theorem dX6_at_16 : decode cX6_at 16 = .ok (.iload_n 1, 1) := by decide +kernel
theorem dX6_at_17 : decode cX6_at 17 = .ok (.caload, 1) := by decide +kernel
theorem dX6_at_18 : decode cX6_at 18 = .ok (.goto 4, 3) := by decide +kernel
theorem dX6_at_21 : decode cX6_at 21 = .ok (.iconst 0, 1) := by decide +kernel
theorem dX6_at_22 : decode cX6_at 22 = .ok (.ireturn, 1) := by decide +kernel
theorem dX7_init_0 : decode cX7_init 0 = .ok (.aload_n 0, 1) := by decide +kernel
theorem dX7_init_1 : decode cX7_init 1 = .ok (.invokespecial 3, 3) := by decide +kernel
theorem dX7_init_4 : decode cX7_init 4 = .ok (.aload_n 0, 1) := by decide +kernel
theorem dX7_init_5 : decode cX7_init 5 = .ok (.iconst 3, 1) := by decide +kernel
theorem dX7_init_6 : decode cX7_init 6 = .ok (.putfield 9, 3) := by decide +kernel
theorem dX7_init_9 : decode cX7_init 9 = .ok (.aload_n 0, 1) := by decide +kernel
theorem dX7_init_10 : decode cX7_init 10 = .ok (.iconst 3, 1) := by decide +kernel
theorem dX7_init_11 : decode cX7_init 11 = .ok (.putfield 15, 3) := by decide +kernel
theorem dX7_init_14 : decode cX7_init 14 = .ok (.aload_n 0, 1) := by decide +kernel
theorem dX7_init_15 : decode cX7_init 15 = .ok (.bipush 64, 2) := by decide +kernel
theorem dX7_init_17 : decode cX7_init 17 = .ok (.newarray .int, 2) := by decide +kernel
theorem dX7_init_19 : decode cX7_init 19 = .ok (.putfield 18, 3) := by decide +kernel
theorem dX7_init_22 : decode cX7_init 22 = .ok (.aload_n 0, 1) := by decide +kernel
theorem dX7_init_23 : decode cX7_init 23 = .ok (.lconst 0, 1) := by decide +kernel
theorem dX7_init_24 : decode cX7_init 24 = .ok (.putfield 22, 3) := by decide +kernel
theorem dX7_init_27 : decode cX7_init 27 = .ok (.aload_n 0, 1) := by decide +kernel
theorem dX7_init_28 : decode cX7_init 28 = .ok (.lconst 0, 1) := by decide +kernel
theorem dX7_init_29 : decode cX7_init 29 = .ok (.putfield 26, 3) := by decide +kernel
theorem dX7_init_32 : decode cX7_init 32 = .ok (.aload_n 0, 1) := by decide +kernel
theorem dX7_init_33 : decode cX7_init 33 = .ok (.iconst 4, 1) := by decide +kernel
theorem dX7_init_34 : decode cX7_init 34 = .ok (.newarray .long, 2) := by decide +kernel
theorem dX7_init_36 : decode cX7_init 36 = .ok (.putfield 29, 3) := by decide +kernel
theorem dX7_init_39 : decode cX7_init 39 = .ok (.aload_n 0, 1) := by decide +kernel
theorem dX7_init_40 : decode cX7_init 40 = .ok (.iconst 4, 1) := by decide +kernel
theorem dX7_init_41 : decode cX7_init 41 = .ok (.newarray .long, 2) := by decide +kernel
theorem dX7_init_43 : decode cX7_init 43 = .ok (.putfield 33, 3) := by decide +kernel
theorem dX7_init_46 : decode cX7_init 46 = .ok (.aload_n 0, 1) := by decide +kernel
theorem dX7_init_47 : decode cX7_init 47 = .ok (.iconst 4, 1) := by decide +kernel
theorem dX7_init_48 : decode cX7_init 48 = .ok (.newarray .long, 2) := by decide +kernel
theorem dX7_init_50 : decode cX7_init 50 = .ok (.putfield 36, 3) := by decide +kernel
theorem dX7_init_53 : decode cX7_init 53 = .ok (.return_, 1) := by decide +kernel
theorem dX7_clear_0 : decode cX7_clear 0 = .ok (.aload_n 0, 1) := by decide +kernel
theorem dX7_clear_1 : decode cX7_clear 1 = .ok (.iload_n 1, 1) := by decide +kernel
theorem dX7_clear_2 : decode cX7_clear 2 = .ok (.putfield 9, 3) := by decide +kernel
end
section
theorem dX7_clear_5 : decode cX7_clear 5 = .ok (.aload_n 0, 1) := by decide +kernel
theorem dX7_clear_6 : decode cX7_clear 6 = .ok (.iload_n 2, 1) := by decide +kernel
theorem dX7_clear_7 : decode cX7_clear 7 = .ok (.putfield 15, 3) := by decide +kernel
theorem dX7_clear_10 : decode cX7_clear 10 = .ok (.aload_n 0, 1) := by decide +kernel
theorem dX7_clear_11 : decode cX7_clear 11 = .ok (.lconst 0, 1) := by decide +kernel
theorem dX7_clear_12 : decode cX7_clear 12 = .ok (.putfield 22, 3) := by decide +kernel
theorem dX7_clear_15 : decode cX7_clear 15 = .ok (.aload_n 0, 1) := by decide +kernel
theorem dX7_clear_16 : decode cX7_clear 16 = .ok (.lconst 0, 1) := by decide +kernel
theorem dX7_clear_17 : decode cX7_clear 17 = .ok (.putfield 26, 3) := by decide +kernel
theorem dX7_clear_20 : decode cX7_clear 20 = .ok (.aload_n 0, 1) := by decide +kernel
theorem dX7_clear_21 : decode cX7_clear 21 = .ok (.getfield 18, 3) := by decide +kernel
theorem dX7_clear_24 : decode cX7_clear 24 = .ok (.iconst 0, 1) := by decide +kernel
theorem dX7_clear_25 : decode cX7_clear 25 = .ok (.invokestatic 39, 3) := by decide +kernel
theorem dX7_clear_28 : decode cX7_clear 28 = .ok (.aload_n 0, 1) := by decide +kernel
theorem dX7_clear_29 : decode cX7_clear 29 = .ok (.getfield 29, 3) := by decide +kernel
theorem dX7_clear_32 : decode cX7_clear 32 = .ok (.lconst 0, 1) := by decide +kernel
theorem dX7_clear_33 : decode cX7_clear 33 = .ok (.invokestatic 45, 3) := by decide +kernel
theorem dX7_clear_36 : decode cX7_clear 36 = .ok (.aload_n 0, 1) := by decide +kernel
theorem dX7_clear_37 : decode cX7_clear 37 = .ok (.getfield 33, 3) := by decide +kernel
theorem dX7_clear_40 : decode cX7_clear 40 = .ok (.lconst 0, 1) := by decide +kernel
theorem dX7_clear_41 : decode cX7_clear 41 = .ok (.invokestatic 45, 3) := by decide +kernel
theorem dX7_clear_44 : decode cX7_clear 44 = .ok (.aload_n 0, 1) := by decide +kernel
theorem dX7_clear_45 : decode cX7_clear 45 = .ok (.getfield 36, 3) := by decide +kernel
theorem dX7_clear_48 : decode cX7_clear 48 = .ok (.lconst 0, 1) := by decide +kernel
theorem dX7_clear_49 : decode cX7_clear 49 = .ok (.invokestatic 45, 3) := by decide +kernel
theorem dX7_clear_52 : decode cX7_clear 52 = .ok (.return_, 1) := by decide +kernel
theorem dX7_put_0 : decode cX7_put 0 = .ok (.lconst 1, 1) := by decide +kernel
theorem dX7_put_1 : decode cX7_put 1 = .ok (.iload_n 1, 1) := by decide +kernel
theorem dX7_put_2 : decode cX7_put 2 = .ok (.lshl, 1) := by decide +kernel
theorem dX7_put_3 : decode cX7_put 3 = .ok (.lstore_n 3, 1) := by decide +kernel
theorem dX7_put_4 : decode cX7_put 4 = .ok (.aload_n 0, 1) := by decide +kernel
theorem dX7_put_5 : decode cX7_put 5 = .ok (.getfield 18, 3) := by decide +kernel
theorem dX7_put_8 : decode cX7_put 8 = .ok (.iload_n 1, 1) := by decide +kernel
theorem dX7_put_9 : decode cX7_put 9 = .ok (.iload_n 2, 1) := by decide +kernel
theorem dX7_put_10 : decode cX7_put 10 = .ok (.iastore, 1) := by decide +kernel
theorem dX7_put_11 : decode cX7_put 11 = .ok (.iload_n 2, 1) := by decide +kernel
theorem dX7_put_12 : decode cX7_put 12 = .ok (.bipush 10, 2) := by decide +kernel
theorem dX7_put_14 : decode cX7_put 14 = .ok (.if_icmp .lt 19, 3) := by decide +kernel
theorem dX7_put_17 : decode cX7_put 17 = .ok (.aload_n 0, 1) := by decide +kernel
theorem dX7_put_18 : decode cX7_put 18 = .ok (.getfield 36, 3) := by decide +kernel
theorem dX7_put_21 : decode cX7_put 21 = .ok (.iload_n 2, 1) := by decide +kernel
theorem dX7_put_22 : decode cX7_put 22 = .ok (.bipush 10, 2) := by decide +kernel
theorem dX7_put_24 : decode cX7_put 24 = .ok (.isub, 1) := by decide +kernel
theorem dX7_put_25 : decode cX7_put 25 = .ok (.dup2, 1) := by decide +kernel
theorem dX7_put_26 : decode cX7_put 26 = .ok (.laload, 1) := by decide +kernel
theorem dX7_put_27 : decode cX7_put 27 = .ok (.lload_n 3, 1) := by decide +kernel
theorem dX7_put_28 : decode cX7_put 28 = .ok (.lor, 1) := by decide +kernel
theorem dX7_put_29 : decode cX7_put 29 = .ok (.lastore, 1) := by decide +kernel
theorem dX7_put_30 : decode cX7_put 30 = .ok (.goto 70, 3) := by decide +kernel
theorem dX7_put_33 : decode cX7_put 33 = .ok (.iload_n 2, 1) := by decide +kernel
theorem dX7_put_34 : decode cX7_put 34 = .ok (.bipush 6, 2) := by decide +kernel
theorem dX7_put_36 : decode cX7_put 36 = .ok (.if_icmp .lt 19, 3) := by decide +kernel
theorem dX7_put_39 : decode cX7_put 39 = .ok (.aload_n 0, 1) := by decide +kernel
theorem dX7_put_40 : decode cX7_put 40 = .ok (.getfield 33, 3) := by decide +kernel
theorem dX7_put_43 : decode cX7_put 43 = .ok (.iload_n 2, 1) := by decide +kernel
theorem dX7_put_44 : decode cX7_put 44 = .ok (.bipush 6, 2) := by decide +kernel
theorem dX7_put_46 : decode cX7_put 46 = .ok (.isub, 1) := by decide +kernel
theorem dX7_put_47 : decode cX7_put 47 = .ok (.dup2, 1) := by decide +kernel
theorem dX7_put_48 : decode cX7_put 48 = .ok (.laload, 1) := by decide +kernel
theorem dX7_put_49 : decode cX7_put 49 = .ok (.lload_n 3, 1) := by decide +kernel
theorem dX7_put_50 : decode cX7_put 50 = .ok (.lor, 1) := by decide +kernel
theorem dX7_put_51 : decode cX7_put 51 = .ok (.lastore, 1) := by decide +kernel
theorem dX7_put_52 : decode cX7_put 52 = .ok (.goto 48, 3) := by decide +kernel
theorem dX7_put_55 : decode cX7_put 55 = .ok (.iload_n 2, 1) := by decide +kernel
theorem dX7_put_56 : decode cX7_put 56 = .ok (.iconst 2, 1) := by decide +kernel
theorem dX7_put_57 : decode cX7_put 57 = .ok (.if_icmp .lt 28, 3) := by decide +kernel
theorem dX7_put_60 : decode cX7_put 60 = .ok (.aload_n 0, 1) := by decide +kernel
theorem dX7_put_61 : decode cX7_put 61 = .ok (.getfield 29, 3) := by decide +kernel
theorem dX7_put_64 : decode cX7_put 64 = .ok (.iload_n 2, 1) := by decide +kernel
theorem dX7_put_65 : decode cX7_put 65 = .ok (.iconst 2, 1) := by decide +kernel
theorem dX7_put_66 : decode cX7_put 66 = .ok (.isub, 1) := by decide +kernel
theorem dX7_put_67 : decode cX7_put 67 = .ok (.dup2, 1) := by decide +kernel
theorem dX7_put_68 : decode cX7_put 68 = .ok (.laload, 1) := by decide +kernel
theorem dX7_put_69 : decode cX7_put 69 = .ok (.lload_n 3, 1) := by decide +kernel
theorem dX7_put_70 : decode cX7_put 70 = .ok (.lor, 1) := by decide +kernel
theorem dX7_put_71 : decode cX7_put 71 = .ok (.lastore, 1) := by decide +kernel
theorem dX7_put_72 : decode cX7_put 72 = .ok (.aload_n 0, 1) := by decide +kernel
theorem dX7_put_73 : decode cX7_put 73 = .ok (.dup, 1) := by decide +kernel
theorem dX7_put_74 : decode cX7_put 74 = .ok (.getfield 26, 3) := by decide +kernel
theorem dX7_put_77 : decode cX7_put 77 = .ok (.lload_n 3, 1) := by decide +kernel
theorem dX7_put_78 : decode cX7_put 78 = .ok (.lor, 1) := by decide +kernel
theorem dX7_put_79 : decode cX7_put 79 = .ok (.putfield 26, 3) := by decide +kernel
theorem dX7_put_82 : decode cX7_put 82 = .ok (.goto 18, 3) := by decide +kernel
theorem dX7_put_85 : decode cX7_put 85 = .ok (.iload_n 2, 1) := by decide +kernel
theorem dX7_put_86 : decode cX7_put 86 = .ok (.iconst 1, 1) := by decide +kernel
theorem dX7_put_87 : decode cX7_put 87 = .ok (.if_icmp .ne 13, 3) := by decide +kernel
theorem dX7_put_90 : decode cX7_put 90 = .ok (.aload_n 0, 1) := by decide +kernel
theorem dX7_put_91 : decode cX7_put 91 = .ok (.dup, 1) := by decide +kernel
theorem dX7_put_92 : decode cX7_put 92 = .ok (.getfield 22, 3) := by decide +kernel
theorem dX7_put_95 : decode cX7_put 95 = .ok (.lload_n 3, 1) := by decide +kernel
theorem dX7_put_96 : decode cX7_put 96 = .ok (.lor, 1) := by decide +kernel
theorem dX7_put_97 : decode cX7_put 97 = .ok (.putfield 22, 3) := by decide +kernel
theorem dX7_put_100 : decode cX7_put 100 = .ok (.return_, 1) := by decide +kernel
theorem dX7_cellAt_0 : decode cX7_cellAt 0 = .ok (.iload_n 1, 1) := by decide +kernel
theorem dX7_cellAt_1 : decode cX7_cellAt 1 = .ok (.ifCond .lt 32, 3) := by decide +kernel
theorem dX7_cellAt_4 : decode cX7_cellAt 4 = .ok (.iload_n 1, 1) := by decide +kernel
theorem dX7_cellAt_5 : decode cX7_cellAt 5 = .ok (.aload_n 0, 1) := by decide +kernel
theorem dX7_cellAt_6 : decode cX7_cellAt 6 = .ok (.getfield 9, 3) := by decide +kernel
theorem dX7_cellAt_9 : decode cX7_cellAt 9 = .ok (.if_icmp .ge 24, 3) := by decide +kernel
theorem dX7_cellAt_12 : decode cX7_cellAt 12 = .ok (.iload_n 2, 1) := by decide +kernel
theorem dX7_cellAt_13 : decode cX7_cellAt 13 = .ok (.ifCond .lt 20, 3) := by decide +kernel
theorem dX7_cellAt_16 : decode cX7_cellAt 16 = .ok (.iload_n 2, 1) := by decide +kernel
theorem dX7_cellAt_17 : decode cX7_cellAt 17 = .ok (.aload_n 0, 1) := by decide +kernel
theorem dX7_cellAt_18 : decode cX7_cellAt 18 = .ok (.getfield 15, 3) := by decide +kernel
theorem dX7_cellAt_21 : decode cX7_cellAt 21 = .ok (.if_icmp .ge 12, 3) := by decide +kernel
theorem dX7_cellAt_24 : decode cX7_cellAt 24 = .ok (.bipush 8, 2) := by decide +kernel
theorem dX7_cellAt_26 : decode cX7_cellAt 26 = .ok (.iload_n 2, 1) := by decide +kernel
theorem dX7_cellAt_27 : decode cX7_cellAt 27 = .ok (.imul, 1) := by decide +kernel
theorem dX7_cellAt_28 : decode cX7_cellAt 28 = .ok (.iload_n 1, 1) := by decide +kernel
theorem dX7_cellAt_29 : decode cX7_cellAt 29 = .ok (.iadd, 1) := by decide +kernel
theorem dX7_cellAt_30 : decode cX7_cellAt 30 = .ok (.goto 4, 3) := by decide +kernel
theorem dX7_cellAt_33 : decode cX7_cellAt 33 = .ok (.iconst (-1), 1) := by decide +kernel
theorem dX7_cellAt_34 : decode cX7_cellAt 34 = .ok (.ireturn, 1) := by decide +kernel
theorem dX7_shifted_0 : decode cX7_shifted 0 = .ok (.iload_n 2, 1) := by decide +kernel
theorem dX7_shifted_1 : decode cX7_shifted 1 = .ok (.iconst 4, 1) := by decide +kernel
theorem dX7_shifted_2 : decode cX7_shifted 2 = .ok (.if_icmp .lt 25, 3) := by decide +kernel
theorem dX7_shifted_5 : decode cX7_shifted 5 = .ok (.iload_n 2, 1) := by decide +kernel
theorem dX7_shifted_6 : decode cX7_shifted 6 = .ok (.iconst 4, 1) := by decide +kernel
theorem dX7_shifted_7 : decode cX7_shifted 7 = .ok (.if_icmp .ne 7, 3) := by decide +kernel
theorem dX7_shifted_10 : decode cX7_shifted 10 = .ok (.iconst 1, 1) := by decide +kernel
theorem dX7_shifted_11 : decode cX7_shifted 11 = .ok (.goto 4, 3) := by decide +kernel
theorem dX7_shifted_14 : decode cX7_shifted 14 = .ok (.iconst 3, 1) := by decide +kernel
theorem dX7_shifted_15 : decode cX7_shifted 15 = .ok (.istore_n 3, 1) := by decide +kernel
theorem dX7_shifted_16 : decode cX7_shifted 16 = .ok (.iload_n 1, 1) := by decide +kernel
theorem dX7_shifted_17 : decode cX7_shifted 17 = .ok (.bipush 64, 2) := by decide +kernel
theorem dX7_shifted_19 : decode cX7_shifted 19 = .ok (.iload_n 3, 1) := by decide +kernel
theorem dX7_shifted_20 : decode cX7_shifted 20 = .ok (.imul, 1) := by decide +kernel
theorem dX7_shifted_21 : decode cX7_shifted 21 = .ok (.iadd, 1) := by decide +kernel
theorem dX7_shifted_22 : decode cX7_shifted 22 = .ok (.sipush 255, 3) := by decide +kernel
theorem dX7_shifted_25 : decode cX7_shifted 25 = .ok (.iand, 1) := by decide +kernel
theorem dX7_shifted_26 : decode cX7_shifted 26 = .ok (.ireturn, 1) := by decide +kernel
theorem dX7_shifted_27 : decode cX7_shifted 27 = .ok (.iload_n 1, 1) := by decide +kernel
theorem dX7_shifted_28 : decode cX7_shifted 28 = .ok (.bipush 7, 2) := by decide +kernel
theorem dX7_shifted_30 : decode cX7_shifted 30 = .ok (.iand, 1) := by decide +kernel
theorem dX7_shifted_31 : decode cX7_shifted 31 = .ok (.getstatic 48, 3) := by decide +kernel
theorem dX7_shifted_34 : decode cX7_shifted 34 = .ok (.iload_n 2, 1) := by decide +kernel
theorem dX7_shifted_35 : decode cX7_shifted 35 = .ok (.iaload, 1) := by decide +kernel
theorem dX7_shifted_36 : decode cX7_shifted 36 = .ok (.iadd, 1) := by decide +kernel
theorem dX7_shifted_37 : decode cX7_shifted 37 = .ok (.istore_n 3, 1) := by decide +kernel
theorem dX7_shifted_38 : decode cX7_shifted 38 = .ok (.iload_n 1, 1) := by decide +kernel
theorem dX7_shifted_39 : decode cX7_shifted 39 = .ok (.iconst 3, 1) := by decide +kernel
theorem dX7_shifted_40 : decode cX7_shifted 40 = .ok (.ishr, 1) := by decide +kernel
theorem dX7_shifted_41 : decode cX7_shifted 41 = .ok (.bipush 7, 2) := by decide +kernel
theorem dX7_shifted_43 : decode cX7_shifted 43 = .ok (.iand, 1) := by decide +kernel
theorem dX7_shifted_44 : decode cX7_shifted 44 = .ok (.getstatic 51, 3) := by decide +kernel
theorem dX7_shifted_47 : decode cX7_shifted 47 = .ok (.iload_n 2, 1) := by decide +kernel
theorem dX7_shifted_48 : decode cX7_shifted 48 = .ok (.iaload, 1) := by decide +kernel
theorem dX7_shifted_49 : decode cX7_shifted 49 = .ok (.iadd, 1) := by decide +kernel
theorem dX7_shifted_50 : decode cX7_shifted 50 = .ok (.istore 4, 2) := by decide +kernel
theorem dX7_shifted_52 : decode cX7_shifted 52 = .ok (.iload_n 3, 1) := by decide +kernel
theorem dX7_shifted_53 : decode cX7_shifted 53 = .ok (.ifCond .lt 29, 3) := by decide +kernel
theorem dX7_shifted_56 : decode cX7_shifted 56 = .ok (.iload_n 3, 1) := by decide +kernel
theorem dX7_shifted_57 : decode cX7_shifted 57 = .ok (.aload_n 0, 1) := by decide +kernel
theorem dX7_shifted_58 : decode cX7_shifted 58 = .ok (.getfield 9, 3) := by decide +kernel
theorem dX7_shifted_61 : decode cX7_shifted 61 = .ok (.if_icmp .ge 21, 3) := by decide +kernel
theorem dX7_shifted_64 : decode cX7_shifted 64 = .ok (.iload 4, 2) := by decide +kernel
theorem dX7_shifted_66 : decode cX7_shifted 66 = .ok (.ifCond .lt 16, 3) := by decide +kernel
theorem dX7_shifted_69 : decode cX7_shifted 69 = .ok (.iload 4, 2) := by decide +kernel
theorem dX7_shifted_71 : decode cX7_shifted 71 = .ok (.aload_n 0, 1) := by decide +kernel
theorem dX7_shifted_72 : decode cX7_shifted 72 = .ok (.getfield 15, 3) := by decide +kernel
theorem dX7_shifted_75 : decode cX7_shifted 75 = .ok (.if_icmp .ge 7, 3) := by decide +kernel
theorem dX7_shifted_78 : decode cX7_shifted 78 = .ok (.iconst 1, 1) := by decide +kernel
theorem dX7_shifted_79 : decode cX7_shifted 79 = .ok (.goto 4, 3) := by decide +kernel
theorem dX7_shifted_82 : decode cX7_shifted 82 = .ok (.iconst 0, 1) := by decide +kernel
theorem dX7_shifted_83 : decode cX7_shifted 83 = .ok (.istore 5, 2) := by decide +kernel
theorem dX7_shifted_85 : decode cX7_shifted 85 = .ok (.iload 5, 2) := by decide +kernel
theorem dX7_shifted_87 : decode cX7_shifted 87 = .ok (.ifCond .eq 22, 3) := by decide +kernel
theorem dX7_shifted_90 : decode cX7_shifted 90 = .ok (.iload_n 1, 1) := by decide +kernel
theorem dX7_shifted_91 : decode cX7_shifted 91 = .ok (.getstatic 48, 3) := by decide +kernel
theorem dX7_shifted_94 : decode cX7_shifted 94 = .ok (.iload_n 2, 1) := by decide +kernel
theorem dX7_shifted_95 : decode cX7_shifted 95 = .ok (.iaload, 1) := by decide +kernel
theorem dX7_shifted_96 : decode cX7_shifted 96 = .ok (.iadd, 1) := by decide +kernel
theorem dX7_shifted_97 : decode cX7_shifted 97 = .ok (.bipush 8, 2) := by decide +kernel
theorem dX7_shifted_99 : decode cX7_shifted 99 = .ok (.getstatic 51, 3) := by decide +kernel
theorem dX7_shifted_102 : decode cX7_shifted 102 = .ok (.iload_n 2, 1) := by decide +kernel
theorem dX7_shifted_103 : decode cX7_shifted 103 = .ok (.iaload, 1) := by decide +kernel
theorem dX7_shifted_104 : decode cX7_shifted 104 = .ok (.imul, 1) := by decide +kernel
theorem dX7_shifted_105 : decode cX7_shifted 105 = .ok (.iadd, 1) := by decide +kernel
theorem dX7_shifted_106 : decode cX7_shifted 106 = .ok (.goto 4, 3) := by decide +kernel
theorem dX7_shifted_109 : decode cX7_shifted 109 = .ok (.iconst (-1), 1) := by decide +kernel
theorem dX7_shifted_110 : decode cX7_shifted 110 = .ok (.ireturn, 1) := by decide +kernel
theorem dX8_init_0 : decode cX8_init 0 = .ok (.aload_n 0, 1) := by decide +kernel
theorem dX8_init_1 : decode cX8_init 1 = .ok (.invokespecial 1, 3) := by decide +kernel
theorem dX8_init_4 : decode cX8_init 4 = .ok (.aload_n 0, 1) := by decide +kernel
theorem dX8_init_5 : decode cX8_init 5 = .ok (.new 7, 3) := by decide +kernel
theorem dX8_init_8 : decode cX8_init 8 = .ok (.dup, 1) := by decide +kernel
theorem dX8_init_9 : decode cX8_init 9 = .ok (.invokespecial 9, 3) := by decide +kernel
theorem dX8_init_12 : decode cX8_init 12 = .ok (.putfield 10, 3) := by decide +kernel
theorem dX8_init_15 : decode cX8_init 15 = .ok (.aload_n 0, 1) := by decide +kernel
theorem dX8_init_16 : decode cX8_init 16 = .ok (.new 16, 3) := by decide +kernel
theorem dX8_init_19 : decode cX8_init 19 = .ok (.dup, 1) := by decide +kernel
theorem dX8_init_20 : decode cX8_init 20 = .ok (.invokespecial 18, 3) := by decide +kernel
theorem dX8_init_23 : decode cX8_init 23 = .ok (.putfield 19, 3) := by decide +kernel
theorem dX8_init_26 : decode cX8_init 26 = .ok (.aload_n 0, 1) := by decide +kernel
theorem dX8_init_27 : decode cX8_init 27 = .ok (.new 23, 3) := by decide +kernel
theorem dX8_init_30 : decode cX8_init 30 = .ok (.dup, 1) := by decide +kernel
theorem dX8_init_31 : decode cX8_init 31 = .ok (.aload_n 0, 1) := by decide +kernel
theorem dX8_init_32 : decode cX8_init 32 = .ok (.getfield 10, 3) := by decide +kernel
theorem dX8_init_35 : decode cX8_init 35 = .ok (.invokespecial 25, 3) := by decide +kernel
theorem dX8_init_38 : decode cX8_init 38 = .ok (.putfield 28, 3) := by decide +kernel
theorem dX8_init_41 : decode cX8_init 41 = .ok (.aload_n 0, 1) := by decide +kernel
theorem dX8_init_42 : decode cX8_init 42 = .ok (.new 32, 3) := by decide +kernel
theorem dX8_init_45 : decode cX8_init 45 = .ok (.dup, 1) := by decide +kernel
theorem dX8_init_46 : decode cX8_init 46 = .ok (.aload_n 0, 1) := by decide +kernel
theorem dX8_init_47 : decode cX8_init 47 = .ok (.getfield 19, 3) := by decide +kernel
theorem dX8_init_50 : decode cX8_init 50 = .ok (.invokespecial 34, 3) := by decide +kernel
theorem dX8_init_53 : decode cX8_init 53 = .ok (.putfield 37, 3) := by decide +kernel
theorem dX8_init_56 : decode cX8_init 56 = .ok (.aload_n 0, 1) := by decide +kernel
theorem dX8_init_57 : decode cX8_init 57 = .ok (.new 41, 3) := by decide +kernel
theorem dX8_init_60 : decode cX8_init 60 = .ok (.dup, 1) := by decide +kernel
theorem dX8_init_61 : decode cX8_init 61 = .ok (.invokespecial 43, 3) := by decide +kernel
theorem dX8_init_64 : decode cX8_init 64 = .ok (.putfield 44, 3) := by decide +kernel
theorem dX8_init_67 : decode cX8_init 67 = .ok (.aload_n 0, 1) := by decide +kernel
theorem dX8_init_68 : decode cX8_init 68 = .ok (.new 48, 3) := by decide +kernel
theorem dX8_init_71 : decode cX8_init 71 = .ok (.dup, 1) := by decide +kernel
theorem dX8_init_72 : decode cX8_init 72 = .ok (.aload_n 0, 1) := by decide +kernel
theorem dX8_init_73 : decode cX8_init 73 = .ok (.getfield 19, 3) := by decide +kernel
theorem dX8_init_76 : decode cX8_init 76 = .ok (.invokespecial 50, 3) := by decide +kernel
theorem dX8_init_79 : decode cX8_init 79 = .ok (.putfield 51, 3) := by decide +kernel
theorem dX8_init_82 : decode cX8_init 82 = .ok (.aload_n 0, 1) := by decide +kernel
theorem dX8_init_83 : decode cX8_init 83 = .ok (.iconst 4, 1) := by decide +kernel
theorem dX8_init_84 : decode cX8_init 84 = .ok (.newarray .long, 2) := by decide +kernel
theorem dX8_init_86 : decode cX8_init 86 = .ok (.putfield 55, 3) := by decide +kernel
theorem dX8_init_89 : decode cX8_init 89 = .ok (.aload_n 0, 1) := by decide +kernel
theorem dX8_init_90 : decode cX8_init 90 = .ok (.iconst 0, 1) := by decide +kernel
theorem dX8_init_91 : decode cX8_init 91 = .ok (.putfield 59, 3) := by decide +kernel
theorem dX8_init_94 : decode cX8_init 94 = .ok (.return_, 1) := by decide +kernel
theorem dX8_type_0 : decode cX8_type 0 = .ok (.aload_n 0, 1) := by decide +kernel
theorem dX8_type_1 : decode cX8_type 1 = .ok (.getfield 10, 3) := by decide +kernel
theorem dX8_type_4 : decode cX8_type 4 = .ok (.iload_n 1, 1) := by decide +kernel
theorem dX8_type_5 : decode cX8_type 5 = .ok (.invokevirtual 63, 3) := by decide +kernel
theorem dX8_type_8 : decode cX8_type 8 = .ok (.ifCond .eq 13, 3) := by decide +kernel
theorem dX8_type_11 : decode cX8_type 11 = .ok (.aload_n 0, 1) := by decide +kernel
theorem dX8_type_12 : decode cX8_type 12 = .ok (.getfield 10, 3) := by decide +kernel
theorem dX8_type_15 : decode cX8_type 15 = .ok (.getfield 67, 3) := by decide +kernel
theorem dX8_type_18 : decode cX8_type 18 = .ok (.goto 5, 3) := by decide +kernel
theorem dX8_type_21 : decode cX8_type 21 = .ok (.bipush (-5), 2) := by decide +kernel
theorem dX8_type_23 : decode cX8_type 23 = .ok (.ireturn, 1) := by decide +kernel
theorem dX8_clearText_0 : decode cX8_clearText 0 = .ok (.aload_n 0, 1) := by decide +kernel
theorem dX8_clearText_1 : decode cX8_clearText 1 = .ok (.getfield 10, 3) := by decide +kernel
theorem dX8_clearText_4 : decode cX8_clearText 4 = .ok (.getfield 67, 3) := by decide +kernel
theorem dX8_clearText_7 : decode cX8_clearText 7 = .ok (.istore_n 1, 1) := by decide +kernel
theorem dX8_clearText_8 : decode cX8_clearText 8 = .ok (.aload_n 0, 1) := by decide +kernel
theorem dX8_clearText_9 : decode cX8_clearText 9 = .ok (.getfield 10, 3) := by decide +kernel
theorem dX8_clearText_12 : decode cX8_clearText 12 = .ok (.iconst 0, 1) := by decide +kernel
theorem dX8_clearText_13 : decode cX8_clearText 13 = .ok (.putfield 67, 3) := by decide +kernel
theorem dX8_clearText_16 : decode cX8_clearText 16 = .ok (.iload_n 1, 1) := by decide +kernel
theorem dX8_clearText_17 : decode cX8_clearText 17 = .ok (.ireturn, 1) := by decide +kernel
theorem dX8_readLevel_0 : decode cX8_readLevel 0 = .ok (.aload_n 0, 1) := by decide +kernel
theorem dX8_readLevel_1 : decode cX8_readLevel 1 = .ok (.getfield 28, 3) := by decide +kernel
theorem dX8_readLevel_4 : decode cX8_readLevel 4 = .ok (.invokevirtual 70, 3) := by decide +kernel
theorem dX8_readLevel_7 : decode cX8_readLevel 7 = .ok (.istore_n 1, 1) := by decide +kernel
theorem dX8_readLevel_8 : decode cX8_readLevel 8 = .ok (.iload_n 1, 1) := by decide +kernel
theorem dX8_readLevel_9 : decode cX8_readLevel 9 = .ok (.iconst (-1), 1) := by decide +kernel
theorem dX8_readLevel_10 : decode cX8_readLevel 10 = .ok (.if_icmp .eq 8, 3) := by decide +kernel
theorem dX8_readLevel_13 : decode cX8_readLevel 13 = .ok (.bipush (-100), 2) := by decide +kernel
theorem dX8_readLevel_15 : decode cX8_readLevel 15 = .ok (.iload_n 1, 1) := by decide +kernel
theorem dX8_readLevel_16 : decode cX8_readLevel 16 = .ok (.isub, 1) := by decide +kernel
theorem dX8_readLevel_17 : decode cX8_readLevel 17 = .ok (.ireturn, 1) := by decide +kernel
theorem dX8_readLevel_18 : decode cX8_readLevel 18 = .ok (.aload_n 0, 1) := by decide +kernel
theorem dX8_readLevel_19 : decode cX8_readLevel 19 = .ok (.getfield 44, 3) := by decide +kernel
theorem dX8_readLevel_22 : decode cX8_readLevel 22 = .ok (.aload_n 0, 1) := by decide +kernel
theorem dX8_readLevel_23 : decode cX8_readLevel 23 = .ok (.getfield 28, 3) := by decide +kernel
theorem dX8_readLevel_26 : decode cX8_readLevel 26 = .ok (.aload_n 0, 1) := by decide +kernel
theorem dX8_readLevel_27 : decode cX8_readLevel 27 = .ok (.getfield 19, 3) := by decide +kernel
theorem dX8_readLevel_30 : decode cX8_readLevel 30 = .ok (.invokevirtual 74, 3) := by decide +kernel
theorem dX8_readLevel_33 : decode cX8_readLevel 33 = .ok (.invokevirtual 78, 3) := by decide +kernel
theorem dX8_readLevel_36 : decode cX8_readLevel 36 = .ok (.aload_n 0, 1) := by decide +kernel
theorem dX8_readLevel_37 : decode cX8_readLevel 37 = .ok (.iconst 0, 1) := by decide +kernel
theorem dX8_readLevel_38 : decode cX8_readLevel 38 = .ok (.putfield 59, 3) := by decide +kernel
theorem dX8_readLevel_41 : decode cX8_readLevel 41 = .ok (.aload_n 0, 1) := by decide +kernel
theorem dX8_readLevel_42 : decode cX8_readLevel 42 = .ok (.getfield 51, 3) := by decide +kernel
theorem dX8_readLevel_45 : decode cX8_readLevel 45 = .ok (.invokevirtual 82, 3) := by decide +kernel
theorem dX8_readLevel_48 : decode cX8_readLevel 48 = .ok (.aload_n 0, 1) := by decide +kernel
theorem dX8_readLevel_49 : decode cX8_readLevel 49 = .ok (.getfield 19, 3) := by decide +kernel
theorem dX8_readLevel_52 : decode cX8_readLevel 52 = .ok (.invokevirtual 85, 3) := by decide +kernel
theorem dX8_readLevel_55 : decode cX8_readLevel 55 = .ok (.ireturn, 1) := by decide +kernel
theorem dX8_readMoves_0 : decode cX8_readMoves 0 = .ok (.aload_n 0, 1) := by decide +kernel
theorem dX8_readMoves_1 : decode cX8_readMoves 1 = .ok (.invokevirtual 88, 3) := by decide +kernel
theorem dX8_readMoves_4 : decode cX8_readMoves 4 = .ok (.istore_n 1, 1) := by decide +kernel
theorem dX8_readMoves_5 : decode cX8_readMoves 5 = .ok (.iload_n 1, 1) := by decide +kernel
theorem dX8_readMoves_6 : decode cX8_readMoves 6 = .ok (.iconst (-1), 1) := by decide +kernel
theorem dX8_readMoves_7 : decode cX8_readMoves 7 = .ok (.if_icmp .eq 8, 3) := by decide +kernel
theorem dX8_readMoves_10 : decode cX8_readMoves 10 = .ok (.bipush (-100), 2) := by decide +kernel
theorem dX8_readMoves_12 : decode cX8_readMoves 12 = .ok (.iload_n 1, 1) := by decide +kernel
theorem dX8_readMoves_13 : decode cX8_readMoves 13 = .ok (.isub, 1) := by decide +kernel
theorem dX8_readMoves_14 : decode cX8_readMoves 14 = .ok (.ireturn, 1) := by decide +kernel
theorem dX8_readMoves_15 : decode cX8_readMoves 15 = .ok (.aload_n 0, 1) := by decide +kernel
theorem dX8_readMoves_16 : decode cX8_readMoves 16 = .ok (.getfield 10, 3) := by decide +kernel
theorem dX8_readMoves_19 : decode cX8_readMoves 19 = .ok (.getfield 67, 3) := by decide +kernel
theorem dX8_readMoves_22 : decode cX8_readMoves 22 = .ok (.iconst 2, 1) := by decide +kernel
theorem dX8_readMoves_23 : decode cX8_readMoves 23 = .ok (.idiv, 1) := by decide +kernel
theorem dX8_readMoves_24 : decode cX8_readMoves 24 = .ok (.istore_n 2, 1) := by decide +kernel
theorem dX8_readMoves_25 : decode cX8_readMoves 25 = .ok (.aload_n 0, 1) := by decide +kernel
theorem dX8_readMoves_26 : decode cX8_readMoves 26 = .ok (.getfield 44, 3) := by decide +kernel
theorem dX8_readMoves_29 : decode cX8_readMoves 29 = .ok (.getfield 91, 3) := by decide +kernel
theorem dX8_readMoves_32 : decode cX8_readMoves 32 = .ok (.iload_n 2, 1) := by decide +kernel
theorem dX8_readMoves_33 : decode cX8_readMoves 33 = .ok (.iadd, 1) := by decide +kernel
theorem dX8_readMoves_34 : decode cX8_readMoves 34 = .ok (.sipush 200, 3) := by decide +kernel
theorem dX8_readMoves_37 : decode cX8_readMoves 37 = .ok (.if_icmp .le 6, 3) := by decide +kernel
theorem dX8_readMoves_40 : decode cX8_readMoves 40 = .ok (.bipush (-5), 2) := by decide +kernel
theorem dX8_readMoves_42 : decode cX8_readMoves 42 = .ok (.ireturn, 1) := by decide +kernel
theorem dX8_readMoves_43 : decode cX8_readMoves 43 = .ok (.iconst 0, 1) := by decide +kernel
theorem dX8_readMoves_44 : decode cX8_readMoves 44 = .ok (.istore_n 3, 1) := by decide +kernel
theorem dX8_readMoves_45 : decode cX8_readMoves 45 = .ok (.iload_n 3, 1) := by decide +kernel
theorem dX8_readMoves_46 : decode cX8_readMoves 46 = .ok (.iload_n 2, 1) := by decide +kernel
theorem dX8_readMoves_47 : decode cX8_readMoves 47 = .ok (.if_icmp .ge 57, 3) := by decide +kernel
theorem dX8_readMoves_50 : decode cX8_readMoves 50 = .ok (.aload_n 0, 1) := by decide +kernel
theorem dX8_readMoves_51 : decode cX8_readMoves 51 = .ok (.getfield 10, 3) := by decide +kernel
theorem dX8_readMoves_54 : decode cX8_readMoves 54 = .ok (.iconst 2, 1) := by decide +kernel
theorem dX8_readMoves_55 : decode cX8_readMoves 55 = .ok (.iload_n 3, 1) := by decide +kernel
theorem dX8_readMoves_56 : decode cX8_readMoves 56 = .ok (.imul, 1) := by decide +kernel
theorem dX8_readMoves_57 : decode cX8_readMoves 57 = .ok (.invokevirtual 94, 3) := by decide +kernel
theorem dX8_readMoves_60 : decode cX8_readMoves 60 = .ok (.bipush 97, 2) := by decide +kernel
theorem dX8_readMoves_62 : decode cX8_readMoves 62 = .ok (.isub, 1) := by decide +kernel
theorem dX8_readMoves_63 : decode cX8_readMoves 63 = .ok (.istore 4, 2) := by decide +kernel
theorem dX8_readMoves_65 : decode cX8_readMoves 65 = .ok (.aload_n 0, 1) := by decide +kernel
theorem dX8_readMoves_66 : decode cX8_readMoves 66 = .ok (.getfield 10, 3) := by decide +kernel
theorem dX8_readMoves_69 : decode cX8_readMoves 69 = .ok (.iconst 2, 1) := by decide +kernel
theorem dX8_readMoves_70 : decode cX8_readMoves 70 = .ok (.iload_n 3, 1) := by decide +kernel
theorem dX8_readMoves_71 : decode cX8_readMoves 71 = .ok (.imul, 1) := by decide +kernel
theorem dX8_readMoves_72 : decode cX8_readMoves 72 = .ok (.iconst 1, 1) := by decide +kernel
theorem dX8_readMoves_73 : decode cX8_readMoves 73 = .ok (.iadd, 1) := by decide +kernel
theorem dX8_readMoves_74 : decode cX8_readMoves 74 = .ok (.invokevirtual 94, 3) := by decide +kernel
theorem dX8_readMoves_77 : decode cX8_readMoves 77 = .ok (.invokestatic 98, 3) := by decide +kernel
theorem dX8_readMoves_80 : decode cX8_readMoves 80 = .ok (.istore 5, 2) := by decide +kernel
theorem dX8_readMoves_82 : decode cX8_readMoves 82 = .ok (.aload_n 0, 1) := by decide +kernel
theorem dX8_readMoves_83 : decode cX8_readMoves 83 = .ok (.iload 4, 2) := by decide +kernel
theorem dX8_readMoves_85 : decode cX8_readMoves 85 = .ok (.iload 5, 2) := by decide +kernel
theorem dX8_readMoves_87 : decode cX8_readMoves 87 = .ok (.aload_n 0, 1) := by decide +kernel
theorem dX8_readMoves_88 : decode cX8_readMoves 88 = .ok (.iload 4, 2) := by decide +kernel
theorem dX8_readMoves_90 : decode cX8_readMoves 90 = .ok (.iload 5, 2) := by decide +kernel
theorem dX8_readMoves_92 : decode cX8_readMoves 92 = .ok (.invokevirtual 102, 3) := by decide +kernel
theorem dX8_readMoves_95 : decode cX8_readMoves 95 = .ok (.invokevirtual 106, 3) := by decide +kernel
theorem dX8_readMoves_98 : decode cX8_readMoves 98 = .ok (.iinc 3 1, 3) := by decide +kernel
theorem dX8_readMoves_101 : decode cX8_readMoves 101 = .ok (.goto (-56), 3) := by decide +kernel
theorem dX8_readMoves_104 : decode cX8_readMoves 104 = .ok (.iload_n 2, 1) := by decide +kernel
theorem dX8_readMoves_105 : decode cX8_readMoves 105 = .ok (.ireturn, 1) := by decide +kernel
theorem dX8_size_0 : decode cX8_size 0 = .ok (.iload_n 1, 1) := by decide +kernel
theorem dX8_size_1 : decode cX8_size 1 = .ok (.tableswitch 69 0 3 #[31, 42, 53, 61], 31) := by decide +kernel
theorem dX8_size_32 : decode cX8_size 32 = .ok (.aload_n 0, 1) := by decide +kernel
theorem dX8_size_33 : decode cX8_size 33 = .ok (.getfield 19, 3) := by decide +kernel
theorem dX8_size_36 : decode cX8_size 36 = .ok (.getfield 110, 3) := by decide +kernel
theorem dX8_size_39 : decode cX8_size 39 = .ok (.getfield 114, 3) := by decide +kernel
theorem dX8_size_42 : decode cX8_size 42 = .ok (.ireturn, 1) := by decide +kernel
theorem dX8_size_43 : decode cX8_size 43 = .ok (.aload_n 0, 1) := by decide +kernel
theorem dX8_size_44 : decode cX8_size 44 = .ok (.getfield 19, 3) := by decide +kernel
theorem dX8_size_47 : decode cX8_size 47 = .ok (.getfield 110, 3) := by decide +kernel
theorem dX8_size_50 : decode cX8_size 50 = .ok (.getfield 119, 3) := by decide +kernel
theorem dX8_size_53 : decode cX8_size 53 = .ok (.ireturn, 1) := by decide +kernel
theorem dX8_size_54 : decode cX8_size 54 = .ok (.aload_n 0, 1) := by decide +kernel
theorem dX8_size_55 : decode cX8_size 55 = .ok (.getfield 19, 3) := by decide +kernel
theorem dX8_size_58 : decode cX8_size 58 = .ok (.invokevirtual 85, 3) := by decide +kernel
theorem dX8_size_61 : decode cX8_size 61 = .ok (.ireturn, 1) := by decide +kernel
theorem dX8_size_62 : decode cX8_size 62 = .ok (.aload_n 0, 1) := by decide +kernel
theorem dX8_size_63 : decode cX8_size 63 = .ok (.getfield 19, 3) := by decide +kernel
theorem dX8_size_66 : decode cX8_size 66 = .ok (.getfield 122, 3) := by decide +kernel
theorem dX8_size_69 : decode cX8_size 69 = .ok (.ireturn, 1) := by decide +kernel
theorem dX8_size_70 : decode cX8_size 70 = .ok (.bipush (-3), 2) := by decide +kernel
theorem dX8_size_72 : decode cX8_size 72 = .ok (.ireturn, 1) := by decide +kernel
theorem dX8_cell_0 : decode cX8_cell 0 = .ok (.aload_n 0, 1) := by decide +kernel
theorem dX8_cell_1 : decode cX8_cell 1 = .ok (.getfield 19, 3) := by decide +kernel
theorem dX8_cell_4 : decode cX8_cell 4 = .ok (.getfield 110, 3) := by decide +kernel
theorem dX8_cell_7 : decode cX8_cell 7 = .ok (.iload_n 1, 1) := by decide +kernel
theorem dX8_cell_8 : decode cX8_cell 8 = .ok (.iload_n 2, 1) := by decide +kernel
theorem dX8_cell_9 : decode cX8_cell 9 = .ok (.invokevirtual 125, 3) := by decide +kernel
theorem dX8_cell_12 : decode cX8_cell 12 = .ok (.istore_n 3, 1) := by decide +kernel
theorem dX8_cell_13 : decode cX8_cell 13 = .ok (.iload_n 3, 1) := by decide +kernel
theorem dX8_cell_14 : decode cX8_cell 14 = .ok (.ifCond .ge 8, 3) := by decide +kernel
theorem dX8_cell_17 : decode cX8_cell 17 = .ok (.bipush (-2), 2) := by decide +kernel
theorem dX8_cell_19 : decode cX8_cell 19 = .ok (.goto 15, 3) := by decide +kernel
theorem dX8_cell_22 : decode cX8_cell 22 = .ok (.aload_n 0, 1) := by decide +kernel
theorem dX8_cell_23 : decode cX8_cell 23 = .ok (.getfield 19, 3) := by decide +kernel
theorem dX8_cell_26 : decode cX8_cell 26 = .ok (.getfield 110, 3) := by decide +kernel
theorem dX8_cell_29 : decode cX8_cell 29 = .ok (.getfield 128, 3) := by decide +kernel
theorem dX8_cell_32 : decode cX8_cell 32 = .ok (.iload_n 3, 1) := by decide +kernel
theorem dX8_cell_33 : decode cX8_cell 33 = .ok (.iaload, 1) := by decide +kernel
theorem dX8_cell_34 : decode cX8_cell 34 = .ok (.ireturn, 1) := by decide +kernel
theorem dX8_blockAt_0 : decode cX8_blockAt 0 = .ok (.aload_n 0, 1) := by decide +kernel
theorem dX8_blockAt_1 : decode cX8_blockAt 1 = .ok (.getfield 19, 3) := by decide +kernel
theorem dX8_blockAt_4 : decode cX8_blockAt 4 = .ok (.getfield 110, 3) := by decide +kernel
theorem dX8_blockAt_7 : decode cX8_blockAt 7 = .ok (.iload_n 1, 1) := by decide +kernel
theorem dX8_blockAt_8 : decode cX8_blockAt 8 = .ok (.iload_n 2, 1) := by decide +kernel
theorem dX8_blockAt_9 : decode cX8_blockAt 9 = .ok (.invokevirtual 125, 3) := by decide +kernel
theorem dX8_blockAt_12 : decode cX8_blockAt 12 = .ok (.istore_n 3, 1) := by decide +kernel
theorem dX8_blockAt_13 : decode cX8_blockAt 13 = .ok (.iload_n 3, 1) := by decide +kernel
theorem dX8_blockAt_14 : decode cX8_blockAt 14 = .ok (.ifCond .ge 6, 3) := by decide +kernel
theorem dX8_blockAt_17 : decode cX8_blockAt 17 = .ok (.bipush (-2), 2) := by decide +kernel
theorem dX8_blockAt_19 : decode cX8_blockAt 19 = .ok (.ireturn, 1) := by decide +kernel
theorem dX8_blockAt_20 : decode cX8_blockAt 20 = .ok (.aload_n 0, 1) := by decide +kernel
theorem dX8_blockAt_21 : decode cX8_blockAt 21 = .ok (.getfield 37, 3) := by decide +kernel
theorem dX8_blockAt_24 : decode cX8_blockAt 24 = .ok (.aload_n 0, 1) := by decide +kernel
theorem dX8_blockAt_25 : decode cX8_blockAt 25 = .ok (.getfield 44, 3) := by decide +kernel
theorem dX8_blockAt_28 : decode cX8_blockAt 28 = .ok (.invokevirtual 132, 3) := by decide +kernel
theorem dX8_blockAt_31 : decode cX8_blockAt 31 = .ok (.invokevirtual 136, 3) := by decide +kernel
theorem dX8_blockAt_34 : decode cX8_blockAt 34 = .ok (.iconst 0, 1) := by decide +kernel
theorem dX8_blockAt_35 : decode cX8_blockAt 35 = .ok (.istore 4, 2) := by decide +kernel
theorem dX8_blockAt_37 : decode cX8_blockAt 37 = .ok (.iload 4, 2) := by decide +kernel
theorem dX8_blockAt_39 : decode cX8_blockAt 39 = .ok (.iconst 5, 1) := by decide +kernel
theorem dX8_blockAt_40 : decode cX8_blockAt 40 = .ok (.if_icmp .ge 29, 3) := by decide +kernel
theorem dX8_blockAt_43 : decode cX8_blockAt 43 = .ok (.aload_n 0, 1) := by decide +kernel
theorem dX8_blockAt_44 : decode cX8_blockAt 44 = .ok (.getfield 37, 3) := by decide +kernel
theorem dX8_blockAt_47 : decode cX8_blockAt 47 = .ok (.getfield 139, 3) := by decide +kernel
theorem dX8_blockAt_50 : decode cX8_blockAt 50 = .ok (.iload 4, 2) := by decide +kernel
theorem dX8_blockAt_52 : decode cX8_blockAt 52 = .ok (.laload, 1) := by decide +kernel
theorem dX8_blockAt_53 : decode cX8_blockAt 53 = .ok (.iload_n 3, 1) := by decide +kernel
theorem dX8_blockAt_54 : decode cX8_blockAt 54 = .ok (.invokestatic 142, 3) := by decide +kernel
theorem dX8_blockAt_57 : decode cX8_blockAt 57 = .ok (.ifCond .eq 6, 3) := by decide +kernel
theorem dX8_blockAt_60 : decode cX8_blockAt 60 = .ok (.iload 4, 2) := by decide +kernel
theorem dX8_blockAt_62 : decode cX8_blockAt 62 = .ok (.ireturn, 1) := by decide +kernel
theorem dX8_blockAt_63 : decode cX8_blockAt 63 = .ok (.iinc 4 1, 3) := by decide +kernel
theorem dX8_blockAt_66 : decode cX8_blockAt 66 = .ok (.goto (-29), 3) := by decide +kernel
theorem dX8_blockAt_69 : decode cX8_blockAt 69 = .ok (.bipush (-7), 2) := by decide +kernel
theorem dX8_blockAt_71 : decode cX8_blockAt 71 = .ok (.ireturn, 1) := by decide +kernel
theorem dX8_block_0 : decode cX8_block 0 = .ok (.aload_n 0, 1) := by decide +kernel
theorem dX8_block_1 : decode cX8_block 1 = .ok (.getfield 19, 3) := by decide +kernel
theorem dX8_block_4 : decode cX8_block 4 = .ok (.iload_n 1, 1) := by decide +kernel
theorem dX8_block_5 : decode cX8_block 5 = .ok (.invokevirtual 146, 3) := by decide +kernel
theorem dX8_block_8 : decode cX8_block 8 = .ok (.ifCond .ne 5, 3) := by decide +kernel
theorem dX8_block_11 : decode cX8_block 11 = .ok (.iconst (-1), 1) := by decide +kernel
theorem dX8_block_12 : decode cX8_block 12 = .ok (.ireturn, 1) := by decide +kernel
theorem dX8_block_13 : decode cX8_block 13 = .ok (.iload_n 2, 1) := by decide +kernel
theorem dX8_block_14 : decode cX8_block 14 = .ok (.ifCond .lt 9, 3) := by decide +kernel
theorem dX8_block_17 : decode cX8_block 17 = .ok (.iload_n 2, 1) := by decide +kernel
theorem dX8_block_18 : decode cX8_block 18 = .ok (.bipush 7, 2) := by decide +kernel
theorem dX8_block_20 : decode cX8_block 20 = .ok (.if_icmp .le 6, 3) := by decide +kernel
theorem dX8_block_23 : decode cX8_block 23 = .ok (.bipush (-3), 2) := by decide +kernel
theorem dX8_block_25 : decode cX8_block 25 = .ok (.ireturn, 1) := by decide +kernel
theorem dX8_block_26 : decode cX8_block 26 = .ok (.aload_n 0, 1) := by decide +kernel
theorem dX8_block_27 : decode cX8_block 27 = .ok (.getfield 19, 3) := by decide +kernel
theorem dX8_block_30 : decode cX8_block 30 = .ok (.getfield 150, 3) := by decide +kernel
theorem dX8_block_33 : decode cX8_block 33 = .ok (.iload_n 1, 1) := by decide +kernel
theorem dX8_block_34 : decode cX8_block 34 = .ok (.aaload, 1) := by decide +kernel
theorem dX8_block_35 : decode cX8_block 35 = .ok (.astore_n 3, 1) := by decide +kernel
theorem dX8_block_36 : decode cX8_block 36 = .ok (.iload_n 2, 1) := by decide +kernel
theorem dX8_block_37 : decode cX8_block 37 = .ok (.iconst 5, 1) := by decide +kernel
theorem dX8_block_38 : decode cX8_block 38 = .ok (.if_icmp .lt 11, 3) := by decide +kernel
theorem dX8_block_41 : decode cX8_block 41 = .ok (.aload_n 3, 1) := by decide +kernel
theorem dX8_block_42 : decode cX8_block 42 = .ok (.iload_n 2, 1) := by decide +kernel
theorem dX8_block_43 : decode cX8_block 43 = .ok (.iconst 5, 1) := by decide +kernel
theorem dX8_block_44 : decode cX8_block 44 = .ok (.isub, 1) := by decide +kernel
theorem dX8_block_45 : decode cX8_block 45 = .ok (.invokevirtual 154, 3) := by decide +kernel
theorem dX8_block_48 : decode cX8_block 48 = .ok (.ireturn, 1) := by decide +kernel
theorem dX8_block_49 : decode cX8_block 49 = .ok (.aload_n 0, 1) := by decide +kernel
theorem dX8_block_50 : decode cX8_block 50 = .ok (.getfield 44, 3) := by decide +kernel
theorem dX8_block_53 : decode cX8_block 53 = .ok (.invokevirtual 132, 3) := by decide +kernel
theorem dX8_block_56 : decode cX8_block 56 = .ok (.iload_n 1, 1) := by decide +kernel
theorem dX8_block_57 : decode cX8_block 57 = .ok (.invokestatic 160, 3) := by decide +kernel
theorem dX8_block_60 : decode cX8_block 60 = .ok (.istore 4, 2) := by decide +kernel
theorem dX8_block_62 : decode cX8_block 62 = .ok (.iload_n 2, 1) := by decide +kernel
theorem dX8_block_63 : decode cX8_block 63 = .ok (.tableswitch 52 0 3 #[29, 35, 41, 47], 29) := by decide +kernel
theorem dX8_block_92 : decode cX8_block 92 = .ok (.iload 4, 2) := by decide +kernel
theorem dX8_block_94 : decode cX8_block 94 = .ok (.invokestatic 164, 3) := by decide +kernel
theorem dX8_block_97 : decode cX8_block 97 = .ok (.ireturn, 1) := by decide +kernel
theorem dX8_block_98 : decode cX8_block 98 = .ok (.iload 4, 2) := by decide +kernel
theorem dX8_block_100 : decode cX8_block 100 = .ok (.invokestatic 167, 3) := by decide +kernel
theorem dX8_block_103 : decode cX8_block 103 = .ok (.ireturn, 1) := by decide +kernel
theorem dX8_block_104 : decode cX8_block 104 = .ok (.iload 4, 2) := by decide +kernel
theorem dX8_block_106 : decode cX8_block 106 = .ok (.invokestatic 170, 3) := by decide +kernel
theorem dX8_block_109 : decode cX8_block 109 = .ok (.ireturn, 1) := by decide +kernel
theorem dX8_block_110 : decode cX8_block 110 = .ok (.aload_n 3, 1) := by decide +kernel
theorem dX8_block_111 : decode cX8_block 111 = .ok (.getfield 173, 3) := by decide +kernel
theorem dX8_block_114 : decode cX8_block 114 = .ok (.ireturn, 1) := by decide +kernel
theorem dX8_block_115 : decode cX8_block 115 = .ok (.aload_n 3, 1) := by decide +kernel
theorem dX8_block_116 : decode cX8_block 116 = .ok (.getfield 176, 3) := by decide +kernel
theorem dX8_block_119 : decode cX8_block 119 = .ok (.ireturn, 1) := by decide +kernel
theorem dX8_setWeight_0 : decode cX8_setWeight 0 = .ok (.aload_n 0, 1) := by decide +kernel
theorem dX8_setWeight_1 : decode cX8_setWeight 1 = .ok (.getfield 19, 3) := by decide +kernel
theorem dX8_setWeight_4 : decode cX8_setWeight 4 = .ok (.iload_n 1, 1) := by decide +kernel
theorem dX8_setWeight_5 : decode cX8_setWeight 5 = .ok (.invokevirtual 146, 3) := by decide +kernel
theorem dX8_setWeight_8 : decode cX8_setWeight 8 = .ok (.ifCond .ne 5, 3) := by decide +kernel
theorem dX8_setWeight_11 : decode cX8_setWeight 11 = .ok (.iconst (-1), 1) := by decide +kernel
theorem dX8_setWeight_12 : decode cX8_setWeight 12 = .ok (.ireturn, 1) := by decide +kernel
theorem dX8_setWeight_13 : decode cX8_setWeight 13 = .ok (.iload_n 2, 1) := by decide +kernel
theorem dX8_setWeight_14 : decode cX8_setWeight 14 = .ok (.iconst 1, 1) := by decide +kernel
theorem dX8_setWeight_15 : decode cX8_setWeight 15 = .ok (.if_icmp .lt 9, 3) := by decide +kernel
theorem dX8_setWeight_18 : decode cX8_setWeight 18 = .ok (.iload_n 2, 1) := by decide +kernel
theorem dX8_setWeight_19 : decode cX8_setWeight 19 = .ok (.bipush 9, 2) := by decide +kernel
theorem dX8_setWeight_21 : decode cX8_setWeight 21 = .ok (.if_icmp .le 6, 3) := by decide +kernel
theorem dX8_setWeight_24 : decode cX8_setWeight 24 = .ok (.bipush (-3), 2) := by decide +kernel
theorem dX8_setWeight_26 : decode cX8_setWeight 26 = .ok (.ireturn, 1) := by decide +kernel
theorem dX8_setWeight_27 : decode cX8_setWeight 27 = .ok (.aload_n 0, 1) := by decide +kernel
theorem dX8_setWeight_28 : decode cX8_setWeight 28 = .ok (.getfield 19, 3) := by decide +kernel
theorem dX8_setWeight_31 : decode cX8_setWeight 31 = .ok (.getfield 150, 3) := by decide +kernel
theorem dX8_setWeight_34 : decode cX8_setWeight 34 = .ok (.iload_n 1, 1) := by decide +kernel
theorem dX8_setWeight_35 : decode cX8_setWeight 35 = .ok (.aaload, 1) := by decide +kernel
theorem dX8_setWeight_36 : decode cX8_setWeight 36 = .ok (.getfield 173, 3) := by decide +kernel
theorem dX8_setWeight_39 : decode cX8_setWeight 39 = .ok (.istore_n 3, 1) := by decide +kernel
theorem dX8_setWeight_40 : decode cX8_setWeight 40 = .ok (.aload_n 0, 1) := by decide +kernel
theorem dX8_setWeight_41 : decode cX8_setWeight 41 = .ok (.getfield 19, 3) := by decide +kernel
theorem dX8_setWeight_44 : decode cX8_setWeight 44 = .ok (.getfield 150, 3) := by decide +kernel
theorem dX8_setWeight_47 : decode cX8_setWeight 47 = .ok (.iload_n 1, 1) := by decide +kernel
theorem dX8_setWeight_48 : decode cX8_setWeight 48 = .ok (.aaload, 1) := by decide +kernel
theorem dX8_setWeight_49 : decode cX8_setWeight 49 = .ok (.iload_n 2, 1) := by decide +kernel
theorem dX8_setWeight_50 : decode cX8_setWeight 50 = .ok (.putfield 173, 3) := by decide +kernel
theorem dX8_setWeight_53 : decode cX8_setWeight 53 = .ok (.aload_n 0, 1) := by decide +kernel
theorem dX8_setWeight_54 : decode cX8_setWeight 54 = .ok (.getfield 51, 3) := by decide +kernel
theorem dX8_setWeight_57 : decode cX8_setWeight 57 = .ok (.invokevirtual 82, 3) := by decide +kernel
theorem dX8_setWeight_60 : decode cX8_setWeight 60 = .ok (.iload_n 3, 1) := by decide +kernel
theorem dX8_setWeight_61 : decode cX8_setWeight 61 = .ok (.ireturn, 1) := by decide +kernel
theorem dX8_setGoal_0 : decode cX8_setGoal 0 = .ok (.aload_n 0, 1) := by decide +kernel
theorem dX8_setGoal_1 : decode cX8_setGoal 1 = .ok (.getfield 19, 3) := by decide +kernel
theorem dX8_setGoal_4 : decode cX8_setGoal 4 = .ok (.iload_n 1, 1) := by decide +kernel
theorem dX8_setGoal_5 : decode cX8_setGoal 5 = .ok (.invokevirtual 146, 3) := by decide +kernel
theorem dX8_setGoal_8 : decode cX8_setGoal 8 = .ok (.ifCond .ne 5, 3) := by decide +kernel
theorem dX8_setGoal_11 : decode cX8_setGoal 11 = .ok (.iconst (-1), 1) := by decide +kernel
theorem dX8_setGoal_12 : decode cX8_setGoal 12 = .ok (.ireturn, 1) := by decide +kernel
theorem dX8_setGoal_13 : decode cX8_setGoal 13 = .ok (.aload_n 0, 1) := by decide +kernel
theorem dX8_setGoal_14 : decode cX8_setGoal 14 = .ok (.getfield 19, 3) := by decide +kernel
theorem dX8_setGoal_17 : decode cX8_setGoal 17 = .ok (.getfield 110, 3) := by decide +kernel
theorem dX8_setGoal_20 : decode cX8_setGoal 20 = .ok (.iload_n 2, 1) := by decide +kernel
theorem dX8_setGoal_21 : decode cX8_setGoal 21 = .ok (.iload_n 3, 1) := by decide +kernel
theorem dX8_setGoal_22 : decode cX8_setGoal 22 = .ok (.invokevirtual 125, 3) := by decide +kernel
theorem dX8_setGoal_25 : decode cX8_setGoal 25 = .ok (.istore 5, 2) := by decide +kernel
theorem dX8_setGoal_27 : decode cX8_setGoal 27 = .ok (.iload 5, 2) := by decide +kernel
theorem dX8_setGoal_29 : decode cX8_setGoal 29 = .ok (.ifCond .ge 6, 3) := by decide +kernel
theorem dX8_setGoal_32 : decode cX8_setGoal 32 = .ok (.bipush (-2), 2) := by decide +kernel
theorem dX8_setGoal_34 : decode cX8_setGoal 34 = .ok (.ireturn, 1) := by decide +kernel
theorem dX8_setGoal_35 : decode cX8_setGoal 35 = .ok (.iload 4, 2) := by decide +kernel
theorem dX8_setGoal_37 : decode cX8_setGoal 37 = .ok (.ifCond .lt 9, 3) := by decide +kernel
theorem dX8_setGoal_40 : decode cX8_setGoal 40 = .ok (.iload 4, 2) := by decide +kernel
theorem dX8_setGoal_42 : decode cX8_setGoal 42 = .ok (.iconst 4, 1) := by decide +kernel
theorem dX8_setGoal_43 : decode cX8_setGoal 43 = .ok (.if_icmp .le 6, 3) := by decide +kernel
theorem dX8_setGoal_46 : decode cX8_setGoal 46 = .ok (.bipush (-3), 2) := by decide +kernel
theorem dX8_setGoal_48 : decode cX8_setGoal 48 = .ok (.ireturn, 1) := by decide +kernel
theorem dX8_setGoal_49 : decode cX8_setGoal 49 = .ok (.aload_n 0, 1) := by decide +kernel
theorem dX8_setGoal_50 : decode cX8_setGoal 50 = .ok (.getfield 19, 3) := by decide +kernel
theorem dX8_setGoal_53 : decode cX8_setGoal 53 = .ok (.getfield 150, 3) := by decide +kernel
theorem dX8_setGoal_56 : decode cX8_setGoal 56 = .ok (.iload_n 1, 1) := by decide +kernel
theorem dX8_setGoal_57 : decode cX8_setGoal 57 = .ok (.aaload, 1) := by decide +kernel
theorem dX8_setGoal_58 : decode cX8_setGoal 58 = .ok (.astore 6, 2) := by decide +kernel
theorem dX8_setGoal_60 : decode cX8_setGoal 60 = .ok (.aload 6, 2) := by decide +kernel
theorem dX8_setGoal_62 : decode cX8_setGoal 62 = .ok (.getfield 179, 3) := by decide +kernel
theorem dX8_setGoal_65 : decode cX8_setGoal 65 = .ok (.iload 5, 2) := by decide +kernel
theorem dX8_setGoal_67 : decode cX8_setGoal 67 = .ok (.if_icmp .ne 15, 3) := by decide +kernel
theorem dX8_setGoal_70 : decode cX8_setGoal 70 = .ok (.aload 6, 2) := by decide +kernel
theorem dX8_setGoal_72 : decode cX8_setGoal 72 = .ok (.getfield 182, 3) := by decide +kernel
theorem dX8_setGoal_75 : decode cX8_setGoal 75 = .ok (.iload 4, 2) := by decide +kernel
theorem dX8_setGoal_77 : decode cX8_setGoal 77 = .ok (.if_icmp .ne 5, 3) := by decide +kernel
theorem dX8_setGoal_80 : decode cX8_setGoal 80 = .ok (.iconst 0, 1) := by decide +kernel
theorem dX8_setGoal_81 : decode cX8_setGoal 81 = .ok (.ireturn, 1) := by decide +kernel
theorem dX8_setGoal_82 : decode cX8_setGoal 82 = .ok (.aload 6, 2) := by decide +kernel
theorem dX8_setGoal_84 : decode cX8_setGoal 84 = .ok (.iload 5, 2) := by decide +kernel
theorem dX8_setGoal_86 : decode cX8_setGoal 86 = .ok (.iload 4, 2) := by decide +kernel
theorem dX8_setGoal_88 : decode cX8_setGoal 88 = .ok (.invokevirtual 185, 3) := by decide +kernel
theorem dX8_setGoal_91 : decode cX8_setGoal 91 = .ok (.aload 6, 2) := by decide +kernel
theorem dX8_setGoal_93 : decode cX8_setGoal 93 = .ok (.aload_n 0, 1) := by decide +kernel
theorem dX8_setGoal_94 : decode cX8_setGoal 94 = .ok (.getfield 19, 3) := by decide +kernel
theorem dX8_setGoal_97 : decode cX8_setGoal 97 = .ok (.getfield 110, 3) := by decide +kernel
theorem dX8_setGoal_100 : decode cX8_setGoal 100 = .ok (.aload_n 0, 1) := by decide +kernel
theorem dX8_setGoal_101 : decode cX8_setGoal 101 = .ok (.getfield 19, 3) := by decide +kernel
theorem dX8_setGoal_104 : decode cX8_setGoal 104 = .ok (.getfield 189, 3) := by decide +kernel
theorem dX8_setGoal_107 : decode cX8_setGoal 107 = .ok (.invokevirtual 192, 3) := by decide +kernel
theorem dX8_setGoal_110 : decode cX8_setGoal 110 = .ok (.aload_n 0, 1) := by decide +kernel
theorem dX8_setGoal_111 : decode cX8_setGoal 111 = .ok (.getfield 51, 3) := by decide +kernel
theorem dX8_setGoal_114 : decode cX8_setGoal 114 = .ok (.invokevirtual 82, 3) := by decide +kernel
theorem dX8_setGoal_117 : decode cX8_setGoal 117 = .ok (.iconst 1, 1) := by decide +kernel
theorem dX8_setGoal_118 : decode cX8_setGoal 118 = .ok (.ireturn, 1) := by decide +kernel
theorem dX8_clearGoal_0 : decode cX8_clearGoal 0 = .ok (.aload_n 0, 1) := by decide +kernel
theorem dX8_clearGoal_1 : decode cX8_clearGoal 1 = .ok (.getfield 19, 3) := by decide +kernel
theorem dX8_clearGoal_4 : decode cX8_clearGoal 4 = .ok (.iload_n 1, 1) := by decide +kernel
theorem dX8_clearGoal_5 : decode cX8_clearGoal 5 = .ok (.invokevirtual 146, 3) := by decide +kernel
theorem dX8_clearGoal_8 : decode cX8_clearGoal 8 = .ok (.ifCond .ne 5, 3) := by decide +kernel
theorem dX8_clearGoal_11 : decode cX8_clearGoal 11 = .ok (.iconst (-1), 1) := by decide +kernel
theorem dX8_clearGoal_12 : decode cX8_clearGoal 12 = .ok (.ireturn, 1) := by decide +kernel
theorem dX8_clearGoal_13 : decode cX8_clearGoal 13 = .ok (.aload_n 0, 1) := by decide +kernel
theorem dX8_clearGoal_14 : decode cX8_clearGoal 14 = .ok (.getfield 19, 3) := by decide +kernel
theorem dX8_clearGoal_17 : decode cX8_clearGoal 17 = .ok (.getfield 150, 3) := by decide +kernel
theorem dX8_clearGoal_20 : decode cX8_clearGoal 20 = .ok (.iload_n 1, 1) := by decide +kernel
theorem dX8_clearGoal_21 : decode cX8_clearGoal 21 = .ok (.aaload, 1) := by decide +kernel
theorem dX8_clearGoal_22 : decode cX8_clearGoal 22 = .ok (.invokevirtual 196, 3) := by decide +kernel
theorem dX8_clearGoal_25 : decode cX8_clearGoal 25 = .ok (.ifCond .ne 5, 3) := by decide +kernel
theorem dX8_clearGoal_28 : decode cX8_clearGoal 28 = .ok (.iconst 0, 1) := by decide +kernel
theorem dX8_clearGoal_29 : decode cX8_clearGoal 29 = .ok (.ireturn, 1) := by decide +kernel
theorem dX8_clearGoal_30 : decode cX8_clearGoal 30 = .ok (.aload_n 0, 1) := by decide +kernel
theorem dX8_clearGoal_31 : decode cX8_clearGoal 31 = .ok (.getfield 19, 3) := by decide +kernel
theorem dX8_clearGoal_34 : decode cX8_clearGoal 34 = .ok (.getfield 150, 3) := by decide +kernel
theorem dX8_clearGoal_37 : decode cX8_clearGoal 37 = .ok (.iload_n 1, 1) := by decide +kernel
theorem dX8_clearGoal_38 : decode cX8_clearGoal 38 = .ok (.aaload, 1) := by decide +kernel
theorem dX8_clearGoal_39 : decode cX8_clearGoal 39 = .ok (.invokevirtual 200, 3) := by decide +kernel
theorem dX8_clearGoal_42 : decode cX8_clearGoal 42 = .ok (.aload_n 0, 1) := by decide +kernel
theorem dX8_clearGoal_43 : decode cX8_clearGoal 43 = .ok (.getfield 51, 3) := by decide +kernel
theorem dX8_clearGoal_46 : decode cX8_clearGoal 46 = .ok (.invokevirtual 82, 3) := by decide +kernel
theorem dX8_clearGoal_49 : decode cX8_clearGoal 49 = .ok (.iconst 1, 1) := by decide +kernel
theorem dX8_clearGoal_50 : decode cX8_clearGoal 50 = .ok (.ireturn, 1) := by decide +kernel
theorem dX8_setThreshold_0 : decode cX8_setThreshold 0 = .ok (.iload_n 1, 1) := by decide +kernel
theorem dX8_setThreshold_1 : decode cX8_setThreshold 1 = .ok (.invokestatic 203, 3) := by decide +kernel
theorem dX8_setThreshold_4 : decode cX8_setThreshold 4 = .ok (.ifCond .eq 14, 3) := by decide +kernel
theorem dX8_setThreshold_7 : decode cX8_setThreshold 7 = .ok (.iload_n 2, 1) := by decide +kernel
theorem dX8_setThreshold_8 : decode cX8_setThreshold 8 = .ok (.iconst 1, 1) := by decide +kernel
theorem dX8_setThreshold_9 : decode cX8_setThreshold 9 = .ok (.if_icmp .lt 9, 3) := by decide +kernel
theorem dX8_setThreshold_12 : decode cX8_setThreshold 12 = .ok (.iload_n 2, 1) := by decide +kernel
theorem dX8_setThreshold_13 : decode cX8_setThreshold 13 = .ok (.bipush 45, 2) := by decide +kernel
theorem dX8_setThreshold_15 : decode cX8_setThreshold 15 = .ok (.if_icmp .le 6, 3) := by decide +kernel
theorem dX8_setThreshold_18 : decode cX8_setThreshold 18 = .ok (.bipush (-3), 2) := by decide +kernel
theorem dX8_setThreshold_20 : decode cX8_setThreshold 20 = .ok (.ireturn, 1) := by decide +kernel
theorem dX8_setThreshold_21 : decode cX8_setThreshold 21 = .ok (.aload_n 0, 1) := by decide +kernel
theorem dX8_setThreshold_22 : decode cX8_setThreshold 22 = .ok (.getfield 19, 3) := by decide +kernel
theorem dX8_setThreshold_25 : decode cX8_setThreshold 25 = .ok (.getfield 206, 3) := by decide +kernel
theorem dX8_setThreshold_28 : decode cX8_setThreshold 28 = .ok (.iload_n 1, 1) := by decide +kernel
theorem dX8_setThreshold_29 : decode cX8_setThreshold 29 = .ok (.iaload, 1) := by decide +kernel
theorem dX8_setThreshold_30 : decode cX8_setThreshold 30 = .ok (.istore_n 3, 1) := by decide +kernel
theorem dX8_setThreshold_31 : decode cX8_setThreshold 31 = .ok (.aload_n 0, 1) := by decide +kernel
theorem dX8_setThreshold_32 : decode cX8_setThreshold 32 = .ok (.getfield 19, 3) := by decide +kernel
theorem dX8_setThreshold_35 : decode cX8_setThreshold 35 = .ok (.getfield 206, 3) := by decide +kernel
theorem dX8_setThreshold_38 : decode cX8_setThreshold 38 = .ok (.iload_n 1, 1) := by decide +kernel
theorem dX8_setThreshold_39 : decode cX8_setThreshold 39 = .ok (.iload_n 2, 1) := by decide +kernel
theorem dX8_setThreshold_40 : decode cX8_setThreshold 40 = .ok (.iastore, 1) := by decide +kernel
theorem dX8_setThreshold_41 : decode cX8_setThreshold 41 = .ok (.aload_n 0, 1) := by decide +kernel
theorem dX8_setThreshold_42 : decode cX8_setThreshold 42 = .ok (.getfield 51, 3) := by decide +kernel
theorem dX8_setThreshold_45 : decode cX8_setThreshold 45 = .ok (.invokevirtual 82, 3) := by decide +kernel
theorem dX8_setThreshold_48 : decode cX8_setThreshold 48 = .ok (.iload_n 3, 1) := by decide +kernel
theorem dX8_setThreshold_49 : decode cX8_setThreshold 49 = .ok (.ireturn, 1) := by decide +kernel
theorem dX8_setStrength_0 : decode cX8_setStrength 0 = .ok (.iload_n 1, 1) := by decide +kernel
theorem dX8_setStrength_1 : decode cX8_setStrength 1 = .ok (.iconst 1, 1) := by decide +kernel
theorem dX8_setStrength_2 : decode cX8_setStrength 2 = .ok (.if_icmp .lt 9, 3) := by decide +kernel
theorem dX8_setStrength_5 : decode cX8_setStrength 5 = .ok (.iload_n 1, 1) := by decide +kernel
theorem dX8_setStrength_6 : decode cX8_setStrength 6 = .ok (.bipush 45, 2) := by decide +kernel
theorem dX8_setStrength_8 : decode cX8_setStrength 8 = .ok (.if_icmp .le 6, 3) := by decide +kernel
theorem dX8_setStrength_11 : decode cX8_setStrength 11 = .ok (.bipush (-3), 2) := by decide +kernel
theorem dX8_setStrength_13 : decode cX8_setStrength 13 = .ok (.ireturn, 1) := by decide +kernel
theorem dX8_setStrength_14 : decode cX8_setStrength 14 = .ok (.aload_n 0, 1) := by decide +kernel
theorem dX8_setStrength_15 : decode cX8_setStrength 15 = .ok (.getfield 19, 3) := by decide +kernel
theorem dX8_setStrength_18 : decode cX8_setStrength 18 = .ok (.getfield 122, 3) := by decide +kernel
theorem dX8_setStrength_21 : decode cX8_setStrength 21 = .ok (.istore_n 2, 1) := by decide +kernel
theorem dX8_setStrength_22 : decode cX8_setStrength 22 = .ok (.aload_n 0, 1) := by decide +kernel
theorem dX8_setStrength_23 : decode cX8_setStrength 23 = .ok (.getfield 19, 3) := by decide +kernel
theorem dX8_setStrength_26 : decode cX8_setStrength 26 = .ok (.iload_n 1, 1) := by decide +kernel
theorem dX8_setStrength_27 : decode cX8_setStrength 27 = .ok (.putfield 122, 3) := by decide +kernel
theorem dX8_setStrength_30 : decode cX8_setStrength 30 = .ok (.aload_n 0, 1) := by decide +kernel
theorem dX8_setStrength_31 : decode cX8_setStrength 31 = .ok (.getfield 51, 3) := by decide +kernel
theorem dX8_setStrength_34 : decode cX8_setStrength 34 = .ok (.invokevirtual 82, 3) := by decide +kernel
theorem dX8_setStrength_37 : decode cX8_setStrength 37 = .ok (.iload_n 2, 1) := by decide +kernel
theorem dX8_setStrength_38 : decode cX8_setStrength 38 = .ok (.ireturn, 1) := by decide +kernel
theorem dX8_load_0 : decode cX8_load 0 = .ok (.iload_n 1, 1) := by decide +kernel
theorem dX8_load_1 : decode cX8_load 1 = .ok (.invokestatic 203, 3) := by decide +kernel
theorem dX8_load_4 : decode cX8_load 4 = .ok (.ifCond .ne 6, 3) := by decide +kernel
theorem dX8_load_7 : decode cX8_load 7 = .ok (.bipush (-3), 2) := by decide +kernel
theorem dX8_load_9 : decode cX8_load 9 = .ok (.ireturn, 1) := by decide +kernel
theorem dX8_load_10 : decode cX8_load 10 = .ok (.aload_n 0, 1) := by decide +kernel
theorem dX8_load_11 : decode cX8_load 11 = .ok (.getfield 37, 3) := by decide +kernel
theorem dX8_load_14 : decode cX8_load 14 = .ok (.aload_n 0, 1) := by decide +kernel
theorem dX8_load_15 : decode cX8_load 15 = .ok (.getfield 44, 3) := by decide +kernel
theorem dX8_load_18 : decode cX8_load 18 = .ok (.invokevirtual 132, 3) := by decide +kernel
theorem dX8_load_21 : decode cX8_load 21 = .ok (.invokevirtual 136, 3) := by decide +kernel
theorem dX8_load_24 : decode cX8_load 24 = .ok (.aload_n 0, 1) := by decide +kernel
theorem dX8_load_25 : decode cX8_load 25 = .ok (.getfield 37, 3) := by decide +kernel
theorem dX8_load_28 : decode cX8_load 28 = .ok (.iload_n 1, 1) := by decide +kernel
theorem dX8_load_29 : decode cX8_load 29 = .ok (.invokevirtual 209, 3) := by decide +kernel
theorem dX8_load_32 : decode cX8_load 32 = .ok (.ireturn, 1) := by decide +kernel
theorem dX8_isOpen_0 : decode cX8_isOpen 0 = .ok (.iload_n 1, 1) := by decide +kernel
theorem dX8_isOpen_1 : decode cX8_isOpen 1 = .ok (.invokestatic 203, 3) := by decide +kernel
theorem dX8_isOpen_4 : decode cX8_isOpen 4 = .ok (.ifCond .ne 6, 3) := by decide +kernel
theorem dX8_isOpen_7 : decode cX8_isOpen 7 = .ok (.bipush (-3), 2) := by decide +kernel
theorem dX8_isOpen_9 : decode cX8_isOpen 9 = .ok (.ireturn, 1) := by decide +kernel
theorem dX8_isOpen_10 : decode cX8_isOpen 10 = .ok (.aload_n 0, 1) := by decide +kernel
theorem dX8_isOpen_11 : decode cX8_isOpen 11 = .ok (.getfield 37, 3) := by decide +kernel
theorem dX8_isOpen_14 : decode cX8_isOpen 14 = .ok (.aload_n 0, 1) := by decide +kernel
theorem dX8_isOpen_15 : decode cX8_isOpen 15 = .ok (.getfield 44, 3) := by decide +kernel
theorem dX8_isOpen_18 : decode cX8_isOpen 18 = .ok (.invokevirtual 132, 3) := by decide +kernel
theorem dX8_isOpen_21 : decode cX8_isOpen 21 = .ok (.invokevirtual 136, 3) := by decide +kernel
theorem dX8_isOpen_24 : decode cX8_isOpen 24 = .ok (.aload_n 0, 1) := by decide +kernel
theorem dX8_isOpen_25 : decode cX8_isOpen 25 = .ok (.getfield 37, 3) := by decide +kernel
theorem dX8_isOpen_28 : decode cX8_isOpen 28 = .ok (.iload_n 1, 1) := by decide +kernel
theorem dX8_isOpen_29 : decode cX8_isOpen 29 = .ok (.invokevirtual 209, 3) := by decide +kernel
theorem dX8_isOpen_32 : decode cX8_isOpen 32 = .ok (.aload_n 0, 1) := by decide +kernel
theorem dX8_isOpen_33 : decode cX8_isOpen 33 = .ok (.getfield 19, 3) := by decide +kernel
theorem dX8_isOpen_36 : decode cX8_isOpen 36 = .ok (.getfield 206, 3) := by decide +kernel
theorem dX8_isOpen_39 : decode cX8_isOpen 39 = .ok (.iload_n 1, 1) := by decide +kernel
theorem dX8_isOpen_40 : decode cX8_isOpen 40 = .ok (.iaload, 1) := by decide +kernel
theorem dX8_isOpen_41 : decode cX8_isOpen 41 = .ok (.if_icmp .lt 7, 3) := by decide +kernel
theorem dX8_isOpen_44 : decode cX8_isOpen 44 = .ok (.iconst 1, 1) := by decide +kernel
theorem dX8_isOpen_45 : decode cX8_isOpen 45 = .ok (.goto 4, 3) := by decide +kernel
theorem dX8_isOpen_48 : decode cX8_isOpen 48 = .ok (.iconst 0, 1) := by decide +kernel
theorem dX8_isOpen_49 : decode cX8_isOpen 49 = .ok (.ireturn, 1) := by decide +kernel
theorem dX8_moved_0 : decode cX8_moved 0 = .ok (.aload_n 0, 1) := by decide +kernel
theorem dX8_moved_1 : decode cX8_moved 1 = .ok (.getfield 19, 3) := by decide +kernel
theorem dX8_moved_4 : decode cX8_moved 4 = .ok (.iload_n 1, 1) := by decide +kernel
theorem dX8_moved_5 : decode cX8_moved 5 = .ok (.invokevirtual 146, 3) := by decide +kernel
theorem dX8_moved_8 : decode cX8_moved 8 = .ok (.ifCond .ne 5, 3) := by decide +kernel
theorem dX8_moved_11 : decode cX8_moved 11 = .ok (.iconst (-1), 1) := by decide +kernel
theorem dX8_moved_12 : decode cX8_moved 12 = .ok (.ireturn, 1) := by decide +kernel
theorem dX8_moved_13 : decode cX8_moved 13 = .ok (.iload_n 2, 1) := by decide +kernel
theorem dX8_moved_14 : decode cX8_moved 14 = .ok (.ifCond .lt 9, 3) := by decide +kernel
theorem dX8_moved_17 : decode cX8_moved 17 = .ok (.iload_n 2, 1) := by decide +kernel
theorem dX8_moved_18 : decode cX8_moved 18 = .ok (.bipush 6, 2) := by decide +kernel
theorem dX8_moved_20 : decode cX8_moved 20 = .ok (.if_icmp .lt 6, 3) := by decide +kernel
theorem dX8_moved_23 : decode cX8_moved 23 = .ok (.bipush (-3), 2) := by decide +kernel
theorem dX8_moved_25 : decode cX8_moved 25 = .ok (.ireturn, 1) := by decide +kernel
theorem dX8_moved_26 : decode cX8_moved 26 = .ok (.aload_n 0, 1) := by decide +kernel
theorem dX8_moved_27 : decode cX8_moved 27 = .ok (.iload_n 1, 1) := by decide +kernel
theorem dX8_moved_28 : decode cX8_moved 28 = .ok (.iload_n 2, 1) := by decide +kernel
theorem dX8_moved_29 : decode cX8_moved 29 = .ok (.invokevirtual 102, 3) := by decide +kernel
theorem dX8_moved_32 : decode cX8_moved 32 = .ok (.istore_n 3, 1) := by decide +kernel
theorem dX8_moved_33 : decode cX8_moved 33 = .ok (.iload_n 3, 1) := by decide +kernel
theorem dX8_moved_34 : decode cX8_moved 34 = .ok (.ifCond .ne 8, 3) := by decide +kernel
theorem dX8_moved_37 : decode cX8_moved 37 = .ok (.bipush (-4), 2) := by decide +kernel
theorem dX8_moved_39 : decode cX8_moved 39 = .ok (.goto 4, 3) := by decide +kernel
theorem dX8_moved_42 : decode cX8_moved 42 = .ok (.iload_n 3, 1) := by decide +kernel
theorem dX8_moved_43 : decode cX8_moved 43 = .ok (.ireturn, 1) := by decide +kernel
theorem dX8_move_0 : decode cX8_move 0 = .ok (.aload_n 0, 1) := by decide +kernel
theorem dX8_move_1 : decode cX8_move 1 = .ok (.iload_n 1, 1) := by decide +kernel
theorem dX8_move_2 : decode cX8_move 2 = .ok (.iload_n 2, 1) := by decide +kernel
theorem dX8_move_3 : decode cX8_move 3 = .ok (.invokevirtual 212, 3) := by decide +kernel
theorem dX8_move_6 : decode cX8_move 6 = .ok (.istore_n 3, 1) := by decide +kernel
theorem dX8_move_7 : decode cX8_move 7 = .ok (.iload_n 3, 1) := by decide +kernel
theorem dX8_move_8 : decode cX8_move 8 = .ok (.ifCond .ge 5, 3) := by decide +kernel
theorem dX8_move_11 : decode cX8_move 11 = .ok (.iload_n 3, 1) := by decide +kernel
theorem dX8_move_12 : decode cX8_move 12 = .ok (.ireturn, 1) := by decide +kernel
theorem dX8_move_13 : decode cX8_move 13 = .ok (.aload_n 0, 1) := by decide +kernel
theorem dX8_move_14 : decode cX8_move 14 = .ok (.getfield 44, 3) := by decide +kernel
theorem dX8_move_17 : decode cX8_move 17 = .ok (.getfield 91, 3) := by decide +kernel
theorem dX8_move_20 : decode cX8_move 20 = .ok (.sipush 200, 3) := by decide +kernel
theorem dX8_move_23 : decode cX8_move 23 = .ok (.if_icmp .lt 6, 3) := by decide +kernel
theorem dX8_move_26 : decode cX8_move 26 = .ok (.bipush (-5), 2) := by decide +kernel
theorem dX8_move_28 : decode cX8_move 28 = .ok (.ireturn, 1) := by decide +kernel
theorem dX8_move_29 : decode cX8_move 29 = .ok (.aload_n 0, 1) := by decide +kernel
theorem dX8_move_30 : decode cX8_move 30 = .ok (.iload_n 1, 1) := by decide +kernel
theorem dX8_move_31 : decode cX8_move 31 = .ok (.iload_n 2, 1) := by decide +kernel
theorem dX8_move_32 : decode cX8_move 32 = .ok (.iload_n 3, 1) := by decide +kernel
theorem dX8_move_33 : decode cX8_move 33 = .ok (.invokevirtual 106, 3) := by decide +kernel
theorem dX8_move_36 : decode cX8_move 36 = .ok (.aload_n 0, 1) := by decide +kernel
theorem dX8_move_37 : decode cX8_move 37 = .ok (.getfield 44, 3) := by decide +kernel
theorem dX8_move_40 : decode cX8_move 40 = .ok (.getfield 91, 3) := by decide +kernel
theorem dX8_move_43 : decode cX8_move 43 = .ok (.ireturn, 1) := by decide +kernel
theorem dX8_possibleCount_0 : decode cX8_possibleCount 0 = .ok (.aload_n 0, 1) := by decide +kernel
theorem dX8_possibleCount_1 : decode cX8_possibleCount 1 = .ok (.getfield 37, 3) := by decide +kernel
theorem dX8_possibleCount_4 : decode cX8_possibleCount 4 = .ok (.aload_n 0, 1) := by decide +kernel
theorem dX8_possibleCount_5 : decode cX8_possibleCount 5 = .ok (.getfield 44, 3) := by decide +kernel
theorem dX8_possibleCount_8 : decode cX8_possibleCount 8 = .ok (.invokevirtual 132, 3) := by decide +kernel
theorem dX8_possibleCount_11 : decode cX8_possibleCount 11 = .ok (.invokevirtual 136, 3) := by decide +kernel
theorem dX8_possibleCount_14 : decode cX8_possibleCount 14 = .ok (.iconst 0, 1) := by decide +kernel
theorem dX8_possibleCount_15 : decode cX8_possibleCount 15 = .ok (.istore_n 1, 1) := by decide +kernel
theorem dX8_possibleCount_16 : decode cX8_possibleCount 16 = .ok (.iconst 0, 1) := by decide +kernel
theorem dX8_possibleCount_17 : decode cX8_possibleCount 17 = .ok (.istore_n 2, 1) := by decide +kernel
theorem dX8_possibleCount_18 : decode cX8_possibleCount 18 = .ok (.iload_n 2, 1) := by decide +kernel
theorem dX8_possibleCount_19 : decode cX8_possibleCount 19 = .ok (.iconst 5, 1) := by decide +kernel
theorem dX8_possibleCount_20 : decode cX8_possibleCount 20 = .ok (.if_icmp .ge 38, 3) := by decide +kernel
theorem dX8_possibleCount_23 : decode cX8_possibleCount 23 = .ok (.iconst 0, 1) := by decide +kernel
theorem dX8_possibleCount_24 : decode cX8_possibleCount 24 = .ok (.istore_n 3, 1) := by decide +kernel
theorem dX8_possibleCount_25 : decode cX8_possibleCount 25 = .ok (.iload_n 3, 1) := by decide +kernel
theorem dX8_possibleCount_26 : decode cX8_possibleCount 26 = .ok (.bipush 6, 2) := by decide +kernel
theorem dX8_possibleCount_28 : decode cX8_possibleCount 28 = .ok (.if_icmp .ge 24, 3) := by decide +kernel
theorem dX8_possibleCount_31 : decode cX8_possibleCount 31 = .ok (.aload_n 0, 1) := by decide +kernel
theorem dX8_possibleCount_32 : decode cX8_possibleCount 32 = .ok (.getfield 37, 3) := by decide +kernel
theorem dX8_possibleCount_35 : decode cX8_possibleCount 35 = .ok (.iload_n 2, 1) := by decide +kernel
theorem dX8_possibleCount_36 : decode cX8_possibleCount 36 = .ok (.iload_n 3, 1) := by decide +kernel
theorem dX8_possibleCount_37 : decode cX8_possibleCount 37 = .ok (.invokevirtual 215, 3) := by decide +kernel
theorem dX8_possibleCount_40 : decode cX8_possibleCount 40 = .ok (.ifCond .eq 6, 3) := by decide +kernel
theorem dX8_possibleCount_43 : decode cX8_possibleCount 43 = .ok (.iinc 1 1, 3) := by decide +kernel
theorem dX8_possibleCount_46 : decode cX8_possibleCount 46 = .ok (.iinc 3 1, 3) := by decide +kernel
theorem dX8_possibleCount_49 : decode cX8_possibleCount 49 = .ok (.goto (-24), 3) := by decide +kernel
theorem dX8_possibleCount_52 : decode cX8_possibleCount 52 = .ok (.iinc 2 1, 3) := by decide +kernel
theorem dX8_possibleCount_55 : decode cX8_possibleCount 55 = .ok (.goto (-37), 3) := by decide +kernel
theorem dX8_possibleCount_58 : decode cX8_possibleCount 58 = .ok (.iload_n 1, 1) := by decide +kernel
theorem dX8_possibleCount_59 : decode cX8_possibleCount 59 = .ok (.ireturn, 1) := by decide +kernel
theorem dX8_possible_0 : decode cX8_possible 0 = .ok (.iload_n 1, 1) := by decide +kernel
theorem dX8_possible_1 : decode cX8_possible 1 = .ok (.ifCond .ge 6, 3) := by decide +kernel
theorem dX8_possible_4 : decode cX8_possible 4 = .ok (.bipush (-3), 2) := by decide +kernel
theorem dX8_possible_6 : decode cX8_possible 6 = .ok (.ireturn, 1) := by decide +kernel
theorem dX8_possible_7 : decode cX8_possible 7 = .ok (.aload_n 0, 1) := by decide +kernel
theorem dX8_possible_8 : decode cX8_possible 8 = .ok (.getfield 37, 3) := by decide +kernel
theorem dX8_possible_11 : decode cX8_possible 11 = .ok (.aload_n 0, 1) := by decide +kernel
theorem dX8_possible_12 : decode cX8_possible 12 = .ok (.getfield 44, 3) := by decide +kernel
theorem dX8_possible_15 : decode cX8_possible 15 = .ok (.invokevirtual 132, 3) := by decide +kernel
theorem dX8_possible_18 : decode cX8_possible 18 = .ok (.invokevirtual 136, 3) := by decide +kernel
theorem dX8_possible_21 : decode cX8_possible 21 = .ok (.iload_n 1, 1) := by decide +kernel
theorem dX8_possible_22 : decode cX8_possible 22 = .ok (.istore_n 2, 1) := by decide +kernel
theorem dX8_possible_23 : decode cX8_possible 23 = .ok (.iconst 0, 1) := by decide +kernel
theorem dX8_possible_24 : decode cX8_possible 24 = .ok (.istore_n 3, 1) := by decide +kernel
theorem dX8_possible_25 : decode cX8_possible 25 = .ok (.iload_n 3, 1) := by decide +kernel
theorem dX8_possible_26 : decode cX8_possible 26 = .ok (.iconst 5, 1) := by decide +kernel
theorem dX8_possible_27 : decode cX8_possible 27 = .ok (.if_icmp .ge 52, 3) := by decide +kernel
theorem dX8_possible_30 : decode cX8_possible 30 = .ok (.iconst 0, 1) := by decide +kernel
theorem dX8_possible_31 : decode cX8_possible 31 = .ok (.istore 4, 2) := by decide +kernel
theorem dX8_possible_33 : decode cX8_possible 33 = .ok (.iload 4, 2) := by decide +kernel
theorem dX8_possible_35 : decode cX8_possible 35 = .ok (.bipush 6, 2) := by decide +kernel
theorem dX8_possible_37 : decode cX8_possible 37 = .ok (.if_icmp .ge 36, 3) := by decide +kernel
theorem dX8_possible_40 : decode cX8_possible 40 = .ok (.aload_n 0, 1) := by decide +kernel
theorem dX8_possible_41 : decode cX8_possible 41 = .ok (.getfield 37, 3) := by decide +kernel
theorem dX8_possible_44 : decode cX8_possible 44 = .ok (.iload_n 3, 1) := by decide +kernel
theorem dX8_possible_45 : decode cX8_possible 45 = .ok (.iload 4, 2) := by decide +kernel
theorem dX8_possible_47 : decode cX8_possible 47 = .ok (.invokevirtual 215, 3) := by decide +kernel
theorem dX8_possible_50 : decode cX8_possible 50 = .ok (.ifCond .eq 17, 3) := by decide +kernel
theorem dX8_possible_53 : decode cX8_possible 53 = .ok (.iload_n 2, 1) := by decide +kernel
theorem dX8_possible_54 : decode cX8_possible 54 = .ok (.ifCond .ne 10, 3) := by decide +kernel
theorem dX8_possible_57 : decode cX8_possible 57 = .ok (.iload_n 3, 1) := by decide +kernel
theorem dX8_possible_58 : decode cX8_possible 58 = .ok (.iload 4, 2) := by decide +kernel
theorem dX8_possible_60 : decode cX8_possible 60 = .ok (.invokestatic 216, 3) := by decide +kernel
theorem dX8_possible_63 : decode cX8_possible 63 = .ok (.ireturn, 1) := by decide +kernel
theorem dX8_possible_64 : decode cX8_possible 64 = .ok (.iinc 2 (-1), 3) := by decide +kernel
theorem dX8_possible_67 : decode cX8_possible 67 = .ok (.iinc 4 1, 3) := by decide +kernel
theorem dX8_possible_70 : decode cX8_possible 70 = .ok (.goto (-37), 3) := by decide +kernel
theorem dX8_possible_73 : decode cX8_possible 73 = .ok (.iinc 3 1, 3) := by decide +kernel
theorem dX8_possible_76 : decode cX8_possible 76 = .ok (.goto (-51), 3) := by decide +kernel
theorem dX8_possible_79 : decode cX8_possible 79 = .ok (.bipush (-7), 2) := by decide +kernel
theorem dX8_possible_81 : decode cX8_possible 81 = .ok (.ireturn, 1) := by decide +kernel
theorem dX8_undo_0 : decode cX8_undo 0 = .ok (.aload_n 0, 1) := by decide +kernel
theorem dX8_undo_1 : decode cX8_undo 1 = .ok (.getfield 44, 3) := by decide +kernel
theorem dX8_undo_4 : decode cX8_undo 4 = .ok (.getfield 91, 3) := by decide +kernel
theorem dX8_undo_7 : decode cX8_undo 7 = .ok (.ifCond .ne 6, 3) := by decide +kernel
theorem dX8_undo_10 : decode cX8_undo 10 = .ok (.bipush (-7), 2) := by decide +kernel
theorem dX8_undo_12 : decode cX8_undo 12 = .ok (.ireturn, 1) := by decide +kernel
theorem dX8_undo_13 : decode cX8_undo 13 = .ok (.aload_n 0, 1) := by decide +kernel
theorem dX8_undo_14 : decode cX8_undo 14 = .ok (.getfield 44, 3) := by decide +kernel
theorem dX8_undo_17 : decode cX8_undo 17 = .ok (.dup, 1) := by decide +kernel
theorem dX8_undo_18 : decode cX8_undo 18 = .ok (.getfield 91, 3) := by decide +kernel
theorem dX8_undo_21 : decode cX8_undo 21 = .ok (.iconst 1, 1) := by decide +kernel
theorem dX8_undo_22 : decode cX8_undo 22 = .ok (.isub, 1) := by decide +kernel
theorem dX8_undo_23 : decode cX8_undo 23 = .ok (.putfield 91, 3) := by decide +kernel
theorem dX8_undo_26 : decode cX8_undo 26 = .ok (.aload_n 0, 1) := by decide +kernel
theorem dX8_undo_27 : decode cX8_undo 27 = .ok (.getfield 44, 3) := by decide +kernel
theorem dX8_undo_30 : decode cX8_undo 30 = .ok (.getfield 91, 3) := by decide +kernel
theorem dX8_undo_33 : decode cX8_undo 33 = .ok (.ireturn, 1) := by decide +kernel
theorem dX8_redo_0 : decode cX8_redo 0 = .ok (.aload_n 0, 1) := by decide +kernel
theorem dX8_redo_1 : decode cX8_redo 1 = .ok (.getfield 44, 3) := by decide +kernel
theorem dX8_redo_4 : decode cX8_redo 4 = .ok (.getfield 91, 3) := by decide +kernel
theorem dX8_redo_7 : decode cX8_redo 7 = .ok (.aload_n 0, 1) := by decide +kernel
theorem dX8_redo_8 : decode cX8_redo 8 = .ok (.getfield 44, 3) := by decide +kernel
theorem dX8_redo_11 : decode cX8_redo 11 = .ok (.getfield 219, 3) := by decide +kernel
theorem dX8_redo_14 : decode cX8_redo 14 = .ok (.if_icmp .ne 6, 3) := by decide +kernel
theorem dX8_redo_17 : decode cX8_redo 17 = .ok (.bipush (-7), 2) := by decide +kernel
theorem dX8_redo_19 : decode cX8_redo 19 = .ok (.ireturn, 1) := by decide +kernel
theorem dX8_redo_20 : decode cX8_redo 20 = .ok (.aload_n 0, 1) := by decide +kernel
theorem dX8_redo_21 : decode cX8_redo 21 = .ok (.getfield 44, 3) := by decide +kernel
theorem dX8_redo_24 : decode cX8_redo 24 = .ok (.dup, 1) := by decide +kernel
theorem dX8_redo_25 : decode cX8_redo 25 = .ok (.getfield 91, 3) := by decide +kernel
theorem dX8_redo_28 : decode cX8_redo 28 = .ok (.iconst 1, 1) := by decide +kernel
theorem dX8_redo_29 : decode cX8_redo 29 = .ok (.iadd, 1) := by decide +kernel
theorem dX8_redo_30 : decode cX8_redo 30 = .ok (.putfield 91, 3) := by decide +kernel
theorem dX8_redo_33 : decode cX8_redo 33 = .ok (.aload_n 0, 1) := by decide +kernel
theorem dX8_redo_34 : decode cX8_redo 34 = .ok (.getfield 44, 3) := by decide +kernel
theorem dX8_redo_37 : decode cX8_redo 37 = .ok (.getfield 91, 3) := by decide +kernel
theorem dX8_redo_40 : decode cX8_redo 40 = .ok (.ireturn, 1) := by decide +kernel
theorem dX8_moveAt_0 : decode cX8_moveAt 0 = .ok (.iload_n 1, 1) := by decide +kernel
theorem dX8_moveAt_1 : decode cX8_moveAt 1 = .ok (.ifCond .ge 6, 3) := by decide +kernel
theorem dX8_moveAt_4 : decode cX8_moveAt 4 = .ok (.bipush (-3), 2) := by decide +kernel
theorem dX8_moveAt_6 : decode cX8_moveAt 6 = .ok (.ireturn, 1) := by decide +kernel
theorem dX8_moveAt_7 : decode cX8_moveAt 7 = .ok (.iload_n 1, 1) := by decide +kernel
theorem dX8_moveAt_8 : decode cX8_moveAt 8 = .ok (.aload_n 0, 1) := by decide +kernel
theorem dX8_moveAt_9 : decode cX8_moveAt 9 = .ok (.getfield 44, 3) := by decide +kernel
theorem dX8_moveAt_12 : decode cX8_moveAt 12 = .ok (.getfield 91, 3) := by decide +kernel
theorem dX8_moveAt_15 : decode cX8_moveAt 15 = .ok (.if_icmp .ge 15, 3) := by decide +kernel
theorem dX8_moveAt_18 : decode cX8_moveAt 18 = .ok (.aload_n 0, 1) := by decide +kernel
theorem dX8_moveAt_19 : decode cX8_moveAt 19 = .ok (.getfield 44, 3) := by decide +kernel
theorem dX8_moveAt_22 : decode cX8_moveAt 22 = .ok (.getfield 222, 3) := by decide +kernel
theorem dX8_moveAt_25 : decode cX8_moveAt 25 = .ok (.iload_n 1, 1) := by decide +kernel
theorem dX8_moveAt_26 : decode cX8_moveAt 26 = .ok (.iaload, 1) := by decide +kernel
theorem dX8_moveAt_27 : decode cX8_moveAt 27 = .ok (.goto 5, 3) := by decide +kernel
theorem dX8_moveAt_30 : decode cX8_moveAt 30 = .ok (.bipush (-7), 2) := by decide +kernel
theorem dX8_moveAt_32 : decode cX8_moveAt 32 = .ok (.ireturn, 1) := by decide +kernel
theorem dX8_effort_0 : decode cX8_effort 0 = .ok (.aload_n 0, 1) := by decide +kernel
theorem dX8_effort_1 : decode cX8_effort 1 = .ok (.getfield 44, 3) := by decide +kernel
theorem dX8_effort_4 : decode cX8_effort 4 = .ok (.getfield 225, 3) := by decide +kernel
theorem dX8_effort_7 : decode cX8_effort 7 = .ok (.aload_n 0, 1) := by decide +kernel
theorem dX8_effort_8 : decode cX8_effort 8 = .ok (.getfield 44, 3) := by decide +kernel
theorem dX8_effort_11 : decode cX8_effort 11 = .ok (.getfield 91, 3) := by decide +kernel
theorem dX8_effort_14 : decode cX8_effort 14 = .ok (.iaload, 1) := by decide +kernel
theorem dX8_effort_15 : decode cX8_effort 15 = .ok (.ireturn, 1) := by decide +kernel
theorem dX8_save_0 : decode cX8_save 0 = .ok (.iload_n 1, 1) := by decide +kernel
theorem dX8_save_1 : decode cX8_save 1 = .ok (.invokestatic 228, 3) := by decide +kernel
theorem dX8_save_4 : decode cX8_save 4 = .ok (.ifCond .ne 6, 3) := by decide +kernel
theorem dX8_save_7 : decode cX8_save 7 = .ok (.bipush (-3), 2) := by decide +kernel
theorem dX8_save_9 : decode cX8_save 9 = .ok (.ireturn, 1) := by decide +kernel
theorem dX8_save_10 : decode cX8_save 10 = .ok (.aload_n 0, 1) := by decide +kernel
theorem dX8_save_11 : decode cX8_save 11 = .ok (.iload_n 1, 1) := by decide +kernel
theorem dX8_save_12 : decode cX8_save 12 = .ok (.invokevirtual 231, 3) := by decide +kernel
theorem dX8_save_15 : decode cX8_save 15 = .ok (.istore_n 2, 1) := by decide +kernel
theorem dX8_save_16 : decode cX8_save 16 = .ok (.aload_n 0, 1) := by decide +kernel
theorem dX8_save_17 : decode cX8_save 17 = .ok (.getfield 55, 3) := by decide +kernel
theorem dX8_save_20 : decode cX8_save 20 = .ok (.iload_n 1, 1) := by decide +kernel
theorem dX8_save_21 : decode cX8_save 21 = .ok (.aload_n 0, 1) := by decide +kernel
theorem dX8_save_22 : decode cX8_save 22 = .ok (.getfield 44, 3) := by decide +kernel
theorem dX8_save_25 : decode cX8_save 25 = .ok (.invokevirtual 132, 3) := by decide +kernel
theorem dX8_save_28 : decode cX8_save 28 = .ok (.lastore, 1) := by decide +kernel
theorem dX8_save_29 : decode cX8_save 29 = .ok (.aload_n 0, 1) := by decide +kernel
theorem dX8_save_30 : decode cX8_save 30 = .ok (.dup, 1) := by decide +kernel
theorem dX8_save_31 : decode cX8_save 31 = .ok (.getfield 59, 3) := by decide +kernel
theorem dX8_save_34 : decode cX8_save 34 = .ok (.iconst 1, 1) := by decide +kernel
theorem dX8_save_35 : decode cX8_save 35 = .ok (.iload_n 1, 1) := by decide +kernel
theorem dX8_save_36 : decode cX8_save 36 = .ok (.ishl, 1) := by decide +kernel
theorem dX8_save_37 : decode cX8_save 37 = .ok (.ior, 1) := by decide +kernel
theorem dX8_save_38 : decode cX8_save 38 = .ok (.putfield 59, 3) := by decide +kernel
theorem dX8_save_41 : decode cX8_save 41 = .ok (.iload_n 2, 1) := by decide +kernel
theorem dX8_save_42 : decode cX8_save 42 = .ok (.ifCond .eq 7, 3) := by decide +kernel
theorem dX8_save_45 : decode cX8_save 45 = .ok (.iconst 1, 1) := by decide +kernel
theorem dX8_save_46 : decode cX8_save 46 = .ok (.goto 4, 3) := by decide +kernel
theorem dX8_save_49 : decode cX8_save 49 = .ok (.iconst 0, 1) := by decide +kernel
theorem dX8_save_50 : decode cX8_save 50 = .ok (.ireturn, 1) := by decide +kernel
theorem dX8_restore_0 : decode cX8_restore 0 = .ok (.iload_n 1, 1) := by decide +kernel
theorem dX8_restore_1 : decode cX8_restore 1 = .ok (.invokestatic 228, 3) := by decide +kernel
theorem dX8_restore_4 : decode cX8_restore 4 = .ok (.ifCond .ne 6, 3) := by decide +kernel
theorem dX8_restore_7 : decode cX8_restore 7 = .ok (.bipush (-3), 2) := by decide +kernel
theorem dX8_restore_9 : decode cX8_restore 9 = .ok (.ireturn, 1) := by decide +kernel
theorem dX8_restore_10 : decode cX8_restore 10 = .ok (.aload_n 0, 1) := by decide +kernel
theorem dX8_restore_11 : decode cX8_restore 11 = .ok (.iload_n 1, 1) := by decide +kernel
theorem dX8_restore_12 : decode cX8_restore 12 = .ok (.invokevirtual 231, 3) := by decide +kernel
theorem dX8_restore_15 : decode cX8_restore 15 = .ok (.ifCond .eq 6, 3) := by decide +kernel
theorem dX8_restore_18 : decode cX8_restore 18 = .ok (.bipush (-7), 2) := by decide +kernel
theorem dX8_restore_20 : decode cX8_restore 20 = .ok (.ireturn, 1) := by decide +kernel
theorem dX8_restore_21 : decode cX8_restore 21 = .ok (.aload_n 0, 1) := by decide +kernel
theorem dX8_restore_22 : decode cX8_restore 22 = .ok (.getfield 44, 3) := by decide +kernel
theorem dX8_restore_25 : decode cX8_restore 25 = .ok (.invokevirtual 132, 3) := by decide +kernel
theorem dX8_restore_28 : decode cX8_restore 28 = .ok (.lstore_n 2, 1) := by decide +kernel
theorem dX8_restore_29 : decode cX8_restore 29 = .ok (.aload_n 0, 1) := by decide +kernel
theorem dX8_restore_30 : decode cX8_restore 30 = .ok (.getfield 44, 3) := by decide +kernel
theorem dX8_restore_33 : decode cX8_restore 33 = .ok (.aload_n 0, 1) := by decide +kernel
theorem dX8_restore_34 : decode cX8_restore 34 = .ok (.getfield 55, 3) := by decide +kernel
theorem dX8_restore_37 : decode cX8_restore 37 = .ok (.iload_n 1, 1) := by decide +kernel
theorem dX8_restore_38 : decode cX8_restore 38 = .ok (.laload, 1) := by decide +kernel
theorem dX8_restore_39 : decode cX8_restore 39 = .ok (.invokevirtual 78, 3) := by decide +kernel
theorem dX8_restore_42 : decode cX8_restore 42 = .ok (.iconst 0, 1) := by decide +kernel
theorem dX8_restore_43 : decode cX8_restore 43 = .ok (.istore 4, 2) := by decide +kernel
theorem dX8_restore_45 : decode cX8_restore 45 = .ok (.iconst 0, 1) := by decide +kernel
theorem dX8_restore_46 : decode cX8_restore 46 = .ok (.istore 5, 2) := by decide +kernel
theorem dX8_restore_48 : decode cX8_restore 48 = .ok (.iload 5, 2) := by decide +kernel
theorem dX8_restore_50 : decode cX8_restore 50 = .ok (.iconst 5, 1) := by decide +kernel
theorem dX8_restore_51 : decode cX8_restore 51 = .ok (.if_icmp .ge 32, 3) := by decide +kernel
theorem dX8_restore_54 : decode cX8_restore 54 = .ok (.lload_n 2, 1) := by decide +kernel
theorem dX8_restore_55 : decode cX8_restore 55 = .ok (.iload 5, 2) := by decide +kernel
theorem dX8_restore_57 : decode cX8_restore 57 = .ok (.invokestatic 160, 3) := by decide +kernel
theorem dX8_restore_60 : decode cX8_restore 60 = .ok (.aload_n 0, 1) := by decide +kernel
theorem dX8_restore_61 : decode cX8_restore 61 = .ok (.getfield 55, 3) := by decide +kernel
theorem dX8_restore_64 : decode cX8_restore 64 = .ok (.iload_n 1, 1) := by decide +kernel
theorem dX8_restore_65 : decode cX8_restore 65 = .ok (.laload, 1) := by decide +kernel
theorem dX8_restore_66 : decode cX8_restore 66 = .ok (.iload 5, 2) := by decide +kernel
theorem dX8_restore_68 : decode cX8_restore 68 = .ok (.invokestatic 160, 3) := by decide +kernel
theorem dX8_restore_71 : decode cX8_restore 71 = .ok (.if_icmp .eq 6, 3) := by decide +kernel
theorem dX8_restore_74 : decode cX8_restore 74 = .ok (.iinc 4 1, 3) := by decide +kernel
theorem dX8_restore_77 : decode cX8_restore 77 = .ok (.iinc 5 1, 3) := by decide +kernel
theorem dX8_restore_80 : decode cX8_restore 80 = .ok (.goto (-32), 3) := by decide +kernel
theorem dX8_restore_83 : decode cX8_restore 83 = .ok (.iload 4, 2) := by decide +kernel
theorem dX8_restore_85 : decode cX8_restore 85 = .ok (.ireturn, 1) := by decide +kernel
theorem dX8_isSolved_0 : decode cX8_isSolved 0 = .ok (.aload_n 0, 1) := by decide +kernel
theorem dX8_isSolved_1 : decode cX8_isSolved 1 = .ok (.getfield 19, 3) := by decide +kernel
theorem dX8_isSolved_4 : decode cX8_isSolved 4 = .ok (.aload_n 0, 1) := by decide +kernel
theorem dX8_isSolved_5 : decode cX8_isSolved 5 = .ok (.getfield 44, 3) := by decide +kernel
theorem dX8_isSolved_8 : decode cX8_isSolved 8 = .ok (.invokevirtual 132, 3) := by decide +kernel
theorem dX8_isSolved_11 : decode cX8_isSolved 11 = .ok (.invokevirtual 234, 3) := by decide +kernel
theorem dX8_isSolved_14 : decode cX8_isSolved 14 = .ok (.ifCond .ne 7, 3) := by decide +kernel
theorem dX8_isSolved_17 : decode cX8_isSolved 17 = .ok (.iconst 1, 1) := by decide +kernel
theorem dX8_isSolved_18 : decode cX8_isSolved 18 = .ok (.goto 4, 3) := by decide +kernel
theorem dX8_isSolved_21 : decode cX8_isSolved 21 = .ok (.iconst 0, 1) := by decide +kernel
theorem dX8_isSolved_22 : decode cX8_isSolved 22 = .ok (.ireturn, 1) := by decide +kernel
theorem dX8_isDead_0 : decode cX8_isDead 0 = .ok (.aload_n 0, 1) := by decide +kernel
theorem dX8_isDead_1 : decode cX8_isDead 1 = .ok (.getfield 19, 3) := by decide +kernel
theorem dX8_isDead_4 : decode cX8_isDead 4 = .ok (.iload_n 1, 1) := by decide +kernel
theorem dX8_isDead_5 : decode cX8_isDead 5 = .ok (.invokevirtual 146, 3) := by decide +kernel
theorem dX8_isDead_8 : decode cX8_isDead 8 = .ok (.ifCond .ne 5, 3) := by decide +kernel
theorem dX8_isDead_11 : decode cX8_isDead 11 = .ok (.iconst (-1), 1) := by decide +kernel
theorem dX8_isDead_12 : decode cX8_isDead 12 = .ok (.ireturn, 1) := by decide +kernel
theorem dX8_isDead_13 : decode cX8_isDead 13 = .ok (.aload_n 0, 1) := by decide +kernel
theorem dX8_isDead_14 : decode cX8_isDead 14 = .ok (.getfield 19, 3) := by decide +kernel
theorem dX8_isDead_17 : decode cX8_isDead 17 = .ok (.getfield 110, 3) := by decide +kernel
theorem dX8_isDead_20 : decode cX8_isDead 20 = .ok (.iload_n 2, 1) := by decide +kernel
theorem dX8_isDead_21 : decode cX8_isDead 21 = .ok (.iload_n 3, 1) := by decide +kernel
theorem dX8_isDead_22 : decode cX8_isDead 22 = .ok (.invokevirtual 125, 3) := by decide +kernel
theorem dX8_isDead_25 : decode cX8_isDead 25 = .ok (.istore 5, 2) := by decide +kernel
theorem dX8_isDead_27 : decode cX8_isDead 27 = .ok (.iload 5, 2) := by decide +kernel
theorem dX8_isDead_29 : decode cX8_isDead 29 = .ok (.ifCond .ge 6, 3) := by decide +kernel
theorem dX8_isDead_32 : decode cX8_isDead 32 = .ok (.bipush (-2), 2) := by decide +kernel
theorem dX8_isDead_34 : decode cX8_isDead 34 = .ok (.ireturn, 1) := by decide +kernel
theorem dX8_isDead_35 : decode cX8_isDead 35 = .ok (.iload 4, 2) := by decide +kernel
theorem dX8_isDead_37 : decode cX8_isDead 37 = .ok (.ifCond .lt 9, 3) := by decide +kernel
theorem dX8_isDead_40 : decode cX8_isDead 40 = .ok (.iload 4, 2) := by decide +kernel
theorem dX8_isDead_42 : decode cX8_isDead 42 = .ok (.iconst 4, 1) := by decide +kernel
theorem dX8_isDead_43 : decode cX8_isDead 43 = .ok (.if_icmp .lt 6, 3) := by decide +kernel
theorem dX8_isDead_46 : decode cX8_isDead 46 = .ok (.bipush (-3), 2) := by decide +kernel
theorem dX8_isDead_48 : decode cX8_isDead 48 = .ok (.ireturn, 1) := by decide +kernel
theorem dX8_isDead_49 : decode cX8_isDead 49 = .ok (.aload_n 0, 1) := by decide +kernel
theorem dX8_isDead_50 : decode cX8_isDead 50 = .ok (.getfield 19, 3) := by decide +kernel
theorem dX8_isDead_53 : decode cX8_isDead 53 = .ok (.getfield 150, 3) := by decide +kernel
theorem dX8_isDead_56 : decode cX8_isDead 56 = .ok (.iload_n 1, 1) := by decide +kernel
theorem dX8_isDead_57 : decode cX8_isDead 57 = .ok (.aaload, 1) := by decide +kernel
theorem dX8_isDead_58 : decode cX8_isDead 58 = .ok (.astore 6, 2) := by decide +kernel
theorem dX8_isDead_60 : decode cX8_isDead 60 = .ok (.bipush 64, 2) := by decide +kernel
theorem dX8_isDead_62 : decode cX8_isDead 62 = .ok (.iload 4, 2) := by decide +kernel
theorem dX8_isDead_64 : decode cX8_isDead 64 = .ok (.imul, 1) := by decide +kernel
theorem dX8_isDead_65 : decode cX8_isDead 65 = .ok (.iload 5, 2) := by decide +kernel
theorem dX8_isDead_67 : decode cX8_isDead 67 = .ok (.iadd, 1) := by decide +kernel
theorem dX8_isDead_68 : decode cX8_isDead 68 = .ok (.istore 7, 2) := by decide +kernel
theorem dX8_isDead_70 : decode cX8_isDead 70 = .ok (.aload 6, 2) := by decide +kernel
theorem dX8_isDead_72 : decode cX8_isDead 72 = .ok (.iload 7, 2) := by decide +kernel
theorem dX8_isDead_74 : decode cX8_isDead 74 = .ok (.invokevirtual 238, 3) := by decide +kernel
theorem dX8_isDead_77 : decode cX8_isDead 77 = .ok (.ifCond .ne 6, 3) := by decide +kernel
theorem dX8_isDead_80 : decode cX8_isDead 80 = .ok (.bipush (-7), 2) := by decide +kernel
theorem dX8_isDead_82 : decode cX8_isDead 82 = .ok (.ireturn, 1) := by decide +kernel
theorem dX8_isDead_83 : decode cX8_isDead 83 = .ok (.aload 6, 2) := by decide +kernel
theorem dX8_isDead_85 : decode cX8_isDead 85 = .ok (.getfield 241, 3) := by decide +kernel
theorem dX8_isDead_88 : decode cX8_isDead 88 = .ok (.iload 7, 2) := by decide +kernel
theorem dX8_isDead_90 : decode cX8_isDead 90 = .ok (.iaload, 1) := by decide +kernel
theorem dX8_isDead_91 : decode cX8_isDead 91 = .ok (.ifCond .ge 7, 3) := by decide +kernel
theorem dX8_isDead_94 : decode cX8_isDead 94 = .ok (.iconst 1, 1) := by decide +kernel
theorem dX8_isDead_95 : decode cX8_isDead 95 = .ok (.goto 4, 3) := by decide +kernel
theorem dX8_isDead_98 : decode cX8_isDead 98 = .ok (.iconst 0, 1) := by decide +kernel
theorem dX8_isDead_99 : decode cX8_isDead 99 = .ok (.ireturn, 1) := by decide +kernel
theorem dX8_deadCount_0 : decode cX8_deadCount 0 = .ok (.aload_n 0, 1) := by decide +kernel
theorem dX8_deadCount_1 : decode cX8_deadCount 1 = .ok (.getfield 19, 3) := by decide +kernel
theorem dX8_deadCount_4 : decode cX8_deadCount 4 = .ok (.iload_n 1, 1) := by decide +kernel
theorem dX8_deadCount_5 : decode cX8_deadCount 5 = .ok (.invokevirtual 146, 3) := by decide +kernel
theorem dX8_deadCount_8 : decode cX8_deadCount 8 = .ok (.ifCond .ne 5, 3) := by decide +kernel
theorem dX8_deadCount_11 : decode cX8_deadCount 11 = .ok (.iconst (-1), 1) := by decide +kernel
theorem dX8_deadCount_12 : decode cX8_deadCount 12 = .ok (.ireturn, 1) := by decide +kernel
theorem dX8_deadCount_13 : decode cX8_deadCount 13 = .ok (.aload_n 0, 1) := by decide +kernel
theorem dX8_deadCount_14 : decode cX8_deadCount 14 = .ok (.getfield 19, 3) := by decide +kernel
theorem dX8_deadCount_17 : decode cX8_deadCount 17 = .ok (.getfield 150, 3) := by decide +kernel
theorem dX8_deadCount_20 : decode cX8_deadCount 20 = .ok (.iload_n 1, 1) := by decide +kernel
theorem dX8_deadCount_21 : decode cX8_deadCount 21 = .ok (.aaload, 1) := by decide +kernel
theorem dX8_deadCount_22 : decode cX8_deadCount 22 = .ok (.astore_n 2, 1) := by decide +kernel
theorem dX8_deadCount_23 : decode cX8_deadCount 23 = .ok (.iconst 0, 1) := by decide +kernel
theorem dX8_deadCount_24 : decode cX8_deadCount 24 = .ok (.istore_n 3, 1) := by decide +kernel
theorem dX8_deadCount_25 : decode cX8_deadCount 25 = .ok (.iconst 0, 1) := by decide +kernel
theorem dX8_deadCount_26 : decode cX8_deadCount 26 = .ok (.istore 4, 2) := by decide +kernel
theorem dX8_deadCount_28 : decode cX8_deadCount 28 = .ok (.iload 4, 2) := by decide +kernel
theorem dX8_deadCount_30 : decode cX8_deadCount 30 = .ok (.sipush 256, 3) := by decide +kernel
theorem dX8_deadCount_33 : decode cX8_deadCount 33 = .ok (.if_icmp .ge 31, 3) := by decide +kernel
theorem dX8_deadCount_36 : decode cX8_deadCount 36 = .ok (.aload_n 2, 1) := by decide +kernel
theorem dX8_deadCount_37 : decode cX8_deadCount 37 = .ok (.iload 4, 2) := by decide +kernel
theorem dX8_deadCount_39 : decode cX8_deadCount 39 = .ok (.invokevirtual 238, 3) := by decide +kernel
theorem dX8_deadCount_42 : decode cX8_deadCount 42 = .ok (.ifCond .eq 16, 3) := by decide +kernel
theorem dX8_deadCount_45 : decode cX8_deadCount 45 = .ok (.aload_n 2, 1) := by decide +kernel
theorem dX8_deadCount_46 : decode cX8_deadCount 46 = .ok (.getfield 241, 3) := by decide +kernel
theorem dX8_deadCount_49 : decode cX8_deadCount 49 = .ok (.iload 4, 2) := by decide +kernel
theorem dX8_deadCount_51 : decode cX8_deadCount 51 = .ok (.iaload, 1) := by decide +kernel
theorem dX8_deadCount_52 : decode cX8_deadCount 52 = .ok (.ifCond .ge 6, 3) := by decide +kernel
theorem dX8_deadCount_55 : decode cX8_deadCount 55 = .ok (.iinc 3 1, 3) := by decide +kernel
theorem dX8_deadCount_58 : decode cX8_deadCount 58 = .ok (.iinc 4 1, 3) := by decide +kernel
theorem dX8_deadCount_61 : decode cX8_deadCount 61 = .ok (.goto (-33), 3) := by decide +kernel
theorem dX8_deadCount_64 : decode cX8_deadCount 64 = .ok (.iload_n 3, 1) := by decide +kernel
theorem dX8_deadCount_65 : decode cX8_deadCount 65 = .ok (.ireturn, 1) := by decide +kernel
theorem dX8_distance_0 : decode cX8_distance 0 = .ok (.aload_n 0, 1) := by decide +kernel
theorem dX8_distance_1 : decode cX8_distance 1 = .ok (.getfield 19, 3) := by decide +kernel
theorem dX8_distance_4 : decode cX8_distance 4 = .ok (.iload_n 1, 1) := by decide +kernel
theorem dX8_distance_5 : decode cX8_distance 5 = .ok (.invokevirtual 146, 3) := by decide +kernel
theorem dX8_distance_8 : decode cX8_distance 8 = .ok (.ifCond .ne 5, 3) := by decide +kernel
theorem dX8_distance_11 : decode cX8_distance 11 = .ok (.iconst (-1), 1) := by decide +kernel
theorem dX8_distance_12 : decode cX8_distance 12 = .ok (.ireturn, 1) := by decide +kernel
theorem dX8_distance_13 : decode cX8_distance 13 = .ok (.aload_n 0, 1) := by decide +kernel
theorem dX8_distance_14 : decode cX8_distance 14 = .ok (.getfield 19, 3) := by decide +kernel
theorem dX8_distance_17 : decode cX8_distance 17 = .ok (.getfield 150, 3) := by decide +kernel
theorem dX8_distance_20 : decode cX8_distance 20 = .ok (.iload_n 1, 1) := by decide +kernel
theorem dX8_distance_21 : decode cX8_distance 21 = .ok (.aaload, 1) := by decide +kernel
theorem dX8_distance_22 : decode cX8_distance 22 = .ok (.getfield 241, 3) := by decide +kernel
theorem dX8_distance_25 : decode cX8_distance 25 = .ok (.aload_n 0, 1) := by decide +kernel
theorem dX8_distance_26 : decode cX8_distance 26 = .ok (.getfield 44, 3) := by decide +kernel
theorem dX8_distance_29 : decode cX8_distance 29 = .ok (.invokevirtual 132, 3) := by decide +kernel
theorem dX8_distance_32 : decode cX8_distance 32 = .ok (.iload_n 1, 1) := by decide +kernel
theorem dX8_distance_33 : decode cX8_distance 33 = .ok (.invokestatic 160, 3) := by decide +kernel
theorem dX8_distance_36 : decode cX8_distance 36 = .ok (.iaload, 1) := by decide +kernel
theorem dX8_distance_37 : decode cX8_distance 37 = .ok (.istore_n 2, 1) := by decide +kernel
theorem dX8_distance_38 : decode cX8_distance 38 = .ok (.iload_n 2, 1) := by decide +kernel
theorem dX8_distance_39 : decode cX8_distance 39 = .ok (.ifCond .ge 8, 3) := by decide +kernel
theorem dX8_distance_42 : decode cX8_distance 42 = .ok (.bipush (-7), 2) := by decide +kernel
theorem dX8_distance_44 : decode cX8_distance 44 = .ok (.goto 4, 3) := by decide +kernel
theorem dX8_distance_47 : decode cX8_distance 47 = .ok (.iload_n 2, 1) := by decide +kernel
theorem dX8_distance_48 : decode cX8_distance 48 = .ok (.ireturn, 1) := by decide +kernel
theorem dX8_lowerBound_0 : decode cX8_lowerBound 0 = .ok (.aload_n 0, 1) := by decide +kernel
theorem dX8_lowerBound_1 : decode cX8_lowerBound 1 = .ok (.getfield 19, 3) := by decide +kernel
theorem dX8_lowerBound_4 : decode cX8_lowerBound 4 = .ok (.aload_n 0, 1) := by decide +kernel
theorem dX8_lowerBound_5 : decode cX8_lowerBound 5 = .ok (.getfield 44, 3) := by decide +kernel
theorem dX8_lowerBound_8 : decode cX8_lowerBound 8 = .ok (.invokevirtual 132, 3) := by decide +kernel
theorem dX8_lowerBound_11 : decode cX8_lowerBound 11 = .ok (.invokevirtual 234, 3) := by decide +kernel
theorem dX8_lowerBound_14 : decode cX8_lowerBound 14 = .ok (.istore_n 1, 1) := by decide +kernel
theorem dX8_lowerBound_15 : decode cX8_lowerBound 15 = .ok (.iload_n 1, 1) := by decide +kernel
theorem dX8_lowerBound_16 : decode cX8_lowerBound 16 = .ok (.ifCond .ge 8, 3) := by decide +kernel
theorem dX8_lowerBound_19 : decode cX8_lowerBound 19 = .ok (.bipush (-7), 2) := by decide +kernel
theorem dX8_lowerBound_21 : decode cX8_lowerBound 21 = .ok (.goto 4, 3) := by decide +kernel
theorem dX8_lowerBound_24 : decode cX8_lowerBound 24 = .ok (.iload_n 1, 1) := by decide +kernel
theorem dX8_lowerBound_25 : decode cX8_lowerBound 25 = .ok (.ireturn, 1) := by decide +kernel
theorem dX8_solve_0 : decode cX8_solve 0 = .ok (.aload_n 0, 1) := by decide +kernel
theorem dX8_solve_1 : decode cX8_solve 1 = .ok (.getfield 51, 3) := by decide +kernel
theorem dX8_solve_4 : decode cX8_solve 4 = .ok (.aload_n 0, 1) := by decide +kernel
theorem dX8_solve_5 : decode cX8_solve 5 = .ok (.getfield 44, 3) := by decide +kernel
theorem dX8_solve_8 : decode cX8_solve 8 = .ok (.invokevirtual 132, 3) := by decide +kernel
theorem dX8_solve_11 : decode cX8_solve 11 = .ok (.invokevirtual 244, 3) := by decide +kernel
theorem dX8_solve_14 : decode cX8_solve 14 = .ok (.ireturn, 1) := by decide +kernel
theorem dX8_solution_0 : decode cX8_solution 0 = .ok (.iload_n 1, 1) := by decide +kernel
theorem dX8_solution_1 : decode cX8_solution 1 = .ok (.ifCond .ge 6, 3) := by decide +kernel
theorem dX8_solution_4 : decode cX8_solution 4 = .ok (.bipush (-3), 2) := by decide +kernel
theorem dX8_solution_6 : decode cX8_solution 6 = .ok (.ireturn, 1) := by decide +kernel
theorem dX8_solution_7 : decode cX8_solution 7 = .ok (.aload_n 0, 1) := by decide +kernel
theorem dX8_solution_8 : decode cX8_solution 8 = .ok (.getfield 51, 3) := by decide +kernel
theorem dX8_solution_11 : decode cX8_solution 11 = .ok (.aload_n 0, 1) := by decide +kernel
theorem dX8_solution_12 : decode cX8_solution 12 = .ok (.getfield 44, 3) := by decide +kernel
theorem dX8_solution_15 : decode cX8_solution 15 = .ok (.invokevirtual 132, 3) := by decide +kernel
theorem dX8_solution_18 : decode cX8_solution 18 = .ok (.invokevirtual 244, 3) := by decide +kernel
theorem dX8_solution_21 : decode cX8_solution 21 = .ok (.istore_n 2, 1) := by decide +kernel
theorem dX8_solution_22 : decode cX8_solution 22 = .ok (.iload_n 2, 1) := by decide +kernel
theorem dX8_solution_23 : decode cX8_solution 23 = .ok (.bipush (-6), 2) := by decide +kernel
theorem dX8_solution_25 : decode cX8_solution 25 = .ok (.if_icmp .ne 6, 3) := by decide +kernel
theorem dX8_solution_28 : decode cX8_solution 28 = .ok (.bipush (-6), 2) := by decide +kernel
theorem dX8_solution_30 : decode cX8_solution 30 = .ok (.ireturn, 1) := by decide +kernel
theorem dX8_solution_31 : decode cX8_solution 31 = .ok (.iload_n 1, 1) := by decide +kernel
theorem dX8_solution_32 : decode cX8_solution 32 = .ok (.iload_n 2, 1) := by decide +kernel
theorem dX8_solution_33 : decode cX8_solution 33 = .ok (.if_icmp .ge 15, 3) := by decide +kernel
theorem dX8_solution_36 : decode cX8_solution 36 = .ok (.aload_n 0, 1) := by decide +kernel
theorem dX8_solution_37 : decode cX8_solution 37 = .ok (.getfield 51, 3) := by decide +kernel
theorem dX8_solution_40 : decode cX8_solution 40 = .ok (.getfield 247, 3) := by decide +kernel
theorem dX8_solution_43 : decode cX8_solution 43 = .ok (.iload_n 1, 1) := by decide +kernel
theorem dX8_solution_44 : decode cX8_solution 44 = .ok (.iaload, 1) := by decide +kernel
theorem dX8_solution_45 : decode cX8_solution 45 = .ok (.goto 5, 3) := by decide +kernel
theorem dX8_solution_48 : decode cX8_solution 48 = .ok (.bipush (-7), 2) := by decide +kernel
theorem dX8_solution_50 : decode cX8_solution 50 = .ok (.ireturn, 1) := by decide +kernel
theorem dX8_reachable_0 : decode cX8_reachable 0 = .ok (.iload_n 1, 1) := by decide +kernel
theorem dX8_reachable_1 : decode cX8_reachable 1 = .ok (.ifCond .lt 8, 3) := by decide +kernel
theorem dX8_reachable_4 : decode cX8_reachable 4 = .ok (.iload_n 1, 1) := by decide +kernel
theorem dX8_reachable_5 : decode cX8_reachable 5 = .ok (.iconst 4, 1) := by decide +kernel
theorem dX8_reachable_6 : decode cX8_reachable 6 = .ok (.if_icmp .le 6, 3) := by decide +kernel
theorem dX8_reachable_9 : decode cX8_reachable 9 = .ok (.bipush (-3), 2) := by decide +kernel
theorem dX8_reachable_11 : decode cX8_reachable 11 = .ok (.ireturn, 1) := by decide +kernel
theorem dX8_reachable_12 : decode cX8_reachable 12 = .ok (.aload_n 0, 1) := by decide +kernel
theorem dX8_reachable_13 : decode cX8_reachable 13 = .ok (.getfield 51, 3) := by decide +kernel
theorem dX8_reachable_16 : decode cX8_reachable 16 = .ok (.aload_n 0, 1) := by decide +kernel
theorem dX8_reachable_17 : decode cX8_reachable 17 = .ok (.getfield 44, 3) := by decide +kernel
theorem dX8_reachable_20 : decode cX8_reachable 20 = .ok (.invokevirtual 132, 3) := by decide +kernel
theorem dX8_reachable_23 : decode cX8_reachable 23 = .ok (.iload_n 1, 1) := by decide +kernel
theorem dX8_reachable_24 : decode cX8_reachable 24 = .ok (.invokevirtual 250, 3) := by decide +kernel
theorem dX8_reachable_27 : decode cX8_reachable 27 = .ok (.ireturn, 1) := by decide +kernel
theorem dX8_attempt_0 : decode cX8_attempt 0 = .ok (.aload_n 0, 1) := by decide +kernel
theorem dX8_attempt_1 : decode cX8_attempt 1 = .ok (.getfield 37, 3) := by decide +kernel
theorem dX8_attempt_4 : decode cX8_attempt 4 = .ok (.aload_n 0, 1) := by decide +kernel
theorem dX8_attempt_5 : decode cX8_attempt 5 = .ok (.getfield 44, 3) := by decide +kernel
theorem dX8_attempt_8 : decode cX8_attempt 8 = .ok (.invokevirtual 132, 3) := by decide +kernel
theorem dX8_attempt_11 : decode cX8_attempt 11 = .ok (.invokevirtual 136, 3) := by decide +kernel
theorem dX8_attempt_14 : decode cX8_attempt 14 = .ok (.aload_n 0, 1) := by decide +kernel
theorem dX8_attempt_15 : decode cX8_attempt 15 = .ok (.getfield 37, 3) := by decide +kernel
theorem dX8_attempt_18 : decode cX8_attempt 18 = .ok (.iload_n 1, 1) := by decide +kernel
theorem dX8_attempt_19 : decode cX8_attempt 19 = .ok (.iload_n 2, 1) := by decide +kernel
theorem dX8_attempt_20 : decode cX8_attempt 20 = .ok (.invokevirtual 215, 3) := by decide +kernel
theorem dX8_attempt_23 : decode cX8_attempt 23 = .ok (.ireturn, 1) := by decide +kernel
theorem dX8_makeMove_0 : decode cX8_makeMove 0 = .ok (.aload_n 0, 1) := by decide +kernel
theorem dX8_makeMove_1 : decode cX8_makeMove 1 = .ok (.getfield 44, 3) := by decide +kernel
theorem dX8_makeMove_4 : decode cX8_makeMove 4 = .ok (.iload_n 1, 1) := by decide +kernel
theorem dX8_makeMove_5 : decode cX8_makeMove 5 = .ok (.iload_n 2, 1) := by decide +kernel
theorem dX8_makeMove_6 : decode cX8_makeMove 6 = .ok (.invokestatic 216, 3) := by decide +kernel
theorem dX8_makeMove_9 : decode cX8_makeMove 9 = .ok (.aload_n 0, 1) := by decide +kernel
theorem dX8_makeMove_10 : decode cX8_makeMove 10 = .ok (.getfield 19, 3) := by decide +kernel
theorem dX8_makeMove_13 : decode cX8_makeMove 13 = .ok (.iload_n 3, 1) := by decide +kernel
theorem dX8_makeMove_14 : decode cX8_makeMove 14 = .ok (.invokevirtual 253, 3) := by decide +kernel
theorem dX8_makeMove_17 : decode cX8_makeMove 17 = .ok (.aload_n 0, 1) := by decide +kernel
theorem dX8_makeMove_18 : decode cX8_makeMove 18 = .ok (.getfield 37, 3) := by decide +kernel
theorem dX8_makeMove_21 : decode cX8_makeMove 21 = .ok (.getfield 256, 3) := by decide +kernel
theorem dX8_makeMove_24 : decode cX8_makeMove 24 = .ok (.invokevirtual 260, 3) := by decide +kernel
theorem dX8_makeMove_27 : decode cX8_makeMove 27 = .ok (.return_, 1) := by decide +kernel
theorem dX8_faultOfMoves_0 : decode cX8_faultOfMoves 0 = .ok (.aload_n 0, 1) := by decide +kernel
theorem dX8_faultOfMoves_1 : decode cX8_faultOfMoves 1 = .ok (.getfield 37, 3) := by decide +kernel
theorem dX8_faultOfMoves_4 : decode cX8_faultOfMoves 4 = .ok (.aload_n 0, 1) := by decide +kernel
theorem dX8_faultOfMoves_5 : decode cX8_faultOfMoves 5 = .ok (.getfield 44, 3) := by decide +kernel
theorem dX8_faultOfMoves_8 : decode cX8_faultOfMoves 8 = .ok (.invokevirtual 132, 3) := by decide +kernel
theorem dX8_faultOfMoves_11 : decode cX8_faultOfMoves 11 = .ok (.invokevirtual 136, 3) := by decide +kernel
theorem dX8_faultOfMoves_14 : decode cX8_faultOfMoves 14 = .ok (.iconst 0, 1) := by decide +kernel
theorem dX8_faultOfMoves_15 : decode cX8_faultOfMoves 15 = .ok (.istore_n 1, 1) := by decide +kernel
theorem dX8_faultOfMoves_16 : decode cX8_faultOfMoves 16 = .ok (.iload_n 1, 1) := by decide +kernel
theorem dX8_faultOfMoves_17 : decode cX8_faultOfMoves 17 = .ok (.aload_n 0, 1) := by decide +kernel
theorem dX8_faultOfMoves_18 : decode cX8_faultOfMoves 18 = .ok (.getfield 10, 3) := by decide +kernel
theorem dX8_faultOfMoves_21 : decode cX8_faultOfMoves 21 = .ok (.getfield 67, 3) := by decide +kernel
theorem dX8_faultOfMoves_24 : decode cX8_faultOfMoves 24 = .ok (.if_icmp .ge 82, 3) := by decide +kernel
theorem dX8_faultOfMoves_27 : decode cX8_faultOfMoves 27 = .ok (.aload_n 0, 1) := by decide +kernel
theorem dX8_faultOfMoves_28 : decode cX8_faultOfMoves 28 = .ok (.getfield 10, 3) := by decide +kernel
theorem dX8_faultOfMoves_31 : decode cX8_faultOfMoves 31 = .ok (.iload_n 1, 1) := by decide +kernel
theorem dX8_faultOfMoves_32 : decode cX8_faultOfMoves 32 = .ok (.invokevirtual 94, 3) := by decide +kernel
theorem dX8_faultOfMoves_35 : decode cX8_faultOfMoves 35 = .ok (.bipush 97, 2) := by decide +kernel
theorem dX8_faultOfMoves_37 : decode cX8_faultOfMoves 37 = .ok (.isub, 1) := by decide +kernel
theorem dX8_faultOfMoves_38 : decode cX8_faultOfMoves 38 = .ok (.istore_n 2, 1) := by decide +kernel
theorem dX8_faultOfMoves_39 : decode cX8_faultOfMoves 39 = .ok (.aload_n 0, 1) := by decide +kernel
theorem dX8_faultOfMoves_40 : decode cX8_faultOfMoves 40 = .ok (.getfield 19, 3) := by decide +kernel
theorem dX8_faultOfMoves_43 : decode cX8_faultOfMoves 43 = .ok (.iload_n 2, 1) := by decide +kernel
theorem dX8_faultOfMoves_44 : decode cX8_faultOfMoves 44 = .ok (.invokevirtual 146, 3) := by decide +kernel
theorem dX8_faultOfMoves_47 : decode cX8_faultOfMoves 47 = .ok (.ifCond .ne 5, 3) := by decide +kernel
theorem dX8_faultOfMoves_50 : decode cX8_faultOfMoves 50 = .ok (.iload_n 1, 1) := by decide +kernel
theorem dX8_faultOfMoves_51 : decode cX8_faultOfMoves 51 = .ok (.ireturn, 1) := by decide +kernel
theorem dX8_faultOfMoves_52 : decode cX8_faultOfMoves 52 = .ok (.aload_n 0, 1) := by decide +kernel
theorem dX8_faultOfMoves_53 : decode cX8_faultOfMoves 53 = .ok (.getfield 10, 3) := by decide +kernel
theorem dX8_faultOfMoves_56 : decode cX8_faultOfMoves 56 = .ok (.iload_n 1, 1) := by decide +kernel
theorem dX8_faultOfMoves_57 : decode cX8_faultOfMoves 57 = .ok (.iconst 1, 1) := by decide +kernel
theorem dX8_faultOfMoves_58 : decode cX8_faultOfMoves 58 = .ok (.iadd, 1) := by decide +kernel
theorem dX8_faultOfMoves_59 : decode cX8_faultOfMoves 59 = .ok (.invokevirtual 94, 3) := by decide +kernel
theorem dX8_faultOfMoves_62 : decode cX8_faultOfMoves 62 = .ok (.invokestatic 98, 3) := by decide +kernel
theorem dX8_faultOfMoves_65 : decode cX8_faultOfMoves 65 = .ok (.istore_n 3, 1) := by decide +kernel
theorem dX8_faultOfMoves_66 : decode cX8_faultOfMoves 66 = .ok (.iload_n 3, 1) := by decide +kernel
theorem dX8_faultOfMoves_67 : decode cX8_faultOfMoves 67 = .ok (.ifCond .lt 15, 3) := by decide +kernel
theorem dX8_faultOfMoves_70 : decode cX8_faultOfMoves 70 = .ok (.aload_n 0, 1) := by decide +kernel
theorem dX8_faultOfMoves_71 : decode cX8_faultOfMoves 71 = .ok (.getfield 37, 3) := by decide +kernel
theorem dX8_faultOfMoves_74 : decode cX8_faultOfMoves 74 = .ok (.iload_n 2, 1) := by decide +kernel
theorem dX8_faultOfMoves_75 : decode cX8_faultOfMoves 75 = .ok (.iload_n 3, 1) := by decide +kernel
theorem dX8_faultOfMoves_76 : decode cX8_faultOfMoves 76 = .ok (.invokevirtual 215, 3) := by decide +kernel
theorem dX8_faultOfMoves_79 : decode cX8_faultOfMoves 79 = .ok (.ifCond .ne 7, 3) := by decide +kernel
theorem dX8_faultOfMoves_82 : decode cX8_faultOfMoves 82 = .ok (.iload_n 1, 1) := by decide +kernel
theorem dX8_faultOfMoves_83 : decode cX8_faultOfMoves 83 = .ok (.iconst 1, 1) := by decide +kernel
theorem dX8_faultOfMoves_84 : decode cX8_faultOfMoves 84 = .ok (.iadd, 1) := by decide +kernel
theorem dX8_faultOfMoves_85 : decode cX8_faultOfMoves 85 = .ok (.ireturn, 1) := by decide +kernel
theorem dX8_faultOfMoves_86 : decode cX8_faultOfMoves 86 = .ok (.aload_n 0, 1) := by decide +kernel
theorem dX8_faultOfMoves_87 : decode cX8_faultOfMoves 87 = .ok (.getfield 37, 3) := by decide +kernel
theorem dX8_faultOfMoves_90 : decode cX8_faultOfMoves 90 = .ok (.aload_n 0, 1) := by decide +kernel
theorem dX8_faultOfMoves_91 : decode cX8_faultOfMoves 91 = .ok (.getfield 37, 3) := by decide +kernel
theorem dX8_faultOfMoves_94 : decode cX8_faultOfMoves 94 = .ok (.getfield 256, 3) := by decide +kernel
theorem dX8_faultOfMoves_97 : decode cX8_faultOfMoves 97 = .ok (.invokevirtual 136, 3) := by decide +kernel
theorem dX8_faultOfMoves_100 : decode cX8_faultOfMoves 100 = .ok (.iinc 1 2, 3) := by decide +kernel
theorem dX8_faultOfMoves_103 : decode cX8_faultOfMoves 103 = .ok (.goto (-87), 3) := by decide +kernel
theorem dX8_faultOfMoves_106 : decode cX8_faultOfMoves 106 = .ok (.iconst (-1), 1) := by decide +kernel
theorem dX8_faultOfMoves_107 : decode cX8_faultOfMoves 107 = .ok (.ireturn, 1) := by decide +kernel
theorem dX8_isEmptySlot_0 : decode cX8_isEmptySlot 0 = .ok (.aload_n 0, 1) := by decide +kernel
theorem dX8_isEmptySlot_1 : decode cX8_isEmptySlot 1 = .ok (.getfield 59, 3) := by decide +kernel
theorem dX8_isEmptySlot_4 : decode cX8_isEmptySlot 4 = .ok (.iload_n 1, 1) := by decide +kernel
theorem dX8_isEmptySlot_5 : decode cX8_isEmptySlot 5 = .ok (.ishr, 1) := by decide +kernel
theorem dX8_isEmptySlot_6 : decode cX8_isEmptySlot 6 = .ok (.iconst 1, 1) := by decide +kernel
theorem dX8_isEmptySlot_7 : decode cX8_isEmptySlot 7 = .ok (.iand, 1) := by decide +kernel
theorem dX8_isEmptySlot_8 : decode cX8_isEmptySlot 8 = .ok (.ifCond .ne 7, 3) := by decide +kernel
theorem dX8_isEmptySlot_11 : decode cX8_isEmptySlot 11 = .ok (.iconst 1, 1) := by decide +kernel
theorem dX8_isEmptySlot_12 : decode cX8_isEmptySlot 12 = .ok (.goto 4, 3) := by decide +kernel
theorem dX8_isEmptySlot_15 : decode cX8_isEmptySlot 15 = .ok (.iconst 0, 1) := by decide +kernel
theorem dX8_isEmptySlot_16 : decode cX8_isEmptySlot 16 = .ok (.ireturn, 1) := by decide +kernel
theorem dX8_isSlot_0 : decode cX8_isSlot 0 = .ok (.iload_n 0, 1) := by decide +kernel
theorem dX8_isSlot_1 : decode cX8_isSlot 1 = .ok (.ifCond .lt 12, 3) := by decide +kernel
theorem dX8_isSlot_4 : decode cX8_isSlot 4 = .ok (.iload_n 0, 1) := by decide +kernel
theorem dX8_isSlot_5 : decode cX8_isSlot 5 = .ok (.iconst 4, 1) := by decide +kernel
theorem dX8_isSlot_6 : decode cX8_isSlot 6 = .ok (.if_icmp .ge 7, 3) := by decide +kernel
theorem dX8_isSlot_9 : decode cX8_isSlot 9 = .ok (.iconst 1, 1) := by decide +kernel
theorem dX8_isSlot_10 : decode cX8_isSlot 10 = .ok (.goto 4, 3) := by decide +kernel
theorem dX8_isSlot_13 : decode cX8_isSlot 13 = .ok (.iconst 0, 1) := by decide +kernel
theorem dX8_isSlot_14 : decode cX8_isSlot 14 = .ok (.ireturn, 1) := by decide +kernel
theorem dX8_isGroup_0 : decode cX8_isGroup 0 = .ok (.iload_n 0, 1) := by decide +kernel
theorem dX8_isGroup_1 : decode cX8_isGroup 1 = .ok (.ifCond .lt 12, 3) := by decide +kernel
theorem dX8_isGroup_4 : decode cX8_isGroup 4 = .ok (.iload_n 0, 1) := by decide +kernel
theorem dX8_isGroup_5 : decode cX8_isGroup 5 = .ok (.iconst 4, 1) := by decide +kernel
theorem dX8_isGroup_6 : decode cX8_isGroup 6 = .ok (.if_icmp .ge 7, 3) := by decide +kernel
theorem dX8_isGroup_9 : decode cX8_isGroup 9 = .ok (.iconst 1, 1) := by decide +kernel
theorem dX8_isGroup_10 : decode cX8_isGroup 10 = .ok (.goto 4, 3) := by decide +kernel
theorem dX8_isGroup_13 : decode cX8_isGroup 13 = .ok (.iconst 0, 1) := by decide +kernel
theorem dX8_isGroup_14 : decode cX8_isGroup 14 = .ok (.ireturn, 1) := by decide +kernel
theorem dX8_kindOfLetter_0 : decode cX8_kindOfLetter 0 = .ok (.iload_n 0, 1) := by decide +kernel
theorem dX8_kindOfLetter_1 : decode cX8_kindOfLetter 1 = .ok (.getstatic 264, 3) := by decide +kernel
theorem dX8_kindOfLetter_4 : decode cX8_kindOfLetter 4 = .ok (.invokestatic 268, 3) := by decide +kernel
theorem dX8_kindOfLetter_7 : decode cX8_kindOfLetter 7 = .ok (.ireturn, 1) := by decide +kernel
theorem dX8_placeOf_0 : decode cX8_placeOf 0 = .ok (.iconst 0, 1) := by decide +kernel
theorem dX8_placeOf_1 : decode cX8_placeOf 1 = .ok (.istore_n 2, 1) := by decide +kernel
theorem dX8_placeOf_2 : decode cX8_placeOf 2 = .ok (.iload_n 2, 1) := by decide +kernel
theorem dX8_placeOf_3 : decode cX8_placeOf 3 = .ok (.aload_n 1, 1) := by decide +kernel
theorem dX8_placeOf_4 : decode cX8_placeOf 4 = .ok (.arraylength, 1) := by decide +kernel
theorem dX8_placeOf_5 : decode cX8_placeOf 5 = .ok (.if_icmp .ge 18, 3) := by decide +kernel
theorem dX8_placeOf_8 : decode cX8_placeOf 8 = .ok (.aload_n 1, 1) := by decide +kernel
theorem dX8_placeOf_9 : decode cX8_placeOf 9 = .ok (.iload_n 2, 1) := by decide +kernel
theorem dX8_placeOf_10 : decode cX8_placeOf 10 = .ok (.caload, 1) := by decide +kernel
theorem dX8_placeOf_11 : decode cX8_placeOf 11 = .ok (.iload_n 0, 1) := by decide +kernel
theorem dX8_placeOf_12 : decode cX8_placeOf 12 = .ok (.if_icmp .ne 5, 3) := by decide +kernel
theorem dX8_placeOf_15 : decode cX8_placeOf 15 = .ok (.iload_n 2, 1) := by decide +kernel
theorem dX8_placeOf_16 : decode cX8_placeOf 16 = .ok (.ireturn, 1) := by decide +kernel
theorem dX8_placeOf_17 : decode cX8_placeOf 17 = .ok (.iinc 2 1, 3) := by decide +kernel
theorem dX8_placeOf_20 : decode cX8_placeOf 20 = .ok (.goto (-18), 3) := by decide +kernel
theorem dX8_placeOf_23 : decode cX8_placeOf 23 = .ok (.iconst (-1), 1) := by decide +kernel
theorem dX8_placeOf_24 : decode cX8_placeOf 24 = .ok (.ireturn, 1) := by decide +kernel
theorem dX8_moveCode_0 : decode cX8_moveCode 0 = .ok (.bipush 10, 2) := by decide +kernel
theorem dX8_moveCode_2 : decode cX8_moveCode 2 = .ok (.iload_n 0, 1) := by decide +kernel
theorem dX8_moveCode_3 : decode cX8_moveCode 3 = .ok (.imul, 1) := by decide +kernel
theorem dX8_moveCode_4 : decode cX8_moveCode 4 = .ok (.iload_n 1, 1) := by decide +kernel
theorem dX8_moveCode_5 : decode cX8_moveCode 5 = .ok (.iadd, 1) := by decide +kernel
theorem dX8_moveCode_6 : decode cX8_moveCode 6 = .ok (.ireturn, 1) := by decide +kernel
theorem dX8_holds_0 : decode cX8_holds 0 = .ok (.lload_n 0, 1) := by decide +kernel
theorem dX8_holds_1 : decode cX8_holds 1 = .ok (.iload_n 2, 1) := by decide +kernel
theorem dX8_holds_2 : decode cX8_holds 2 = .ok (.lushr, 1) := by decide +kernel
theorem dX8_holds_3 : decode cX8_holds 3 = .ok (.lconst 1, 1) := by decide +kernel
theorem dX8_holds_4 : decode cX8_holds 4 = .ok (.land, 1) := by decide +kernel
theorem dX8_holds_5 : decode cX8_holds 5 = .ok (.lconst 0, 1) := by decide +kernel
theorem dX8_holds_6 : decode cX8_holds 6 = .ok (.lcmp, 1) := by decide +kernel
theorem dX8_holds_7 : decode cX8_holds 7 = .ok (.ifCond .eq 7, 3) := by decide +kernel
theorem dX8_holds_10 : decode cX8_holds 10 = .ok (.iconst 1, 1) := by decide +kernel
theorem dX8_holds_11 : decode cX8_holds 11 = .ok (.goto 4, 3) := by decide +kernel
theorem dX8_holds_14 : decode cX8_holds 14 = .ok (.iconst 0, 1) := by decide +kernel
theorem dX8_holds_15 : decode cX8_holds 15 = .ok (.ireturn, 1) := by decide +kernel
theorem dX8_columnOf_0 : decode cX8_columnOf 0 = .ok (.iload_n 0, 1) := by decide +kernel
theorem dX8_columnOf_1 : decode cX8_columnOf 1 = .ok (.bipush 7, 2) := by decide +kernel
theorem dX8_columnOf_3 : decode cX8_columnOf 3 = .ok (.iand, 1) := by decide +kernel
theorem dX8_columnOf_4 : decode cX8_columnOf 4 = .ok (.ireturn, 1) := by decide +kernel
theorem dX8_rowOf_0 : decode cX8_rowOf 0 = .ok (.iload_n 0, 1) := by decide +kernel
theorem dX8_rowOf_1 : decode cX8_rowOf 1 = .ok (.iconst 3, 1) := by decide +kernel
theorem dX8_rowOf_2 : decode cX8_rowOf 2 = .ok (.ishr, 1) := by decide +kernel
theorem dX8_rowOf_3 : decode cX8_rowOf 3 = .ok (.bipush 7, 2) := by decide +kernel
theorem dX8_rowOf_5 : decode cX8_rowOf 5 = .ok (.iand, 1) := by decide +kernel
theorem dX8_rowOf_6 : decode cX8_rowOf 6 = .ok (.ireturn, 1) := by decide +kernel
theorem dX8_orientationOf_0 : decode cX8_orientationOf 0 = .ok (.iload_n 0, 1) := by decide +kernel
theorem dX8_orientationOf_1 : decode cX8_orientationOf 1 = .ok (.bipush 6, 2) := by decide +kernel
theorem dX8_orientationOf_3 : decode cX8_orientationOf 3 = .ok (.ishr, 1) := by decide +kernel
theorem dX8_orientationOf_4 : decode cX8_orientationOf 4 = .ok (.iconst 3, 1) := by decide +kernel
theorem dX8_orientationOf_5 : decode cX8_orientationOf 5 = .ok (.iand, 1) := by decide +kernel
theorem dX8_orientationOf_6 : decode cX8_orientationOf 6 = .ok (.ireturn, 1) := by decide +kernel
theorem dX8_placementIn_0 : decode cX8_placementIn 0 = .ok (.lload_n 0, 1) := by decide +kernel
theorem dX8_placementIn_1 : decode cX8_placementIn 1 = .ok (.bipush 8, 2) := by decide +kernel
theorem dX8_placementIn_3 : decode cX8_placementIn 3 = .ok (.iload_n 2, 1) := by decide +kernel
theorem dX8_placementIn_4 : decode cX8_placementIn 4 = .ok (.imul, 1) := by decide +kernel
theorem dX8_placementIn_5 : decode cX8_placementIn 5 = .ok (.lushr, 1) := by decide +kernel
theorem dX8_placementIn_6 : decode cX8_placementIn 6 = .ok (.l2i, 1) := by decide +kernel
theorem dX8_placementIn_7 : decode cX8_placementIn 7 = .ok (.sipush 255, 3) := by decide +kernel
theorem dX8_placementIn_10 : decode cX8_placementIn 10 = .ok (.iand, 1) := by decide +kernel
theorem dX8_placementIn_11 : decode cX8_placementIn 11 = .ok (.ireturn, 1) := by decide +kernel
theorem dX8_withPlacement_0 : decode cX8_withPlacement 0 = .ok (.bipush 8, 2) := by decide +kernel
theorem dX8_withPlacement_2 : decode cX8_withPlacement 2 = .ok (.iload_n 2, 1) := by decide +kernel
theorem dX8_withPlacement_3 : decode cX8_withPlacement 3 = .ok (.imul, 1) := by decide +kernel
theorem dX8_withPlacement_4 : decode cX8_withPlacement 4 = .ok (.istore 4, 2) := by decide +kernel
theorem dX8_withPlacement_6 : decode cX8_withPlacement 6 = .ok (.lload_n 0, 1) := by decide +kernel
theorem dX8_withPlacement_7 : decode cX8_withPlacement 7 = .ok (.ldc2_w 272, 3) := by decide +kernel
end
section
theorem dX8_withPlacement_10 : decode cX8_withPlacement 10 = .ok (.iload 4, 2) := by decide +kernel
theorem dX8_withPlacement_12 : decode cX8_withPlacement 12 = .ok (.lshl, 1) := by decide +kernel
theorem dX8_withPlacement_13 : decode cX8_withPlacement 13 = .ok (.ldc2_w 274, 3) := by decide +kernel
theorem dX8_withPlacement_16 : decode cX8_withPlacement 16 = .ok (.lxor, 1) := by decide +kernel
theorem dX8_withPlacement_17 : decode cX8_withPlacement 17 = .ok (.land, 1) := by decide +kernel
theorem dX8_withPlacement_18 : decode cX8_withPlacement 18 = .ok (.iload_n 3, 1) := by decide +kernel
theorem dX8_withPlacement_19 : decode cX8_withPlacement 19 = .ok (.i2l, 1) := by decide +kernel
theorem dX8_withPlacement_20 : decode cX8_withPlacement 20 = .ok (.iload 4, 2) := by decide +kernel
theorem dX8_withPlacement_22 : decode cX8_withPlacement 22 = .ok (.lshl, 1) := by decide +kernel
theorem dX8_withPlacement_23 : decode cX8_withPlacement 23 = .ok (.lor, 1) := by decide +kernel
theorem dX8_withPlacement_24 : decode cX8_withPlacement 24 = .ok (.lreturn, 1) := by decide +kernel
theorem dX9_init_0 : decode cX9_init 0 = .ok (.aload_n 0, 1) := by decide +kernel
theorem dX9_init_1 : decode cX9_init 1 = .ok (.invokespecial 1, 3) := by decide +kernel
theorem dX9_init_4 : decode cX9_init 4 = .ok (.aload_n 0, 1) := by decide +kernel
theorem dX9_init_5 : decode cX9_init 5 = .ok (.iconst 4, 1) := by decide +kernel
theorem dX9_init_6 : decode cX9_init 6 = .ok (.newarray .int, 2) := by decide +kernel
theorem dX9_init_8 : decode cX9_init 8 = .ok (.putfield 7, 3) := by decide +kernel
theorem dX9_init_11 : decode cX9_init 11 = .ok (.aload_n 0, 1) := by decide +kernel
theorem dX9_init_12 : decode cX9_init 12 = .ok (.bipush 64, 2) := by decide +kernel
theorem dX9_init_14 : decode cX9_init 14 = .ok (.newarray .int, 2) := by decide +kernel
theorem dX9_init_16 : decode cX9_init 16 = .ok (.putfield 13, 3) := by decide +kernel
theorem dX9_init_19 : decode cX9_init 19 = .ok (.aload_n 0, 1) := by decide +kernel
theorem dX9_init_20 : decode cX9_init 20 = .ok (.iconst 5, 1) := by decide +kernel
theorem dX9_init_21 : decode cX9_init 21 = .ok (.newarray .int, 2) := by decide +kernel
theorem dX9_init_23 : decode cX9_init 23 = .ok (.putfield 16, 3) := by decide +kernel
theorem dX9_init_26 : decode cX9_init 26 = .ok (.aload_n 0, 1) := by decide +kernel
theorem dX9_init_27 : decode cX9_init 27 = .ok (.bipush 25, 2) := by decide +kernel
theorem dX9_init_29 : decode cX9_init 29 = .ok (.newarray .int, 2) := by decide +kernel
theorem dX9_init_31 : decode cX9_init 31 = .ok (.putfield 19, 3) := by decide +kernel
theorem dX9_init_34 : decode cX9_init 34 = .ok (.aload_n 0, 1) := by decide +kernel
theorem dX9_init_35 : decode cX9_init 35 = .ok (.bipush 25, 2) := by decide +kernel
theorem dX9_init_37 : decode cX9_init 37 = .ok (.newarray .int, 2) := by decide +kernel
theorem dX9_init_39 : decode cX9_init 39 = .ok (.putfield 22, 3) := by decide +kernel
theorem dX9_init_42 : decode cX9_init 42 = .ok (.aload_n 0, 1) := by decide +kernel
theorem dX9_init_43 : decode cX9_init 43 = .ok (.iconst 5, 1) := by decide +kernel
theorem dX9_init_44 : decode cX9_init 44 = .ok (.newarray .int, 2) := by decide +kernel
theorem dX9_init_46 : decode cX9_init 46 = .ok (.putfield 25, 3) := by decide +kernel
theorem dX9_init_49 : decode cX9_init 49 = .ok (.aload_n 0, 1) := by decide +kernel
theorem dX9_init_50 : decode cX9_init 50 = .ok (.iconst 5, 1) := by decide +kernel
theorem dX9_init_51 : decode cX9_init 51 = .ok (.newarray .int, 2) := by decide +kernel
theorem dX9_init_53 : decode cX9_init 53 = .ok (.putfield 28, 3) := by decide +kernel
theorem dX9_init_56 : decode cX9_init 56 = .ok (.aload_n 0, 1) := by decide +kernel
theorem dX9_init_57 : decode cX9_init 57 = .ok (.iconst 5, 1) := by decide +kernel
theorem dX9_init_58 : decode cX9_init 58 = .ok (.newarray .int, 2) := by decide +kernel
theorem dX9_init_60 : decode cX9_init 60 = .ok (.putfield 31, 3) := by decide +kernel
theorem dX9_init_63 : decode cX9_init 63 = .ok (.aload_n 0, 1) := by decide +kernel
theorem dX9_init_64 : decode cX9_init 64 = .ok (.iconst 5, 1) := by decide +kernel
theorem dX9_init_65 : decode cX9_init 65 = .ok (.newarray .int, 2) := by decide +kernel
theorem dX9_init_67 : decode cX9_init 67 = .ok (.putfield 34, 3) := by decide +kernel
theorem dX9_init_70 : decode cX9_init 70 = .ok (.aload_n 0, 1) := by decide +kernel
theorem dX9_init_71 : decode cX9_init 71 = .ok (.iconst 5, 1) := by decide +kernel
theorem dX9_init_72 : decode cX9_init 72 = .ok (.newarray .int, 2) := by decide +kernel
theorem dX9_init_74 : decode cX9_init 74 = .ok (.putfield 37, 3) := by decide +kernel
theorem dX9_init_77 : decode cX9_init 77 = .ok (.aload_n 0, 1) := by decide +kernel
theorem dX9_init_78 : decode cX9_init 78 = .ok (.bipush 80, 2) := by decide +kernel
theorem dX9_init_80 : decode cX9_init 80 = .ok (.newarray .char, 2) := by decide +kernel
theorem dX9_init_82 : decode cX9_init 82 = .ok (.putfield 40, 3) := by decide +kernel
theorem dX9_init_85 : decode cX9_init 85 = .ok (.aload_n 0, 1) := by decide +kernel
theorem dX9_init_86 : decode cX9_init 86 = .ok (.bipush 64, 2) := by decide +kernel
theorem dX9_init_88 : decode cX9_init 88 = .ok (.newarray .int, 2) := by decide +kernel
theorem dX9_init_90 : decode cX9_init 90 = .ok (.putfield 44, 3) := by decide +kernel
theorem dX9_init_93 : decode cX9_init 93 = .ok (.aload_n 0, 1) := by decide +kernel
theorem dX9_init_94 : decode cX9_init 94 = .ok (.iconst 5, 1) := by decide +kernel
theorem dX9_init_95 : decode cX9_init 95 = .ok (.newarray .int, 2) := by decide +kernel
theorem dX9_init_97 : decode cX9_init 97 = .ok (.putfield 47, 3) := by decide +kernel
theorem dX9_init_100 : decode cX9_init 100 = .ok (.aload_n 0, 1) := by decide +kernel
theorem dX9_init_101 : decode cX9_init 101 = .ok (.bipush 25, 2) := by decide +kernel
theorem dX9_init_103 : decode cX9_init 103 = .ok (.newarray .int, 2) := by decide +kernel
theorem dX9_init_105 : decode cX9_init 105 = .ok (.putfield 50, 3) := by decide +kernel
theorem dX9_init_108 : decode cX9_init 108 = .ok (.aload_n 0, 1) := by decide +kernel
theorem dX9_init_109 : decode cX9_init 109 = .ok (.bipush 25, 2) := by decide +kernel
theorem dX9_init_111 : decode cX9_init 111 = .ok (.newarray .int, 2) := by decide +kernel
theorem dX9_init_113 : decode cX9_init 113 = .ok (.putfield 53, 3) := by decide +kernel
theorem dX9_init_116 : decode cX9_init 116 = .ok (.aload_n 0, 1) := by decide +kernel
theorem dX9_init_117 : decode cX9_init 117 = .ok (.iconst 5, 1) := by decide +kernel
theorem dX9_init_118 : decode cX9_init 118 = .ok (.newarray .int, 2) := by decide +kernel
theorem dX9_init_120 : decode cX9_init 120 = .ok (.putfield 56, 3) := by decide +kernel
theorem dX9_init_123 : decode cX9_init 123 = .ok (.aload_n 0, 1) := by decide +kernel
theorem dX9_init_124 : decode cX9_init 124 = .ok (.iconst 5, 1) := by decide +kernel
theorem dX9_init_125 : decode cX9_init 125 = .ok (.newarray .int, 2) := by decide +kernel
theorem dX9_init_127 : decode cX9_init 127 = .ok (.putfield 59, 3) := by decide +kernel
theorem dX9_init_130 : decode cX9_init 130 = .ok (.aload_n 0, 1) := by decide +kernel
theorem dX9_init_131 : decode cX9_init 131 = .ok (.iconst 5, 1) := by decide +kernel
theorem dX9_init_132 : decode cX9_init 132 = .ok (.newarray .int, 2) := by decide +kernel
theorem dX9_init_134 : decode cX9_init 134 = .ok (.putfield 62, 3) := by decide +kernel
theorem dX9_init_137 : decode cX9_init 137 = .ok (.aload_n 0, 1) := by decide +kernel
theorem dX9_init_138 : decode cX9_init 138 = .ok (.bipush 64, 2) := by decide +kernel
theorem dX9_init_140 : decode cX9_init 140 = .ok (.newarray .int, 2) := by decide +kernel
theorem dX9_init_142 : decode cX9_init 142 = .ok (.putfield 65, 3) := by decide +kernel
theorem dX9_init_145 : decode cX9_init 145 = .ok (.aload_n 0, 1) := by decide +kernel
theorem dX9_init_146 : decode cX9_init 146 = .ok (.iconst 4, 1) := by decide +kernel
theorem dX9_init_147 : decode cX9_init 147 = .ok (.newarray .int, 2) := by decide +kernel
theorem dX9_init_149 : decode cX9_init 149 = .ok (.putfield 68, 3) := by decide +kernel
theorem dX9_init_152 : decode cX9_init 152 = .ok (.aload_n 0, 1) := by decide +kernel
theorem dX9_init_153 : decode cX9_init 153 = .ok (.sipush 200, 3) := by decide +kernel
theorem dX9_init_156 : decode cX9_init 156 = .ok (.newarray .int, 2) := by decide +kernel
theorem dX9_init_158 : decode cX9_init 158 = .ok (.putfield 71, 3) := by decide +kernel
theorem dX9_init_161 : decode cX9_init 161 = .ok (.aload_n 0, 1) := by decide +kernel
theorem dX9_init_162 : decode cX9_init 162 = .ok (.sipush 200, 3) := by decide +kernel
theorem dX9_init_165 : decode cX9_init 165 = .ok (.newarray .int, 2) := by decide +kernel
theorem dX9_init_167 : decode cX9_init 167 = .ok (.putfield 74, 3) := by decide +kernel
theorem dX9_init_170 : decode cX9_init 170 = .ok (.aload_n 0, 1) := by decide +kernel
theorem dX9_init_171 : decode cX9_init 171 = .ok (.sipush 200, 3) := by decide +kernel
theorem dX9_init_174 : decode cX9_init 174 = .ok (.newarray .long, 2) := by decide +kernel
theorem dX9_init_176 : decode cX9_init 176 = .ok (.putfield 77, 3) := by decide +kernel
theorem dX9_init_179 : decode cX9_init 179 = .ok (.aload_n 0, 1) := by decide +kernel
theorem dX9_init_180 : decode cX9_init 180 = .ok (.sipush 200, 3) := by decide +kernel
theorem dX9_init_183 : decode cX9_init 183 = .ok (.newarray .long, 2) := by decide +kernel
theorem dX9_init_185 : decode cX9_init 185 = .ok (.putfield 81, 3) := by decide +kernel
theorem dX9_init_188 : decode cX9_init 188 = .ok (.aload_n 0, 1) := by decide +kernel
theorem dX9_init_189 : decode cX9_init 189 = .ok (.iconst 4, 1) := by decide +kernel
theorem dX9_init_190 : decode cX9_init 190 = .ok (.newarray .boolean, 2) := by decide +kernel
theorem dX9_init_192 : decode cX9_init 192 = .ok (.putfield 84, 3) := by decide +kernel
theorem dX9_init_195 : decode cX9_init 195 = .ok (.aload_n 0, 1) := by decide +kernel
theorem dX9_init_196 : decode cX9_init 196 = .ok (.iconst 4, 1) := by decide +kernel
theorem dX9_init_197 : decode cX9_init 197 = .ok (.newarray .long, 2) := by decide +kernel
theorem dX9_init_199 : decode cX9_init 199 = .ok (.putfield 88, 3) := by decide +kernel
theorem dX9_init_202 : decode cX9_init 202 = .ok (.aload_n 0, 1) := by decide +kernel
theorem dX9_init_203 : decode cX9_init 203 = .ok (.sipush 1536, 3) := by decide +kernel
theorem dX9_init_206 : decode cX9_init 206 = .ok (.newarray .int, 2) := by decide +kernel
theorem dX9_init_208 : decode cX9_init 208 = .ok (.putfield 91, 3) := by decide +kernel
theorem dX9_init_211 : decode cX9_init 211 = .ok (.aload_n 0, 1) := by decide +kernel
theorem dX9_init_212 : decode cX9_init 212 = .ok (.sipush 1280, 3) := by decide +kernel
theorem dX9_init_215 : decode cX9_init 215 = .ok (.newarray .int, 2) := by decide +kernel
theorem dX9_init_217 : decode cX9_init 217 = .ok (.putfield 94, 3) := by decide +kernel
theorem dX9_init_220 : decode cX9_init 220 = .ok (.aload_n 0, 1) := by decide +kernel
theorem dX9_init_221 : decode cX9_init 221 = .ok (.sipush 1200, 3) := by decide +kernel
theorem dX9_init_224 : decode cX9_init 224 = .ok (.newarray .long, 2) := by decide +kernel
theorem dX9_init_226 : decode cX9_init 226 = .ok (.putfield 97, 3) := by decide +kernel
theorem dX9_init_229 : decode cX9_init 229 = .ok (.aload_n 0, 1) := by decide +kernel
theorem dX9_init_230 : decode cX9_init 230 = .ok (.sipush 1200, 3) := by decide +kernel
theorem dX9_init_233 : decode cX9_init 233 = .ok (.newarray .int, 2) := by decide +kernel
theorem dX9_init_235 : decode cX9_init 235 = .ok (.putfield 100, 3) := by decide +kernel
theorem dX9_init_238 : decode cX9_init 238 = .ok (.aload_n 0, 1) := by decide +kernel
theorem dX9_init_239 : decode cX9_init 239 = .ok (.sipush 1200, 3) := by decide +kernel
theorem dX9_init_242 : decode cX9_init 242 = .ok (.newarray .int, 2) := by decide +kernel
theorem dX9_init_244 : decode cX9_init 244 = .ok (.putfield 103, 3) := by decide +kernel
theorem dX9_init_247 : decode cX9_init 247 = .ok (.aload_n 0, 1) := by decide +kernel
theorem dX9_init_248 : decode cX9_init 248 = .ok (.sipush 1200, 3) := by decide +kernel
theorem dX9_init_251 : decode cX9_init 251 = .ok (.newarray .int, 2) := by decide +kernel
theorem dX9_init_253 : decode cX9_init 253 = .ok (.putfield 106, 3) := by decide +kernel
theorem dX9_init_256 : decode cX9_init 256 = .ok (.aload_n 0, 1) := by decide +kernel
theorem dX9_init_257 : decode cX9_init 257 = .ok (.iconst 3, 1) := by decide +kernel
theorem dX9_init_258 : decode cX9_init 258 = .ok (.putfield 109, 3) := by decide +kernel
theorem dX9_init_261 : decode cX9_init 261 = .ok (.aload_n 0, 1) := by decide +kernel
theorem dX9_init_262 : decode cX9_init 262 = .ok (.iconst 3, 1) := by decide +kernel
theorem dX9_init_263 : decode cX9_init 263 = .ok (.putfield 113, 3) := by decide +kernel
theorem dX9_init_266 : decode cX9_init 266 = .ok (.aload_n 0, 1) := by decide +kernel
theorem dX9_init_267 : decode cX9_init 267 = .ok (.bipush 45, 2) := by decide +kernel
theorem dX9_init_269 : decode cX9_init 269 = .ok (.putfield 116, 3) := by decide +kernel
theorem dX9_init_272 : decode cX9_init 272 = .ok (.iconst 0, 1) := by decide +kernel
theorem dX9_init_273 : decode cX9_init 273 = .ok (.istore_n 1, 1) := by decide +kernel
theorem dX9_init_274 : decode cX9_init 274 = .ok (.iload_n 1, 1) := by decide +kernel
theorem dX9_init_275 : decode cX9_init 275 = .ok (.iconst 4, 1) := by decide +kernel
theorem dX9_init_276 : decode cX9_init 276 = .ok (.if_icmp .ge 16, 3) := by decide +kernel
theorem dX9_init_279 : decode cX9_init 279 = .ok (.aload_n 0, 1) := by decide +kernel
theorem dX9_init_280 : decode cX9_init 280 = .ok (.getfield 7, 3) := by decide +kernel
theorem dX9_init_283 : decode cX9_init 283 = .ok (.iload_n 1, 1) := by decide +kernel
theorem dX9_init_284 : decode cX9_init 284 = .ok (.iconst 1, 1) := by decide +kernel
theorem dX9_init_285 : decode cX9_init 285 = .ok (.iastore, 1) := by decide +kernel
theorem dX9_init_286 : decode cX9_init 286 = .ok (.iinc 1 1, 3) := by decide +kernel
theorem dX9_init_289 : decode cX9_init 289 = .ok (.goto (-15), 3) := by decide +kernel
theorem dX9_init_292 : decode cX9_init 292 = .ok (.return_, 1) := by decide +kernel
theorem dX9_in_0 : decode cX9_in 0 = .ok (.iload_n 0, 1) := by decide +kernel
theorem dX9_in_1 : decode cX9_in 1 = .ok (.iload_n 1, 1) := by decide +kernel
theorem dX9_in_2 : decode cX9_in 2 = .ok (.if_icmp .lt 12, 3) := by decide +kernel
theorem dX9_in_5 : decode cX9_in 5 = .ok (.iload_n 0, 1) := by decide +kernel
theorem dX9_in_6 : decode cX9_in 6 = .ok (.iload_n 2, 1) := by decide +kernel
theorem dX9_in_7 : decode cX9_in 7 = .ok (.if_icmp .gt 7, 3) := by decide +kernel
theorem dX9_in_10 : decode cX9_in 10 = .ok (.iconst 1, 1) := by decide +kernel
theorem dX9_in_11 : decode cX9_in 11 = .ok (.goto 4, 3) := by decide +kernel
theorem dX9_in_14 : decode cX9_in 14 = .ok (.iconst 0, 1) := by decide +kernel
theorem dX9_in_15 : decode cX9_in 15 = .ok (.ireturn, 1) := by decide +kernel
theorem dX9_noBlock_0 : decode cX9_noBlock 0 = .ok (.iload_n 1, 1) := by decide +kernel
theorem dX9_noBlock_1 : decode cX9_noBlock 1 = .ok (.iconst 0, 1) := by decide +kernel
theorem dX9_noBlock_2 : decode cX9_noBlock 2 = .ok (.iconst 4, 1) := by decide +kernel
theorem dX9_noBlock_3 : decode cX9_noBlock 3 = .ok (.invokestatic 119, 3) := by decide +kernel
theorem dX9_noBlock_6 : decode cX9_noBlock 6 = .ok (.ifCond .eq 12, 3) := by decide +kernel
theorem dX9_noBlock_9 : decode cX9_noBlock 9 = .ok (.aload_n 0, 1) := by decide +kernel
theorem dX9_noBlock_10 : decode cX9_noBlock 10 = .ok (.getfield 16, 3) := by decide +kernel
theorem dX9_noBlock_13 : decode cX9_noBlock 13 = .ok (.iload_n 1, 1) := by decide +kernel
theorem dX9_noBlock_14 : decode cX9_noBlock 14 = .ok (.iaload, 1) := by decide +kernel
theorem dX9_noBlock_15 : decode cX9_noBlock 15 = .ok (.ifCond .ne 7, 3) := by decide +kernel
theorem dX9_noBlock_18 : decode cX9_noBlock 18 = .ok (.iconst 1, 1) := by decide +kernel
theorem dX9_noBlock_19 : decode cX9_noBlock 19 = .ok (.goto 4, 3) := by decide +kernel
theorem dX9_noBlock_22 : decode cX9_noBlock 22 = .ok (.iconst 0, 1) := by decide +kernel
theorem dX9_noBlock_23 : decode cX9_noBlock 23 = .ok (.ireturn, 1) := by decide +kernel
theorem dX9_isInYard_0 : decode cX9_isInYard 0 = .ok (.iload_n 1, 1) := by decide +kernel
theorem dX9_isInYard_1 : decode cX9_isInYard 1 = .ok (.iconst 0, 1) := by decide +kernel
theorem dX9_isInYard_2 : decode cX9_isInYard 2 = .ok (.aload_n 0, 1) := by decide +kernel
theorem dX9_isInYard_3 : decode cX9_isInYard 3 = .ok (.getfield 109, 3) := by decide +kernel
theorem dX9_isInYard_6 : decode cX9_isInYard 6 = .ok (.iconst 1, 1) := by decide +kernel
theorem dX9_isInYard_7 : decode cX9_isInYard 7 = .ok (.isub, 1) := by decide +kernel
theorem dX9_isInYard_8 : decode cX9_isInYard 8 = .ok (.invokestatic 119, 3) := by decide +kernel
theorem dX9_isInYard_11 : decode cX9_isInYard 11 = .ok (.ifCond .eq 21, 3) := by decide +kernel
theorem dX9_isInYard_14 : decode cX9_isInYard 14 = .ok (.iload_n 2, 1) := by decide +kernel
theorem dX9_isInYard_15 : decode cX9_isInYard 15 = .ok (.iconst 0, 1) := by decide +kernel
theorem dX9_isInYard_16 : decode cX9_isInYard 16 = .ok (.aload_n 0, 1) := by decide +kernel
theorem dX9_isInYard_17 : decode cX9_isInYard 17 = .ok (.getfield 113, 3) := by decide +kernel
theorem dX9_isInYard_20 : decode cX9_isInYard 20 = .ok (.iconst 1, 1) := by decide +kernel
theorem dX9_isInYard_21 : decode cX9_isInYard 21 = .ok (.isub, 1) := by decide +kernel
theorem dX9_isInYard_22 : decode cX9_isInYard 22 = .ok (.invokestatic 119, 3) := by decide +kernel
theorem dX9_isInYard_25 : decode cX9_isInYard 25 = .ok (.ifCond .eq 7, 3) := by decide +kernel
theorem dX9_isInYard_28 : decode cX9_isInYard 28 = .ok (.iconst 1, 1) := by decide +kernel
theorem dX9_isInYard_29 : decode cX9_isInYard 29 = .ok (.goto 4, 3) := by decide +kernel
theorem dX9_isInYard_32 : decode cX9_isInYard 32 = .ok (.iconst 0, 1) := by decide +kernel
theorem dX9_isInYard_33 : decode cX9_isInYard 33 = .ok (.ireturn, 1) := by decide +kernel
theorem dX9_kindAt_0 : decode cX9_kindAt 0 = .ok (.aload_n 0, 1) := by decide +kernel
theorem dX9_kindAt_1 : decode cX9_kindAt 1 = .ok (.getfield 13, 3) := by decide +kernel
theorem dX9_kindAt_4 : decode cX9_kindAt 4 = .ok (.bipush 8, 2) := by decide +kernel
theorem dX9_kindAt_6 : decode cX9_kindAt 6 = .ok (.iload_n 2, 1) := by decide +kernel
theorem dX9_kindAt_7 : decode cX9_kindAt 7 = .ok (.imul, 1) := by decide +kernel
theorem dX9_kindAt_8 : decode cX9_kindAt 8 = .ok (.iload_n 1, 1) := by decide +kernel
theorem dX9_kindAt_9 : decode cX9_kindAt 9 = .ok (.iadd, 1) := by decide +kernel
theorem dX9_kindAt_10 : decode cX9_kindAt 10 = .ok (.iaload, 1) := by decide +kernel
theorem dX9_kindAt_11 : decode cX9_kindAt 11 = .ok (.ireturn, 1) := by decide +kernel
theorem dX9_turnedX_0 : decode cX9_turnedX 0 = .ok (.iload_n 2, 1) := by decide +kernel
theorem dX9_turnedX_1 : decode cX9_turnedX 1 = .ok (.ifCond .ne 7, 3) := by decide +kernel
theorem dX9_turnedX_4 : decode cX9_turnedX 4 = .ok (.iload_n 0, 1) := by decide +kernel
theorem dX9_turnedX_5 : decode cX9_turnedX 5 = .ok (.goto 24, 3) := by decide +kernel
theorem dX9_turnedX_8 : decode cX9_turnedX 8 = .ok (.iload_n 2, 1) := by decide +kernel
theorem dX9_turnedX_9 : decode cX9_turnedX 9 = .ok (.iconst 1, 1) := by decide +kernel
theorem dX9_turnedX_10 : decode cX9_turnedX 10 = .ok (.if_icmp .ne 8, 3) := by decide +kernel
theorem dX9_turnedX_13 : decode cX9_turnedX 13 = .ok (.iload_n 1, 1) := by decide +kernel
theorem dX9_turnedX_14 : decode cX9_turnedX 14 = .ok (.ineg, 1) := by decide +kernel
theorem dX9_turnedX_15 : decode cX9_turnedX 15 = .ok (.goto 14, 3) := by decide +kernel
theorem dX9_turnedX_18 : decode cX9_turnedX 18 = .ok (.iload_n 2, 1) := by decide +kernel
theorem dX9_turnedX_19 : decode cX9_turnedX 19 = .ok (.iconst 2, 1) := by decide +kernel
theorem dX9_turnedX_20 : decode cX9_turnedX 20 = .ok (.if_icmp .ne 8, 3) := by decide +kernel
theorem dX9_turnedX_23 : decode cX9_turnedX 23 = .ok (.iload_n 0, 1) := by decide +kernel
theorem dX9_turnedX_24 : decode cX9_turnedX 24 = .ok (.ineg, 1) := by decide +kernel
theorem dX9_turnedX_25 : decode cX9_turnedX 25 = .ok (.goto 4, 3) := by decide +kernel
theorem dX9_turnedX_28 : decode cX9_turnedX 28 = .ok (.iload_n 1, 1) := by decide +kernel
theorem dX9_turnedX_29 : decode cX9_turnedX 29 = .ok (.ireturn, 1) := by decide +kernel
theorem dX9_turnedY_0 : decode cX9_turnedY 0 = .ok (.iload_n 2, 1) := by decide +kernel
theorem dX9_turnedY_1 : decode cX9_turnedY 1 = .ok (.ifCond .ne 7, 3) := by decide +kernel
theorem dX9_turnedY_4 : decode cX9_turnedY 4 = .ok (.iload_n 1, 1) := by decide +kernel
theorem dX9_turnedY_5 : decode cX9_turnedY 5 = .ok (.goto 24, 3) := by decide +kernel
theorem dX9_turnedY_8 : decode cX9_turnedY 8 = .ok (.iload_n 2, 1) := by decide +kernel
theorem dX9_turnedY_9 : decode cX9_turnedY 9 = .ok (.iconst 1, 1) := by decide +kernel
theorem dX9_turnedY_10 : decode cX9_turnedY 10 = .ok (.if_icmp .ne 7, 3) := by decide +kernel
theorem dX9_turnedY_13 : decode cX9_turnedY 13 = .ok (.iload_n 0, 1) := by decide +kernel
theorem dX9_turnedY_14 : decode cX9_turnedY 14 = .ok (.goto 15, 3) := by decide +kernel
theorem dX9_turnedY_17 : decode cX9_turnedY 17 = .ok (.iload_n 2, 1) := by decide +kernel
theorem dX9_turnedY_18 : decode cX9_turnedY 18 = .ok (.iconst 2, 1) := by decide +kernel
theorem dX9_turnedY_19 : decode cX9_turnedY 19 = .ok (.if_icmp .ne 8, 3) := by decide +kernel
theorem dX9_turnedY_22 : decode cX9_turnedY 22 = .ok (.iload_n 1, 1) := by decide +kernel
theorem dX9_turnedY_23 : decode cX9_turnedY 23 = .ok (.ineg, 1) := by decide +kernel
theorem dX9_turnedY_24 : decode cX9_turnedY 24 = .ok (.goto 5, 3) := by decide +kernel
theorem dX9_turnedY_27 : decode cX9_turnedY 27 = .ok (.iload_n 0, 1) := by decide +kernel
theorem dX9_turnedY_28 : decode cX9_turnedY 28 = .ok (.ineg, 1) := by decide +kernel
theorem dX9_turnedY_29 : decode cX9_turnedY 29 = .ok (.ireturn, 1) := by decide +kernel
theorem dX9_cellX_0 : decode cX9_cellX 0 = .ok (.iload_n 3, 1) := by decide +kernel
theorem dX9_cellX_1 : decode cX9_cellX 1 = .ok (.bipush 8, 2) := by decide +kernel
theorem dX9_cellX_3 : decode cX9_cellX 3 = .ok (.irem, 1) := by decide +kernel
theorem dX9_cellX_4 : decode cX9_cellX 4 = .ok (.aload_n 0, 1) := by decide +kernel
theorem dX9_cellX_5 : decode cX9_cellX 5 = .ok (.getfield 19, 3) := by decide +kernel
theorem dX9_cellX_8 : decode cX9_cellX 8 = .ok (.iconst 5, 1) := by decide +kernel
theorem dX9_cellX_9 : decode cX9_cellX 9 = .ok (.iload_n 1, 1) := by decide +kernel
theorem dX9_cellX_10 : decode cX9_cellX 10 = .ok (.imul, 1) := by decide +kernel
theorem dX9_cellX_11 : decode cX9_cellX 11 = .ok (.iload_n 2, 1) := by decide +kernel
theorem dX9_cellX_12 : decode cX9_cellX 12 = .ok (.iadd, 1) := by decide +kernel
theorem dX9_cellX_13 : decode cX9_cellX 13 = .ok (.iaload, 1) := by decide +kernel
theorem dX9_cellX_14 : decode cX9_cellX 14 = .ok (.aload_n 0, 1) := by decide +kernel
theorem dX9_cellX_15 : decode cX9_cellX 15 = .ok (.getfield 22, 3) := by decide +kernel
theorem dX9_cellX_18 : decode cX9_cellX 18 = .ok (.iconst 5, 1) := by decide +kernel
theorem dX9_cellX_19 : decode cX9_cellX 19 = .ok (.iload_n 1, 1) := by decide +kernel
theorem dX9_cellX_20 : decode cX9_cellX 20 = .ok (.imul, 1) := by decide +kernel
theorem dX9_cellX_21 : decode cX9_cellX 21 = .ok (.iload_n 2, 1) := by decide +kernel
theorem dX9_cellX_22 : decode cX9_cellX 22 = .ok (.iadd, 1) := by decide +kernel
theorem dX9_cellX_23 : decode cX9_cellX 23 = .ok (.iaload, 1) := by decide +kernel
theorem dX9_cellX_24 : decode cX9_cellX 24 = .ok (.iload_n 3, 1) := by decide +kernel
theorem dX9_cellX_25 : decode cX9_cellX 25 = .ok (.bipush 64, 2) := by decide +kernel
theorem dX9_cellX_27 : decode cX9_cellX 27 = .ok (.idiv, 1) := by decide +kernel
theorem dX9_cellX_28 : decode cX9_cellX 28 = .ok (.invokestatic 123, 3) := by decide +kernel
theorem dX9_cellX_31 : decode cX9_cellX 31 = .ok (.iadd, 1) := by decide +kernel
theorem dX9_cellX_32 : decode cX9_cellX 32 = .ok (.ireturn, 1) := by decide +kernel
theorem dX9_cellY_0 : decode cX9_cellY 0 = .ok (.iload_n 3, 1) := by decide +kernel
theorem dX9_cellY_1 : decode cX9_cellY 1 = .ok (.bipush 8, 2) := by decide +kernel
theorem dX9_cellY_3 : decode cX9_cellY 3 = .ok (.idiv, 1) := by decide +kernel
theorem dX9_cellY_4 : decode cX9_cellY 4 = .ok (.bipush 8, 2) := by decide +kernel
theorem dX9_cellY_6 : decode cX9_cellY 6 = .ok (.irem, 1) := by decide +kernel
theorem dX9_cellY_7 : decode cX9_cellY 7 = .ok (.aload_n 0, 1) := by decide +kernel
theorem dX9_cellY_8 : decode cX9_cellY 8 = .ok (.getfield 19, 3) := by decide +kernel
theorem dX9_cellY_11 : decode cX9_cellY 11 = .ok (.iconst 5, 1) := by decide +kernel
theorem dX9_cellY_12 : decode cX9_cellY 12 = .ok (.iload_n 1, 1) := by decide +kernel
theorem dX9_cellY_13 : decode cX9_cellY 13 = .ok (.imul, 1) := by decide +kernel
theorem dX9_cellY_14 : decode cX9_cellY 14 = .ok (.iload_n 2, 1) := by decide +kernel
theorem dX9_cellY_15 : decode cX9_cellY 15 = .ok (.iadd, 1) := by decide +kernel
theorem dX9_cellY_16 : decode cX9_cellY 16 = .ok (.iaload, 1) := by decide +kernel
theorem dX9_cellY_17 : decode cX9_cellY 17 = .ok (.aload_n 0, 1) := by decide +kernel
theorem dX9_cellY_18 : decode cX9_cellY 18 = .ok (.getfield 22, 3) := by decide +kernel
theorem dX9_cellY_21 : decode cX9_cellY 21 = .ok (.iconst 5, 1) := by decide +kernel
theorem dX9_cellY_22 : decode cX9_cellY 22 = .ok (.iload_n 1, 1) := by decide +kernel
theorem dX9_cellY_23 : decode cX9_cellY 23 = .ok (.imul, 1) := by decide +kernel
theorem dX9_cellY_24 : decode cX9_cellY 24 = .ok (.iload_n 2, 1) := by decide +kernel
theorem dX9_cellY_25 : decode cX9_cellY 25 = .ok (.iadd, 1) := by decide +kernel
theorem dX9_cellY_26 : decode cX9_cellY 26 = .ok (.iaload, 1) := by decide +kernel
theorem dX9_cellY_27 : decode cX9_cellY 27 = .ok (.iload_n 3, 1) := by decide +kernel
theorem dX9_cellY_28 : decode cX9_cellY 28 = .ok (.bipush 64, 2) := by decide +kernel
theorem dX9_cellY_30 : decode cX9_cellY 30 = .ok (.idiv, 1) := by decide +kernel
theorem dX9_cellY_31 : decode cX9_cellY 31 = .ok (.invokestatic 127, 3) := by decide +kernel
theorem dX9_cellY_34 : decode cX9_cellY 34 = .ok (.iadd, 1) := by decide +kernel
theorem dX9_cellY_35 : decode cX9_cellY 35 = .ok (.ireturn, 1) := by decide +kernel
theorem dX9_stepX_0 : decode cX9_stepX 0 = .ok (.iload_n 0, 1) := by decide +kernel
theorem dX9_stepX_1 : decode cX9_stepX 1 = .ok (.ifCond .ne 7, 3) := by decide +kernel
theorem dX9_stepX_4 : decode cX9_stepX 4 = .ok (.iconst 1, 1) := by decide +kernel
theorem dX9_stepX_5 : decode cX9_stepX 5 = .ok (.goto 13, 3) := by decide +kernel
theorem dX9_stepX_8 : decode cX9_stepX 8 = .ok (.iload_n 0, 1) := by decide +kernel
theorem dX9_stepX_9 : decode cX9_stepX 9 = .ok (.iconst 2, 1) := by decide +kernel
theorem dX9_stepX_10 : decode cX9_stepX 10 = .ok (.if_icmp .ne 7, 3) := by decide +kernel
theorem dX9_stepX_13 : decode cX9_stepX 13 = .ok (.iconst (-1), 1) := by decide +kernel
theorem dX9_stepX_14 : decode cX9_stepX 14 = .ok (.goto 4, 3) := by decide +kernel
theorem dX9_stepX_17 : decode cX9_stepX 17 = .ok (.iconst 0, 1) := by decide +kernel
theorem dX9_stepX_18 : decode cX9_stepX 18 = .ok (.ireturn, 1) := by decide +kernel
theorem dX9_stepY_0 : decode cX9_stepY 0 = .ok (.iload_n 0, 1) := by decide +kernel
theorem dX9_stepY_1 : decode cX9_stepY 1 = .ok (.iconst 1, 1) := by decide +kernel
theorem dX9_stepY_2 : decode cX9_stepY 2 = .ok (.if_icmp .ne 7, 3) := by decide +kernel
theorem dX9_stepY_5 : decode cX9_stepY 5 = .ok (.iconst 1, 1) := by decide +kernel
theorem dX9_stepY_6 : decode cX9_stepY 6 = .ok (.goto 13, 3) := by decide +kernel
theorem dX9_stepY_9 : decode cX9_stepY 9 = .ok (.iload_n 0, 1) := by decide +kernel
theorem dX9_stepY_10 : decode cX9_stepY 10 = .ok (.iconst 3, 1) := by decide +kernel
theorem dX9_stepY_11 : decode cX9_stepY 11 = .ok (.if_icmp .ne 7, 3) := by decide +kernel
theorem dX9_stepY_14 : decode cX9_stepY 14 = .ok (.iconst (-1), 1) := by decide +kernel
theorem dX9_stepY_15 : decode cX9_stepY 15 = .ok (.goto 4, 3) := by decide +kernel
theorem dX9_stepY_18 : decode cX9_stepY 18 = .ok (.iconst 0, 1) := by decide +kernel
theorem dX9_stepY_19 : decode cX9_stepY 19 = .ok (.ireturn, 1) := by decide +kernel
theorem dX9_type_0 : decode cX9_type 0 = .ok (.aload_n 0, 1) := by decide +kernel
theorem dX9_type_1 : decode cX9_type 1 = .ok (.getfield 130, 3) := by decide +kernel
theorem dX9_type_4 : decode cX9_type 4 = .ok (.bipush 80, 2) := by decide +kernel
theorem dX9_type_6 : decode cX9_type 6 = .ok (.if_icmp .ne 6, 3) := by decide +kernel
theorem dX9_type_9 : decode cX9_type 9 = .ok (.bipush (-5), 2) := by decide +kernel
theorem dX9_type_11 : decode cX9_type 11 = .ok (.ireturn, 1) := by decide +kernel
theorem dX9_type_12 : decode cX9_type 12 = .ok (.aload_n 0, 1) := by decide +kernel
theorem dX9_type_13 : decode cX9_type 13 = .ok (.getfield 40, 3) := by decide +kernel
theorem dX9_type_16 : decode cX9_type 16 = .ok (.aload_n 0, 1) := by decide +kernel
theorem dX9_type_17 : decode cX9_type 17 = .ok (.getfield 130, 3) := by decide +kernel
theorem dX9_type_20 : decode cX9_type 20 = .ok (.iload_n 1, 1) := by decide +kernel
theorem dX9_type_21 : decode cX9_type 21 = .ok (.castore, 1) := by decide +kernel
theorem dX9_type_22 : decode cX9_type 22 = .ok (.aload_n 0, 1) := by decide +kernel
theorem dX9_type_23 : decode cX9_type 23 = .ok (.dup, 1) := by decide +kernel
theorem dX9_type_24 : decode cX9_type 24 = .ok (.getfield 130, 3) := by decide +kernel
theorem dX9_type_27 : decode cX9_type 27 = .ok (.iconst 1, 1) := by decide +kernel
theorem dX9_type_28 : decode cX9_type 28 = .ok (.iadd, 1) := by decide +kernel
theorem dX9_type_29 : decode cX9_type 29 = .ok (.putfield 130, 3) := by decide +kernel
theorem dX9_type_32 : decode cX9_type 32 = .ok (.aload_n 0, 1) := by decide +kernel
theorem dX9_type_33 : decode cX9_type 33 = .ok (.getfield 130, 3) := by decide +kernel
theorem dX9_type_36 : decode cX9_type 36 = .ok (.ireturn, 1) := by decide +kernel
theorem dX9_clearText_0 : decode cX9_clearText 0 = .ok (.aload_n 0, 1) := by decide +kernel
theorem dX9_clearText_1 : decode cX9_clearText 1 = .ok (.getfield 130, 3) := by decide +kernel
theorem dX9_clearText_4 : decode cX9_clearText 4 = .ok (.istore_n 1, 1) := by decide +kernel
theorem dX9_clearText_5 : decode cX9_clearText 5 = .ok (.aload_n 0, 1) := by decide +kernel
theorem dX9_clearText_6 : decode cX9_clearText 6 = .ok (.iconst 0, 1) := by decide +kernel
theorem dX9_clearText_7 : decode cX9_clearText 7 = .ok (.putfield 130, 3) := by decide +kernel
theorem dX9_clearText_10 : decode cX9_clearText 10 = .ok (.iload_n 1, 1) := by decide +kernel
theorem dX9_clearText_11 : decode cX9_clearText 11 = .ok (.ireturn, 1) := by decide +kernel
theorem dX9_kindBy_0 : decode cX9_kindBy 0 = .ok (.iload_n 0, 1) := by decide +kernel
theorem dX9_kindBy_1 : decode cX9_kindBy 1 = .ok (.bipush 48, 2) := by decide +kernel
theorem dX9_kindBy_3 : decode cX9_kindBy 3 = .ok (.if_icmp .lt 17, 3) := by decide +kernel
theorem dX9_kindBy_6 : decode cX9_kindBy 6 = .ok (.iload_n 0, 1) := by decide +kernel
theorem dX9_kindBy_7 : decode cX9_kindBy 7 = .ok (.bipush 51, 2) := by decide +kernel
theorem dX9_kindBy_9 : decode cX9_kindBy 9 = .ok (.if_icmp .gt 11, 3) := by decide +kernel
theorem dX9_kindBy_12 : decode cX9_kindBy 12 = .ok (.bipush 6, 2) := by decide +kernel
theorem dX9_kindBy_14 : decode cX9_kindBy 14 = .ok (.iload_n 0, 1) := by decide +kernel
theorem dX9_kindBy_15 : decode cX9_kindBy 15 = .ok (.iadd, 1) := by decide +kernel
theorem dX9_kindBy_16 : decode cX9_kindBy 16 = .ok (.bipush 48, 2) := by decide +kernel
theorem dX9_kindBy_18 : decode cX9_kindBy 18 = .ok (.isub, 1) := by decide +kernel
theorem dX9_kindBy_19 : decode cX9_kindBy 19 = .ok (.ireturn, 1) := by decide +kernel
theorem dX9_kindBy_20 : decode cX9_kindBy 20 = .ok (.iload_n 0, 1) := by decide +kernel
theorem dX9_kindBy_21 : decode cX9_kindBy 21 = .ok (.bipush 119, 2) := by decide +kernel
theorem dX9_kindBy_23 : decode cX9_kindBy 23 = .ok (.if_icmp .lt 17, 3) := by decide +kernel
theorem dX9_kindBy_26 : decode cX9_kindBy 26 = .ok (.iload_n 0, 1) := by decide +kernel
theorem dX9_kindBy_27 : decode cX9_kindBy 27 = .ok (.bipush 122, 2) := by decide +kernel
theorem dX9_kindBy_29 : decode cX9_kindBy 29 = .ok (.if_icmp .gt 11, 3) := by decide +kernel
theorem dX9_kindBy_32 : decode cX9_kindBy 32 = .ok (.bipush 10, 2) := by decide +kernel
theorem dX9_kindBy_34 : decode cX9_kindBy 34 = .ok (.iload_n 0, 1) := by decide +kernel
theorem dX9_kindBy_35 : decode cX9_kindBy 35 = .ok (.iadd, 1) := by decide +kernel
theorem dX9_kindBy_36 : decode cX9_kindBy 36 = .ok (.bipush 119, 2) := by decide +kernel
theorem dX9_kindBy_38 : decode cX9_kindBy 38 = .ok (.isub, 1) := by decide +kernel
theorem dX9_kindBy_39 : decode cX9_kindBy 39 = .ok (.ireturn, 1) := by decide +kernel
theorem dX9_kindBy_40 : decode cX9_kindBy 40 = .ok (.iload_n 0, 1) := by decide +kernel
theorem dX9_kindBy_41 : decode cX9_kindBy 41 = .ok (.bipush 46, 2) := by decide +kernel
theorem dX9_kindBy_43 : decode cX9_kindBy 43 = .ok (.if_icmp .eq 10, 3) := by decide +kernel
theorem dX9_kindBy_46 : decode cX9_kindBy 46 = .ok (.iload_n 0, 1) := by decide +kernel
theorem dX9_kindBy_47 : decode cX9_kindBy 47 = .ok (.invokestatic 133, 3) := by decide +kernel
theorem dX9_kindBy_50 : decode cX9_kindBy 50 = .ok (.ifCond .lt 7, 3) := by decide +kernel
theorem dX9_kindBy_53 : decode cX9_kindBy 53 = .ok (.iconst 0, 1) := by decide +kernel
theorem dX9_kindBy_54 : decode cX9_kindBy 54 = .ok (.goto 54, 3) := by decide +kernel
theorem dX9_kindBy_57 : decode cX9_kindBy 57 = .ok (.iload_n 0, 1) := by decide +kernel
theorem dX9_kindBy_58 : decode cX9_kindBy 58 = .ok (.bipush 35, 2) := by decide +kernel
theorem dX9_kindBy_60 : decode cX9_kindBy 60 = .ok (.if_icmp .ne 7, 3) := by decide +kernel
theorem dX9_kindBy_63 : decode cX9_kindBy 63 = .ok (.iconst 1, 1) := by decide +kernel
theorem dX9_kindBy_64 : decode cX9_kindBy 64 = .ok (.goto 44, 3) := by decide +kernel
theorem dX9_kindBy_67 : decode cX9_kindBy 67 = .ok (.iload_n 0, 1) := by decide +kernel
theorem dX9_kindBy_68 : decode cX9_kindBy 68 = .ok (.bipush 62, 2) := by decide +kernel
theorem dX9_kindBy_70 : decode cX9_kindBy 70 = .ok (.if_icmp .ne 7, 3) := by decide +kernel
theorem dX9_kindBy_73 : decode cX9_kindBy 73 = .ok (.iconst 2, 1) := by decide +kernel
theorem dX9_kindBy_74 : decode cX9_kindBy 74 = .ok (.goto 34, 3) := by decide +kernel
theorem dX9_kindBy_77 : decode cX9_kindBy 77 = .ok (.iload_n 0, 1) := by decide +kernel
theorem dX9_kindBy_78 : decode cX9_kindBy 78 = .ok (.bipush 118, 2) := by decide +kernel
theorem dX9_kindBy_80 : decode cX9_kindBy 80 = .ok (.if_icmp .ne 7, 3) := by decide +kernel
theorem dX9_kindBy_83 : decode cX9_kindBy 83 = .ok (.iconst 3, 1) := by decide +kernel
theorem dX9_kindBy_84 : decode cX9_kindBy 84 = .ok (.goto 24, 3) := by decide +kernel
theorem dX9_kindBy_87 : decode cX9_kindBy 87 = .ok (.iload_n 0, 1) := by decide +kernel
theorem dX9_kindBy_88 : decode cX9_kindBy 88 = .ok (.bipush 60, 2) := by decide +kernel
theorem dX9_kindBy_90 : decode cX9_kindBy 90 = .ok (.if_icmp .ne 7, 3) := by decide +kernel
theorem dX9_kindBy_93 : decode cX9_kindBy 93 = .ok (.iconst 4, 1) := by decide +kernel
theorem dX9_kindBy_94 : decode cX9_kindBy 94 = .ok (.goto 14, 3) := by decide +kernel
theorem dX9_kindBy_97 : decode cX9_kindBy 97 = .ok (.iload_n 0, 1) := by decide +kernel
theorem dX9_kindBy_98 : decode cX9_kindBy 98 = .ok (.bipush 94, 2) := by decide +kernel
theorem dX9_kindBy_100 : decode cX9_kindBy 100 = .ok (.if_icmp .ne 7, 3) := by decide +kernel
theorem dX9_kindBy_103 : decode cX9_kindBy 103 = .ok (.iconst 5, 1) := by decide +kernel
theorem dX9_kindBy_104 : decode cX9_kindBy 104 = .ok (.goto 4, 3) := by decide +kernel
theorem dX9_kindBy_107 : decode cX9_kindBy 107 = .ok (.iconst (-1), 1) := by decide +kernel
theorem dX9_kindBy_108 : decode cX9_kindBy 108 = .ok (.ireturn, 1) := by decide +kernel
theorem dX9_blockBy_0 : decode cX9_blockBy 0 = .ok (.iload_n 0, 1) := by decide +kernel
theorem dX9_blockBy_1 : decode cX9_blockBy 1 = .ok (.bipush 97, 2) := by decide +kernel
theorem dX9_blockBy_3 : decode cX9_blockBy 3 = .ok (.if_icmp .lt 16, 3) := by decide +kernel
theorem dX9_blockBy_6 : decode cX9_blockBy 6 = .ok (.iload_n 0, 1) := by decide +kernel
theorem dX9_blockBy_7 : decode cX9_blockBy 7 = .ok (.bipush 101, 2) := by decide +kernel
theorem dX9_blockBy_9 : decode cX9_blockBy 9 = .ok (.if_icmp .gt 10, 3) := by decide +kernel
theorem dX9_blockBy_12 : decode cX9_blockBy 12 = .ok (.iload_n 0, 1) := by decide +kernel
theorem dX9_blockBy_13 : decode cX9_blockBy 13 = .ok (.bipush 97, 2) := by decide +kernel
theorem dX9_blockBy_15 : decode cX9_blockBy 15 = .ok (.isub, 1) := by decide +kernel
theorem dX9_blockBy_16 : decode cX9_blockBy 16 = .ok (.goto 23, 3) := by decide +kernel
theorem dX9_blockBy_19 : decode cX9_blockBy 19 = .ok (.iload_n 0, 1) := by decide +kernel
theorem dX9_blockBy_20 : decode cX9_blockBy 20 = .ok (.bipush 65, 2) := by decide +kernel
theorem dX9_blockBy_22 : decode cX9_blockBy 22 = .ok (.if_icmp .lt 16, 3) := by decide +kernel
theorem dX9_blockBy_25 : decode cX9_blockBy 25 = .ok (.iload_n 0, 1) := by decide +kernel
theorem dX9_blockBy_26 : decode cX9_blockBy 26 = .ok (.bipush 69, 2) := by decide +kernel
theorem dX9_blockBy_28 : decode cX9_blockBy 28 = .ok (.if_icmp .gt 10, 3) := by decide +kernel
theorem dX9_blockBy_31 : decode cX9_blockBy 31 = .ok (.iload_n 0, 1) := by decide +kernel
theorem dX9_blockBy_32 : decode cX9_blockBy 32 = .ok (.bipush 65, 2) := by decide +kernel
theorem dX9_blockBy_34 : decode cX9_blockBy 34 = .ok (.isub, 1) := by decide +kernel
theorem dX9_blockBy_35 : decode cX9_blockBy 35 = .ok (.goto 4, 3) := by decide +kernel
theorem dX9_blockBy_38 : decode cX9_blockBy 38 = .ok (.iconst (-1), 1) := by decide +kernel
theorem dX9_blockBy_39 : decode cX9_blockBy 39 = .ok (.ireturn, 1) := by decide +kernel
theorem dX9_readsCell_0 : decode cX9_readsCell 0 = .ok (.aload_n 0, 1) := by decide +kernel
theorem dX9_readsCell_1 : decode cX9_readsCell 1 = .ok (.getfield 40, 3) := by decide +kernel
theorem dX9_readsCell_4 : decode cX9_readsCell 4 = .ok (.iload_n 3, 1) := by decide +kernel
theorem dX9_readsCell_5 : decode cX9_readsCell 5 = .ok (.caload, 1) := by decide +kernel
theorem dX9_readsCell_6 : decode cX9_readsCell 6 = .ok (.istore 4, 2) := by decide +kernel
theorem dX9_readsCell_8 : decode cX9_readsCell 8 = .ok (.iload 4, 2) := by decide +kernel
theorem dX9_readsCell_10 : decode cX9_readsCell 10 = .ok (.invokestatic 137, 3) := by decide +kernel
theorem dX9_readsCell_13 : decode cX9_readsCell 13 = .ok (.istore 5, 2) := by decide +kernel
theorem dX9_readsCell_15 : decode cX9_readsCell 15 = .ok (.iload 5, 2) := by decide +kernel
theorem dX9_readsCell_17 : decode cX9_readsCell 17 = .ok (.ifCond .ge 5, 3) := by decide +kernel
theorem dX9_readsCell_20 : decode cX9_readsCell 20 = .ok (.iconst 0, 1) := by decide +kernel
theorem dX9_readsCell_21 : decode cX9_readsCell 21 = .ok (.ireturn, 1) := by decide +kernel
theorem dX9_readsCell_22 : decode cX9_readsCell 22 = .ok (.iload 4, 2) := by decide +kernel
theorem dX9_readsCell_24 : decode cX9_readsCell 24 = .ok (.invokestatic 133, 3) := by decide +kernel
theorem dX9_readsCell_27 : decode cX9_readsCell 27 = .ok (.istore 6, 2) := by decide +kernel
theorem dX9_readsCell_29 : decode cX9_readsCell 29 = .ok (.aload_n 0, 1) := by decide +kernel
theorem dX9_readsCell_30 : decode cX9_readsCell 30 = .ok (.getfield 44, 3) := by decide +kernel
theorem dX9_readsCell_33 : decode cX9_readsCell 33 = .ok (.bipush 8, 2) := by decide +kernel
theorem dX9_readsCell_35 : decode cX9_readsCell 35 = .ok (.iload_n 2, 1) := by decide +kernel
theorem dX9_readsCell_36 : decode cX9_readsCell 36 = .ok (.imul, 1) := by decide +kernel
theorem dX9_readsCell_37 : decode cX9_readsCell 37 = .ok (.iload_n 1, 1) := by decide +kernel
theorem dX9_readsCell_38 : decode cX9_readsCell 38 = .ok (.iadd, 1) := by decide +kernel
theorem dX9_readsCell_39 : decode cX9_readsCell 39 = .ok (.iload 5, 2) := by decide +kernel
theorem dX9_readsCell_41 : decode cX9_readsCell 41 = .ok (.iastore, 1) := by decide +kernel
theorem dX9_readsCell_42 : decode cX9_readsCell 42 = .ok (.iload 6, 2) := by decide +kernel
theorem dX9_readsCell_44 : decode cX9_readsCell 44 = .ok (.ifCond .ge 5, 3) := by decide +kernel
theorem dX9_readsCell_47 : decode cX9_readsCell 47 = .ok (.iconst 1, 1) := by decide +kernel
theorem dX9_readsCell_48 : decode cX9_readsCell 48 = .ok (.ireturn, 1) := by decide +kernel
theorem dX9_readsCell_49 : decode cX9_readsCell 49 = .ok (.iload 4, 2) := by decide +kernel
theorem dX9_readsCell_51 : decode cX9_readsCell 51 = .ok (.bipush 69, 2) := by decide +kernel
theorem dX9_readsCell_53 : decode cX9_readsCell 53 = .ok (.if_icmp .gt 7, 3) := by decide +kernel
theorem dX9_readsCell_56 : decode cX9_readsCell 56 = .ok (.iconst 1, 1) := by decide +kernel
theorem dX9_readsCell_57 : decode cX9_readsCell 57 = .ok (.goto 4, 3) := by decide +kernel
theorem dX9_readsCell_60 : decode cX9_readsCell 60 = .ok (.iconst 0, 1) := by decide +kernel
theorem dX9_readsCell_61 : decode cX9_readsCell 61 = .ok (.istore 7, 2) := by decide +kernel
theorem dX9_readsCell_63 : decode cX9_readsCell 63 = .ok (.aload_n 0, 1) := by decide +kernel
theorem dX9_readsCell_64 : decode cX9_readsCell 64 = .ok (.getfield 47, 3) := by decide +kernel
theorem dX9_readsCell_67 : decode cX9_readsCell 67 = .ok (.iload 6, 2) := by decide +kernel
theorem dX9_readsCell_69 : decode cX9_readsCell 69 = .ok (.iaload, 1) := by decide +kernel
theorem dX9_readsCell_70 : decode cX9_readsCell 70 = .ok (.iconst 5, 1) := by decide +kernel
theorem dX9_readsCell_71 : decode cX9_readsCell 71 = .ok (.if_icmp .eq 18, 3) := by decide +kernel
theorem dX9_readsCell_74 : decode cX9_readsCell 74 = .ok (.iload 7, 2) := by decide +kernel
theorem dX9_readsCell_76 : decode cX9_readsCell 76 = .ok (.ifCond .eq 15, 3) := by decide +kernel
theorem dX9_readsCell_79 : decode cX9_readsCell 79 = .ok (.aload_n 0, 1) := by decide +kernel
theorem dX9_readsCell_80 : decode cX9_readsCell 80 = .ok (.getfield 59, 3) := by decide +kernel
theorem dX9_readsCell_83 : decode cX9_readsCell 83 = .ok (.iload 6, 2) := by decide +kernel
theorem dX9_readsCell_85 : decode cX9_readsCell 85 = .ok (.iaload, 1) := by decide +kernel
theorem dX9_readsCell_86 : decode cX9_readsCell 86 = .ok (.ifCond .lt 5, 3) := by decide +kernel
theorem dX9_readsCell_89 : decode cX9_readsCell 89 = .ok (.iconst 0, 1) := by decide +kernel
theorem dX9_readsCell_90 : decode cX9_readsCell 90 = .ok (.ireturn, 1) := by decide +kernel
theorem dX9_readsCell_91 : decode cX9_readsCell 91 = .ok (.aload_n 0, 1) := by decide +kernel
theorem dX9_readsCell_92 : decode cX9_readsCell 92 = .ok (.getfield 56, 3) := by decide +kernel
theorem dX9_readsCell_95 : decode cX9_readsCell 95 = .ok (.iload 6, 2) := by decide +kernel
theorem dX9_readsCell_97 : decode cX9_readsCell 97 = .ok (.aload_n 0, 1) := by decide +kernel
theorem dX9_readsCell_98 : decode cX9_readsCell 98 = .ok (.getfield 47, 3) := by decide +kernel
theorem dX9_readsCell_101 : decode cX9_readsCell 101 = .ok (.iload 6, 2) := by decide +kernel
theorem dX9_readsCell_103 : decode cX9_readsCell 103 = .ok (.iaload, 1) := by decide +kernel
theorem dX9_readsCell_104 : decode cX9_readsCell 104 = .ok (.ifCond .ne 7, 3) := by decide +kernel
theorem dX9_readsCell_107 : decode cX9_readsCell 107 = .ok (.iload_n 3, 1) := by decide +kernel
theorem dX9_readsCell_108 : decode cX9_readsCell 108 = .ok (.goto 10, 3) := by decide +kernel
theorem dX9_readsCell_111 : decode cX9_readsCell 111 = .ok (.aload_n 0, 1) := by decide +kernel
theorem dX9_readsCell_112 : decode cX9_readsCell 112 = .ok (.getfield 56, 3) := by decide +kernel
theorem dX9_readsCell_115 : decode cX9_readsCell 115 = .ok (.iload 6, 2) := by decide +kernel
theorem dX9_readsCell_117 : decode cX9_readsCell 117 = .ok (.iaload, 1) := by decide +kernel
theorem dX9_readsCell_118 : decode cX9_readsCell 118 = .ok (.iastore, 1) := by decide +kernel
theorem dX9_readsCell_119 : decode cX9_readsCell 119 = .ok (.aload_n 0, 1) := by decide +kernel
theorem dX9_readsCell_120 : decode cX9_readsCell 120 = .ok (.getfield 50, 3) := by decide +kernel
theorem dX9_readsCell_123 : decode cX9_readsCell 123 = .ok (.iconst 5, 1) := by decide +kernel
theorem dX9_readsCell_124 : decode cX9_readsCell 124 = .ok (.iload 6, 2) := by decide +kernel
theorem dX9_readsCell_126 : decode cX9_readsCell 126 = .ok (.imul, 1) := by decide +kernel
theorem dX9_readsCell_127 : decode cX9_readsCell 127 = .ok (.aload_n 0, 1) := by decide +kernel
theorem dX9_readsCell_128 : decode cX9_readsCell 128 = .ok (.getfield 47, 3) := by decide +kernel
theorem dX9_readsCell_131 : decode cX9_readsCell 131 = .ok (.iload 6, 2) := by decide +kernel
theorem dX9_readsCell_133 : decode cX9_readsCell 133 = .ok (.iaload, 1) := by decide +kernel
theorem dX9_readsCell_134 : decode cX9_readsCell 134 = .ok (.iadd, 1) := by decide +kernel
theorem dX9_readsCell_135 : decode cX9_readsCell 135 = .ok (.iload_n 1, 1) := by decide +kernel
theorem dX9_readsCell_136 : decode cX9_readsCell 136 = .ok (.iastore, 1) := by decide +kernel
theorem dX9_readsCell_137 : decode cX9_readsCell 137 = .ok (.aload_n 0, 1) := by decide +kernel
theorem dX9_readsCell_138 : decode cX9_readsCell 138 = .ok (.getfield 53, 3) := by decide +kernel
theorem dX9_readsCell_141 : decode cX9_readsCell 141 = .ok (.iconst 5, 1) := by decide +kernel
theorem dX9_readsCell_142 : decode cX9_readsCell 142 = .ok (.iload 6, 2) := by decide +kernel
theorem dX9_readsCell_144 : decode cX9_readsCell 144 = .ok (.imul, 1) := by decide +kernel
theorem dX9_readsCell_145 : decode cX9_readsCell 145 = .ok (.aload_n 0, 1) := by decide +kernel
theorem dX9_readsCell_146 : decode cX9_readsCell 146 = .ok (.getfield 47, 3) := by decide +kernel
theorem dX9_readsCell_149 : decode cX9_readsCell 149 = .ok (.iload 6, 2) := by decide +kernel
theorem dX9_readsCell_151 : decode cX9_readsCell 151 = .ok (.iaload, 1) := by decide +kernel
theorem dX9_readsCell_152 : decode cX9_readsCell 152 = .ok (.iadd, 1) := by decide +kernel
theorem dX9_readsCell_153 : decode cX9_readsCell 153 = .ok (.iload_n 2, 1) := by decide +kernel
theorem dX9_readsCell_154 : decode cX9_readsCell 154 = .ok (.iastore, 1) := by decide +kernel
theorem dX9_readsCell_155 : decode cX9_readsCell 155 = .ok (.aload_n 0, 1) := by decide +kernel
theorem dX9_readsCell_156 : decode cX9_readsCell 156 = .ok (.getfield 47, 3) := by decide +kernel
theorem dX9_readsCell_159 : decode cX9_readsCell 159 = .ok (.iload 6, 2) := by decide +kernel
theorem dX9_readsCell_161 : decode cX9_readsCell 161 = .ok (.dup2, 1) := by decide +kernel
theorem dX9_readsCell_162 : decode cX9_readsCell 162 = .ok (.iaload, 1) := by decide +kernel
theorem dX9_readsCell_163 : decode cX9_readsCell 163 = .ok (.iconst 1, 1) := by decide +kernel
theorem dX9_readsCell_164 : decode cX9_readsCell 164 = .ok (.iadd, 1) := by decide +kernel
theorem dX9_readsCell_165 : decode cX9_readsCell 165 = .ok (.iastore, 1) := by decide +kernel
theorem dX9_readsCell_166 : decode cX9_readsCell 166 = .ok (.aload_n 0, 1) := by decide +kernel
theorem dX9_readsCell_167 : decode cX9_readsCell 167 = .ok (.getfield 59, 3) := by decide +kernel
theorem dX9_readsCell_170 : decode cX9_readsCell 170 = .ok (.iload 6, 2) := by decide +kernel
theorem dX9_readsCell_172 : decode cX9_readsCell 172 = .ok (.iload 7, 2) := by decide +kernel
theorem dX9_readsCell_174 : decode cX9_readsCell 174 = .ok (.ifCond .eq 7, 3) := by decide +kernel
theorem dX9_readsCell_177 : decode cX9_readsCell 177 = .ok (.iload_n 1, 1) := by decide +kernel
theorem dX9_readsCell_178 : decode cX9_readsCell 178 = .ok (.goto 10, 3) := by decide +kernel
theorem dX9_readsCell_181 : decode cX9_readsCell 181 = .ok (.aload_n 0, 1) := by decide +kernel
theorem dX9_readsCell_182 : decode cX9_readsCell 182 = .ok (.getfield 59, 3) := by decide +kernel
theorem dX9_readsCell_185 : decode cX9_readsCell 185 = .ok (.iload 6, 2) := by decide +kernel
theorem dX9_readsCell_187 : decode cX9_readsCell 187 = .ok (.iaload, 1) := by decide +kernel
theorem dX9_readsCell_188 : decode cX9_readsCell 188 = .ok (.iastore, 1) := by decide +kernel
theorem dX9_readsCell_189 : decode cX9_readsCell 189 = .ok (.aload_n 0, 1) := by decide +kernel
theorem dX9_readsCell_190 : decode cX9_readsCell 190 = .ok (.getfield 62, 3) := by decide +kernel
theorem dX9_readsCell_193 : decode cX9_readsCell 193 = .ok (.iload 6, 2) := by decide +kernel
theorem dX9_readsCell_195 : decode cX9_readsCell 195 = .ok (.iload 7, 2) := by decide +kernel
theorem dX9_readsCell_197 : decode cX9_readsCell 197 = .ok (.ifCond .eq 7, 3) := by decide +kernel
theorem dX9_readsCell_200 : decode cX9_readsCell 200 = .ok (.iload_n 2, 1) := by decide +kernel
theorem dX9_readsCell_201 : decode cX9_readsCell 201 = .ok (.goto 10, 3) := by decide +kernel
theorem dX9_readsCell_204 : decode cX9_readsCell 204 = .ok (.aload_n 0, 1) := by decide +kernel
theorem dX9_readsCell_205 : decode cX9_readsCell 205 = .ok (.getfield 62, 3) := by decide +kernel
theorem dX9_readsCell_208 : decode cX9_readsCell 208 = .ok (.iload 6, 2) := by decide +kernel
theorem dX9_readsCell_210 : decode cX9_readsCell 210 = .ok (.iaload, 1) := by decide +kernel
theorem dX9_readsCell_211 : decode cX9_readsCell 211 = .ok (.iastore, 1) := by decide +kernel
theorem dX9_readsCell_212 : decode cX9_readsCell 212 = .ok (.iconst 1, 1) := by decide +kernel
theorem dX9_readsCell_213 : decode cX9_readsCell 213 = .ok (.ireturn, 1) := by decide +kernel
theorem dX9_findFault_0 : decode cX9_findFault 0 = .ok (.iconst 0, 1) := by decide +kernel
theorem dX9_findFault_1 : decode cX9_findFault 1 = .ok (.istore_n 1, 1) := by decide +kernel
theorem dX9_findFault_2 : decode cX9_findFault 2 = .ok (.iconst 0, 1) := by decide +kernel
theorem dX9_findFault_3 : decode cX9_findFault 3 = .ok (.istore_n 2, 1) := by decide +kernel
theorem dX9_findFault_4 : decode cX9_findFault 4 = .ok (.aload_n 0, 1) := by decide +kernel
theorem dX9_findFault_5 : decode cX9_findFault 5 = .ok (.iconst 0, 1) := by decide +kernel
theorem dX9_findFault_6 : decode cX9_findFault 6 = .ok (.putfield 140, 3) := by decide +kernel
theorem dX9_findFault_9 : decode cX9_findFault 9 = .ok (.iconst 0, 1) := by decide +kernel
theorem dX9_findFault_10 : decode cX9_findFault 10 = .ok (.istore_n 3, 1) := by decide +kernel
theorem dX9_findFault_11 : decode cX9_findFault 11 = .ok (.iload_n 3, 1) := by decide +kernel
theorem dX9_findFault_12 : decode cX9_findFault 12 = .ok (.iconst 5, 1) := by decide +kernel
theorem dX9_findFault_13 : decode cX9_findFault 13 = .ok (.if_icmp .ge 23, 3) := by decide +kernel
theorem dX9_findFault_16 : decode cX9_findFault 16 = .ok (.aload_n 0, 1) := by decide +kernel
theorem dX9_findFault_17 : decode cX9_findFault 17 = .ok (.getfield 47, 3) := by decide +kernel
theorem dX9_findFault_20 : decode cX9_findFault 20 = .ok (.iload_n 3, 1) := by decide +kernel
theorem dX9_findFault_21 : decode cX9_findFault 21 = .ok (.iconst 0, 1) := by decide +kernel
theorem dX9_findFault_22 : decode cX9_findFault 22 = .ok (.iastore, 1) := by decide +kernel
theorem dX9_findFault_23 : decode cX9_findFault 23 = .ok (.aload_n 0, 1) := by decide +kernel
theorem dX9_findFault_24 : decode cX9_findFault 24 = .ok (.getfield 59, 3) := by decide +kernel
theorem dX9_findFault_27 : decode cX9_findFault 27 = .ok (.iload_n 3, 1) := by decide +kernel
theorem dX9_findFault_28 : decode cX9_findFault 28 = .ok (.iconst (-1), 1) := by decide +kernel
theorem dX9_findFault_29 : decode cX9_findFault 29 = .ok (.iastore, 1) := by decide +kernel
theorem dX9_findFault_30 : decode cX9_findFault 30 = .ok (.iinc 3 1, 3) := by decide +kernel
theorem dX9_findFault_33 : decode cX9_findFault 33 = .ok (.goto (-22), 3) := by decide +kernel
theorem dX9_findFault_36 : decode cX9_findFault 36 = .ok (.iconst 0, 1) := by decide +kernel
theorem dX9_findFault_37 : decode cX9_findFault 37 = .ok (.istore_n 3, 1) := by decide +kernel
theorem dX9_findFault_38 : decode cX9_findFault 38 = .ok (.iload_n 3, 1) := by decide +kernel
theorem dX9_findFault_39 : decode cX9_findFault 39 = .ok (.aload_n 0, 1) := by decide +kernel
theorem dX9_findFault_40 : decode cX9_findFault 40 = .ok (.getfield 130, 3) := by decide +kernel
theorem dX9_findFault_43 : decode cX9_findFault 43 = .ok (.if_icmp .ge 110, 3) := by decide +kernel
theorem dX9_findFault_46 : decode cX9_findFault 46 = .ok (.aload_n 0, 1) := by decide +kernel
theorem dX9_findFault_47 : decode cX9_findFault 47 = .ok (.getfield 40, 3) := by decide +kernel
theorem dX9_findFault_50 : decode cX9_findFault 50 = .ok (.iload_n 3, 1) := by decide +kernel
theorem dX9_findFault_51 : decode cX9_findFault 51 = .ok (.caload, 1) := by decide +kernel
theorem dX9_findFault_52 : decode cX9_findFault 52 = .ok (.bipush 47, 2) := by decide +kernel
theorem dX9_findFault_54 : decode cX9_findFault 54 = .ok (.if_icmp .ne 61, 3) := by decide +kernel
theorem dX9_findFault_57 : decode cX9_findFault 57 = .ok (.iload_n 2, 1) := by decide +kernel
theorem dX9_findFault_58 : decode cX9_findFault 58 = .ok (.ifCond .ne 16, 3) := by decide +kernel
theorem dX9_findFault_61 : decode cX9_findFault 61 = .ok (.iload_n 1, 1) := by decide +kernel
theorem dX9_findFault_62 : decode cX9_findFault 62 = .ok (.iconst 3, 1) := by decide +kernel
theorem dX9_findFault_63 : decode cX9_findFault 63 = .ok (.if_icmp .lt 7, 3) := by decide +kernel
theorem dX9_findFault_66 : decode cX9_findFault 66 = .ok (.iconst 1, 1) := by decide +kernel
theorem dX9_findFault_67 : decode cX9_findFault 67 = .ok (.goto 20, 3) := by decide +kernel
theorem dX9_findFault_70 : decode cX9_findFault 70 = .ok (.iconst 0, 1) := by decide +kernel
theorem dX9_findFault_71 : decode cX9_findFault 71 = .ok (.goto 16, 3) := by decide +kernel
theorem dX9_findFault_74 : decode cX9_findFault 74 = .ok (.iload_n 1, 1) := by decide +kernel
theorem dX9_findFault_75 : decode cX9_findFault 75 = .ok (.aload_n 0, 1) := by decide +kernel
theorem dX9_findFault_76 : decode cX9_findFault 76 = .ok (.getfield 140, 3) := by decide +kernel
theorem dX9_findFault_79 : decode cX9_findFault 79 = .ok (.if_icmp .ne 7, 3) := by decide +kernel
theorem dX9_findFault_82 : decode cX9_findFault 82 = .ok (.iconst 1, 1) := by decide +kernel
theorem dX9_findFault_83 : decode cX9_findFault 83 = .ok (.goto 4, 3) := by decide +kernel
theorem dX9_findFault_86 : decode cX9_findFault 86 = .ok (.iconst 0, 1) := by decide +kernel
theorem dX9_findFault_87 : decode cX9_findFault 87 = .ok (.istore 4, 2) := by decide +kernel
theorem dX9_findFault_89 : decode cX9_findFault 89 = .ok (.iload 4, 2) := by decide +kernel
theorem dX9_findFault_91 : decode cX9_findFault 91 = .ok (.ifCond .eq 9, 3) := by decide +kernel
theorem dX9_findFault_94 : decode cX9_findFault 94 = .ok (.iload_n 2, 1) := by decide +kernel
theorem dX9_findFault_95 : decode cX9_findFault 95 = .ok (.bipush 7, 2) := by decide +kernel
theorem dX9_findFault_97 : decode cX9_findFault 97 = .ok (.if_icmp .ne 5, 3) := by decide +kernel
theorem dX9_findFault_100 : decode cX9_findFault 100 = .ok (.iload_n 3, 1) := by decide +kernel
theorem dX9_findFault_101 : decode cX9_findFault 101 = .ok (.ireturn, 1) := by decide +kernel
theorem dX9_findFault_102 : decode cX9_findFault 102 = .ok (.aload_n 0, 1) := by decide +kernel
theorem dX9_findFault_103 : decode cX9_findFault 103 = .ok (.iload_n 1, 1) := by decide +kernel
theorem dX9_findFault_104 : decode cX9_findFault 104 = .ok (.putfield 140, 3) := by decide +kernel
theorem dX9_findFault_107 : decode cX9_findFault 107 = .ok (.iconst 0, 1) := by decide +kernel
theorem dX9_findFault_108 : decode cX9_findFault 108 = .ok (.istore_n 1, 1) := by decide +kernel
theorem dX9_findFault_109 : decode cX9_findFault 109 = .ok (.iinc 2 1, 3) := by decide +kernel
theorem dX9_findFault_112 : decode cX9_findFault 112 = .ok (.goto 35, 3) := by decide +kernel
theorem dX9_findFault_115 : decode cX9_findFault 115 = .ok (.iload_n 1, 1) := by decide +kernel
theorem dX9_findFault_116 : decode cX9_findFault 116 = .ok (.iload_n 2, 1) := by decide +kernel
theorem dX9_findFault_117 : decode cX9_findFault 117 = .ok (.ifCond .ne 8, 3) := by decide +kernel
theorem dX9_findFault_120 : decode cX9_findFault 120 = .ok (.bipush 8, 2) := by decide +kernel
theorem dX9_findFault_122 : decode cX9_findFault 122 = .ok (.goto 7, 3) := by decide +kernel
theorem dX9_findFault_125 : decode cX9_findFault 125 = .ok (.aload_n 0, 1) := by decide +kernel
theorem dX9_findFault_126 : decode cX9_findFault 126 = .ok (.getfield 140, 3) := by decide +kernel
theorem dX9_findFault_129 : decode cX9_findFault 129 = .ok (.if_icmp .eq 13, 3) := by decide +kernel
theorem dX9_findFault_132 : decode cX9_findFault 132 = .ok (.aload_n 0, 1) := by decide +kernel
theorem dX9_findFault_133 : decode cX9_findFault 133 = .ok (.iload_n 1, 1) := by decide +kernel
theorem dX9_findFault_134 : decode cX9_findFault 134 = .ok (.iload_n 2, 1) := by decide +kernel
theorem dX9_findFault_135 : decode cX9_findFault 135 = .ok (.iload_n 3, 1) := by decide +kernel
theorem dX9_findFault_136 : decode cX9_findFault 136 = .ok (.invokevirtual 143, 3) := by decide +kernel
theorem dX9_findFault_139 : decode cX9_findFault 139 = .ok (.ifCond .ne 5, 3) := by decide +kernel
theorem dX9_findFault_142 : decode cX9_findFault 142 = .ok (.iload_n 3, 1) := by decide +kernel
theorem dX9_findFault_143 : decode cX9_findFault 143 = .ok (.ireturn, 1) := by decide +kernel
theorem dX9_findFault_144 : decode cX9_findFault 144 = .ok (.iinc 1 1, 3) := by decide +kernel
theorem dX9_findFault_147 : decode cX9_findFault 147 = .ok (.iinc 3 1, 3) := by decide +kernel
theorem dX9_findFault_150 : decode cX9_findFault 150 = .ok (.goto (-112), 3) := by decide +kernel
theorem dX9_findFault_153 : decode cX9_findFault 153 = .ok (.aload_n 0, 1) := by decide +kernel
theorem dX9_findFault_154 : decode cX9_findFault 154 = .ok (.iload_n 2, 1) := by decide +kernel
theorem dX9_findFault_155 : decode cX9_findFault 155 = .ok (.iconst 1, 1) := by decide +kernel
theorem dX9_findFault_156 : decode cX9_findFault 156 = .ok (.iadd, 1) := by decide +kernel
theorem dX9_findFault_157 : decode cX9_findFault 157 = .ok (.putfield 146, 3) := by decide +kernel
theorem dX9_findFault_160 : decode cX9_findFault 160 = .ok (.iload_n 2, 1) := by decide +kernel
theorem dX9_findFault_161 : decode cX9_findFault 161 = .ok (.iconst 2, 1) := by decide +kernel
theorem dX9_findFault_162 : decode cX9_findFault 162 = .ok (.if_icmp .lt 11, 3) := by decide +kernel
theorem dX9_findFault_165 : decode cX9_findFault 165 = .ok (.iload_n 1, 1) := by decide +kernel
theorem dX9_findFault_166 : decode cX9_findFault 166 = .ok (.aload_n 0, 1) := by decide +kernel
theorem dX9_findFault_167 : decode cX9_findFault 167 = .ok (.getfield 140, 3) := by decide +kernel
theorem dX9_findFault_170 : decode cX9_findFault 170 = .ok (.if_icmp .ge 8, 3) := by decide +kernel
theorem dX9_findFault_173 : decode cX9_findFault 173 = .ok (.aload_n 0, 1) := by decide +kernel
theorem dX9_findFault_174 : decode cX9_findFault 174 = .ok (.getfield 130, 3) := by decide +kernel
theorem dX9_findFault_177 : decode cX9_findFault 177 = .ok (.ireturn, 1) := by decide +kernel
theorem dX9_findFault_178 : decode cX9_findFault 178 = .ok (.iconst (-1), 1) := by decide +kernel
theorem dX9_findFault_179 : decode cX9_findFault 179 = .ok (.istore_n 3, 1) := by decide +kernel
theorem dX9_findFault_180 : decode cX9_findFault 180 = .ok (.iconst 0, 1) := by decide +kernel
theorem dX9_findFault_181 : decode cX9_findFault 181 = .ok (.istore 4, 2) := by decide +kernel
theorem dX9_findFault_183 : decode cX9_findFault 183 = .ok (.iload 4, 2) := by decide +kernel
theorem dX9_findFault_185 : decode cX9_findFault 185 = .ok (.iconst 5, 1) := by decide +kernel
theorem dX9_findFault_186 : decode cX9_findFault 186 = .ok (.if_icmp .ge 68, 3) := by decide +kernel
theorem dX9_findFault_189 : decode cX9_findFault 189 = .ok (.aload_n 0, 1) := by decide +kernel
theorem dX9_findFault_190 : decode cX9_findFault 190 = .ok (.getfield 47, 3) := by decide +kernel
theorem dX9_findFault_193 : decode cX9_findFault 193 = .ok (.iload 4, 2) := by decide +kernel
theorem dX9_findFault_195 : decode cX9_findFault 195 = .ok (.iaload, 1) := by decide +kernel
theorem dX9_findFault_196 : decode cX9_findFault 196 = .ok (.ifCond .le 17, 3) := by decide +kernel
theorem dX9_findFault_199 : decode cX9_findFault 199 = .ok (.aload_n 0, 1) := by decide +kernel
theorem dX9_findFault_200 : decode cX9_findFault 200 = .ok (.getfield 59, 3) := by decide +kernel
theorem dX9_findFault_203 : decode cX9_findFault 203 = .ok (.iload 4, 2) := by decide +kernel
theorem dX9_findFault_205 : decode cX9_findFault 205 = .ok (.iaload, 1) := by decide +kernel
theorem dX9_findFault_206 : decode cX9_findFault 206 = .ok (.ifCond .ge 7, 3) := by decide +kernel
theorem dX9_findFault_209 : decode cX9_findFault 209 = .ok (.iconst 1, 1) := by decide +kernel
theorem dX9_findFault_210 : decode cX9_findFault 210 = .ok (.goto 4, 3) := by decide +kernel
theorem dX9_findFault_213 : decode cX9_findFault 213 = .ok (.iconst 0, 1) := by decide +kernel
theorem dX9_findFault_214 : decode cX9_findFault 214 = .ok (.istore 5, 2) := by decide +kernel
theorem dX9_findFault_216 : decode cX9_findFault 216 = .ok (.iload 5, 2) := by decide +kernel
theorem dX9_findFault_218 : decode cX9_findFault 218 = .ok (.ifCond .eq 28, 3) := by decide +kernel
theorem dX9_findFault_221 : decode cX9_findFault 221 = .ok (.iload_n 3, 1) := by decide +kernel
theorem dX9_findFault_222 : decode cX9_findFault 222 = .ok (.ifCond .lt 14, 3) := by decide +kernel
theorem dX9_findFault_225 : decode cX9_findFault 225 = .ok (.aload_n 0, 1) := by decide +kernel
theorem dX9_findFault_226 : decode cX9_findFault 226 = .ok (.getfield 56, 3) := by decide +kernel
theorem dX9_findFault_229 : decode cX9_findFault 229 = .ok (.iload 4, 2) := by decide +kernel
theorem dX9_findFault_231 : decode cX9_findFault 231 = .ok (.iaload, 1) := by decide +kernel
theorem dX9_findFault_232 : decode cX9_findFault 232 = .ok (.iload_n 3, 1) := by decide +kernel
theorem dX9_findFault_233 : decode cX9_findFault 233 = .ok (.if_icmp .ge 13, 3) := by decide +kernel
theorem dX9_findFault_236 : decode cX9_findFault 236 = .ok (.aload_n 0, 1) := by decide +kernel
theorem dX9_findFault_237 : decode cX9_findFault 237 = .ok (.getfield 56, 3) := by decide +kernel
theorem dX9_findFault_240 : decode cX9_findFault 240 = .ok (.iload 4, 2) := by decide +kernel
theorem dX9_findFault_242 : decode cX9_findFault 242 = .ok (.iaload, 1) := by decide +kernel
theorem dX9_findFault_243 : decode cX9_findFault 243 = .ok (.goto 4, 3) := by decide +kernel
theorem dX9_findFault_246 : decode cX9_findFault 246 = .ok (.iload_n 3, 1) := by decide +kernel
theorem dX9_findFault_247 : decode cX9_findFault 247 = .ok (.istore_n 3, 1) := by decide +kernel
theorem dX9_findFault_248 : decode cX9_findFault 248 = .ok (.iinc 4 1, 3) := by decide +kernel
theorem dX9_findFault_251 : decode cX9_findFault 251 = .ok (.goto (-68), 3) := by decide +kernel
theorem dX9_findFault_254 : decode cX9_findFault 254 = .ok (.iload_n 3, 1) := by decide +kernel
theorem dX9_findFault_255 : decode cX9_findFault 255 = .ok (.ireturn, 1) := by decide +kernel
theorem dX9_readLevel_0 : decode cX9_readLevel 0 = .ok (.aload_n 0, 1) := by decide +kernel
theorem dX9_readLevel_1 : decode cX9_readLevel 1 = .ok (.invokevirtual 149, 3) := by decide +kernel
theorem dX9_readLevel_4 : decode cX9_readLevel 4 = .ok (.istore_n 1, 1) := by decide +kernel
theorem dX9_readLevel_5 : decode cX9_readLevel 5 = .ok (.iload_n 1, 1) := by decide +kernel
theorem dX9_readLevel_6 : decode cX9_readLevel 6 = .ok (.ifCond .lt 8, 3) := by decide +kernel
theorem dX9_readLevel_9 : decode cX9_readLevel 9 = .ok (.bipush (-100), 2) := by decide +kernel
theorem dX9_readLevel_11 : decode cX9_readLevel 11 = .ok (.iload_n 1, 1) := by decide +kernel
theorem dX9_readLevel_12 : decode cX9_readLevel 12 = .ok (.isub, 1) := by decide +kernel
theorem dX9_readLevel_13 : decode cX9_readLevel 13 = .ok (.ireturn, 1) := by decide +kernel
theorem dX9_readLevel_14 : decode cX9_readLevel 14 = .ok (.aload_n 0, 1) := by decide +kernel
theorem dX9_readLevel_15 : decode cX9_readLevel 15 = .ok (.aload_n 0, 1) := by decide +kernel
theorem dX9_readLevel_16 : decode cX9_readLevel 16 = .ok (.getfield 140, 3) := by decide +kernel
theorem dX9_readLevel_19 : decode cX9_readLevel 19 = .ok (.putfield 109, 3) := by decide +kernel
theorem dX9_readLevel_22 : decode cX9_readLevel 22 = .ok (.aload_n 0, 1) := by decide +kernel
theorem dX9_readLevel_23 : decode cX9_readLevel 23 = .ok (.aload_n 0, 1) := by decide +kernel
theorem dX9_readLevel_24 : decode cX9_readLevel 24 = .ok (.getfield 146, 3) := by decide +kernel
theorem dX9_readLevel_27 : decode cX9_readLevel 27 = .ok (.putfield 113, 3) := by decide +kernel
theorem dX9_readLevel_30 : decode cX9_readLevel 30 = .ok (.iconst 0, 1) := by decide +kernel
theorem dX9_readLevel_31 : decode cX9_readLevel 31 = .ok (.istore_n 2, 1) := by decide +kernel
theorem dX9_readLevel_32 : decode cX9_readLevel 32 = .ok (.iload_n 2, 1) := by decide +kernel
theorem dX9_readLevel_33 : decode cX9_readLevel 33 = .ok (.bipush 64, 2) := by decide +kernel
theorem dX9_readLevel_35 : decode cX9_readLevel 35 = .ok (.if_icmp .ge 21, 3) := by decide +kernel
theorem dX9_readLevel_38 : decode cX9_readLevel 38 = .ok (.aload_n 0, 1) := by decide +kernel
theorem dX9_readLevel_39 : decode cX9_readLevel 39 = .ok (.getfield 13, 3) := by decide +kernel
theorem dX9_readLevel_42 : decode cX9_readLevel 42 = .ok (.iload_n 2, 1) := by decide +kernel
theorem dX9_readLevel_43 : decode cX9_readLevel 43 = .ok (.aload_n 0, 1) := by decide +kernel
theorem dX9_readLevel_44 : decode cX9_readLevel 44 = .ok (.getfield 44, 3) := by decide +kernel
theorem dX9_readLevel_47 : decode cX9_readLevel 47 = .ok (.iload_n 2, 1) := by decide +kernel
theorem dX9_readLevel_48 : decode cX9_readLevel 48 = .ok (.iaload, 1) := by decide +kernel
theorem dX9_readLevel_49 : decode cX9_readLevel 49 = .ok (.iastore, 1) := by decide +kernel
theorem dX9_readLevel_50 : decode cX9_readLevel 50 = .ok (.iinc 2 1, 3) := by decide +kernel
theorem dX9_readLevel_53 : decode cX9_readLevel 53 = .ok (.goto (-21), 3) := by decide +kernel
theorem dX9_readLevel_56 : decode cX9_readLevel 56 = .ok (.iconst 0, 1) := by decide +kernel
theorem dX9_readLevel_57 : decode cX9_readLevel 57 = .ok (.istore_n 2, 1) := by decide +kernel
theorem dX9_readLevel_58 : decode cX9_readLevel 58 = .ok (.iconst 0, 1) := by decide +kernel
theorem dX9_readLevel_59 : decode cX9_readLevel 59 = .ok (.istore_n 3, 1) := by decide +kernel
theorem dX9_readLevel_60 : decode cX9_readLevel 60 = .ok (.iload_n 3, 1) := by decide +kernel
theorem dX9_readLevel_61 : decode cX9_readLevel 61 = .ok (.iconst 5, 1) := by decide +kernel
theorem dX9_readLevel_62 : decode cX9_readLevel 62 = .ok (.if_icmp .ge 165, 3) := by decide +kernel
theorem dX9_readLevel_65 : decode cX9_readLevel 65 = .ok (.aload_n 0, 1) := by decide +kernel
theorem dX9_readLevel_66 : decode cX9_readLevel 66 = .ok (.getfield 16, 3) := by decide +kernel
theorem dX9_readLevel_69 : decode cX9_readLevel 69 = .ok (.iload_n 3, 1) := by decide +kernel
theorem dX9_readLevel_70 : decode cX9_readLevel 70 = .ok (.aload_n 0, 1) := by decide +kernel
theorem dX9_readLevel_71 : decode cX9_readLevel 71 = .ok (.getfield 47, 3) := by decide +kernel
theorem dX9_readLevel_74 : decode cX9_readLevel 74 = .ok (.iload_n 3, 1) := by decide +kernel
theorem dX9_readLevel_75 : decode cX9_readLevel 75 = .ok (.iaload, 1) := by decide +kernel
theorem dX9_readLevel_76 : decode cX9_readLevel 76 = .ok (.iastore, 1) := by decide +kernel
theorem dX9_readLevel_77 : decode cX9_readLevel 77 = .ok (.iconst 0, 1) := by decide +kernel
theorem dX9_readLevel_78 : decode cX9_readLevel 78 = .ok (.istore 4, 2) := by decide +kernel
theorem dX9_readLevel_80 : decode cX9_readLevel 80 = .ok (.iload 4, 2) := by decide +kernel
theorem dX9_readLevel_82 : decode cX9_readLevel 82 = .ok (.aload_n 0, 1) := by decide +kernel
theorem dX9_readLevel_83 : decode cX9_readLevel 83 = .ok (.getfield 16, 3) := by decide +kernel
theorem dX9_readLevel_86 : decode cX9_readLevel 86 = .ok (.iload_n 3, 1) := by decide +kernel
theorem dX9_readLevel_87 : decode cX9_readLevel 87 = .ok (.iaload, 1) := by decide +kernel
theorem dX9_readLevel_88 : decode cX9_readLevel 88 = .ok (.if_icmp .ge 67, 3) := by decide +kernel
theorem dX9_readLevel_91 : decode cX9_readLevel 91 = .ok (.aload_n 0, 1) := by decide +kernel
theorem dX9_readLevel_92 : decode cX9_readLevel 92 = .ok (.getfield 19, 3) := by decide +kernel
theorem dX9_readLevel_95 : decode cX9_readLevel 95 = .ok (.iconst 5, 1) := by decide +kernel
theorem dX9_readLevel_96 : decode cX9_readLevel 96 = .ok (.iload_n 3, 1) := by decide +kernel
theorem dX9_readLevel_97 : decode cX9_readLevel 97 = .ok (.imul, 1) := by decide +kernel
theorem dX9_readLevel_98 : decode cX9_readLevel 98 = .ok (.iload 4, 2) := by decide +kernel
theorem dX9_readLevel_100 : decode cX9_readLevel 100 = .ok (.iadd, 1) := by decide +kernel
theorem dX9_readLevel_101 : decode cX9_readLevel 101 = .ok (.aload_n 0, 1) := by decide +kernel
theorem dX9_readLevel_102 : decode cX9_readLevel 102 = .ok (.getfield 50, 3) := by decide +kernel
theorem dX9_readLevel_105 : decode cX9_readLevel 105 = .ok (.iconst 5, 1) := by decide +kernel
theorem dX9_readLevel_106 : decode cX9_readLevel 106 = .ok (.iload_n 3, 1) := by decide +kernel
theorem dX9_readLevel_107 : decode cX9_readLevel 107 = .ok (.imul, 1) := by decide +kernel
theorem dX9_readLevel_108 : decode cX9_readLevel 108 = .ok (.iload 4, 2) := by decide +kernel
theorem dX9_readLevel_110 : decode cX9_readLevel 110 = .ok (.iadd, 1) := by decide +kernel
theorem dX9_readLevel_111 : decode cX9_readLevel 111 = .ok (.iaload, 1) := by decide +kernel
theorem dX9_readLevel_112 : decode cX9_readLevel 112 = .ok (.aload_n 0, 1) := by decide +kernel
theorem dX9_readLevel_113 : decode cX9_readLevel 113 = .ok (.getfield 59, 3) := by decide +kernel
theorem dX9_readLevel_116 : decode cX9_readLevel 116 = .ok (.iload_n 3, 1) := by decide +kernel
theorem dX9_readLevel_117 : decode cX9_readLevel 117 = .ok (.iaload, 1) := by decide +kernel
theorem dX9_readLevel_118 : decode cX9_readLevel 118 = .ok (.isub, 1) := by decide +kernel
theorem dX9_readLevel_119 : decode cX9_readLevel 119 = .ok (.iastore, 1) := by decide +kernel
theorem dX9_readLevel_120 : decode cX9_readLevel 120 = .ok (.aload_n 0, 1) := by decide +kernel
theorem dX9_readLevel_121 : decode cX9_readLevel 121 = .ok (.getfield 22, 3) := by decide +kernel
theorem dX9_readLevel_124 : decode cX9_readLevel 124 = .ok (.iconst 5, 1) := by decide +kernel
theorem dX9_readLevel_125 : decode cX9_readLevel 125 = .ok (.iload_n 3, 1) := by decide +kernel
theorem dX9_readLevel_126 : decode cX9_readLevel 126 = .ok (.imul, 1) := by decide +kernel
theorem dX9_readLevel_127 : decode cX9_readLevel 127 = .ok (.iload 4, 2) := by decide +kernel
theorem dX9_readLevel_129 : decode cX9_readLevel 129 = .ok (.iadd, 1) := by decide +kernel
theorem dX9_readLevel_130 : decode cX9_readLevel 130 = .ok (.aload_n 0, 1) := by decide +kernel
theorem dX9_readLevel_131 : decode cX9_readLevel 131 = .ok (.getfield 53, 3) := by decide +kernel
theorem dX9_readLevel_134 : decode cX9_readLevel 134 = .ok (.iconst 5, 1) := by decide +kernel
theorem dX9_readLevel_135 : decode cX9_readLevel 135 = .ok (.iload_n 3, 1) := by decide +kernel
theorem dX9_readLevel_136 : decode cX9_readLevel 136 = .ok (.imul, 1) := by decide +kernel
theorem dX9_readLevel_137 : decode cX9_readLevel 137 = .ok (.iload 4, 2) := by decide +kernel
theorem dX9_readLevel_139 : decode cX9_readLevel 139 = .ok (.iadd, 1) := by decide +kernel
theorem dX9_readLevel_140 : decode cX9_readLevel 140 = .ok (.iaload, 1) := by decide +kernel
theorem dX9_readLevel_141 : decode cX9_readLevel 141 = .ok (.aload_n 0, 1) := by decide +kernel
theorem dX9_readLevel_142 : decode cX9_readLevel 142 = .ok (.getfield 62, 3) := by decide +kernel
theorem dX9_readLevel_145 : decode cX9_readLevel 145 = .ok (.iload_n 3, 1) := by decide +kernel
theorem dX9_readLevel_146 : decode cX9_readLevel 146 = .ok (.iaload, 1) := by decide +kernel
theorem dX9_readLevel_147 : decode cX9_readLevel 147 = .ok (.isub, 1) := by decide +kernel
theorem dX9_readLevel_148 : decode cX9_readLevel 148 = .ok (.iastore, 1) := by decide +kernel
theorem dX9_readLevel_149 : decode cX9_readLevel 149 = .ok (.iinc 4 1, 3) := by decide +kernel
theorem dX9_readLevel_152 : decode cX9_readLevel 152 = .ok (.goto (-72), 3) := by decide +kernel
theorem dX9_readLevel_155 : decode cX9_readLevel 155 = .ok (.aload_n 0, 1) := by decide +kernel
theorem dX9_readLevel_156 : decode cX9_readLevel 156 = .ok (.getfield 25, 3) := by decide +kernel
theorem dX9_readLevel_159 : decode cX9_readLevel 159 = .ok (.iload_n 3, 1) := by decide +kernel
theorem dX9_readLevel_160 : decode cX9_readLevel 160 = .ok (.iconst 1, 1) := by decide +kernel
theorem dX9_readLevel_161 : decode cX9_readLevel 161 = .ok (.iastore, 1) := by decide +kernel
theorem dX9_readLevel_162 : decode cX9_readLevel 162 = .ok (.aload_n 0, 1) := by decide +kernel
theorem dX9_readLevel_163 : decode cX9_readLevel 163 = .ok (.getfield 34, 3) := by decide +kernel
theorem dX9_readLevel_166 : decode cX9_readLevel 166 = .ok (.iload_n 3, 1) := by decide +kernel
theorem dX9_readLevel_167 : decode cX9_readLevel 167 = .ok (.iconst (-1), 1) := by decide +kernel
theorem dX9_readLevel_168 : decode cX9_readLevel 168 = .ok (.iastore, 1) := by decide +kernel
theorem dX9_readLevel_169 : decode cX9_readLevel 169 = .ok (.aload_n 0, 1) := by decide +kernel
theorem dX9_readLevel_170 : decode cX9_readLevel 170 = .ok (.getfield 37, 3) := by decide +kernel
theorem dX9_readLevel_173 : decode cX9_readLevel 173 = .ok (.iload_n 3, 1) := by decide +kernel
theorem dX9_readLevel_174 : decode cX9_readLevel 174 = .ok (.aload_n 0, 1) := by decide +kernel
theorem dX9_readLevel_175 : decode cX9_readLevel 175 = .ok (.getfield 16, 3) := by decide +kernel
theorem dX9_readLevel_178 : decode cX9_readLevel 178 = .ok (.iload_n 3, 1) := by decide +kernel
theorem dX9_readLevel_179 : decode cX9_readLevel 179 = .ok (.iaload, 1) := by decide +kernel
theorem dX9_readLevel_180 : decode cX9_readLevel 180 = .ok (.ifCond .ne 7, 3) := by decide +kernel
theorem dX9_readLevel_183 : decode cX9_readLevel 183 = .ok (.iconst 0, 1) := by decide +kernel
theorem dX9_readLevel_184 : decode cX9_readLevel 184 = .ok (.goto 19, 3) := by decide +kernel
theorem dX9_readLevel_187 : decode cX9_readLevel 187 = .ok (.bipush 8, 2) := by decide +kernel
theorem dX9_readLevel_189 : decode cX9_readLevel 189 = .ok (.aload_n 0, 1) := by decide +kernel
theorem dX9_readLevel_190 : decode cX9_readLevel 190 = .ok (.getfield 62, 3) := by decide +kernel
theorem dX9_readLevel_193 : decode cX9_readLevel 193 = .ok (.iload_n 3, 1) := by decide +kernel
theorem dX9_readLevel_194 : decode cX9_readLevel 194 = .ok (.iaload, 1) := by decide +kernel
theorem dX9_readLevel_195 : decode cX9_readLevel 195 = .ok (.imul, 1) := by decide +kernel
theorem dX9_readLevel_196 : decode cX9_readLevel 196 = .ok (.aload_n 0, 1) := by decide +kernel
theorem dX9_readLevel_197 : decode cX9_readLevel 197 = .ok (.getfield 59, 3) := by decide +kernel
theorem dX9_readLevel_200 : decode cX9_readLevel 200 = .ok (.iload_n 3, 1) := by decide +kernel
theorem dX9_readLevel_201 : decode cX9_readLevel 201 = .ok (.iaload, 1) := by decide +kernel
theorem dX9_readLevel_202 : decode cX9_readLevel 202 = .ok (.iadd, 1) := by decide +kernel
theorem dX9_readLevel_203 : decode cX9_readLevel 203 = .ok (.iastore, 1) := by decide +kernel
theorem dX9_readLevel_204 : decode cX9_readLevel 204 = .ok (.iload_n 2, 1) := by decide +kernel
theorem dX9_readLevel_205 : decode cX9_readLevel 205 = .ok (.aload_n 0, 1) := by decide +kernel
theorem dX9_readLevel_206 : decode cX9_readLevel 206 = .ok (.getfield 16, 3) := by decide +kernel
theorem dX9_readLevel_209 : decode cX9_readLevel 209 = .ok (.iload_n 3, 1) := by decide +kernel
theorem dX9_readLevel_210 : decode cX9_readLevel 210 = .ok (.iaload, 1) := by decide +kernel
theorem dX9_readLevel_211 : decode cX9_readLevel 211 = .ok (.ifCond .ne 7, 3) := by decide +kernel
theorem dX9_readLevel_214 : decode cX9_readLevel 214 = .ok (.iconst 0, 1) := by decide +kernel
theorem dX9_readLevel_215 : decode cX9_readLevel 215 = .ok (.goto 4, 3) := by decide +kernel
theorem dX9_readLevel_218 : decode cX9_readLevel 218 = .ok (.iconst 1, 1) := by decide +kernel
theorem dX9_readLevel_219 : decode cX9_readLevel 219 = .ok (.iadd, 1) := by decide +kernel
theorem dX9_readLevel_220 : decode cX9_readLevel 220 = .ok (.istore_n 2, 1) := by decide +kernel
theorem dX9_readLevel_221 : decode cX9_readLevel 221 = .ok (.iinc 3 1, 3) := by decide +kernel
theorem dX9_readLevel_224 : decode cX9_readLevel 224 = .ok (.goto (-164), 3) := by decide +kernel
theorem dX9_readLevel_227 : decode cX9_readLevel 227 = .ok (.aload_n 0, 1) := by decide +kernel
theorem dX9_readLevel_228 : decode cX9_readLevel 228 = .ok (.iconst 0, 1) := by decide +kernel
theorem dX9_readLevel_229 : decode cX9_readLevel 229 = .ok (.putfield 153, 3) := by decide +kernel
theorem dX9_readLevel_232 : decode cX9_readLevel 232 = .ok (.aload_n 0, 1) := by decide +kernel
theorem dX9_readLevel_233 : decode cX9_readLevel 233 = .ok (.iconst 0, 1) := by decide +kernel
theorem dX9_readLevel_234 : decode cX9_readLevel 234 = .ok (.putfield 156, 3) := by decide +kernel
theorem dX9_readLevel_237 : decode cX9_readLevel 237 = .ok (.iconst 0, 1) := by decide +kernel
theorem dX9_readLevel_238 : decode cX9_readLevel 238 = .ok (.istore_n 3, 1) := by decide +kernel
theorem dX9_readLevel_239 : decode cX9_readLevel 239 = .ok (.iload_n 3, 1) := by decide +kernel
theorem dX9_readLevel_240 : decode cX9_readLevel 240 = .ok (.iconst 4, 1) := by decide +kernel
theorem dX9_readLevel_241 : decode cX9_readLevel 241 = .ok (.if_icmp .ge 16, 3) := by decide +kernel
theorem dX9_readLevel_244 : decode cX9_readLevel 244 = .ok (.aload_n 0, 1) := by decide +kernel
theorem dX9_readLevel_245 : decode cX9_readLevel 245 = .ok (.getfield 84, 3) := by decide +kernel
theorem dX9_readLevel_248 : decode cX9_readLevel 248 = .ok (.iload_n 3, 1) := by decide +kernel
theorem dX9_readLevel_249 : decode cX9_readLevel 249 = .ok (.iconst 0, 1) := by decide +kernel
theorem dX9_readLevel_250 : decode cX9_readLevel 250 = .ok (.bastore, 1) := by decide +kernel
theorem dX9_readLevel_251 : decode cX9_readLevel 251 = .ok (.iinc 3 1, 3) := by decide +kernel
theorem dX9_readLevel_254 : decode cX9_readLevel 254 = .ok (.goto (-15), 3) := by decide +kernel
theorem dX9_readLevel_257 : decode cX9_readLevel 257 = .ok (.iload_n 2, 1) := by decide +kernel
theorem dX9_readLevel_258 : decode cX9_readLevel 258 = .ok (.ireturn, 1) := by decide +kernel
theorem dX9_packed_0 : decode cX9_packed 0 = .ok (.lconst 0, 1) := by decide +kernel
theorem dX9_packed_1 : decode cX9_packed 1 = .ok (.lstore_n 1, 1) := by decide +kernel
theorem dX9_packed_2 : decode cX9_packed 2 = .ok (.iconst 4, 1) := by decide +kernel
theorem dX9_packed_3 : decode cX9_packed 3 = .ok (.istore_n 3, 1) := by decide +kernel
theorem dX9_packed_4 : decode cX9_packed 4 = .ok (.iload_n 3, 1) := by decide +kernel
theorem dX9_packed_5 : decode cX9_packed 5 = .ok (.ifCond .lt 23, 3) := by decide +kernel
theorem dX9_packed_8 : decode cX9_packed 8 = .ok (.lload_n 1, 1) := by decide +kernel
theorem dX9_packed_9 : decode cX9_packed 9 = .ok (.ldc2_w 159, 3) := by decide +kernel
theorem dX9_packed_12 : decode cX9_packed 12 = .ok (.lmul, 1) := by decide +kernel
theorem dX9_packed_13 : decode cX9_packed 13 = .ok (.aload_n 0, 1) := by decide +kernel
theorem dX9_packed_14 : decode cX9_packed 14 = .ok (.getfield 37, 3) := by decide +kernel
theorem dX9_packed_17 : decode cX9_packed 17 = .ok (.iload_n 3, 1) := by decide +kernel
theorem dX9_packed_18 : decode cX9_packed 18 = .ok (.iaload, 1) := by decide +kernel
theorem dX9_packed_19 : decode cX9_packed 19 = .ok (.i2l, 1) := by decide +kernel
theorem dX9_packed_20 : decode cX9_packed 20 = .ok (.ladd, 1) := by decide +kernel
theorem dX9_packed_21 : decode cX9_packed 21 = .ok (.lstore_n 1, 1) := by decide +kernel
theorem dX9_packed_22 : decode cX9_packed 22 = .ok (.iinc 3 (-1), 3) := by decide +kernel
theorem dX9_packed_25 : decode cX9_packed 25 = .ok (.goto (-21), 3) := by decide +kernel
theorem dX9_packed_28 : decode cX9_packed 28 = .ok (.lload_n 1, 1) := by decide +kernel
theorem dX9_packed_29 : decode cX9_packed 29 = .ok (.lreturn, 1) := by decide +kernel
theorem dX9_unpack_0 : decode cX9_unpack 0 = .ok (.lload_n 1, 1) := by decide +kernel
theorem dX9_unpack_1 : decode cX9_unpack 1 = .ok (.lstore_n 3, 1) := by decide +kernel
theorem dX9_unpack_2 : decode cX9_unpack 2 = .ok (.iconst 0, 1) := by decide +kernel
theorem dX9_unpack_3 : decode cX9_unpack 3 = .ok (.istore 5, 2) := by decide +kernel
theorem dX9_unpack_5 : decode cX9_unpack 5 = .ok (.iload 5, 2) := by decide +kernel
theorem dX9_unpack_7 : decode cX9_unpack 7 = .ok (.iconst 5, 1) := by decide +kernel
theorem dX9_unpack_8 : decode cX9_unpack 8 = .ok (.if_icmp .ge 28, 3) := by decide +kernel
theorem dX9_unpack_11 : decode cX9_unpack 11 = .ok (.aload_n 0, 1) := by decide +kernel
theorem dX9_unpack_12 : decode cX9_unpack 12 = .ok (.getfield 37, 3) := by decide +kernel
theorem dX9_unpack_15 : decode cX9_unpack 15 = .ok (.iload 5, 2) := by decide +kernel
theorem dX9_unpack_17 : decode cX9_unpack 17 = .ok (.lload_n 3, 1) := by decide +kernel
theorem dX9_unpack_18 : decode cX9_unpack 18 = .ok (.ldc2_w 159, 3) := by decide +kernel
theorem dX9_unpack_21 : decode cX9_unpack 21 = .ok (.lrem, 1) := by decide +kernel
theorem dX9_unpack_22 : decode cX9_unpack 22 = .ok (.l2i, 1) := by decide +kernel
theorem dX9_unpack_23 : decode cX9_unpack 23 = .ok (.iastore, 1) := by decide +kernel
theorem dX9_unpack_24 : decode cX9_unpack 24 = .ok (.lload_n 3, 1) := by decide +kernel
theorem dX9_unpack_25 : decode cX9_unpack 25 = .ok (.ldc2_w 159, 3) := by decide +kernel
theorem dX9_unpack_28 : decode cX9_unpack 28 = .ok (.ldiv, 1) := by decide +kernel
theorem dX9_unpack_29 : decode cX9_unpack 29 = .ok (.lstore_n 3, 1) := by decide +kernel
theorem dX9_unpack_30 : decode cX9_unpack 30 = .ok (.iinc 5 1, 3) := by decide +kernel
theorem dX9_unpack_33 : decode cX9_unpack 33 = .ok (.goto (-28), 3) := by decide +kernel
theorem dX9_unpack_36 : decode cX9_unpack 36 = .ok (.return_, 1) := by decide +kernel
theorem dX9_layOwners_0 : decode cX9_layOwners 0 = .ok (.iconst 0, 1) := by decide +kernel
theorem dX9_layOwners_1 : decode cX9_layOwners 1 = .ok (.istore_n 1, 1) := by decide +kernel
theorem dX9_layOwners_2 : decode cX9_layOwners 2 = .ok (.iload_n 1, 1) := by decide +kernel
theorem dX9_layOwners_3 : decode cX9_layOwners 3 = .ok (.bipush 64, 2) := by decide +kernel
theorem dX9_layOwners_5 : decode cX9_layOwners 5 = .ok (.if_icmp .ge 16, 3) := by decide +kernel
theorem dX9_layOwners_8 : decode cX9_layOwners 8 = .ok (.aload_n 0, 1) := by decide +kernel
theorem dX9_layOwners_9 : decode cX9_layOwners 9 = .ok (.getfield 65, 3) := by decide +kernel
theorem dX9_layOwners_12 : decode cX9_layOwners 12 = .ok (.iload_n 1, 1) := by decide +kernel
theorem dX9_layOwners_13 : decode cX9_layOwners 13 = .ok (.iconst (-1), 1) := by decide +kernel
theorem dX9_layOwners_14 : decode cX9_layOwners 14 = .ok (.iastore, 1) := by decide +kernel
theorem dX9_layOwners_15 : decode cX9_layOwners 15 = .ok (.iinc 1 1, 3) := by decide +kernel
theorem dX9_layOwners_18 : decode cX9_layOwners 18 = .ok (.goto (-16), 3) := by decide +kernel
theorem dX9_layOwners_21 : decode cX9_layOwners 21 = .ok (.iconst 0, 1) := by decide +kernel
theorem dX9_layOwners_22 : decode cX9_layOwners 22 = .ok (.istore_n 1, 1) := by decide +kernel
theorem dX9_layOwners_23 : decode cX9_layOwners 23 = .ok (.iload_n 1, 1) := by decide +kernel
theorem dX9_layOwners_24 : decode cX9_layOwners 24 = .ok (.iconst 4, 1) := by decide +kernel
theorem dX9_layOwners_25 : decode cX9_layOwners 25 = .ok (.if_icmp .ge 16, 3) := by decide +kernel
theorem dX9_layOwners_28 : decode cX9_layOwners 28 = .ok (.aload_n 0, 1) := by decide +kernel
theorem dX9_layOwners_29 : decode cX9_layOwners 29 = .ok (.getfield 68, 3) := by decide +kernel
theorem dX9_layOwners_32 : decode cX9_layOwners 32 = .ok (.iload_n 1, 1) := by decide +kernel
theorem dX9_layOwners_33 : decode cX9_layOwners 33 = .ok (.iconst 0, 1) := by decide +kernel
theorem dX9_layOwners_34 : decode cX9_layOwners 34 = .ok (.iastore, 1) := by decide +kernel
theorem dX9_layOwners_35 : decode cX9_layOwners 35 = .ok (.iinc 1 1, 3) := by decide +kernel
theorem dX9_layOwners_38 : decode cX9_layOwners 38 = .ok (.goto (-15), 3) := by decide +kernel
theorem dX9_layOwners_41 : decode cX9_layOwners 41 = .ok (.iconst 0, 1) := by decide +kernel
theorem dX9_layOwners_42 : decode cX9_layOwners 42 = .ok (.istore_n 1, 1) := by decide +kernel
theorem dX9_layOwners_43 : decode cX9_layOwners 43 = .ok (.iload_n 1, 1) := by decide +kernel
theorem dX9_layOwners_44 : decode cX9_layOwners 44 = .ok (.iconst 5, 1) := by decide +kernel
theorem dX9_layOwners_45 : decode cX9_layOwners 45 = .ok (.if_icmp .ge 137, 3) := by decide +kernel
theorem dX9_layOwners_48 : decode cX9_layOwners 48 = .ok (.iconst 0, 1) := by decide +kernel
theorem dX9_layOwners_49 : decode cX9_layOwners 49 = .ok (.istore_n 2, 1) := by decide +kernel
theorem dX9_layOwners_50 : decode cX9_layOwners 50 = .ok (.iconst 0, 1) := by decide +kernel
theorem dX9_layOwners_51 : decode cX9_layOwners 51 = .ok (.istore_n 3, 1) := by decide +kernel
theorem dX9_layOwners_52 : decode cX9_layOwners 52 = .ok (.iload_n 3, 1) := by decide +kernel
theorem dX9_layOwners_53 : decode cX9_layOwners 53 = .ok (.aload_n 0, 1) := by decide +kernel
theorem dX9_layOwners_54 : decode cX9_layOwners 54 = .ok (.getfield 16, 3) := by decide +kernel
theorem dX9_layOwners_57 : decode cX9_layOwners 57 = .ok (.iload_n 1, 1) := by decide +kernel
theorem dX9_layOwners_58 : decode cX9_layOwners 58 = .ok (.iaload, 1) := by decide +kernel
theorem dX9_layOwners_59 : decode cX9_layOwners 59 = .ok (.if_icmp .ge 83, 3) := by decide +kernel
theorem dX9_layOwners_62 : decode cX9_layOwners 62 = .ok (.bipush 8, 2) := by decide +kernel
theorem dX9_layOwners_64 : decode cX9_layOwners 64 = .ok (.aload_n 0, 1) := by decide +kernel
theorem dX9_layOwners_65 : decode cX9_layOwners 65 = .ok (.iload_n 1, 1) := by decide +kernel
theorem dX9_layOwners_66 : decode cX9_layOwners 66 = .ok (.iload_n 3, 1) := by decide +kernel
theorem dX9_layOwners_67 : decode cX9_layOwners 67 = .ok (.aload_n 0, 1) := by decide +kernel
theorem dX9_layOwners_68 : decode cX9_layOwners 68 = .ok (.getfield 37, 3) := by decide +kernel
theorem dX9_layOwners_71 : decode cX9_layOwners 71 = .ok (.iload_n 1, 1) := by decide +kernel
theorem dX9_layOwners_72 : decode cX9_layOwners 72 = .ok (.iaload, 1) := by decide +kernel
theorem dX9_layOwners_73 : decode cX9_layOwners 73 = .ok (.invokevirtual 161, 3) := by decide +kernel
theorem dX9_layOwners_76 : decode cX9_layOwners 76 = .ok (.imul, 1) := by decide +kernel
theorem dX9_layOwners_77 : decode cX9_layOwners 77 = .ok (.aload_n 0, 1) := by decide +kernel
theorem dX9_layOwners_78 : decode cX9_layOwners 78 = .ok (.iload_n 1, 1) := by decide +kernel
theorem dX9_layOwners_79 : decode cX9_layOwners 79 = .ok (.iload_n 3, 1) := by decide +kernel
theorem dX9_layOwners_80 : decode cX9_layOwners 80 = .ok (.aload_n 0, 1) := by decide +kernel
theorem dX9_layOwners_81 : decode cX9_layOwners 81 = .ok (.getfield 37, 3) := by decide +kernel
theorem dX9_layOwners_84 : decode cX9_layOwners 84 = .ok (.iload_n 1, 1) := by decide +kernel
theorem dX9_layOwners_85 : decode cX9_layOwners 85 = .ok (.iaload, 1) := by decide +kernel
theorem dX9_layOwners_86 : decode cX9_layOwners 86 = .ok (.invokevirtual 164, 3) := by decide +kernel
theorem dX9_layOwners_89 : decode cX9_layOwners 89 = .ok (.iadd, 1) := by decide +kernel
theorem dX9_layOwners_90 : decode cX9_layOwners 90 = .ok (.istore 4, 2) := by decide +kernel
theorem dX9_layOwners_92 : decode cX9_layOwners 92 = .ok (.aload_n 0, 1) := by decide +kernel
theorem dX9_layOwners_93 : decode cX9_layOwners 93 = .ok (.getfield 65, 3) := by decide +kernel
theorem dX9_layOwners_96 : decode cX9_layOwners 96 = .ok (.iload 4, 2) := by decide +kernel
theorem dX9_layOwners_98 : decode cX9_layOwners 98 = .ok (.iload_n 1, 1) := by decide +kernel
theorem dX9_layOwners_99 : decode cX9_layOwners 99 = .ok (.iastore, 1) := by decide +kernel
theorem dX9_layOwners_100 : decode cX9_layOwners 100 = .ok (.iload_n 2, 1) := by decide +kernel
theorem dX9_layOwners_101 : decode cX9_layOwners 101 = .ok (.aload_n 0, 1) := by decide +kernel
theorem dX9_layOwners_102 : decode cX9_layOwners 102 = .ok (.getfield 13, 3) := by decide +kernel
theorem dX9_layOwners_105 : decode cX9_layOwners 105 = .ok (.iload 4, 2) := by decide +kernel
theorem dX9_layOwners_107 : decode cX9_layOwners 107 = .ok (.iaload, 1) := by decide +kernel
theorem dX9_layOwners_108 : decode cX9_layOwners 108 = .ok (.bipush 6, 2) := by decide +kernel
theorem dX9_layOwners_110 : decode cX9_layOwners 110 = .ok (.bipush 9, 2) := by decide +kernel
theorem dX9_layOwners_112 : decode cX9_layOwners 112 = .ok (.invokestatic 119, 3) := by decide +kernel
theorem dX9_layOwners_115 : decode cX9_layOwners 115 = .ok (.ifCond .eq 18, 3) := by decide +kernel
theorem dX9_layOwners_118 : decode cX9_layOwners 118 = .ok (.iconst 1, 1) := by decide +kernel
theorem dX9_layOwners_119 : decode cX9_layOwners 119 = .ok (.aload_n 0, 1) := by decide +kernel
theorem dX9_layOwners_120 : decode cX9_layOwners 120 = .ok (.getfield 13, 3) := by decide +kernel
theorem dX9_layOwners_123 : decode cX9_layOwners 123 = .ok (.iload 4, 2) := by decide +kernel
theorem dX9_layOwners_125 : decode cX9_layOwners 125 = .ok (.iaload, 1) := by decide +kernel
theorem dX9_layOwners_126 : decode cX9_layOwners 126 = .ok (.bipush 6, 2) := by decide +kernel
theorem dX9_layOwners_128 : decode cX9_layOwners 128 = .ok (.isub, 1) := by decide +kernel
theorem dX9_layOwners_129 : decode cX9_layOwners 129 = .ok (.ishl, 1) := by decide +kernel
theorem dX9_layOwners_130 : decode cX9_layOwners 130 = .ok (.goto 4, 3) := by decide +kernel
theorem dX9_layOwners_133 : decode cX9_layOwners 133 = .ok (.iconst 0, 1) := by decide +kernel
theorem dX9_layOwners_134 : decode cX9_layOwners 134 = .ok (.ior, 1) := by decide +kernel
theorem dX9_layOwners_135 : decode cX9_layOwners 135 = .ok (.istore_n 2, 1) := by decide +kernel
theorem dX9_layOwners_136 : decode cX9_layOwners 136 = .ok (.iinc 3 1, 3) := by decide +kernel
theorem dX9_layOwners_139 : decode cX9_layOwners 139 = .ok (.goto (-87), 3) := by decide +kernel
theorem dX9_layOwners_142 : decode cX9_layOwners 142 = .ok (.iconst 0, 1) := by decide +kernel
theorem dX9_layOwners_143 : decode cX9_layOwners 143 = .ok (.istore_n 3, 1) := by decide +kernel
theorem dX9_layOwners_144 : decode cX9_layOwners 144 = .ok (.iload_n 3, 1) := by decide +kernel
theorem dX9_layOwners_145 : decode cX9_layOwners 145 = .ok (.iconst 4, 1) := by decide +kernel
theorem dX9_layOwners_146 : decode cX9_layOwners 146 = .ok (.if_icmp .ge 30, 3) := by decide +kernel
theorem dX9_layOwners_149 : decode cX9_layOwners 149 = .ok (.aload_n 0, 1) := by decide +kernel
theorem dX9_layOwners_150 : decode cX9_layOwners 150 = .ok (.getfield 68, 3) := by decide +kernel
theorem dX9_layOwners_153 : decode cX9_layOwners 153 = .ok (.iload_n 3, 1) := by decide +kernel
theorem dX9_layOwners_154 : decode cX9_layOwners 154 = .ok (.dup2, 1) := by decide +kernel
theorem dX9_layOwners_155 : decode cX9_layOwners 155 = .ok (.iaload, 1) := by decide +kernel
theorem dX9_layOwners_156 : decode cX9_layOwners 156 = .ok (.iload_n 2, 1) := by decide +kernel
theorem dX9_layOwners_157 : decode cX9_layOwners 157 = .ok (.iload_n 3, 1) := by decide +kernel
theorem dX9_layOwners_158 : decode cX9_layOwners 158 = .ok (.ishr, 1) := by decide +kernel
theorem dX9_layOwners_159 : decode cX9_layOwners 159 = .ok (.iconst 1, 1) := by decide +kernel
theorem dX9_layOwners_160 : decode cX9_layOwners 160 = .ok (.iand, 1) := by decide +kernel
theorem dX9_layOwners_161 : decode cX9_layOwners 161 = .ok (.aload_n 0, 1) := by decide +kernel
theorem dX9_layOwners_162 : decode cX9_layOwners 162 = .ok (.getfield 25, 3) := by decide +kernel
theorem dX9_layOwners_165 : decode cX9_layOwners 165 = .ok (.iload_n 1, 1) := by decide +kernel
theorem dX9_layOwners_166 : decode cX9_layOwners 166 = .ok (.iaload, 1) := by decide +kernel
theorem dX9_layOwners_167 : decode cX9_layOwners 167 = .ok (.imul, 1) := by decide +kernel
theorem dX9_layOwners_168 : decode cX9_layOwners 168 = .ok (.iadd, 1) := by decide +kernel
theorem dX9_layOwners_169 : decode cX9_layOwners 169 = .ok (.iastore, 1) := by decide +kernel
theorem dX9_layOwners_170 : decode cX9_layOwners 170 = .ok (.iinc 3 1, 3) := by decide +kernel
theorem dX9_layOwners_173 : decode cX9_layOwners 173 = .ok (.goto (-29), 3) := by decide +kernel
theorem dX9_layOwners_176 : decode cX9_layOwners 176 = .ok (.iinc 1 1, 3) := by decide +kernel
theorem dX9_layOwners_179 : decode cX9_layOwners 179 = .ok (.goto (-136), 3) := by decide +kernel
theorem dX9_layOwners_182 : decode cX9_layOwners 182 = .ok (.return_, 1) := by decide +kernel
theorem dX9_isPassable_0 : decode cX9_isPassable 0 = .ok (.aload_n 0, 1) := by decide +kernel
theorem dX9_isPassable_1 : decode cX9_isPassable 1 = .ok (.iload_n 2, 1) := by decide +kernel
theorem dX9_isPassable_2 : decode cX9_isPassable 2 = .ok (.iload_n 3, 1) := by decide +kernel
theorem dX9_isPassable_3 : decode cX9_isPassable 3 = .ok (.invokevirtual 167, 3) := by decide +kernel
theorem dX9_isPassable_6 : decode cX9_isPassable 6 = .ok (.ifCond .eq 13, 3) := by decide +kernel
theorem dX9_isPassable_9 : decode cX9_isPassable 9 = .ok (.aload_n 0, 1) := by decide +kernel
theorem dX9_isPassable_10 : decode cX9_isPassable 10 = .ok (.iload_n 2, 1) := by decide +kernel
theorem dX9_isPassable_11 : decode cX9_isPassable 11 = .ok (.iload_n 3, 1) := by decide +kernel
theorem dX9_isPassable_12 : decode cX9_isPassable 12 = .ok (.invokevirtual 171, 3) := by decide +kernel
theorem dX9_isPassable_15 : decode cX9_isPassable 15 = .ok (.iconst 1, 1) := by decide +kernel
theorem dX9_isPassable_16 : decode cX9_isPassable 16 = .ok (.if_icmp .ne 5, 3) := by decide +kernel
theorem dX9_isPassable_19 : decode cX9_isPassable 19 = .ok (.iconst 0, 1) := by decide +kernel
theorem dX9_isPassable_20 : decode cX9_isPassable 20 = .ok (.ireturn, 1) := by decide +kernel
theorem dX9_isPassable_21 : decode cX9_isPassable 21 = .ok (.aload_n 0, 1) := by decide +kernel
theorem dX9_isPassable_22 : decode cX9_isPassable 22 = .ok (.iload_n 2, 1) := by decide +kernel
theorem dX9_isPassable_23 : decode cX9_isPassable 23 = .ok (.iload_n 3, 1) := by decide +kernel
theorem dX9_isPassable_24 : decode cX9_isPassable 24 = .ok (.invokevirtual 171, 3) := by decide +kernel
theorem dX9_isPassable_27 : decode cX9_isPassable 27 = .ok (.bipush 10, 2) := by decide +kernel
theorem dX9_isPassable_29 : decode cX9_isPassable 29 = .ok (.isub, 1) := by decide +kernel
theorem dX9_isPassable_30 : decode cX9_isPassable 30 = .ok (.istore 4, 2) := by decide +kernel
theorem dX9_isPassable_32 : decode cX9_isPassable 32 = .ok (.iload 4, 2) := by decide +kernel
theorem dX9_isPassable_34 : decode cX9_isPassable 34 = .ok (.ifCond .lt 35, 3) := by decide +kernel
theorem dX9_isPassable_37 : decode cX9_isPassable 37 = .ok (.aload_n 0, 1) := by decide +kernel
theorem dX9_isPassable_38 : decode cX9_isPassable 38 = .ok (.getfield 68, 3) := by decide +kernel
theorem dX9_isPassable_41 : decode cX9_isPassable 41 = .ok (.iload 4, 2) := by decide +kernel
theorem dX9_isPassable_43 : decode cX9_isPassable 43 = .ok (.iaload, 1) := by decide +kernel
theorem dX9_isPassable_44 : decode cX9_isPassable 44 = .ok (.aload_n 0, 1) := by decide +kernel
theorem dX9_isPassable_45 : decode cX9_isPassable 45 = .ok (.getfield 7, 3) := by decide +kernel
theorem dX9_isPassable_48 : decode cX9_isPassable 48 = .ok (.iload 4, 2) := by decide +kernel
theorem dX9_isPassable_50 : decode cX9_isPassable 50 = .ok (.iaload, 1) := by decide +kernel
theorem dX9_isPassable_51 : decode cX9_isPassable 51 = .ok (.if_icmp .ge 18, 3) := by decide +kernel
theorem dX9_isPassable_54 : decode cX9_isPassable 54 = .ok (.aload_n 0, 1) := by decide +kernel
theorem dX9_isPassable_55 : decode cX9_isPassable 55 = .ok (.getfield 65, 3) := by decide +kernel
theorem dX9_isPassable_58 : decode cX9_isPassable 58 = .ok (.bipush 8, 2) := by decide +kernel
theorem dX9_isPassable_60 : decode cX9_isPassable 60 = .ok (.iload_n 3, 1) := by decide +kernel
theorem dX9_isPassable_61 : decode cX9_isPassable 61 = .ok (.imul, 1) := by decide +kernel
theorem dX9_isPassable_62 : decode cX9_isPassable 62 = .ok (.iload_n 2, 1) := by decide +kernel
theorem dX9_isPassable_63 : decode cX9_isPassable 63 = .ok (.iadd, 1) := by decide +kernel
theorem dX9_isPassable_64 : decode cX9_isPassable 64 = .ok (.iaload, 1) := by decide +kernel
theorem dX9_isPassable_65 : decode cX9_isPassable 65 = .ok (.iload_n 1, 1) := by decide +kernel
theorem dX9_isPassable_66 : decode cX9_isPassable 66 = .ok (.if_icmp .ne 7, 3) := by decide +kernel
theorem dX9_isPassable_69 : decode cX9_isPassable 69 = .ok (.iconst 1, 1) := by decide +kernel
theorem dX9_isPassable_70 : decode cX9_isPassable 70 = .ok (.goto 4, 3) := by decide +kernel
theorem dX9_isPassable_73 : decode cX9_isPassable 73 = .ok (.iconst 0, 1) := by decide +kernel
theorem dX9_isPassable_74 : decode cX9_isPassable 74 = .ok (.ireturn, 1) := by decide +kernel
theorem dX9_pushed_0 : decode cX9_pushed 0 = .ok (.iconst 1, 1) := by decide +kernel
theorem dX9_pushed_1 : decode cX9_pushed 1 = .ok (.iload_n 1, 1) := by decide +kernel
theorem dX9_pushed_2 : decode cX9_pushed 2 = .ok (.ishl, 1) := by decide +kernel
theorem dX9_pushed_3 : decode cX9_pushed 3 = .ok (.istore_n 3, 1) := by decide +kernel
theorem dX9_pushed_4 : decode cX9_pushed 4 = .ok (.iconst 0, 1) := by decide +kernel
theorem dX9_pushed_5 : decode cX9_pushed 5 = .ok (.istore 4, 2) := by decide +kernel
theorem dX9_pushed_7 : decode cX9_pushed 7 = .ok (.iload 4, 2) := by decide +kernel
theorem dX9_pushed_9 : decode cX9_pushed 9 = .ok (.iload_n 3, 1) := by decide +kernel
theorem dX9_pushed_10 : decode cX9_pushed 10 = .ok (.if_icmp .eq 146, 3) := by decide +kernel
theorem dX9_pushed_13 : decode cX9_pushed 13 = .ok (.iload_n 3, 1) := by decide +kernel
theorem dX9_pushed_14 : decode cX9_pushed 14 = .ok (.istore 4, 2) := by decide +kernel
theorem dX9_pushed_16 : decode cX9_pushed 16 = .ok (.iconst 0, 1) := by decide +kernel
theorem dX9_pushed_17 : decode cX9_pushed 17 = .ok (.istore 5, 2) := by decide +kernel
theorem dX9_pushed_19 : decode cX9_pushed 19 = .ok (.iload 5, 2) := by decide +kernel
theorem dX9_pushed_21 : decode cX9_pushed 21 = .ok (.iconst 5, 1) := by decide +kernel
theorem dX9_pushed_22 : decode cX9_pushed 22 = .ok (.if_icmp .ge 131, 3) := by decide +kernel
theorem dX9_pushed_25 : decode cX9_pushed 25 = .ok (.iconst 0, 1) := by decide +kernel
theorem dX9_pushed_26 : decode cX9_pushed 26 = .ok (.istore 6, 2) := by decide +kernel
theorem dX9_pushed_28 : decode cX9_pushed 28 = .ok (.iload 6, 2) := by decide +kernel
theorem dX9_pushed_30 : decode cX9_pushed 30 = .ok (.aload_n 0, 1) := by decide +kernel
theorem dX9_pushed_31 : decode cX9_pushed 31 = .ok (.getfield 16, 3) := by decide +kernel
theorem dX9_pushed_34 : decode cX9_pushed 34 = .ok (.iload 5, 2) := by decide +kernel
theorem dX9_pushed_36 : decode cX9_pushed 36 = .ok (.iaload, 1) := by decide +kernel
theorem dX9_pushed_37 : decode cX9_pushed 37 = .ok (.if_icmp .ge 110, 3) := by decide +kernel
theorem dX9_pushed_40 : decode cX9_pushed 40 = .ok (.iload 4, 2) := by decide +kernel
theorem dX9_pushed_42 : decode cX9_pushed 42 = .ok (.iload 5, 2) := by decide +kernel
theorem dX9_pushed_44 : decode cX9_pushed 44 = .ok (.ishr, 1) := by decide +kernel
theorem dX9_pushed_45 : decode cX9_pushed 45 = .ok (.iconst 1, 1) := by decide +kernel
theorem dX9_pushed_46 : decode cX9_pushed 46 = .ok (.iand, 1) := by decide +kernel
theorem dX9_pushed_47 : decode cX9_pushed 47 = .ok (.iconst 1, 1) := by decide +kernel
theorem dX9_pushed_48 : decode cX9_pushed 48 = .ok (.if_icmp .ne 99, 3) := by decide +kernel
theorem dX9_pushed_51 : decode cX9_pushed 51 = .ok (.aload_n 0, 1) := by decide +kernel
theorem dX9_pushed_52 : decode cX9_pushed 52 = .ok (.iload 5, 2) := by decide +kernel
theorem dX9_pushed_54 : decode cX9_pushed 54 = .ok (.iload 6, 2) := by decide +kernel
theorem dX9_pushed_56 : decode cX9_pushed 56 = .ok (.aload_n 0, 1) := by decide +kernel
theorem dX9_pushed_57 : decode cX9_pushed 57 = .ok (.getfield 37, 3) := by decide +kernel
theorem dX9_pushed_60 : decode cX9_pushed 60 = .ok (.iload 5, 2) := by decide +kernel
theorem dX9_pushed_62 : decode cX9_pushed 62 = .ok (.iaload, 1) := by decide +kernel
theorem dX9_pushed_63 : decode cX9_pushed 63 = .ok (.invokevirtual 164, 3) := by decide +kernel
theorem dX9_pushed_66 : decode cX9_pushed 66 = .ok (.iload_n 2, 1) := by decide +kernel
theorem dX9_pushed_67 : decode cX9_pushed 67 = .ok (.invokestatic 175, 3) := by decide +kernel
theorem dX9_pushed_70 : decode cX9_pushed 70 = .ok (.iadd, 1) := by decide +kernel
theorem dX9_pushed_71 : decode cX9_pushed 71 = .ok (.istore 7, 2) := by decide +kernel
theorem dX9_pushed_73 : decode cX9_pushed 73 = .ok (.aload_n 0, 1) := by decide +kernel
theorem dX9_pushed_74 : decode cX9_pushed 74 = .ok (.iload 5, 2) := by decide +kernel
theorem dX9_pushed_76 : decode cX9_pushed 76 = .ok (.iload 6, 2) := by decide +kernel
theorem dX9_pushed_78 : decode cX9_pushed 78 = .ok (.aload_n 0, 1) := by decide +kernel
theorem dX9_pushed_79 : decode cX9_pushed 79 = .ok (.getfield 37, 3) := by decide +kernel
theorem dX9_pushed_82 : decode cX9_pushed 82 = .ok (.iload 5, 2) := by decide +kernel
theorem dX9_pushed_84 : decode cX9_pushed 84 = .ok (.iaload, 1) := by decide +kernel
theorem dX9_pushed_85 : decode cX9_pushed 85 = .ok (.invokevirtual 161, 3) := by decide +kernel
theorem dX9_pushed_88 : decode cX9_pushed 88 = .ok (.iload_n 2, 1) := by decide +kernel
theorem dX9_pushed_89 : decode cX9_pushed 89 = .ok (.invokestatic 179, 3) := by decide +kernel
theorem dX9_pushed_92 : decode cX9_pushed 92 = .ok (.iadd, 1) := by decide +kernel
theorem dX9_pushed_93 : decode cX9_pushed 93 = .ok (.istore 8, 2) := by decide +kernel
theorem dX9_pushed_95 : decode cX9_pushed 95 = .ok (.aload_n 0, 1) := by decide +kernel
theorem dX9_pushed_96 : decode cX9_pushed 96 = .ok (.iload 7, 2) := by decide +kernel
theorem dX9_pushed_98 : decode cX9_pushed 98 = .ok (.iload 8, 2) := by decide +kernel
theorem dX9_pushed_100 : decode cX9_pushed 100 = .ok (.invokevirtual 167, 3) := by decide +kernel
theorem dX9_pushed_103 : decode cX9_pushed 103 = .ok (.ifCond .eq 19, 3) := by decide +kernel
theorem dX9_pushed_106 : decode cX9_pushed 106 = .ok (.aload_n 0, 1) := by decide +kernel
theorem dX9_pushed_107 : decode cX9_pushed 107 = .ok (.getfield 65, 3) := by decide +kernel
theorem dX9_pushed_110 : decode cX9_pushed 110 = .ok (.bipush 8, 2) := by decide +kernel
theorem dX9_pushed_112 : decode cX9_pushed 112 = .ok (.iload 8, 2) := by decide +kernel
theorem dX9_pushed_114 : decode cX9_pushed 114 = .ok (.imul, 1) := by decide +kernel
theorem dX9_pushed_115 : decode cX9_pushed 115 = .ok (.iload 7, 2) := by decide +kernel
theorem dX9_pushed_117 : decode cX9_pushed 117 = .ok (.iadd, 1) := by decide +kernel
theorem dX9_pushed_118 : decode cX9_pushed 118 = .ok (.iaload, 1) := by decide +kernel
theorem dX9_pushed_119 : decode cX9_pushed 119 = .ok (.goto 4, 3) := by decide +kernel
theorem dX9_pushed_122 : decode cX9_pushed 122 = .ok (.iconst (-1), 1) := by decide +kernel
theorem dX9_pushed_123 : decode cX9_pushed 123 = .ok (.istore 9, 2) := by decide +kernel
theorem dX9_pushed_125 : decode cX9_pushed 125 = .ok (.iload_n 3, 1) := by decide +kernel
theorem dX9_pushed_126 : decode cX9_pushed 126 = .ok (.iload 9, 2) := by decide +kernel
theorem dX9_pushed_128 : decode cX9_pushed 128 = .ok (.ifCond .lt 10, 3) := by decide +kernel
theorem dX9_pushed_131 : decode cX9_pushed 131 = .ok (.iconst 1, 1) := by decide +kernel
theorem dX9_pushed_132 : decode cX9_pushed 132 = .ok (.iload 9, 2) := by decide +kernel
theorem dX9_pushed_134 : decode cX9_pushed 134 = .ok (.ishl, 1) := by decide +kernel
theorem dX9_pushed_135 : decode cX9_pushed 135 = .ok (.goto 4, 3) := by decide +kernel
theorem dX9_pushed_138 : decode cX9_pushed 138 = .ok (.iconst 0, 1) := by decide +kernel
theorem dX9_pushed_139 : decode cX9_pushed 139 = .ok (.ior, 1) := by decide +kernel
theorem dX9_pushed_140 : decode cX9_pushed 140 = .ok (.istore_n 3, 1) := by decide +kernel
theorem dX9_pushed_141 : decode cX9_pushed 141 = .ok (.iinc 6 1, 3) := by decide +kernel
theorem dX9_pushed_144 : decode cX9_pushed 144 = .ok (.goto (-116), 3) := by decide +kernel
theorem dX9_pushed_147 : decode cX9_pushed 147 = .ok (.iinc 5 1, 3) := by decide +kernel
theorem dX9_pushed_150 : decode cX9_pushed 150 = .ok (.goto (-131), 3) := by decide +kernel
theorem dX9_pushed_153 : decode cX9_pushed 153 = .ok (.goto (-146), 3) := by decide +kernel
theorem dX9_pushed_156 : decode cX9_pushed 156 = .ok (.iconst 0, 1) := by decide +kernel
theorem dX9_pushed_157 : decode cX9_pushed 157 = .ok (.istore 5, 2) := by decide +kernel
theorem dX9_pushed_159 : decode cX9_pushed 159 = .ok (.iconst 0, 1) := by decide +kernel
theorem dX9_pushed_160 : decode cX9_pushed 160 = .ok (.istore 6, 2) := by decide +kernel
theorem dX9_pushed_162 : decode cX9_pushed 162 = .ok (.iload 6, 2) := by decide +kernel
theorem dX9_pushed_164 : decode cX9_pushed 164 = .ok (.iconst 5, 1) := by decide +kernel
theorem dX9_pushed_165 : decode cX9_pushed 165 = .ok (.if_icmp .ge 43, 3) := by decide +kernel
theorem dX9_pushed_168 : decode cX9_pushed 168 = .ok (.iload_n 3, 1) := by decide +kernel
theorem dX9_pushed_169 : decode cX9_pushed 169 = .ok (.iload 6, 2) := by decide +kernel
theorem dX9_pushed_171 : decode cX9_pushed 171 = .ok (.ishr, 1) := by decide +kernel
theorem dX9_pushed_172 : decode cX9_pushed 172 = .ok (.iconst 1, 1) := by decide +kernel
theorem dX9_pushed_173 : decode cX9_pushed 173 = .ok (.iand, 1) := by decide +kernel
theorem dX9_pushed_174 : decode cX9_pushed 174 = .ok (.iconst 1, 1) := by decide +kernel
theorem dX9_pushed_175 : decode cX9_pushed 175 = .ok (.if_icmp .ne 27, 3) := by decide +kernel
theorem dX9_pushed_178 : decode cX9_pushed 178 = .ok (.iload 5, 2) := by decide +kernel
theorem dX9_pushed_180 : decode cX9_pushed 180 = .ok (.aload_n 0, 1) := by decide +kernel
theorem dX9_pushed_181 : decode cX9_pushed 181 = .ok (.getfield 25, 3) := by decide +kernel
theorem dX9_pushed_184 : decode cX9_pushed 184 = .ok (.iload 6, 2) := by decide +kernel
theorem dX9_pushed_186 : decode cX9_pushed 186 = .ok (.iaload, 1) := by decide +kernel
theorem dX9_pushed_187 : decode cX9_pushed 187 = .ok (.iadd, 1) := by decide +kernel
theorem dX9_pushed_188 : decode cX9_pushed 188 = .ok (.istore 5, 2) := by decide +kernel
theorem dX9_pushed_190 : decode cX9_pushed 190 = .ok (.aload_n 0, 1) := by decide +kernel
theorem dX9_pushed_191 : decode cX9_pushed 191 = .ok (.iload 6, 2) := by decide +kernel
theorem dX9_pushed_193 : decode cX9_pushed 193 = .ok (.iload_n 2, 1) := by decide +kernel
theorem dX9_pushed_194 : decode cX9_pushed 194 = .ok (.invokevirtual 182, 3) := by decide +kernel
theorem dX9_pushed_197 : decode cX9_pushed 197 = .ok (.ifCond .ne 5, 3) := by decide +kernel
theorem dX9_pushed_200 : decode cX9_pushed 200 = .ok (.iconst 0, 1) := by decide +kernel
theorem dX9_pushed_201 : decode cX9_pushed 201 = .ok (.ireturn, 1) := by decide +kernel
theorem dX9_pushed_202 : decode cX9_pushed 202 = .ok (.iinc 6 1, 3) := by decide +kernel
theorem dX9_pushed_205 : decode cX9_pushed 205 = .ok (.goto (-43), 3) := by decide +kernel
theorem dX9_pushed_208 : decode cX9_pushed 208 = .ok (.iload 5, 2) := by decide +kernel
theorem dX9_pushed_210 : decode cX9_pushed 210 = .ok (.aload_n 0, 1) := by decide +kernel
theorem dX9_pushed_211 : decode cX9_pushed 211 = .ok (.getfield 116, 3) := by decide +kernel
theorem dX9_pushed_214 : decode cX9_pushed 214 = .ok (.if_icmp .gt 7, 3) := by decide +kernel
theorem dX9_pushed_217 : decode cX9_pushed 217 = .ok (.iload_n 3, 1) := by decide +kernel
theorem dX9_pushed_218 : decode cX9_pushed 218 = .ok (.goto 4, 3) := by decide +kernel
theorem dX9_pushed_221 : decode cX9_pushed 221 = .ok (.iconst 0, 1) := by decide +kernel
theorem dX9_pushed_222 : decode cX9_pushed 222 = .ok (.ireturn, 1) := by decide +kernel
theorem dX9_maySlide_0 : decode cX9_maySlide 0 = .ok (.iconst 0, 1) := by decide +kernel
theorem dX9_maySlide_1 : decode cX9_maySlide 1 = .ok (.istore_n 3, 1) := by decide +kernel
theorem dX9_maySlide_2 : decode cX9_maySlide 2 = .ok (.iload_n 3, 1) := by decide +kernel
theorem dX9_maySlide_3 : decode cX9_maySlide 3 = .ok (.aload_n 0, 1) := by decide +kernel
theorem dX9_maySlide_4 : decode cX9_maySlide 4 = .ok (.getfield 16, 3) := by decide +kernel
theorem dX9_maySlide_7 : decode cX9_maySlide 7 = .ok (.iload_n 1, 1) := by decide +kernel
theorem dX9_maySlide_8 : decode cX9_maySlide 8 = .ok (.iaload, 1) := by decide +kernel
theorem dX9_maySlide_9 : decode cX9_maySlide 9 = .ok (.if_icmp .ge 91, 3) := by decide +kernel
theorem dX9_maySlide_12 : decode cX9_maySlide 12 = .ok (.aload_n 0, 1) := by decide +kernel
theorem dX9_maySlide_13 : decode cX9_maySlide 13 = .ok (.iload_n 1, 1) := by decide +kernel
theorem dX9_maySlide_14 : decode cX9_maySlide 14 = .ok (.iload_n 3, 1) := by decide +kernel
theorem dX9_maySlide_15 : decode cX9_maySlide 15 = .ok (.aload_n 0, 1) := by decide +kernel
theorem dX9_maySlide_16 : decode cX9_maySlide 16 = .ok (.getfield 37, 3) := by decide +kernel
theorem dX9_maySlide_19 : decode cX9_maySlide 19 = .ok (.iload_n 1, 1) := by decide +kernel
theorem dX9_maySlide_20 : decode cX9_maySlide 20 = .ok (.iaload, 1) := by decide +kernel
theorem dX9_maySlide_21 : decode cX9_maySlide 21 = .ok (.invokevirtual 164, 3) := by decide +kernel
theorem dX9_maySlide_24 : decode cX9_maySlide 24 = .ok (.iload_n 2, 1) := by decide +kernel
theorem dX9_maySlide_25 : decode cX9_maySlide 25 = .ok (.invokestatic 175, 3) := by decide +kernel
theorem dX9_maySlide_28 : decode cX9_maySlide 28 = .ok (.iadd, 1) := by decide +kernel
theorem dX9_maySlide_29 : decode cX9_maySlide 29 = .ok (.istore 4, 2) := by decide +kernel
theorem dX9_maySlide_31 : decode cX9_maySlide 31 = .ok (.aload_n 0, 1) := by decide +kernel
theorem dX9_maySlide_32 : decode cX9_maySlide 32 = .ok (.iload_n 1, 1) := by decide +kernel
theorem dX9_maySlide_33 : decode cX9_maySlide 33 = .ok (.iload_n 3, 1) := by decide +kernel
theorem dX9_maySlide_34 : decode cX9_maySlide 34 = .ok (.aload_n 0, 1) := by decide +kernel
theorem dX9_maySlide_35 : decode cX9_maySlide 35 = .ok (.getfield 37, 3) := by decide +kernel
theorem dX9_maySlide_38 : decode cX9_maySlide 38 = .ok (.iload_n 1, 1) := by decide +kernel
theorem dX9_maySlide_39 : decode cX9_maySlide 39 = .ok (.iaload, 1) := by decide +kernel
theorem dX9_maySlide_40 : decode cX9_maySlide 40 = .ok (.invokevirtual 161, 3) := by decide +kernel
theorem dX9_maySlide_43 : decode cX9_maySlide 43 = .ok (.iload_n 2, 1) := by decide +kernel
theorem dX9_maySlide_44 : decode cX9_maySlide 44 = .ok (.invokestatic 179, 3) := by decide +kernel
theorem dX9_maySlide_47 : decode cX9_maySlide 47 = .ok (.iadd, 1) := by decide +kernel
theorem dX9_maySlide_48 : decode cX9_maySlide 48 = .ok (.istore 5, 2) := by decide +kernel
theorem dX9_maySlide_50 : decode cX9_maySlide 50 = .ok (.aload_n 0, 1) := by decide +kernel
theorem dX9_maySlide_51 : decode cX9_maySlide 51 = .ok (.iload_n 1, 1) := by decide +kernel
theorem dX9_maySlide_52 : decode cX9_maySlide 52 = .ok (.iload 4, 2) := by decide +kernel
theorem dX9_maySlide_54 : decode cX9_maySlide 54 = .ok (.iload 5, 2) := by decide +kernel
theorem dX9_maySlide_56 : decode cX9_maySlide 56 = .ok (.invokevirtual 185, 3) := by decide +kernel
theorem dX9_maySlide_59 : decode cX9_maySlide 59 = .ok (.ifCond .eq 33, 3) := by decide +kernel
theorem dX9_maySlide_62 : decode cX9_maySlide 62 = .ok (.aload_n 0, 1) := by decide +kernel
theorem dX9_maySlide_63 : decode cX9_maySlide 63 = .ok (.iload 4, 2) := by decide +kernel
theorem dX9_maySlide_65 : decode cX9_maySlide 65 = .ok (.iload 5, 2) := by decide +kernel
theorem dX9_maySlide_67 : decode cX9_maySlide 67 = .ok (.invokevirtual 171, 3) := by decide +kernel
theorem dX9_maySlide_70 : decode cX9_maySlide 70 = .ok (.iconst 2, 1) := by decide +kernel
theorem dX9_maySlide_71 : decode cX9_maySlide 71 = .ok (.iconst 5, 1) := by decide +kernel
theorem dX9_maySlide_72 : decode cX9_maySlide 72 = .ok (.invokestatic 119, 3) := by decide +kernel
theorem dX9_maySlide_75 : decode cX9_maySlide 75 = .ok (.ifCond .eq 19, 3) := by decide +kernel
theorem dX9_maySlide_78 : decode cX9_maySlide 78 = .ok (.aload_n 0, 1) := by decide +kernel
theorem dX9_maySlide_79 : decode cX9_maySlide 79 = .ok (.iload 4, 2) := by decide +kernel
theorem dX9_maySlide_81 : decode cX9_maySlide 81 = .ok (.iload 5, 2) := by decide +kernel
theorem dX9_maySlide_83 : decode cX9_maySlide 83 = .ok (.invokevirtual 171, 3) := by decide +kernel
theorem dX9_maySlide_86 : decode cX9_maySlide 86 = .ok (.iconst 2, 1) := by decide +kernel
theorem dX9_maySlide_87 : decode cX9_maySlide 87 = .ok (.iload_n 2, 1) := by decide +kernel
theorem dX9_maySlide_88 : decode cX9_maySlide 88 = .ok (.iadd, 1) := by decide +kernel
theorem dX9_maySlide_89 : decode cX9_maySlide 89 = .ok (.if_icmp .eq 5, 3) := by decide +kernel
theorem dX9_maySlide_92 : decode cX9_maySlide 92 = .ok (.iconst 0, 1) := by decide +kernel
theorem dX9_maySlide_93 : decode cX9_maySlide 93 = .ok (.ireturn, 1) := by decide +kernel
theorem dX9_maySlide_94 : decode cX9_maySlide 94 = .ok (.iinc 3 1, 3) := by decide +kernel
theorem dX9_maySlide_97 : decode cX9_maySlide 97 = .ok (.goto (-95), 3) := by decide +kernel
theorem dX9_maySlide_100 : decode cX9_maySlide 100 = .ok (.iconst 1, 1) := by decide +kernel
theorem dX9_maySlide_101 : decode cX9_maySlide 101 = .ok (.ireturn, 1) := by decide +kernel
theorem dX9_goRound_0 : decode cX9_goRound 0 = .ok (.iload_n 2, 1) := by decide +kernel
theorem dX9_goRound_1 : decode cX9_goRound 1 = .ok (.ifCond .eq 10, 3) := by decide +kernel
theorem dX9_goRound_4 : decode cX9_goRound 4 = .ok (.aload_n 0, 1) := by decide +kernel
theorem dX9_goRound_5 : decode cX9_goRound 5 = .ok (.getfield 188, 3) := by decide +kernel
theorem dX9_goRound_8 : decode cX9_goRound 8 = .ok (.goto 8, 3) := by decide +kernel
theorem dX9_goRound_11 : decode cX9_goRound 11 = .ok (.aload_n 0, 1) := by decide +kernel
theorem dX9_goRound_12 : decode cX9_goRound 12 = .ok (.getfield 188, 3) := by decide +kernel
theorem dX9_goRound_15 : decode cX9_goRound 15 = .ok (.ineg, 1) := by decide +kernel
theorem dX9_goRound_16 : decode cX9_goRound 16 = .ok (.istore_n 3, 1) := by decide +kernel
theorem dX9_goRound_17 : decode cX9_goRound 17 = .ok (.aload_n 0, 1) := by decide +kernel
theorem dX9_goRound_18 : decode cX9_goRound 18 = .ok (.getfield 191, 3) := by decide +kernel
theorem dX9_goRound_21 : decode cX9_goRound 21 = .ok (.iload_n 1, 1) := by decide +kernel
theorem dX9_goRound_22 : decode cX9_goRound 22 = .ok (.ineg, 1) := by decide +kernel
theorem dX9_goRound_23 : decode cX9_goRound 23 = .ok (.if_icmp .ne 14, 3) := by decide +kernel
theorem dX9_goRound_26 : decode cX9_goRound 26 = .ok (.iload_n 3, 1) := by decide +kernel
theorem dX9_goRound_27 : decode cX9_goRound 27 = .ok (.iload_n 1, 1) := by decide +kernel
theorem dX9_goRound_28 : decode cX9_goRound 28 = .ok (.if_icmp .ge 9, 3) := by decide +kernel
theorem dX9_goRound_31 : decode cX9_goRound 31 = .ok (.iinc 3 1, 3) := by decide +kernel
theorem dX9_goRound_34 : decode cX9_goRound 34 = .ok (.goto 59, 3) := by decide +kernel
theorem dX9_goRound_37 : decode cX9_goRound 37 = .ok (.iload_n 3, 1) := by decide +kernel
theorem dX9_goRound_38 : decode cX9_goRound 38 = .ok (.iload_n 1, 1) := by decide +kernel
theorem dX9_goRound_39 : decode cX9_goRound 39 = .ok (.if_icmp .ne 24, 3) := by decide +kernel
theorem dX9_goRound_42 : decode cX9_goRound 42 = .ok (.aload_n 0, 1) := by decide +kernel
theorem dX9_goRound_43 : decode cX9_goRound 43 = .ok (.getfield 191, 3) := by decide +kernel
theorem dX9_goRound_46 : decode cX9_goRound 46 = .ok (.iload_n 1, 1) := by decide +kernel
theorem dX9_goRound_47 : decode cX9_goRound 47 = .ok (.if_icmp .ge 16, 3) := by decide +kernel
theorem dX9_goRound_50 : decode cX9_goRound 50 = .ok (.aload_n 0, 1) := by decide +kernel
theorem dX9_goRound_51 : decode cX9_goRound 51 = .ok (.dup, 1) := by decide +kernel
theorem dX9_goRound_52 : decode cX9_goRound 52 = .ok (.getfield 191, 3) := by decide +kernel
theorem dX9_goRound_55 : decode cX9_goRound 55 = .ok (.iconst 1, 1) := by decide +kernel
theorem dX9_goRound_56 : decode cX9_goRound 56 = .ok (.iadd, 1) := by decide +kernel
theorem dX9_goRound_57 : decode cX9_goRound 57 = .ok (.putfield 191, 3) := by decide +kernel
theorem dX9_goRound_60 : decode cX9_goRound 60 = .ok (.goto 33, 3) := by decide +kernel
theorem dX9_goRound_63 : decode cX9_goRound 63 = .ok (.aload_n 0, 1) := by decide +kernel
theorem dX9_goRound_64 : decode cX9_goRound 64 = .ok (.getfield 191, 3) := by decide +kernel
theorem dX9_goRound_67 : decode cX9_goRound 67 = .ok (.iload_n 1, 1) := by decide +kernel
theorem dX9_goRound_68 : decode cX9_goRound 68 = .ok (.if_icmp .ne 15, 3) := by decide +kernel
theorem dX9_goRound_71 : decode cX9_goRound 71 = .ok (.iload_n 3, 1) := by decide +kernel
theorem dX9_goRound_72 : decode cX9_goRound 72 = .ok (.iload_n 1, 1) := by decide +kernel
theorem dX9_goRound_73 : decode cX9_goRound 73 = .ok (.ineg, 1) := by decide +kernel
theorem dX9_goRound_74 : decode cX9_goRound 74 = .ok (.if_icmp .le 9, 3) := by decide +kernel
theorem dX9_goRound_77 : decode cX9_goRound 77 = .ok (.iinc 3 (-1), 3) := by decide +kernel
theorem dX9_goRound_80 : decode cX9_goRound 80 = .ok (.goto 13, 3) := by decide +kernel
theorem dX9_goRound_83 : decode cX9_goRound 83 = .ok (.aload_n 0, 1) := by decide +kernel
theorem dX9_goRound_84 : decode cX9_goRound 84 = .ok (.dup, 1) := by decide +kernel
theorem dX9_goRound_85 : decode cX9_goRound 85 = .ok (.getfield 191, 3) := by decide +kernel
theorem dX9_goRound_88 : decode cX9_goRound 88 = .ok (.iconst 1, 1) := by decide +kernel
theorem dX9_goRound_89 : decode cX9_goRound 89 = .ok (.isub, 1) := by decide +kernel
end
section
theorem dX9_goRound_90 : decode cX9_goRound 90 = .ok (.putfield 191, 3) := by decide +kernel
theorem dX9_goRound_93 : decode cX9_goRound 93 = .ok (.aload_n 0, 1) := by decide +kernel
theorem dX9_goRound_94 : decode cX9_goRound 94 = .ok (.iload_n 2, 1) := by decide +kernel
theorem dX9_goRound_95 : decode cX9_goRound 95 = .ok (.ifCond .eq 7, 3) := by decide +kernel
theorem dX9_goRound_98 : decode cX9_goRound 98 = .ok (.iload_n 3, 1) := by decide +kernel
theorem dX9_goRound_99 : decode cX9_goRound 99 = .ok (.goto 5, 3) := by decide +kernel
theorem dX9_goRound_102 : decode cX9_goRound 102 = .ok (.iload_n 3, 1) := by decide +kernel
theorem dX9_goRound_103 : decode cX9_goRound 103 = .ok (.ineg, 1) := by decide +kernel
theorem dX9_goRound_104 : decode cX9_goRound 104 = .ok (.putfield 188, 3) := by decide +kernel
theorem dX9_goRound_107 : decode cX9_goRound 107 = .ok (.return_, 1) := by decide +kernel
theorem dX9_absolute_0 : decode cX9_absolute 0 = .ok (.iload_n 0, 1) := by decide +kernel
theorem dX9_absolute_1 : decode cX9_absolute 1 = .ok (.ifCond .ge 8, 3) := by decide +kernel
theorem dX9_absolute_4 : decode cX9_absolute 4 = .ok (.iload_n 0, 1) := by decide +kernel
theorem dX9_absolute_5 : decode cX9_absolute 5 = .ok (.ineg, 1) := by decide +kernel
theorem dX9_absolute_6 : decode cX9_absolute 6 = .ok (.goto 4, 3) := by decide +kernel
theorem dX9_absolute_9 : decode cX9_absolute 9 = .ok (.iload_n 0, 1) := by decide +kernel
theorem dX9_absolute_10 : decode cX9_absolute 10 = .ok (.ireturn, 1) := by decide +kernel
theorem dX9_mayTurn_0 : decode cX9_mayTurn 0 = .ok (.aload_n 0, 1) := by decide +kernel
theorem dX9_mayTurn_1 : decode cX9_mayTurn 1 = .ok (.getfield 37, 3) := by decide +kernel
theorem dX9_mayTurn_4 : decode cX9_mayTurn 4 = .ok (.iload_n 1, 1) := by decide +kernel
theorem dX9_mayTurn_5 : decode cX9_mayTurn 5 = .ok (.iaload, 1) := by decide +kernel
theorem dX9_mayTurn_6 : decode cX9_mayTurn 6 = .ok (.bipush 8, 2) := by decide +kernel
theorem dX9_mayTurn_8 : decode cX9_mayTurn 8 = .ok (.irem, 1) := by decide +kernel
theorem dX9_mayTurn_9 : decode cX9_mayTurn 9 = .ok (.istore_n 3, 1) := by decide +kernel
theorem dX9_mayTurn_10 : decode cX9_mayTurn 10 = .ok (.aload_n 0, 1) := by decide +kernel
theorem dX9_mayTurn_11 : decode cX9_mayTurn 11 = .ok (.getfield 37, 3) := by decide +kernel
theorem dX9_mayTurn_14 : decode cX9_mayTurn 14 = .ok (.iload_n 1, 1) := by decide +kernel
theorem dX9_mayTurn_15 : decode cX9_mayTurn 15 = .ok (.iaload, 1) := by decide +kernel
theorem dX9_mayTurn_16 : decode cX9_mayTurn 16 = .ok (.bipush 8, 2) := by decide +kernel
theorem dX9_mayTurn_18 : decode cX9_mayTurn 18 = .ok (.idiv, 1) := by decide +kernel
theorem dX9_mayTurn_19 : decode cX9_mayTurn 19 = .ok (.bipush 8, 2) := by decide +kernel
theorem dX9_mayTurn_21 : decode cX9_mayTurn 21 = .ok (.irem, 1) := by decide +kernel
theorem dX9_mayTurn_22 : decode cX9_mayTurn 22 = .ok (.istore 4, 2) := by decide +kernel
theorem dX9_mayTurn_24 : decode cX9_mayTurn 24 = .ok (.iconst 0, 1) := by decide +kernel
theorem dX9_mayTurn_25 : decode cX9_mayTurn 25 = .ok (.istore 5, 2) := by decide +kernel
theorem dX9_mayTurn_27 : decode cX9_mayTurn 27 = .ok (.iload 5, 2) := by decide +kernel
theorem dX9_mayTurn_29 : decode cX9_mayTurn 29 = .ok (.aload_n 0, 1) := by decide +kernel
theorem dX9_mayTurn_30 : decode cX9_mayTurn 30 = .ok (.getfield 16, 3) := by decide +kernel
theorem dX9_mayTurn_33 : decode cX9_mayTurn 33 = .ok (.iload_n 1, 1) := by decide +kernel
theorem dX9_mayTurn_34 : decode cX9_mayTurn 34 = .ok (.iaload, 1) := by decide +kernel
theorem dX9_mayTurn_35 : decode cX9_mayTurn 35 = .ok (.if_icmp .ge 189, 3) := by decide +kernel
theorem dX9_mayTurn_38 : decode cX9_mayTurn 38 = .ok (.aload_n 0, 1) := by decide +kernel
theorem dX9_mayTurn_39 : decode cX9_mayTurn 39 = .ok (.aload_n 0, 1) := by decide +kernel
theorem dX9_mayTurn_40 : decode cX9_mayTurn 40 = .ok (.iload_n 1, 1) := by decide +kernel
theorem dX9_mayTurn_41 : decode cX9_mayTurn 41 = .ok (.iload 5, 2) := by decide +kernel
theorem dX9_mayTurn_43 : decode cX9_mayTurn 43 = .ok (.aload_n 0, 1) := by decide +kernel
theorem dX9_mayTurn_44 : decode cX9_mayTurn 44 = .ok (.getfield 37, 3) := by decide +kernel
theorem dX9_mayTurn_47 : decode cX9_mayTurn 47 = .ok (.iload_n 1, 1) := by decide +kernel
theorem dX9_mayTurn_48 : decode cX9_mayTurn 48 = .ok (.iaload, 1) := by decide +kernel
theorem dX9_mayTurn_49 : decode cX9_mayTurn 49 = .ok (.invokevirtual 164, 3) := by decide +kernel
theorem dX9_mayTurn_52 : decode cX9_mayTurn 52 = .ok (.iload_n 3, 1) := by decide +kernel
theorem dX9_mayTurn_53 : decode cX9_mayTurn 53 = .ok (.isub, 1) := by decide +kernel
theorem dX9_mayTurn_54 : decode cX9_mayTurn 54 = .ok (.putfield 188, 3) := by decide +kernel
theorem dX9_mayTurn_57 : decode cX9_mayTurn 57 = .ok (.aload_n 0, 1) := by decide +kernel
theorem dX9_mayTurn_58 : decode cX9_mayTurn 58 = .ok (.aload_n 0, 1) := by decide +kernel
theorem dX9_mayTurn_59 : decode cX9_mayTurn 59 = .ok (.iload_n 1, 1) := by decide +kernel
theorem dX9_mayTurn_60 : decode cX9_mayTurn 60 = .ok (.iload 5, 2) := by decide +kernel
theorem dX9_mayTurn_62 : decode cX9_mayTurn 62 = .ok (.aload_n 0, 1) := by decide +kernel
theorem dX9_mayTurn_63 : decode cX9_mayTurn 63 = .ok (.getfield 37, 3) := by decide +kernel
theorem dX9_mayTurn_66 : decode cX9_mayTurn 66 = .ok (.iload_n 1, 1) := by decide +kernel
theorem dX9_mayTurn_67 : decode cX9_mayTurn 67 = .ok (.iaload, 1) := by decide +kernel
theorem dX9_mayTurn_68 : decode cX9_mayTurn 68 = .ok (.invokevirtual 161, 3) := by decide +kernel
theorem dX9_mayTurn_71 : decode cX9_mayTurn 71 = .ok (.iload 4, 2) := by decide +kernel
theorem dX9_mayTurn_73 : decode cX9_mayTurn 73 = .ok (.isub, 1) := by decide +kernel
theorem dX9_mayTurn_74 : decode cX9_mayTurn 74 = .ok (.putfield 191, 3) := by decide +kernel
theorem dX9_mayTurn_77 : decode cX9_mayTurn 77 = .ok (.aload_n 0, 1) := by decide +kernel
theorem dX9_mayTurn_78 : decode cX9_mayTurn 78 = .ok (.getfield 188, 3) := by decide +kernel
theorem dX9_mayTurn_81 : decode cX9_mayTurn 81 = .ok (.invokestatic 194, 3) := by decide +kernel
theorem dX9_mayTurn_84 : decode cX9_mayTurn 84 = .ok (.aload_n 0, 1) := by decide +kernel
theorem dX9_mayTurn_85 : decode cX9_mayTurn 85 = .ok (.getfield 191, 3) := by decide +kernel
theorem dX9_mayTurn_88 : decode cX9_mayTurn 88 = .ok (.invokestatic 194, 3) := by decide +kernel
theorem dX9_mayTurn_91 : decode cX9_mayTurn 91 = .ok (.if_icmp .le 13, 3) := by decide +kernel
theorem dX9_mayTurn_94 : decode cX9_mayTurn 94 = .ok (.aload_n 0, 1) := by decide +kernel
theorem dX9_mayTurn_95 : decode cX9_mayTurn 95 = .ok (.getfield 188, 3) := by decide +kernel
theorem dX9_mayTurn_98 : decode cX9_mayTurn 98 = .ok (.invokestatic 194, 3) := by decide +kernel
theorem dX9_mayTurn_101 : decode cX9_mayTurn 101 = .ok (.goto 10, 3) := by decide +kernel
theorem dX9_mayTurn_104 : decode cX9_mayTurn 104 = .ok (.aload_n 0, 1) := by decide +kernel
theorem dX9_mayTurn_105 : decode cX9_mayTurn 105 = .ok (.getfield 191, 3) := by decide +kernel
theorem dX9_mayTurn_108 : decode cX9_mayTurn 108 = .ok (.invokestatic 194, 3) := by decide +kernel
theorem dX9_mayTurn_111 : decode cX9_mayTurn 111 = .ok (.istore 6, 2) := by decide +kernel
theorem dX9_mayTurn_113 : decode cX9_mayTurn 113 = .ok (.iconst 0, 1) := by decide +kernel
theorem dX9_mayTurn_114 : decode cX9_mayTurn 114 = .ok (.istore 7, 2) := by decide +kernel
theorem dX9_mayTurn_116 : decode cX9_mayTurn 116 = .ok (.iload 7, 2) := by decide +kernel
theorem dX9_mayTurn_118 : decode cX9_mayTurn 118 = .ok (.iconst 2, 1) := by decide +kernel
theorem dX9_mayTurn_119 : decode cX9_mayTurn 119 = .ok (.iload 6, 2) := by decide +kernel
theorem dX9_mayTurn_121 : decode cX9_mayTurn 121 = .ok (.imul, 1) := by decide +kernel
theorem dX9_mayTurn_122 : decode cX9_mayTurn 122 = .ok (.if_icmp .ge 96, 3) := by decide +kernel
theorem dX9_mayTurn_125 : decode cX9_mayTurn 125 = .ok (.aload_n 0, 1) := by decide +kernel
theorem dX9_mayTurn_126 : decode cX9_mayTurn 126 = .ok (.iload 6, 2) := by decide +kernel
theorem dX9_mayTurn_128 : decode cX9_mayTurn 128 = .ok (.iload_n 2, 1) := by decide +kernel
theorem dX9_mayTurn_129 : decode cX9_mayTurn 129 = .ok (.invokevirtual 197, 3) := by decide +kernel
theorem dX9_mayTurn_132 : decode cX9_mayTurn 132 = .ok (.iload_n 3, 1) := by decide +kernel
theorem dX9_mayTurn_133 : decode cX9_mayTurn 133 = .ok (.aload_n 0, 1) := by decide +kernel
theorem dX9_mayTurn_134 : decode cX9_mayTurn 134 = .ok (.getfield 188, 3) := by decide +kernel
theorem dX9_mayTurn_137 : decode cX9_mayTurn 137 = .ok (.iadd, 1) := by decide +kernel
theorem dX9_mayTurn_138 : decode cX9_mayTurn 138 = .ok (.istore 8, 2) := by decide +kernel
theorem dX9_mayTurn_140 : decode cX9_mayTurn 140 = .ok (.iload 4, 2) := by decide +kernel
theorem dX9_mayTurn_142 : decode cX9_mayTurn 142 = .ok (.aload_n 0, 1) := by decide +kernel
theorem dX9_mayTurn_143 : decode cX9_mayTurn 143 = .ok (.getfield 191, 3) := by decide +kernel
theorem dX9_mayTurn_146 : decode cX9_mayTurn 146 = .ok (.iadd, 1) := by decide +kernel
theorem dX9_mayTurn_147 : decode cX9_mayTurn 147 = .ok (.istore 9, 2) := by decide +kernel
theorem dX9_mayTurn_149 : decode cX9_mayTurn 149 = .ok (.aload_n 0, 1) := by decide +kernel
theorem dX9_mayTurn_150 : decode cX9_mayTurn 150 = .ok (.iload_n 1, 1) := by decide +kernel
theorem dX9_mayTurn_151 : decode cX9_mayTurn 151 = .ok (.iload 8, 2) := by decide +kernel
theorem dX9_mayTurn_153 : decode cX9_mayTurn 153 = .ok (.iload 9, 2) := by decide +kernel
theorem dX9_mayTurn_155 : decode cX9_mayTurn 155 = .ok (.invokevirtual 185, 3) := by decide +kernel
theorem dX9_mayTurn_158 : decode cX9_mayTurn 158 = .ok (.ifCond .eq 52, 3) := by decide +kernel
theorem dX9_mayTurn_161 : decode cX9_mayTurn 161 = .ok (.aload_n 0, 1) := by decide +kernel
theorem dX9_mayTurn_162 : decode cX9_mayTurn 162 = .ok (.iload 8, 2) := by decide +kernel
theorem dX9_mayTurn_164 : decode cX9_mayTurn 164 = .ok (.iload 9, 2) := by decide +kernel
theorem dX9_mayTurn_166 : decode cX9_mayTurn 166 = .ok (.invokevirtual 171, 3) := by decide +kernel
theorem dX9_mayTurn_169 : decode cX9_mayTurn 169 = .ok (.iconst 2, 1) := by decide +kernel
theorem dX9_mayTurn_170 : decode cX9_mayTurn 170 = .ok (.iconst 5, 1) := by decide +kernel
theorem dX9_mayTurn_171 : decode cX9_mayTurn 171 = .ok (.invokestatic 119, 3) := by decide +kernel
theorem dX9_mayTurn_174 : decode cX9_mayTurn 174 = .ok (.ifCond .ne 36, 3) := by decide +kernel
theorem dX9_mayTurn_177 : decode cX9_mayTurn 177 = .ok (.aload_n 0, 1) := by decide +kernel
theorem dX9_mayTurn_178 : decode cX9_mayTurn 178 = .ok (.getfield 65, 3) := by decide +kernel
theorem dX9_mayTurn_181 : decode cX9_mayTurn 181 = .ok (.bipush 8, 2) := by decide +kernel
theorem dX9_mayTurn_183 : decode cX9_mayTurn 183 = .ok (.iload 9, 2) := by decide +kernel
theorem dX9_mayTurn_185 : decode cX9_mayTurn 185 = .ok (.imul, 1) := by decide +kernel
theorem dX9_mayTurn_186 : decode cX9_mayTurn 186 = .ok (.iload 8, 2) := by decide +kernel
theorem dX9_mayTurn_188 : decode cX9_mayTurn 188 = .ok (.iadd, 1) := by decide +kernel
theorem dX9_mayTurn_189 : decode cX9_mayTurn 189 = .ok (.iaload, 1) := by decide +kernel
theorem dX9_mayTurn_190 : decode cX9_mayTurn 190 = .ok (.ifCond .lt 22, 3) := by decide +kernel
theorem dX9_mayTurn_193 : decode cX9_mayTurn 193 = .ok (.aload_n 0, 1) := by decide +kernel
theorem dX9_mayTurn_194 : decode cX9_mayTurn 194 = .ok (.getfield 65, 3) := by decide +kernel
theorem dX9_mayTurn_197 : decode cX9_mayTurn 197 = .ok (.bipush 8, 2) := by decide +kernel
theorem dX9_mayTurn_199 : decode cX9_mayTurn 199 = .ok (.iload 9, 2) := by decide +kernel
theorem dX9_mayTurn_201 : decode cX9_mayTurn 201 = .ok (.imul, 1) := by decide +kernel
theorem dX9_mayTurn_202 : decode cX9_mayTurn 202 = .ok (.iload 8, 2) := by decide +kernel
theorem dX9_mayTurn_204 : decode cX9_mayTurn 204 = .ok (.iadd, 1) := by decide +kernel
theorem dX9_mayTurn_205 : decode cX9_mayTurn 205 = .ok (.iaload, 1) := by decide +kernel
theorem dX9_mayTurn_206 : decode cX9_mayTurn 206 = .ok (.iload_n 1, 1) := by decide +kernel
theorem dX9_mayTurn_207 : decode cX9_mayTurn 207 = .ok (.if_icmp .eq 5, 3) := by decide +kernel
theorem dX9_mayTurn_210 : decode cX9_mayTurn 210 = .ok (.iconst 0, 1) := by decide +kernel
theorem dX9_mayTurn_211 : decode cX9_mayTurn 211 = .ok (.ireturn, 1) := by decide +kernel
theorem dX9_mayTurn_212 : decode cX9_mayTurn 212 = .ok (.iinc 7 1, 3) := by decide +kernel
theorem dX9_mayTurn_215 : decode cX9_mayTurn 215 = .ok (.goto (-99), 3) := by decide +kernel
theorem dX9_mayTurn_218 : decode cX9_mayTurn 218 = .ok (.iinc 5 1, 3) := by decide +kernel
theorem dX9_mayTurn_221 : decode cX9_mayTurn 221 = .ok (.goto (-194), 3) := by decide +kernel
theorem dX9_mayTurn_224 : decode cX9_mayTurn 224 = .ok (.iconst 1, 1) := by decide +kernel
theorem dX9_mayTurn_225 : decode cX9_mayTurn 225 = .ok (.ireturn, 1) := by decide +kernel
theorem dX9_movedBy_0 : decode cX9_movedBy 0 = .ok (.aload_n 0, 1) := by decide +kernel
theorem dX9_movedBy_1 : decode cX9_movedBy 1 = .ok (.invokevirtual 201, 3) := by decide +kernel
theorem dX9_movedBy_4 : decode cX9_movedBy 4 = .ok (.iload_n 2, 1) := by decide +kernel
theorem dX9_movedBy_5 : decode cX9_movedBy 5 = .ok (.iconst 4, 1) := by decide +kernel
theorem dX9_movedBy_6 : decode cX9_movedBy 6 = .ok (.if_icmp .ge 12, 3) := by decide +kernel
theorem dX9_movedBy_9 : decode cX9_movedBy 9 = .ok (.aload_n 0, 1) := by decide +kernel
theorem dX9_movedBy_10 : decode cX9_movedBy 10 = .ok (.iload_n 1, 1) := by decide +kernel
theorem dX9_movedBy_11 : decode cX9_movedBy 11 = .ok (.iload_n 2, 1) := by decide +kernel
theorem dX9_movedBy_12 : decode cX9_movedBy 12 = .ok (.invokevirtual 204, 3) := by decide +kernel
theorem dX9_movedBy_15 : decode cX9_movedBy 15 = .ok (.goto 28, 3) := by decide +kernel
theorem dX9_movedBy_18 : decode cX9_movedBy 18 = .ok (.aload_n 0, 1) := by decide +kernel
theorem dX9_movedBy_19 : decode cX9_movedBy 19 = .ok (.iload_n 1, 1) := by decide +kernel
theorem dX9_movedBy_20 : decode cX9_movedBy 20 = .ok (.iload_n 2, 1) := by decide +kernel
theorem dX9_movedBy_21 : decode cX9_movedBy 21 = .ok (.iconst 4, 1) := by decide +kernel
theorem dX9_movedBy_22 : decode cX9_movedBy 22 = .ok (.if_icmp .ne 7, 3) := by decide +kernel
theorem dX9_movedBy_25 : decode cX9_movedBy 25 = .ok (.iconst 1, 1) := by decide +kernel
theorem dX9_movedBy_26 : decode cX9_movedBy 26 = .ok (.goto 4, 3) := by decide +kernel
theorem dX9_movedBy_29 : decode cX9_movedBy 29 = .ok (.iconst 0, 1) := by decide +kernel
theorem dX9_movedBy_30 : decode cX9_movedBy 30 = .ok (.invokevirtual 207, 3) := by decide +kernel
theorem dX9_movedBy_33 : decode cX9_movedBy 33 = .ok (.ifCond .eq 9, 3) := by decide +kernel
theorem dX9_movedBy_36 : decode cX9_movedBy 36 = .ok (.iconst 1, 1) := by decide +kernel
theorem dX9_movedBy_37 : decode cX9_movedBy 37 = .ok (.iload_n 1, 1) := by decide +kernel
theorem dX9_movedBy_38 : decode cX9_movedBy 38 = .ok (.ishl, 1) := by decide +kernel
theorem dX9_movedBy_39 : decode cX9_movedBy 39 = .ok (.goto 4, 3) := by decide +kernel
theorem dX9_movedBy_42 : decode cX9_movedBy 42 = .ok (.iconst 0, 1) := by decide +kernel
theorem dX9_movedBy_43 : decode cX9_movedBy 43 = .ok (.ireturn, 1) := by decide +kernel
theorem dX9_placeBehind_0 : decode cX9_placeBehind 0 = .ok (.iload_n 1, 1) := by decide +kernel
theorem dX9_placeBehind_1 : decode cX9_placeBehind 1 = .ok (.iconst 4, 1) := by decide +kernel
theorem dX9_placeBehind_2 : decode cX9_placeBehind 2 = .ok (.if_icmp .ge 20, 3) := by decide +kernel
theorem dX9_placeBehind_5 : decode cX9_placeBehind 5 = .ok (.iload_n 0, 1) := by decide +kernel
theorem dX9_placeBehind_6 : decode cX9_placeBehind 6 = .ok (.iload_n 1, 1) := by decide +kernel
theorem dX9_placeBehind_7 : decode cX9_placeBehind 7 = .ok (.invokestatic 175, 3) := by decide +kernel
theorem dX9_placeBehind_10 : decode cX9_placeBehind 10 = .ok (.iadd, 1) := by decide +kernel
theorem dX9_placeBehind_11 : decode cX9_placeBehind 11 = .ok (.bipush 8, 2) := by decide +kernel
theorem dX9_placeBehind_13 : decode cX9_placeBehind 13 = .ok (.iload_n 1, 1) := by decide +kernel
theorem dX9_placeBehind_14 : decode cX9_placeBehind 14 = .ok (.invokestatic 179, 3) := by decide +kernel
theorem dX9_placeBehind_17 : decode cX9_placeBehind 17 = .ok (.imul, 1) := by decide +kernel
theorem dX9_placeBehind_18 : decode cX9_placeBehind 18 = .ok (.iadd, 1) := by decide +kernel
theorem dX9_placeBehind_19 : decode cX9_placeBehind 19 = .ok (.goto 22, 3) := by decide +kernel
theorem dX9_placeBehind_22 : decode cX9_placeBehind 22 = .ok (.iload_n 0, 1) := by decide +kernel
theorem dX9_placeBehind_23 : decode cX9_placeBehind 23 = .ok (.iload_n 1, 1) := by decide +kernel
theorem dX9_placeBehind_24 : decode cX9_placeBehind 24 = .ok (.iconst 4, 1) := by decide +kernel
theorem dX9_placeBehind_25 : decode cX9_placeBehind 25 = .ok (.if_icmp .ne 8, 3) := by decide +kernel
theorem dX9_placeBehind_28 : decode cX9_placeBehind 28 = .ok (.bipush 64, 2) := by decide +kernel
theorem dX9_placeBehind_30 : decode cX9_placeBehind 30 = .ok (.goto 6, 3) := by decide +kernel
theorem dX9_placeBehind_33 : decode cX9_placeBehind 33 = .ok (.sipush 192, 3) := by decide +kernel
theorem dX9_placeBehind_36 : decode cX9_placeBehind 36 = .ok (.iadd, 1) := by decide +kernel
theorem dX9_placeBehind_37 : decode cX9_placeBehind 37 = .ok (.sipush 256, 3) := by decide +kernel
theorem dX9_placeBehind_40 : decode cX9_placeBehind 40 = .ok (.irem, 1) := by decide +kernel
theorem dX9_placeBehind_41 : decode cX9_placeBehind 41 = .ok (.ireturn, 1) := by decide +kernel
theorem dX9_carryOut_0 : decode cX9_carryOut 0 = .ok (.iconst 0, 1) := by decide +kernel
theorem dX9_carryOut_1 : decode cX9_carryOut 1 = .ok (.istore_n 3, 1) := by decide +kernel
theorem dX9_carryOut_2 : decode cX9_carryOut 2 = .ok (.iload_n 3, 1) := by decide +kernel
theorem dX9_carryOut_3 : decode cX9_carryOut 3 = .ok (.iconst 5, 1) := by decide +kernel
theorem dX9_carryOut_4 : decode cX9_carryOut 4 = .ok (.if_icmp .ge 43, 3) := by decide +kernel
theorem dX9_carryOut_7 : decode cX9_carryOut 7 = .ok (.aload_n 0, 1) := by decide +kernel
theorem dX9_carryOut_8 : decode cX9_carryOut 8 = .ok (.getfield 37, 3) := by decide +kernel
theorem dX9_carryOut_11 : decode cX9_carryOut 11 = .ok (.iload_n 3, 1) := by decide +kernel
theorem dX9_carryOut_12 : decode cX9_carryOut 12 = .ok (.iload_n 1, 1) := by decide +kernel
theorem dX9_carryOut_13 : decode cX9_carryOut 13 = .ok (.iload_n 3, 1) := by decide +kernel
theorem dX9_carryOut_14 : decode cX9_carryOut 14 = .ok (.ishr, 1) := by decide +kernel
theorem dX9_carryOut_15 : decode cX9_carryOut 15 = .ok (.iconst 1, 1) := by decide +kernel
theorem dX9_carryOut_16 : decode cX9_carryOut 16 = .ok (.iand, 1) := by decide +kernel
theorem dX9_carryOut_17 : decode cX9_carryOut 17 = .ok (.iconst 1, 1) := by decide +kernel
theorem dX9_carryOut_18 : decode cX9_carryOut 18 = .ok (.if_icmp .ne 16, 3) := by decide +kernel
theorem dX9_carryOut_21 : decode cX9_carryOut 21 = .ok (.aload_n 0, 1) := by decide +kernel
theorem dX9_carryOut_22 : decode cX9_carryOut 22 = .ok (.getfield 37, 3) := by decide +kernel
theorem dX9_carryOut_25 : decode cX9_carryOut 25 = .ok (.iload_n 3, 1) := by decide +kernel
theorem dX9_carryOut_26 : decode cX9_carryOut 26 = .ok (.iaload, 1) := by decide +kernel
theorem dX9_carryOut_27 : decode cX9_carryOut 27 = .ok (.iload_n 2, 1) := by decide +kernel
theorem dX9_carryOut_28 : decode cX9_carryOut 28 = .ok (.invokestatic 211, 3) := by decide +kernel
theorem dX9_carryOut_31 : decode cX9_carryOut 31 = .ok (.goto 9, 3) := by decide +kernel
theorem dX9_carryOut_34 : decode cX9_carryOut 34 = .ok (.aload_n 0, 1) := by decide +kernel
theorem dX9_carryOut_35 : decode cX9_carryOut 35 = .ok (.getfield 37, 3) := by decide +kernel
theorem dX9_carryOut_38 : decode cX9_carryOut 38 = .ok (.iload_n 3, 1) := by decide +kernel
theorem dX9_carryOut_39 : decode cX9_carryOut 39 = .ok (.iaload, 1) := by decide +kernel
theorem dX9_carryOut_40 : decode cX9_carryOut 40 = .ok (.iastore, 1) := by decide +kernel
theorem dX9_carryOut_41 : decode cX9_carryOut 41 = .ok (.iinc 3 1, 3) := by decide +kernel
theorem dX9_carryOut_44 : decode cX9_carryOut 44 = .ok (.goto (-42), 3) := by decide +kernel
theorem dX9_carryOut_47 : decode cX9_carryOut 47 = .ok (.return_, 1) := by decide +kernel
theorem dX9_weightBy_0 : decode cX9_weightBy 0 = .ok (.iconst 0, 1) := by decide +kernel
theorem dX9_weightBy_1 : decode cX9_weightBy 1 = .ok (.istore_n 2, 1) := by decide +kernel
theorem dX9_weightBy_2 : decode cX9_weightBy 2 = .ok (.iconst 0, 1) := by decide +kernel
theorem dX9_weightBy_3 : decode cX9_weightBy 3 = .ok (.istore_n 3, 1) := by decide +kernel
theorem dX9_weightBy_4 : decode cX9_weightBy 4 = .ok (.iload_n 3, 1) := by decide +kernel
theorem dX9_weightBy_5 : decode cX9_weightBy 5 = .ok (.iconst 5, 1) := by decide +kernel
theorem dX9_weightBy_6 : decode cX9_weightBy 6 = .ok (.if_icmp .ge 24, 3) := by decide +kernel
theorem dX9_weightBy_9 : decode cX9_weightBy 9 = .ok (.iload_n 2, 1) := by decide +kernel
theorem dX9_weightBy_10 : decode cX9_weightBy 10 = .ok (.iload_n 1, 1) := by decide +kernel
theorem dX9_weightBy_11 : decode cX9_weightBy 11 = .ok (.iload_n 3, 1) := by decide +kernel
theorem dX9_weightBy_12 : decode cX9_weightBy 12 = .ok (.ishr, 1) := by decide +kernel
theorem dX9_weightBy_13 : decode cX9_weightBy 13 = .ok (.iconst 1, 1) := by decide +kernel
theorem dX9_weightBy_14 : decode cX9_weightBy 14 = .ok (.iand, 1) := by decide +kernel
theorem dX9_weightBy_15 : decode cX9_weightBy 15 = .ok (.aload_n 0, 1) := by decide +kernel
theorem dX9_weightBy_16 : decode cX9_weightBy 16 = .ok (.getfield 25, 3) := by decide +kernel
theorem dX9_weightBy_19 : decode cX9_weightBy 19 = .ok (.iload_n 3, 1) := by decide +kernel
theorem dX9_weightBy_20 : decode cX9_weightBy 20 = .ok (.iaload, 1) := by decide +kernel
theorem dX9_weightBy_21 : decode cX9_weightBy 21 = .ok (.imul, 1) := by decide +kernel
theorem dX9_weightBy_22 : decode cX9_weightBy 22 = .ok (.iadd, 1) := by decide +kernel
theorem dX9_weightBy_23 : decode cX9_weightBy 23 = .ok (.istore_n 2, 1) := by decide +kernel
theorem dX9_weightBy_24 : decode cX9_weightBy 24 = .ok (.iinc 3 1, 3) := by decide +kernel
theorem dX9_weightBy_27 : decode cX9_weightBy 27 = .ok (.goto (-23), 3) := by decide +kernel
theorem dX9_weightBy_30 : decode cX9_weightBy 30 = .ok (.iload_n 2, 1) := by decide +kernel
theorem dX9_weightBy_31 : decode cX9_weightBy 31 = .ok (.ireturn, 1) := by decide +kernel
theorem dX9_makes_0 : decode cX9_makes 0 = .ok (.aload_n 0, 1) := by decide +kernel
theorem dX9_makes_1 : decode cX9_makes 1 = .ok (.getfield 71, 3) := by decide +kernel
theorem dX9_makes_4 : decode cX9_makes 4 = .ok (.aload_n 0, 1) := by decide +kernel
theorem dX9_makes_5 : decode cX9_makes 5 = .ok (.getfield 153, 3) := by decide +kernel
theorem dX9_makes_8 : decode cX9_makes 8 = .ok (.bipush 10, 2) := by decide +kernel
theorem dX9_makes_10 : decode cX9_makes 10 = .ok (.iload_n 1, 1) := by decide +kernel
theorem dX9_makes_11 : decode cX9_makes 11 = .ok (.imul, 1) := by decide +kernel
theorem dX9_makes_12 : decode cX9_makes 12 = .ok (.iload_n 2, 1) := by decide +kernel
theorem dX9_makes_13 : decode cX9_makes 13 = .ok (.iadd, 1) := by decide +kernel
theorem dX9_makes_14 : decode cX9_makes 14 = .ok (.iastore, 1) := by decide +kernel
theorem dX9_makes_15 : decode cX9_makes 15 = .ok (.aload_n 0, 1) := by decide +kernel
theorem dX9_makes_16 : decode cX9_makes 16 = .ok (.getfield 74, 3) := by decide +kernel
theorem dX9_makes_19 : decode cX9_makes 19 = .ok (.aload_n 0, 1) := by decide +kernel
theorem dX9_makes_20 : decode cX9_makes 20 = .ok (.getfield 153, 3) := by decide +kernel
theorem dX9_makes_23 : decode cX9_makes 23 = .ok (.aload_n 0, 1) := by decide +kernel
theorem dX9_makes_24 : decode cX9_makes 24 = .ok (.iload_n 3, 1) := by decide +kernel
theorem dX9_makes_25 : decode cX9_makes 25 = .ok (.invokevirtual 214, 3) := by decide +kernel
theorem dX9_makes_28 : decode cX9_makes 28 = .ok (.iastore, 1) := by decide +kernel
theorem dX9_makes_29 : decode cX9_makes 29 = .ok (.aload_n 0, 1) := by decide +kernel
theorem dX9_makes_30 : decode cX9_makes 30 = .ok (.getfield 77, 3) := by decide +kernel
theorem dX9_makes_33 : decode cX9_makes 33 = .ok (.aload_n 0, 1) := by decide +kernel
theorem dX9_makes_34 : decode cX9_makes 34 = .ok (.getfield 153, 3) := by decide +kernel
theorem dX9_makes_37 : decode cX9_makes 37 = .ok (.aload_n 0, 1) := by decide +kernel
theorem dX9_makes_38 : decode cX9_makes 38 = .ok (.invokevirtual 217, 3) := by decide +kernel
theorem dX9_makes_41 : decode cX9_makes 41 = .ok (.lastore, 1) := by decide +kernel
theorem dX9_makes_42 : decode cX9_makes 42 = .ok (.aload_n 0, 1) := by decide +kernel
theorem dX9_makes_43 : decode cX9_makes 43 = .ok (.iload_n 3, 1) := by decide +kernel
theorem dX9_makes_44 : decode cX9_makes 44 = .ok (.iload_n 2, 1) := by decide +kernel
theorem dX9_makes_45 : decode cX9_makes 45 = .ok (.invokevirtual 221, 3) := by decide +kernel
theorem dX9_makes_48 : decode cX9_makes 48 = .ok (.aload_n 0, 1) := by decide +kernel
theorem dX9_makes_49 : decode cX9_makes 49 = .ok (.getfield 81, 3) := by decide +kernel
theorem dX9_makes_52 : decode cX9_makes 52 = .ok (.aload_n 0, 1) := by decide +kernel
theorem dX9_makes_53 : decode cX9_makes 53 = .ok (.getfield 153, 3) := by decide +kernel
theorem dX9_makes_56 : decode cX9_makes 56 = .ok (.aload_n 0, 1) := by decide +kernel
theorem dX9_makes_57 : decode cX9_makes 57 = .ok (.invokevirtual 217, 3) := by decide +kernel
theorem dX9_makes_60 : decode cX9_makes 60 = .ok (.lastore, 1) := by decide +kernel
theorem dX9_makes_61 : decode cX9_makes 61 = .ok (.aload_n 0, 1) := by decide +kernel
theorem dX9_makes_62 : decode cX9_makes 62 = .ok (.dup, 1) := by decide +kernel
theorem dX9_makes_63 : decode cX9_makes 63 = .ok (.getfield 153, 3) := by decide +kernel
theorem dX9_makes_66 : decode cX9_makes 66 = .ok (.iconst 1, 1) := by decide +kernel
theorem dX9_makes_67 : decode cX9_makes 67 = .ok (.iadd, 1) := by decide +kernel
theorem dX9_makes_68 : decode cX9_makes 68 = .ok (.putfield 153, 3) := by decide +kernel
theorem dX9_makes_71 : decode cX9_makes 71 = .ok (.aload_n 0, 1) := by decide +kernel
theorem dX9_makes_72 : decode cX9_makes 72 = .ok (.aload_n 0, 1) := by decide +kernel
theorem dX9_makes_73 : decode cX9_makes 73 = .ok (.getfield 153, 3) := by decide +kernel
theorem dX9_makes_76 : decode cX9_makes 76 = .ok (.putfield 156, 3) := by decide +kernel
theorem dX9_makes_79 : decode cX9_makes 79 = .ok (.return_, 1) := by decide +kernel
theorem dX9_moveBarred_0 : decode cX9_moveBarred 0 = .ok (.aload_n 0, 1) := by decide +kernel
theorem dX9_moveBarred_1 : decode cX9_moveBarred 1 = .ok (.iload_n 1, 1) := by decide +kernel
theorem dX9_moveBarred_2 : decode cX9_moveBarred 2 = .ok (.invokevirtual 225, 3) := by decide +kernel
theorem dX9_moveBarred_5 : decode cX9_moveBarred 5 = .ok (.ifCond .eq 7, 3) := by decide +kernel
theorem dX9_moveBarred_8 : decode cX9_moveBarred 8 = .ok (.iconst (-1), 1) := by decide +kernel
theorem dX9_moveBarred_9 : decode cX9_moveBarred 9 = .ok (.goto 18, 3) := by decide +kernel
theorem dX9_moveBarred_12 : decode cX9_moveBarred 12 = .ok (.iload_n 2, 1) := by decide +kernel
theorem dX9_moveBarred_13 : decode cX9_moveBarred 13 = .ok (.iconst 0, 1) := by decide +kernel
theorem dX9_moveBarred_14 : decode cX9_moveBarred 14 = .ok (.iconst 5, 1) := by decide +kernel
theorem dX9_moveBarred_15 : decode cX9_moveBarred 15 = .ok (.invokestatic 119, 3) := by decide +kernel
theorem dX9_moveBarred_18 : decode cX9_moveBarred 18 = .ok (.ifCond .eq 7, 3) := by decide +kernel
theorem dX9_moveBarred_21 : decode cX9_moveBarred 21 = .ok (.iconst 0, 1) := by decide +kernel
theorem dX9_moveBarred_22 : decode cX9_moveBarred 22 = .ok (.goto 5, 3) := by decide +kernel
theorem dX9_moveBarred_25 : decode cX9_moveBarred 25 = .ok (.bipush (-3), 2) := by decide +kernel
theorem dX9_moveBarred_27 : decode cX9_moveBarred 27 = .ok (.ireturn, 1) := by decide +kernel
theorem dX9_moved_0 : decode cX9_moved 0 = .ok (.aload_n 0, 1) := by decide +kernel
theorem dX9_moved_1 : decode cX9_moved 1 = .ok (.iload_n 1, 1) := by decide +kernel
theorem dX9_moved_2 : decode cX9_moved 2 = .ok (.iload_n 2, 1) := by decide +kernel
theorem dX9_moved_3 : decode cX9_moved 3 = .ok (.invokevirtual 229, 3) := by decide +kernel
theorem dX9_moved_6 : decode cX9_moved 6 = .ok (.istore_n 3, 1) := by decide +kernel
theorem dX9_moved_7 : decode cX9_moved 7 = .ok (.iload_n 3, 1) := by decide +kernel
theorem dX9_moved_8 : decode cX9_moved 8 = .ok (.ifCond .ge 5, 3) := by decide +kernel
theorem dX9_moved_11 : decode cX9_moved 11 = .ok (.iload_n 3, 1) := by decide +kernel
theorem dX9_moved_12 : decode cX9_moved 12 = .ok (.ireturn, 1) := by decide +kernel
theorem dX9_moved_13 : decode cX9_moved 13 = .ok (.aload_n 0, 1) := by decide +kernel
theorem dX9_moved_14 : decode cX9_moved 14 = .ok (.iload_n 1, 1) := by decide +kernel
theorem dX9_moved_15 : decode cX9_moved 15 = .ok (.iload_n 2, 1) := by decide +kernel
theorem dX9_moved_16 : decode cX9_moved 16 = .ok (.invokevirtual 232, 3) := by decide +kernel
theorem dX9_moved_19 : decode cX9_moved 19 = .ok (.istore 4, 2) := by decide +kernel
theorem dX9_moved_21 : decode cX9_moved 21 = .ok (.iload 4, 2) := by decide +kernel
theorem dX9_moved_23 : decode cX9_moved 23 = .ok (.ifCond .ne 8, 3) := by decide +kernel
theorem dX9_moved_26 : decode cX9_moved 26 = .ok (.bipush (-4), 2) := by decide +kernel
theorem dX9_moved_28 : decode cX9_moved 28 = .ok (.goto 5, 3) := by decide +kernel
theorem dX9_moved_31 : decode cX9_moved 31 = .ok (.iload 4, 2) := by decide +kernel
theorem dX9_moved_33 : decode cX9_moved 33 = .ok (.ireturn, 1) := by decide +kernel
theorem dX9_move_0 : decode cX9_move 0 = .ok (.aload_n 0, 1) := by decide +kernel
theorem dX9_move_1 : decode cX9_move 1 = .ok (.iload_n 1, 1) := by decide +kernel
theorem dX9_move_2 : decode cX9_move 2 = .ok (.iload_n 2, 1) := by decide +kernel
theorem dX9_move_3 : decode cX9_move 3 = .ok (.invokevirtual 229, 3) := by decide +kernel
theorem dX9_move_6 : decode cX9_move 6 = .ok (.istore_n 3, 1) := by decide +kernel
theorem dX9_move_7 : decode cX9_move 7 = .ok (.iload_n 3, 1) := by decide +kernel
theorem dX9_move_8 : decode cX9_move 8 = .ok (.ifCond .ge 5, 3) := by decide +kernel
theorem dX9_move_11 : decode cX9_move 11 = .ok (.iload_n 3, 1) := by decide +kernel
theorem dX9_move_12 : decode cX9_move 12 = .ok (.ireturn, 1) := by decide +kernel
theorem dX9_move_13 : decode cX9_move 13 = .ok (.aload_n 0, 1) := by decide +kernel
theorem dX9_move_14 : decode cX9_move 14 = .ok (.iload_n 1, 1) := by decide +kernel
theorem dX9_move_15 : decode cX9_move 15 = .ok (.iload_n 2, 1) := by decide +kernel
theorem dX9_move_16 : decode cX9_move 16 = .ok (.invokevirtual 232, 3) := by decide +kernel
theorem dX9_move_19 : decode cX9_move 19 = .ok (.istore 4, 2) := by decide +kernel
theorem dX9_move_21 : decode cX9_move 21 = .ok (.iload 4, 2) := by decide +kernel
theorem dX9_move_23 : decode cX9_move 23 = .ok (.ifCond .ne 6, 3) := by decide +kernel
theorem dX9_move_26 : decode cX9_move 26 = .ok (.bipush (-4), 2) := by decide +kernel
theorem dX9_move_28 : decode cX9_move 28 = .ok (.ireturn, 1) := by decide +kernel
theorem dX9_move_29 : decode cX9_move 29 = .ok (.aload_n 0, 1) := by decide +kernel
theorem dX9_move_30 : decode cX9_move 30 = .ok (.getfield 153, 3) := by decide +kernel
theorem dX9_move_33 : decode cX9_move 33 = .ok (.sipush 200, 3) := by decide +kernel
theorem dX9_move_36 : decode cX9_move 36 = .ok (.if_icmp .ne 6, 3) := by decide +kernel
theorem dX9_move_39 : decode cX9_move 39 = .ok (.bipush (-5), 2) := by decide +kernel
theorem dX9_move_41 : decode cX9_move 41 = .ok (.ireturn, 1) := by decide +kernel
theorem dX9_move_42 : decode cX9_move 42 = .ok (.aload_n 0, 1) := by decide +kernel
theorem dX9_move_43 : decode cX9_move 43 = .ok (.iload_n 1, 1) := by decide +kernel
theorem dX9_move_44 : decode cX9_move 44 = .ok (.iload_n 2, 1) := by decide +kernel
theorem dX9_move_45 : decode cX9_move 45 = .ok (.iload 4, 2) := by decide +kernel
theorem dX9_move_47 : decode cX9_move 47 = .ok (.invokevirtual 235, 3) := by decide +kernel
theorem dX9_move_50 : decode cX9_move 50 = .ok (.aload_n 0, 1) := by decide +kernel
theorem dX9_move_51 : decode cX9_move 51 = .ok (.getfield 153, 3) := by decide +kernel
theorem dX9_move_54 : decode cX9_move 54 = .ok (.ireturn, 1) := by decide +kernel
theorem dX9_possibleAt_0 : decode cX9_possibleAt 0 = .ok (.iconst 0, 1) := by decide +kernel
theorem dX9_possibleAt_1 : decode cX9_possibleAt 1 = .ok (.istore_n 2, 1) := by decide +kernel
theorem dX9_possibleAt_2 : decode cX9_possibleAt 2 = .ok (.iconst 0, 1) := by decide +kernel
theorem dX9_possibleAt_3 : decode cX9_possibleAt 3 = .ok (.istore_n 3, 1) := by decide +kernel
theorem dX9_possibleAt_4 : decode cX9_possibleAt 4 = .ok (.iload_n 3, 1) := by decide +kernel
theorem dX9_possibleAt_5 : decode cX9_possibleAt 5 = .ok (.iconst 5, 1) := by decide +kernel
theorem dX9_possibleAt_6 : decode cX9_possibleAt 6 = .ok (.if_icmp .ge 60, 3) := by decide +kernel
theorem dX9_possibleAt_9 : decode cX9_possibleAt 9 = .ok (.iconst 0, 1) := by decide +kernel
theorem dX9_possibleAt_10 : decode cX9_possibleAt 10 = .ok (.istore 4, 2) := by decide +kernel
theorem dX9_possibleAt_12 : decode cX9_possibleAt 12 = .ok (.iload 4, 2) := by decide +kernel
theorem dX9_possibleAt_14 : decode cX9_possibleAt 14 = .ok (.bipush 6, 2) := by decide +kernel
theorem dX9_possibleAt_16 : decode cX9_possibleAt 16 = .ok (.if_icmp .ge 44, 3) := by decide +kernel
theorem dX9_possibleAt_19 : decode cX9_possibleAt 19 = .ok (.aload_n 0, 1) := by decide +kernel
theorem dX9_possibleAt_20 : decode cX9_possibleAt 20 = .ok (.getfield 16, 3) := by decide +kernel
theorem dX9_possibleAt_23 : decode cX9_possibleAt 23 = .ok (.iload_n 3, 1) := by decide +kernel
theorem dX9_possibleAt_24 : decode cX9_possibleAt 24 = .ok (.iaload, 1) := by decide +kernel
theorem dX9_possibleAt_25 : decode cX9_possibleAt 25 = .ok (.ifCond .le 35, 3) := by decide +kernel
theorem dX9_possibleAt_28 : decode cX9_possibleAt 28 = .ok (.aload_n 0, 1) := by decide +kernel
theorem dX9_possibleAt_29 : decode cX9_possibleAt 29 = .ok (.iload_n 3, 1) := by decide +kernel
theorem dX9_possibleAt_30 : decode cX9_possibleAt 30 = .ok (.iload 4, 2) := by decide +kernel
theorem dX9_possibleAt_32 : decode cX9_possibleAt 32 = .ok (.invokevirtual 232, 3) := by decide +kernel
theorem dX9_possibleAt_35 : decode cX9_possibleAt 35 = .ok (.ifCond .le 19, 3) := by decide +kernel
theorem dX9_possibleAt_38 : decode cX9_possibleAt 38 = .ok (.iload_n 2, 1) := by decide +kernel
theorem dX9_possibleAt_39 : decode cX9_possibleAt 39 = .ok (.iload_n 1, 1) := by decide +kernel
theorem dX9_possibleAt_40 : decode cX9_possibleAt 40 = .ok (.if_icmp .ne 11, 3) := by decide +kernel
theorem dX9_possibleAt_43 : decode cX9_possibleAt 43 = .ok (.bipush 10, 2) := by decide +kernel
theorem dX9_possibleAt_45 : decode cX9_possibleAt 45 = .ok (.iload_n 3, 1) := by decide +kernel
theorem dX9_possibleAt_46 : decode cX9_possibleAt 46 = .ok (.imul, 1) := by decide +kernel
theorem dX9_possibleAt_47 : decode cX9_possibleAt 47 = .ok (.iload 4, 2) := by decide +kernel
theorem dX9_possibleAt_49 : decode cX9_possibleAt 49 = .ok (.iadd, 1) := by decide +kernel
theorem dX9_possibleAt_50 : decode cX9_possibleAt 50 = .ok (.ireturn, 1) := by decide +kernel
theorem dX9_possibleAt_51 : decode cX9_possibleAt 51 = .ok (.iinc 2 1, 3) := by decide +kernel
theorem dX9_possibleAt_54 : decode cX9_possibleAt 54 = .ok (.iinc 4 1, 3) := by decide +kernel
theorem dX9_possibleAt_57 : decode cX9_possibleAt 57 = .ok (.goto (-45), 3) := by decide +kernel
theorem dX9_possibleAt_60 : decode cX9_possibleAt 60 = .ok (.iinc 3 1, 3) := by decide +kernel
theorem dX9_possibleAt_63 : decode cX9_possibleAt 63 = .ok (.goto (-59), 3) := by decide +kernel
theorem dX9_possibleAt_66 : decode cX9_possibleAt 66 = .ok (.iload_n 2, 1) := by decide +kernel
theorem dX9_possibleAt_67 : decode cX9_possibleAt 67 = .ok (.ineg, 1) := by decide +kernel
theorem dX9_possibleAt_68 : decode cX9_possibleAt 68 = .ok (.iconst 1, 1) := by decide +kernel
theorem dX9_possibleAt_69 : decode cX9_possibleAt 69 = .ok (.isub, 1) := by decide +kernel
theorem dX9_possibleAt_70 : decode cX9_possibleAt 70 = .ok (.ireturn, 1) := by decide +kernel
theorem dX9_possibleCount_0 : decode cX9_possibleCount 0 = .ok (.aload_n 0, 1) := by decide +kernel
theorem dX9_possibleCount_1 : decode cX9_possibleCount 1 = .ok (.iconst (-1), 1) := by decide +kernel
theorem dX9_possibleCount_2 : decode cX9_possibleCount 2 = .ok (.invokevirtual 239, 3) := by decide +kernel
theorem dX9_possibleCount_5 : decode cX9_possibleCount 5 = .ok (.ineg, 1) := by decide +kernel
theorem dX9_possibleCount_6 : decode cX9_possibleCount 6 = .ok (.iconst 1, 1) := by decide +kernel
theorem dX9_possibleCount_7 : decode cX9_possibleCount 7 = .ok (.isub, 1) := by decide +kernel
theorem dX9_possibleCount_8 : decode cX9_possibleCount 8 = .ok (.ireturn, 1) := by decide +kernel
theorem dX9_possible_0 : decode cX9_possible 0 = .ok (.iload_n 1, 1) := by decide +kernel
theorem dX9_possible_1 : decode cX9_possible 1 = .ok (.ifCond .ge 6, 3) := by decide +kernel
theorem dX9_possible_4 : decode cX9_possible 4 = .ok (.bipush (-3), 2) := by decide +kernel
theorem dX9_possible_6 : decode cX9_possible 6 = .ok (.ireturn, 1) := by decide +kernel
theorem dX9_possible_7 : decode cX9_possible 7 = .ok (.aload_n 0, 1) := by decide +kernel
theorem dX9_possible_8 : decode cX9_possible 8 = .ok (.iload_n 1, 1) := by decide +kernel
theorem dX9_possible_9 : decode cX9_possible 9 = .ok (.invokevirtual 239, 3) := by decide +kernel
theorem dX9_possible_12 : decode cX9_possible 12 = .ok (.istore_n 2, 1) := by decide +kernel
theorem dX9_possible_13 : decode cX9_possible 13 = .ok (.iload_n 2, 1) := by decide +kernel
theorem dX9_possible_14 : decode cX9_possible 14 = .ok (.ifCond .ge 8, 3) := by decide +kernel
theorem dX9_possible_17 : decode cX9_possible 17 = .ok (.bipush (-7), 2) := by decide +kernel
theorem dX9_possible_19 : decode cX9_possible 19 = .ok (.goto 4, 3) := by decide +kernel
theorem dX9_possible_22 : decode cX9_possible 22 = .ok (.iload_n 2, 1) := by decide +kernel
theorem dX9_possible_23 : decode cX9_possible 23 = .ok (.ireturn, 1) := by decide +kernel
theorem dX9_undo_0 : decode cX9_undo 0 = .ok (.aload_n 0, 1) := by decide +kernel
theorem dX9_undo_1 : decode cX9_undo 1 = .ok (.getfield 153, 3) := by decide +kernel
theorem dX9_undo_4 : decode cX9_undo 4 = .ok (.ifCond .ne 6, 3) := by decide +kernel
theorem dX9_undo_7 : decode cX9_undo 7 = .ok (.bipush (-7), 2) := by decide +kernel
theorem dX9_undo_9 : decode cX9_undo 9 = .ok (.ireturn, 1) := by decide +kernel
theorem dX9_undo_10 : decode cX9_undo 10 = .ok (.aload_n 0, 1) := by decide +kernel
theorem dX9_undo_11 : decode cX9_undo 11 = .ok (.dup, 1) := by decide +kernel
theorem dX9_undo_12 : decode cX9_undo 12 = .ok (.getfield 153, 3) := by decide +kernel
theorem dX9_undo_15 : decode cX9_undo 15 = .ok (.iconst 1, 1) := by decide +kernel
theorem dX9_undo_16 : decode cX9_undo 16 = .ok (.isub, 1) := by decide +kernel
theorem dX9_undo_17 : decode cX9_undo 17 = .ok (.putfield 153, 3) := by decide +kernel
theorem dX9_undo_20 : decode cX9_undo 20 = .ok (.aload_n 0, 1) := by decide +kernel
theorem dX9_undo_21 : decode cX9_undo 21 = .ok (.aload_n 0, 1) := by decide +kernel
theorem dX9_undo_22 : decode cX9_undo 22 = .ok (.getfield 77, 3) := by decide +kernel
theorem dX9_undo_25 : decode cX9_undo 25 = .ok (.aload_n 0, 1) := by decide +kernel
theorem dX9_undo_26 : decode cX9_undo 26 = .ok (.getfield 153, 3) := by decide +kernel
theorem dX9_undo_29 : decode cX9_undo 29 = .ok (.laload, 1) := by decide +kernel
theorem dX9_undo_30 : decode cX9_undo 30 = .ok (.invokevirtual 242, 3) := by decide +kernel
theorem dX9_undo_33 : decode cX9_undo 33 = .ok (.aload_n 0, 1) := by decide +kernel
theorem dX9_undo_34 : decode cX9_undo 34 = .ok (.getfield 153, 3) := by decide +kernel
theorem dX9_undo_37 : decode cX9_undo 37 = .ok (.ireturn, 1) := by decide +kernel
theorem dX9_redo_0 : decode cX9_redo 0 = .ok (.aload_n 0, 1) := by decide +kernel
theorem dX9_redo_1 : decode cX9_redo 1 = .ok (.getfield 153, 3) := by decide +kernel
theorem dX9_redo_4 : decode cX9_redo 4 = .ok (.aload_n 0, 1) := by decide +kernel
theorem dX9_redo_5 : decode cX9_redo 5 = .ok (.getfield 156, 3) := by decide +kernel
theorem dX9_redo_8 : decode cX9_redo 8 = .ok (.if_icmp .ne 6, 3) := by decide +kernel
theorem dX9_redo_11 : decode cX9_redo 11 = .ok (.bipush (-7), 2) := by decide +kernel
theorem dX9_redo_13 : decode cX9_redo 13 = .ok (.ireturn, 1) := by decide +kernel
theorem dX9_redo_14 : decode cX9_redo 14 = .ok (.aload_n 0, 1) := by decide +kernel
theorem dX9_redo_15 : decode cX9_redo 15 = .ok (.aload_n 0, 1) := by decide +kernel
theorem dX9_redo_16 : decode cX9_redo 16 = .ok (.getfield 81, 3) := by decide +kernel
theorem dX9_redo_19 : decode cX9_redo 19 = .ok (.aload_n 0, 1) := by decide +kernel
theorem dX9_redo_20 : decode cX9_redo 20 = .ok (.getfield 153, 3) := by decide +kernel
theorem dX9_redo_23 : decode cX9_redo 23 = .ok (.laload, 1) := by decide +kernel
theorem dX9_redo_24 : decode cX9_redo 24 = .ok (.invokevirtual 242, 3) := by decide +kernel
theorem dX9_redo_27 : decode cX9_redo 27 = .ok (.aload_n 0, 1) := by decide +kernel
theorem dX9_redo_28 : decode cX9_redo 28 = .ok (.dup, 1) := by decide +kernel
theorem dX9_redo_29 : decode cX9_redo 29 = .ok (.getfield 153, 3) := by decide +kernel
theorem dX9_redo_32 : decode cX9_redo 32 = .ok (.iconst 1, 1) := by decide +kernel
theorem dX9_redo_33 : decode cX9_redo 33 = .ok (.iadd, 1) := by decide +kernel
theorem dX9_redo_34 : decode cX9_redo 34 = .ok (.putfield 153, 3) := by decide +kernel
theorem dX9_redo_37 : decode cX9_redo 37 = .ok (.aload_n 0, 1) := by decide +kernel
theorem dX9_redo_38 : decode cX9_redo 38 = .ok (.getfield 153, 3) := by decide +kernel
theorem dX9_redo_41 : decode cX9_redo 41 = .ok (.ireturn, 1) := by decide +kernel
theorem dX9_moveAt_0 : decode cX9_moveAt 0 = .ok (.iload_n 1, 1) := by decide +kernel
theorem dX9_moveAt_1 : decode cX9_moveAt 1 = .ok (.ifCond .ge 8, 3) := by decide +kernel
theorem dX9_moveAt_4 : decode cX9_moveAt 4 = .ok (.bipush (-3), 2) := by decide +kernel
theorem dX9_moveAt_6 : decode cX9_moveAt 6 = .ok (.goto 22, 3) := by decide +kernel
theorem dX9_moveAt_9 : decode cX9_moveAt 9 = .ok (.iload_n 1, 1) := by decide +kernel
theorem dX9_moveAt_10 : decode cX9_moveAt 10 = .ok (.aload_n 0, 1) := by decide +kernel
theorem dX9_moveAt_11 : decode cX9_moveAt 11 = .ok (.getfield 153, 3) := by decide +kernel
theorem dX9_moveAt_14 : decode cX9_moveAt 14 = .ok (.if_icmp .ge 12, 3) := by decide +kernel
theorem dX9_moveAt_17 : decode cX9_moveAt 17 = .ok (.aload_n 0, 1) := by decide +kernel
theorem dX9_moveAt_18 : decode cX9_moveAt 18 = .ok (.getfield 71, 3) := by decide +kernel
theorem dX9_moveAt_21 : decode cX9_moveAt 21 = .ok (.iload_n 1, 1) := by decide +kernel
theorem dX9_moveAt_22 : decode cX9_moveAt 22 = .ok (.iaload, 1) := by decide +kernel
theorem dX9_moveAt_23 : decode cX9_moveAt 23 = .ok (.goto 5, 3) := by decide +kernel
theorem dX9_moveAt_26 : decode cX9_moveAt 26 = .ok (.bipush (-7), 2) := by decide +kernel
theorem dX9_moveAt_28 : decode cX9_moveAt 28 = .ok (.ireturn, 1) := by decide +kernel
theorem dX9_effort_0 : decode cX9_effort 0 = .ok (.iconst 0, 1) := by decide +kernel
theorem dX9_effort_1 : decode cX9_effort 1 = .ok (.istore_n 1, 1) := by decide +kernel
theorem dX9_effort_2 : decode cX9_effort 2 = .ok (.iconst 0, 1) := by decide +kernel
theorem dX9_effort_3 : decode cX9_effort 3 = .ok (.istore_n 2, 1) := by decide +kernel
theorem dX9_effort_4 : decode cX9_effort 4 = .ok (.iload_n 2, 1) := by decide +kernel
theorem dX9_effort_5 : decode cX9_effort 5 = .ok (.aload_n 0, 1) := by decide +kernel
theorem dX9_effort_6 : decode cX9_effort 6 = .ok (.getfield 153, 3) := by decide +kernel
theorem dX9_effort_9 : decode cX9_effort 9 = .ok (.if_icmp .ge 18, 3) := by decide +kernel
theorem dX9_effort_12 : decode cX9_effort 12 = .ok (.iload_n 1, 1) := by decide +kernel
theorem dX9_effort_13 : decode cX9_effort 13 = .ok (.aload_n 0, 1) := by decide +kernel
theorem dX9_effort_14 : decode cX9_effort 14 = .ok (.getfield 74, 3) := by decide +kernel
theorem dX9_effort_17 : decode cX9_effort 17 = .ok (.iload_n 2, 1) := by decide +kernel
theorem dX9_effort_18 : decode cX9_effort 18 = .ok (.iaload, 1) := by decide +kernel
theorem dX9_effort_19 : decode cX9_effort 19 = .ok (.iadd, 1) := by decide +kernel
theorem dX9_effort_20 : decode cX9_effort 20 = .ok (.istore_n 1, 1) := by decide +kernel
theorem dX9_effort_21 : decode cX9_effort 21 = .ok (.iinc 2 1, 3) := by decide +kernel
theorem dX9_effort_24 : decode cX9_effort 24 = .ok (.goto (-20), 3) := by decide +kernel
theorem dX9_effort_27 : decode cX9_effort 27 = .ok (.iload_n 1, 1) := by decide +kernel
theorem dX9_effort_28 : decode cX9_effort 28 = .ok (.ireturn, 1) := by decide +kernel
theorem dX9_kindOfMove_0 : decode cX9_kindOfMove 0 = .ok (.iload_n 0, 1) := by decide +kernel
theorem dX9_kindOfMove_1 : decode cX9_kindOfMove 1 = .ok (.bipush 114, 2) := by decide +kernel
theorem dX9_kindOfMove_3 : decode cX9_kindOfMove 3 = .ok (.if_icmp .ne 7, 3) := by decide +kernel
theorem dX9_kindOfMove_6 : decode cX9_kindOfMove 6 = .ok (.iconst 0, 1) := by decide +kernel
theorem dX9_kindOfMove_7 : decode cX9_kindOfMove 7 = .ok (.goto 54, 3) := by decide +kernel
theorem dX9_kindOfMove_10 : decode cX9_kindOfMove 10 = .ok (.iload_n 0, 1) := by decide +kernel
theorem dX9_kindOfMove_11 : decode cX9_kindOfMove 11 = .ok (.bipush 100, 2) := by decide +kernel
theorem dX9_kindOfMove_13 : decode cX9_kindOfMove 13 = .ok (.if_icmp .ne 7, 3) := by decide +kernel
theorem dX9_kindOfMove_16 : decode cX9_kindOfMove 16 = .ok (.iconst 1, 1) := by decide +kernel
theorem dX9_kindOfMove_17 : decode cX9_kindOfMove 17 = .ok (.goto 44, 3) := by decide +kernel
theorem dX9_kindOfMove_20 : decode cX9_kindOfMove 20 = .ok (.iload_n 0, 1) := by decide +kernel
theorem dX9_kindOfMove_21 : decode cX9_kindOfMove 21 = .ok (.bipush 108, 2) := by decide +kernel
theorem dX9_kindOfMove_23 : decode cX9_kindOfMove 23 = .ok (.if_icmp .ne 7, 3) := by decide +kernel
theorem dX9_kindOfMove_26 : decode cX9_kindOfMove 26 = .ok (.iconst 2, 1) := by decide +kernel
theorem dX9_kindOfMove_27 : decode cX9_kindOfMove 27 = .ok (.goto 34, 3) := by decide +kernel
theorem dX9_kindOfMove_30 : decode cX9_kindOfMove 30 = .ok (.iload_n 0, 1) := by decide +kernel
theorem dX9_kindOfMove_31 : decode cX9_kindOfMove 31 = .ok (.bipush 117, 2) := by decide +kernel
theorem dX9_kindOfMove_33 : decode cX9_kindOfMove 33 = .ok (.if_icmp .ne 7, 3) := by decide +kernel
theorem dX9_kindOfMove_36 : decode cX9_kindOfMove 36 = .ok (.iconst 3, 1) := by decide +kernel
theorem dX9_kindOfMove_37 : decode cX9_kindOfMove 37 = .ok (.goto 24, 3) := by decide +kernel
theorem dX9_kindOfMove_40 : decode cX9_kindOfMove 40 = .ok (.iload_n 0, 1) := by decide +kernel
theorem dX9_kindOfMove_41 : decode cX9_kindOfMove 41 = .ok (.bipush 116, 2) := by decide +kernel
theorem dX9_kindOfMove_43 : decode cX9_kindOfMove 43 = .ok (.if_icmp .ne 7, 3) := by decide +kernel
theorem dX9_kindOfMove_46 : decode cX9_kindOfMove 46 = .ok (.iconst 4, 1) := by decide +kernel
theorem dX9_kindOfMove_47 : decode cX9_kindOfMove 47 = .ok (.goto 14, 3) := by decide +kernel
theorem dX9_kindOfMove_50 : decode cX9_kindOfMove 50 = .ok (.iload_n 0, 1) := by decide +kernel
theorem dX9_kindOfMove_51 : decode cX9_kindOfMove 51 = .ok (.bipush 115, 2) := by decide +kernel
theorem dX9_kindOfMove_53 : decode cX9_kindOfMove 53 = .ok (.if_icmp .ne 7, 3) := by decide +kernel
theorem dX9_kindOfMove_56 : decode cX9_kindOfMove 56 = .ok (.iconst 5, 1) := by decide +kernel
theorem dX9_kindOfMove_57 : decode cX9_kindOfMove 57 = .ok (.goto 4, 3) := by decide +kernel
theorem dX9_kindOfMove_60 : decode cX9_kindOfMove 60 = .ok (.iconst (-1), 1) := by decide +kernel
theorem dX9_kindOfMove_61 : decode cX9_kindOfMove 61 = .ok (.ireturn, 1) := by decide +kernel
theorem dX9_goThrough_0 : decode cX9_goThrough 0 = .ok (.iconst 0, 1) := by decide +kernel
theorem dX9_goThrough_1 : decode cX9_goThrough 1 = .ok (.istore_n 1, 1) := by decide +kernel
theorem dX9_goThrough_2 : decode cX9_goThrough 2 = .ok (.iload_n 1, 1) := by decide +kernel
theorem dX9_goThrough_3 : decode cX9_goThrough 3 = .ok (.aload_n 0, 1) := by decide +kernel
theorem dX9_goThrough_4 : decode cX9_goThrough 4 = .ok (.getfield 130, 3) := by decide +kernel
theorem dX9_goThrough_7 : decode cX9_goThrough 7 = .ok (.if_icmp .ge 88, 3) := by decide +kernel
theorem dX9_goThrough_10 : decode cX9_goThrough 10 = .ok (.aload_n 0, 1) := by decide +kernel
theorem dX9_goThrough_11 : decode cX9_goThrough 11 = .ok (.getfield 40, 3) := by decide +kernel
theorem dX9_goThrough_14 : decode cX9_goThrough 14 = .ok (.iload_n 1, 1) := by decide +kernel
theorem dX9_goThrough_15 : decode cX9_goThrough 15 = .ok (.caload, 1) := by decide +kernel
theorem dX9_goThrough_16 : decode cX9_goThrough 16 = .ok (.bipush 97, 2) := by decide +kernel
theorem dX9_goThrough_18 : decode cX9_goThrough 18 = .ok (.isub, 1) := by decide +kernel
theorem dX9_goThrough_19 : decode cX9_goThrough 19 = .ok (.istore_n 2, 1) := by decide +kernel
theorem dX9_goThrough_20 : decode cX9_goThrough 20 = .ok (.aload_n 0, 1) := by decide +kernel
theorem dX9_goThrough_21 : decode cX9_goThrough 21 = .ok (.iload_n 2, 1) := by decide +kernel
theorem dX9_goThrough_22 : decode cX9_goThrough 22 = .ok (.invokevirtual 225, 3) := by decide +kernel
theorem dX9_goThrough_25 : decode cX9_goThrough 25 = .ok (.ifCond .eq 5, 3) := by decide +kernel
theorem dX9_goThrough_28 : decode cX9_goThrough 28 = .ok (.iload_n 1, 1) := by decide +kernel
theorem dX9_goThrough_29 : decode cX9_goThrough 29 = .ok (.ireturn, 1) := by decide +kernel
theorem dX9_goThrough_30 : decode cX9_goThrough 30 = .ok (.iload_n 1, 1) := by decide +kernel
theorem dX9_goThrough_31 : decode cX9_goThrough 31 = .ok (.iconst 1, 1) := by decide +kernel
theorem dX9_goThrough_32 : decode cX9_goThrough 32 = .ok (.iadd, 1) := by decide +kernel
theorem dX9_goThrough_33 : decode cX9_goThrough 33 = .ok (.aload_n 0, 1) := by decide +kernel
theorem dX9_goThrough_34 : decode cX9_goThrough 34 = .ok (.getfield 130, 3) := by decide +kernel
theorem dX9_goThrough_37 : decode cX9_goThrough 37 = .ok (.if_icmp .ne 8, 3) := by decide +kernel
theorem dX9_goThrough_40 : decode cX9_goThrough 40 = .ok (.aload_n 0, 1) := by decide +kernel
theorem dX9_goThrough_41 : decode cX9_goThrough 41 = .ok (.getfield 130, 3) := by decide +kernel
theorem dX9_goThrough_44 : decode cX9_goThrough 44 = .ok (.ireturn, 1) := by decide +kernel
theorem dX9_goThrough_45 : decode cX9_goThrough 45 = .ok (.aload_n 0, 1) := by decide +kernel
theorem dX9_goThrough_46 : decode cX9_goThrough 46 = .ok (.getfield 40, 3) := by decide +kernel
theorem dX9_goThrough_49 : decode cX9_goThrough 49 = .ok (.iload_n 1, 1) := by decide +kernel
theorem dX9_goThrough_50 : decode cX9_goThrough 50 = .ok (.iconst 1, 1) := by decide +kernel
theorem dX9_goThrough_51 : decode cX9_goThrough 51 = .ok (.iadd, 1) := by decide +kernel
theorem dX9_goThrough_52 : decode cX9_goThrough 52 = .ok (.caload, 1) := by decide +kernel
theorem dX9_goThrough_53 : decode cX9_goThrough 53 = .ok (.invokestatic 246, 3) := by decide +kernel
theorem dX9_goThrough_56 : decode cX9_goThrough 56 = .ok (.istore_n 3, 1) := by decide +kernel
theorem dX9_goThrough_57 : decode cX9_goThrough 57 = .ok (.iload_n 3, 1) := by decide +kernel
theorem dX9_goThrough_58 : decode cX9_goThrough 58 = .ok (.ifCond .ge 7, 3) := by decide +kernel
theorem dX9_goThrough_61 : decode cX9_goThrough 61 = .ok (.iconst 0, 1) := by decide +kernel
theorem dX9_goThrough_62 : decode cX9_goThrough 62 = .ok (.goto 9, 3) := by decide +kernel
theorem dX9_goThrough_65 : decode cX9_goThrough 65 = .ok (.aload_n 0, 1) := by decide +kernel
theorem dX9_goThrough_66 : decode cX9_goThrough 66 = .ok (.iload_n 2, 1) := by decide +kernel
theorem dX9_goThrough_67 : decode cX9_goThrough 67 = .ok (.iload_n 3, 1) := by decide +kernel
theorem dX9_goThrough_68 : decode cX9_goThrough 68 = .ok (.invokevirtual 232, 3) := by decide +kernel
theorem dX9_goThrough_71 : decode cX9_goThrough 71 = .ok (.istore 4, 2) := by decide +kernel
theorem dX9_goThrough_73 : decode cX9_goThrough 73 = .ok (.iload 4, 2) := by decide +kernel
theorem dX9_goThrough_75 : decode cX9_goThrough 75 = .ok (.ifCond .ne 7, 3) := by decide +kernel
theorem dX9_goThrough_78 : decode cX9_goThrough 78 = .ok (.iload_n 1, 1) := by decide +kernel
theorem dX9_goThrough_79 : decode cX9_goThrough 79 = .ok (.iconst 1, 1) := by decide +kernel
theorem dX9_goThrough_80 : decode cX9_goThrough 80 = .ok (.iadd, 1) := by decide +kernel
theorem dX9_goThrough_81 : decode cX9_goThrough 81 = .ok (.ireturn, 1) := by decide +kernel
theorem dX9_goThrough_82 : decode cX9_goThrough 82 = .ok (.aload_n 0, 1) := by decide +kernel
theorem dX9_goThrough_83 : decode cX9_goThrough 83 = .ok (.iload 4, 2) := by decide +kernel
theorem dX9_goThrough_85 : decode cX9_goThrough 85 = .ok (.iload_n 3, 1) := by decide +kernel
theorem dX9_goThrough_86 : decode cX9_goThrough 86 = .ok (.invokevirtual 221, 3) := by decide +kernel
theorem dX9_goThrough_89 : decode cX9_goThrough 89 = .ok (.iinc 1 2, 3) := by decide +kernel
theorem dX9_goThrough_92 : decode cX9_goThrough 92 = .ok (.goto (-90), 3) := by decide +kernel
theorem dX9_goThrough_95 : decode cX9_goThrough 95 = .ok (.iconst (-1), 1) := by decide +kernel
theorem dX9_goThrough_96 : decode cX9_goThrough 96 = .ok (.ireturn, 1) := by decide +kernel
theorem dX9_readMoves_0 : decode cX9_readMoves 0 = .ok (.aload_n 0, 1) := by decide +kernel
theorem dX9_readMoves_1 : decode cX9_readMoves 1 = .ok (.invokevirtual 217, 3) := by decide +kernel
theorem dX9_readMoves_4 : decode cX9_readMoves 4 = .ok (.lstore_n 1, 1) := by decide +kernel
theorem dX9_readMoves_5 : decode cX9_readMoves 5 = .ok (.aload_n 0, 1) := by decide +kernel
theorem dX9_readMoves_6 : decode cX9_readMoves 6 = .ok (.invokevirtual 249, 3) := by decide +kernel
theorem dX9_readMoves_9 : decode cX9_readMoves 9 = .ok (.istore_n 3, 1) := by decide +kernel
theorem dX9_readMoves_10 : decode cX9_readMoves 10 = .ok (.aload_n 0, 1) := by decide +kernel
theorem dX9_readMoves_11 : decode cX9_readMoves 11 = .ok (.lload_n 1, 1) := by decide +kernel
theorem dX9_readMoves_12 : decode cX9_readMoves 12 = .ok (.invokevirtual 242, 3) := by decide +kernel
theorem dX9_readMoves_15 : decode cX9_readMoves 15 = .ok (.iload_n 3, 1) := by decide +kernel
theorem dX9_readMoves_16 : decode cX9_readMoves 16 = .ok (.ifCond .lt 8, 3) := by decide +kernel
theorem dX9_readMoves_19 : decode cX9_readMoves 19 = .ok (.bipush (-100), 2) := by decide +kernel
theorem dX9_readMoves_21 : decode cX9_readMoves 21 = .ok (.iload_n 3, 1) := by decide +kernel
theorem dX9_readMoves_22 : decode cX9_readMoves 22 = .ok (.isub, 1) := by decide +kernel
theorem dX9_readMoves_23 : decode cX9_readMoves 23 = .ok (.ireturn, 1) := by decide +kernel
theorem dX9_readMoves_24 : decode cX9_readMoves 24 = .ok (.aload_n 0, 1) := by decide +kernel
theorem dX9_readMoves_25 : decode cX9_readMoves 25 = .ok (.getfield 153, 3) := by decide +kernel
theorem dX9_readMoves_28 : decode cX9_readMoves 28 = .ok (.aload_n 0, 1) := by decide +kernel
theorem dX9_readMoves_29 : decode cX9_readMoves 29 = .ok (.getfield 130, 3) := by decide +kernel
theorem dX9_readMoves_32 : decode cX9_readMoves 32 = .ok (.iconst 2, 1) := by decide +kernel
theorem dX9_readMoves_33 : decode cX9_readMoves 33 = .ok (.idiv, 1) := by decide +kernel
theorem dX9_readMoves_34 : decode cX9_readMoves 34 = .ok (.iadd, 1) := by decide +kernel
theorem dX9_readMoves_35 : decode cX9_readMoves 35 = .ok (.sipush 200, 3) := by decide +kernel
theorem dX9_readMoves_38 : decode cX9_readMoves 38 = .ok (.if_icmp .le 6, 3) := by decide +kernel
theorem dX9_readMoves_41 : decode cX9_readMoves 41 = .ok (.bipush (-5), 2) := by decide +kernel
theorem dX9_readMoves_43 : decode cX9_readMoves 43 = .ok (.ireturn, 1) := by decide +kernel
theorem dX9_readMoves_44 : decode cX9_readMoves 44 = .ok (.iconst 0, 1) := by decide +kernel
theorem dX9_readMoves_45 : decode cX9_readMoves 45 = .ok (.istore 4, 2) := by decide +kernel
theorem dX9_readMoves_47 : decode cX9_readMoves 47 = .ok (.iload 4, 2) := by decide +kernel
theorem dX9_readMoves_49 : decode cX9_readMoves 49 = .ok (.aload_n 0, 1) := by decide +kernel
theorem dX9_readMoves_50 : decode cX9_readMoves 50 = .ok (.getfield 130, 3) := by decide +kernel
theorem dX9_readMoves_53 : decode cX9_readMoves 53 = .ok (.if_icmp .ge 51, 3) := by decide +kernel
theorem dX9_readMoves_56 : decode cX9_readMoves 56 = .ok (.aload_n 0, 1) := by decide +kernel
theorem dX9_readMoves_57 : decode cX9_readMoves 57 = .ok (.getfield 40, 3) := by decide +kernel
theorem dX9_readMoves_60 : decode cX9_readMoves 60 = .ok (.iload 4, 2) := by decide +kernel
theorem dX9_readMoves_62 : decode cX9_readMoves 62 = .ok (.caload, 1) := by decide +kernel
theorem dX9_readMoves_63 : decode cX9_readMoves 63 = .ok (.bipush 97, 2) := by decide +kernel
theorem dX9_readMoves_65 : decode cX9_readMoves 65 = .ok (.isub, 1) := by decide +kernel
theorem dX9_readMoves_66 : decode cX9_readMoves 66 = .ok (.istore 5, 2) := by decide +kernel
theorem dX9_readMoves_68 : decode cX9_readMoves 68 = .ok (.aload_n 0, 1) := by decide +kernel
theorem dX9_readMoves_69 : decode cX9_readMoves 69 = .ok (.getfield 40, 3) := by decide +kernel
theorem dX9_readMoves_72 : decode cX9_readMoves 72 = .ok (.iload 4, 2) := by decide +kernel
theorem dX9_readMoves_74 : decode cX9_readMoves 74 = .ok (.iconst 1, 1) := by decide +kernel
theorem dX9_readMoves_75 : decode cX9_readMoves 75 = .ok (.iadd, 1) := by decide +kernel
theorem dX9_readMoves_76 : decode cX9_readMoves 76 = .ok (.caload, 1) := by decide +kernel
theorem dX9_readMoves_77 : decode cX9_readMoves 77 = .ok (.invokestatic 246, 3) := by decide +kernel
theorem dX9_readMoves_80 : decode cX9_readMoves 80 = .ok (.istore 6, 2) := by decide +kernel
theorem dX9_readMoves_82 : decode cX9_readMoves 82 = .ok (.aload_n 0, 1) := by decide +kernel
theorem dX9_readMoves_83 : decode cX9_readMoves 83 = .ok (.iload 5, 2) := by decide +kernel
theorem dX9_readMoves_85 : decode cX9_readMoves 85 = .ok (.iload 6, 2) := by decide +kernel
theorem dX9_readMoves_87 : decode cX9_readMoves 87 = .ok (.aload_n 0, 1) := by decide +kernel
theorem dX9_readMoves_88 : decode cX9_readMoves 88 = .ok (.iload 5, 2) := by decide +kernel
theorem dX9_readMoves_90 : decode cX9_readMoves 90 = .ok (.iload 6, 2) := by decide +kernel
theorem dX9_readMoves_92 : decode cX9_readMoves 92 = .ok (.invokevirtual 232, 3) := by decide +kernel
theorem dX9_readMoves_95 : decode cX9_readMoves 95 = .ok (.invokevirtual 235, 3) := by decide +kernel
theorem dX9_readMoves_98 : decode cX9_readMoves 98 = .ok (.iinc 4 2, 3) := by decide +kernel
theorem dX9_readMoves_101 : decode cX9_readMoves 101 = .ok (.goto (-54), 3) := by decide +kernel
theorem dX9_readMoves_104 : decode cX9_readMoves 104 = .ok (.aload_n 0, 1) := by decide +kernel
theorem dX9_readMoves_105 : decode cX9_readMoves 105 = .ok (.getfield 130, 3) := by decide +kernel
theorem dX9_readMoves_108 : decode cX9_readMoves 108 = .ok (.iconst 2, 1) := by decide +kernel
theorem dX9_readMoves_109 : decode cX9_readMoves 109 = .ok (.idiv, 1) := by decide +kernel
theorem dX9_readMoves_110 : decode cX9_readMoves 110 = .ok (.ireturn, 1) := by decide +kernel
theorem dX9_size_0 : decode cX9_size 0 = .ok (.iconst 0, 1) := by decide +kernel
theorem dX9_size_1 : decode cX9_size 1 = .ok (.istore_n 2, 1) := by decide +kernel
theorem dX9_size_2 : decode cX9_size 2 = .ok (.iconst 0, 1) := by decide +kernel
theorem dX9_size_3 : decode cX9_size 3 = .ok (.istore_n 3, 1) := by decide +kernel
theorem dX9_size_4 : decode cX9_size 4 = .ok (.iload_n 3, 1) := by decide +kernel
theorem dX9_size_5 : decode cX9_size 5 = .ok (.iconst 5, 1) := by decide +kernel
theorem dX9_size_6 : decode cX9_size 6 = .ok (.if_icmp .ge 26, 3) := by decide +kernel
theorem dX9_size_9 : decode cX9_size 9 = .ok (.iload_n 2, 1) := by decide +kernel
theorem dX9_size_10 : decode cX9_size 10 = .ok (.aload_n 0, 1) := by decide +kernel
theorem dX9_size_11 : decode cX9_size 11 = .ok (.getfield 16, 3) := by decide +kernel
theorem dX9_size_14 : decode cX9_size 14 = .ok (.iload_n 3, 1) := by decide +kernel
theorem dX9_size_15 : decode cX9_size 15 = .ok (.iaload, 1) := by decide +kernel
theorem dX9_size_16 : decode cX9_size 16 = .ok (.ifCond .ne 7, 3) := by decide +kernel
theorem dX9_size_19 : decode cX9_size 19 = .ok (.iconst 0, 1) := by decide +kernel
theorem dX9_size_20 : decode cX9_size 20 = .ok (.goto 4, 3) := by decide +kernel
theorem dX9_size_23 : decode cX9_size 23 = .ok (.iconst 1, 1) := by decide +kernel
theorem dX9_size_24 : decode cX9_size 24 = .ok (.iadd, 1) := by decide +kernel
theorem dX9_size_25 : decode cX9_size 25 = .ok (.istore_n 2, 1) := by decide +kernel
theorem dX9_size_26 : decode cX9_size 26 = .ok (.iinc 3 1, 3) := by decide +kernel
theorem dX9_size_29 : decode cX9_size 29 = .ok (.goto (-25), 3) := by decide +kernel
theorem dX9_size_32 : decode cX9_size 32 = .ok (.iload_n 1, 1) := by decide +kernel
theorem dX9_size_33 : decode cX9_size 33 = .ok (.ifCond .ne 10, 3) := by decide +kernel
theorem dX9_size_36 : decode cX9_size 36 = .ok (.aload_n 0, 1) := by decide +kernel
theorem dX9_size_37 : decode cX9_size 37 = .ok (.getfield 109, 3) := by decide +kernel
theorem dX9_size_40 : decode cX9_size 40 = .ok (.goto 38, 3) := by decide +kernel
theorem dX9_size_43 : decode cX9_size 43 = .ok (.iload_n 1, 1) := by decide +kernel
theorem dX9_size_44 : decode cX9_size 44 = .ok (.iconst 1, 1) := by decide +kernel
theorem dX9_size_45 : decode cX9_size 45 = .ok (.if_icmp .ne 10, 3) := by decide +kernel
theorem dX9_size_48 : decode cX9_size 48 = .ok (.aload_n 0, 1) := by decide +kernel
theorem dX9_size_49 : decode cX9_size 49 = .ok (.getfield 113, 3) := by decide +kernel
theorem dX9_size_52 : decode cX9_size 52 = .ok (.goto 26, 3) := by decide +kernel
theorem dX9_size_55 : decode cX9_size 55 = .ok (.iload_n 1, 1) := by decide +kernel
theorem dX9_size_56 : decode cX9_size 56 = .ok (.iconst 2, 1) := by decide +kernel
theorem dX9_size_57 : decode cX9_size 57 = .ok (.if_icmp .ne 7, 3) := by decide +kernel
theorem dX9_size_60 : decode cX9_size 60 = .ok (.iload_n 2, 1) := by decide +kernel
theorem dX9_size_61 : decode cX9_size 61 = .ok (.goto 17, 3) := by decide +kernel
theorem dX9_size_64 : decode cX9_size 64 = .ok (.iload_n 1, 1) := by decide +kernel
theorem dX9_size_65 : decode cX9_size 65 = .ok (.iconst 3, 1) := by decide +kernel
theorem dX9_size_66 : decode cX9_size 66 = .ok (.if_icmp .ne 10, 3) := by decide +kernel
theorem dX9_size_69 : decode cX9_size 69 = .ok (.aload_n 0, 1) := by decide +kernel
theorem dX9_size_70 : decode cX9_size 70 = .ok (.getfield 116, 3) := by decide +kernel
theorem dX9_size_73 : decode cX9_size 73 = .ok (.goto 5, 3) := by decide +kernel
theorem dX9_size_76 : decode cX9_size 76 = .ok (.bipush (-3), 2) := by decide +kernel
theorem dX9_size_78 : decode cX9_size 78 = .ok (.ireturn, 1) := by decide +kernel
theorem dX9_cell_0 : decode cX9_cell 0 = .ok (.aload_n 0, 1) := by decide +kernel
theorem dX9_cell_1 : decode cX9_cell 1 = .ok (.iload_n 1, 1) := by decide +kernel
theorem dX9_cell_2 : decode cX9_cell 2 = .ok (.iload_n 2, 1) := by decide +kernel
theorem dX9_cell_3 : decode cX9_cell 3 = .ok (.invokevirtual 167, 3) := by decide +kernel
theorem dX9_cell_6 : decode cX9_cell 6 = .ok (.ifCond .eq 12, 3) := by decide +kernel
theorem dX9_cell_9 : decode cX9_cell 9 = .ok (.aload_n 0, 1) := by decide +kernel
theorem dX9_cell_10 : decode cX9_cell 10 = .ok (.iload_n 1, 1) := by decide +kernel
theorem dX9_cell_11 : decode cX9_cell 11 = .ok (.iload_n 2, 1) := by decide +kernel
theorem dX9_cell_12 : decode cX9_cell 12 = .ok (.invokevirtual 171, 3) := by decide +kernel
theorem dX9_cell_15 : decode cX9_cell 15 = .ok (.goto 5, 3) := by decide +kernel
theorem dX9_cell_18 : decode cX9_cell 18 = .ok (.bipush (-2), 2) := by decide +kernel
theorem dX9_cell_20 : decode cX9_cell 20 = .ok (.ireturn, 1) := by decide +kernel
theorem dX9_blockAt_0 : decode cX9_blockAt 0 = .ok (.aload_n 0, 1) := by decide +kernel
theorem dX9_blockAt_1 : decode cX9_blockAt 1 = .ok (.iload_n 1, 1) := by decide +kernel
theorem dX9_blockAt_2 : decode cX9_blockAt 2 = .ok (.iload_n 2, 1) := by decide +kernel
theorem dX9_blockAt_3 : decode cX9_blockAt 3 = .ok (.invokevirtual 167, 3) := by decide +kernel
theorem dX9_blockAt_6 : decode cX9_blockAt 6 = .ok (.ifCond .ne 6, 3) := by decide +kernel
theorem dX9_blockAt_9 : decode cX9_blockAt 9 = .ok (.bipush (-2), 2) := by decide +kernel
theorem dX9_blockAt_11 : decode cX9_blockAt 11 = .ok (.ireturn, 1) := by decide +kernel
theorem dX9_blockAt_12 : decode cX9_blockAt 12 = .ok (.aload_n 0, 1) := by decide +kernel
theorem dX9_blockAt_13 : decode cX9_blockAt 13 = .ok (.invokevirtual 201, 3) := by decide +kernel
theorem dX9_blockAt_16 : decode cX9_blockAt 16 = .ok (.aload_n 0, 1) := by decide +kernel
theorem dX9_blockAt_17 : decode cX9_blockAt 17 = .ok (.getfield 65, 3) := by decide +kernel
theorem dX9_blockAt_20 : decode cX9_blockAt 20 = .ok (.bipush 8, 2) := by decide +kernel
theorem dX9_blockAt_22 : decode cX9_blockAt 22 = .ok (.iload_n 2, 1) := by decide +kernel
theorem dX9_blockAt_23 : decode cX9_blockAt 23 = .ok (.imul, 1) := by decide +kernel
theorem dX9_blockAt_24 : decode cX9_blockAt 24 = .ok (.iload_n 1, 1) := by decide +kernel
theorem dX9_blockAt_25 : decode cX9_blockAt 25 = .ok (.iadd, 1) := by decide +kernel
theorem dX9_blockAt_26 : decode cX9_blockAt 26 = .ok (.iaload, 1) := by decide +kernel
theorem dX9_blockAt_27 : decode cX9_blockAt 27 = .ok (.ifCond .ge 8, 3) := by decide +kernel
theorem dX9_blockAt_30 : decode cX9_blockAt 30 = .ok (.bipush (-7), 2) := by decide +kernel
theorem dX9_blockAt_32 : decode cX9_blockAt 32 = .ok (.goto 14, 3) := by decide +kernel
theorem dX9_blockAt_35 : decode cX9_blockAt 35 = .ok (.aload_n 0, 1) := by decide +kernel
theorem dX9_blockAt_36 : decode cX9_blockAt 36 = .ok (.getfield 65, 3) := by decide +kernel
theorem dX9_blockAt_39 : decode cX9_blockAt 39 = .ok (.bipush 8, 2) := by decide +kernel
theorem dX9_blockAt_41 : decode cX9_blockAt 41 = .ok (.iload_n 2, 1) := by decide +kernel
theorem dX9_blockAt_42 : decode cX9_blockAt 42 = .ok (.imul, 1) := by decide +kernel
theorem dX9_blockAt_43 : decode cX9_blockAt 43 = .ok (.iload_n 1, 1) := by decide +kernel
theorem dX9_blockAt_44 : decode cX9_blockAt 44 = .ok (.iadd, 1) := by decide +kernel
theorem dX9_blockAt_45 : decode cX9_blockAt 45 = .ok (.iaload, 1) := by decide +kernel
theorem dX9_blockAt_46 : decode cX9_blockAt 46 = .ok (.ireturn, 1) := by decide +kernel
theorem dX9_block_0 : decode cX9_block 0 = .ok (.aload_n 0, 1) := by decide +kernel
theorem dX9_block_1 : decode cX9_block 1 = .ok (.iload_n 1, 1) := by decide +kernel
theorem dX9_block_2 : decode cX9_block 2 = .ok (.invokevirtual 225, 3) := by decide +kernel
theorem dX9_block_5 : decode cX9_block 5 = .ok (.ifCond .eq 5, 3) := by decide +kernel
theorem dX9_block_8 : decode cX9_block 8 = .ok (.iconst (-1), 1) := by decide +kernel
theorem dX9_block_9 : decode cX9_block 9 = .ok (.ireturn, 1) := by decide +kernel
theorem dX9_block_10 : decode cX9_block 10 = .ok (.iload_n 2, 1) := by decide +kernel
theorem dX9_block_11 : decode cX9_block 11 = .ok (.iconst 5, 1) := by decide +kernel
theorem dX9_block_12 : decode cX9_block 12 = .ok (.bipush 7, 2) := by decide +kernel
theorem dX9_block_14 : decode cX9_block 14 = .ok (.invokestatic 119, 3) := by decide +kernel
theorem dX9_block_17 : decode cX9_block 17 = .ok (.ifCond .eq 15, 3) := by decide +kernel
theorem dX9_block_20 : decode cX9_block 20 = .ok (.aload_n 0, 1) := by decide +kernel
theorem dX9_block_21 : decode cX9_block 21 = .ok (.getfield 34, 3) := by decide +kernel
theorem dX9_block_24 : decode cX9_block 24 = .ok (.iload_n 1, 1) := by decide +kernel
theorem dX9_block_25 : decode cX9_block 25 = .ok (.iaload, 1) := by decide +kernel
theorem dX9_block_26 : decode cX9_block 26 = .ok (.ifCond .ge 6, 3) := by decide +kernel
theorem dX9_block_29 : decode cX9_block 29 = .ok (.bipush (-7), 2) := by decide +kernel
theorem dX9_block_31 : decode cX9_block 31 = .ok (.ireturn, 1) := by decide +kernel
theorem dX9_block_32 : decode cX9_block 32 = .ok (.iload_n 2, 1) := by decide +kernel
theorem dX9_block_33 : decode cX9_block 33 = .ok (.tableswitch 115 0 7 #[47, 57, 70, 80, 87, 94, 101, 108], 47) := by decide +kernel
theorem dX9_block_80 : decode cX9_block 80 = .ok (.aload_n 0, 1) := by decide +kernel
theorem dX9_block_81 : decode cX9_block 81 = .ok (.getfield 37, 3) := by decide +kernel
theorem dX9_block_84 : decode cX9_block 84 = .ok (.iload_n 1, 1) := by decide +kernel
theorem dX9_block_85 : decode cX9_block 85 = .ok (.iaload, 1) := by decide +kernel
theorem dX9_block_86 : decode cX9_block 86 = .ok (.bipush 8, 2) := by decide +kernel
theorem dX9_block_88 : decode cX9_block 88 = .ok (.irem, 1) := by decide +kernel
theorem dX9_block_89 : decode cX9_block 89 = .ok (.ireturn, 1) := by decide +kernel
theorem dX9_block_90 : decode cX9_block 90 = .ok (.aload_n 0, 1) := by decide +kernel
theorem dX9_block_91 : decode cX9_block 91 = .ok (.getfield 37, 3) := by decide +kernel
theorem dX9_block_94 : decode cX9_block 94 = .ok (.iload_n 1, 1) := by decide +kernel
theorem dX9_block_95 : decode cX9_block 95 = .ok (.iaload, 1) := by decide +kernel
theorem dX9_block_96 : decode cX9_block 96 = .ok (.bipush 8, 2) := by decide +kernel
theorem dX9_block_98 : decode cX9_block 98 = .ok (.idiv, 1) := by decide +kernel
theorem dX9_block_99 : decode cX9_block 99 = .ok (.bipush 8, 2) := by decide +kernel
theorem dX9_block_101 : decode cX9_block 101 = .ok (.irem, 1) := by decide +kernel
theorem dX9_block_102 : decode cX9_block 102 = .ok (.ireturn, 1) := by decide +kernel
theorem dX9_block_103 : decode cX9_block 103 = .ok (.aload_n 0, 1) := by decide +kernel
theorem dX9_block_104 : decode cX9_block 104 = .ok (.getfield 37, 3) := by decide +kernel
theorem dX9_block_107 : decode cX9_block 107 = .ok (.iload_n 1, 1) := by decide +kernel
theorem dX9_block_108 : decode cX9_block 108 = .ok (.iaload, 1) := by decide +kernel
theorem dX9_block_109 : decode cX9_block 109 = .ok (.bipush 64, 2) := by decide +kernel
theorem dX9_block_111 : decode cX9_block 111 = .ok (.idiv, 1) := by decide +kernel
theorem dX9_block_112 : decode cX9_block 112 = .ok (.ireturn, 1) := by decide +kernel
theorem dX9_block_113 : decode cX9_block 113 = .ok (.aload_n 0, 1) := by decide +kernel
theorem dX9_block_114 : decode cX9_block 114 = .ok (.getfield 25, 3) := by decide +kernel
theorem dX9_block_117 : decode cX9_block 117 = .ok (.iload_n 1, 1) := by decide +kernel
theorem dX9_block_118 : decode cX9_block 118 = .ok (.iaload, 1) := by decide +kernel
theorem dX9_block_119 : decode cX9_block 119 = .ok (.ireturn, 1) := by decide +kernel
theorem dX9_block_120 : decode cX9_block 120 = .ok (.aload_n 0, 1) := by decide +kernel
theorem dX9_block_121 : decode cX9_block 121 = .ok (.getfield 16, 3) := by decide +kernel
theorem dX9_block_124 : decode cX9_block 124 = .ok (.iload_n 1, 1) := by decide +kernel
theorem dX9_block_125 : decode cX9_block 125 = .ok (.iaload, 1) := by decide +kernel
theorem dX9_block_126 : decode cX9_block 126 = .ok (.ireturn, 1) := by decide +kernel
theorem dX9_block_127 : decode cX9_block 127 = .ok (.aload_n 0, 1) := by decide +kernel
theorem dX9_block_128 : decode cX9_block 128 = .ok (.getfield 28, 3) := by decide +kernel
theorem dX9_block_131 : decode cX9_block 131 = .ok (.iload_n 1, 1) := by decide +kernel
theorem dX9_block_132 : decode cX9_block 132 = .ok (.iaload, 1) := by decide +kernel
theorem dX9_block_133 : decode cX9_block 133 = .ok (.ireturn, 1) := by decide +kernel
theorem dX9_block_134 : decode cX9_block 134 = .ok (.aload_n 0, 1) := by decide +kernel
theorem dX9_block_135 : decode cX9_block 135 = .ok (.getfield 31, 3) := by decide +kernel
theorem dX9_block_138 : decode cX9_block 138 = .ok (.iload_n 1, 1) := by decide +kernel
theorem dX9_block_139 : decode cX9_block 139 = .ok (.iaload, 1) := by decide +kernel
theorem dX9_block_140 : decode cX9_block 140 = .ok (.ireturn, 1) := by decide +kernel
theorem dX9_block_141 : decode cX9_block 141 = .ok (.aload_n 0, 1) := by decide +kernel
theorem dX9_block_142 : decode cX9_block 142 = .ok (.getfield 34, 3) := by decide +kernel
theorem dX9_block_145 : decode cX9_block 145 = .ok (.iload_n 1, 1) := by decide +kernel
theorem dX9_block_146 : decode cX9_block 146 = .ok (.iaload, 1) := by decide +kernel
theorem dX9_block_147 : decode cX9_block 147 = .ok (.ireturn, 1) := by decide +kernel
theorem dX9_block_148 : decode cX9_block 148 = .ok (.bipush (-3), 2) := by decide +kernel
theorem dX9_block_150 : decode cX9_block 150 = .ok (.ireturn, 1) := by decide +kernel
theorem dX9_setWeight_0 : decode cX9_setWeight 0 = .ok (.aload_n 0, 1) := by decide +kernel
theorem dX9_setWeight_1 : decode cX9_setWeight 1 = .ok (.iload_n 1, 1) := by decide +kernel
theorem dX9_setWeight_2 : decode cX9_setWeight 2 = .ok (.invokevirtual 225, 3) := by decide +kernel
theorem dX9_setWeight_5 : decode cX9_setWeight 5 = .ok (.ifCond .eq 5, 3) := by decide +kernel
theorem dX9_setWeight_8 : decode cX9_setWeight 8 = .ok (.iconst (-1), 1) := by decide +kernel
theorem dX9_setWeight_9 : decode cX9_setWeight 9 = .ok (.ireturn, 1) := by decide +kernel
theorem dX9_setWeight_10 : decode cX9_setWeight 10 = .ok (.iload_n 2, 1) := by decide +kernel
theorem dX9_setWeight_11 : decode cX9_setWeight 11 = .ok (.iconst 1, 1) := by decide +kernel
theorem dX9_setWeight_12 : decode cX9_setWeight 12 = .ok (.bipush 9, 2) := by decide +kernel
theorem dX9_setWeight_14 : decode cX9_setWeight 14 = .ok (.invokestatic 119, 3) := by decide +kernel
theorem dX9_setWeight_17 : decode cX9_setWeight 17 = .ok (.ifCond .ne 6, 3) := by decide +kernel
theorem dX9_setWeight_20 : decode cX9_setWeight 20 = .ok (.bipush (-3), 2) := by decide +kernel
theorem dX9_setWeight_22 : decode cX9_setWeight 22 = .ok (.ireturn, 1) := by decide +kernel
theorem dX9_setWeight_23 : decode cX9_setWeight 23 = .ok (.aload_n 0, 1) := by decide +kernel
theorem dX9_setWeight_24 : decode cX9_setWeight 24 = .ok (.getfield 25, 3) := by decide +kernel
theorem dX9_setWeight_27 : decode cX9_setWeight 27 = .ok (.iload_n 1, 1) := by decide +kernel
theorem dX9_setWeight_28 : decode cX9_setWeight 28 = .ok (.iaload, 1) := by decide +kernel
theorem dX9_setWeight_29 : decode cX9_setWeight 29 = .ok (.istore_n 3, 1) := by decide +kernel
theorem dX9_setWeight_30 : decode cX9_setWeight 30 = .ok (.aload_n 0, 1) := by decide +kernel
theorem dX9_setWeight_31 : decode cX9_setWeight 31 = .ok (.getfield 25, 3) := by decide +kernel
theorem dX9_setWeight_34 : decode cX9_setWeight 34 = .ok (.iload_n 1, 1) := by decide +kernel
theorem dX9_setWeight_35 : decode cX9_setWeight 35 = .ok (.iload_n 2, 1) := by decide +kernel
theorem dX9_setWeight_36 : decode cX9_setWeight 36 = .ok (.iastore, 1) := by decide +kernel
theorem dX9_setWeight_37 : decode cX9_setWeight 37 = .ok (.iload_n 3, 1) := by decide +kernel
theorem dX9_setWeight_38 : decode cX9_setWeight 38 = .ok (.ireturn, 1) := by decide +kernel
theorem dX9_setGoal_0 : decode cX9_setGoal 0 = .ok (.aload_n 0, 1) := by decide +kernel
theorem dX9_setGoal_1 : decode cX9_setGoal 1 = .ok (.iload_n 1, 1) := by decide +kernel
theorem dX9_setGoal_2 : decode cX9_setGoal 2 = .ok (.invokevirtual 225, 3) := by decide +kernel
theorem dX9_setGoal_5 : decode cX9_setGoal 5 = .ok (.ifCond .eq 5, 3) := by decide +kernel
theorem dX9_setGoal_8 : decode cX9_setGoal 8 = .ok (.iconst (-1), 1) := by decide +kernel
theorem dX9_setGoal_9 : decode cX9_setGoal 9 = .ok (.ireturn, 1) := by decide +kernel
theorem dX9_setGoal_10 : decode cX9_setGoal 10 = .ok (.aload_n 0, 1) := by decide +kernel
theorem dX9_setGoal_11 : decode cX9_setGoal 11 = .ok (.iload_n 2, 1) := by decide +kernel
theorem dX9_setGoal_12 : decode cX9_setGoal 12 = .ok (.iload_n 3, 1) := by decide +kernel
theorem dX9_setGoal_13 : decode cX9_setGoal 13 = .ok (.invokevirtual 167, 3) := by decide +kernel
theorem dX9_setGoal_16 : decode cX9_setGoal 16 = .ok (.ifCond .ne 6, 3) := by decide +kernel
theorem dX9_setGoal_19 : decode cX9_setGoal 19 = .ok (.bipush (-2), 2) := by decide +kernel
theorem dX9_setGoal_21 : decode cX9_setGoal 21 = .ok (.ireturn, 1) := by decide +kernel
theorem dX9_setGoal_22 : decode cX9_setGoal 22 = .ok (.iload 4, 2) := by decide +kernel
theorem dX9_setGoal_24 : decode cX9_setGoal 24 = .ok (.iconst 0, 1) := by decide +kernel
theorem dX9_setGoal_25 : decode cX9_setGoal 25 = .ok (.iconst 4, 1) := by decide +kernel
theorem dX9_setGoal_26 : decode cX9_setGoal 26 = .ok (.invokestatic 119, 3) := by decide +kernel
theorem dX9_setGoal_29 : decode cX9_setGoal 29 = .ok (.ifCond .ne 6, 3) := by decide +kernel
theorem dX9_setGoal_32 : decode cX9_setGoal 32 = .ok (.bipush (-3), 2) := by decide +kernel
theorem dX9_setGoal_34 : decode cX9_setGoal 34 = .ok (.ireturn, 1) := by decide +kernel
theorem dX9_setGoal_35 : decode cX9_setGoal 35 = .ok (.aload_n 0, 1) := by decide +kernel
theorem dX9_setGoal_36 : decode cX9_setGoal 36 = .ok (.getfield 34, 3) := by decide +kernel
theorem dX9_setGoal_39 : decode cX9_setGoal 39 = .ok (.iload_n 1, 1) := by decide +kernel
theorem dX9_setGoal_40 : decode cX9_setGoal 40 = .ok (.iaload, 1) := by decide +kernel
theorem dX9_setGoal_41 : decode cX9_setGoal 41 = .ok (.iload 4, 2) := by decide +kernel
theorem dX9_setGoal_43 : decode cX9_setGoal 43 = .ok (.if_icmp .ne 27, 3) := by decide +kernel
theorem dX9_setGoal_46 : decode cX9_setGoal 46 = .ok (.aload_n 0, 1) := by decide +kernel
theorem dX9_setGoal_47 : decode cX9_setGoal 47 = .ok (.getfield 28, 3) := by decide +kernel
theorem dX9_setGoal_50 : decode cX9_setGoal 50 = .ok (.iload_n 1, 1) := by decide +kernel
theorem dX9_setGoal_51 : decode cX9_setGoal 51 = .ok (.iaload, 1) := by decide +kernel
theorem dX9_setGoal_52 : decode cX9_setGoal 52 = .ok (.iload_n 2, 1) := by decide +kernel
theorem dX9_setGoal_53 : decode cX9_setGoal 53 = .ok (.if_icmp .ne 17, 3) := by decide +kernel
theorem dX9_setGoal_56 : decode cX9_setGoal 56 = .ok (.aload_n 0, 1) := by decide +kernel
theorem dX9_setGoal_57 : decode cX9_setGoal 57 = .ok (.getfield 31, 3) := by decide +kernel
theorem dX9_setGoal_60 : decode cX9_setGoal 60 = .ok (.iload_n 1, 1) := by decide +kernel
theorem dX9_setGoal_61 : decode cX9_setGoal 61 = .ok (.iaload, 1) := by decide +kernel
theorem dX9_setGoal_62 : decode cX9_setGoal 62 = .ok (.iload_n 3, 1) := by decide +kernel
theorem dX9_setGoal_63 : decode cX9_setGoal 63 = .ok (.if_icmp .ne 7, 3) := by decide +kernel
theorem dX9_setGoal_66 : decode cX9_setGoal 66 = .ok (.iconst 1, 1) := by decide +kernel
theorem dX9_setGoal_67 : decode cX9_setGoal 67 = .ok (.goto 4, 3) := by decide +kernel
theorem dX9_setGoal_70 : decode cX9_setGoal 70 = .ok (.iconst 0, 1) := by decide +kernel
theorem dX9_setGoal_71 : decode cX9_setGoal 71 = .ok (.istore 5, 2) := by decide +kernel
theorem dX9_setGoal_73 : decode cX9_setGoal 73 = .ok (.aload_n 0, 1) := by decide +kernel
theorem dX9_setGoal_74 : decode cX9_setGoal 74 = .ok (.getfield 28, 3) := by decide +kernel
theorem dX9_setGoal_77 : decode cX9_setGoal 77 = .ok (.iload_n 1, 1) := by decide +kernel
theorem dX9_setGoal_78 : decode cX9_setGoal 78 = .ok (.iload_n 2, 1) := by decide +kernel
theorem dX9_setGoal_79 : decode cX9_setGoal 79 = .ok (.iastore, 1) := by decide +kernel
theorem dX9_setGoal_80 : decode cX9_setGoal 80 = .ok (.aload_n 0, 1) := by decide +kernel
theorem dX9_setGoal_81 : decode cX9_setGoal 81 = .ok (.getfield 31, 3) := by decide +kernel
theorem dX9_setGoal_84 : decode cX9_setGoal 84 = .ok (.iload_n 1, 1) := by decide +kernel
theorem dX9_setGoal_85 : decode cX9_setGoal 85 = .ok (.iload_n 3, 1) := by decide +kernel
theorem dX9_setGoal_86 : decode cX9_setGoal 86 = .ok (.iastore, 1) := by decide +kernel
theorem dX9_setGoal_87 : decode cX9_setGoal 87 = .ok (.aload_n 0, 1) := by decide +kernel
theorem dX9_setGoal_88 : decode cX9_setGoal 88 = .ok (.getfield 34, 3) := by decide +kernel
theorem dX9_setGoal_91 : decode cX9_setGoal 91 = .ok (.iload_n 1, 1) := by decide +kernel
theorem dX9_setGoal_92 : decode cX9_setGoal 92 = .ok (.iload 4, 2) := by decide +kernel
theorem dX9_setGoal_94 : decode cX9_setGoal 94 = .ok (.iastore, 1) := by decide +kernel
theorem dX9_setGoal_95 : decode cX9_setGoal 95 = .ok (.iload 5, 2) := by decide +kernel
theorem dX9_setGoal_97 : decode cX9_setGoal 97 = .ok (.ifCond .eq 7, 3) := by decide +kernel
theorem dX9_setGoal_100 : decode cX9_setGoal 100 = .ok (.iconst 0, 1) := by decide +kernel
theorem dX9_setGoal_101 : decode cX9_setGoal 101 = .ok (.goto 4, 3) := by decide +kernel
theorem dX9_setGoal_104 : decode cX9_setGoal 104 = .ok (.iconst 1, 1) := by decide +kernel
theorem dX9_setGoal_105 : decode cX9_setGoal 105 = .ok (.ireturn, 1) := by decide +kernel
theorem dX9_clearGoal_0 : decode cX9_clearGoal 0 = .ok (.aload_n 0, 1) := by decide +kernel
theorem dX9_clearGoal_1 : decode cX9_clearGoal 1 = .ok (.iload_n 1, 1) := by decide +kernel
theorem dX9_clearGoal_2 : decode cX9_clearGoal 2 = .ok (.invokevirtual 225, 3) := by decide +kernel
theorem dX9_clearGoal_5 : decode cX9_clearGoal 5 = .ok (.ifCond .eq 5, 3) := by decide +kernel
theorem dX9_clearGoal_8 : decode cX9_clearGoal 8 = .ok (.iconst (-1), 1) := by decide +kernel
theorem dX9_clearGoal_9 : decode cX9_clearGoal 9 = .ok (.ireturn, 1) := by decide +kernel
theorem dX9_clearGoal_10 : decode cX9_clearGoal 10 = .ok (.aload_n 0, 1) := by decide +kernel
theorem dX9_clearGoal_11 : decode cX9_clearGoal 11 = .ok (.getfield 34, 3) := by decide +kernel
theorem dX9_clearGoal_14 : decode cX9_clearGoal 14 = .ok (.iload_n 1, 1) := by decide +kernel
theorem dX9_clearGoal_15 : decode cX9_clearGoal 15 = .ok (.iaload, 1) := by decide +kernel
theorem dX9_clearGoal_16 : decode cX9_clearGoal 16 = .ok (.ifCond .ge 7, 3) := by decide +kernel
theorem dX9_clearGoal_19 : decode cX9_clearGoal 19 = .ok (.iconst 0, 1) := by decide +kernel
theorem dX9_clearGoal_20 : decode cX9_clearGoal 20 = .ok (.goto 4, 3) := by decide +kernel
theorem dX9_clearGoal_23 : decode cX9_clearGoal 23 = .ok (.iconst 1, 1) := by decide +kernel
theorem dX9_clearGoal_24 : decode cX9_clearGoal 24 = .ok (.istore_n 2, 1) := by decide +kernel
theorem dX9_clearGoal_25 : decode cX9_clearGoal 25 = .ok (.aload_n 0, 1) := by decide +kernel
theorem dX9_clearGoal_26 : decode cX9_clearGoal 26 = .ok (.getfield 34, 3) := by decide +kernel
theorem dX9_clearGoal_29 : decode cX9_clearGoal 29 = .ok (.iload_n 1, 1) := by decide +kernel
theorem dX9_clearGoal_30 : decode cX9_clearGoal 30 = .ok (.iconst (-1), 1) := by decide +kernel
theorem dX9_clearGoal_31 : decode cX9_clearGoal 31 = .ok (.iastore, 1) := by decide +kernel
theorem dX9_clearGoal_32 : decode cX9_clearGoal 32 = .ok (.iload_n 2, 1) := by decide +kernel
theorem dX9_clearGoal_33 : decode cX9_clearGoal 33 = .ok (.ireturn, 1) := by decide +kernel
theorem dX9_isGroup_0 : decode cX9_isGroup 0 = .ok (.iload_n 0, 1) := by decide +kernel
theorem dX9_isGroup_1 : decode cX9_isGroup 1 = .ok (.iconst 0, 1) := by decide +kernel
theorem dX9_isGroup_2 : decode cX9_isGroup 2 = .ok (.iconst 3, 1) := by decide +kernel
theorem dX9_isGroup_3 : decode cX9_isGroup 3 = .ok (.invokestatic 119, 3) := by decide +kernel
theorem dX9_isGroup_6 : decode cX9_isGroup 6 = .ok (.ireturn, 1) := by decide +kernel
theorem dX9_setThreshold_0 : decode cX9_setThreshold 0 = .ok (.iload_n 1, 1) := by decide +kernel
theorem dX9_setThreshold_1 : decode cX9_setThreshold 1 = .ok (.invokestatic 252, 3) := by decide +kernel
theorem dX9_setThreshold_4 : decode cX9_setThreshold 4 = .ok (.ifCond .eq 13, 3) := by decide +kernel
theorem dX9_setThreshold_7 : decode cX9_setThreshold 7 = .ok (.iload_n 2, 1) := by decide +kernel
theorem dX9_setThreshold_8 : decode cX9_setThreshold 8 = .ok (.iconst 1, 1) := by decide +kernel
theorem dX9_setThreshold_9 : decode cX9_setThreshold 9 = .ok (.bipush 45, 2) := by decide +kernel
theorem dX9_setThreshold_11 : decode cX9_setThreshold 11 = .ok (.invokestatic 119, 3) := by decide +kernel
theorem dX9_setThreshold_14 : decode cX9_setThreshold 14 = .ok (.ifCond .ne 6, 3) := by decide +kernel
theorem dX9_setThreshold_17 : decode cX9_setThreshold 17 = .ok (.bipush (-3), 2) := by decide +kernel
theorem dX9_setThreshold_19 : decode cX9_setThreshold 19 = .ok (.ireturn, 1) := by decide +kernel
theorem dX9_setThreshold_20 : decode cX9_setThreshold 20 = .ok (.aload_n 0, 1) := by decide +kernel
theorem dX9_setThreshold_21 : decode cX9_setThreshold 21 = .ok (.getfield 7, 3) := by decide +kernel
theorem dX9_setThreshold_24 : decode cX9_setThreshold 24 = .ok (.iload_n 1, 1) := by decide +kernel
theorem dX9_setThreshold_25 : decode cX9_setThreshold 25 = .ok (.iaload, 1) := by decide +kernel
theorem dX9_setThreshold_26 : decode cX9_setThreshold 26 = .ok (.istore_n 3, 1) := by decide +kernel
theorem dX9_setThreshold_27 : decode cX9_setThreshold 27 = .ok (.aload_n 0, 1) := by decide +kernel
theorem dX9_setThreshold_28 : decode cX9_setThreshold 28 = .ok (.getfield 7, 3) := by decide +kernel
theorem dX9_setThreshold_31 : decode cX9_setThreshold 31 = .ok (.iload_n 1, 1) := by decide +kernel
theorem dX9_setThreshold_32 : decode cX9_setThreshold 32 = .ok (.iload_n 2, 1) := by decide +kernel
theorem dX9_setThreshold_33 : decode cX9_setThreshold 33 = .ok (.iastore, 1) := by decide +kernel
theorem dX9_setThreshold_34 : decode cX9_setThreshold 34 = .ok (.iload_n 3, 1) := by decide +kernel
theorem dX9_setThreshold_35 : decode cX9_setThreshold 35 = .ok (.ireturn, 1) := by decide +kernel
theorem dX9_setStrength_0 : decode cX9_setStrength 0 = .ok (.iload_n 1, 1) := by decide +kernel
theorem dX9_setStrength_1 : decode cX9_setStrength 1 = .ok (.iconst 1, 1) := by decide +kernel
theorem dX9_setStrength_2 : decode cX9_setStrength 2 = .ok (.bipush 45, 2) := by decide +kernel
theorem dX9_setStrength_4 : decode cX9_setStrength 4 = .ok (.invokestatic 119, 3) := by decide +kernel
theorem dX9_setStrength_7 : decode cX9_setStrength 7 = .ok (.ifCond .ne 6, 3) := by decide +kernel
theorem dX9_setStrength_10 : decode cX9_setStrength 10 = .ok (.bipush (-3), 2) := by decide +kernel
theorem dX9_setStrength_12 : decode cX9_setStrength 12 = .ok (.ireturn, 1) := by decide +kernel
theorem dX9_setStrength_13 : decode cX9_setStrength 13 = .ok (.aload_n 0, 1) := by decide +kernel
theorem dX9_setStrength_14 : decode cX9_setStrength 14 = .ok (.getfield 116, 3) := by decide +kernel
theorem dX9_setStrength_17 : decode cX9_setStrength 17 = .ok (.istore_n 2, 1) := by decide +kernel
theorem dX9_setStrength_18 : decode cX9_setStrength 18 = .ok (.aload_n 0, 1) := by decide +kernel
theorem dX9_setStrength_19 : decode cX9_setStrength 19 = .ok (.iload_n 1, 1) := by decide +kernel
theorem dX9_setStrength_20 : decode cX9_setStrength 20 = .ok (.putfield 116, 3) := by decide +kernel
theorem dX9_setStrength_23 : decode cX9_setStrength 23 = .ok (.iload_n 2, 1) := by decide +kernel
theorem dX9_setStrength_24 : decode cX9_setStrength 24 = .ok (.ireturn, 1) := by decide +kernel
theorem dX9_load_0 : decode cX9_load 0 = .ok (.iload_n 1, 1) := by decide +kernel
theorem dX9_load_1 : decode cX9_load 1 = .ok (.invokestatic 252, 3) := by decide +kernel
theorem dX9_load_4 : decode cX9_load 4 = .ok (.ifCond .ne 6, 3) := by decide +kernel
theorem dX9_load_7 : decode cX9_load 7 = .ok (.bipush (-3), 2) := by decide +kernel
theorem dX9_load_9 : decode cX9_load 9 = .ok (.ireturn, 1) := by decide +kernel
theorem dX9_load_10 : decode cX9_load 10 = .ok (.aload_n 0, 1) := by decide +kernel
theorem dX9_load_11 : decode cX9_load 11 = .ok (.invokevirtual 201, 3) := by decide +kernel
theorem dX9_load_14 : decode cX9_load 14 = .ok (.aload_n 0, 1) := by decide +kernel
theorem dX9_load_15 : decode cX9_load 15 = .ok (.getfield 68, 3) := by decide +kernel
theorem dX9_load_18 : decode cX9_load 18 = .ok (.iload_n 1, 1) := by decide +kernel
theorem dX9_load_19 : decode cX9_load 19 = .ok (.iaload, 1) := by decide +kernel
theorem dX9_load_20 : decode cX9_load 20 = .ok (.ireturn, 1) := by decide +kernel
theorem dX9_isOpen_0 : decode cX9_isOpen 0 = .ok (.iload_n 1, 1) := by decide +kernel
theorem dX9_isOpen_1 : decode cX9_isOpen 1 = .ok (.invokestatic 252, 3) := by decide +kernel
theorem dX9_isOpen_4 : decode cX9_isOpen 4 = .ok (.ifCond .ne 6, 3) := by decide +kernel
theorem dX9_isOpen_7 : decode cX9_isOpen 7 = .ok (.bipush (-3), 2) := by decide +kernel
theorem dX9_isOpen_9 : decode cX9_isOpen 9 = .ok (.ireturn, 1) := by decide +kernel
theorem dX9_isOpen_10 : decode cX9_isOpen 10 = .ok (.aload_n 0, 1) := by decide +kernel
theorem dX9_isOpen_11 : decode cX9_isOpen 11 = .ok (.invokevirtual 201, 3) := by decide +kernel
theorem dX9_isOpen_14 : decode cX9_isOpen 14 = .ok (.aload_n 0, 1) := by decide +kernel
theorem dX9_isOpen_15 : decode cX9_isOpen 15 = .ok (.getfield 68, 3) := by decide +kernel
theorem dX9_isOpen_18 : decode cX9_isOpen 18 = .ok (.iload_n 1, 1) := by decide +kernel
theorem dX9_isOpen_19 : decode cX9_isOpen 19 = .ok (.iaload, 1) := by decide +kernel
theorem dX9_isOpen_20 : decode cX9_isOpen 20 = .ok (.aload_n 0, 1) := by decide +kernel
theorem dX9_isOpen_21 : decode cX9_isOpen 21 = .ok (.getfield 7, 3) := by decide +kernel
theorem dX9_isOpen_24 : decode cX9_isOpen 24 = .ok (.iload_n 1, 1) := by decide +kernel
theorem dX9_isOpen_25 : decode cX9_isOpen 25 = .ok (.iaload, 1) := by decide +kernel
theorem dX9_isOpen_26 : decode cX9_isOpen 26 = .ok (.if_icmp .lt 7, 3) := by decide +kernel
theorem dX9_isOpen_29 : decode cX9_isOpen 29 = .ok (.iconst 1, 1) := by decide +kernel
theorem dX9_isOpen_30 : decode cX9_isOpen 30 = .ok (.goto 4, 3) := by decide +kernel
theorem dX9_isOpen_33 : decode cX9_isOpen 33 = .ok (.iconst 0, 1) := by decide +kernel
theorem dX9_isOpen_34 : decode cX9_isOpen 34 = .ok (.ireturn, 1) := by decide +kernel
theorem dX9_save_0 : decode cX9_save 0 = .ok (.iload_n 1, 1) := by decide +kernel
theorem dX9_save_1 : decode cX9_save 1 = .ok (.iconst 0, 1) := by decide +kernel
theorem dX9_save_2 : decode cX9_save 2 = .ok (.iconst 3, 1) := by decide +kernel
theorem dX9_save_3 : decode cX9_save 3 = .ok (.invokestatic 119, 3) := by decide +kernel
theorem dX9_save_6 : decode cX9_save 6 = .ok (.ifCond .ne 6, 3) := by decide +kernel
theorem dX9_save_9 : decode cX9_save 9 = .ok (.bipush (-3), 2) := by decide +kernel
theorem dX9_save_11 : decode cX9_save 11 = .ok (.ireturn, 1) := by decide +kernel
theorem dX9_save_12 : decode cX9_save 12 = .ok (.aload_n 0, 1) := by decide +kernel
theorem dX9_save_13 : decode cX9_save 13 = .ok (.getfield 84, 3) := by decide +kernel
theorem dX9_save_16 : decode cX9_save 16 = .ok (.iload_n 1, 1) := by decide +kernel
theorem dX9_save_17 : decode cX9_save 17 = .ok (.baload, 1) := by decide +kernel
theorem dX9_save_18 : decode cX9_save 18 = .ok (.ifCond .eq 7, 3) := by decide +kernel
theorem dX9_save_21 : decode cX9_save 21 = .ok (.iconst 0, 1) := by decide +kernel
theorem dX9_save_22 : decode cX9_save 22 = .ok (.goto 4, 3) := by decide +kernel
theorem dX9_save_25 : decode cX9_save 25 = .ok (.iconst 1, 1) := by decide +kernel
theorem dX9_save_26 : decode cX9_save 26 = .ok (.istore_n 2, 1) := by decide +kernel
theorem dX9_save_27 : decode cX9_save 27 = .ok (.aload_n 0, 1) := by decide +kernel
theorem dX9_save_28 : decode cX9_save 28 = .ok (.getfield 84, 3) := by decide +kernel
theorem dX9_save_31 : decode cX9_save 31 = .ok (.iload_n 1, 1) := by decide +kernel
theorem dX9_save_32 : decode cX9_save 32 = .ok (.iconst 1, 1) := by decide +kernel
theorem dX9_save_33 : decode cX9_save 33 = .ok (.bastore, 1) := by decide +kernel
theorem dX9_save_34 : decode cX9_save 34 = .ok (.aload_n 0, 1) := by decide +kernel
theorem dX9_save_35 : decode cX9_save 35 = .ok (.getfield 88, 3) := by decide +kernel
theorem dX9_save_38 : decode cX9_save 38 = .ok (.iload_n 1, 1) := by decide +kernel
theorem dX9_save_39 : decode cX9_save 39 = .ok (.aload_n 0, 1) := by decide +kernel
theorem dX9_save_40 : decode cX9_save 40 = .ok (.invokevirtual 217, 3) := by decide +kernel
theorem dX9_save_43 : decode cX9_save 43 = .ok (.lastore, 1) := by decide +kernel
theorem dX9_save_44 : decode cX9_save 44 = .ok (.iload_n 2, 1) := by decide +kernel
theorem dX9_save_45 : decode cX9_save 45 = .ok (.ireturn, 1) := by decide +kernel
theorem dX9_restore_0 : decode cX9_restore 0 = .ok (.iload_n 1, 1) := by decide +kernel
theorem dX9_restore_1 : decode cX9_restore 1 = .ok (.iconst 0, 1) := by decide +kernel
theorem dX9_restore_2 : decode cX9_restore 2 = .ok (.iconst 3, 1) := by decide +kernel
theorem dX9_restore_3 : decode cX9_restore 3 = .ok (.invokestatic 119, 3) := by decide +kernel
theorem dX9_restore_6 : decode cX9_restore 6 = .ok (.ifCond .ne 6, 3) := by decide +kernel
theorem dX9_restore_9 : decode cX9_restore 9 = .ok (.bipush (-3), 2) := by decide +kernel
theorem dX9_restore_11 : decode cX9_restore 11 = .ok (.ireturn, 1) := by decide +kernel
theorem dX9_restore_12 : decode cX9_restore 12 = .ok (.aload_n 0, 1) := by decide +kernel
theorem dX9_restore_13 : decode cX9_restore 13 = .ok (.getfield 84, 3) := by decide +kernel
theorem dX9_restore_16 : decode cX9_restore 16 = .ok (.iload_n 1, 1) := by decide +kernel
theorem dX9_restore_17 : decode cX9_restore 17 = .ok (.baload, 1) := by decide +kernel
theorem dX9_restore_18 : decode cX9_restore 18 = .ok (.ifCond .ne 6, 3) := by decide +kernel
theorem dX9_restore_21 : decode cX9_restore 21 = .ok (.bipush (-7), 2) := by decide +kernel
theorem dX9_restore_23 : decode cX9_restore 23 = .ok (.ireturn, 1) := by decide +kernel
theorem dX9_restore_24 : decode cX9_restore 24 = .ok (.aload_n 0, 1) := by decide +kernel
theorem dX9_restore_25 : decode cX9_restore 25 = .ok (.invokevirtual 217, 3) := by decide +kernel
theorem dX9_restore_28 : decode cX9_restore 28 = .ok (.lstore_n 2, 1) := by decide +kernel
theorem dX9_restore_29 : decode cX9_restore 29 = .ok (.aload_n 0, 1) := by decide +kernel
theorem dX9_restore_30 : decode cX9_restore 30 = .ok (.aload_n 0, 1) := by decide +kernel
theorem dX9_restore_31 : decode cX9_restore 31 = .ok (.getfield 88, 3) := by decide +kernel
theorem dX9_restore_34 : decode cX9_restore 34 = .ok (.iload_n 1, 1) := by decide +kernel
theorem dX9_restore_35 : decode cX9_restore 35 = .ok (.laload, 1) := by decide +kernel
theorem dX9_restore_36 : decode cX9_restore 36 = .ok (.invokevirtual 242, 3) := by decide +kernel
theorem dX9_restore_39 : decode cX9_restore 39 = .ok (.iconst 0, 1) := by decide +kernel
theorem dX9_restore_40 : decode cX9_restore 40 = .ok (.istore 4, 2) := by decide +kernel
theorem dX9_restore_42 : decode cX9_restore 42 = .ok (.iconst 0, 1) := by decide +kernel
theorem dX9_restore_43 : decode cX9_restore 43 = .ok (.istore 5, 2) := by decide +kernel
theorem dX9_restore_45 : decode cX9_restore 45 = .ok (.iload 5, 2) := by decide +kernel
theorem dX9_restore_47 : decode cX9_restore 47 = .ok (.iconst 5, 1) := by decide +kernel
theorem dX9_restore_48 : decode cX9_restore 48 = .ok (.if_icmp .ge 42, 3) := by decide +kernel
theorem dX9_restore_51 : decode cX9_restore 51 = .ok (.iload 4, 2) := by decide +kernel
theorem dX9_restore_53 : decode cX9_restore 53 = .ok (.lload_n 2, 1) := by decide +kernel
theorem dX9_restore_54 : decode cX9_restore 54 = .ok (.ldc2_w 159, 3) := by decide +kernel
theorem dX9_restore_57 : decode cX9_restore 57 = .ok (.lrem, 1) := by decide +kernel
theorem dX9_restore_58 : decode cX9_restore 58 = .ok (.aload_n 0, 1) := by decide +kernel
theorem dX9_restore_59 : decode cX9_restore 59 = .ok (.getfield 37, 3) := by decide +kernel
theorem dX9_restore_62 : decode cX9_restore 62 = .ok (.iload 5, 2) := by decide +kernel
theorem dX9_restore_64 : decode cX9_restore 64 = .ok (.iaload, 1) := by decide +kernel
theorem dX9_restore_65 : decode cX9_restore 65 = .ok (.i2l, 1) := by decide +kernel
theorem dX9_restore_66 : decode cX9_restore 66 = .ok (.lcmp, 1) := by decide +kernel
theorem dX9_restore_67 : decode cX9_restore 67 = .ok (.ifCond .eq 7, 3) := by decide +kernel
theorem dX9_restore_70 : decode cX9_restore 70 = .ok (.iconst 1, 1) := by decide +kernel
theorem dX9_restore_71 : decode cX9_restore 71 = .ok (.goto 4, 3) := by decide +kernel
theorem dX9_restore_74 : decode cX9_restore 74 = .ok (.iconst 0, 1) := by decide +kernel
theorem dX9_restore_75 : decode cX9_restore 75 = .ok (.iadd, 1) := by decide +kernel
theorem dX9_restore_76 : decode cX9_restore 76 = .ok (.istore 4, 2) := by decide +kernel
theorem dX9_restore_78 : decode cX9_restore 78 = .ok (.lload_n 2, 1) := by decide +kernel
theorem dX9_restore_79 : decode cX9_restore 79 = .ok (.ldc2_w 159, 3) := by decide +kernel
theorem dX9_restore_82 : decode cX9_restore 82 = .ok (.ldiv, 1) := by decide +kernel
theorem dX9_restore_83 : decode cX9_restore 83 = .ok (.lstore_n 2, 1) := by decide +kernel
theorem dX9_restore_84 : decode cX9_restore 84 = .ok (.iinc 5 1, 3) := by decide +kernel
theorem dX9_restore_87 : decode cX9_restore 87 = .ok (.goto (-42), 3) := by decide +kernel
theorem dX9_restore_90 : decode cX9_restore 90 = .ok (.aload_n 0, 1) := by decide +kernel
theorem dX9_restore_91 : decode cX9_restore 91 = .ok (.iconst 0, 1) := by decide +kernel
theorem dX9_restore_92 : decode cX9_restore 92 = .ok (.putfield 153, 3) := by decide +kernel
theorem dX9_restore_95 : decode cX9_restore 95 = .ok (.aload_n 0, 1) := by decide +kernel
theorem dX9_restore_96 : decode cX9_restore 96 = .ok (.iconst 0, 1) := by decide +kernel
theorem dX9_restore_97 : decode cX9_restore 97 = .ok (.putfield 156, 3) := by decide +kernel
theorem dX9_restore_100 : decode cX9_restore 100 = .ok (.iload 4, 2) := by decide +kernel
theorem dX9_restore_102 : decode cX9_restore 102 = .ok (.ireturn, 1) := by decide +kernel
theorem dX9_isFree_0 : decode cX9_isFree 0 = .ok (.aload_n 0, 1) := by decide +kernel
theorem dX9_isFree_1 : decode cX9_isFree 1 = .ok (.iload_n 1, 1) := by decide +kernel
theorem dX9_isFree_2 : decode cX9_isFree 2 = .ok (.iload_n 2, 1) := by decide +kernel
theorem dX9_isFree_3 : decode cX9_isFree 3 = .ok (.invokevirtual 167, 3) := by decide +kernel
theorem dX9_isFree_6 : decode cX9_isFree 6 = .ok (.ifCond .eq 17, 3) := by decide +kernel
theorem dX9_isFree_9 : decode cX9_isFree 9 = .ok (.aload_n 0, 1) := by decide +kernel
theorem dX9_isFree_10 : decode cX9_isFree 10 = .ok (.iload_n 1, 1) := by decide +kernel
theorem dX9_isFree_11 : decode cX9_isFree 11 = .ok (.iload_n 2, 1) := by decide +kernel
theorem dX9_isFree_12 : decode cX9_isFree 12 = .ok (.invokevirtual 171, 3) := by decide +kernel
theorem dX9_isFree_15 : decode cX9_isFree 15 = .ok (.iconst 1, 1) := by decide +kernel
theorem dX9_isFree_16 : decode cX9_isFree 16 = .ok (.if_icmp .eq 7, 3) := by decide +kernel
theorem dX9_isFree_19 : decode cX9_isFree 19 = .ok (.iconst 1, 1) := by decide +kernel
theorem dX9_isFree_20 : decode cX9_isFree 20 = .ok (.goto 4, 3) := by decide +kernel
theorem dX9_isFree_23 : decode cX9_isFree 23 = .ok (.iconst 0, 1) := by decide +kernel
theorem dX9_isFree_24 : decode cX9_isFree 24 = .ok (.ireturn, 1) := by decide +kernel
theorem dX9_isPlacement_0 : decode cX9_isPlacement 0 = .ok (.aload_n 0, 1) := by decide +kernel
theorem dX9_isPlacement_1 : decode cX9_isPlacement 1 = .ok (.iload_n 2, 1) := by decide +kernel
theorem dX9_isPlacement_2 : decode cX9_isPlacement 2 = .ok (.bipush 8, 2) := by decide +kernel
theorem dX9_isPlacement_4 : decode cX9_isPlacement 4 = .ok (.irem, 1) := by decide +kernel
theorem dX9_isPlacement_5 : decode cX9_isPlacement 5 = .ok (.iload_n 2, 1) := by decide +kernel
theorem dX9_isPlacement_6 : decode cX9_isPlacement 6 = .ok (.bipush 8, 2) := by decide +kernel
theorem dX9_isPlacement_8 : decode cX9_isPlacement 8 = .ok (.idiv, 1) := by decide +kernel
theorem dX9_isPlacement_9 : decode cX9_isPlacement 9 = .ok (.bipush 8, 2) := by decide +kernel
theorem dX9_isPlacement_11 : decode cX9_isPlacement 11 = .ok (.irem, 1) := by decide +kernel
theorem dX9_isPlacement_12 : decode cX9_isPlacement 12 = .ok (.invokevirtual 255, 3) := by decide +kernel
theorem dX9_isPlacement_15 : decode cX9_isPlacement 15 = .ok (.istore_n 3, 1) := by decide +kernel
theorem dX9_isPlacement_16 : decode cX9_isPlacement 16 = .ok (.iconst 0, 1) := by decide +kernel
theorem dX9_isPlacement_17 : decode cX9_isPlacement 17 = .ok (.istore 4, 2) := by decide +kernel
theorem dX9_isPlacement_19 : decode cX9_isPlacement 19 = .ok (.iload 4, 2) := by decide +kernel
theorem dX9_isPlacement_21 : decode cX9_isPlacement 21 = .ok (.aload_n 0, 1) := by decide +kernel
theorem dX9_isPlacement_22 : decode cX9_isPlacement 22 = .ok (.getfield 16, 3) := by decide +kernel
theorem dX9_isPlacement_25 : decode cX9_isPlacement 25 = .ok (.iload_n 1, 1) := by decide +kernel
theorem dX9_isPlacement_26 : decode cX9_isPlacement 26 = .ok (.iaload, 1) := by decide +kernel
theorem dX9_isPlacement_27 : decode cX9_isPlacement 27 = .ok (.if_icmp .ge 42, 3) := by decide +kernel
theorem dX9_isPlacement_30 : decode cX9_isPlacement 30 = .ok (.iload_n 3, 1) := by decide +kernel
theorem dX9_isPlacement_31 : decode cX9_isPlacement 31 = .ok (.ifCond .eq 30, 3) := by decide +kernel
theorem dX9_isPlacement_34 : decode cX9_isPlacement 34 = .ok (.aload_n 0, 1) := by decide +kernel
theorem dX9_isPlacement_35 : decode cX9_isPlacement 35 = .ok (.aload_n 0, 1) := by decide +kernel
theorem dX9_isPlacement_36 : decode cX9_isPlacement 36 = .ok (.iload_n 1, 1) := by decide +kernel
theorem dX9_isPlacement_37 : decode cX9_isPlacement 37 = .ok (.iload 4, 2) := by decide +kernel
theorem dX9_isPlacement_39 : decode cX9_isPlacement 39 = .ok (.iload_n 2, 1) := by decide +kernel
theorem dX9_isPlacement_40 : decode cX9_isPlacement 40 = .ok (.invokevirtual 164, 3) := by decide +kernel
theorem dX9_isPlacement_43 : decode cX9_isPlacement 43 = .ok (.aload_n 0, 1) := by decide +kernel
theorem dX9_isPlacement_44 : decode cX9_isPlacement 44 = .ok (.iload_n 1, 1) := by decide +kernel
theorem dX9_isPlacement_45 : decode cX9_isPlacement 45 = .ok (.iload 4, 2) := by decide +kernel
theorem dX9_isPlacement_47 : decode cX9_isPlacement 47 = .ok (.iload_n 2, 1) := by decide +kernel
theorem dX9_isPlacement_48 : decode cX9_isPlacement 48 = .ok (.invokevirtual 161, 3) := by decide +kernel
theorem dX9_isPlacement_51 : decode cX9_isPlacement 51 = .ok (.invokevirtual 255, 3) := by decide +kernel
theorem dX9_isPlacement_54 : decode cX9_isPlacement 54 = .ok (.ifCond .eq 7, 3) := by decide +kernel
theorem dX9_isPlacement_57 : decode cX9_isPlacement 57 = .ok (.iconst 1, 1) := by decide +kernel
theorem dX9_isPlacement_58 : decode cX9_isPlacement 58 = .ok (.goto 4, 3) := by decide +kernel
theorem dX9_isPlacement_61 : decode cX9_isPlacement 61 = .ok (.iconst 0, 1) := by decide +kernel
theorem dX9_isPlacement_62 : decode cX9_isPlacement 62 = .ok (.istore_n 3, 1) := by decide +kernel
theorem dX9_isPlacement_63 : decode cX9_isPlacement 63 = .ok (.iinc 4 1, 3) := by decide +kernel
theorem dX9_isPlacement_66 : decode cX9_isPlacement 66 = .ok (.goto (-47), 3) := by decide +kernel
theorem dX9_isPlacement_69 : decode cX9_isPlacement 69 = .ok (.iload_n 3, 1) := by decide +kernel
theorem dX9_isPlacement_70 : decode cX9_isPlacement 70 = .ok (.ireturn, 1) := by decide +kernel
theorem dX9_maySlideAlone_0 : decode cX9_maySlideAlone 0 = .ok (.iconst 1, 1) := by decide +kernel
theorem dX9_maySlideAlone_1 : decode cX9_maySlideAlone 1 = .ok (.istore 4, 2) := by decide +kernel
theorem dX9_maySlideAlone_3 : decode cX9_maySlideAlone 3 = .ok (.iconst 0, 1) := by decide +kernel
theorem dX9_maySlideAlone_4 : decode cX9_maySlideAlone 4 = .ok (.istore 5, 2) := by decide +kernel
theorem dX9_maySlideAlone_6 : decode cX9_maySlideAlone 6 = .ok (.iload 5, 2) := by decide +kernel
theorem dX9_maySlideAlone_8 : decode cX9_maySlideAlone 8 = .ok (.aload_n 0, 1) := by decide +kernel
theorem dX9_maySlideAlone_9 : decode cX9_maySlideAlone 9 = .ok (.getfield 16, 3) := by decide +kernel
theorem dX9_maySlideAlone_12 : decode cX9_maySlideAlone 12 = .ok (.iload_n 1, 1) := by decide +kernel
theorem dX9_maySlideAlone_13 : decode cX9_maySlideAlone 13 = .ok (.iaload, 1) := by decide +kernel
theorem dX9_maySlideAlone_14 : decode cX9_maySlideAlone 14 = .ok (.if_icmp .ge 92, 3) := by decide +kernel
theorem dX9_maySlideAlone_17 : decode cX9_maySlideAlone 17 = .ok (.iload 4, 2) := by decide +kernel
theorem dX9_maySlideAlone_19 : decode cX9_maySlideAlone 19 = .ok (.ifCond .eq 87, 3) := by decide +kernel
theorem dX9_maySlideAlone_22 : decode cX9_maySlideAlone 22 = .ok (.aload_n 0, 1) := by decide +kernel
theorem dX9_maySlideAlone_23 : decode cX9_maySlideAlone 23 = .ok (.iload_n 1, 1) := by decide +kernel
theorem dX9_maySlideAlone_24 : decode cX9_maySlideAlone 24 = .ok (.iload 5, 2) := by decide +kernel
theorem dX9_maySlideAlone_26 : decode cX9_maySlideAlone 26 = .ok (.iload_n 2, 1) := by decide +kernel
theorem dX9_maySlideAlone_27 : decode cX9_maySlideAlone 27 = .ok (.invokevirtual 164, 3) := by decide +kernel
theorem dX9_maySlideAlone_30 : decode cX9_maySlideAlone 30 = .ok (.iload_n 3, 1) := by decide +kernel
theorem dX9_maySlideAlone_31 : decode cX9_maySlideAlone 31 = .ok (.invokestatic 175, 3) := by decide +kernel
theorem dX9_maySlideAlone_34 : decode cX9_maySlideAlone 34 = .ok (.iadd, 1) := by decide +kernel
theorem dX9_maySlideAlone_35 : decode cX9_maySlideAlone 35 = .ok (.istore 6, 2) := by decide +kernel
theorem dX9_maySlideAlone_37 : decode cX9_maySlideAlone 37 = .ok (.aload_n 0, 1) := by decide +kernel
theorem dX9_maySlideAlone_38 : decode cX9_maySlideAlone 38 = .ok (.iload_n 1, 1) := by decide +kernel
theorem dX9_maySlideAlone_39 : decode cX9_maySlideAlone 39 = .ok (.iload 5, 2) := by decide +kernel
theorem dX9_maySlideAlone_41 : decode cX9_maySlideAlone 41 = .ok (.iload_n 2, 1) := by decide +kernel
theorem dX9_maySlideAlone_42 : decode cX9_maySlideAlone 42 = .ok (.invokevirtual 161, 3) := by decide +kernel
theorem dX9_maySlideAlone_45 : decode cX9_maySlideAlone 45 = .ok (.iload_n 3, 1) := by decide +kernel
theorem dX9_maySlideAlone_46 : decode cX9_maySlideAlone 46 = .ok (.invokestatic 179, 3) := by decide +kernel
theorem dX9_maySlideAlone_49 : decode cX9_maySlideAlone 49 = .ok (.iadd, 1) := by decide +kernel
theorem dX9_maySlideAlone_50 : decode cX9_maySlideAlone 50 = .ok (.istore 7, 2) := by decide +kernel
theorem dX9_maySlideAlone_52 : decode cX9_maySlideAlone 52 = .ok (.aload_n 0, 1) := by decide +kernel
theorem dX9_maySlideAlone_53 : decode cX9_maySlideAlone 53 = .ok (.iload 6, 2) := by decide +kernel
theorem dX9_maySlideAlone_55 : decode cX9_maySlideAlone 55 = .ok (.iload 7, 2) := by decide +kernel
theorem dX9_maySlideAlone_57 : decode cX9_maySlideAlone 57 = .ok (.invokevirtual 255, 3) := by decide +kernel
theorem dX9_maySlideAlone_60 : decode cX9_maySlideAlone 60 = .ok (.ifCond .eq 37, 3) := by decide +kernel
theorem dX9_maySlideAlone_63 : decode cX9_maySlideAlone 63 = .ok (.aload_n 0, 1) := by decide +kernel
theorem dX9_maySlideAlone_64 : decode cX9_maySlideAlone 64 = .ok (.iload 6, 2) := by decide +kernel
theorem dX9_maySlideAlone_66 : decode cX9_maySlideAlone 66 = .ok (.iload 7, 2) := by decide +kernel
theorem dX9_maySlideAlone_68 : decode cX9_maySlideAlone 68 = .ok (.invokevirtual 171, 3) := by decide +kernel
theorem dX9_maySlideAlone_71 : decode cX9_maySlideAlone 71 = .ok (.iconst 2, 1) := by decide +kernel
theorem dX9_maySlideAlone_72 : decode cX9_maySlideAlone 72 = .ok (.iconst 5, 1) := by decide +kernel
theorem dX9_maySlideAlone_73 : decode cX9_maySlideAlone 73 = .ok (.invokestatic 119, 3) := by decide +kernel
theorem dX9_maySlideAlone_76 : decode cX9_maySlideAlone 76 = .ok (.ifCond .eq 17, 3) := by decide +kernel
theorem dX9_maySlideAlone_79 : decode cX9_maySlideAlone 79 = .ok (.aload_n 0, 1) := by decide +kernel
theorem dX9_maySlideAlone_80 : decode cX9_maySlideAlone 80 = .ok (.iload 6, 2) := by decide +kernel
theorem dX9_maySlideAlone_82 : decode cX9_maySlideAlone 82 = .ok (.iload 7, 2) := by decide +kernel
theorem dX9_maySlideAlone_84 : decode cX9_maySlideAlone 84 = .ok (.invokevirtual 171, 3) := by decide +kernel
theorem dX9_maySlideAlone_87 : decode cX9_maySlideAlone 87 = .ok (.iconst 2, 1) := by decide +kernel
theorem dX9_maySlideAlone_88 : decode cX9_maySlideAlone 88 = .ok (.iload_n 3, 1) := by decide +kernel
theorem dX9_maySlideAlone_89 : decode cX9_maySlideAlone 89 = .ok (.iadd, 1) := by decide +kernel
theorem dX9_maySlideAlone_90 : decode cX9_maySlideAlone 90 = .ok (.if_icmp .ne 7, 3) := by decide +kernel
theorem dX9_maySlideAlone_93 : decode cX9_maySlideAlone 93 = .ok (.iconst 1, 1) := by decide +kernel
theorem dX9_maySlideAlone_94 : decode cX9_maySlideAlone 94 = .ok (.goto 4, 3) := by decide +kernel
theorem dX9_maySlideAlone_97 : decode cX9_maySlideAlone 97 = .ok (.iconst 0, 1) := by decide +kernel
theorem dX9_maySlideAlone_98 : decode cX9_maySlideAlone 98 = .ok (.istore 4, 2) := by decide +kernel
theorem dX9_maySlideAlone_100 : decode cX9_maySlideAlone 100 = .ok (.iinc 5 1, 3) := by decide +kernel
theorem dX9_maySlideAlone_103 : decode cX9_maySlideAlone 103 = .ok (.goto (-97), 3) := by decide +kernel
theorem dX9_maySlideAlone_106 : decode cX9_maySlideAlone 106 = .ok (.iload 4, 2) := by decide +kernel
theorem dX9_maySlideAlone_108 : decode cX9_maySlideAlone 108 = .ok (.ireturn, 1) := by decide +kernel
theorem dX9_mayTurnAlone_0 : decode cX9_mayTurnAlone 0 = .ok (.iload_n 2, 1) := by decide +kernel
theorem dX9_mayTurnAlone_1 : decode cX9_mayTurnAlone 1 = .ok (.bipush 8, 2) := by decide +kernel
theorem dX9_mayTurnAlone_3 : decode cX9_mayTurnAlone 3 = .ok (.irem, 1) := by decide +kernel
theorem dX9_mayTurnAlone_4 : decode cX9_mayTurnAlone 4 = .ok (.istore 4, 2) := by decide +kernel
theorem dX9_mayTurnAlone_6 : decode cX9_mayTurnAlone 6 = .ok (.iload_n 2, 1) := by decide +kernel
theorem dX9_mayTurnAlone_7 : decode cX9_mayTurnAlone 7 = .ok (.bipush 8, 2) := by decide +kernel
theorem dX9_mayTurnAlone_9 : decode cX9_mayTurnAlone 9 = .ok (.idiv, 1) := by decide +kernel
theorem dX9_mayTurnAlone_10 : decode cX9_mayTurnAlone 10 = .ok (.bipush 8, 2) := by decide +kernel
theorem dX9_mayTurnAlone_12 : decode cX9_mayTurnAlone 12 = .ok (.irem, 1) := by decide +kernel
theorem dX9_mayTurnAlone_13 : decode cX9_mayTurnAlone 13 = .ok (.istore 5, 2) := by decide +kernel
theorem dX9_mayTurnAlone_15 : decode cX9_mayTurnAlone 15 = .ok (.iconst 1, 1) := by decide +kernel
theorem dX9_mayTurnAlone_16 : decode cX9_mayTurnAlone 16 = .ok (.istore 6, 2) := by decide +kernel
theorem dX9_mayTurnAlone_18 : decode cX9_mayTurnAlone 18 = .ok (.iconst 0, 1) := by decide +kernel
theorem dX9_mayTurnAlone_19 : decode cX9_mayTurnAlone 19 = .ok (.istore 7, 2) := by decide +kernel
theorem dX9_mayTurnAlone_21 : decode cX9_mayTurnAlone 21 = .ok (.iload 7, 2) := by decide +kernel
theorem dX9_mayTurnAlone_23 : decode cX9_mayTurnAlone 23 = .ok (.aload_n 0, 1) := by decide +kernel
theorem dX9_mayTurnAlone_24 : decode cX9_mayTurnAlone 24 = .ok (.getfield 16, 3) := by decide +kernel
theorem dX9_mayTurnAlone_27 : decode cX9_mayTurnAlone 27 = .ok (.iload_n 1, 1) := by decide +kernel
theorem dX9_mayTurnAlone_28 : decode cX9_mayTurnAlone 28 = .ok (.iaload, 1) := by decide +kernel
theorem dX9_mayTurnAlone_29 : decode cX9_mayTurnAlone 29 = .ok (.if_icmp .ge 164, 3) := by decide +kernel
theorem dX9_mayTurnAlone_32 : decode cX9_mayTurnAlone 32 = .ok (.iload 6, 2) := by decide +kernel
theorem dX9_mayTurnAlone_34 : decode cX9_mayTurnAlone 34 = .ok (.ifCond .eq 159, 3) := by decide +kernel
theorem dX9_mayTurnAlone_37 : decode cX9_mayTurnAlone 37 = .ok (.aload_n 0, 1) := by decide +kernel
theorem dX9_mayTurnAlone_38 : decode cX9_mayTurnAlone 38 = .ok (.aload_n 0, 1) := by decide +kernel
theorem dX9_mayTurnAlone_39 : decode cX9_mayTurnAlone 39 = .ok (.iload_n 1, 1) := by decide +kernel
theorem dX9_mayTurnAlone_40 : decode cX9_mayTurnAlone 40 = .ok (.iload 7, 2) := by decide +kernel
theorem dX9_mayTurnAlone_42 : decode cX9_mayTurnAlone 42 = .ok (.iload_n 2, 1) := by decide +kernel
theorem dX9_mayTurnAlone_43 : decode cX9_mayTurnAlone 43 = .ok (.invokevirtual 164, 3) := by decide +kernel
theorem dX9_mayTurnAlone_46 : decode cX9_mayTurnAlone 46 = .ok (.iload 4, 2) := by decide +kernel
theorem dX9_mayTurnAlone_48 : decode cX9_mayTurnAlone 48 = .ok (.isub, 1) := by decide +kernel
theorem dX9_mayTurnAlone_49 : decode cX9_mayTurnAlone 49 = .ok (.putfield 188, 3) := by decide +kernel
theorem dX9_mayTurnAlone_52 : decode cX9_mayTurnAlone 52 = .ok (.aload_n 0, 1) := by decide +kernel
theorem dX9_mayTurnAlone_53 : decode cX9_mayTurnAlone 53 = .ok (.aload_n 0, 1) := by decide +kernel
theorem dX9_mayTurnAlone_54 : decode cX9_mayTurnAlone 54 = .ok (.iload_n 1, 1) := by decide +kernel
theorem dX9_mayTurnAlone_55 : decode cX9_mayTurnAlone 55 = .ok (.iload 7, 2) := by decide +kernel
theorem dX9_mayTurnAlone_57 : decode cX9_mayTurnAlone 57 = .ok (.iload_n 2, 1) := by decide +kernel
theorem dX9_mayTurnAlone_58 : decode cX9_mayTurnAlone 58 = .ok (.invokevirtual 161, 3) := by decide +kernel
theorem dX9_mayTurnAlone_61 : decode cX9_mayTurnAlone 61 = .ok (.iload 5, 2) := by decide +kernel
theorem dX9_mayTurnAlone_63 : decode cX9_mayTurnAlone 63 = .ok (.isub, 1) := by decide +kernel
theorem dX9_mayTurnAlone_64 : decode cX9_mayTurnAlone 64 = .ok (.putfield 191, 3) := by decide +kernel
theorem dX9_mayTurnAlone_67 : decode cX9_mayTurnAlone 67 = .ok (.aload_n 0, 1) := by decide +kernel
theorem dX9_mayTurnAlone_68 : decode cX9_mayTurnAlone 68 = .ok (.getfield 188, 3) := by decide +kernel
theorem dX9_mayTurnAlone_71 : decode cX9_mayTurnAlone 71 = .ok (.invokestatic 194, 3) := by decide +kernel
theorem dX9_mayTurnAlone_74 : decode cX9_mayTurnAlone 74 = .ok (.aload_n 0, 1) := by decide +kernel
theorem dX9_mayTurnAlone_75 : decode cX9_mayTurnAlone 75 = .ok (.getfield 191, 3) := by decide +kernel
theorem dX9_mayTurnAlone_78 : decode cX9_mayTurnAlone 78 = .ok (.invokestatic 194, 3) := by decide +kernel
theorem dX9_mayTurnAlone_81 : decode cX9_mayTurnAlone 81 = .ok (.if_icmp .le 13, 3) := by decide +kernel
theorem dX9_mayTurnAlone_84 : decode cX9_mayTurnAlone 84 = .ok (.aload_n 0, 1) := by decide +kernel
theorem dX9_mayTurnAlone_85 : decode cX9_mayTurnAlone 85 = .ok (.getfield 188, 3) := by decide +kernel
theorem dX9_mayTurnAlone_88 : decode cX9_mayTurnAlone 88 = .ok (.invokestatic 194, 3) := by decide +kernel
theorem dX9_mayTurnAlone_91 : decode cX9_mayTurnAlone 91 = .ok (.goto 10, 3) := by decide +kernel
theorem dX9_mayTurnAlone_94 : decode cX9_mayTurnAlone 94 = .ok (.aload_n 0, 1) := by decide +kernel
theorem dX9_mayTurnAlone_95 : decode cX9_mayTurnAlone 95 = .ok (.getfield 191, 3) := by decide +kernel
theorem dX9_mayTurnAlone_98 : decode cX9_mayTurnAlone 98 = .ok (.invokestatic 194, 3) := by decide +kernel
theorem dX9_mayTurnAlone_101 : decode cX9_mayTurnAlone 101 = .ok (.istore 8, 2) := by decide +kernel
theorem dX9_mayTurnAlone_103 : decode cX9_mayTurnAlone 103 = .ok (.iconst 0, 1) := by decide +kernel
theorem dX9_mayTurnAlone_104 : decode cX9_mayTurnAlone 104 = .ok (.istore 9, 2) := by decide +kernel
theorem dX9_mayTurnAlone_106 : decode cX9_mayTurnAlone 106 = .ok (.iload 9, 2) := by decide +kernel
theorem dX9_mayTurnAlone_108 : decode cX9_mayTurnAlone 108 = .ok (.iconst 2, 1) := by decide +kernel
theorem dX9_mayTurnAlone_109 : decode cX9_mayTurnAlone 109 = .ok (.iload 8, 2) := by decide +kernel
theorem dX9_mayTurnAlone_111 : decode cX9_mayTurnAlone 111 = .ok (.imul, 1) := by decide +kernel
theorem dX9_mayTurnAlone_112 : decode cX9_mayTurnAlone 112 = .ok (.if_icmp .ge 75, 3) := by decide +kernel
theorem dX9_mayTurnAlone_115 : decode cX9_mayTurnAlone 115 = .ok (.iload 6, 2) := by decide +kernel
theorem dX9_mayTurnAlone_117 : decode cX9_mayTurnAlone 117 = .ok (.ifCond .eq 70, 3) := by decide +kernel
theorem dX9_mayTurnAlone_120 : decode cX9_mayTurnAlone 120 = .ok (.aload_n 0, 1) := by decide +kernel
theorem dX9_mayTurnAlone_121 : decode cX9_mayTurnAlone 121 = .ok (.iload 8, 2) := by decide +kernel
theorem dX9_mayTurnAlone_123 : decode cX9_mayTurnAlone 123 = .ok (.iload_n 3, 1) := by decide +kernel
theorem dX9_mayTurnAlone_124 : decode cX9_mayTurnAlone 124 = .ok (.invokevirtual 197, 3) := by decide +kernel
theorem dX9_mayTurnAlone_127 : decode cX9_mayTurnAlone 127 = .ok (.aload_n 0, 1) := by decide +kernel
theorem dX9_mayTurnAlone_128 : decode cX9_mayTurnAlone 128 = .ok (.iload 4, 2) := by decide +kernel
theorem dX9_mayTurnAlone_130 : decode cX9_mayTurnAlone 130 = .ok (.aload_n 0, 1) := by decide +kernel
theorem dX9_mayTurnAlone_131 : decode cX9_mayTurnAlone 131 = .ok (.getfield 188, 3) := by decide +kernel
theorem dX9_mayTurnAlone_134 : decode cX9_mayTurnAlone 134 = .ok (.iadd, 1) := by decide +kernel
theorem dX9_mayTurnAlone_135 : decode cX9_mayTurnAlone 135 = .ok (.iload 5, 2) := by decide +kernel
theorem dX9_mayTurnAlone_137 : decode cX9_mayTurnAlone 137 = .ok (.aload_n 0, 1) := by decide +kernel
theorem dX9_mayTurnAlone_138 : decode cX9_mayTurnAlone 138 = .ok (.getfield 191, 3) := by decide +kernel
theorem dX9_mayTurnAlone_141 : decode cX9_mayTurnAlone 141 = .ok (.iadd, 1) := by decide +kernel
theorem dX9_mayTurnAlone_142 : decode cX9_mayTurnAlone 142 = .ok (.invokevirtual 255, 3) := by decide +kernel
theorem dX9_mayTurnAlone_145 : decode cX9_mayTurnAlone 145 = .ok (.ifCond .eq 33, 3) := by decide +kernel
theorem dX9_mayTurnAlone_148 : decode cX9_mayTurnAlone 148 = .ok (.aload_n 0, 1) := by decide +kernel
theorem dX9_mayTurnAlone_149 : decode cX9_mayTurnAlone 149 = .ok (.iload 4, 2) := by decide +kernel
theorem dX9_mayTurnAlone_151 : decode cX9_mayTurnAlone 151 = .ok (.aload_n 0, 1) := by decide +kernel
theorem dX9_mayTurnAlone_152 : decode cX9_mayTurnAlone 152 = .ok (.getfield 188, 3) := by decide +kernel
theorem dX9_mayTurnAlone_155 : decode cX9_mayTurnAlone 155 = .ok (.iadd, 1) := by decide +kernel
theorem dX9_mayTurnAlone_156 : decode cX9_mayTurnAlone 156 = .ok (.iload 5, 2) := by decide +kernel
theorem dX9_mayTurnAlone_158 : decode cX9_mayTurnAlone 158 = .ok (.aload_n 0, 1) := by decide +kernel
theorem dX9_mayTurnAlone_159 : decode cX9_mayTurnAlone 159 = .ok (.getfield 191, 3) := by decide +kernel
theorem dX9_mayTurnAlone_162 : decode cX9_mayTurnAlone 162 = .ok (.iadd, 1) := by decide +kernel
theorem dX9_mayTurnAlone_163 : decode cX9_mayTurnAlone 163 = .ok (.invokevirtual 171, 3) := by decide +kernel
theorem dX9_mayTurnAlone_166 : decode cX9_mayTurnAlone 166 = .ok (.iconst 2, 1) := by decide +kernel
theorem dX9_mayTurnAlone_167 : decode cX9_mayTurnAlone 167 = .ok (.iconst 5, 1) := by decide +kernel
theorem dX9_mayTurnAlone_168 : decode cX9_mayTurnAlone 168 = .ok (.invokestatic 119, 3) := by decide +kernel
theorem dX9_mayTurnAlone_171 : decode cX9_mayTurnAlone 171 = .ok (.ifCond .ne 7, 3) := by decide +kernel
theorem dX9_mayTurnAlone_174 : decode cX9_mayTurnAlone 174 = .ok (.iconst 1, 1) := by decide +kernel
theorem dX9_mayTurnAlone_175 : decode cX9_mayTurnAlone 175 = .ok (.goto 4, 3) := by decide +kernel
theorem dX9_mayTurnAlone_178 : decode cX9_mayTurnAlone 178 = .ok (.iconst 0, 1) := by decide +kernel
theorem dX9_mayTurnAlone_179 : decode cX9_mayTurnAlone 179 = .ok (.istore 6, 2) := by decide +kernel
theorem dX9_mayTurnAlone_181 : decode cX9_mayTurnAlone 181 = .ok (.iinc 9 1, 3) := by decide +kernel
theorem dX9_mayTurnAlone_184 : decode cX9_mayTurnAlone 184 = .ok (.goto (-78), 3) := by decide +kernel
theorem dX9_mayTurnAlone_187 : decode cX9_mayTurnAlone 187 = .ok (.iinc 7 1, 3) := by decide +kernel
theorem dX9_mayTurnAlone_190 : decode cX9_mayTurnAlone 190 = .ok (.goto (-169), 3) := by decide +kernel
theorem dX9_mayTurnAlone_193 : decode cX9_mayTurnAlone 193 = .ok (.iload 6, 2) := by decide +kernel
theorem dX9_mayTurnAlone_195 : decode cX9_mayTurnAlone 195 = .ok (.ireturn, 1) := by decide +kernel
end
section
theorem dX9_isAtGoal_0 : decode cX9_isAtGoal 0 = .ok (.iload_n 2, 1) := by decide +kernel
theorem dX9_isAtGoal_1 : decode cX9_isAtGoal 1 = .ok (.bipush 8, 2) := by decide +kernel
theorem dX9_isAtGoal_3 : decode cX9_isAtGoal 3 = .ok (.irem, 1) := by decide +kernel
theorem dX9_isAtGoal_4 : decode cX9_isAtGoal 4 = .ok (.aload_n 0, 1) := by decide +kernel
theorem dX9_isAtGoal_5 : decode cX9_isAtGoal 5 = .ok (.getfield 28, 3) := by decide +kernel
theorem dX9_isAtGoal_8 : decode cX9_isAtGoal 8 = .ok (.iload_n 1, 1) := by decide +kernel
theorem dX9_isAtGoal_9 : decode cX9_isAtGoal 9 = .ok (.iaload, 1) := by decide +kernel
theorem dX9_isAtGoal_10 : decode cX9_isAtGoal 10 = .ok (.if_icmp .ne 46, 3) := by decide +kernel
theorem dX9_isAtGoal_13 : decode cX9_isAtGoal 13 = .ok (.iload_n 2, 1) := by decide +kernel
theorem dX9_isAtGoal_14 : decode cX9_isAtGoal 14 = .ok (.bipush 8, 2) := by decide +kernel
theorem dX9_isAtGoal_16 : decode cX9_isAtGoal 16 = .ok (.idiv, 1) := by decide +kernel
theorem dX9_isAtGoal_17 : decode cX9_isAtGoal 17 = .ok (.bipush 8, 2) := by decide +kernel
theorem dX9_isAtGoal_19 : decode cX9_isAtGoal 19 = .ok (.irem, 1) := by decide +kernel
theorem dX9_isAtGoal_20 : decode cX9_isAtGoal 20 = .ok (.aload_n 0, 1) := by decide +kernel
theorem dX9_isAtGoal_21 : decode cX9_isAtGoal 21 = .ok (.getfield 31, 3) := by decide +kernel
theorem dX9_isAtGoal_24 : decode cX9_isAtGoal 24 = .ok (.iload_n 1, 1) := by decide +kernel
theorem dX9_isAtGoal_25 : decode cX9_isAtGoal 25 = .ok (.iaload, 1) := by decide +kernel
theorem dX9_isAtGoal_26 : decode cX9_isAtGoal 26 = .ok (.if_icmp .ne 30, 3) := by decide +kernel
theorem dX9_isAtGoal_29 : decode cX9_isAtGoal 29 = .ok (.aload_n 0, 1) := by decide +kernel
theorem dX9_isAtGoal_30 : decode cX9_isAtGoal 30 = .ok (.getfield 34, 3) := by decide +kernel
theorem dX9_isAtGoal_33 : decode cX9_isAtGoal 33 = .ok (.iload_n 1, 1) := by decide +kernel
theorem dX9_isAtGoal_34 : decode cX9_isAtGoal 34 = .ok (.iaload, 1) := by decide +kernel
theorem dX9_isAtGoal_35 : decode cX9_isAtGoal 35 = .ok (.iconst 4, 1) := by decide +kernel
theorem dX9_isAtGoal_36 : decode cX9_isAtGoal 36 = .ok (.if_icmp .eq 16, 3) := by decide +kernel
theorem dX9_isAtGoal_39 : decode cX9_isAtGoal 39 = .ok (.aload_n 0, 1) := by decide +kernel
theorem dX9_isAtGoal_40 : decode cX9_isAtGoal 40 = .ok (.getfield 34, 3) := by decide +kernel
theorem dX9_isAtGoal_43 : decode cX9_isAtGoal 43 = .ok (.iload_n 1, 1) := by decide +kernel
theorem dX9_isAtGoal_44 : decode cX9_isAtGoal 44 = .ok (.iaload, 1) := by decide +kernel
theorem dX9_isAtGoal_45 : decode cX9_isAtGoal 45 = .ok (.iload_n 2, 1) := by decide +kernel
theorem dX9_isAtGoal_46 : decode cX9_isAtGoal 46 = .ok (.bipush 64, 2) := by decide +kernel
theorem dX9_isAtGoal_48 : decode cX9_isAtGoal 48 = .ok (.idiv, 1) := by decide +kernel
theorem dX9_isAtGoal_49 : decode cX9_isAtGoal 49 = .ok (.if_icmp .ne 7, 3) := by decide +kernel
theorem dX9_isAtGoal_52 : decode cX9_isAtGoal 52 = .ok (.iconst 1, 1) := by decide +kernel
theorem dX9_isAtGoal_53 : decode cX9_isAtGoal 53 = .ok (.goto 4, 3) := by decide +kernel
theorem dX9_isAtGoal_56 : decode cX9_isAtGoal 56 = .ok (.iconst 0, 1) := by decide +kernel
theorem dX9_isAtGoal_57 : decode cX9_isAtGoal 57 = .ok (.ireturn, 1) := by decide +kernel
theorem dX9_findFar_0 : decode cX9_findFar 0 = .ok (.iconst 0, 1) := by decide +kernel
theorem dX9_findFar_1 : decode cX9_findFar 1 = .ok (.istore_n 2, 1) := by decide +kernel
theorem dX9_findFar_2 : decode cX9_findFar 2 = .ok (.iload_n 2, 1) := by decide +kernel
theorem dX9_findFar_3 : decode cX9_findFar 3 = .ok (.sipush 256, 3) := by decide +kernel
theorem dX9_findFar_6 : decode cX9_findFar 6 = .ok (.if_icmp .ge 149, 3) := by decide +kernel
theorem dX9_findFar_9 : decode cX9_findFar 9 = .ok (.aload_n 0, 1) := by decide +kernel
theorem dX9_findFar_10 : decode cX9_findFar 10 = .ok (.iload_n 1, 1) := by decide +kernel
theorem dX9_findFar_11 : decode cX9_findFar 11 = .ok (.iload_n 2, 1) := by decide +kernel
theorem dX9_findFar_12 : decode cX9_findFar 12 = .ok (.invokevirtual 258, 3) := by decide +kernel
theorem dX9_findFar_15 : decode cX9_findFar 15 = .ok (.istore_n 3, 1) := by decide +kernel
theorem dX9_findFar_16 : decode cX9_findFar 16 = .ok (.aload_n 0, 1) := by decide +kernel
theorem dX9_findFar_17 : decode cX9_findFar 17 = .ok (.getfield 94, 3) := by decide +kernel
theorem dX9_findFar_20 : decode cX9_findFar 20 = .ok (.sipush 256, 3) := by decide +kernel
theorem dX9_findFar_23 : decode cX9_findFar 23 = .ok (.iload_n 1, 1) := by decide +kernel
theorem dX9_findFar_24 : decode cX9_findFar 24 = .ok (.imul, 1) := by decide +kernel
theorem dX9_findFar_25 : decode cX9_findFar 25 = .ok (.iload_n 2, 1) := by decide +kernel
theorem dX9_findFar_26 : decode cX9_findFar 26 = .ok (.iadd, 1) := by decide +kernel
theorem dX9_findFar_27 : decode cX9_findFar 27 = .ok (.iload_n 3, 1) := by decide +kernel
theorem dX9_findFar_28 : decode cX9_findFar 28 = .ok (.ifCond .eq 25, 3) := by decide +kernel
theorem dX9_findFar_31 : decode cX9_findFar 31 = .ok (.aload_n 0, 1) := by decide +kernel
theorem dX9_findFar_32 : decode cX9_findFar 32 = .ok (.getfield 34, 3) := by decide +kernel
theorem dX9_findFar_35 : decode cX9_findFar 35 = .ok (.iload_n 1, 1) := by decide +kernel
theorem dX9_findFar_36 : decode cX9_findFar 36 = .ok (.iaload, 1) := by decide +kernel
theorem dX9_findFar_37 : decode cX9_findFar 37 = .ok (.ifCond .lt 12, 3) := by decide +kernel
theorem dX9_findFar_40 : decode cX9_findFar 40 = .ok (.aload_n 0, 1) := by decide +kernel
theorem dX9_findFar_41 : decode cX9_findFar 41 = .ok (.iload_n 1, 1) := by decide +kernel
theorem dX9_findFar_42 : decode cX9_findFar 42 = .ok (.iload_n 2, 1) := by decide +kernel
theorem dX9_findFar_43 : decode cX9_findFar 43 = .ok (.invokevirtual 261, 3) := by decide +kernel
theorem dX9_findFar_46 : decode cX9_findFar 46 = .ok (.ifCond .eq 7, 3) := by decide +kernel
theorem dX9_findFar_49 : decode cX9_findFar 49 = .ok (.iconst 0, 1) := by decide +kernel
theorem dX9_findFar_50 : decode cX9_findFar 50 = .ok (.goto 4, 3) := by decide +kernel
theorem dX9_findFar_53 : decode cX9_findFar 53 = .ok (.iconst (-1), 1) := by decide +kernel
theorem dX9_findFar_54 : decode cX9_findFar 54 = .ok (.iastore, 1) := by decide +kernel
theorem dX9_findFar_55 : decode cX9_findFar 55 = .ok (.iconst 0, 1) := by decide +kernel
theorem dX9_findFar_56 : decode cX9_findFar 56 = .ok (.istore 4, 2) := by decide +kernel
theorem dX9_findFar_58 : decode cX9_findFar 58 = .ok (.iload 4, 2) := by decide +kernel
theorem dX9_findFar_60 : decode cX9_findFar 60 = .ok (.bipush 6, 2) := by decide +kernel
theorem dX9_findFar_62 : decode cX9_findFar 62 = .ok (.if_icmp .ge 87, 3) := by decide +kernel
theorem dX9_findFar_65 : decode cX9_findFar 65 = .ok (.iload_n 3, 1) := by decide +kernel
theorem dX9_findFar_66 : decode cX9_findFar 66 = .ok (.ifCond .eq 47, 3) := by decide +kernel
theorem dX9_findFar_69 : decode cX9_findFar 69 = .ok (.iload 4, 2) := by decide +kernel
theorem dX9_findFar_71 : decode cX9_findFar 71 = .ok (.iconst 4, 1) := by decide +kernel
theorem dX9_findFar_72 : decode cX9_findFar 72 = .ok (.if_icmp .ge 17, 3) := by decide +kernel
theorem dX9_findFar_75 : decode cX9_findFar 75 = .ok (.aload_n 0, 1) := by decide +kernel
theorem dX9_findFar_76 : decode cX9_findFar 76 = .ok (.iload_n 1, 1) := by decide +kernel
theorem dX9_findFar_77 : decode cX9_findFar 77 = .ok (.iload_n 2, 1) := by decide +kernel
theorem dX9_findFar_78 : decode cX9_findFar 78 = .ok (.iload 4, 2) := by decide +kernel
theorem dX9_findFar_80 : decode cX9_findFar 80 = .ok (.invokevirtual 264, 3) := by decide +kernel
theorem dX9_findFar_83 : decode cX9_findFar 83 = .ok (.ifCond .eq 30, 3) := by decide +kernel
theorem dX9_findFar_86 : decode cX9_findFar 86 = .ok (.goto 23, 3) := by decide +kernel
theorem dX9_findFar_89 : decode cX9_findFar 89 = .ok (.aload_n 0, 1) := by decide +kernel
theorem dX9_findFar_90 : decode cX9_findFar 90 = .ok (.iload_n 1, 1) := by decide +kernel
theorem dX9_findFar_91 : decode cX9_findFar 91 = .ok (.iload_n 2, 1) := by decide +kernel
theorem dX9_findFar_92 : decode cX9_findFar 92 = .ok (.iload 4, 2) := by decide +kernel
theorem dX9_findFar_94 : decode cX9_findFar 94 = .ok (.iconst 4, 1) := by decide +kernel
theorem dX9_findFar_95 : decode cX9_findFar 95 = .ok (.if_icmp .ne 7, 3) := by decide +kernel
theorem dX9_findFar_98 : decode cX9_findFar 98 = .ok (.iconst 1, 1) := by decide +kernel
theorem dX9_findFar_99 : decode cX9_findFar 99 = .ok (.goto 4, 3) := by decide +kernel
theorem dX9_findFar_102 : decode cX9_findFar 102 = .ok (.iconst 0, 1) := by decide +kernel
theorem dX9_findFar_103 : decode cX9_findFar 103 = .ok (.invokevirtual 267, 3) := by decide +kernel
theorem dX9_findFar_106 : decode cX9_findFar 106 = .ok (.ifCond .eq 7, 3) := by decide +kernel
theorem dX9_findFar_109 : decode cX9_findFar 109 = .ok (.iconst 1, 1) := by decide +kernel
theorem dX9_findFar_110 : decode cX9_findFar 110 = .ok (.goto 4, 3) := by decide +kernel
theorem dX9_findFar_113 : decode cX9_findFar 113 = .ok (.iconst 0, 1) := by decide +kernel
theorem dX9_findFar_114 : decode cX9_findFar 114 = .ok (.istore 5, 2) := by decide +kernel
theorem dX9_findFar_116 : decode cX9_findFar 116 = .ok (.aload_n 0, 1) := by decide +kernel
theorem dX9_findFar_117 : decode cX9_findFar 117 = .ok (.getfield 91, 3) := by decide +kernel
theorem dX9_findFar_120 : decode cX9_findFar 120 = .ok (.bipush 6, 2) := by decide +kernel
theorem dX9_findFar_122 : decode cX9_findFar 122 = .ok (.iload_n 2, 1) := by decide +kernel
theorem dX9_findFar_123 : decode cX9_findFar 123 = .ok (.imul, 1) := by decide +kernel
theorem dX9_findFar_124 : decode cX9_findFar 124 = .ok (.iload 4, 2) := by decide +kernel
theorem dX9_findFar_126 : decode cX9_findFar 126 = .ok (.iadd, 1) := by decide +kernel
theorem dX9_findFar_127 : decode cX9_findFar 127 = .ok (.iload 5, 2) := by decide +kernel
theorem dX9_findFar_129 : decode cX9_findFar 129 = .ok (.ifCond .eq 12, 3) := by decide +kernel
theorem dX9_findFar_132 : decode cX9_findFar 132 = .ok (.iload_n 2, 1) := by decide +kernel
theorem dX9_findFar_133 : decode cX9_findFar 133 = .ok (.iload 4, 2) := by decide +kernel
theorem dX9_findFar_135 : decode cX9_findFar 135 = .ok (.invokestatic 211, 3) := by decide +kernel
theorem dX9_findFar_138 : decode cX9_findFar 138 = .ok (.goto 4, 3) := by decide +kernel
theorem dX9_findFar_141 : decode cX9_findFar 141 = .ok (.iconst (-1), 1) := by decide +kernel
theorem dX9_findFar_142 : decode cX9_findFar 142 = .ok (.iastore, 1) := by decide +kernel
theorem dX9_findFar_143 : decode cX9_findFar 143 = .ok (.iinc 4 1, 3) := by decide +kernel
theorem dX9_findFar_146 : decode cX9_findFar 146 = .ok (.goto (-88), 3) := by decide +kernel
theorem dX9_findFar_149 : decode cX9_findFar 149 = .ok (.iinc 2 1, 3) := by decide +kernel
theorem dX9_findFar_152 : decode cX9_findFar 152 = .ok (.goto (-150), 3) := by decide +kernel
theorem dX9_findFar_155 : decode cX9_findFar 155 = .ok (.iconst 1, 1) := by decide +kernel
theorem dX9_findFar_156 : decode cX9_findFar 156 = .ok (.istore_n 2, 1) := by decide +kernel
theorem dX9_findFar_157 : decode cX9_findFar 157 = .ok (.iconst 0, 1) := by decide +kernel
theorem dX9_findFar_158 : decode cX9_findFar 158 = .ok (.istore_n 3, 1) := by decide +kernel
theorem dX9_findFar_159 : decode cX9_findFar 159 = .ok (.iload_n 2, 1) := by decide +kernel
theorem dX9_findFar_160 : decode cX9_findFar 160 = .ok (.ifCond .eq 73, 3) := by decide +kernel
theorem dX9_findFar_163 : decode cX9_findFar 163 = .ok (.iconst 0, 1) := by decide +kernel
theorem dX9_findFar_164 : decode cX9_findFar 164 = .ok (.istore_n 2, 1) := by decide +kernel
theorem dX9_findFar_165 : decode cX9_findFar 165 = .ok (.iconst 0, 1) := by decide +kernel
theorem dX9_findFar_166 : decode cX9_findFar 166 = .ok (.istore 4, 2) := by decide +kernel
theorem dX9_findFar_168 : decode cX9_findFar 168 = .ok (.iload 4, 2) := by decide +kernel
theorem dX9_findFar_170 : decode cX9_findFar 170 = .ok (.sipush 256, 3) := by decide +kernel
theorem dX9_findFar_173 : decode cX9_findFar 173 = .ok (.if_icmp .ge 54, 3) := by decide +kernel
theorem dX9_findFar_176 : decode cX9_findFar 176 = .ok (.aload_n 0, 1) := by decide +kernel
theorem dX9_findFar_177 : decode cX9_findFar 177 = .ok (.getfield 94, 3) := by decide +kernel
theorem dX9_findFar_180 : decode cX9_findFar 180 = .ok (.sipush 256, 3) := by decide +kernel
theorem dX9_findFar_183 : decode cX9_findFar 183 = .ok (.iload_n 1, 1) := by decide +kernel
theorem dX9_findFar_184 : decode cX9_findFar 184 = .ok (.imul, 1) := by decide +kernel
theorem dX9_findFar_185 : decode cX9_findFar 185 = .ok (.iload 4, 2) := by decide +kernel
theorem dX9_findFar_187 : decode cX9_findFar 187 = .ok (.iadd, 1) := by decide +kernel
theorem dX9_findFar_188 : decode cX9_findFar 188 = .ok (.iaload, 1) := by decide +kernel
theorem dX9_findFar_189 : decode cX9_findFar 189 = .ok (.ifCond .ge 32, 3) := by decide +kernel
theorem dX9_findFar_192 : decode cX9_findFar 192 = .ok (.aload_n 0, 1) := by decide +kernel
theorem dX9_findFar_193 : decode cX9_findFar 193 = .ok (.iload_n 1, 1) := by decide +kernel
theorem dX9_findFar_194 : decode cX9_findFar 194 = .ok (.iload 4, 2) := by decide +kernel
theorem dX9_findFar_196 : decode cX9_findFar 196 = .ok (.iload_n 3, 1) := by decide +kernel
theorem dX9_findFar_197 : decode cX9_findFar 197 = .ok (.invokevirtual 271, 3) := by decide +kernel
theorem dX9_findFar_200 : decode cX9_findFar 200 = .ok (.ifCond .eq 21, 3) := by decide +kernel
theorem dX9_findFar_203 : decode cX9_findFar 203 = .ok (.aload_n 0, 1) := by decide +kernel
theorem dX9_findFar_204 : decode cX9_findFar 204 = .ok (.getfield 94, 3) := by decide +kernel
theorem dX9_findFar_207 : decode cX9_findFar 207 = .ok (.sipush 256, 3) := by decide +kernel
theorem dX9_findFar_210 : decode cX9_findFar 210 = .ok (.iload_n 1, 1) := by decide +kernel
theorem dX9_findFar_211 : decode cX9_findFar 211 = .ok (.imul, 1) := by decide +kernel
theorem dX9_findFar_212 : decode cX9_findFar 212 = .ok (.iload 4, 2) := by decide +kernel
theorem dX9_findFar_214 : decode cX9_findFar 214 = .ok (.iadd, 1) := by decide +kernel
theorem dX9_findFar_215 : decode cX9_findFar 215 = .ok (.iload_n 3, 1) := by decide +kernel
theorem dX9_findFar_216 : decode cX9_findFar 216 = .ok (.iconst 1, 1) := by decide +kernel
theorem dX9_findFar_217 : decode cX9_findFar 217 = .ok (.iadd, 1) := by decide +kernel
theorem dX9_findFar_218 : decode cX9_findFar 218 = .ok (.iastore, 1) := by decide +kernel
theorem dX9_findFar_219 : decode cX9_findFar 219 = .ok (.iconst 1, 1) := by decide +kernel
theorem dX9_findFar_220 : decode cX9_findFar 220 = .ok (.istore_n 2, 1) := by decide +kernel
theorem dX9_findFar_221 : decode cX9_findFar 221 = .ok (.iinc 4 1, 3) := by decide +kernel
theorem dX9_findFar_224 : decode cX9_findFar 224 = .ok (.goto (-56), 3) := by decide +kernel
theorem dX9_findFar_227 : decode cX9_findFar 227 = .ok (.iinc 3 1, 3) := by decide +kernel
theorem dX9_findFar_230 : decode cX9_findFar 230 = .ok (.goto (-71), 3) := by decide +kernel
theorem dX9_findFar_233 : decode cX9_findFar 233 = .ok (.return_, 1) := by decide +kernel
theorem dX9_leadsTo_0 : decode cX9_leadsTo 0 = .ok (.iconst 0, 1) := by decide +kernel
theorem dX9_leadsTo_1 : decode cX9_leadsTo 1 = .ok (.istore 4, 2) := by decide +kernel
theorem dX9_leadsTo_3 : decode cX9_leadsTo 3 = .ok (.iload 4, 2) := by decide +kernel
theorem dX9_leadsTo_5 : decode cX9_leadsTo 5 = .ok (.bipush 6, 2) := by decide +kernel
theorem dX9_leadsTo_7 : decode cX9_leadsTo 7 = .ok (.if_icmp .ge 47, 3) := by decide +kernel
theorem dX9_leadsTo_10 : decode cX9_leadsTo 10 = .ok (.aload_n 0, 1) := by decide +kernel
theorem dX9_leadsTo_11 : decode cX9_leadsTo 11 = .ok (.getfield 91, 3) := by decide +kernel
theorem dX9_leadsTo_14 : decode cX9_leadsTo 14 = .ok (.bipush 6, 2) := by decide +kernel
theorem dX9_leadsTo_16 : decode cX9_leadsTo 16 = .ok (.iload_n 2, 1) := by decide +kernel
theorem dX9_leadsTo_17 : decode cX9_leadsTo 17 = .ok (.imul, 1) := by decide +kernel
theorem dX9_leadsTo_18 : decode cX9_leadsTo 18 = .ok (.iload 4, 2) := by decide +kernel
theorem dX9_leadsTo_20 : decode cX9_leadsTo 20 = .ok (.iadd, 1) := by decide +kernel
theorem dX9_leadsTo_21 : decode cX9_leadsTo 21 = .ok (.iaload, 1) := by decide +kernel
theorem dX9_leadsTo_22 : decode cX9_leadsTo 22 = .ok (.istore 5, 2) := by decide +kernel
theorem dX9_leadsTo_24 : decode cX9_leadsTo 24 = .ok (.iload 5, 2) := by decide +kernel
theorem dX9_leadsTo_26 : decode cX9_leadsTo 26 = .ok (.ifCond .lt 22, 3) := by decide +kernel
theorem dX9_leadsTo_29 : decode cX9_leadsTo 29 = .ok (.aload_n 0, 1) := by decide +kernel
theorem dX9_leadsTo_30 : decode cX9_leadsTo 30 = .ok (.getfield 94, 3) := by decide +kernel
theorem dX9_leadsTo_33 : decode cX9_leadsTo 33 = .ok (.sipush 256, 3) := by decide +kernel
theorem dX9_leadsTo_36 : decode cX9_leadsTo 36 = .ok (.iload_n 1, 1) := by decide +kernel
theorem dX9_leadsTo_37 : decode cX9_leadsTo 37 = .ok (.imul, 1) := by decide +kernel
theorem dX9_leadsTo_38 : decode cX9_leadsTo 38 = .ok (.iload 5, 2) := by decide +kernel
theorem dX9_leadsTo_40 : decode cX9_leadsTo 40 = .ok (.iadd, 1) := by decide +kernel
theorem dX9_leadsTo_41 : decode cX9_leadsTo 41 = .ok (.iaload, 1) := by decide +kernel
theorem dX9_leadsTo_42 : decode cX9_leadsTo 42 = .ok (.iload_n 3, 1) := by decide +kernel
theorem dX9_leadsTo_43 : decode cX9_leadsTo 43 = .ok (.if_icmp .ne 5, 3) := by decide +kernel
theorem dX9_leadsTo_46 : decode cX9_leadsTo 46 = .ok (.iconst 1, 1) := by decide +kernel
theorem dX9_leadsTo_47 : decode cX9_leadsTo 47 = .ok (.ireturn, 1) := by decide +kernel
theorem dX9_leadsTo_48 : decode cX9_leadsTo 48 = .ok (.iinc 4 1, 3) := by decide +kernel
theorem dX9_leadsTo_51 : decode cX9_leadsTo 51 = .ok (.goto (-48), 3) := by decide +kernel
theorem dX9_leadsTo_54 : decode cX9_leadsTo 54 = .ok (.iconst 0, 1) := by decide +kernel
theorem dX9_leadsTo_55 : decode cX9_leadsTo 55 = .ok (.ireturn, 1) := by decide +kernel
theorem dX9_isDead_0 : decode cX9_isDead 0 = .ok (.aload_n 0, 1) := by decide +kernel
theorem dX9_isDead_1 : decode cX9_isDead 1 = .ok (.iload_n 1, 1) := by decide +kernel
theorem dX9_isDead_2 : decode cX9_isDead 2 = .ok (.invokevirtual 225, 3) := by decide +kernel
theorem dX9_isDead_5 : decode cX9_isDead 5 = .ok (.ifCond .eq 5, 3) := by decide +kernel
theorem dX9_isDead_8 : decode cX9_isDead 8 = .ok (.iconst (-1), 1) := by decide +kernel
theorem dX9_isDead_9 : decode cX9_isDead 9 = .ok (.ireturn, 1) := by decide +kernel
theorem dX9_isDead_10 : decode cX9_isDead 10 = .ok (.aload_n 0, 1) := by decide +kernel
theorem dX9_isDead_11 : decode cX9_isDead 11 = .ok (.iload_n 2, 1) := by decide +kernel
theorem dX9_isDead_12 : decode cX9_isDead 12 = .ok (.iload_n 3, 1) := by decide +kernel
theorem dX9_isDead_13 : decode cX9_isDead 13 = .ok (.invokevirtual 167, 3) := by decide +kernel
theorem dX9_isDead_16 : decode cX9_isDead 16 = .ok (.ifCond .ne 6, 3) := by decide +kernel
theorem dX9_isDead_19 : decode cX9_isDead 19 = .ok (.bipush (-2), 2) := by decide +kernel
theorem dX9_isDead_21 : decode cX9_isDead 21 = .ok (.ireturn, 1) := by decide +kernel
theorem dX9_isDead_22 : decode cX9_isDead 22 = .ok (.iload 4, 2) := by decide +kernel
theorem dX9_isDead_24 : decode cX9_isDead 24 = .ok (.iconst 0, 1) := by decide +kernel
theorem dX9_isDead_25 : decode cX9_isDead 25 = .ok (.iconst 3, 1) := by decide +kernel
theorem dX9_isDead_26 : decode cX9_isDead 26 = .ok (.invokestatic 119, 3) := by decide +kernel
theorem dX9_isDead_29 : decode cX9_isDead 29 = .ok (.ifCond .ne 6, 3) := by decide +kernel
theorem dX9_isDead_32 : decode cX9_isDead 32 = .ok (.bipush (-3), 2) := by decide +kernel
theorem dX9_isDead_34 : decode cX9_isDead 34 = .ok (.ireturn, 1) := by decide +kernel
theorem dX9_isDead_35 : decode cX9_isDead 35 = .ok (.bipush 64, 2) := by decide +kernel
theorem dX9_isDead_37 : decode cX9_isDead 37 = .ok (.iload 4, 2) := by decide +kernel
theorem dX9_isDead_39 : decode cX9_isDead 39 = .ok (.imul, 1) := by decide +kernel
theorem dX9_isDead_40 : decode cX9_isDead 40 = .ok (.bipush 8, 2) := by decide +kernel
theorem dX9_isDead_42 : decode cX9_isDead 42 = .ok (.iload_n 3, 1) := by decide +kernel
theorem dX9_isDead_43 : decode cX9_isDead 43 = .ok (.imul, 1) := by decide +kernel
theorem dX9_isDead_44 : decode cX9_isDead 44 = .ok (.iadd, 1) := by decide +kernel
theorem dX9_isDead_45 : decode cX9_isDead 45 = .ok (.iload_n 2, 1) := by decide +kernel
theorem dX9_isDead_46 : decode cX9_isDead 46 = .ok (.iadd, 1) := by decide +kernel
theorem dX9_isDead_47 : decode cX9_isDead 47 = .ok (.istore 5, 2) := by decide +kernel
theorem dX9_isDead_49 : decode cX9_isDead 49 = .ok (.aload_n 0, 1) := by decide +kernel
theorem dX9_isDead_50 : decode cX9_isDead 50 = .ok (.iload_n 1, 1) := by decide +kernel
theorem dX9_isDead_51 : decode cX9_isDead 51 = .ok (.iload 5, 2) := by decide +kernel
theorem dX9_isDead_53 : decode cX9_isDead 53 = .ok (.invokevirtual 258, 3) := by decide +kernel
theorem dX9_isDead_56 : decode cX9_isDead 56 = .ok (.ifCond .ne 6, 3) := by decide +kernel
theorem dX9_isDead_59 : decode cX9_isDead 59 = .ok (.bipush (-7), 2) := by decide +kernel
theorem dX9_isDead_61 : decode cX9_isDead 61 = .ok (.ireturn, 1) := by decide +kernel
theorem dX9_isDead_62 : decode cX9_isDead 62 = .ok (.aload_n 0, 1) := by decide +kernel
theorem dX9_isDead_63 : decode cX9_isDead 63 = .ok (.iload_n 1, 1) := by decide +kernel
theorem dX9_isDead_64 : decode cX9_isDead 64 = .ok (.invokevirtual 274, 3) := by decide +kernel
theorem dX9_isDead_67 : decode cX9_isDead 67 = .ok (.aload_n 0, 1) := by decide +kernel
theorem dX9_isDead_68 : decode cX9_isDead 68 = .ok (.getfield 94, 3) := by decide +kernel
theorem dX9_isDead_71 : decode cX9_isDead 71 = .ok (.sipush 256, 3) := by decide +kernel
theorem dX9_isDead_74 : decode cX9_isDead 74 = .ok (.iload_n 1, 1) := by decide +kernel
theorem dX9_isDead_75 : decode cX9_isDead 75 = .ok (.imul, 1) := by decide +kernel
theorem dX9_isDead_76 : decode cX9_isDead 76 = .ok (.iload 5, 2) := by decide +kernel
theorem dX9_isDead_78 : decode cX9_isDead 78 = .ok (.iadd, 1) := by decide +kernel
theorem dX9_isDead_79 : decode cX9_isDead 79 = .ok (.iaload, 1) := by decide +kernel
theorem dX9_isDead_80 : decode cX9_isDead 80 = .ok (.ifCond .ge 7, 3) := by decide +kernel
theorem dX9_isDead_83 : decode cX9_isDead 83 = .ok (.iconst 1, 1) := by decide +kernel
theorem dX9_isDead_84 : decode cX9_isDead 84 = .ok (.goto 4, 3) := by decide +kernel
theorem dX9_isDead_87 : decode cX9_isDead 87 = .ok (.iconst 0, 1) := by decide +kernel
theorem dX9_isDead_88 : decode cX9_isDead 88 = .ok (.ireturn, 1) := by decide +kernel
theorem dX9_deadCount_0 : decode cX9_deadCount 0 = .ok (.aload_n 0, 1) := by decide +kernel
theorem dX9_deadCount_1 : decode cX9_deadCount 1 = .ok (.iload_n 1, 1) := by decide +kernel
theorem dX9_deadCount_2 : decode cX9_deadCount 2 = .ok (.invokevirtual 225, 3) := by decide +kernel
theorem dX9_deadCount_5 : decode cX9_deadCount 5 = .ok (.ifCond .eq 5, 3) := by decide +kernel
theorem dX9_deadCount_8 : decode cX9_deadCount 8 = .ok (.iconst (-1), 1) := by decide +kernel
theorem dX9_deadCount_9 : decode cX9_deadCount 9 = .ok (.ireturn, 1) := by decide +kernel
theorem dX9_deadCount_10 : decode cX9_deadCount 10 = .ok (.aload_n 0, 1) := by decide +kernel
theorem dX9_deadCount_11 : decode cX9_deadCount 11 = .ok (.iload_n 1, 1) := by decide +kernel
theorem dX9_deadCount_12 : decode cX9_deadCount 12 = .ok (.invokevirtual 274, 3) := by decide +kernel
theorem dX9_deadCount_15 : decode cX9_deadCount 15 = .ok (.iconst 0, 1) := by decide +kernel
theorem dX9_deadCount_16 : decode cX9_deadCount 16 = .ok (.istore_n 2, 1) := by decide +kernel
theorem dX9_deadCount_17 : decode cX9_deadCount 17 = .ok (.iconst 0, 1) := by decide +kernel
theorem dX9_deadCount_18 : decode cX9_deadCount 18 = .ok (.istore_n 3, 1) := by decide +kernel
theorem dX9_deadCount_19 : decode cX9_deadCount 19 = .ok (.iload_n 3, 1) := by decide +kernel
theorem dX9_deadCount_20 : decode cX9_deadCount 20 = .ok (.sipush 256, 3) := by decide +kernel
theorem dX9_deadCount_23 : decode cX9_deadCount 23 = .ok (.if_icmp .ge 41, 3) := by decide +kernel
theorem dX9_deadCount_26 : decode cX9_deadCount 26 = .ok (.iload_n 2, 1) := by decide +kernel
theorem dX9_deadCount_27 : decode cX9_deadCount 27 = .ok (.aload_n 0, 1) := by decide +kernel
theorem dX9_deadCount_28 : decode cX9_deadCount 28 = .ok (.iload_n 1, 1) := by decide +kernel
theorem dX9_deadCount_29 : decode cX9_deadCount 29 = .ok (.iload_n 3, 1) := by decide +kernel
theorem dX9_deadCount_30 : decode cX9_deadCount 30 = .ok (.invokevirtual 258, 3) := by decide +kernel
theorem dX9_deadCount_33 : decode cX9_deadCount 33 = .ok (.ifCond .eq 22, 3) := by decide +kernel
theorem dX9_deadCount_36 : decode cX9_deadCount 36 = .ok (.aload_n 0, 1) := by decide +kernel
theorem dX9_deadCount_37 : decode cX9_deadCount 37 = .ok (.getfield 94, 3) := by decide +kernel
theorem dX9_deadCount_40 : decode cX9_deadCount 40 = .ok (.sipush 256, 3) := by decide +kernel
theorem dX9_deadCount_43 : decode cX9_deadCount 43 = .ok (.iload_n 1, 1) := by decide +kernel
theorem dX9_deadCount_44 : decode cX9_deadCount 44 = .ok (.imul, 1) := by decide +kernel
theorem dX9_deadCount_45 : decode cX9_deadCount 45 = .ok (.iload_n 3, 1) := by decide +kernel
theorem dX9_deadCount_46 : decode cX9_deadCount 46 = .ok (.iadd, 1) := by decide +kernel
theorem dX9_deadCount_47 : decode cX9_deadCount 47 = .ok (.iaload, 1) := by decide +kernel
theorem dX9_deadCount_48 : decode cX9_deadCount 48 = .ok (.ifCond .ge 7, 3) := by decide +kernel
theorem dX9_deadCount_51 : decode cX9_deadCount 51 = .ok (.iconst 1, 1) := by decide +kernel
theorem dX9_deadCount_52 : decode cX9_deadCount 52 = .ok (.goto 4, 3) := by decide +kernel
theorem dX9_deadCount_55 : decode cX9_deadCount 55 = .ok (.iconst 0, 1) := by decide +kernel
theorem dX9_deadCount_56 : decode cX9_deadCount 56 = .ok (.iadd, 1) := by decide +kernel
theorem dX9_deadCount_57 : decode cX9_deadCount 57 = .ok (.istore_n 2, 1) := by decide +kernel
theorem dX9_deadCount_58 : decode cX9_deadCount 58 = .ok (.iinc 3 1, 3) := by decide +kernel
theorem dX9_deadCount_61 : decode cX9_deadCount 61 = .ok (.goto (-42), 3) := by decide +kernel
theorem dX9_deadCount_64 : decode cX9_deadCount 64 = .ok (.iload_n 2, 1) := by decide +kernel
theorem dX9_deadCount_65 : decode cX9_deadCount 65 = .ok (.ireturn, 1) := by decide +kernel
theorem dX9_distance_0 : decode cX9_distance 0 = .ok (.aload_n 0, 1) := by decide +kernel
theorem dX9_distance_1 : decode cX9_distance 1 = .ok (.iload_n 1, 1) := by decide +kernel
theorem dX9_distance_2 : decode cX9_distance 2 = .ok (.invokevirtual 225, 3) := by decide +kernel
theorem dX9_distance_5 : decode cX9_distance 5 = .ok (.ifCond .eq 5, 3) := by decide +kernel
theorem dX9_distance_8 : decode cX9_distance 8 = .ok (.iconst (-1), 1) := by decide +kernel
theorem dX9_distance_9 : decode cX9_distance 9 = .ok (.ireturn, 1) := by decide +kernel
theorem dX9_distance_10 : decode cX9_distance 10 = .ok (.aload_n 0, 1) := by decide +kernel
theorem dX9_distance_11 : decode cX9_distance 11 = .ok (.iload_n 1, 1) := by decide +kernel
theorem dX9_distance_12 : decode cX9_distance 12 = .ok (.invokevirtual 274, 3) := by decide +kernel
theorem dX9_distance_15 : decode cX9_distance 15 = .ok (.aload_n 0, 1) := by decide +kernel
theorem dX9_distance_16 : decode cX9_distance 16 = .ok (.getfield 94, 3) := by decide +kernel
theorem dX9_distance_19 : decode cX9_distance 19 = .ok (.sipush 256, 3) := by decide +kernel
theorem dX9_distance_22 : decode cX9_distance 22 = .ok (.iload_n 1, 1) := by decide +kernel
theorem dX9_distance_23 : decode cX9_distance 23 = .ok (.imul, 1) := by decide +kernel
theorem dX9_distance_24 : decode cX9_distance 24 = .ok (.aload_n 0, 1) := by decide +kernel
theorem dX9_distance_25 : decode cX9_distance 25 = .ok (.getfield 37, 3) := by decide +kernel
theorem dX9_distance_28 : decode cX9_distance 28 = .ok (.iload_n 1, 1) := by decide +kernel
theorem dX9_distance_29 : decode cX9_distance 29 = .ok (.iaload, 1) := by decide +kernel
theorem dX9_distance_30 : decode cX9_distance 30 = .ok (.iadd, 1) := by decide +kernel
theorem dX9_distance_31 : decode cX9_distance 31 = .ok (.iaload, 1) := by decide +kernel
theorem dX9_distance_32 : decode cX9_distance 32 = .ok (.istore_n 2, 1) := by decide +kernel
theorem dX9_distance_33 : decode cX9_distance 33 = .ok (.iload_n 2, 1) := by decide +kernel
theorem dX9_distance_34 : decode cX9_distance 34 = .ok (.ifCond .ge 8, 3) := by decide +kernel
theorem dX9_distance_37 : decode cX9_distance 37 = .ok (.bipush (-7), 2) := by decide +kernel
theorem dX9_distance_39 : decode cX9_distance 39 = .ok (.goto 4, 3) := by decide +kernel
theorem dX9_distance_42 : decode cX9_distance 42 = .ok (.iload_n 2, 1) := by decide +kernel
theorem dX9_distance_43 : decode cX9_distance 43 = .ok (.ireturn, 1) := by decide +kernel
theorem dX9_findAllFar_0 : decode cX9_findAllFar 0 = .ok (.iconst 0, 1) := by decide +kernel
theorem dX9_findAllFar_1 : decode cX9_findAllFar 1 = .ok (.istore_n 1, 1) := by decide +kernel
theorem dX9_findAllFar_2 : decode cX9_findAllFar 2 = .ok (.iload_n 1, 1) := by decide +kernel
theorem dX9_findAllFar_3 : decode cX9_findAllFar 3 = .ok (.iconst 5, 1) := by decide +kernel
theorem dX9_findAllFar_4 : decode cX9_findAllFar 4 = .ok (.if_icmp .ge 23, 3) := by decide +kernel
theorem dX9_findAllFar_7 : decode cX9_findAllFar 7 = .ok (.aload_n 0, 1) := by decide +kernel
theorem dX9_findAllFar_8 : decode cX9_findAllFar 8 = .ok (.getfield 16, 3) := by decide +kernel
theorem dX9_findAllFar_11 : decode cX9_findAllFar 11 = .ok (.iload_n 1, 1) := by decide +kernel
theorem dX9_findAllFar_12 : decode cX9_findAllFar 12 = .ok (.iaload, 1) := by decide +kernel
theorem dX9_findAllFar_13 : decode cX9_findAllFar 13 = .ok (.ifCond .le 8, 3) := by decide +kernel
theorem dX9_findAllFar_16 : decode cX9_findAllFar 16 = .ok (.aload_n 0, 1) := by decide +kernel
theorem dX9_findAllFar_17 : decode cX9_findAllFar 17 = .ok (.iload_n 1, 1) := by decide +kernel
theorem dX9_findAllFar_18 : decode cX9_findAllFar 18 = .ok (.invokevirtual 274, 3) := by decide +kernel
theorem dX9_findAllFar_21 : decode cX9_findAllFar 21 = .ok (.iinc 1 1, 3) := by decide +kernel
theorem dX9_findAllFar_24 : decode cX9_findAllFar 24 = .ok (.goto (-22), 3) := by decide +kernel
theorem dX9_findAllFar_27 : decode cX9_findAllFar 27 = .ok (.return_, 1) := by decide +kernel
theorem dX9_isDeadNow_0 : decode cX9_isDeadNow 0 = .ok (.iconst 0, 1) := by decide +kernel
theorem dX9_isDeadNow_1 : decode cX9_isDeadNow 1 = .ok (.istore_n 1, 1) := by decide +kernel
theorem dX9_isDeadNow_2 : decode cX9_isDeadNow 2 = .ok (.iconst 0, 1) := by decide +kernel
theorem dX9_isDeadNow_3 : decode cX9_isDeadNow 3 = .ok (.istore_n 2, 1) := by decide +kernel
theorem dX9_isDeadNow_4 : decode cX9_isDeadNow 4 = .ok (.iload_n 2, 1) := by decide +kernel
theorem dX9_isDeadNow_5 : decode cX9_isDeadNow 5 = .ok (.iconst 5, 1) := by decide +kernel
theorem dX9_isDeadNow_6 : decode cX9_isDeadNow 6 = .ok (.if_icmp .ge 48, 3) := by decide +kernel
theorem dX9_isDeadNow_9 : decode cX9_isDeadNow 9 = .ok (.iload_n 1, 1) := by decide +kernel
theorem dX9_isDeadNow_10 : decode cX9_isDeadNow 10 = .ok (.ifCond .ne 32, 3) := by decide +kernel
theorem dX9_isDeadNow_13 : decode cX9_isDeadNow 13 = .ok (.aload_n 0, 1) := by decide +kernel
theorem dX9_isDeadNow_14 : decode cX9_isDeadNow 14 = .ok (.getfield 16, 3) := by decide +kernel
theorem dX9_isDeadNow_17 : decode cX9_isDeadNow 17 = .ok (.iload_n 2, 1) := by decide +kernel
theorem dX9_isDeadNow_18 : decode cX9_isDeadNow 18 = .ok (.iaload, 1) := by decide +kernel
theorem dX9_isDeadNow_19 : decode cX9_isDeadNow 19 = .ok (.ifCond .le 27, 3) := by decide +kernel
theorem dX9_isDeadNow_22 : decode cX9_isDeadNow 22 = .ok (.aload_n 0, 1) := by decide +kernel
theorem dX9_isDeadNow_23 : decode cX9_isDeadNow 23 = .ok (.getfield 94, 3) := by decide +kernel
theorem dX9_isDeadNow_26 : decode cX9_isDeadNow 26 = .ok (.sipush 256, 3) := by decide +kernel
theorem dX9_isDeadNow_29 : decode cX9_isDeadNow 29 = .ok (.iload_n 2, 1) := by decide +kernel
theorem dX9_isDeadNow_30 : decode cX9_isDeadNow 30 = .ok (.imul, 1) := by decide +kernel
theorem dX9_isDeadNow_31 : decode cX9_isDeadNow 31 = .ok (.aload_n 0, 1) := by decide +kernel
theorem dX9_isDeadNow_32 : decode cX9_isDeadNow 32 = .ok (.getfield 37, 3) := by decide +kernel
theorem dX9_isDeadNow_35 : decode cX9_isDeadNow 35 = .ok (.iload_n 2, 1) := by decide +kernel
theorem dX9_isDeadNow_36 : decode cX9_isDeadNow 36 = .ok (.iaload, 1) := by decide +kernel
theorem dX9_isDeadNow_37 : decode cX9_isDeadNow 37 = .ok (.iadd, 1) := by decide +kernel
theorem dX9_isDeadNow_38 : decode cX9_isDeadNow 38 = .ok (.iaload, 1) := by decide +kernel
theorem dX9_isDeadNow_39 : decode cX9_isDeadNow 39 = .ok (.ifCond .ge 7, 3) := by decide +kernel
theorem dX9_isDeadNow_42 : decode cX9_isDeadNow 42 = .ok (.iconst 1, 1) := by decide +kernel
theorem dX9_isDeadNow_43 : decode cX9_isDeadNow 43 = .ok (.goto 4, 3) := by decide +kernel
theorem dX9_isDeadNow_46 : decode cX9_isDeadNow 46 = .ok (.iconst 0, 1) := by decide +kernel
theorem dX9_isDeadNow_47 : decode cX9_isDeadNow 47 = .ok (.istore_n 1, 1) := by decide +kernel
theorem dX9_isDeadNow_48 : decode cX9_isDeadNow 48 = .ok (.iinc 2 1, 3) := by decide +kernel
theorem dX9_isDeadNow_51 : decode cX9_isDeadNow 51 = .ok (.goto (-47), 3) := by decide +kernel
theorem dX9_isDeadNow_54 : decode cX9_isDeadNow 54 = .ok (.iload_n 1, 1) := by decide +kernel
theorem dX9_isDeadNow_55 : decode cX9_isDeadNow 55 = .ok (.ireturn, 1) := by decide +kernel
theorem dX9_lowerBound_0 : decode cX9_lowerBound 0 = .ok (.aload_n 0, 1) := by decide +kernel
theorem dX9_lowerBound_1 : decode cX9_lowerBound 1 = .ok (.invokevirtual 278, 3) := by decide +kernel
theorem dX9_lowerBound_4 : decode cX9_lowerBound 4 = .ok (.aload_n 0, 1) := by decide +kernel
theorem dX9_lowerBound_5 : decode cX9_lowerBound 5 = .ok (.invokevirtual 281, 3) := by decide +kernel
theorem dX9_lowerBound_8 : decode cX9_lowerBound 8 = .ok (.ifCond .eq 6, 3) := by decide +kernel
theorem dX9_lowerBound_11 : decode cX9_lowerBound 11 = .ok (.bipush (-7), 2) := by decide +kernel
theorem dX9_lowerBound_13 : decode cX9_lowerBound 13 = .ok (.ireturn, 1) := by decide +kernel
theorem dX9_lowerBound_14 : decode cX9_lowerBound 14 = .ok (.iconst 0, 1) := by decide +kernel
theorem dX9_lowerBound_15 : decode cX9_lowerBound 15 = .ok (.istore_n 1, 1) := by decide +kernel
theorem dX9_lowerBound_16 : decode cX9_lowerBound 16 = .ok (.iconst 0, 1) := by decide +kernel
theorem dX9_lowerBound_17 : decode cX9_lowerBound 17 = .ok (.istore_n 2, 1) := by decide +kernel
theorem dX9_lowerBound_18 : decode cX9_lowerBound 18 = .ok (.iload_n 2, 1) := by decide +kernel
theorem dX9_lowerBound_19 : decode cX9_lowerBound 19 = .ok (.iconst 5, 1) := by decide +kernel
theorem dX9_lowerBound_20 : decode cX9_lowerBound 20 = .ok (.if_icmp .ge 51, 3) := by decide +kernel
theorem dX9_lowerBound_23 : decode cX9_lowerBound 23 = .ok (.aload_n 0, 1) := by decide +kernel
theorem dX9_lowerBound_24 : decode cX9_lowerBound 24 = .ok (.getfield 16, 3) := by decide +kernel
theorem dX9_lowerBound_27 : decode cX9_lowerBound 27 = .ok (.iload_n 2, 1) := by decide +kernel
theorem dX9_lowerBound_28 : decode cX9_lowerBound 28 = .ok (.iaload, 1) := by decide +kernel
theorem dX9_lowerBound_29 : decode cX9_lowerBound 29 = .ok (.ifCond .ne 7, 3) := by decide +kernel
theorem dX9_lowerBound_32 : decode cX9_lowerBound 32 = .ok (.iconst 0, 1) := by decide +kernel
theorem dX9_lowerBound_33 : decode cX9_lowerBound 33 = .ok (.goto 20, 3) := by decide +kernel
theorem dX9_lowerBound_36 : decode cX9_lowerBound 36 = .ok (.aload_n 0, 1) := by decide +kernel
theorem dX9_lowerBound_37 : decode cX9_lowerBound 37 = .ok (.getfield 94, 3) := by decide +kernel
theorem dX9_lowerBound_40 : decode cX9_lowerBound 40 = .ok (.sipush 256, 3) := by decide +kernel
theorem dX9_lowerBound_43 : decode cX9_lowerBound 43 = .ok (.iload_n 2, 1) := by decide +kernel
theorem dX9_lowerBound_44 : decode cX9_lowerBound 44 = .ok (.imul, 1) := by decide +kernel
theorem dX9_lowerBound_45 : decode cX9_lowerBound 45 = .ok (.aload_n 0, 1) := by decide +kernel
theorem dX9_lowerBound_46 : decode cX9_lowerBound 46 = .ok (.getfield 37, 3) := by decide +kernel
theorem dX9_lowerBound_49 : decode cX9_lowerBound 49 = .ok (.iload_n 2, 1) := by decide +kernel
theorem dX9_lowerBound_50 : decode cX9_lowerBound 50 = .ok (.iaload, 1) := by decide +kernel
theorem dX9_lowerBound_51 : decode cX9_lowerBound 51 = .ok (.iadd, 1) := by decide +kernel
theorem dX9_lowerBound_52 : decode cX9_lowerBound 52 = .ok (.iaload, 1) := by decide +kernel
theorem dX9_lowerBound_53 : decode cX9_lowerBound 53 = .ok (.istore_n 3, 1) := by decide +kernel
theorem dX9_lowerBound_54 : decode cX9_lowerBound 54 = .ok (.iload_n 3, 1) := by decide +kernel
theorem dX9_lowerBound_55 : decode cX9_lowerBound 55 = .ok (.iload_n 1, 1) := by decide +kernel
theorem dX9_lowerBound_56 : decode cX9_lowerBound 56 = .ok (.if_icmp .le 7, 3) := by decide +kernel
theorem dX9_lowerBound_59 : decode cX9_lowerBound 59 = .ok (.iload_n 3, 1) := by decide +kernel
theorem dX9_lowerBound_60 : decode cX9_lowerBound 60 = .ok (.goto 4, 3) := by decide +kernel
theorem dX9_lowerBound_63 : decode cX9_lowerBound 63 = .ok (.iload_n 1, 1) := by decide +kernel
theorem dX9_lowerBound_64 : decode cX9_lowerBound 64 = .ok (.istore_n 1, 1) := by decide +kernel
theorem dX9_lowerBound_65 : decode cX9_lowerBound 65 = .ok (.iinc 2 1, 3) := by decide +kernel
theorem dX9_lowerBound_68 : decode cX9_lowerBound 68 = .ok (.goto (-50), 3) := by decide +kernel
theorem dX9_lowerBound_71 : decode cX9_lowerBound 71 = .ok (.iload_n 1, 1) := by decide +kernel
theorem dX9_lowerBound_72 : decode cX9_lowerBound 72 = .ok (.ireturn, 1) := by decide +kernel
theorem dX9_isSolvedNow_0 : decode cX9_isSolvedNow 0 = .ok (.iconst 1, 1) := by decide +kernel
theorem dX9_isSolvedNow_1 : decode cX9_isSolvedNow 1 = .ok (.istore_n 1, 1) := by decide +kernel
theorem dX9_isSolvedNow_2 : decode cX9_isSolvedNow 2 = .ok (.iconst 0, 1) := by decide +kernel
theorem dX9_isSolvedNow_3 : decode cX9_isSolvedNow 3 = .ok (.istore_n 2, 1) := by decide +kernel
theorem dX9_isSolvedNow_4 : decode cX9_isSolvedNow 4 = .ok (.iload_n 2, 1) := by decide +kernel
theorem dX9_isSolvedNow_5 : decode cX9_isSolvedNow 5 = .ok (.iconst 5, 1) := by decide +kernel
theorem dX9_isSolvedNow_6 : decode cX9_isSolvedNow 6 = .ok (.if_icmp .ge 51, 3) := by decide +kernel
theorem dX9_isSolvedNow_9 : decode cX9_isSolvedNow 9 = .ok (.iload_n 1, 1) := by decide +kernel
theorem dX9_isSolvedNow_10 : decode cX9_isSolvedNow 10 = .ok (.ifCond .eq 39, 3) := by decide +kernel
theorem dX9_isSolvedNow_13 : decode cX9_isSolvedNow 13 = .ok (.aload_n 0, 1) := by decide +kernel
theorem dX9_isSolvedNow_14 : decode cX9_isSolvedNow 14 = .ok (.getfield 16, 3) := by decide +kernel
theorem dX9_isSolvedNow_17 : decode cX9_isSolvedNow 17 = .ok (.iload_n 2, 1) := by decide +kernel
theorem dX9_isSolvedNow_18 : decode cX9_isSolvedNow 18 = .ok (.iaload, 1) := by decide +kernel
theorem dX9_isSolvedNow_19 : decode cX9_isSolvedNow 19 = .ok (.ifCond .eq 26, 3) := by decide +kernel
theorem dX9_isSolvedNow_22 : decode cX9_isSolvedNow 22 = .ok (.aload_n 0, 1) := by decide +kernel
theorem dX9_isSolvedNow_23 : decode cX9_isSolvedNow 23 = .ok (.getfield 34, 3) := by decide +kernel
theorem dX9_isSolvedNow_26 : decode cX9_isSolvedNow 26 = .ok (.iload_n 2, 1) := by decide +kernel
theorem dX9_isSolvedNow_27 : decode cX9_isSolvedNow 27 = .ok (.iaload, 1) := by decide +kernel
theorem dX9_isSolvedNow_28 : decode cX9_isSolvedNow 28 = .ok (.ifCond .lt 17, 3) := by decide +kernel
theorem dX9_isSolvedNow_31 : decode cX9_isSolvedNow 31 = .ok (.aload_n 0, 1) := by decide +kernel
theorem dX9_isSolvedNow_32 : decode cX9_isSolvedNow 32 = .ok (.iload_n 2, 1) := by decide +kernel
theorem dX9_isSolvedNow_33 : decode cX9_isSolvedNow 33 = .ok (.aload_n 0, 1) := by decide +kernel
theorem dX9_isSolvedNow_34 : decode cX9_isSolvedNow 34 = .ok (.getfield 37, 3) := by decide +kernel
theorem dX9_isSolvedNow_37 : decode cX9_isSolvedNow 37 = .ok (.iload_n 2, 1) := by decide +kernel
theorem dX9_isSolvedNow_38 : decode cX9_isSolvedNow 38 = .ok (.iaload, 1) := by decide +kernel
theorem dX9_isSolvedNow_39 : decode cX9_isSolvedNow 39 = .ok (.invokevirtual 261, 3) := by decide +kernel
theorem dX9_isSolvedNow_42 : decode cX9_isSolvedNow 42 = .ok (.ifCond .eq 7, 3) := by decide +kernel
theorem dX9_isSolvedNow_45 : decode cX9_isSolvedNow 45 = .ok (.iconst 1, 1) := by decide +kernel
theorem dX9_isSolvedNow_46 : decode cX9_isSolvedNow 46 = .ok (.goto 4, 3) := by decide +kernel
theorem dX9_isSolvedNow_49 : decode cX9_isSolvedNow 49 = .ok (.iconst 0, 1) := by decide +kernel
theorem dX9_isSolvedNow_50 : decode cX9_isSolvedNow 50 = .ok (.istore_n 1, 1) := by decide +kernel
theorem dX9_isSolvedNow_51 : decode cX9_isSolvedNow 51 = .ok (.iinc 2 1, 3) := by decide +kernel
theorem dX9_isSolvedNow_54 : decode cX9_isSolvedNow 54 = .ok (.goto (-50), 3) := by decide +kernel
theorem dX9_isSolvedNow_57 : decode cX9_isSolvedNow 57 = .ok (.iload_n 1, 1) := by decide +kernel
theorem dX9_isSolvedNow_58 : decode cX9_isSolvedNow 58 = .ok (.ireturn, 1) := by decide +kernel
theorem dX9_isSolved_0 : decode cX9_isSolved 0 = .ok (.aload_n 0, 1) := by decide +kernel
theorem dX9_isSolved_1 : decode cX9_isSolved 1 = .ok (.invokevirtual 285, 3) := by decide +kernel
theorem dX9_isSolved_4 : decode cX9_isSolved 4 = .ok (.ifCond .eq 7, 3) := by decide +kernel
theorem dX9_isSolved_7 : decode cX9_isSolved 7 = .ok (.iconst 1, 1) := by decide +kernel
theorem dX9_isSolved_8 : decode cX9_isSolved 8 = .ok (.goto 4, 3) := by decide +kernel
theorem dX9_isSolved_11 : decode cX9_isSolved 11 = .ok (.iconst 0, 1) := by decide +kernel
theorem dX9_isSolved_12 : decode cX9_isSolved 12 = .ok (.ireturn, 1) := by decide +kernel
theorem dX9_isListed_0 : decode cX9_isListed 0 = .ok (.iconst 0, 1) := by decide +kernel
theorem dX9_isListed_1 : decode cX9_isListed 1 = .ok (.istore_n 3, 1) := by decide +kernel
theorem dX9_isListed_2 : decode cX9_isListed 2 = .ok (.iload_n 3, 1) := by decide +kernel
theorem dX9_isListed_3 : decode cX9_isListed 3 = .ok (.aload_n 0, 1) := by decide +kernel
theorem dX9_isListed_4 : decode cX9_isListed 4 = .ok (.getfield 288, 3) := by decide +kernel
theorem dX9_isListed_7 : decode cX9_isListed 7 = .ok (.if_icmp .ge 22, 3) := by decide +kernel
theorem dX9_isListed_10 : decode cX9_isListed 10 = .ok (.aload_n 0, 1) := by decide +kernel
theorem dX9_isListed_11 : decode cX9_isListed 11 = .ok (.getfield 97, 3) := by decide +kernel
theorem dX9_isListed_14 : decode cX9_isListed 14 = .ok (.iload_n 3, 1) := by decide +kernel
theorem dX9_isListed_15 : decode cX9_isListed 15 = .ok (.laload, 1) := by decide +kernel
theorem dX9_isListed_16 : decode cX9_isListed 16 = .ok (.lload_n 1, 1) := by decide +kernel
theorem dX9_isListed_17 : decode cX9_isListed 17 = .ok (.lcmp, 1) := by decide +kernel
theorem dX9_isListed_18 : decode cX9_isListed 18 = .ok (.ifCond .ne 5, 3) := by decide +kernel
theorem dX9_isListed_21 : decode cX9_isListed 21 = .ok (.iconst 1, 1) := by decide +kernel
theorem dX9_isListed_22 : decode cX9_isListed 22 = .ok (.ireturn, 1) := by decide +kernel
theorem dX9_isListed_23 : decode cX9_isListed 23 = .ok (.iinc 3 1, 3) := by decide +kernel
theorem dX9_isListed_26 : decode cX9_isListed 26 = .ok (.goto (-24), 3) := by decide +kernel
theorem dX9_isListed_29 : decode cX9_isListed 29 = .ok (.iconst 0, 1) := by decide +kernel
theorem dX9_isListed_30 : decode cX9_isListed 30 = .ok (.ireturn, 1) := by decide +kernel
theorem dX9_tries_0 : decode cX9_tries 0 = .ok (.aload_n 0, 1) := by decide +kernel
theorem dX9_tries_1 : decode cX9_tries 1 = .ok (.aload_n 0, 1) := by decide +kernel
theorem dX9_tries_2 : decode cX9_tries 2 = .ok (.getfield 97, 3) := by decide +kernel
theorem dX9_tries_5 : decode cX9_tries 5 = .ok (.iload_n 1, 1) := by decide +kernel
theorem dX9_tries_6 : decode cX9_tries 6 = .ok (.laload, 1) := by decide +kernel
theorem dX9_tries_7 : decode cX9_tries 7 = .ok (.invokevirtual 242, 3) := by decide +kernel
theorem dX9_tries_10 : decode cX9_tries 10 = .ok (.aload_n 0, 1) := by decide +kernel
theorem dX9_tries_11 : decode cX9_tries 11 = .ok (.iload_n 2, 1) := by decide +kernel
theorem dX9_tries_12 : decode cX9_tries 12 = .ok (.iload_n 3, 1) := by decide +kernel
theorem dX9_tries_13 : decode cX9_tries 13 = .ok (.invokevirtual 232, 3) := by decide +kernel
theorem dX9_tries_16 : decode cX9_tries 16 = .ok (.istore 5, 2) := by decide +kernel
theorem dX9_tries_18 : decode cX9_tries 18 = .ok (.iload 5, 2) := by decide +kernel
theorem dX9_tries_20 : decode cX9_tries 20 = .ok (.ifCond .ne 5, 3) := by decide +kernel
theorem dX9_tries_23 : decode cX9_tries 23 = .ok (.iconst 1, 1) := by decide +kernel
theorem dX9_tries_24 : decode cX9_tries 24 = .ok (.ireturn, 1) := by decide +kernel
theorem dX9_tries_25 : decode cX9_tries 25 = .ok (.aload_n 0, 1) := by decide +kernel
theorem dX9_tries_26 : decode cX9_tries 26 = .ok (.iload 5, 2) := by decide +kernel
theorem dX9_tries_28 : decode cX9_tries 28 = .ok (.iload_n 3, 1) := by decide +kernel
theorem dX9_tries_29 : decode cX9_tries 29 = .ok (.invokevirtual 221, 3) := by decide +kernel
theorem dX9_tries_32 : decode cX9_tries 32 = .ok (.aload_n 0, 1) := by decide +kernel
theorem dX9_tries_33 : decode cX9_tries 33 = .ok (.invokevirtual 217, 3) := by decide +kernel
theorem dX9_tries_36 : decode cX9_tries 36 = .ok (.lstore 6, 2) := by decide +kernel
theorem dX9_tries_38 : decode cX9_tries 38 = .ok (.iload 4, 2) := by decide +kernel
theorem dX9_tries_40 : decode cX9_tries 40 = .ok (.ifCond .eq 10, 3) := by decide +kernel
theorem dX9_tries_43 : decode cX9_tries 43 = .ok (.aload_n 0, 1) := by decide +kernel
theorem dX9_tries_44 : decode cX9_tries 44 = .ok (.invokevirtual 281, 3) := by decide +kernel
theorem dX9_tries_47 : decode cX9_tries 47 = .ok (.ifCond .ne 12, 3) := by decide +kernel
theorem dX9_tries_50 : decode cX9_tries 50 = .ok (.aload_n 0, 1) := by decide +kernel
theorem dX9_tries_51 : decode cX9_tries 51 = .ok (.lload 6, 2) := by decide +kernel
theorem dX9_tries_53 : decode cX9_tries 53 = .ok (.invokevirtual 291, 3) := by decide +kernel
theorem dX9_tries_56 : decode cX9_tries 56 = .ok (.ifCond .eq 5, 3) := by decide +kernel
theorem dX9_tries_59 : decode cX9_tries 59 = .ok (.iconst 1, 1) := by decide +kernel
theorem dX9_tries_60 : decode cX9_tries 60 = .ok (.ireturn, 1) := by decide +kernel
theorem dX9_tries_61 : decode cX9_tries 61 = .ok (.aload_n 0, 1) := by decide +kernel
theorem dX9_tries_62 : decode cX9_tries 62 = .ok (.getfield 288, 3) := by decide +kernel
theorem dX9_tries_65 : decode cX9_tries 65 = .ok (.sipush 1200, 3) := by decide +kernel
theorem dX9_tries_68 : decode cX9_tries 68 = .ok (.if_icmp .ne 11, 3) := by decide +kernel
theorem dX9_tries_71 : decode cX9_tries 71 = .ok (.aload_n 0, 1) := by decide +kernel
theorem dX9_tries_72 : decode cX9_tries 72 = .ok (.bipush (-6), 2) := by decide +kernel
theorem dX9_tries_74 : decode cX9_tries 74 = .ok (.putfield 295, 3) := by decide +kernel
theorem dX9_tries_77 : decode cX9_tries 77 = .ok (.iconst 0, 1) := by decide +kernel
theorem dX9_tries_78 : decode cX9_tries 78 = .ok (.ireturn, 1) := by decide +kernel
theorem dX9_tries_79 : decode cX9_tries 79 = .ok (.aload_n 0, 1) := by decide +kernel
theorem dX9_tries_80 : decode cX9_tries 80 = .ok (.getfield 97, 3) := by decide +kernel
theorem dX9_tries_83 : decode cX9_tries 83 = .ok (.aload_n 0, 1) := by decide +kernel
theorem dX9_tries_84 : decode cX9_tries 84 = .ok (.getfield 288, 3) := by decide +kernel
theorem dX9_tries_87 : decode cX9_tries 87 = .ok (.lload 6, 2) := by decide +kernel
theorem dX9_tries_89 : decode cX9_tries 89 = .ok (.lastore, 1) := by decide +kernel
theorem dX9_tries_90 : decode cX9_tries 90 = .ok (.aload_n 0, 1) := by decide +kernel
theorem dX9_tries_91 : decode cX9_tries 91 = .ok (.getfield 100, 3) := by decide +kernel
theorem dX9_tries_94 : decode cX9_tries 94 = .ok (.aload_n 0, 1) := by decide +kernel
theorem dX9_tries_95 : decode cX9_tries 95 = .ok (.getfield 288, 3) := by decide +kernel
theorem dX9_tries_98 : decode cX9_tries 98 = .ok (.iload_n 1, 1) := by decide +kernel
theorem dX9_tries_99 : decode cX9_tries 99 = .ok (.iastore, 1) := by decide +kernel
theorem dX9_tries_100 : decode cX9_tries 100 = .ok (.aload_n 0, 1) := by decide +kernel
theorem dX9_tries_101 : decode cX9_tries 101 = .ok (.getfield 103, 3) := by decide +kernel
theorem dX9_tries_104 : decode cX9_tries 104 = .ok (.aload_n 0, 1) := by decide +kernel
theorem dX9_tries_105 : decode cX9_tries 105 = .ok (.getfield 288, 3) := by decide +kernel
theorem dX9_tries_108 : decode cX9_tries 108 = .ok (.bipush 10, 2) := by decide +kernel
theorem dX9_tries_110 : decode cX9_tries 110 = .ok (.iload_n 2, 1) := by decide +kernel
theorem dX9_tries_111 : decode cX9_tries 111 = .ok (.imul, 1) := by decide +kernel
theorem dX9_tries_112 : decode cX9_tries 112 = .ok (.iload_n 3, 1) := by decide +kernel
theorem dX9_tries_113 : decode cX9_tries 113 = .ok (.iadd, 1) := by decide +kernel
theorem dX9_tries_114 : decode cX9_tries 114 = .ok (.iastore, 1) := by decide +kernel
theorem dX9_tries_115 : decode cX9_tries 115 = .ok (.aload_n 0, 1) := by decide +kernel
theorem dX9_tries_116 : decode cX9_tries 116 = .ok (.getfield 106, 3) := by decide +kernel
theorem dX9_tries_119 : decode cX9_tries 119 = .ok (.aload_n 0, 1) := by decide +kernel
theorem dX9_tries_120 : decode cX9_tries 120 = .ok (.getfield 288, 3) := by decide +kernel
theorem dX9_tries_123 : decode cX9_tries 123 = .ok (.aload_n 0, 1) := by decide +kernel
theorem dX9_tries_124 : decode cX9_tries 124 = .ok (.getfield 106, 3) := by decide +kernel
theorem dX9_tries_127 : decode cX9_tries 127 = .ok (.iload_n 1, 1) := by decide +kernel
theorem dX9_tries_128 : decode cX9_tries 128 = .ok (.iaload, 1) := by decide +kernel
theorem dX9_tries_129 : decode cX9_tries 129 = .ok (.iconst 1, 1) := by decide +kernel
theorem dX9_tries_130 : decode cX9_tries 130 = .ok (.iadd, 1) := by decide +kernel
theorem dX9_tries_131 : decode cX9_tries 131 = .ok (.iastore, 1) := by decide +kernel
theorem dX9_tries_132 : decode cX9_tries 132 = .ok (.aload_n 0, 1) := by decide +kernel
theorem dX9_tries_133 : decode cX9_tries 133 = .ok (.dup, 1) := by decide +kernel
theorem dX9_tries_134 : decode cX9_tries 134 = .ok (.getfield 288, 3) := by decide +kernel
theorem dX9_tries_137 : decode cX9_tries 137 = .ok (.iconst 1, 1) := by decide +kernel
theorem dX9_tries_138 : decode cX9_tries 138 = .ok (.iadd, 1) := by decide +kernel
theorem dX9_tries_139 : decode cX9_tries 139 = .ok (.putfield 288, 3) := by decide +kernel
theorem dX9_tries_142 : decode cX9_tries 142 = .ok (.iload 4, 2) := by decide +kernel
theorem dX9_tries_144 : decode cX9_tries 144 = .ok (.ifCond .eq 22, 3) := by decide +kernel
theorem dX9_tries_147 : decode cX9_tries 147 = .ok (.aload_n 0, 1) := by decide +kernel
theorem dX9_tries_148 : decode cX9_tries 148 = .ok (.invokevirtual 285, 3) := by decide +kernel
theorem dX9_tries_151 : decode cX9_tries 151 = .ok (.ifCond .eq 15, 3) := by decide +kernel
theorem dX9_tries_154 : decode cX9_tries 154 = .ok (.aload_n 0, 1) := by decide +kernel
theorem dX9_tries_155 : decode cX9_tries 155 = .ok (.aload_n 0, 1) := by decide +kernel
theorem dX9_tries_156 : decode cX9_tries 156 = .ok (.getfield 288, 3) := by decide +kernel
theorem dX9_tries_159 : decode cX9_tries 159 = .ok (.iconst 1, 1) := by decide +kernel
theorem dX9_tries_160 : decode cX9_tries 160 = .ok (.isub, 1) := by decide +kernel
theorem dX9_tries_161 : decode cX9_tries 161 = .ok (.putfield 295, 3) := by decide +kernel
theorem dX9_tries_164 : decode cX9_tries 164 = .ok (.iconst 0, 1) := by decide +kernel
theorem dX9_tries_165 : decode cX9_tries 165 = .ok (.ireturn, 1) := by decide +kernel
theorem dX9_tries_166 : decode cX9_tries 166 = .ok (.iconst 1, 1) := by decide +kernel
theorem dX9_tries_167 : decode cX9_tries 167 = .ok (.ireturn, 1) := by decide +kernel
theorem dX9_search_0 : decode cX9_search 0 = .ok (.aload_n 0, 1) := by decide +kernel
theorem dX9_search_1 : decode cX9_search 1 = .ok (.invokevirtual 217, 3) := by decide +kernel
theorem dX9_search_4 : decode cX9_search 4 = .ok (.lstore_n 3, 1) := by decide +kernel
theorem dX9_search_5 : decode cX9_search 5 = .ok (.aload_n 0, 1) := by decide +kernel
theorem dX9_search_6 : decode cX9_search 6 = .ok (.getfield 97, 3) := by decide +kernel
theorem dX9_search_9 : decode cX9_search 9 = .ok (.iconst 0, 1) := by decide +kernel
theorem dX9_search_10 : decode cX9_search 10 = .ok (.lload_n 3, 1) := by decide +kernel
theorem dX9_search_11 : decode cX9_search 11 = .ok (.lastore, 1) := by decide +kernel
theorem dX9_search_12 : decode cX9_search 12 = .ok (.aload_n 0, 1) := by decide +kernel
theorem dX9_search_13 : decode cX9_search 13 = .ok (.getfield 106, 3) := by decide +kernel
theorem dX9_search_16 : decode cX9_search 16 = .ok (.iconst 0, 1) := by decide +kernel
theorem dX9_search_17 : decode cX9_search 17 = .ok (.iconst 0, 1) := by decide +kernel
theorem dX9_search_18 : decode cX9_search 18 = .ok (.iastore, 1) := by decide +kernel
theorem dX9_search_19 : decode cX9_search 19 = .ok (.aload_n 0, 1) := by decide +kernel
theorem dX9_search_20 : decode cX9_search 20 = .ok (.iconst 1, 1) := by decide +kernel
theorem dX9_search_21 : decode cX9_search 21 = .ok (.putfield 288, 3) := by decide +kernel
theorem dX9_search_24 : decode cX9_search 24 = .ok (.aload_n 0, 1) := by decide +kernel
theorem dX9_search_25 : decode cX9_search 25 = .ok (.bipush (-7), 2) := by decide +kernel
theorem dX9_search_27 : decode cX9_search 27 = .ok (.putfield 295, 3) := by decide +kernel
theorem dX9_search_30 : decode cX9_search 30 = .ok (.iconst 1, 1) := by decide +kernel
theorem dX9_search_31 : decode cX9_search 31 = .ok (.istore 5, 2) := by decide +kernel
theorem dX9_search_33 : decode cX9_search 33 = .ok (.iconst 0, 1) := by decide +kernel
theorem dX9_search_34 : decode cX9_search 34 = .ok (.istore 6, 2) := by decide +kernel
theorem dX9_search_36 : decode cX9_search 36 = .ok (.iload 6, 2) := by decide +kernel
theorem dX9_search_38 : decode cX9_search 38 = .ok (.aload_n 0, 1) := by decide +kernel
theorem dX9_search_39 : decode cX9_search 39 = .ok (.getfield 288, 3) := by decide +kernel
theorem dX9_search_42 : decode cX9_search 42 = .ok (.if_icmp .ge 84, 3) := by decide +kernel
theorem dX9_search_45 : decode cX9_search 45 = .ok (.iload 5, 2) := by decide +kernel
theorem dX9_search_47 : decode cX9_search 47 = .ok (.ifCond .eq 79, 3) := by decide +kernel
theorem dX9_search_50 : decode cX9_search 50 = .ok (.aload_n 0, 1) := by decide +kernel
theorem dX9_search_51 : decode cX9_search 51 = .ok (.getfield 106, 3) := by decide +kernel
theorem dX9_search_54 : decode cX9_search 54 = .ok (.iload 6, 2) := by decide +kernel
theorem dX9_search_56 : decode cX9_search 56 = .ok (.iaload, 1) := by decide +kernel
theorem dX9_search_57 : decode cX9_search 57 = .ok (.iload_n 2, 1) := by decide +kernel
theorem dX9_search_58 : decode cX9_search 58 = .ok (.if_icmp .ge 68, 3) := by decide +kernel
theorem dX9_search_61 : decode cX9_search 61 = .ok (.iconst 0, 1) := by decide +kernel
theorem dX9_search_62 : decode cX9_search 62 = .ok (.istore 7, 2) := by decide +kernel
theorem dX9_search_64 : decode cX9_search 64 = .ok (.iload 7, 2) := by decide +kernel
theorem dX9_search_66 : decode cX9_search 66 = .ok (.iconst 5, 1) := by decide +kernel
theorem dX9_search_67 : decode cX9_search 67 = .ok (.if_icmp .ge 53, 3) := by decide +kernel
theorem dX9_search_70 : decode cX9_search 70 = .ok (.iconst 0, 1) := by decide +kernel
theorem dX9_search_71 : decode cX9_search 71 = .ok (.istore 8, 2) := by decide +kernel
theorem dX9_search_73 : decode cX9_search 73 = .ok (.iload 8, 2) := by decide +kernel
theorem dX9_search_75 : decode cX9_search 75 = .ok (.bipush 6, 2) := by decide +kernel
theorem dX9_search_77 : decode cX9_search 77 = .ok (.if_icmp .ge 37, 3) := by decide +kernel
theorem dX9_search_80 : decode cX9_search 80 = .ok (.aload_n 0, 1) := by decide +kernel
theorem dX9_search_81 : decode cX9_search 81 = .ok (.getfield 16, 3) := by decide +kernel
theorem dX9_search_84 : decode cX9_search 84 = .ok (.iload 7, 2) := by decide +kernel
theorem dX9_search_86 : decode cX9_search 86 = .ok (.iaload, 1) := by decide +kernel
theorem dX9_search_87 : decode cX9_search 87 = .ok (.ifCond .le 27, 3) := by decide +kernel
theorem dX9_search_90 : decode cX9_search 90 = .ok (.iload 5, 2) := by decide +kernel
theorem dX9_search_92 : decode cX9_search 92 = .ok (.ifCond .eq 22, 3) := by decide +kernel
theorem dX9_search_95 : decode cX9_search 95 = .ok (.aload_n 0, 1) := by decide +kernel
theorem dX9_search_96 : decode cX9_search 96 = .ok (.iload 6, 2) := by decide +kernel
theorem dX9_search_98 : decode cX9_search 98 = .ok (.iload 7, 2) := by decide +kernel
theorem dX9_search_100 : decode cX9_search 100 = .ok (.iload 8, 2) := by decide +kernel
theorem dX9_search_102 : decode cX9_search 102 = .ok (.iload_n 1, 1) := by decide +kernel
theorem dX9_search_103 : decode cX9_search 103 = .ok (.invokevirtual 298, 3) := by decide +kernel
theorem dX9_search_106 : decode cX9_search 106 = .ok (.istore 5, 2) := by decide +kernel
theorem dX9_search_108 : decode cX9_search 108 = .ok (.iinc 8 1, 3) := by decide +kernel
theorem dX9_search_111 : decode cX9_search 111 = .ok (.goto (-38), 3) := by decide +kernel
theorem dX9_search_114 : decode cX9_search 114 = .ok (.iinc 7 1, 3) := by decide +kernel
theorem dX9_search_117 : decode cX9_search 117 = .ok (.goto (-53), 3) := by decide +kernel
theorem dX9_search_120 : decode cX9_search 120 = .ok (.iinc 6 1, 3) := by decide +kernel
theorem dX9_search_123 : decode cX9_search 123 = .ok (.goto (-87), 3) := by decide +kernel
theorem dX9_search_126 : decode cX9_search 126 = .ok (.aload_n 0, 1) := by decide +kernel
theorem dX9_search_127 : decode cX9_search 127 = .ok (.lload_n 3, 1) := by decide +kernel
theorem dX9_search_128 : decode cX9_search 128 = .ok (.invokevirtual 242, 3) := by decide +kernel
theorem dX9_search_131 : decode cX9_search 131 = .ok (.return_, 1) := by decide +kernel
theorem dX9_findSolution_0 : decode cX9_findSolution 0 = .ok (.aload_n 0, 1) := by decide +kernel
theorem dX9_findSolution_1 : decode cX9_findSolution 1 = .ok (.invokevirtual 278, 3) := by decide +kernel
theorem dX9_findSolution_4 : decode cX9_findSolution 4 = .ok (.aload_n 0, 1) := by decide +kernel
theorem dX9_findSolution_5 : decode cX9_findSolution 5 = .ok (.bipush (-7), 2) := by decide +kernel
theorem dX9_findSolution_7 : decode cX9_findSolution 7 = .ok (.putfield 295, 3) := by decide +kernel
theorem dX9_findSolution_10 : decode cX9_findSolution 10 = .ok (.aload_n 0, 1) := by decide +kernel
theorem dX9_findSolution_11 : decode cX9_findSolution 11 = .ok (.invokevirtual 281, 3) := by decide +kernel
theorem dX9_findSolution_14 : decode cX9_findSolution 14 = .ok (.ifCond .eq 4, 3) := by decide +kernel
theorem dX9_findSolution_17 : decode cX9_findSolution 17 = .ok (.return_, 1) := by decide +kernel
theorem dX9_findSolution_18 : decode cX9_findSolution 18 = .ok (.aload_n 0, 1) := by decide +kernel
theorem dX9_findSolution_19 : decode cX9_findSolution 19 = .ok (.invokevirtual 285, 3) := by decide +kernel
theorem dX9_findSolution_22 : decode cX9_findSolution 22 = .ok (.ifCond .eq 16, 3) := by decide +kernel
theorem dX9_findSolution_25 : decode cX9_findSolution 25 = .ok (.aload_n 0, 1) := by decide +kernel
theorem dX9_findSolution_26 : decode cX9_findSolution 26 = .ok (.getfield 106, 3) := by decide +kernel
theorem dX9_findSolution_29 : decode cX9_findSolution 29 = .ok (.iconst 0, 1) := by decide +kernel
theorem dX9_findSolution_30 : decode cX9_findSolution 30 = .ok (.iconst 0, 1) := by decide +kernel
theorem dX9_findSolution_31 : decode cX9_findSolution 31 = .ok (.iastore, 1) := by decide +kernel
theorem dX9_findSolution_32 : decode cX9_findSolution 32 = .ok (.aload_n 0, 1) := by decide +kernel
theorem dX9_findSolution_33 : decode cX9_findSolution 33 = .ok (.iconst 0, 1) := by decide +kernel
theorem dX9_findSolution_34 : decode cX9_findSolution 34 = .ok (.putfield 295, 3) := by decide +kernel
theorem dX9_findSolution_37 : decode cX9_findSolution 37 = .ok (.return_, 1) := by decide +kernel
theorem dX9_findSolution_38 : decode cX9_findSolution 38 = .ok (.aload_n 0, 1) := by decide +kernel
theorem dX9_findSolution_39 : decode cX9_findSolution 39 = .ok (.iconst 1, 1) := by decide +kernel
theorem dX9_findSolution_40 : decode cX9_findSolution 40 = .ok (.sipush 2000, 3) := by decide +kernel
theorem dX9_findSolution_43 : decode cX9_findSolution 43 = .ok (.invokevirtual 302, 3) := by decide +kernel
theorem dX9_findSolution_46 : decode cX9_findSolution 46 = .ok (.return_, 1) := by decide +kernel
theorem dX9_solve_0 : decode cX9_solve 0 = .ok (.aload_n 0, 1) := by decide +kernel
theorem dX9_solve_1 : decode cX9_solve 1 = .ok (.invokevirtual 306, 3) := by decide +kernel
theorem dX9_solve_4 : decode cX9_solve 4 = .ok (.aload_n 0, 1) := by decide +kernel
theorem dX9_solve_5 : decode cX9_solve 5 = .ok (.getfield 295, 3) := by decide +kernel
theorem dX9_solve_8 : decode cX9_solve 8 = .ok (.ifCond .ge 10, 3) := by decide +kernel
theorem dX9_solve_11 : decode cX9_solve 11 = .ok (.aload_n 0, 1) := by decide +kernel
theorem dX9_solve_12 : decode cX9_solve 12 = .ok (.getfield 295, 3) := by decide +kernel
theorem dX9_solve_15 : decode cX9_solve 15 = .ok (.goto 12, 3) := by decide +kernel
theorem dX9_solve_18 : decode cX9_solve 18 = .ok (.aload_n 0, 1) := by decide +kernel
theorem dX9_solve_19 : decode cX9_solve 19 = .ok (.getfield 106, 3) := by decide +kernel
theorem dX9_solve_22 : decode cX9_solve 22 = .ok (.aload_n 0, 1) := by decide +kernel
theorem dX9_solve_23 : decode cX9_solve 23 = .ok (.getfield 295, 3) := by decide +kernel
theorem dX9_solve_26 : decode cX9_solve 26 = .ok (.iaload, 1) := by decide +kernel
theorem dX9_solve_27 : decode cX9_solve 27 = .ok (.ireturn, 1) := by decide +kernel
theorem dX9_solution_0 : decode cX9_solution 0 = .ok (.iload_n 1, 1) := by decide +kernel
theorem dX9_solution_1 : decode cX9_solution 1 = .ok (.ifCond .ge 6, 3) := by decide +kernel
theorem dX9_solution_4 : decode cX9_solution 4 = .ok (.bipush (-3), 2) := by decide +kernel
theorem dX9_solution_6 : decode cX9_solution 6 = .ok (.ireturn, 1) := by decide +kernel
theorem dX9_solution_7 : decode cX9_solution 7 = .ok (.aload_n 0, 1) := by decide +kernel
theorem dX9_solution_8 : decode cX9_solution 8 = .ok (.invokevirtual 306, 3) := by decide +kernel
theorem dX9_solution_11 : decode cX9_solution 11 = .ok (.aload_n 0, 1) := by decide +kernel
theorem dX9_solution_12 : decode cX9_solution 12 = .ok (.getfield 295, 3) := by decide +kernel
theorem dX9_solution_15 : decode cX9_solution 15 = .ok (.ifCond .ge 8, 3) := by decide +kernel
theorem dX9_solution_18 : decode cX9_solution 18 = .ok (.aload_n 0, 1) := by decide +kernel
theorem dX9_solution_19 : decode cX9_solution 19 = .ok (.getfield 295, 3) := by decide +kernel
theorem dX9_solution_22 : decode cX9_solution 22 = .ok (.ireturn, 1) := by decide +kernel
theorem dX9_solution_23 : decode cX9_solution 23 = .ok (.iload_n 1, 1) := by decide +kernel
theorem dX9_solution_24 : decode cX9_solution 24 = .ok (.aload_n 0, 1) := by decide +kernel
theorem dX9_solution_25 : decode cX9_solution 25 = .ok (.getfield 106, 3) := by decide +kernel
theorem dX9_solution_28 : decode cX9_solution 28 = .ok (.aload_n 0, 1) := by decide +kernel
theorem dX9_solution_29 : decode cX9_solution 29 = .ok (.getfield 295, 3) := by decide +kernel
theorem dX9_solution_32 : decode cX9_solution 32 = .ok (.iaload, 1) := by decide +kernel
theorem dX9_solution_33 : decode cX9_solution 33 = .ok (.if_icmp .lt 6, 3) := by decide +kernel
theorem dX9_solution_36 : decode cX9_solution 36 = .ok (.bipush (-7), 2) := by decide +kernel
theorem dX9_solution_38 : decode cX9_solution 38 = .ok (.ireturn, 1) := by decide +kernel
theorem dX9_solution_39 : decode cX9_solution 39 = .ok (.aload_n 0, 1) := by decide +kernel
theorem dX9_solution_40 : decode cX9_solution 40 = .ok (.getfield 295, 3) := by decide +kernel
theorem dX9_solution_43 : decode cX9_solution 43 = .ok (.istore_n 2, 1) := by decide +kernel
theorem dX9_solution_44 : decode cX9_solution 44 = .ok (.aload_n 0, 1) := by decide +kernel
theorem dX9_solution_45 : decode cX9_solution 45 = .ok (.getfield 106, 3) := by decide +kernel
theorem dX9_solution_48 : decode cX9_solution 48 = .ok (.iload_n 2, 1) := by decide +kernel
theorem dX9_solution_49 : decode cX9_solution 49 = .ok (.iaload, 1) := by decide +kernel
theorem dX9_solution_50 : decode cX9_solution 50 = .ok (.iload_n 1, 1) := by decide +kernel
theorem dX9_solution_51 : decode cX9_solution 51 = .ok (.iconst 1, 1) := by decide +kernel
theorem dX9_solution_52 : decode cX9_solution 52 = .ok (.iadd, 1) := by decide +kernel
theorem dX9_solution_53 : decode cX9_solution 53 = .ok (.if_icmp .le 13, 3) := by decide +kernel
theorem dX9_solution_56 : decode cX9_solution 56 = .ok (.aload_n 0, 1) := by decide +kernel
theorem dX9_solution_57 : decode cX9_solution 57 = .ok (.getfield 100, 3) := by decide +kernel
theorem dX9_solution_60 : decode cX9_solution 60 = .ok (.iload_n 2, 1) := by decide +kernel
theorem dX9_solution_61 : decode cX9_solution 61 = .ok (.iaload, 1) := by decide +kernel
theorem dX9_solution_62 : decode cX9_solution 62 = .ok (.istore_n 2, 1) := by decide +kernel
theorem dX9_solution_63 : decode cX9_solution 63 = .ok (.goto (-19), 3) := by decide +kernel
theorem dX9_solution_66 : decode cX9_solution 66 = .ok (.aload_n 0, 1) := by decide +kernel
theorem dX9_solution_67 : decode cX9_solution 67 = .ok (.getfield 103, 3) := by decide +kernel
theorem dX9_solution_70 : decode cX9_solution 70 = .ok (.iload_n 2, 1) := by decide +kernel
theorem dX9_solution_71 : decode cX9_solution 71 = .ok (.iaload, 1) := by decide +kernel
theorem dX9_solution_72 : decode cX9_solution 72 = .ok (.ireturn, 1) := by decide +kernel
theorem dX9_reachable_0 : decode cX9_reachable 0 = .ok (.iload_n 1, 1) := by decide +kernel
theorem dX9_reachable_1 : decode cX9_reachable 1 = .ok (.iconst 0, 1) := by decide +kernel
theorem dX9_reachable_2 : decode cX9_reachable 2 = .ok (.iconst 4, 1) := by decide +kernel
theorem dX9_reachable_3 : decode cX9_reachable 3 = .ok (.invokestatic 119, 3) := by decide +kernel
theorem dX9_reachable_6 : decode cX9_reachable 6 = .ok (.ifCond .ne 6, 3) := by decide +kernel
theorem dX9_reachable_9 : decode cX9_reachable 9 = .ok (.bipush (-3), 2) := by decide +kernel
theorem dX9_reachable_11 : decode cX9_reachable 11 = .ok (.ireturn, 1) := by decide +kernel
theorem dX9_reachable_12 : decode cX9_reachable 12 = .ok (.aload_n 0, 1) := by decide +kernel
theorem dX9_reachable_13 : decode cX9_reachable 13 = .ok (.iconst 0, 1) := by decide +kernel
theorem dX9_reachable_14 : decode cX9_reachable 14 = .ok (.iload_n 1, 1) := by decide +kernel
theorem dX9_reachable_15 : decode cX9_reachable 15 = .ok (.invokevirtual 302, 3) := by decide +kernel
theorem dX9_reachable_18 : decode cX9_reachable 18 = .ok (.aload_n 0, 1) := by decide +kernel
theorem dX9_reachable_19 : decode cX9_reachable 19 = .ok (.getfield 295, 3) := by decide +kernel
theorem dX9_reachable_22 : decode cX9_reachable 22 = .ok (.bipush (-6), 2) := by decide +kernel
theorem dX9_reachable_24 : decode cX9_reachable 24 = .ok (.if_icmp .ne 8, 3) := by decide +kernel
theorem dX9_reachable_27 : decode cX9_reachable 27 = .ok (.bipush (-6), 2) := by decide +kernel
theorem dX9_reachable_29 : decode cX9_reachable 29 = .ok (.goto 7, 3) := by decide +kernel
theorem dX9_reachable_32 : decode cX9_reachable 32 = .ok (.aload_n 0, 1) := by decide +kernel
theorem dX9_reachable_33 : decode cX9_reachable 33 = .ok (.getfield 288, 3) := by decide +kernel
theorem dX9_reachable_36 : decode cX9_reachable 36 = .ok (.ireturn, 1) := by decide +kernel
end
