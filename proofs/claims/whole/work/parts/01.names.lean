/-- what NAMES speaks of and no text of the kit says: an array class over arrays -/
def va_AOA (ty : FieldType) (U : State) : Prop := (Cond.arrayOver (.array ty)).before #[] U = true
theorem va_AOA.of {ty : FieldType} {A : Array Value} {U : State} (h : (Cond.arrayOver (.array ty)).before A U = true) : va_AOA ty U := h
theorem va_AOA.use {ty : FieldType} {A : Array Value} {U : State} (h : va_AOA ty U) : (Cond.arrayOver (.array ty)).before A U = true := h
-- ===== PART A: goes FIRST, ahead of the names: the tables' words, and 'selects' of the private methods out of them =====
/-- a private method of a class that the tables say can be made, by its rows of tables_1 -/
def lw_okq (q : MethodName × Nat) : Prop := (q.1.cls ≠ "java/lang/invoke/MethodHandle" ∧ q.1.cls ≠ "java/lang/invoke/VarHandle") ∧ Cond.instantiable q.1.cls q.2 ∈ tables_1 ∧ Cond.privateMethod q.1 ∈ tables_1 ∧ Cond.instanceMethod q.1 ∈ tables_1
theorem lw_p0 : lw_okq (⟨"TowerOfTurns", "refuse", "(I)I"⟩, 11) := ⟨⟨by decide +kernel, by decide +kernel⟩, List.mem_of_getElem? (i := 18) (by decide +kernel), List.mem_of_getElem? (i := 213) (by decide +kernel), List.mem_of_getElem? (i := 214) (by decide +kernel)⟩
theorem lw_p1 : lw_okq (⟨"TowerOfTurns", "place", "(ILTowerOfTurns$Row;I)V"⟩, 11) := ⟨⟨by decide +kernel, by decide +kernel⟩, List.mem_of_getElem? (i := 18) (by decide +kernel), List.mem_of_getElem? (i := 244) (by decide +kernel), List.mem_of_getElem? (i := 245) (by decide +kernel)⟩
theorem lw_p2 : lw_okq (⟨"TowerOfTurns", "rowOn", "(I)LTowerOfTurns$Row;"⟩, 11) := ⟨⟨by decide +kernel, by decide +kernel⟩, List.mem_of_getElem? (i := 18) (by decide +kernel), List.mem_of_getElem? (i := 252) (by decide +kernel), List.mem_of_getElem? (i := 253) (by decide +kernel)⟩
theorem lw_p3 : lw_okq (⟨"TowerOfTurns", "faultOfRow", "(II)I"⟩, 11) := ⟨⟨by decide +kernel, by decide +kernel⟩, List.mem_of_getElem? (i := 18) (by decide +kernel), List.mem_of_getElem? (i := 256) (by decide +kernel), List.mem_of_getElem? (i := 257) (by decide +kernel)⟩
theorem lw_p4 : lw_okq (⟨"TowerOfTurns", "isShown", "(I)Z"⟩, 11) := ⟨⟨by decide +kernel, by decide +kernel⟩, List.mem_of_getElem? (i := 18) (by decide +kernel), List.mem_of_getElem? (i := 260) (by decide +kernel), List.mem_of_getElem? (i := 261) (by decide +kernel)⟩
theorem lw_p5 : lw_okq (⟨"TowerOfTurns$Row", "cut", "(J)J"⟩, 2) := ⟨⟨by decide +kernel, by decide +kernel⟩, List.mem_of_getElem? (i := 222) (by decide +kernel), List.mem_of_getElem? (i := 272) (by decide +kernel), List.mem_of_getElem? (i := 273) (by decide +kernel)⟩
theorem lw_p6 : lw_okq (⟨"TowerOfTurns$Crowd", "measure", "(I)V"⟩, 2) := ⟨⟨by decide +kernel, by decide +kernel⟩, List.mem_of_getElem? (i := 32) (by decide +kernel), List.mem_of_getElem? (i := 349) (by decide +kernel), List.mem_of_getElem? (i := 350) (by decide +kernel)⟩
theorem lw_p7 : lw_okq (⟨"TowerOfTurns$Reader", "step", "()V"⟩, 5) := ⟨⟨by decide +kernel, by decide +kernel⟩, List.mem_of_getElem? (i := 148) (by decide +kernel), List.mem_of_getElem? (i := 440) (by decide +kernel), List.mem_of_getElem? (i := 441) (by decide +kernel)⟩
theorem lw_p8 : lw_okq (⟨"TowerOfTurns$Reader", "didStatement", "(LTowerOfTurns$World;)Z"⟩, 5) := ⟨⟨by decide +kernel, by decide +kernel⟩, List.mem_of_getElem? (i := 148) (by decide +kernel), List.mem_of_getElem? (i := 455) (by decide +kernel), List.mem_of_getElem? (i := 456) (by decide +kernel)⟩
theorem lw_p9 : lw_okq (⟨"TowerOfTurns$Reader", "isWord", "(Ljava/lang/String;)Z"⟩, 5) := ⟨⟨by decide +kernel, by decide +kernel⟩, List.mem_of_getElem? (i := 148) (by decide +kernel), List.mem_of_getElem? (i := 460) (by decide +kernel), List.mem_of_getElem? (i := 461) (by decide +kernel)⟩
theorem lw_p10 : lw_okq (⟨"TowerOfTurns$Reader", "didPerson", "(LTowerOfTurns$World;)Z"⟩, 5) := ⟨⟨by decide +kernel, by decide +kernel⟩, List.mem_of_getElem? (i := 148) (by decide +kernel), List.mem_of_getElem? (i := 512) (by decide +kernel), List.mem_of_getElem? (i := 513) (by decide +kernel)⟩
theorem lw_p11 : lw_okq (⟨"TowerOfTurns$Reader", "number", "()I"⟩, 5) := ⟨⟨by decide +kernel, by decide +kernel⟩, List.mem_of_getElem? (i := 148) (by decide +kernel), List.mem_of_getElem? (i := 517) (by decide +kernel), List.mem_of_getElem? (i := 518) (by decide +kernel)⟩
theorem lw_p12 : lw_okq (⟨"TowerOfTurns$Reader", "didClimb", "(LTowerOfTurns$World;)Z"⟩, 5) := ⟨⟨by decide +kernel, by decide +kernel⟩, List.mem_of_getElem? (i := 148) (by decide +kernel), List.mem_of_getElem? (i := 526) (by decide +kernel), List.mem_of_getElem? (i := 527) (by decide +kernel)⟩
theorem lw_p13 : lw_okq (⟨"TowerOfTurns$Reader", "didTell", "(LTowerOfTurns$World;I)Z"⟩, 5) := ⟨⟨by decide +kernel, by decide +kernel⟩, List.mem_of_getElem? (i := 148) (by decide +kernel), List.mem_of_getElem? (i := 555) (by decide +kernel), List.mem_of_getElem? (i := 556) (by decide +kernel)⟩
theorem lw_p14 : lw_okq (⟨"TowerOfTurns", "isSet", "(I)Z"⟩, 11) := ⟨⟨by decide +kernel, by decide +kernel⟩, List.mem_of_getElem? (i := 18) (by decide +kernel), List.mem_of_getElem? (i := 654) (by decide +kernel), List.mem_of_getElem? (i := 655) (by decide +kernel)⟩
theorem lw_p15 : lw_okq (⟨"TowerOfTurns$Lineups", "measureSets", "()V"⟩, 8) := ⟨⟨by decide +kernel, by decide +kernel⟩, List.mem_of_getElem? (i := 102) (by decide +kernel), List.mem_of_getElem? (i := 665) (by decide +kernel), List.mem_of_getElem? (i := 666) (by decide +kernel)⟩
def lw_privs_1 : List (MethodName × Nat) := [(⟨"TowerOfTurns", "refuse", "(I)I"⟩, 11), (⟨"TowerOfTurns", "place", "(ILTowerOfTurns$Row;I)V"⟩, 11), (⟨"TowerOfTurns", "rowOn", "(I)LTowerOfTurns$Row;"⟩, 11), (⟨"TowerOfTurns", "faultOfRow", "(II)I"⟩, 11), (⟨"TowerOfTurns", "isShown", "(I)Z"⟩, 11), (⟨"TowerOfTurns$Row", "cut", "(J)J"⟩, 2), (⟨"TowerOfTurns$Crowd", "measure", "(I)V"⟩, 2), (⟨"TowerOfTurns$Reader", "step", "()V"⟩, 5), (⟨"TowerOfTurns$Reader", "didStatement", "(LTowerOfTurns$World;)Z"⟩, 5), (⟨"TowerOfTurns$Reader", "isWord", "(Ljava/lang/String;)Z"⟩, 5), (⟨"TowerOfTurns$Reader", "didPerson", "(LTowerOfTurns$World;)Z"⟩, 5), (⟨"TowerOfTurns$Reader", "number", "()I"⟩, 5), (⟨"TowerOfTurns$Reader", "didClimb", "(LTowerOfTurns$World;)Z"⟩, 5), (⟨"TowerOfTurns$Reader", "didTell", "(LTowerOfTurns$World;I)Z"⟩, 5), (⟨"TowerOfTurns", "isSet", "(I)Z"⟩, 11), (⟨"TowerOfTurns$Lineups", "measureSets", "()V"⟩, 8)]
theorem lw_r1 : ∀ q ∈ lw_privs_1, lw_okq q := List.forall_mem_cons.mpr ⟨lw_p0, List.forall_mem_cons.mpr ⟨lw_p1, List.forall_mem_cons.mpr ⟨lw_p2, List.forall_mem_cons.mpr ⟨lw_p3, List.forall_mem_cons.mpr ⟨lw_p4, List.forall_mem_cons.mpr ⟨lw_p5, List.forall_mem_cons.mpr ⟨lw_p6, List.forall_mem_cons.mpr ⟨lw_p7, List.forall_mem_cons.mpr ⟨lw_p8, List.forall_mem_cons.mpr ⟨lw_p9, List.forall_mem_cons.mpr ⟨lw_p10, List.forall_mem_cons.mpr ⟨lw_p11, List.forall_mem_cons.mpr ⟨lw_p12, List.forall_mem_cons.mpr ⟨lw_p13, List.forall_mem_cons.mpr ⟨lw_p14, List.forall_mem_cons.mpr ⟨lw_p15, fun _ h => absurd h List.not_mem_nil⟩⟩⟩⟩⟩⟩⟩⟩⟩⟩⟩⟩⟩⟩⟩⟩
theorem lw_p16 : lw_okq (⟨"TowerOfTurns$Lineups", "explore", "(IILTowerOfTurns$Row;)V"⟩, 8) := ⟨⟨by decide +kernel, by decide +kernel⟩, List.mem_of_getElem? (i := 102) (by decide +kernel), List.mem_of_getElem? (i := 679) (by decide +kernel), List.mem_of_getElem? (i := 680) (by decide +kernel)⟩
theorem lw_p17 : lw_okq (⟨"TowerOfTurns$Lineups", "whoStands", "(II)I"⟩, 8) := ⟨⟨by decide +kernel, by decide +kernel⟩, List.mem_of_getElem? (i := 102) (by decide +kernel), List.mem_of_getElem? (i := 683) (by decide +kernel), List.mem_of_getElem? (i := 684) (by decide +kernel)⟩
theorem lw_p18 : lw_okq (⟨"TowerOfTurns$Lineups", "whoBears", "(ILTowerOfTurns$Row;)I"⟩, 8) := ⟨⟨by decide +kernel, by decide +kernel⟩, List.mem_of_getElem? (i := 102) (by decide +kernel), List.mem_of_getElem? (i := 688) (by decide +kernel), List.mem_of_getElem? (i := 689) (by decide +kernel)⟩
theorem lw_p19 : lw_okq (⟨"TowerOfTurns$Lineups", "reachFrom", "(I)V"⟩, 8) := ⟨⟨by decide +kernel, by decide +kernel⟩, List.mem_of_getElem? (i := 102) (by decide +kernel), List.mem_of_getElem? (i := 693) (by decide +kernel), List.mem_of_getElem? (i := 694) (by decide +kernel)⟩
theorem lw_p20 : lw_okq (⟨"TowerOfTurns$Lineups", "countFrom", "(I)V"⟩, 8) := ⟨⟨by decide +kernel, by decide +kernel⟩, List.mem_of_getElem? (i := 102) (by decide +kernel), List.mem_of_getElem? (i := 697) (by decide +kernel), List.mem_of_getElem? (i := 698) (by decide +kernel)⟩
theorem lw_p21 : lw_okq (⟨"TowerOfTurns$Lineups", "firstOn", "(I)I"⟩, 8) := ⟨⟨by decide +kernel, by decide +kernel⟩, List.mem_of_getElem? (i := 102) (by decide +kernel), List.mem_of_getElem? (i := 710) (by decide +kernel), List.mem_of_getElem? (i := 711) (by decide +kernel)⟩
theorem lw_p22 : lw_okq (⟨"TowerOfTurns$Lineups", "leadsOn", "(II)Z"⟩, 8) := ⟨⟨by decide +kernel, by decide +kernel⟩, List.mem_of_getElem? (i := 102) (by decide +kernel), List.mem_of_getElem? (i := 714) (by decide +kernel), List.mem_of_getElem? (i := 715) (by decide +kernel)⟩
theorem lw_p23 : lw_okq (⟨"TowerOfTurns$Lineups", "fillJoys", "(I)V"⟩, 8) := ⟨⟨by decide +kernel, by decide +kernel⟩, List.mem_of_getElem? (i := 102) (by decide +kernel), List.mem_of_getElem? (i := 751) (by decide +kernel), List.mem_of_getElem? (i := 752) (by decide +kernel)⟩
theorem lw_p24 : lw_okq (⟨"TowerOfTurns$Lineups", "joyOf", "(II)I"⟩, 8) := ⟨⟨by decide +kernel, by decide +kernel⟩, List.mem_of_getElem? (i := 102) (by decide +kernel), List.mem_of_getElem? (i := 755) (by decide +kernel), List.mem_of_getElem? (i := 756) (by decide +kernel)⟩
theorem lw_p25 : lw_okq (⟨"TowerOfTurns", "tryWithout", "(I)V"⟩, 11) := ⟨⟨by decide +kernel, by decide +kernel⟩, List.mem_of_getElem? (i := 18) (by decide +kernel), List.mem_of_getElem? (i := 800) (by decide +kernel), List.mem_of_getElem? (i := 801) (by decide +kernel)⟩
theorem lw_p26 : lw_okq (⟨"TowerOfTurns", "tryOnTop", "(I)V"⟩, 11) := ⟨⟨by decide +kernel, by decide +kernel⟩, List.mem_of_getElem? (i := 18) (by decide +kernel), List.mem_of_getElem? (i := 826) (by decide +kernel), List.mem_of_getElem? (i := 827) (by decide +kernel)⟩
theorem lw_p27 : lw_okq (⟨"TowerOfTurns", "couldClimb", "()I"⟩, 11) := ⟨⟨by decide +kernel, by decide +kernel⟩, List.mem_of_getElem? (i := 18) (by decide +kernel), List.mem_of_getElem? (i := 888) (by decide +kernel), List.mem_of_getElem? (i := 889) (by decide +kernel)⟩
theorem lw_p28 : lw_okq (⟨"TowerOfTurns", "firstWrong", "(LTowerOfTurns$Row;I)I"⟩, 11) := ⟨⟨by decide +kernel, by decide +kernel⟩, List.mem_of_getElem? (i := 18) (by decide +kernel), List.mem_of_getElem? (i := 939) (by decide +kernel), List.mem_of_getElem? (i := 940) (by decide +kernel)⟩
theorem lw_p29 : lw_okq (⟨"TowerOfTurns", "firstBreak", "(LTowerOfTurns$Row;I)I"⟩, 11) := ⟨⟨by decide +kernel, by decide +kernel⟩, List.mem_of_getElem? (i := 18) (by decide +kernel), List.mem_of_getElem? (i := 947) (by decide +kernel), List.mem_of_getElem? (i := 948) (by decide +kernel)⟩
theorem lw_p30 : lw_okq (⟨"TowerOfTurns", "fullShelves", "()I"⟩, 11) := ⟨⟨by decide +kernel, by decide +kernel⟩, List.mem_of_getElem? (i := 18) (by decide +kernel), List.mem_of_getElem? (i := 1003) (by decide +kernel), List.mem_of_getElem? (i := 1004) (by decide +kernel)⟩
theorem lw_p31 : lw_okq (⟨"TowerOfTurns", "refusals", "(I)I"⟩, 11) := ⟨⟨by decide +kernel, by decide +kernel⟩, List.mem_of_getElem? (i := 18) (by decide +kernel), List.mem_of_getElem? (i := 1007) (by decide +kernel), List.mem_of_getElem? (i := 1008) (by decide +kernel)⟩
def lw_privs_2 : List (MethodName × Nat) := [(⟨"TowerOfTurns$Lineups", "explore", "(IILTowerOfTurns$Row;)V"⟩, 8), (⟨"TowerOfTurns$Lineups", "whoStands", "(II)I"⟩, 8), (⟨"TowerOfTurns$Lineups", "whoBears", "(ILTowerOfTurns$Row;)I"⟩, 8), (⟨"TowerOfTurns$Lineups", "reachFrom", "(I)V"⟩, 8), (⟨"TowerOfTurns$Lineups", "countFrom", "(I)V"⟩, 8), (⟨"TowerOfTurns$Lineups", "firstOn", "(I)I"⟩, 8), (⟨"TowerOfTurns$Lineups", "leadsOn", "(II)Z"⟩, 8), (⟨"TowerOfTurns$Lineups", "fillJoys", "(I)V"⟩, 8), (⟨"TowerOfTurns$Lineups", "joyOf", "(II)I"⟩, 8), (⟨"TowerOfTurns", "tryWithout", "(I)V"⟩, 11), (⟨"TowerOfTurns", "tryOnTop", "(I)V"⟩, 11), (⟨"TowerOfTurns", "couldClimb", "()I"⟩, 11), (⟨"TowerOfTurns", "firstWrong", "(LTowerOfTurns$Row;I)I"⟩, 11), (⟨"TowerOfTurns", "firstBreak", "(LTowerOfTurns$Row;I)I"⟩, 11), (⟨"TowerOfTurns", "fullShelves", "()I"⟩, 11), (⟨"TowerOfTurns", "refusals", "(I)I"⟩, 11)]
theorem lw_r2 : ∀ q ∈ lw_privs_2, lw_okq q := List.forall_mem_cons.mpr ⟨lw_p16, List.forall_mem_cons.mpr ⟨lw_p17, List.forall_mem_cons.mpr ⟨lw_p18, List.forall_mem_cons.mpr ⟨lw_p19, List.forall_mem_cons.mpr ⟨lw_p20, List.forall_mem_cons.mpr ⟨lw_p21, List.forall_mem_cons.mpr ⟨lw_p22, List.forall_mem_cons.mpr ⟨lw_p23, List.forall_mem_cons.mpr ⟨lw_p24, List.forall_mem_cons.mpr ⟨lw_p25, List.forall_mem_cons.mpr ⟨lw_p26, List.forall_mem_cons.mpr ⟨lw_p27, List.forall_mem_cons.mpr ⟨lw_p28, List.forall_mem_cons.mpr ⟨lw_p29, List.forall_mem_cons.mpr ⟨lw_p30, List.forall_mem_cons.mpr ⟨lw_p31, fun _ h => absurd h List.not_mem_nil⟩⟩⟩⟩⟩⟩⟩⟩⟩⟩⟩⟩⟩⟩⟩⟩
theorem lw_p32 : lw_okq (⟨"TowerOfTurnsModel", "refuse", "(I)I"⟩, 38) := ⟨⟨by decide +kernel, by decide +kernel⟩, List.mem_of_getElem? (i := 1011) (by decide +kernel), List.mem_of_getElem? (i := 1147) (by decide +kernel), List.mem_of_getElem? (i := 1148) (by decide +kernel)⟩
theorem lw_p33 : lw_okq (⟨"TowerOfTurnsModel", "noRow", "(I)I"⟩, 38) := ⟨⟨by decide +kernel, by decide +kernel⟩, List.mem_of_getElem? (i := 1011) (by decide +kernel), List.mem_of_getElem? (i := 1155) (by decide +kernel), List.mem_of_getElem? (i := 1156) (by decide +kernel)⟩
theorem lw_p34 : lw_okq (⟨"TowerOfTurnsModel", "isPerson", "(J)Z"⟩, 38) := ⟨⟨by decide +kernel, by decide +kernel⟩, List.mem_of_getElem? (i := 1011) (by decide +kernel), List.mem_of_getElem? (i := 1178) (by decide +kernel), List.mem_of_getElem? (i := 1179) (by decide +kernel)⟩
theorem lw_p35 : lw_okq (⟨"TowerOfTurnsModel", "tallness", "(I)I"⟩, 38) := ⟨⟨by decide +kernel, by decide +kernel⟩, List.mem_of_getElem? (i := 1011) (by decide +kernel), List.mem_of_getElem? (i := 1190) (by decide +kernel), List.mem_of_getElem? (i := 1191) (by decide +kernel)⟩
theorem lw_p36 : lw_okq (⟨"TowerOfTurnsModel", "massOf", "(I)I"⟩, 38) := ⟨⟨by decide +kernel, by decide +kernel⟩, List.mem_of_getElem? (i := 1011) (by decide +kernel), List.mem_of_getElem? (i := 1194) (by decide +kernel), List.mem_of_getElem? (i := 1195) (by decide +kernel)⟩
theorem lw_p37 : lw_okq (⟨"TowerOfTurnsModel", "bears", "(I)I"⟩, 38) := ⟨⟨by decide +kernel, by decide +kernel⟩, List.mem_of_getElem? (i := 1011) (by decide +kernel), List.mem_of_getElem? (i := 1198) (by decide +kernel), List.mem_of_getElem? (i := 1199) (by decide +kernel)⟩
theorem lw_p38 : lw_okq (⟨"TowerOfTurnsModel", "addPerson", "(IIIII)V"⟩, 38) := ⟨⟨by decide +kernel, by decide +kernel⟩, List.mem_of_getElem? (i := 1011) (by decide +kernel), List.mem_of_getElem? (i := 1208) (by decide +kernel), List.mem_of_getElem? (i := 1209) (by decide +kernel)⟩
theorem lw_p39 : lw_okq (⟨"TowerOfTurnsModel", "leastMost", "()I"⟩, 38) := ⟨⟨by decide +kernel, by decide +kernel⟩, List.mem_of_getElem? (i := 1011) (by decide +kernel), List.mem_of_getElem? (i := 1221) (by decide +kernel), List.mem_of_getElem? (i := 1222) (by decide +kernel)⟩
theorem lw_p40 : lw_okq (⟨"TowerOfTurnsModel", "takeFrom", "(LTowerOfTurnsModel;)V"⟩, 38) := ⟨⟨by decide +kernel, by decide +kernel⟩, List.mem_of_getElem? (i := 1011) (by decide +kernel), List.mem_of_getElem? (i := 1242) (by decide +kernel), List.mem_of_getElem? (i := 1243) (by decide +kernel)⟩
theorem lw_p41 : lw_okq (⟨"TowerOfTurnsModel", "readAll", "()Z"⟩, 38) := ⟨⟨by decide +kernel, by decide +kernel⟩, List.mem_of_getElem? (i := 1011) (by decide +kernel), List.mem_of_getElem? (i := 1249) (by decide +kernel), List.mem_of_getElem? (i := 1250) (by decide +kernel)⟩
theorem lw_p42 : lw_okq (⟨"TowerOfTurnsModel", "look", "()V"⟩, 38) := ⟨⟨by decide +kernel, by decide +kernel⟩, List.mem_of_getElem? (i := 1011) (by decide +kernel), List.mem_of_getElem? (i := 1253) (by decide +kernel), List.mem_of_getElem? (i := 1254) (by decide +kernel)⟩
theorem lw_p43 : lw_okq (⟨"TowerOfTurnsModel", "statement", "()Z"⟩, 38) := ⟨⟨by decide +kernel, by decide +kernel⟩, List.mem_of_getElem? (i := 1011) (by decide +kernel), List.mem_of_getElem? (i := 1263) (by decide +kernel), List.mem_of_getElem? (i := 1264) (by decide +kernel)⟩
theorem lw_p44 : lw_okq (⟨"TowerOfTurnsModel", "isWord", "(Ljava/lang/String;)Z"⟩, 38) := ⟨⟨by decide +kernel, by decide +kernel⟩, List.mem_of_getElem? (i := 1011) (by decide +kernel), List.mem_of_getElem? (i := 1268) (by decide +kernel), List.mem_of_getElem? (i := 1269) (by decide +kernel)⟩
theorem lw_p45 : lw_okq (⟨"TowerOfTurnsModel", "tellsPerson", "()Z"⟩, 38) := ⟨⟨by decide +kernel, by decide +kernel⟩, List.mem_of_getElem? (i := 1011) (by decide +kernel), List.mem_of_getElem? (i := 1274) (by decide +kernel), List.mem_of_getElem? (i := 1275) (by decide +kernel)⟩
theorem lw_p46 : lw_okq (⟨"TowerOfTurnsModel", "tells", "(II)Z"⟩, 38) := ⟨⟨by decide +kernel, by decide +kernel⟩, List.mem_of_getElem? (i := 1011) (by decide +kernel), List.mem_of_getElem? (i := 1278) (by decide +kernel), List.mem_of_getElem? (i := 1279) (by decide +kernel)⟩
theorem lw_p47 : lw_okq (⟨"TowerOfTurnsModel", "number", "(III)Z"⟩, 38) := ⟨⟨by decide +kernel, by decide +kernel⟩, List.mem_of_getElem? (i := 1011) (by decide +kernel), List.mem_of_getElem? (i := 1282) (by decide +kernel), List.mem_of_getElem? (i := 1283) (by decide +kernel)⟩
def lw_privs_3 : List (MethodName × Nat) := [(⟨"TowerOfTurnsModel", "refuse", "(I)I"⟩, 38), (⟨"TowerOfTurnsModel", "noRow", "(I)I"⟩, 38), (⟨"TowerOfTurnsModel", "isPerson", "(J)Z"⟩, 38), (⟨"TowerOfTurnsModel", "tallness", "(I)I"⟩, 38), (⟨"TowerOfTurnsModel", "massOf", "(I)I"⟩, 38), (⟨"TowerOfTurnsModel", "bears", "(I)I"⟩, 38), (⟨"TowerOfTurnsModel", "addPerson", "(IIIII)V"⟩, 38), (⟨"TowerOfTurnsModel", "leastMost", "()I"⟩, 38), (⟨"TowerOfTurnsModel", "takeFrom", "(LTowerOfTurnsModel;)V"⟩, 38), (⟨"TowerOfTurnsModel", "readAll", "()Z"⟩, 38), (⟨"TowerOfTurnsModel", "look", "()V"⟩, 38), (⟨"TowerOfTurnsModel", "statement", "()Z"⟩, 38), (⟨"TowerOfTurnsModel", "isWord", "(Ljava/lang/String;)Z"⟩, 38), (⟨"TowerOfTurnsModel", "tellsPerson", "()Z"⟩, 38), (⟨"TowerOfTurnsModel", "tells", "(II)Z"⟩, 38), (⟨"TowerOfTurnsModel", "number", "(III)Z"⟩, 38)]
theorem lw_r3 : ∀ q ∈ lw_privs_3, lw_okq q := List.forall_mem_cons.mpr ⟨lw_p32, List.forall_mem_cons.mpr ⟨lw_p33, List.forall_mem_cons.mpr ⟨lw_p34, List.forall_mem_cons.mpr ⟨lw_p35, List.forall_mem_cons.mpr ⟨lw_p36, List.forall_mem_cons.mpr ⟨lw_p37, List.forall_mem_cons.mpr ⟨lw_p38, List.forall_mem_cons.mpr ⟨lw_p39, List.forall_mem_cons.mpr ⟨lw_p40, List.forall_mem_cons.mpr ⟨lw_p41, List.forall_mem_cons.mpr ⟨lw_p42, List.forall_mem_cons.mpr ⟨lw_p43, List.forall_mem_cons.mpr ⟨lw_p44, List.forall_mem_cons.mpr ⟨lw_p45, List.forall_mem_cons.mpr ⟨lw_p46, List.forall_mem_cons.mpr ⟨lw_p47, fun _ h => absurd h List.not_mem_nil⟩⟩⟩⟩⟩⟩⟩⟩⟩⟩⟩⟩⟩⟩⟩⟩
theorem lw_p48 : lw_okq (⟨"TowerOfTurnsModel", "wrong", "()Z"⟩, 38) := ⟨⟨by decide +kernel, by decide +kernel⟩, List.mem_of_getElem? (i := 1011) (by decide +kernel), List.mem_of_getElem? (i := 1286) (by decide +kernel), List.mem_of_getElem? (i := 1287) (by decide +kernel)⟩
theorem lw_p49 : lw_okq (⟨"TowerOfTurnsModel", "tellsClimb", "()Z"⟩, 38) := ⟨⟨by decide +kernel, by decide +kernel⟩, List.mem_of_getElem? (i := 1011) (by decide +kernel), List.mem_of_getElem? (i := 1291) (by decide +kernel), List.mem_of_getElem? (i := 1292) (by decide +kernel)⟩
theorem lw_p50 : lw_okq (⟨"TowerOfTurnsModel", "isIn", "(I)Z"⟩, 38) := ⟨⟨by decide +kernel, by decide +kernel⟩, List.mem_of_getElem? (i := 1011) (by decide +kernel), List.mem_of_getElem? (i := 1295) (by decide +kernel), List.mem_of_getElem? (i := 1296) (by decide +kernel)⟩
theorem lw_p51 : lw_okq (⟨"TowerOfTurnsModel", "courseOf", "(I)I"⟩, 38) := ⟨⟨by decide +kernel, by decide +kernel⟩, List.mem_of_getElem? (i := 1011) (by decide +kernel), List.mem_of_getElem? (i := 1299) (by decide +kernel), List.mem_of_getElem? (i := 1300) (by decide +kernel)⟩
theorem lw_p52 : lw_okq (⟨"TowerOfTurnsModel", "fondOf", "(II)I"⟩, 38) := ⟨⟨by decide +kernel, by decide +kernel⟩, List.mem_of_getElem? (i := 1011) (by decide +kernel), List.mem_of_getElem? (i := 1315) (by decide +kernel), List.mem_of_getElem? (i := 1316) (by decide +kernel)⟩
theorem lw_p53 : lw_okq (⟨"TowerOfTurnsModel", "loadAt", "(I)I"⟩, 38) := ⟨⟨by decide +kernel, by decide +kernel⟩, List.mem_of_getElem? (i := 1011) (by decide +kernel), List.mem_of_getElem? (i := 1331) (by decide +kernel), List.mem_of_getElem? (i := 1332) (by decide +kernel)⟩
theorem lw_p54 : lw_okq (⟨"TowerOfTurnsModel", "slackAt", "(I)I"⟩, 38) := ⟨⟨by decide +kernel, by decide +kernel⟩, List.mem_of_getElem? (i := 1011) (by decide +kernel), List.mem_of_getElem? (i := 1335) (by decide +kernel), List.mem_of_getElem? (i := 1336) (by decide +kernel)⟩
theorem lw_p55 : lw_okq (⟨"TowerOfTurnsModel", "upAt", "(I)I"⟩, 38) := ⟨⟨by decide +kernel, by decide +kernel⟩, List.mem_of_getElem? (i := 1011) (by decide +kernel), List.mem_of_getElem? (i := 1339) (by decide +kernel), List.mem_of_getElem? (i := 1340) (by decide +kernel)⟩
theorem lw_p56 : lw_okq (⟨"TowerOfTurnsModel", "crushedAt", "(I)Z"⟩, 38) := ⟨⟨by decide +kernel, by decide +kernel⟩, List.mem_of_getElem? (i := 1011) (by decide +kernel), List.mem_of_getElem? (i := 1343) (by decide +kernel), List.mem_of_getElem? (i := 1344) (by decide +kernel)⟩
theorem lw_p57 : lw_okq (⟨"TowerOfTurnsModel", "shakesAt", "(I)Z"⟩, 38) := ⟨⟨by decide +kernel, by decide +kernel⟩, List.mem_of_getElem? (i := 1011) (by decide +kernel), List.mem_of_getElem? (i := 1347) (by decide +kernel), List.mem_of_getElem? (i := 1348) (by decide +kernel)⟩
theorem lw_p58 : lw_okq (⟨"TowerOfTurnsModel", "isStanding", "()Z"⟩, 38) := ⟨⟨by decide +kernel, by decide +kernel⟩, List.mem_of_getElem? (i := 1011) (by decide +kernel), List.mem_of_getElem? (i := 1355) (by decide +kernel), List.mem_of_getElem? (i := 1356) (by decide +kernel)⟩
theorem lw_p59 : lw_okq (⟨"TowerOfTurnsModel", "weakAt", "()I"⟩, 38) := ⟨⟨by decide +kernel, by decide +kernel⟩, List.mem_of_getElem? (i := 1011) (by decide +kernel), List.mem_of_getElem? (i := 1359) (by decide +kernel), List.mem_of_getElem? (i := 1360) (by decide +kernel)⟩
theorem lw_p60 : lw_okq (⟨"TowerOfTurnsModel", "heightNow", "()I"⟩, 38) := ⟨⟨by decide +kernel, by decide +kernel⟩, List.mem_of_getElem? (i := 1011) (by decide +kernel), List.mem_of_getElem? (i := 1371) (by decide +kernel), List.mem_of_getElem? (i := 1372) (by decide +kernel)⟩
theorem lw_p61 : lw_okq (⟨"TowerOfTurnsModel", "leastAt", "()I"⟩, 38) := ⟨⟨by decide +kernel, by decide +kernel⟩, List.mem_of_getElem? (i := 1011) (by decide +kernel), List.mem_of_getElem? (i := 1395) (by decide +kernel), List.mem_of_getElem? (i := 1396) (by decide +kernel)⟩
theorem lw_p62 : lw_okq (⟨"TowerOfTurnsModel", "isSet", "(I)Z"⟩, 38) := ⟨⟨by decide +kernel, by decide +kernel⟩, List.mem_of_getElem? (i := 1011) (by decide +kernel), List.mem_of_getElem? (i := 1415) (by decide +kernel), List.mem_of_getElem? (i := 1416) (by decide +kernel)⟩
theorem lw_p63 : lw_okq (⟨"TowerOfTurnsModel", "findOrders", "(I)I"⟩, 38) := ⟨⟨by decide +kernel, by decide +kernel⟩, List.mem_of_getElem? (i := 1011) (by decide +kernel), List.mem_of_getElem? (i := 1419) (by decide +kernel), List.mem_of_getElem? (i := 1420) (by decide +kernel)⟩
def lw_privs_4 : List (MethodName × Nat) := [(⟨"TowerOfTurnsModel", "wrong", "()Z"⟩, 38), (⟨"TowerOfTurnsModel", "tellsClimb", "()Z"⟩, 38), (⟨"TowerOfTurnsModel", "isIn", "(I)Z"⟩, 38), (⟨"TowerOfTurnsModel", "courseOf", "(I)I"⟩, 38), (⟨"TowerOfTurnsModel", "fondOf", "(II)I"⟩, 38), (⟨"TowerOfTurnsModel", "loadAt", "(I)I"⟩, 38), (⟨"TowerOfTurnsModel", "slackAt", "(I)I"⟩, 38), (⟨"TowerOfTurnsModel", "upAt", "(I)I"⟩, 38), (⟨"TowerOfTurnsModel", "crushedAt", "(I)Z"⟩, 38), (⟨"TowerOfTurnsModel", "shakesAt", "(I)Z"⟩, 38), (⟨"TowerOfTurnsModel", "isStanding", "()Z"⟩, 38), (⟨"TowerOfTurnsModel", "weakAt", "()I"⟩, 38), (⟨"TowerOfTurnsModel", "heightNow", "()I"⟩, 38), (⟨"TowerOfTurnsModel", "leastAt", "()I"⟩, 38), (⟨"TowerOfTurnsModel", "isSet", "(I)Z"⟩, 38), (⟨"TowerOfTurnsModel", "findOrders", "(I)I"⟩, 38)]
theorem lw_r4 : ∀ q ∈ lw_privs_4, lw_okq q := List.forall_mem_cons.mpr ⟨lw_p48, List.forall_mem_cons.mpr ⟨lw_p49, List.forall_mem_cons.mpr ⟨lw_p50, List.forall_mem_cons.mpr ⟨lw_p51, List.forall_mem_cons.mpr ⟨lw_p52, List.forall_mem_cons.mpr ⟨lw_p53, List.forall_mem_cons.mpr ⟨lw_p54, List.forall_mem_cons.mpr ⟨lw_p55, List.forall_mem_cons.mpr ⟨lw_p56, List.forall_mem_cons.mpr ⟨lw_p57, List.forall_mem_cons.mpr ⟨lw_p58, List.forall_mem_cons.mpr ⟨lw_p59, List.forall_mem_cons.mpr ⟨lw_p60, List.forall_mem_cons.mpr ⟨lw_p61, List.forall_mem_cons.mpr ⟨lw_p62, List.forall_mem_cons.mpr ⟨lw_p63, fun _ h => absurd h List.not_mem_nil⟩⟩⟩⟩⟩⟩⟩⟩⟩⟩⟩⟩⟩⟩⟩⟩
theorem lw_p64 : lw_okq (⟨"TowerOfTurnsModel", "holds", "(III)Z"⟩, 38) := ⟨⟨by decide +kernel, by decide +kernel⟩, List.mem_of_getElem? (i := 1011) (by decide +kernel), List.mem_of_getElem? (i := 1423) (by decide +kernel), List.mem_of_getElem? (i := 1424) (by decide +kernel)⟩
theorem lw_p65 : lw_okq (⟨"TowerOfTurnsModel", "massOfSet", "(I)I"⟩, 38) := ⟨⟨by decide +kernel, by decide +kernel⟩, List.mem_of_getElem? (i := 1011) (by decide +kernel), List.mem_of_getElem? (i := 1427) (by decide +kernel), List.mem_of_getElem? (i := 1428) (by decide +kernel)⟩
theorem lw_p66 : lw_okq (⟨"TowerOfTurnsModel", "tallnessOfSet", "(I)I"⟩, 38) := ⟨⟨by decide +kernel, by decide +kernel⟩, List.mem_of_getElem? (i := 1011) (by decide +kernel), List.mem_of_getElem? (i := 1431) (by decide +kernel), List.mem_of_getElem? (i := 1432) (by decide +kernel)⟩
theorem lw_p67 : lw_okq (⟨"TowerOfTurnsModel", "mayCome", "(III)Z"⟩, 38) := ⟨⟨by decide +kernel, by decide +kernel⟩, List.mem_of_getElem? (i := 1011) (by decide +kernel), List.mem_of_getElem? (i := 1438) (by decide +kernel), List.mem_of_getElem? (i := 1439) (by decide +kernel)⟩
theorem lw_p68 : lw_okq (⟨"TowerOfTurnsModel", "topsOf", "(I)I"⟩, 38) := ⟨⟨by decide +kernel, by decide +kernel⟩, List.mem_of_getElem? (i := 1011) (by decide +kernel), List.mem_of_getElem? (i := 1446) (by decide +kernel), List.mem_of_getElem? (i := 1447) (by decide +kernel)⟩
theorem lw_p69 : lw_okq (⟨"TowerOfTurnsModel", "gladFrom", "(III)I"⟩, 38) := ⟨⟨by decide +kernel, by decide +kernel⟩, List.mem_of_getElem? (i := 1011) (by decide +kernel), List.mem_of_getElem? (i := 1458) (by decide +kernel), List.mem_of_getElem? (i := 1459) (by decide +kernel)⟩
theorem lw_p70 : lw_okq (⟨"TowerOfTurnsModel", "findBacks", "(II)I"⟩, 38) := ⟨⟨by decide +kernel, by decide +kernel⟩, List.mem_of_getElem? (i := 1011) (by decide +kernel), List.mem_of_getElem? (i := 1466) (by decide +kernel), List.mem_of_getElem? (i := 1467) (by decide +kernel)⟩
theorem lw_p71 : lw_okq (⟨"TowerOfTurnsModel", "isTold", "(IIII)Z"⟩, 38) := ⟨⟨by decide +kernel, by decide +kernel⟩, List.mem_of_getElem? (i := 1011) (by decide +kernel), List.mem_of_getElem? (i := 1470) (by decide +kernel), List.mem_of_getElem? (i := 1471) (by decide +kernel)⟩
theorem lw_p72 : lw_okq (⟨"TowerOfTurnsModel", "backTops", "(II)I"⟩, 38) := ⟨⟨by decide +kernel, by decide +kernel⟩, List.mem_of_getElem? (i := 1011) (by decide +kernel), List.mem_of_getElem? (i := 1474) (by decide +kernel), List.mem_of_getElem? (i := 1475) (by decide +kernel)⟩
theorem lw_p73 : lw_okq (⟨"TowerOfTurnsModel", "puts", "(II)V"⟩, 38) := ⟨⟨by decide +kernel, by decide +kernel⟩, List.mem_of_getElem? (i := 1011) (by decide +kernel), List.mem_of_getElem? (i := 1482) (by decide +kernel), List.mem_of_getElem? (i := 1483) (by decide +kernel)⟩
theorem lw_p74 : lw_okq (⟨"TowerOfTurnsModel", "takes", "(I)I"⟩, 38) := ⟨⟨by decide +kernel, by decide +kernel⟩, List.mem_of_getElem? (i := 1011) (by decide +kernel), List.mem_of_getElem? (i := 1486) (by decide +kernel), List.mem_of_getElem? (i := 1487) (by decide +kernel)⟩
theorem lw_p75 : lw_okq (⟨"TowerOfTurnsModel", "changes", "(II)V"⟩, 38) := ⟨⟨by decide +kernel, by decide +kernel⟩, List.mem_of_getElem? (i := 1011) (by decide +kernel), List.mem_of_getElem? (i := 1494) (by decide +kernel), List.mem_of_getElem? (i := 1495) (by decide +kernel)⟩
theorem lw_p76 : lw_okq (⟨"TowerOfTurnsModel", "galeNow", "()I"⟩, 38) := ⟨⟨by decide +kernel, by decide +kernel⟩, List.mem_of_getElem? (i := 1011) (by decide +kernel), List.mem_of_getElem? (i := 1506) (by decide +kernel), List.mem_of_getElem? (i := 1507) (by decide +kernel)⟩
theorem lw_p77 : lw_okq (⟨"TowerOfTurnsModel", "galeWith", "(I)I"⟩, 38) := ⟨⟨by decide +kernel, by decide +kernel⟩, List.mem_of_getElem? (i := 1011) (by decide +kernel), List.mem_of_getElem? (i := 1519) (by decide +kernel), List.mem_of_getElem? (i := 1520) (by decide +kernel)⟩
theorem lw_p78 : lw_okq (⟨"TowerOfTurnsModel", "standsWith", "(I)Z"⟩, 38) := ⟨⟨by decide +kernel, by decide +kernel⟩, List.mem_of_getElem? (i := 1011) (by decide +kernel), List.mem_of_getElem? (i := 1540) (by decide +kernel), List.mem_of_getElem? (i := 1541) (by decide +kernel)⟩
theorem lw_p79 : lw_okq (⟨"TowerOfTurnsModel", "turns", "()Z"⟩, 38) := ⟨⟨by decide +kernel, by decide +kernel⟩, List.mem_of_getElem? (i := 1011) (by decide +kernel), List.mem_of_getElem? (i := 1549) (by decide +kernel), List.mem_of_getElem? (i := 1550) (by decide +kernel)⟩
def lw_privs_5 : List (MethodName × Nat) := [(⟨"TowerOfTurnsModel", "holds", "(III)Z"⟩, 38), (⟨"TowerOfTurnsModel", "massOfSet", "(I)I"⟩, 38), (⟨"TowerOfTurnsModel", "tallnessOfSet", "(I)I"⟩, 38), (⟨"TowerOfTurnsModel", "mayCome", "(III)Z"⟩, 38), (⟨"TowerOfTurnsModel", "topsOf", "(I)I"⟩, 38), (⟨"TowerOfTurnsModel", "gladFrom", "(III)I"⟩, 38), (⟨"TowerOfTurnsModel", "findBacks", "(II)I"⟩, 38), (⟨"TowerOfTurnsModel", "isTold", "(IIII)Z"⟩, 38), (⟨"TowerOfTurnsModel", "backTops", "(II)I"⟩, 38), (⟨"TowerOfTurnsModel", "puts", "(II)V"⟩, 38), (⟨"TowerOfTurnsModel", "takes", "(I)I"⟩, 38), (⟨"TowerOfTurnsModel", "changes", "(II)V"⟩, 38), (⟨"TowerOfTurnsModel", "galeNow", "()I"⟩, 38), (⟨"TowerOfTurnsModel", "galeWith", "(I)I"⟩, 38), (⟨"TowerOfTurnsModel", "standsWith", "(I)Z"⟩, 38), (⟨"TowerOfTurnsModel", "turns", "()Z"⟩, 38)]
theorem lw_r5 : ∀ q ∈ lw_privs_5, lw_okq q := List.forall_mem_cons.mpr ⟨lw_p64, List.forall_mem_cons.mpr ⟨lw_p65, List.forall_mem_cons.mpr ⟨lw_p66, List.forall_mem_cons.mpr ⟨lw_p67, List.forall_mem_cons.mpr ⟨lw_p68, List.forall_mem_cons.mpr ⟨lw_p69, List.forall_mem_cons.mpr ⟨lw_p70, List.forall_mem_cons.mpr ⟨lw_p71, List.forall_mem_cons.mpr ⟨lw_p72, List.forall_mem_cons.mpr ⟨lw_p73, List.forall_mem_cons.mpr ⟨lw_p74, List.forall_mem_cons.mpr ⟨lw_p75, List.forall_mem_cons.mpr ⟨lw_p76, List.forall_mem_cons.mpr ⟨lw_p77, List.forall_mem_cons.mpr ⟨lw_p78, List.forall_mem_cons.mpr ⟨lw_p79, fun _ h => absurd h List.not_mem_nil⟩⟩⟩⟩⟩⟩⟩⟩⟩⟩⟩⟩⟩⟩⟩⟩
theorem lw_p80 : lw_okq (⟨"TowerOfTurnsModel", "nextNow", "()I"⟩, 38) := ⟨⟨by decide +kernel, by decide +kernel⟩, List.mem_of_getElem? (i := 1011) (by decide +kernel), List.mem_of_getElem? (i := 1553) (by decide +kernel), List.mem_of_getElem? (i := 1554) (by decide +kernel)⟩
theorem lw_p81 : lw_okq (⟨"TowerOfTurnsModel", "footComesOut", "()Z"⟩, 38) := ⟨⟨by decide +kernel, by decide +kernel⟩, List.mem_of_getElem? (i := 1011) (by decide +kernel), List.mem_of_getElem? (i := 1557) (by decide +kernel), List.mem_of_getElem? (i := 1558) (by decide +kernel)⟩
theorem lw_p82 : lw_okq (⟨"TowerOfTurnsModel", "falls", "()Z"⟩, 38) := ⟨⟨by decide +kernel, by decide +kernel⟩, List.mem_of_getElem? (i := 1011) (by decide +kernel), List.mem_of_getElem? (i := 1561) (by decide +kernel), List.mem_of_getElem? (i := 1562) (by decide +kernel)⟩
theorem lw_p83 : lw_okq (⟨"TowerOfTurnsModel", "noClimb", "(II)I"⟩, 38) := ⟨⟨by decide +kernel, by decide +kernel⟩, List.mem_of_getElem? (i := 1011) (by decide +kernel), List.mem_of_getElem? (i := 1574) (by decide +kernel), List.mem_of_getElem? (i := 1575) (by decide +kernel)⟩
theorem lw_p84 : lw_okq (⟨"TowerOfTurnsModel", "climbs", "(II)V"⟩, 38) := ⟨⟨by decide +kernel, by decide +kernel⟩, List.mem_of_getElem? (i := 1011) (by decide +kernel), List.mem_of_getElem? (i := 1578) (by decide +kernel), List.mem_of_getElem? (i := 1579) (by decide +kernel)⟩
theorem lw_p85 : lw_okq (⟨"TowerOfTurnsModel", "noDays", "(I)I"⟩, 38) := ⟨⟨by decide +kernel, by decide +kernel⟩, List.mem_of_getElem? (i := 1011) (by decide +kernel), List.mem_of_getElem? (i := 1598) (by decide +kernel), List.mem_of_getElem? (i := 1599) (by decide +kernel)⟩
theorem lw_p86 : lw_okq (⟨"TowerOfTurnsModel", "below", "(I)I"⟩, 38) := ⟨⟨by decide +kernel, by decide +kernel⟩, List.mem_of_getElem? (i := 1011) (by decide +kernel), List.mem_of_getElem? (i := 1606) (by decide +kernel), List.mem_of_getElem? (i := 1607) (by decide +kernel)⟩
def lw_privs_6 : List (MethodName × Nat) := [(⟨"TowerOfTurnsModel", "nextNow", "()I"⟩, 38), (⟨"TowerOfTurnsModel", "footComesOut", "()Z"⟩, 38), (⟨"TowerOfTurnsModel", "falls", "()Z"⟩, 38), (⟨"TowerOfTurnsModel", "noClimb", "(II)I"⟩, 38), (⟨"TowerOfTurnsModel", "climbs", "(II)V"⟩, 38), (⟨"TowerOfTurnsModel", "noDays", "(I)I"⟩, 38), (⟨"TowerOfTurnsModel", "below", "(I)I"⟩, 38)]
theorem lw_r6 : ∀ q ∈ lw_privs_6, lw_okq q := List.forall_mem_cons.mpr ⟨lw_p80, List.forall_mem_cons.mpr ⟨lw_p81, List.forall_mem_cons.mpr ⟨lw_p82, List.forall_mem_cons.mpr ⟨lw_p83, List.forall_mem_cons.mpr ⟨lw_p84, List.forall_mem_cons.mpr ⟨lw_p85, List.forall_mem_cons.mpr ⟨lw_p86, fun _ h => absurd h List.not_mem_nil⟩⟩⟩⟩⟩⟩⟩
def lw_privs : List (MethodName × Nat) := lw_privs_1 ++ (lw_privs_2 ++ (lw_privs_3 ++ (lw_privs_4 ++ (lw_privs_5 ++ (lw_privs_6)))))
def lw_tbl : List Cond := k2_sels lw_privs ++ tables_1
theorem lw_privs_ok : ∀ q ∈ lw_privs, lw_okq q := by
  show ∀ q ∈ lw_privs_1 ++ (lw_privs_2 ++ (lw_privs_3 ++ (lw_privs_4 ++ (lw_privs_5 ++ (lw_privs_6))))), lw_okq q
  exact List.forall_mem_append.mpr ⟨lw_r1, List.forall_mem_append.mpr ⟨lw_r2, List.forall_mem_append.mpr ⟨lw_r3, List.forall_mem_append.mpr ⟨lw_r4, List.forall_mem_append.mpr ⟨lw_r5, lw_r6⟩⟩⟩⟩⟩
-- ===== names (printed by program: claim/NAMES) =====
/-! ===== BEGIN words of one list among another's, by their places ===== -/
theorem goodIn_r {big : List Cond} (ws : List Cond) (ps : List Nat) (hp : ws = ps.filterMap (fun i => big[i]?)) (h : ws.all goodWord = true) : GoodIn big ws := by
  intro w hw
  have h1 := List.all_eq_true.mp h w hw
  rw [hp] at hw
  obtain ⟨i, -, hi⟩ := List.mem_filterMap.mp hw
  have hm : w ∈ big := by first | exact List.mem_of_getElem? hi | exact List.getElem?_mem hi
  exact ⟨hm, good_of_word h1⟩
theorem goodIn_app {big a b : List Cond} (ha : GoodIn big a) (hb : GoodIn big b) : GoodIn big (a ++ b) := fun w h => (List.mem_append.mp h).elim (ha w) (hb w)
theorem goodIn_ca {big a b : List Cond} {c : Cond} (ha : GoodIn big (c :: a)) (hb : GoodIn big b) : GoodIn big (c :: (a ++ b)) := fun w h => (List.mem_cons.mp h).elim (fun e => ha w (List.mem_cons.mpr (Or.inl e))) (fun h => (List.mem_append.mp h).elim (fun h => ha w (List.mem_cons.mpr (Or.inr h))) (hb w))
theorem goodIn_sub {big ws : List Cond} (hm : ∀ w ∈ ws, w ∈ big) (h : ws.all goodWord = true) : GoodIn big ws := fun w hw => ⟨hm w hw, good_of_word (List.all_eq_true.mp h w hw)⟩
/-! ===== END ===== -/

/-! ===== BEGIN new T[n][m]: the outer array a place, the inner ones among the pooled ===== -/
/-- f, but v at every address of l -/
def vr_up {α : Type} (f : Nat → α) (l : List Nat) (v : α) : Nat → α := fun a => if a ∈ l then v else f a
theorem vr_up_in {α : Type} {f : Nat → α} {l : List Nat} {v : α} {a : Nat} (h : a ∈ l) : vr_up f l v a = v := if_pos h
theorem vr_up_ne {α : Type} {f : Nat → α} {l : List Nat} {v : α} {a : Nat} (h : a ∉ l) : vr_up f l v a = f a := if_neg h
theorem vr_rows {L l : List Nat} {f : Nat → va_E} {e : va_E} (h : ∀ a, a ∈ l → a ∉ L) : va_pl L f ++ l.map (fun a => (a, e)) = va_pl (L ++ l) (vr_up f l e) := by
  unfold va_pl
  rw [List.map_append]
  congr 1
  · apply List.map_congr_left
    intro a ha
    rw [vr_up_ne (fun q => h a q ha)]
  · apply List.map_congr_left
    intro a ha
    rw [vr_up_in ha]
theorem vr_lay {X rows : va_W} {x : Nat × va_E} {pl : va_W} {D : va_G} {cl : List vw_C} {H : Heap} (hP : va_P D cl (((X ++ pl) ++ [x]) ++ rows) H) : va_P D cl ((X ++ [x]) ++ (pl ++ rows)) H := by
  rw [List.append_assoc (X ++ pl)] at hP
  have h := va_P.swap hP
  rw [← List.append_assoc X] at h
  have h2 := va_P.swap h
  rw [List.append_assoc (X ++ [x])] at h2
  exact h2
theorem vr_layD {X rows : va_W} {x : Nat × va_E} {pl : va_W} {A : Nat → Prop} (hD : va_D A (((X ++ pl) ++ [x]) ++ rows)) : va_D A ((X ++ [x]) ++ (pl ++ rows)) := by
  rw [List.append_assoc (X ++ pl)] at hD
  have h := va_D.swap hD
  rw [← List.append_assoc X] at h
  have h2 := va_D.swap h
  rw [List.append_assoc (X ++ [x])] at h2
  exact h2
theorem vr_outer (c : ClassId) (N h0 : Nat) : ∀ i : Nat, Jvm.Free.Multi.outerC c N h0 i = arrV c N (fun j => va_rf (if j < i then some (h0 + 1 + j) else none))
  | 0 => by
    show ({ cls := c, slots := Array.replicate N .null, vm := .none } : Cell) = _
    rw [arrV_new]
    refine congrArg (arrV c N) (funext fun j => ?_)
    simp [va_rf]
  | i + 1 => by
    show (Jvm.Free.Multi.outerC c N h0 i).setSlot i (.ref (h0 + 1 + i)) = _
    rw [vr_outer c N h0 i, arrV_store]
    refine congrArg (arrV c N) (funext fun j => ?_)
    by_cases e : j = i
    · subst e
      simp [updV, va_rf]
    · by_cases h : j < i
      · simp [updV, e, h, Nat.lt_succ_of_lt h]
      · simp [updV, e, h, show ¬ j < i + 1 by omega]
section VGM
variable {p : Program} {l : Launch} {e : Env} {R : Room} {s : State} {m : MethodId} {args : Array Value} {below : List Frame} {meth : Method} {c : Code} {H : Heap} {locs : List Loc} {cells slots : Nat} {Q : State → Prop}
variable {cc : ByteArray} {pc : Nat} {ls : Array Slot} {rest : List Value} {D : va_G} {cl : List vw_C} {A : Nat → Prop} {a : Nat} {tys : List (ClassId × FieldType)} {ws : va_W} {H0 : Heap}
theorem va_mna {X : va_W} {L : List Nat} {f : Nat → va_E} {cc : ByteArray} (hexec : p.tables.exec = Jvm.exec) (hb : c.code = cc) {own : String} {index : Nat} {ty : FieldType} {cy : ClassId} (hown : s.vm.findClass own = some m.cls) (hclink : (Cond.classLink own index ("[" ++ (FieldType.array ty).toString)).before args s = true) (hover : va_AOA ty s) (harr : (Cond.arrayClass ty).before args s = true) (hcy : s.vm.findClass (FieldType.array ty).toString = some cy)
    (hK : va_K D cl tys s) (hP : va_P D cl (X ++ va_pl L f) H) (hD : va_D A (X ++ va_pl L f)) (hS : va_S A H0 H locs) (hA : ∀ q, H0.size ≤ q → A q) {n k : Int32} {N' K' : Nat} {z : vp_A} (hn : ¬ n < 0) (hk : ¬ k < 0) (hN : n.toNatClampNeg = N') (hM : k.toNatClampNeg = K')
    (hb1 : N' * 4 ≤ 536870912) (hb2 : K' * componentBytes ty ≤ 536870912) (hb3 : K' ≤ 536870912) (hdf : fits ty (defaultValue ty) = true) (hdd : (defaultValue ty).isDefault = true) (hcells : cells + (1 + N') ≤ R.cells) (hslots : slots + (N' + N' * K') ≤ R.slots) (hz : ∀ c : ClassId, Jvm.Free.Multi.innerC c K' (defaultValue ty) = vp_cell c z) (hdg : decode cc pc = .ok (.multianewarray index 2, 4))
    (kk : ∀ (q : Nat) (r : Nat → Nat) (cA : ClassId) (H1 : Heap), (∀ i j : Nat, i < N' → j < N' → r i = r j → i = j) → (∀ i : Nat, i < N' → r i ∉ L) → va_K D cl (tys ++ [(cA, .array ty)]) s →
      va_P D cl ((X ++ [(q, .inl (cA, N', .inr (.inr (.inr (.inr (fun i => if i < N' then some (r i) else none))))))]) ++ va_pl (L ++ (List.range N').map r) (vr_up f ((List.range N').map r) (.inl (cy, z)))) H1 → va_D A ((X ++ [(q, .inl (cA, N', .inr (.inr (.inr (.inr (fun i => if i < N' then some (r i) else none))))))]) ++ va_pl (L ++ (List.range N').map r) (vr_up f ((List.range N').map r) (.inl (cy, z)))) → va_S A H0 H1 locs →
      W p l e R s m args below meth c H1 locs (cells + 1 + N') (slots + N' + N' * K') Q (F0 m (pc + 4) ls (.ref q :: rest))) : W p l e R s m args below meth c H locs cells slots Q (F0 m pc ls (.int k :: .int n :: rest)) := by
  subst hN
  subst hM
  intro T hT Xs
  obtain ⟨vm₁, cA, comp, -, fA, fC, hO, -, X', step⟩ := Xs.multianewarray2F hexec hown hclink (va_AOA.use hover) harr (g := F0 m pc ls (.int k :: .int n :: rest)) rfl (by rw [hb]; exact hdg) rfl hn hk hb1 hb2 hb3 hdf hdd hcells hslots
  have ec : some cy = some comp := hcy.symm.trans fC
  cases ec
  generalize hF : Jvm.Free.Multi.fill (T.setVm vm₁) cA cy n.toNatClampNeg k.toNatClampNeg (defaultValue ty) n.toNatClampNeg = F at X' step
  have hTh : (T.setVm vm₁).heap = H := hT
  obtain ⟨f1, f2, -, -⟩ := Jvm.Free.Multi.fill_facts (T.setVm vm₁) cA cy n.toNatClampNeg k.toNatClampNeg (defaultValue ty) n.toNatClampNeg
  rw [hF, hTh] at f1 f2
  have hold : ∀ x : Nat, x < H.size → F.heap[x]? = H[x]? := fun x hx => by
    have := Jvm.Free.Multi.fill_old (T.setVm vm₁) cA cy n.toNatClampNeg k.toNatClampNeg (defaultValue ty) (a := x) (by rw [hTh]; exact hx) n.toNatClampNeg
    rw [hF, hTh] at this
    exact this
  have hrow : ∀ j : Nat, j < n.toNatClampNeg → F.heap[H.size + 1 + j]? = some (vp_cell cy z) := fun j hj => by
    have := Jvm.Free.Multi.fill_inner (T.setVm vm₁) cA cy n.toNatClampNeg k.toNatClampNeg (defaultValue ty) n.toNatClampNeg j hj
    rw [hF, hTh, hz] at this
    exact this
  have hout : Jvm.Free.Multi.outerC cA n.toNatClampNeg H.size n.toNatClampNeg = vp_cell cA (n.toNatClampNeg, .inr (.inr (.inr (.inr (fun i => if i < n.toNatClampNeg then some (H.size + 1 + i) else none))))) := by
    rw [vp_cell_q]
    exact vr_outer cA n.toNatClampNeg H.size n.toNatClampNeg
  rw [hout] at f2
  have hlt : ∀ a, a ∈ L → a < H.size := fun a ha => by
    obtain ⟨k9, hk9⟩ := va_pl_get (X := X) (f := f) ha
    exact (hP k9 _ hk9).lt
  have hnl : ∀ i : Nat, i < n.toNatClampNeg → H.size + 1 + i ∉ L := fun i _ h => by
    have := hlt _ h
    omega
  have hnm : ∀ a, a ∈ (List.range n.toNatClampNeg).map (fun i => H.size + 1 + i) → a ∉ L := fun a ha h => by
    obtain ⟨i, -, rfl⟩ := List.mem_map.mp ha
    have := hlt _ h
    omega
  have hP0 : va_P D cl (X ++ va_pl L f) F.heap := hP.kept (fun k9 x hx => hold x.1 ((hP k9 x hx).lt))
  have hP1 : va_P D cl ((X ++ va_pl L f) ++ [(H.size, .inl (cA, n.toNatClampNeg, .inr (.inr (.inr (.inr (fun i => if i < n.toNatClampNeg then some (H.size + 1 + i) else none))))))]) F.heap := hP0.app (fun k9 x hx => by
    have h0 : k9 < 1 := (List.getElem?_eq_some_iff.mp hx).1
    rw [show k9 = 0 by omega] at hx
    cases hx
    exact f2)
  have hP2 : va_P D cl (((X ++ va_pl L f) ++ [(H.size, .inl (cA, n.toNatClampNeg, .inr (.inr (.inr (.inr (fun i => if i < n.toNatClampNeg then some (H.size + 1 + i) else none))))))]) ++ ((List.range n.toNatClampNeg).map (fun i => H.size + 1 + i)).map (fun a => (a, .inl (cy, z)))) F.heap := hP1.app (fun k9 x hx => by
    obtain ⟨a, ha, rfl⟩ := List.mem_map.mp (List.mem_of_getElem? hx)
    obtain ⟨i, hi, rfl⟩ := List.mem_map.mp ha
    exact hrow i (List.mem_range.mp hi))
  have hD2 : va_D A (((X ++ va_pl L f) ++ [(H.size, .inl (cA, n.toNatClampNeg, .inr (.inr (.inr (.inr (fun i => if i < n.toNatClampNeg then some (H.size + 1 + i) else none))))))]) ++ ((List.range n.toNatClampNeg).map (fun i => H.size + 1 + i)).map (fun a => (a, .inl (cy, z)))) := by
    have hD1 := hD.push (e := .inl (cA, n.toNatClampNeg, .inr (.inr (.inr (.inr (fun i => if i < n.toNatClampNeg then some (H.size + 1 + i) else none)))))) hP rfl (hA _ hS.1)
    generalize hW1 : (X ++ va_pl L f) ++ [(H.size, .inl (cA, n.toNatClampNeg, .inr (.inr (.inr (.inr (fun i => if i < n.toNatClampNeg then some (H.size + 1 + i) else none))))))] = W1 at hD1 hP1 ⊢
    have hle : ∀ (k9 : Nat) (x : Nat × va_E), W1[k9]? = some x → x.1 ≤ H.size := fun k9 x hx => by
      rw [← hW1] at hx
      by_cases hl : k9 < (X ++ va_pl L f).length
      · rw [List.getElem?_append_left hl] at hx
        exact Nat.le_of_lt ((hP k9 x hx).lt)
      · rw [List.getElem?_append_right (by omega)] at hx
        have h0 : k9 - (X ++ va_pl L f).length < 1 := (List.getElem?_eq_some_iff.mp hx).1
        rw [show k9 - (X ++ va_pl L f).length = 0 by omega] at hx
        cases hx
        exact Nat.le_refl _
    have hr : ∀ (k9 : Nat) (x : Nat × va_E), (((List.range n.toNatClampNeg).map (fun i => H.size + 1 + i)).map (fun a => ((a, .inl (cy, z)) : Nat × va_E)))[k9]? = some x → x.1 = H.size + 1 + k9 := fun k9 x hx => by
      rw [List.getElem?_map, List.getElem?_map] at hx
      by_cases h9 : k9 < n.toNatClampNeg
      · rw [List.getElem?_range h9] at hx
        cases hx
        rfl
      · have hn0 : (List.range n.toNatClampNeg)[k9]? = none := List.getElem?_eq_none (by rw [List.length_range]; omega)
        rw [hn0] at hx
        cases hx
    refine ⟨fun i j x y hi hj hxy => ?_, fun k9 x hx => ?_⟩
    · by_cases h1 : i < W1.length <;> by_cases h2 : j < W1.length
      · rw [List.getElem?_append_left h1] at hi
        rw [List.getElem?_append_left h2] at hj
        exact hD1.1 i j x y hi hj hxy
      · rw [List.getElem?_append_left h1] at hi
        rw [List.getElem?_append_right (by omega)] at hj
        have := hle _ _ hi
        have := hr _ _ hj
        omega
      · rw [List.getElem?_append_right (by omega)] at hi
        rw [List.getElem?_append_left h2] at hj
        have := hle _ _ hj
        have := hr _ _ hi
        omega
      · rw [List.getElem?_append_right (by omega)] at hi hj
        have := hr _ _ hi
        have := hr _ _ hj
        omega
    · by_cases h1 : k9 < W1.length
      · rw [List.getElem?_append_left h1] at hx
        exact hD1.2 k9 x hx
      · rw [List.getElem?_append_right (by omega)] at hx
        have := hr _ _ hx
        exact hA _ (by have := hS.1; omega)
  have hAr : ArrOfT s cA (.array ty) := fun N9 z9 => by
    obtain ⟨-, k9, hk9, cm9, hkk9⟩ := (hO 0 0 0).1
    exact ⟨(fun q hq => by cases hq), k9, hk9, cm9, hkk9⟩
  have hK2 : va_K D cl (tys ++ [(cA, .array ty)]) s := ⟨hK.1, fun k9 x hx => by
    by_cases hl : k9 < tys.length
    · rw [List.getElem?_append_left hl] at hx
      exact hK.2 k9 x hx
    · rw [List.getElem?_append_right (by omega)] at hx
      have h0 : k9 - tys.length < 1 := (List.getElem?_eq_some_iff.mp hx).1
      rw [show k9 - tys.length = 0 by omega] at hx
      cases hx
      exact ⟨hAr, fA⟩⟩
  obtain ⟨t, a1, b1⟩ := kk H.size (fun i => H.size + 1 + i) cA F.heap (fun i j _ _ h => by have h9 : H.size + 1 + i = H.size + 1 + j := h; omega) hnl hK2 (by rw [← vr_rows hnm]; exact vr_lay hP2) (by rw [← vr_rows hnm]; exact vr_layD hD2) ⟨by rw [f1]; have := hS.1; omega, fun x h1 h2 => (hold x (Nat.lt_of_lt_of_le h1 hS.1)).trans (hS.2.1 x h1 h2), hS.2.2⟩ F rfl X'
  refine ⟨t, step t ?_, b1⟩
  have e : T.heap.size = H.size := by rw [hT]
  rw [e]
  exact a1
end VGM
/-! ===== END ===== -/

/-! ===== BEGIN printed: names, fields, word lists, decode rows ===== -/
def RX0 : String := "TowerOfTurns$Crowd"
def TX0 : u_T := fun k => match k with
  | 0 => ("TowerOfTurns$Crowd", "facts", "[I", true)
  | _ => ("TowerOfTurns$Crowd", "count", "I", false)
def tyX0 : Nat → FieldType := fun k => match k with
  | 0 => .array .int
  | _ => .int
abbrev wsX00 : List Cond := u_ws RX0 TX0 2
theorem nmX0 : ∀ a, a < 2 → ∀ b, b < 2 → a ≠ b → (TX0 a).2.1 ≠ (TX0 b).2.1 := by decide +kernel
theorem tyX0_ok : ∀ k, k < 2 → parseFieldDescriptor (TX0 k).2.2.1 = some (tyX0 k) := by decide +kernel
abbrev cX0_init : ByteArray := prog_2_method_1_code
def yX0_init : MethodName := ⟨RX0, "<init>", "()V"⟩
abbrev cX0_has : ByteArray := prog_2_method_2_code
def yX0_has : MethodName := ⟨RX0, "has", "(I)Z"⟩
abbrev cX0_isFull : ByteArray := prog_2_method_3_code
def yX0_isFull : MethodName := ⟨RX0, "isFull", "()Z"⟩
abbrev cX0_fact : ByteArray := prog_2_method_4_code
def yX0_fact : MethodName := ⟨RX0, "fact", "(II)I"⟩
abbrev cX0_changeTrait : ByteArray := prog_2_method_5_code
def yX0_changeTrait : MethodName := ⟨RX0, "changeTrait", "(III)V"⟩
abbrev cX0_join : ByteArray := prog_2_method_6_code
def yX0_join : MethodName := ⟨RX0, "join", "(IIIII)I"⟩
abbrev cX0_measure : ByteArray := prog_2_method_7_code
def yX0_measure : MethodName := ⟨RX0, "measure", "(I)V"⟩
abbrev cX0_massBy : ByteArray := prog_2_method_8_code
def yX0_massBy : MethodName := ⟨RX0, "massBy", "(III)I"⟩
abbrev cX0_bearsBy : ByteArray := prog_2_method_9_code
def yX0_bearsBy : MethodName := ⟨RX0, "bearsBy", "(III)I"⟩
abbrev cX0_tallnessBy : ByteArray := prog_2_method_10_code
def yX0_tallnessBy : MethodName := ⟨RX0, "tallnessBy", "(II)I"⟩
abbrev cX0_sayingAs : ByteArray := prog_2_method_11_code
def yX0_sayingAs : MethodName := ⟨RX0, "sayingAs", "(II)I"⟩
abbrev cX0_fondness : ByteArray := prog_2_method_12_code
def yX0_fondness : MethodName := ⟨RX0, "fondness", "(II)I"⟩
abbrev cX0_takeFrom : ByteArray := prog_2_method_13_code
def yX0_takeFrom : MethodName := ⟨RX0, "takeFrom", "(LTowerOfTurns$Crowd;)V"⟩
def RX1 : String := "TowerOfTurns$Lineups"
def TX1 : u_T := fun k => match k with
  | 0 => ("TowerOfTurns$Lineups", "crowd", "LTowerOfTurns$Crowd;", true)
  | 1 => ("TowerOfTurns$Lineups", "masses", "[I", true)
  | 2 => ("TowerOfTurns$Lineups", "heights", "[I", true)
  | 3 => ("TowerOfTurns$Lineups", "fits", "[I", true)
  | 4 => ("TowerOfTurns$Lineups", "ways", "[I", true)
  | 5 => ("TowerOfTurns$Lineups", "lasts", "[I", true)
  | 6 => ("TowerOfTurns$Lineups", "joys", "[I", true)
  | _ => ("TowerOfTurns$Lineups", "whole", "I", false)
def tyX1 : Nat → FieldType := fun k => match k with
  | 0 => .object "TowerOfTurns$Crowd"
  | 1 => .array .int
  | 2 => .array .int
  | 3 => .array .int
  | 4 => .array .int
  | 5 => .array .int
  | 6 => .array .int
  | _ => .int
abbrev wsX10 : List Cond := u_ws RX1 TX1 8
theorem nmX1 : ∀ a, a < 8 → ∀ b, b < 8 → a ≠ b → (TX1 a).2.1 ≠ (TX1 b).2.1 := by decide +kernel
theorem tyX1_ok : ∀ k, k < 8 → parseFieldDescriptor (TX1 k).2.2.1 = some (tyX1 k) := by decide +kernel
abbrev cX1_init : ByteArray := prog_3_method_1_code
def yX1_init : MethodName := ⟨RX1, "<init>", "(LTowerOfTurns$Crowd;)V"⟩
abbrev cX1_letStand : ByteArray := prog_3_method_2_code
def yX1_letStand : MethodName := ⟨RX1, "letStand", "(II)V"⟩
abbrev cX1_letLoadsBe : ByteArray := prog_3_method_3_code
def yX1_letLoadsBe : MethodName := ⟨RX1, "letLoadsBe", "(ILTowerOfTurns$Row;)V"⟩
abbrev cX1_count : ByteArray := prog_3_method_4_code
def yX1_count : MethodName := ⟨RX1, "count", "()I"⟩
abbrev cX1_heightOf : ByteArray := prog_3_method_5_code
def yX1_heightOf : MethodName := ⟨RX1, "heightOf", "(I)I"⟩
abbrev cX1_highestSet : ByteArray := prog_3_method_6_code
def yX1_highestSet : MethodName := ⟨RX1, "highestSet", "(II)I"⟩
abbrev cX1_inFirst : ByteArray := prog_3_method_7_code
def yX1_inFirst : MethodName := ⟨RX1, "inFirst", "(I)I"⟩
abbrev cX1_feet : ByteArray := prog_3_method_8_code
def yX1_feet : MethodName := ⟨RX1, "feet", "()I"⟩
abbrev cX1_heads : ByteArray := prog_3_method_9_code
def yX1_heads : MethodName := ⟨RX1, "heads", "()I"⟩
abbrev cX1_greatestJoy : ByteArray := prog_3_method_10_code
def yX1_greatestJoy : MethodName := ⟨RX1, "greatestJoy", "()I"⟩
abbrev cX1_measureSets : ByteArray := prog_3_method_11_code
def yX1_measureSets : MethodName := ⟨RX1, "measureSets", "()V"⟩
abbrev cX1_explore : ByteArray := prog_3_method_12_code
def yX1_explore : MethodName := ⟨RX1, "explore", "(IILTowerOfTurns$Row;)V"⟩
abbrev cX1_whoStands : ByteArray := prog_3_method_13_code
def yX1_whoStands : MethodName := ⟨RX1, "whoStands", "(II)I"⟩
abbrev cX1_whoBears : ByteArray := prog_3_method_14_code
def yX1_whoBears : MethodName := ⟨RX1, "whoBears", "(ILTowerOfTurns$Row;)I"⟩
abbrev cX1_reachFrom : ByteArray := prog_3_method_15_code
def yX1_reachFrom : MethodName := ⟨RX1, "reachFrom", "(I)V"⟩
abbrev cX1_countFrom : ByteArray := prog_3_method_16_code
def yX1_countFrom : MethodName := ⟨RX1, "countFrom", "(I)V"⟩
abbrev cX1_leadsOn : ByteArray := prog_3_method_17_code
def yX1_leadsOn : MethodName := ⟨RX1, "leadsOn", "(II)Z"⟩
abbrev cX1_firstOn : ByteArray := prog_3_method_18_code
def yX1_firstOn : MethodName := ⟨RX1, "firstOn", "(I)I"⟩
abbrev cX1_joyOf : ByteArray := prog_3_method_19_code
def yX1_joyOf : MethodName := ⟨RX1, "joyOf", "(II)I"⟩
abbrev cX1_fillJoys : ByteArray := prog_3_method_20_code
def yX1_fillJoys : MethodName := ⟨RX1, "fillJoys", "(I)V"⟩
def RX2 : String := "TowerOfTurns$Pile"
def TX2 : u_T := fun k => match k with
  | 0 => ("TowerOfTurns$Pile", "crowd", "LTowerOfTurns$Crowd;", true)
  | 1 => ("TowerOfTurns$Pile", "order", "[I", true)
  | _ => ("TowerOfTurns$Pile", "size", "I", false)
def tyX2 : Nat → FieldType := fun k => match k with
  | 0 => .object "TowerOfTurns$Crowd"
  | 1 => .array .int
  | _ => .int
abbrev wsX20 : List Cond := u_ws RX2 TX2 3
theorem nmX2 : ∀ a, a < 3 → ∀ b, b < 3 → a ≠ b → (TX2 a).2.1 ≠ (TX2 b).2.1 := by decide +kernel
theorem tyX2_ok : ∀ k, k < 3 → parseFieldDescriptor (TX2 k).2.2.1 = some (tyX2 k) := by decide +kernel
abbrev cX2_init : ByteArray := prog_4_method_1_code
def yX2_init : MethodName := ⟨RX2, "<init>", "(LTowerOfTurns$Crowd;)V"⟩
abbrev cX2_takeFrom : ByteArray := prog_4_method_2_code
def yX2_takeFrom : MethodName := ⟨RX2, "takeFrom", "(LTowerOfTurns$Pile;)V"⟩
abbrev cX2_clear : ByteArray := prog_4_method_3_code
def yX2_clear : MethodName := ⟨RX2, "clear", "()V"⟩
abbrev cX2_onCourse : ByteArray := prog_4_method_4_code
def yX2_onCourse : MethodName := ⟨RX2, "onCourse", "(I)I"⟩
abbrev cX2_courseOf : ByteArray := prog_4_method_5_code
def yX2_courseOf : MethodName := ⟨RX2, "courseOf", "(I)I"⟩
abbrev cX2_isIn : ByteArray := prog_4_method_6_code
def yX2_isIn : MethodName := ⟨RX2, "isIn", "(I)Z"⟩
abbrev cX2_head : ByteArray := prog_4_method_7_code
def yX2_head : MethodName := ⟨RX2, "head", "()I"⟩
abbrev cX2_bits : ByteArray := prog_4_method_8_code
def yX2_bits : MethodName := ⟨RX2, "bits", "()I"⟩
abbrev cX2_push : ByteArray := prog_4_method_9_code
def yX2_push : MethodName := ⟨RX2, "push", "(I)V"⟩
abbrev cX2_insert : ByteArray := prog_4_method_10_code
def yX2_insert : MethodName := ⟨RX2, "insert", "(II)V"⟩
abbrev cX2_removeAt : ByteArray := prog_4_method_11_code
def yX2_removeAt : MethodName := ⟨RX2, "removeAt", "(I)V"⟩
abbrev cX2_swap : ByteArray := prog_4_method_12_code
def yX2_swap : MethodName := ⟨RX2, "swap", "(II)V"⟩
abbrev cX2_loadAt : ByteArray := prog_4_method_13_code
def yX2_loadAt : MethodName := ⟨RX2, "loadAt", "(I)I"⟩
abbrev cX2_upAt : ByteArray := prog_4_method_14_code
def yX2_upAt : MethodName := ⟨RX2, "upAt", "(I)I"⟩
abbrev cX2_tallnessOfAll : ByteArray := prog_4_method_15_code
def yX2_tallnessOfAll : MethodName := ⟨RX2, "tallnessOfAll", "()I"⟩
abbrev cX2_slackAt : ByteArray := prog_4_method_16_code
def yX2_slackAt : MethodName := ⟨RX2, "slackAt", "(I)I"⟩
abbrev cX2_isCrushed : ByteArray := prog_4_method_17_code
def yX2_isCrushed : MethodName := ⟨RX2, "isCrushed", "(I)Z"⟩
abbrev cX2_isShaken : ByteArray := prog_4_method_18_code
def yX2_isShaken : MethodName := ⟨RX2, "isShaken", "(II)Z"⟩
abbrev cX2_weakCourse : ByteArray := prog_4_method_19_code
def yX2_weakCourse : MethodName := ⟨RX2, "weakCourse", "(I)I"⟩
abbrev cX2_isFirm : ByteArray := prog_4_method_20_code
def yX2_isFirm : MethodName := ⟨RX2, "isFirm", "(I)Z"⟩
abbrev cX2_greatestWind : ByteArray := prog_4_method_21_code
def yX2_greatestWind : MethodName := ⟨RX2, "greatestWind", "()I"⟩
abbrev cX2_crushedBits : ByteArray := prog_4_method_22_code
def yX2_crushedBits : MethodName := ⟨RX2, "crushedBits", "()I"⟩
abbrev cX2_shakenBits : ByteArray := prog_4_method_23_code
def yX2_shakenBits : MethodName := ⟨RX2, "shakenBits", "(I)I"⟩
abbrev cX2_leastCourse : ByteArray := prog_4_method_24_code
def yX2_leastCourse : MethodName := ⟨RX2, "leastCourse", "()I"⟩
abbrev cX2_leastSlack : ByteArray := prog_4_method_25_code
def yX2_leastSlack : MethodName := ⟨RX2, "leastSlack", "()I"⟩
abbrev cX2_makeRoom : ByteArray := prog_4_method_26_code
def yX2_makeRoom : MethodName := ⟨RX2, "makeRoom", "(I)V"⟩
abbrev cX2_firstBehindHead : ByteArray := prog_4_method_27_code
def yX2_firstBehindHead : MethodName := ⟨RX2, "firstBehindHead", "()I"⟩
abbrev cX2_fellByTurn : ByteArray := prog_4_method_28_code
def yX2_fellByTurn : MethodName := ⟨RX2, "fellByTurn", "(II)Z"⟩
def RX3 : String := "TowerOfTurns$Reader"
def TX3 : u_T := fun k => match k with
  | 0 => ("TowerOfTurns$Reader", "tape", "LTowerOfTurns$Tape;", true)
  | 1 => ("TowerOfTurns$Reader", "told", "[I", true)
  | 2 => ("TowerOfTurns$Reader", "token", "I", false)
  | 3 => ("TowerOfTurns$Reader", "start", "I", false)
  | _ => ("TowerOfTurns$Reader", "place", "I", false)
def tyX3 : Nat → FieldType := fun k => match k with
  | 0 => .object "TowerOfTurns$Tape"
  | 1 => .array .int
  | 2 => .int
  | 3 => .int
  | _ => .int
abbrev wsX30 : List Cond := u_ws RX3 TX3 5
theorem nmX3 : ∀ a, a < 5 → ∀ b, b < 5 → a ≠ b → (TX3 a).2.1 ≠ (TX3 b).2.1 := by decide +kernel
theorem tyX3_ok : ∀ k, k < 5 → parseFieldDescriptor (TX3 k).2.2.1 = some (tyX3 k) := by decide +kernel
abbrev cX3_init : ByteArray := prog_5_method_1_code
def yX3_init : MethodName := ⟨RX3, "<init>", "(LTowerOfTurns$Tape;)V"⟩
abbrev cX3_read : ByteArray := prog_5_method_2_code
def yX3_read : MethodName := ⟨RX3, "read", "(LTowerOfTurns$World;)I"⟩
abbrev cX3_didStatement : ByteArray := prog_5_method_3_code
def yX3_didStatement : MethodName := ⟨RX3, "didStatement", "(LTowerOfTurns$World;)Z"⟩
abbrev cX3_didPerson : ByteArray := prog_5_method_4_code
def yX3_didPerson : MethodName := ⟨RX3, "didPerson", "(LTowerOfTurns$World;)Z"⟩
abbrev cX3_didClimb : ByteArray := prog_5_method_5_code
def yX3_didClimb : MethodName := ⟨RX3, "didClimb", "(LTowerOfTurns$World;)Z"⟩
abbrev cX3_didTell : ByteArray := prog_5_method_6_code
def yX3_didTell : MethodName := ⟨RX3, "didTell", "(LTowerOfTurns$World;I)Z"⟩
abbrev cX3_step : ByteArray := prog_5_method_7_code
def yX3_step : MethodName := ⟨RX3, "step", "()V"⟩
abbrev cX3_isWord : ByteArray := prog_5_method_8_code
def yX3_isWord : MethodName := ⟨RX3, "isWord", "(Ljava/lang/String;)Z"⟩
abbrev cX3_number : ByteArray := prog_5_method_9_code
def yX3_number : MethodName := ⟨RX3, "number", "()I"⟩
abbrev cX3_isLetter : ByteArray := prog_5_method_10_code
def yX3_isLetter : MethodName := ⟨RX3, "isLetter", "(I)Z"⟩
abbrev cX3_isDigit : ByteArray := prog_5_method_11_code
def yX3_isDigit : MethodName := ⟨RX3, "isDigit", "(I)Z"⟩
def RX4 : String := "TowerOfTurns$Row"
def TX4 : u_T := fun k => match k with
  | 0 => ("TowerOfTurns$Row", "sort", "I", true)
  | _ => ("TowerOfTurns$Row", "cells", "[J", true)
def tyX4 : Nat → FieldType := fun k => match k with
  | 0 => .int
  | _ => .array .long
abbrev wsX40 : List Cond := u_ws RX4 TX4 2
theorem nmX4 : ∀ a, a < 2 → ∀ b, b < 2 → a ≠ b → (TX4 a).2.1 ≠ (TX4 b).2.1 := by decide +kernel
theorem tyX4_ok : ∀ k, k < 2 → parseFieldDescriptor (TX4 k).2.2.1 = some (tyX4 k) := by decide +kernel
abbrev cX4_init : ByteArray := prog_6_method_1_code
def yX4_init : MethodName := ⟨RX4, "<init>", "(II)V"⟩
abbrev cX4_has : ByteArray := prog_6_method_2_code
def yX4_has : MethodName := ⟨RX4, "has", "(I)Z"⟩
abbrev cX4_hasSpan : ByteArray := prog_6_method_3_code
def yX4_hasSpan : MethodName := ⟨RX4, "hasSpan", "(II)Z"⟩
abbrev cX4_cell : ByteArray := prog_6_method_4_code
def yX4_cell : MethodName := ⟨RX4, "cell", "(I)J"⟩
abbrev cX4_keep : ByteArray := prog_6_method_5_code
def yX4_keep : MethodName := ⟨RX4, "keep", "(IJ)V"⟩
abbrev cX4_cut : ByteArray := prog_6_method_6_code
def yX4_cut : MethodName := ⟨RX4, "cut", "(J)J"⟩
def RX5 : String := "TowerOfTurns$Tape"
def TX5 : u_T := fun k => match k with
  | 0 => ("TowerOfTurns$Tape", "letters", "[I", true)
  | _ => ("TowerOfTurns$Tape", "size", "I", false)
def tyX5 : Nat → FieldType := fun k => match k with
  | 0 => .array .int
  | _ => .int
abbrev wsX50 : List Cond := u_ws RX5 TX5 2
theorem nmX5 : ∀ a, a < 2 → ∀ b, b < 2 → a ≠ b → (TX5 a).2.1 ≠ (TX5 b).2.1 := by decide +kernel
theorem tyX5_ok : ∀ k, k < 2 → parseFieldDescriptor (TX5 k).2.2.1 = some (tyX5 k) := by decide +kernel
abbrev cX5_init : ByteArray := prog_7_method_1_code
def yX5_init : MethodName := ⟨RX5, "<init>", "()V"⟩
abbrev cX5_isFull : ByteArray := prog_7_method_2_code
def yX5_isFull : MethodName := ⟨RX5, "isFull", "()Z"⟩
abbrev cX5_append : ByteArray := prog_7_method_3_code
def yX5_append : MethodName := ⟨RX5, "append", "(I)V"⟩
abbrev cX5_clear : ByteArray := prog_7_method_4_code
def yX5_clear : MethodName := ⟨RX5, "clear", "()V"⟩
abbrev cX5_letter : ByteArray := prog_7_method_5_code
def yX5_letter : MethodName := ⟨RX5, "letter", "(I)I"⟩
def RX6 : String := "TowerOfTurns$World"
def TX6 : u_T := fun k => match k with
  | 0 => ("TowerOfTurns$World", "crowd", "LTowerOfTurns$Crowd;", true)
  | 1 => ("TowerOfTurns$World", "pile", "LTowerOfTurns$Pile;", true)
  | 2 => ("TowerOfTurns$World", "wind", "I", false)
  | 3 => ("TowerOfTurns$World", "most", "I", false)
  | 4 => ("TowerOfTurns$World", "day", "I", false)
  | 5 => ("TowerOfTurns$World", "fallen", "I", false)
  | _ => ("TowerOfTurns$World", "seed", "I", false)
def tyX6 : Nat → FieldType := fun k => match k with
  | 0 => .object "TowerOfTurns$Crowd"
  | 1 => .object "TowerOfTurns$Pile"
  | 2 => .int
  | 3 => .int
  | 4 => .int
  | 5 => .int
  | _ => .int
abbrev wsX60 : List Cond := u_ws RX6 TX6 7
theorem nmX6 : ∀ a, a < 7 → ∀ b, b < 7 → a ≠ b → (TX6 a).2.1 ≠ (TX6 b).2.1 := by decide +kernel
theorem tyX6_ok : ∀ k, k < 7 → parseFieldDescriptor (TX6 k).2.2.1 = some (tyX6 k) := by decide +kernel
abbrev cX6_init : ByteArray := prog_8_method_1_code
def yX6_init : MethodName := ⟨RX6, "<init>", "()V"⟩
abbrev cX6_takeFrom : ByteArray := prog_8_method_2_code
def yX6_takeFrom : MethodName := ⟨RX6, "takeFrom", "(LTowerOfTurns$World;)V"⟩
abbrev cX6_mayTell : ByteArray := prog_8_method_3_code
def yX6_mayTell : MethodName := ⟨RX6, "mayTell", "(II)Z"⟩
abbrev cX6_setting : ByteArray := prog_8_method_4_code
def yX6_setting : MethodName := ⟨RX6, "setting", "(I)I"⟩
abbrev cX6_changeSetting : ByteArray := prog_8_method_5_code
def yX6_changeSetting : MethodName := ⟨RX6, "changeSetting", "(II)V"⟩
abbrev cX6_fellIfWeak : ByteArray := prog_8_method_6_code
def yX6_fellIfWeak : MethodName := ⟨RX6, "fellIfWeak", "()Z"⟩
abbrev cX6_turn : ByteArray := prog_8_method_7_code
def yX6_turn : MethodName := ⟨RX6, "turn", "()V"⟩
abbrev cX6_draw : ByteArray := prog_8_method_8_code
def yX6_draw : MethodName := ⟨RX6, "draw", "(I)I"⟩
def RX7 : String := "TowerOfTurns"
def TX7 : u_T := fun k => match k with
  | 0 => ("TowerOfTurns", "world", "LTowerOfTurns$World;", true)
  | 1 => ("TowerOfTurns", "kept", "LTowerOfTurns$World;", true)
  | 2 => ("TowerOfTurns", "draft", "LTowerOfTurns$World;", true)
  | 3 => ("TowerOfTurns", "trial", "LTowerOfTurns$Pile;", true)
  | 4 => ("TowerOfTurns", "lineups", "LTowerOfTurns$Lineups;", true)
  | 5 => ("TowerOfTurns", "tape", "LTowerOfTurns$Tape;", true)
  | 6 => ("TowerOfTurns", "reader", "LTowerOfTurns$Reader;", true)
  | 7 => ("TowerOfTurns", "rows", "[LTowerOfTurns$Row;", true)
  | 8 => ("TowerOfTurns", "shown", "[I", true)
  | 9 => ("TowerOfTurns", "refused", "[I", true)
  | _ => ("TowerOfTurns", "hasKept", "Z", false)
def tyX7 : Nat → FieldType := fun k => match k with
  | 0 => .object "TowerOfTurns$World"
  | 1 => .object "TowerOfTurns$World"
  | 2 => .object "TowerOfTurns$World"
  | 3 => .object "TowerOfTurns$Pile"
  | 4 => .object "TowerOfTurns$Lineups"
  | 5 => .object "TowerOfTurns$Tape"
  | 6 => .object "TowerOfTurns$Reader"
  | 7 => .array (.object "TowerOfTurns$Row")
  | 8 => .array .int
  | 9 => .array .int
  | _ => .boolean
abbrev wsX70 : List Cond := u_ws RX7 TX7 11
theorem nmX7 : ∀ a, a < 11 → ∀ b, b < 11 → a ≠ b → (TX7 a).2.1 ≠ (TX7 b).2.1 := by decide +kernel
theorem tyX7_ok : ∀ k, k < 11 → parseFieldDescriptor (TX7 k).2.2.1 = some (tyX7 k) := by decide +kernel
abbrev cX7_init : ByteArray := prog_1_method_1_code
def yX7_init : MethodName := ⟨RX7, "<init>", "()V"⟩
abbrev cX7_row : ByteArray := prog_1_method_2_code
def yX7_row : MethodName := ⟨RX7, "row", "(III)I"⟩
abbrev cX7_set : ByteArray := prog_1_method_3_code
def yX7_set : MethodName := ⟨RX7, "set", "(IIJ)I"⟩
abbrev cX7_copy : ByteArray := prog_1_method_4_code
def yX7_copy : MethodName := ⟨RX7, "copy", "(IIIII)I"⟩
abbrev cX7_element : ByteArray := prog_1_method_5_code
def yX7_element : MethodName := ⟨RX7, "element", "(II)J"⟩
abbrev cX7_holds : ByteArray := prog_1_method_6_code
def yX7_holds : MethodName := ⟨RX7, "holds", "(I)I"⟩
abbrev cX7_show : ByteArray := prog_1_method_7_code
def yX7_show : MethodName := ⟨RX7, "show", "(II)I"⟩
abbrev cX7_says : ByteArray := prog_1_method_8_code
def yX7_says : MethodName := ⟨RX7, "says", "(II)I"⟩
abbrev cX7_person : ByteArray := prog_1_method_9_code
def yX7_person : MethodName := ⟨RX7, "person", "(IIIII)I"⟩
abbrev cX7_give : ByteArray := prog_1_method_10_code
def yX7_give : MethodName := ⟨RX7, "give", "(III)I"⟩
abbrev cX7_tell : ByteArray := prog_1_method_11_code
def yX7_tell : MethodName := ⟨RX7, "tell", "(II)I"⟩
abbrev cX7_feed : ByteArray := prog_1_method_12_code
def yX7_feed : MethodName := ⟨RX7, "feed", "(I)I"⟩
abbrev cX7_wipe : ByteArray := prog_1_method_13_code
def yX7_wipe : MethodName := ⟨RX7, "wipe", "()I"⟩
abbrev cX7_tower : ByteArray := prog_1_method_14_code
def yX7_tower : MethodName := ⟨RX7, "tower", "()I"⟩
abbrev cX7_personOf : ByteArray := prog_1_method_15_code
def yX7_personOf : MethodName := ⟨RX7, "personOf", "(II)I"⟩
abbrev cX7_at : ByteArray := prog_1_method_16_code
def yX7_at : MethodName := ⟨RX7, "at", "(I)I"⟩
abbrev cX7_of : ByteArray := prog_1_method_17_code
def yX7_of : MethodName := ⟨RX7, "of", "(II)I"⟩
abbrev cX7_stands : ByteArray := prog_1_method_18_code
def yX7_stands : MethodName := ⟨RX7, "stands", "()I"⟩
abbrev cX7_weak : ByteArray := prog_1_method_19_code
def yX7_weak : MethodName := ⟨RX7, "weak", "()I"⟩
abbrev cX7_height : ByteArray := prog_1_method_20_code
def yX7_height : MethodName := ⟨RX7, "height", "()I"⟩
abbrev cX7_least : ByteArray := prog_1_method_21_code
def yX7_least : MethodName := ⟨RX7, "least", "(I)I"⟩
abbrev cX7_orders : ByteArray := prog_1_method_22_code
def yX7_orders : MethodName := ⟨RX7, "orders", "(II)I"⟩
abbrev cX7_highest : ByteArray := prog_1_method_23_code
def yX7_highest : MethodName := ⟨RX7, "highest", "(I)I"⟩
abbrev cX7_fond : ByteArray := prog_1_method_24_code
def yX7_fond : MethodName := ⟨RX7, "fond", "(II)I"⟩
abbrev cX7_glad : ByteArray := prog_1_method_25_code
def yX7_glad : MethodName := ⟨RX7, "glad", "(I)I"⟩
abbrev cX7_backs : ByteArray := prog_1_method_26_code
def yX7_backs : MethodName := ⟨RX7, "backs", "(III)I"⟩
abbrev cX7_ends : ByteArray := prog_1_method_27_code
def yX7_ends : MethodName := ⟨RX7, "ends", "(II)I"⟩
abbrev cX7_under : ByteArray := prog_1_method_28_code
def yX7_under : MethodName := ⟨RX7, "under", "()I"⟩
abbrev cX7_change : ByteArray := prog_1_method_29_code
def yX7_change : MethodName := ⟨RX7, "change", "()I"⟩
abbrev cX7_out : ByteArray := prog_1_method_30_code
def yX7_out : MethodName := ⟨RX7, "out", "()I"⟩
abbrev cX7_gale : ByteArray := prog_1_method_31_code
def yX7_gale : MethodName := ⟨RX7, "gale", "()I"⟩
abbrev cX7_chance : ByteArray := prog_1_method_32_code
def yX7_chance : MethodName := ⟨RX7, "chance", "()I"⟩
abbrev cX7_fittest : ByteArray := prog_1_method_33_code
def yX7_fittest : MethodName := ⟨RX7, "fittest", "()I"⟩
abbrev cX7_lighter : ByteArray := prog_1_method_34_code
def yX7_lighter : MethodName := ⟨RX7, "lighter", "()I"⟩
abbrev cX7_shifted : ByteArray := prog_1_method_35_code
def yX7_shifted : MethodName := ⟨RX7, "shifted", "(II)I"⟩
abbrev cX7_foot : ByteArray := prog_1_method_36_code
def yX7_foot : MethodName := ⟨RX7, "foot", "(I)I"⟩
abbrev cX7_ahead : ByteArray := prog_1_method_37_code
def yX7_ahead : MethodName := ⟨RX7, "ahead", "(II)I"⟩
abbrev cX7_next : ByteArray := prog_1_method_38_code
def yX7_next : MethodName := ⟨RX7, "next", "()I"⟩
abbrev cX7_who : ByteArray := prog_1_method_39_code
def yX7_who : MethodName := ⟨RX7, "who", "(I)I"⟩
abbrev cX7_room : ByteArray := prog_1_method_40_code
def yX7_room : MethodName := ⟨RX7, "room", "(I)I"⟩
abbrev cX7_needs : ByteArray := prog_1_method_41_code
def yX7_needs : MethodName := ⟨RX7, "needs", "(I)I"⟩
abbrev cX7_nerves : ByteArray := prog_1_method_42_code
def yX7_nerves : MethodName := ⟨RX7, "nerves", "(I)I"⟩
abbrev cX7_mass : ByteArray := prog_1_method_43_code
def yX7_mass : MethodName := ⟨RX7, "mass", "()I"⟩
abbrev cX7_gladness : ByteArray := prog_1_method_44_code
def yX7_gladness : MethodName := ⟨RX7, "gladness", "()I"⟩
abbrev cX7_between : ByteArray := prog_1_method_45_code
def yX7_between : MethodName := ⟨RX7, "between", "(I)I"⟩
abbrev cX7_top : ByteArray := prog_1_method_46_code
def yX7_top : MethodName := ⟨RX7, "top", "()I"⟩
abbrev cX7_ofKind : ByteArray := prog_1_method_47_code
def yX7_ofKind : MethodName := ⟨RX7, "ofKind", "(I)I"⟩
abbrev cX7_judge : ByteArray := prog_1_method_48_code
def yX7_judge : MethodName := ⟨RX7, "judge", "(II)I"⟩
abbrev cX7_breaks : ByteArray := prog_1_method_49_code
def yX7_breaks : MethodName := ⟨RX7, "breaks", "(II)I"⟩
abbrev cX7_climb : ByteArray := prog_1_method_50_code
def yX7_climb : MethodName := ⟨RX7, "climb", "(I)I"⟩
abbrev cX7_comesOut : ByteArray := prog_1_method_51_code
def yX7_comesOut : MethodName := ⟨RX7, "comesOut", "()I"⟩
abbrev cX7_days : ByteArray := prog_1_method_52_code
def yX7_days : MethodName := ⟨RX7, "days", "(I)I"⟩
abbrev cX7_drawn : ByteArray := prog_1_method_53_code
def yX7_drawn : MethodName := ⟨RX7, "drawn", "(I)I"⟩
abbrev cX7_seed : ByteArray := prog_1_method_54_code
def yX7_seed : MethodName := ⟨RX7, "seed", "(I)I"⟩
abbrev cX7_image : ByteArray := prog_1_method_55_code
def yX7_image : MethodName := ⟨RX7, "image", "()I"⟩
abbrev cX7_back : ByteArray := prog_1_method_56_code
def yX7_back : MethodName := ⟨RX7, "back", "()I"⟩
abbrev cX7_status : ByteArray := prog_1_method_57_code
def yX7_status : MethodName := ⟨RX7, "status", "(I)I"⟩
abbrev cX7_refuse : ByteArray := prog_1_method_58_code
def yX7_refuse : MethodName := ⟨RX7, "refuse", "(I)I"⟩
abbrev cX7_refusals : ByteArray := prog_1_method_59_code
def yX7_refusals : MethodName := ⟨RX7, "refusals", "(I)I"⟩
abbrev cX7_fullShelves : ByteArray := prog_1_method_60_code
def yX7_fullShelves : MethodName := ⟨RX7, "fullShelves", "()I"⟩
abbrev cX7_rowOn : ByteArray := prog_1_method_61_code
def yX7_rowOn : MethodName := ⟨RX7, "rowOn", "(I)LTowerOfTurns$Row;"⟩
abbrev cX7_faultOfRow : ByteArray := prog_1_method_62_code
def yX7_faultOfRow : MethodName := ⟨RX7, "faultOfRow", "(II)I"⟩
abbrev cX7_isShown : ByteArray := prog_1_method_63_code
def yX7_isShown : MethodName := ⟨RX7, "isShown", "(I)Z"⟩
abbrev cX7_place : ByteArray := prog_1_method_64_code
def yX7_place : MethodName := ⟨RX7, "place", "(ILTowerOfTurns$Row;I)V"⟩
abbrev cX7_isSet : ByteArray := prog_1_method_65_code
def yX7_isSet : MethodName := ⟨RX7, "isSet", "(I)Z"⟩
abbrev cX7_couldClimb : ByteArray := prog_1_method_66_code
def yX7_couldClimb : MethodName := ⟨RX7, "couldClimb", "()I"⟩
abbrev cX7_tryOnTop : ByteArray := prog_1_method_67_code
def yX7_tryOnTop : MethodName := ⟨RX7, "tryOnTop", "(I)V"⟩
abbrev cX7_tryWithout : ByteArray := prog_1_method_68_code
def yX7_tryWithout : MethodName := ⟨RX7, "tryWithout", "(I)V"⟩
abbrev cX7_firstWrong : ByteArray := prog_1_method_69_code
def yX7_firstWrong : MethodName := ⟨RX7, "firstWrong", "(LTowerOfTurns$Row;I)I"⟩
abbrev cX7_firstBreak : ByteArray := prog_1_method_70_code
def yX7_firstBreak : MethodName := ⟨RX7, "firstBreak", "(LTowerOfTurns$Row;I)I"⟩
abbrev cX7_isShelf : ByteArray := prog_1_method_71_code
def yX7_isShelf : MethodName := ⟨RX7, "isShelf", "(I)Z"⟩
abbrev cX7_isKind : ByteArray := prog_1_method_72_code
def yX7_isKind : MethodName := ⟨RX7, "isKind", "(I)Z"⟩
abbrev cX7_isLength : ByteArray := prog_1_method_73_code
def yX7_isLength : MethodName := ⟨RX7, "isLength", "(I)Z"⟩
abbrev cX7_isTime : ByteArray := prog_1_method_74_code
def yX7_isTime : MethodName := ⟨RX7, "isTime", "(I)Z"⟩
abbrev cX7_mayBe : ByteArray := prog_1_method_75_code
def yX7_mayBe : MethodName := ⟨RX7, "mayBe", "(II)Z"⟩
abbrev cX7_isUnder : ByteArray := prog_1_method_76_code
def yX7_isUnder : MethodName := ⟨RX7, "isUnder", "(II)Z"⟩
abbrev cX7_sway : ByteArray := prog_1_method_77_code
def yX7_sway : MethodName := ⟨RX7, "sway", "(II)I"⟩
abbrev cX7_bit : ByteArray := prog_1_method_78_code
def yX7_bit : MethodName := ⟨RX7, "bit", "(I)I"⟩
abbrev cX7_oneIf : ByteArray := prog_1_method_79_code
def yX7_oneIf : MethodName := ⟨RX7, "oneIf", "(Z)I"⟩
abbrev cX7_pick : ByteArray := prog_1_method_80_code
def yX7_pick : MethodName := ⟨RX7, "pick", "([II)I"⟩
abbrev cX7_put : ByteArray := prog_1_method_81_code
def yX7_put : MethodName := ⟨RX7, "put", "([III)V"⟩
abbrev cX7_copyAll : ByteArray := prog_1_method_82_code
def yX7_copyAll : MethodName := ⟨RX7, "copyAll", "([I[I)V"⟩
def RX8 : String := "TowerOfTurnsModel"
def TX8 : u_T := fun k => match k with
  | 0 => ("TowerOfTurnsModel", "shelf", "[I", true)
  | 1 => ("TowerOfTurnsModel", "rowSort", "[I", true)
  | 2 => ("TowerOfTurnsModel", "rowSize", "[I", true)
  | 3 => ("TowerOfTurnsModel", "rows", "[[J", true)
  | 4 => ("TowerOfTurnsModel", "moved", "[J", true)
  | 5 => ("TowerOfTurnsModel", "shown", "[I", true)
  | 6 => ("TowerOfTurnsModel", "tape", "[I", true)
  | 7 => ("TowerOfTurnsModel", "tapeSize", "I", false)
  | 8 => ("TowerOfTurnsModel", "refused", "[I", true)
  | 9 => ("TowerOfTurnsModel", "wind", "I", false)
  | 10 => ("TowerOfTurnsModel", "most", "I", false)
  | 11 => ("TowerOfTurnsModel", "day", "I", false)
  | 12 => ("TowerOfTurnsModel", "fallen", "I", false)
  | 13 => ("TowerOfTurnsModel", "people", "I", false)
  | 14 => ("TowerOfTurnsModel", "kind", "[I", true)
  | 15 => ("TowerOfTurnsModel", "by", "[I", true)
  | 16 => ("TowerOfTurnsModel", "weight", "[I", true)
  | 17 => ("TowerOfTurnsModel", "strength", "[I", true)
  | 18 => ("TowerOfTurnsModel", "nerve", "[I", true)
  | 19 => ("TowerOfTurnsModel", "stack", "[I", true)
  | 20 => ("TowerOfTurnsModel", "size", "I", false)
  | 21 => ("TowerOfTurnsModel", "seed", "I", false)
  | 22 => ("TowerOfTurnsModel", "kept", "LTowerOfTurnsModel;", false)
  | 23 => ("TowerOfTurnsModel", "tried", "LTowerOfTurnsModel;", false)
  | 24 => ("TowerOfTurnsModel", "at", "I", false)
  | 25 => ("TowerOfTurnsModel", "token", "I", false)
  | 26 => ("TowerOfTurnsModel", "from", "I", false)
  | 27 => ("TowerOfTurnsModel", "figures", "I", false)
  | 28 => ("TowerOfTurnsModel", "fault", "I", false)
  | 29 => ("TowerOfTurnsModel", "told", "[I", true)
  | 30 => ("TowerOfTurnsModel", "statements", "I", false)
  | 31 => ("TowerOfTurnsModel", "ways", "[I", true)
  | 32 => ("TowerOfTurnsModel", "comes", "[Z", true)
  | 33 => ("TowerOfTurnsModel", "gladness", "[[I", true)
  | 34 => ("TowerOfTurnsModel", "above", "[I", true)
  | 35 => ("TowerOfTurnsModel", "wasStack", "[I", true)
  | 36 => ("TowerOfTurnsModel", "wrongAt", "I", false)
  | _ => ("TowerOfTurnsModel", "breakAt", "I", false)
def tyX8 : Nat → FieldType := fun k => match k with
  | 0 => .array .int
  | 1 => .array .int
  | 2 => .array .int
  | 3 => .array (.array .long)
  | 4 => .array .long
  | 5 => .array .int
  | 6 => .array .int
  | 7 => .int
  | 8 => .array .int
  | 9 => .int
  | 10 => .int
  | 11 => .int
  | 12 => .int
  | 13 => .int
  | 14 => .array .int
  | 15 => .array .int
  | 16 => .array .int
  | 17 => .array .int
  | 18 => .array .int
  | 19 => .array .int
  | 20 => .int
  | 21 => .int
  | 22 => .object "TowerOfTurnsModel"
  | 23 => .object "TowerOfTurnsModel"
  | 24 => .int
  | 25 => .int
  | 26 => .int
  | 27 => .int
  | 28 => .int
  | 29 => .array .int
  | 30 => .int
  | 31 => .array .int
  | 32 => .array .boolean
  | 33 => .array (.array .int)
  | 34 => .array .int
  | 35 => .array .int
  | 36 => .int
  | _ => .int
abbrev wsX80 : List Cond := u_ws RX8 TX8 38
theorem nmX8 : ∀ a, a < 38 → ∀ b, b < 38 → a ≠ b → (TX8 a).2.1 ≠ (TX8 b).2.1 := by decide +kernel
theorem tyX8_ok : ∀ k, k < 38 → parseFieldDescriptor (TX8 k).2.2.1 = some (tyX8 k) := by decide +kernel
abbrev cX8_init : ByteArray := prog_10_method_1_code
def yX8_init : MethodName := ⟨RX8, "<init>", "()V"⟩
abbrev cX8_refuse : ByteArray := prog_10_method_2_code
def yX8_refuse : MethodName := ⟨RX8, "refuse", "(I)I"⟩
abbrev cX8_in : ByteArray := prog_10_method_3_code
def yX8_in : MethodName := ⟨RX8, "in", "(JJJ)Z"⟩
abbrev cX8_isPerson : ByteArray := prog_10_method_4_code
def yX8_isPerson : MethodName := ⟨RX8, "isPerson", "(J)Z"⟩
abbrev cX8_bits : ByteArray := prog_10_method_5_code
def yX8_bits : MethodName := ⟨RX8, "bits", "(I)I"⟩
abbrev cX8_row : ByteArray := prog_10_method_6_code
def yX8_row : MethodName := ⟨RX8, "row", "(III)I"⟩
abbrev cX8_fit : ByteArray := prog_10_method_7_code
def yX8_fit : MethodName := ⟨RX8, "fit", "(IJ)J"⟩
abbrev cX8_noRow : ByteArray := prog_10_method_8_code
def yX8_noRow : MethodName := ⟨RX8, "noRow", "(I)I"⟩
abbrev cX8_set : ByteArray := prog_10_method_9_code
def yX8_set : MethodName := ⟨RX8, "set", "(IIJ)I"⟩
abbrev cX8_copy : ByteArray := prog_10_method_10_code
def yX8_copy : MethodName := ⟨RX8, "copy", "(IIIII)I"⟩
abbrev cX8_element : ByteArray := prog_10_method_11_code
def yX8_element : MethodName := ⟨RX8, "element", "(II)J"⟩
abbrev cX8_holds : ByteArray := prog_10_method_12_code
def yX8_holds : MethodName := ⟨RX8, "holds", "(I)I"⟩
abbrev cX8_show : ByteArray := prog_10_method_13_code
def yX8_show : MethodName := ⟨RX8, "show", "(II)I"⟩
abbrev cX8_isUnder : ByteArray := prog_10_method_14_code
def yX8_isUnder : MethodName := ⟨RX8, "isUnder", "(II)Z"⟩
abbrev cX8_says : ByteArray := prog_10_method_15_code
def yX8_says : MethodName := ⟨RX8, "says", "(II)I"⟩
abbrev cX8_addPerson : ByteArray := prog_10_method_16_code
def yX8_addPerson : MethodName := ⟨RX8, "addPerson", "(IIIII)V"⟩
abbrev cX8_person : ByteArray := prog_10_method_17_code
def yX8_person : MethodName := ⟨RX8, "person", "(IIIII)I"⟩
abbrev cX8_give : ByteArray := prog_10_method_18_code
def yX8_give : MethodName := ⟨RX8, "give", "(III)I"⟩
abbrev cX8_leastMost : ByteArray := prog_10_method_19_code
def yX8_leastMost : MethodName := ⟨RX8, "leastMost", "()I"⟩
abbrev cX8_tell : ByteArray := prog_10_method_20_code
def yX8_tell : MethodName := ⟨RX8, "tell", "(II)I"⟩
abbrev cX8_feed : ByteArray := prog_10_method_21_code
def yX8_feed : MethodName := ⟨RX8, "feed", "(I)I"⟩
abbrev cX8_wipe : ByteArray := prog_10_method_22_code
def yX8_wipe : MethodName := ⟨RX8, "wipe", "()I"⟩
abbrev cX8_isLetter : ByteArray := prog_10_method_23_code
def yX8_isLetter : MethodName := ⟨RX8, "isLetter", "(I)Z"⟩
abbrev cX8_isDigit : ByteArray := prog_10_method_24_code
def yX8_isDigit : MethodName := ⟨RX8, "isDigit", "(I)Z"⟩
abbrev cX8_look : ByteArray := prog_10_method_25_code
def yX8_look : MethodName := ⟨RX8, "look", "()V"⟩
abbrev cX8_wrong : ByteArray := prog_10_method_26_code
def yX8_wrong : MethodName := ⟨RX8, "wrong", "()Z"⟩
abbrev cX8_isWord : ByteArray := prog_10_method_27_code
def yX8_isWord : MethodName := ⟨RX8, "isWord", "(Ljava/lang/String;)Z"⟩
abbrev cX8_number : ByteArray := prog_10_method_28_code
def yX8_number : MethodName := ⟨RX8, "number", "(III)Z"⟩
abbrev cX8_tells : ByteArray := prog_10_method_29_code
def yX8_tells : MethodName := ⟨RX8, "tells", "(II)Z"⟩
abbrev cX8_tellsPerson : ByteArray := prog_10_method_30_code
def yX8_tellsPerson : MethodName := ⟨RX8, "tellsPerson", "()Z"⟩
abbrev cX8_tellsClimb : ByteArray := prog_10_method_31_code
def yX8_tellsClimb : MethodName := ⟨RX8, "tellsClimb", "()Z"⟩
abbrev cX8_statement : ByteArray := prog_10_method_32_code
def yX8_statement : MethodName := ⟨RX8, "statement", "()Z"⟩
abbrev cX8_readAll : ByteArray := prog_10_method_33_code
def yX8_readAll : MethodName := ⟨RX8, "readAll", "()Z"⟩
abbrev cX8_tower : ByteArray := prog_10_method_34_code
def yX8_tower : MethodName := ⟨RX8, "tower", "()I"⟩
abbrev cX8_massOf : ByteArray := prog_10_method_35_code
def yX8_massOf : MethodName := ⟨RX8, "massOf", "(I)I"⟩
abbrev cX8_bears : ByteArray := prog_10_method_36_code
def yX8_bears : MethodName := ⟨RX8, "bears", "(I)I"⟩
abbrev cX8_tallness : ByteArray := prog_10_method_37_code
def yX8_tallness : MethodName := ⟨RX8, "tallness", "(I)I"⟩
abbrev cX8_courseOf : ByteArray := prog_10_method_38_code
def yX8_courseOf : MethodName := ⟨RX8, "courseOf", "(I)I"⟩
abbrev cX8_isIn : ByteArray := prog_10_method_39_code
def yX8_isIn : MethodName := ⟨RX8, "isIn", "(I)Z"⟩
abbrev cX8_personOf : ByteArray := prog_10_method_40_code
def yX8_personOf : MethodName := ⟨RX8, "personOf", "(II)I"⟩
abbrev cX8_fondOf : ByteArray := prog_10_method_41_code
def yX8_fondOf : MethodName := ⟨RX8, "fondOf", "(II)I"⟩
abbrev cX8_fond : ByteArray := prog_10_method_42_code
def yX8_fond : MethodName := ⟨RX8, "fond", "(II)I"⟩
abbrev cX8_ofKind : ByteArray := prog_10_method_43_code
def yX8_ofKind : MethodName := ⟨RX8, "ofKind", "(I)I"⟩
abbrev cX8_loadAt : ByteArray := prog_10_method_44_code
def yX8_loadAt : MethodName := ⟨RX8, "loadAt", "(I)I"⟩
abbrev cX8_upAt : ByteArray := prog_10_method_45_code
def yX8_upAt : MethodName := ⟨RX8, "upAt", "(I)I"⟩
abbrev cX8_slackAt : ByteArray := prog_10_method_46_code
def yX8_slackAt : MethodName := ⟨RX8, "slackAt", "(I)I"⟩
abbrev cX8_crushedAt : ByteArray := prog_10_method_47_code
def yX8_crushedAt : MethodName := ⟨RX8, "crushedAt", "(I)Z"⟩
abbrev cX8_shakesAt : ByteArray := prog_10_method_48_code
def yX8_shakesAt : MethodName := ⟨RX8, "shakesAt", "(I)Z"⟩
abbrev cX8_weakAt : ByteArray := prog_10_method_49_code
def yX8_weakAt : MethodName := ⟨RX8, "weakAt", "()I"⟩
abbrev cX8_isStanding : ByteArray := prog_10_method_50_code
def yX8_isStanding : MethodName := ⟨RX8, "isStanding", "()Z"⟩
abbrev cX8_heightNow : ByteArray := prog_10_method_51_code
def yX8_heightNow : MethodName := ⟨RX8, "heightNow", "()I"⟩
abbrev cX8_at : ByteArray := prog_10_method_52_code
def yX8_at : MethodName := ⟨RX8, "at", "(I)I"⟩
abbrev cX8_of : ByteArray := prog_10_method_53_code
def yX8_of : MethodName := ⟨RX8, "of", "(II)I"⟩
abbrev cX8_stands : ByteArray := prog_10_method_54_code
def yX8_stands : MethodName := ⟨RX8, "stands", "()I"⟩
abbrev cX8_weak : ByteArray := prog_10_method_55_code
def yX8_weak : MethodName := ⟨RX8, "weak", "()I"⟩
abbrev cX8_height : ByteArray := prog_10_method_56_code
def yX8_height : MethodName := ⟨RX8, "height", "()I"⟩
abbrev cX8_mass : ByteArray := prog_10_method_57_code
def yX8_mass : MethodName := ⟨RX8, "mass", "()I"⟩
abbrev cX8_top : ByteArray := prog_10_method_58_code
def yX8_top : MethodName := ⟨RX8, "top", "()I"⟩
abbrev cX8_gladness : ByteArray := prog_10_method_59_code
def yX8_gladness : MethodName := ⟨RX8, "gladness", "()I"⟩
abbrev cX8_between : ByteArray := prog_10_method_60_code
def yX8_between : MethodName := ⟨RX8, "between", "(I)I"⟩
abbrev cX8_leastAt : ByteArray := prog_10_method_61_code
def yX8_leastAt : MethodName := ⟨RX8, "leastAt", "()I"⟩
abbrev cX8_least : ByteArray := prog_10_method_62_code
def yX8_least : MethodName := ⟨RX8, "least", "(I)I"⟩
abbrev cX8_room : ByteArray := prog_10_method_63_code
def yX8_room : MethodName := ⟨RX8, "room", "(I)I"⟩
abbrev cX8_needs : ByteArray := prog_10_method_64_code
def yX8_needs : MethodName := ⟨RX8, "needs", "(I)I"⟩
abbrev cX8_nerves : ByteArray := prog_10_method_65_code
def yX8_nerves : MethodName := ⟨RX8, "nerves", "(I)I"⟩
abbrev cX8_isSet : ByteArray := prog_10_method_66_code
def yX8_isSet : MethodName := ⟨RX8, "isSet", "(I)Z"⟩
abbrev cX8_massOfSet : ByteArray := prog_10_method_67_code
def yX8_massOfSet : MethodName := ⟨RX8, "massOfSet", "(I)I"⟩
abbrev cX8_tallnessOfSet : ByteArray := prog_10_method_68_code
def yX8_tallnessOfSet : MethodName := ⟨RX8, "tallnessOfSet", "(I)I"⟩
abbrev cX8_holds_ : ByteArray := prog_10_method_69_code
def yX8_holds_ : MethodName := ⟨RX8, "holds", "(III)Z"⟩
abbrev cX8_findOrders : ByteArray := prog_10_method_70_code
def yX8_findOrders : MethodName := ⟨RX8, "findOrders", "(I)I"⟩
abbrev cX8_mayCome : ByteArray := prog_10_method_71_code
def yX8_mayCome : MethodName := ⟨RX8, "mayCome", "(III)Z"⟩
abbrev cX8_orders : ByteArray := prog_10_method_72_code
def yX8_orders : MethodName := ⟨RX8, "orders", "(II)I"⟩
abbrev cX8_ends : ByteArray := prog_10_method_73_code
def yX8_ends : MethodName := ⟨RX8, "ends", "(II)I"⟩
abbrev cX8_topsOf : ByteArray := prog_10_method_74_code
def yX8_topsOf : MethodName := ⟨RX8, "topsOf", "(I)I"⟩
abbrev cX8_highest : ByteArray := prog_10_method_75_code
def yX8_highest : MethodName := ⟨RX8, "highest", "(I)I"⟩
abbrev cX8_gladFrom : ByteArray := prog_10_method_76_code
def yX8_gladFrom : MethodName := ⟨RX8, "gladFrom", "(III)I"⟩
abbrev cX8_glad : ByteArray := prog_10_method_77_code
def yX8_glad : MethodName := ⟨RX8, "glad", "(I)I"⟩
abbrev cX8_isTold : ByteArray := prog_10_method_78_code
def yX8_isTold : MethodName := ⟨RX8, "isTold", "(IIII)Z"⟩
abbrev cX8_findBacks : ByteArray := prog_10_method_79_code
def yX8_findBacks : MethodName := ⟨RX8, "findBacks", "(II)I"⟩
abbrev cX8_backTops : ByteArray := prog_10_method_80_code
def yX8_backTops : MethodName := ⟨RX8, "backTops", "(II)I"⟩
abbrev cX8_backs : ByteArray := prog_10_method_81_code
def yX8_backs : MethodName := ⟨RX8, "backs", "(III)I"⟩
abbrev cX8_takes : ByteArray := prog_10_method_82_code
def yX8_takes : MethodName := ⟨RX8, "takes", "(I)I"⟩
abbrev cX8_puts : ByteArray := prog_10_method_83_code
def yX8_puts : MethodName := ⟨RX8, "puts", "(II)V"⟩
abbrev cX8_under : ByteArray := prog_10_method_84_code
def yX8_under : MethodName := ⟨RX8, "under", "()I"⟩
abbrev cX8_changes : ByteArray := prog_10_method_85_code
def yX8_changes : MethodName := ⟨RX8, "changes", "(II)V"⟩
abbrev cX8_change : ByteArray := prog_10_method_86_code
def yX8_change : MethodName := ⟨RX8, "change", "()I"⟩
abbrev cX8_out : ByteArray := prog_10_method_87_code
def yX8_out : MethodName := ⟨RX8, "out", "()I"⟩
abbrev cX8_galeNow : ByteArray := prog_10_method_88_code
def yX8_galeNow : MethodName := ⟨RX8, "galeNow", "()I"⟩
abbrev cX8_gale : ByteArray := prog_10_method_89_code
def yX8_gale : MethodName := ⟨RX8, "gale", "()I"⟩
abbrev cX8_chance : ByteArray := prog_10_method_90_code
def yX8_chance : MethodName := ⟨RX8, "chance", "()I"⟩
abbrev cX8_galeWith : ByteArray := prog_10_method_91_code
def yX8_galeWith : MethodName := ⟨RX8, "galeWith", "(I)I"⟩
abbrev cX8_fittest : ByteArray := prog_10_method_92_code
def yX8_fittest : MethodName := ⟨RX8, "fittest", "()I"⟩
abbrev cX8_lighter : ByteArray := prog_10_method_93_code
def yX8_lighter : MethodName := ⟨RX8, "lighter", "()I"⟩
abbrev cX8_shifted : ByteArray := prog_10_method_94_code
def yX8_shifted : MethodName := ⟨RX8, "shifted", "(II)I"⟩
abbrev cX8_foot : ByteArray := prog_10_method_95_code
def yX8_foot : MethodName := ⟨RX8, "foot", "(I)I"⟩
abbrev cX8_who : ByteArray := prog_10_method_96_code
def yX8_who : MethodName := ⟨RX8, "who", "(I)I"⟩
abbrev cX8_standsWith : ByteArray := prog_10_method_97_code
def yX8_standsWith : MethodName := ⟨RX8, "standsWith", "(I)Z"⟩
abbrev cX8_footComesOut : ByteArray := prog_10_method_98_code
def yX8_footComesOut : MethodName := ⟨RX8, "footComesOut", "()Z"⟩
abbrev cX8_nextNow : ByteArray := prog_10_method_99_code
def yX8_nextNow : MethodName := ⟨RX8, "nextNow", "()I"⟩
abbrev cX8_turns : ByteArray := prog_10_method_100_code
def yX8_turns : MethodName := ⟨RX8, "turns", "()Z"⟩
abbrev cX8_falls : ByteArray := prog_10_method_101_code
def yX8_falls : MethodName := ⟨RX8, "falls", "()Z"⟩
abbrev cX8_ahead : ByteArray := prog_10_method_102_code
def yX8_ahead : MethodName := ⟨RX8, "ahead", "(II)I"⟩
abbrev cX8_next : ByteArray := prog_10_method_103_code
def yX8_next : MethodName := ⟨RX8, "next", "()I"⟩
abbrev cX8_noClimb : ByteArray := prog_10_method_104_code
def yX8_noClimb : MethodName := ⟨RX8, "noClimb", "(II)I"⟩
abbrev cX8_climbs : ByteArray := prog_10_method_105_code
def yX8_climbs : MethodName := ⟨RX8, "climbs", "(II)V"⟩
abbrev cX8_judge : ByteArray := prog_10_method_106_code
def yX8_judge : MethodName := ⟨RX8, "judge", "(II)I"⟩
abbrev cX8_breaks : ByteArray := prog_10_method_107_code
def yX8_breaks : MethodName := ⟨RX8, "breaks", "(II)I"⟩
abbrev cX8_climb : ByteArray := prog_10_method_108_code
def yX8_climb : MethodName := ⟨RX8, "climb", "(I)I"⟩
abbrev cX8_comesOut : ByteArray := prog_10_method_109_code
def yX8_comesOut : MethodName := ⟨RX8, "comesOut", "()I"⟩
abbrev cX8_noDays : ByteArray := prog_10_method_110_code
def yX8_noDays : MethodName := ⟨RX8, "noDays", "(I)I"⟩
abbrev cX8_days : ByteArray := prog_10_method_111_code
def yX8_days : MethodName := ⟨RX8, "days", "(I)I"⟩
abbrev cX8_below : ByteArray := prog_10_method_112_code
def yX8_below : MethodName := ⟨RX8, "below", "(I)I"⟩
abbrev cX8_drawn : ByteArray := prog_10_method_113_code
def yX8_drawn : MethodName := ⟨RX8, "drawn", "(I)I"⟩
abbrev cX8_seed : ByteArray := prog_10_method_114_code
def yX8_seed : MethodName := ⟨RX8, "seed", "(I)I"⟩
abbrev cX8_copied : ByteArray := prog_10_method_115_code
def yX8_copied : MethodName := ⟨RX8, "copied", "([I[I)V"⟩
abbrev cX8_takeFrom : ByteArray := prog_10_method_116_code
def yX8_takeFrom : MethodName := ⟨RX8, "takeFrom", "(LTowerOfTurnsModel;)V"⟩
abbrev cX8_image : ByteArray := prog_10_method_117_code
def yX8_image : MethodName := ⟨RX8, "image", "()I"⟩
abbrev cX8_back : ByteArray := prog_10_method_118_code
def yX8_back : MethodName := ⟨RX8, "back", "()I"⟩
abbrev cX8_status : ByteArray := prog_10_method_119_code
def yX8_status : MethodName := ⟨RX8, "status", "(I)I"⟩
def RJ6 : String := "java/lang/Integer"
def TJ6 : u_T := fun k => match k with
  | _ => ("", "", "", false)
def tyJ6 : Nat → FieldType := fun k => match k with
  | _ => .int
abbrev wsJ60 : List Cond := u_ws RJ6 TJ6 0
theorem nmJ6 : ∀ a, a < 0 → ∀ b, b < 0 → a ≠ b → (TJ6 a).2.1 ≠ (TJ6 b).2.1 := by decide +kernel
theorem tyJ6_ok : ∀ k, k < 0 → parseFieldDescriptor (TJ6 k).2.2.1 = some (tyJ6 k) := by decide +kernel
abbrev cJ6_bitCount_0f7a4 : ByteArray := prog_11_method_49_code
def yJ6_bitCount_0f7a4 : MethodName := ⟨RJ6, "bitCount", "(I)I"⟩
def RJ9 : String := "java/lang/Math"
def TJ9 : u_T := fun k => match k with
  | _ => ("", "", "", false)
def tyJ9 : Nat → FieldType := fun k => match k with
  | _ => .int
abbrev wsJ90 : List Cond := u_ws RJ9 TJ9 0
theorem nmJ9 : ∀ a, a < 0 → ∀ b, b < 0 → a ≠ b → (TJ9 a).2.1 ≠ (TJ9 b).2.1 := by decide +kernel
theorem tyJ9_ok : ∀ k, k < 0 → parseFieldDescriptor (TJ9 k).2.2.1 = some (tyJ9 k) := by decide +kernel
abbrev cJ9_abs_0f7a4 : ByteArray := prog_12_method_59_code
def yJ9_abs_0f7a4 : MethodName := ⟨RJ9, "abs", "(I)I"⟩
abbrev cJ9_max_7cf53 : ByteArray := prog_12_method_65_code
def yJ9_max_7cf53 : MethodName := ⟨RJ9, "max", "(II)I"⟩
abbrev cJ9_min_7cf53 : ByteArray := prog_12_method_69_code
def yJ9_min_7cf53 : MethodName := ⟨RJ9, "min", "(II)I"⟩
def RJ0 : String := "java/lang/String"
def TJ0 : u_T := fun k => match k with
  | _ => ("", "", "", false)
def tyJ0 : Nat → FieldType := fun k => match k with
  | _ => .int
abbrev wsJ00 : List Cond := u_ws RJ0 TJ0 0
theorem nmJ0 : ∀ a, a < 0 → ∀ b, b < 0 → a ≠ b → (TJ0 a).2.1 ≠ (TJ0 b).2.1 := by decide +kernel
theorem tyJ0_ok : ∀ k, k < 0 → parseFieldDescriptor (TJ0 k).2.2.1 = some (tyJ0 k) := by decide +kernel
abbrev cJ0_length_8abf5 : ByteArray := prog_13_method_54_code
def yJ0_length_8abf5 : MethodName := ⟨RJ0, "length", "()I"⟩
abbrev cJ0_charAt_5068e : ByteArray := prog_13_method_56_code
def yJ0_charAt_5068e : MethodName := ⟨RJ0, "charAt", "(I)C"⟩
abbrev cJ0_coder_7d493 : ByteArray := prog_13_method_152_code
def yJ0_coder_7d493 : MethodName := ⟨RJ0, "coder", "()B"⟩
abbrev cJ0_isLatin1_aae02 : ByteArray := prog_13_method_154_code
def yJ0_isLatin1_aae02 : MethodName := ⟨RJ0, "isLatin1", "()Z"⟩
abbrev cJ0_checkIndex_df160 : ByteArray := prog_13_method_155_code
def yJ0_checkIndex_df160 : MethodName := ⟨RJ0, "checkIndex", "(II)V"⟩
def RJ1 : String := "java/lang/StringLatin1"
def TJ1 : u_T := fun k => match k with
  | _ => ("", "", "", false)
def tyJ1 : Nat → FieldType := fun k => match k with
  | _ => .int
abbrev wsJ10 : List Cond := u_ws RJ1 TJ1 0
theorem nmJ1 : ∀ a, a < 0 → ∀ b, b < 0 → a ≠ b → (TJ1 a).2.1 ≠ (TJ1 b).2.1 := by decide +kernel
theorem tyJ1_ok : ∀ k, k < 0 → parseFieldDescriptor (TJ1 k).2.2.1 = some (tyJ1 k) := by decide +kernel
abbrev cJ1_charAt_3b067 : ByteArray := prog_14_method_2_code
def yJ1_charAt_3b067 : MethodName := ⟨RJ1, "charAt", "([BI)C"⟩
def RJ2 : String := "java/lang/StringUTF16"
def TJ2 : u_T := fun k => match k with
  | _ => ("", "", "", false)
def tyJ2 : Nat → FieldType := fun k => match k with
  | _ => .int
abbrev wsJ20 : List Cond := u_ws RJ2 TJ2 0
theorem nmJ2 : ∀ a, a < 0 → ∀ b, b < 0 → a ≠ b → (TJ2 a).2.1 ≠ (TJ2 b).2.1 := by decide +kernel
theorem tyJ2_ok : ∀ k, k < 0 → parseFieldDescriptor (TJ2 k).2.2.1 = some (tyJ2 k) := by decide +kernel
abbrev cJ2_getChar_3b067 : ByteArray := prog_15_method_5_code
def yJ2_getChar_3b067 : MethodName := ⟨RJ2, "getChar", "([BI)C"⟩
abbrev cJ2_length_9d52b : ByteArray := prog_15_method_6_code
def yJ2_length_9d52b : MethodName := ⟨RJ2, "length", "([B)I"⟩
abbrev cJ2_charAt_3b067 : ByteArray := prog_15_method_83_code
def yJ2_charAt_3b067 : MethodName := ⟨RJ2, "charAt", "([BI)C"⟩
abbrev cJ2_checkIndex_2214a : ByteArray := prog_15_method_91_code
def yJ2_checkIndex_2214a : MethodName := ⟨RJ2, "checkIndex", "(I[B)V"⟩
def RJ10 : String := "java/lang/System"
def TJ10 : u_T := fun k => match k with
  | _ => ("", "", "", false)
def tyJ10 : Nat → FieldType := fun k => match k with
  | _ => .int
abbrev wsJ100 : List Cond := u_ws RJ10 TJ10 0
theorem nmJ10 : ∀ a, a < 0 → ∀ b, b < 0 → a ≠ b → (TJ10 a).2.1 ≠ (TJ10 b).2.1 := by decide +kernel
theorem tyJ10_ok : ∀ k, k < 0 → parseFieldDescriptor (TJ10 k).2.2.1 = some (tyJ10 k) := by decide +kernel
def RJ3 : String := "jdk/internal/util/Preconditions"
def TJ3 : u_T := fun k => match k with
  | _ => ("", "", "", false)
def tyJ3 : Nat → FieldType := fun k => match k with
  | _ => .int
abbrev wsJ30 : List Cond := u_ws RJ3 TJ3 0
theorem nmJ3 : ∀ a, a < 0 → ∀ b, b < 0 → a ≠ b → (TJ3 a).2.1 ≠ (TJ3 b).2.1 := by decide +kernel
theorem tyJ3_ok : ∀ k, k < 0 → parseFieldDescriptor (TJ3 k).2.2.1 = some (tyJ3 k) := by decide +kernel
abbrev cJ3_checkIndex_8e157 : ByteArray := prog_17_method_11_code
def yJ3_checkIndex_8e157 : MethodName := ⟨RJ3, "checkIndex", "(IILjava/util/function/BiFunction;)I"⟩
def RL : String := "TowerOfTurnsLaw"
abbrev cL_law : ByteArray := code
def yL_law : MethodName := ⟨RL, "law", "([I)Z"⟩
