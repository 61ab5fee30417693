section
-- ===== PART A: goes FIRST, ahead of the names: the tables' words, and 'selects' of the private methods out of them =====
/-- a private method of a class that the tables say can be made, by its rows of tables_1 -/
def lw_okq (q : MethodName × Nat) : Prop := (q.1.cls ≠ "java/lang/invoke/MethodHandle" ∧ q.1.cls ≠ "java/lang/invoke/VarHandle") ∧ Cond.instantiable q.1.cls q.2 ∈ tables_1 ∧ Cond.privateMethod q.1 ∈ tables_1 ∧ Cond.instanceMethod q.1 ∈ tables_1
theorem lw_p0 : lw_okq (⟨"RoseWall$Room", "neighbours", "(I)I"⟩, 15) := ⟨⟨by decide +kernel, by decide +kernel⟩, List.mem_of_getElem? (i := 251) (by decide +kernel), List.mem_of_getElem? (i := 288) (by decide +kernel), List.mem_of_getElem? (i := 289) (by decide +kernel)⟩
theorem lw_p1 : lw_okq (⟨"RoseWall", "tapeFour", "(I)V"⟩, 17) := ⟨⟨by decide +kernel, by decide +kernel⟩, List.mem_of_getElem? (i := 23) (by decide +kernel), List.mem_of_getElem? (i := 460) (by decide +kernel), List.mem_of_getElem? (i := 461) (by decide +kernel)⟩
theorem lw_p2 : lw_okq (⟨"RoseWall", "spareRoom", "()LRoseWall$Room;"⟩, 17) := ⟨⟨by decide +kernel, by decide +kernel⟩, List.mem_of_getElem? (i := 23) (by decide +kernel), List.mem_of_getElem? (i := 468) (by decide +kernel), List.mem_of_getElem? (i := 469) (by decide +kernel)⟩
theorem lw_p3 : lw_okq (⟨"RoseWall$Tokens", "splitNext", "()I"⟩, 13) := ⟨⟨by decide +kernel, by decide +kernel⟩, List.mem_of_getElem? (i := 31) (by decide +kernel), List.mem_of_getElem? (i := 482) (by decide +kernel), List.mem_of_getElem? (i := 483) (by decide +kernel)⟩
theorem lw_p4 : lw_okq (⟨"RoseWall$Tokens", "kindOfWord", "()I"⟩, 13) := ⟨⟨by decide +kernel, by decide +kernel⟩, List.mem_of_getElem? (i := 31) (by decide +kernel), List.mem_of_getElem? (i := 492) (by decide +kernel), List.mem_of_getElem? (i := 493) (by decide +kernel)⟩
theorem lw_p5 : lw_okq (⟨"RoseWall$Tokens", "isWord", "(Ljava/lang/String;)Z"⟩, 13) := ⟨⟨by decide +kernel, by decide +kernel⟩, List.mem_of_getElem? (i := 31) (by decide +kernel), List.mem_of_getElem? (i := 497) (by decide +kernel), List.mem_of_getElem? (i := 498) (by decide +kernel)⟩
theorem lw_p6 : lw_okq (⟨"RoseWall$Tokens", "kindOfFour", "()I"⟩, 13) := ⟨⟨by decide +kernel, by decide +kernel⟩, List.mem_of_getElem? (i := 31) (by decide +kernel), List.mem_of_getElem? (i := 554) (by decide +kernel), List.mem_of_getElem? (i := 555) (by decide +kernel)⟩
theorem lw_p7 : lw_okq (⟨"RoseWall$Tokens", "readNumber", "()I"⟩, 13) := ⟨⟨by decide +kernel, by decide +kernel⟩, List.mem_of_getElem? (i := 31) (by decide +kernel), List.mem_of_getElem? (i := 627) (by decide +kernel), List.mem_of_getElem? (i := 628) (by decide +kernel)⟩
theorem lw_p8 : lw_okq (⟨"RoseWall$RoomReader", "readWall", "()Z"⟩, 3) := ⟨⟨by decide +kernel, by decide +kernel⟩, List.mem_of_getElem? (i := 84) (by decide +kernel), List.mem_of_getElem? (i := 640) (by decide +kernel), List.mem_of_getElem? (i := 641) (by decide +kernel)⟩
theorem lw_p9 : lw_okq (⟨"RoseWall$RoomReader", "readLine", "()Z"⟩, 3) := ⟨⟨by decide +kernel, by decide +kernel⟩, List.mem_of_getElem? (i := 84) (by decide +kernel), List.mem_of_getElem? (i := 657) (by decide +kernel), List.mem_of_getElem? (i := 658) (by decide +kernel)⟩
theorem lw_p10 : lw_okq (⟨"RoseWall$RoomReader", "readKinds", "()Z"⟩, 3) := ⟨⟨by decide +kernel, by decide +kernel⟩, List.mem_of_getElem? (i := 84) (by decide +kernel), List.mem_of_getElem? (i := 666) (by decide +kernel), List.mem_of_getElem? (i := 667) (by decide +kernel)⟩
theorem lw_p11 : lw_okq (⟨"RoseWall$RoomReader", "readTenant", "()Z"⟩, 3) := ⟨⟨by decide +kernel, by decide +kernel⟩, List.mem_of_getElem? (i := 84) (by decide +kernel), List.mem_of_getElem? (i := 674) (by decide +kernel), List.mem_of_getElem? (i := 675) (by decide +kernel)⟩
theorem lw_p12 : lw_okq (⟨"RoseWall$RoomReader", "readFace", "()Z"⟩, 3) := ⟨⟨by decide +kernel, by decide +kernel⟩, List.mem_of_getElem? (i := 84) (by decide +kernel), List.mem_of_getElem? (i := 678) (by decide +kernel), List.mem_of_getElem? (i := 679) (by decide +kernel)⟩
theorem lw_p13 : lw_okq (⟨"RoseWall$LawReader", "readTruth", "(I)Z"⟩, 3) := ⟨⟨by decide +kernel, by decide +kernel⟩, List.mem_of_getElem? (i := 90) (by decide +kernel), List.mem_of_getElem? (i := 687) (by decide +kernel), List.mem_of_getElem? (i := 688) (by decide +kernel)⟩
theorem lw_p14 : lw_okq (⟨"RoseWall$LawReader", "readBoth", "(I)Z"⟩, 3) := ⟨⟨by decide +kernel, by decide +kernel⟩, List.mem_of_getElem? (i := 90) (by decide +kernel), List.mem_of_getElem? (i := 691) (by decide +kernel), List.mem_of_getElem? (i := 692) (by decide +kernel)⟩
theorem lw_p15 : lw_okq (⟨"RoseWall$LawReader", "readUnit", "(I)Z"⟩, 3) := ⟨⟨by decide +kernel, by decide +kernel⟩, List.mem_of_getElem? (i := 90) (by decide +kernel), List.mem_of_getElem? (i := 695) (by decide +kernel), List.mem_of_getElem? (i := 696) (by decide +kernel)⟩
def lw_privs_1 : List (MethodName × Nat) := [(⟨"RoseWall$Room", "neighbours", "(I)I"⟩, 15), (⟨"RoseWall", "tapeFour", "(I)V"⟩, 17), (⟨"RoseWall", "spareRoom", "()LRoseWall$Room;"⟩, 17), (⟨"RoseWall$Tokens", "splitNext", "()I"⟩, 13), (⟨"RoseWall$Tokens", "kindOfWord", "()I"⟩, 13), (⟨"RoseWall$Tokens", "isWord", "(Ljava/lang/String;)Z"⟩, 13), (⟨"RoseWall$Tokens", "kindOfFour", "()I"⟩, 13), (⟨"RoseWall$Tokens", "readNumber", "()I"⟩, 13), (⟨"RoseWall$RoomReader", "readWall", "()Z"⟩, 3), (⟨"RoseWall$RoomReader", "readLine", "()Z"⟩, 3), (⟨"RoseWall$RoomReader", "readKinds", "()Z"⟩, 3), (⟨"RoseWall$RoomReader", "readTenant", "()Z"⟩, 3), (⟨"RoseWall$RoomReader", "readFace", "()Z"⟩, 3), (⟨"RoseWall$LawReader", "readTruth", "(I)Z"⟩, 3), (⟨"RoseWall$LawReader", "readBoth", "(I)Z"⟩, 3), (⟨"RoseWall$LawReader", "readUnit", "(I)Z"⟩, 3)]
theorem lw_r1 : ∀ q ∈ lw_privs_1, lw_okq q := List.forall_mem_cons.mpr ⟨lw_p0, List.forall_mem_cons.mpr ⟨lw_p1, List.forall_mem_cons.mpr ⟨lw_p2, List.forall_mem_cons.mpr ⟨lw_p3, List.forall_mem_cons.mpr ⟨lw_p4, List.forall_mem_cons.mpr ⟨lw_p5, List.forall_mem_cons.mpr ⟨lw_p6, List.forall_mem_cons.mpr ⟨lw_p7, List.forall_mem_cons.mpr ⟨lw_p8, List.forall_mem_cons.mpr ⟨lw_p9, List.forall_mem_cons.mpr ⟨lw_p10, List.forall_mem_cons.mpr ⟨lw_p11, List.forall_mem_cons.mpr ⟨lw_p12, List.forall_mem_cons.mpr ⟨lw_p13, List.forall_mem_cons.mpr ⟨lw_p14, List.forall_mem_cons.mpr ⟨lw_p15, fun _ h => absurd h List.not_mem_nil⟩⟩⟩⟩⟩⟩⟩⟩⟩⟩⟩⟩⟩⟩⟩⟩
theorem lw_p16 : lw_okq (⟨"RoseWall$LawReader", "enter", "(I)Z"⟩, 3) := ⟨⟨by decide +kernel, by decide +kernel⟩, List.mem_of_getElem? (i := 90) (by decide +kernel), List.mem_of_getElem? (i := 699) (by decide +kernel), List.mem_of_getElem? (i := 700) (by decide +kernel)⟩
theorem lw_p17 : lw_okq (⟨"RoseWall$LawReader", "readSum", "(I)Z"⟩, 3) := ⟨⟨by decide +kernel, by decide +kernel⟩, List.mem_of_getElem? (i := 90) (by decide +kernel), List.mem_of_getElem? (i := 710) (by decide +kernel), List.mem_of_getElem? (i := 711) (by decide +kernel)⟩
theorem lw_p18 : lw_okq (⟨"RoseWall$LawReader", "readTerm", "(I)Z"⟩, 3) := ⟨⟨by decide +kernel, by decide +kernel⟩, List.mem_of_getElem? (i := 90) (by decide +kernel), List.mem_of_getElem? (i := 714) (by decide +kernel), List.mem_of_getElem? (i := 715) (by decide +kernel)⟩
theorem lw_p19 : lw_okq (⟨"RoseWall$LawReader", "readAtom", "(I)Z"⟩, 3) := ⟨⟨by decide +kernel, by decide +kernel⟩, List.mem_of_getElem? (i := 90) (by decide +kernel), List.mem_of_getElem? (i := 718) (by decide +kernel), List.mem_of_getElem? (i := 719) (by decide +kernel)⟩
theorem lw_p20 : lw_okq (⟨"RoseWall$LawReader", "isValue", "(I)Z"⟩, 3) := ⟨⟨by decide +kernel, by decide +kernel⟩, List.mem_of_getElem? (i := 90) (by decide +kernel), List.mem_of_getElem? (i := 722) (by decide +kernel), List.mem_of_getElem? (i := 723) (by decide +kernel)⟩
theorem lw_p21 : lw_okq (⟨"RoseWall$RoomReader", "readOne", "(I)Z"⟩, 3) := ⟨⟨by decide +kernel, by decide +kernel⟩, List.mem_of_getElem? (i := 84) (by decide +kernel), List.mem_of_getElem? (i := 726) (by decide +kernel), List.mem_of_getElem? (i := 727) (by decide +kernel)⟩
theorem lw_p22 : lw_okq (⟨"RoseWall$RoomReader", "highest", "(I)I"⟩, 3) := ⟨⟨by decide +kernel, by decide +kernel⟩, List.mem_of_getElem? (i := 84) (by decide +kernel), List.mem_of_getElem? (i := 730) (by decide +kernel), List.mem_of_getElem? (i := 731) (by decide +kernel)⟩
theorem lw_p23 : lw_okq (⟨"RoseWall$Steps", "learnTurning", "(II)J"⟩, 8) := ⟨⟨by decide +kernel, by decide +kernel⟩, List.mem_of_getElem? (i := 163) (by decide +kernel), List.mem_of_getElem? (i := 768) (by decide +kernel), List.mem_of_getElem? (i := 769) (by decide +kernel)⟩
theorem lw_p24 : lw_okq (⟨"RoseWall", "doneAlone", "(II)I"⟩, 17) := ⟨⟨by decide +kernel, by decide +kernel⟩, List.mem_of_getElem? (i := 23) (by decide +kernel), List.mem_of_getElem? (i := 805) (by decide +kernel), List.mem_of_getElem? (i := 806) (by decide +kernel)⟩
theorem lw_p25 : lw_okq (⟨"RoseWall", "doDeed", "(LRoseWall$Moment;J)I"⟩, 17) := ⟨⟨by decide +kernel, by decide +kernel⟩, List.mem_of_getElem? (i := 23) (by decide +kernel), List.mem_of_getElem? (i := 813) (by decide +kernel), List.mem_of_getElem? (i := 814) (by decide +kernel)⟩
theorem lw_p26 : lw_okq (⟨"RoseWall", "doLet", "(LRoseWall$Moment;I)I"⟩, 17) := ⟨⟨by decide +kernel, by decide +kernel⟩, List.mem_of_getElem? (i := 23) (by decide +kernel), List.mem_of_getElem? (i := 818) (by decide +kernel), List.mem_of_getElem? (i := 819) (by decide +kernel)⟩
theorem lw_p27 : lw_okq (⟨"RoseWall", "passNight", "(LRoseWall$Moment;I)V"⟩, 17) := ⟨⟨by decide +kernel, by decide +kernel⟩, List.mem_of_getElem? (i := 23) (by decide +kernel), List.mem_of_getElem? (i := 823) (by decide +kernel), List.mem_of_getElem? (i := 824) (by decide +kernel)⟩
theorem lw_p28 : lw_okq (⟨"RoseWall", "doTray", "(LRoseWall$Tray;LRoseWall$Moment;)I"⟩, 17) := ⟨⟨by decide +kernel, by decide +kernel⟩, List.mem_of_getElem? (i := 23) (by decide +kernel), List.mem_of_getElem? (i := 871) (by decide +kernel), List.mem_of_getElem? (i := 872) (by decide +kernel)⟩
theorem lw_p29 : lw_okq (⟨"RoseWall", "here", "()I"⟩, 17) := ⟨⟨by decide +kernel, by decide +kernel⟩, List.mem_of_getElem? (i := 23) (by decide +kernel), List.mem_of_getElem? (i := 900) (by decide +kernel), List.mem_of_getElem? (i := 901) (by decide +kernel)⟩
theorem lw_p30 : lw_okq (⟨"RoseWall$Reach", "add", "(II)I"⟩, 7) := ⟨⟨by decide +kernel, by decide +kernel⟩, List.mem_of_getElem? (i := 195) (by decide +kernel), List.mem_of_getElem? (i := 916) (by decide +kernel), List.mem_of_getElem? (i := 917) (by decide +kernel)⟩
theorem lw_p31 : lw_okq (⟨"RoseWall$Contest", "begin", "(LRoseWall$Reach;Z)V"⟩, 6) := ⟨⟨by decide +kernel, by decide +kernel⟩, List.mem_of_getElem? (i := 227) (by decide +kernel), List.mem_of_getElem? (i := 958) (by decide +kernel), List.mem_of_getElem? (i := 959) (by decide +kernel)⟩
def lw_privs_2 : List (MethodName × Nat) := [(⟨"RoseWall$LawReader", "enter", "(I)Z"⟩, 3), (⟨"RoseWall$LawReader", "readSum", "(I)Z"⟩, 3), (⟨"RoseWall$LawReader", "readTerm", "(I)Z"⟩, 3), (⟨"RoseWall$LawReader", "readAtom", "(I)Z"⟩, 3), (⟨"RoseWall$LawReader", "isValue", "(I)Z"⟩, 3), (⟨"RoseWall$RoomReader", "readOne", "(I)Z"⟩, 3), (⟨"RoseWall$RoomReader", "highest", "(I)I"⟩, 3), (⟨"RoseWall$Steps", "learnTurning", "(II)J"⟩, 8), (⟨"RoseWall", "doneAlone", "(II)I"⟩, 17), (⟨"RoseWall", "doDeed", "(LRoseWall$Moment;J)I"⟩, 17), (⟨"RoseWall", "doLet", "(LRoseWall$Moment;I)I"⟩, 17), (⟨"RoseWall", "passNight", "(LRoseWall$Moment;I)V"⟩, 17), (⟨"RoseWall", "doTray", "(LRoseWall$Tray;LRoseWall$Moment;)I"⟩, 17), (⟨"RoseWall", "here", "()I"⟩, 17), (⟨"RoseWall$Reach", "add", "(II)I"⟩, 7), (⟨"RoseWall$Contest", "begin", "(LRoseWall$Reach;Z)V"⟩, 6)]
theorem lw_r2 : ∀ q ∈ lw_privs_2, lw_okq q := List.forall_mem_cons.mpr ⟨lw_p16, List.forall_mem_cons.mpr ⟨lw_p17, List.forall_mem_cons.mpr ⟨lw_p18, List.forall_mem_cons.mpr ⟨lw_p19, List.forall_mem_cons.mpr ⟨lw_p20, List.forall_mem_cons.mpr ⟨lw_p21, List.forall_mem_cons.mpr ⟨lw_p22, List.forall_mem_cons.mpr ⟨lw_p23, List.forall_mem_cons.mpr ⟨lw_p24, List.forall_mem_cons.mpr ⟨lw_p25, List.forall_mem_cons.mpr ⟨lw_p26, List.forall_mem_cons.mpr ⟨lw_p27, List.forall_mem_cons.mpr ⟨lw_p28, List.forall_mem_cons.mpr ⟨lw_p29, List.forall_mem_cons.mpr ⟨lw_p30, List.forall_mem_cons.mpr ⟨lw_p31, fun _ h => absurd h List.not_mem_nil⟩⟩⟩⟩⟩⟩⟩⟩⟩⟩⟩⟩⟩⟩⟩⟩
theorem lw_p32 : lw_okq (⟨"RoseWall$Contest", "leadOut", "(II)V"⟩, 6) := ⟨⟨by decide +kernel, by decide +kernel⟩, List.mem_of_getElem? (i := 227) (by decide +kernel), List.mem_of_getElem? (i := 963) (by decide +kernel), List.mem_of_getElem? (i := 964) (by decide +kernel)⟩
theorem lw_p33 : lw_okq (⟨"RoseWall$Contest", "addEdge", "(II)V"⟩, 6) := ⟨⟨by decide +kernel, by decide +kernel⟩, List.mem_of_getElem? (i := 227) (by decide +kernel), List.mem_of_getElem? (i := 967) (by decide +kernel), List.mem_of_getElem? (i := 968) (by decide +kernel)⟩
theorem lw_p34 : lw_okq (⟨"RoseWall$Reach", "spreadWays", "()V"⟩, 7) := ⟨⟨by decide +kernel, by decide +kernel⟩, List.mem_of_getElem? (i := 195) (by decide +kernel), List.mem_of_getElem? (i := 1079) (by decide +kernel), List.mem_of_getElem? (i := 1080) (by decide +kernel)⟩
theorem lw_p35 : lw_okq (⟨"RoseWall", "refusedSeen", "(I)I"⟩, 17) := ⟨⟨by decide +kernel, by decide +kernel⟩, List.mem_of_getElem? (i := 23) (by decide +kernel), List.mem_of_getElem? (i := 1087) (by decide +kernel), List.mem_of_getElem? (i := 1088) (by decide +kernel)⟩
theorem lw_p36 : lw_okq (⟨"RoseWall", "rowsSeen", "(LRoseWall$Tray;II)I"⟩, 17) := ⟨⟨by decide +kernel, by decide +kernel⟩, List.mem_of_getElem? (i := 23) (by decide +kernel), List.mem_of_getElem? (i := 1093) (by decide +kernel), List.mem_of_getElem? (i := 1094) (by decide +kernel)⟩
theorem lw_p37 : lw_okq (⟨"RoseWall", "isFirstBlind", "(LRoseWall$Tray;II)Z"⟩, 17) := ⟨⟨by decide +kernel, by decide +kernel⟩, List.mem_of_getElem? (i := 23) (by decide +kernel), List.mem_of_getElem? (i := 1107) (by decide +kernel), List.mem_of_getElem? (i := 1108) (by decide +kernel)⟩
theorem lw_p38 : lw_okq (⟨"RoseWall", "refusedTempers", "(II)I"⟩, 17) := ⟨⟨by decide +kernel, by decide +kernel⟩, List.mem_of_getElem? (i := 23) (by decide +kernel), List.mem_of_getElem? (i := 1120) (by decide +kernel), List.mem_of_getElem? (i := 1121) (by decide +kernel)⟩
theorem lw_p39 : lw_okq (⟨"RoseWall", "tempersSeen", "(LRoseWall$Tray;I)I"⟩, 17) := ⟨⟨by decide +kernel, by decide +kernel⟩, List.mem_of_getElem? (i := 23) (by decide +kernel), List.mem_of_getElem? (i := 1124) (by decide +kernel), List.mem_of_getElem? (i := 1125) (by decide +kernel)⟩
theorem lw_p40 : lw_okq (⟨"RoseWall", "isTemperSeen", "(LRoseWall$Tray;II)Z"⟩, 17) := ⟨⟨by decide +kernel, by decide +kernel⟩, List.mem_of_getElem? (i := 23) (by decide +kernel), List.mem_of_getElem? (i := 1128) (by decide +kernel), List.mem_of_getElem? (i := 1129) (by decide +kernel)⟩
theorem lw_p41 : lw_okq (⟨"RoseWall", "mostAlike", "(II)I"⟩, 17) := ⟨⟨by decide +kernel, by decide +kernel⟩, List.mem_of_getElem? (i := 23) (by decide +kernel), List.mem_of_getElem? (i := 1136) (by decide +kernel), List.mem_of_getElem? (i := 1137) (by decide +kernel)⟩
theorem lw_p42 : lw_okq (⟨"RoseWall", "alike", "(I)I"⟩, 17) := ⟨⟨by decide +kernel, by decide +kernel⟩, List.mem_of_getElem? (i := 23) (by decide +kernel), List.mem_of_getElem? (i := 1140) (by decide +kernel), List.mem_of_getElem? (i := 1141) (by decide +kernel)⟩
theorem lw_p43 : lw_okq (⟨"RoseWall", "share", "(II)I"⟩, 17) := ⟨⟨by decide +kernel, by decide +kernel⟩, List.mem_of_getElem? (i := 23) (by decide +kernel), List.mem_of_getElem? (i := 1149) (by decide +kernel), List.mem_of_getElem? (i := 1150) (by decide +kernel)⟩
theorem lw_p44 : lw_okq (⟨"RoseWallModel", "next", "()V"⟩, 35) := ⟨⟨by decide +kernel, by decide +kernel⟩, List.mem_of_getElem? (i := 1206) (by decide +kernel), List.mem_of_getElem? (i := 1333) (by decide +kernel), List.mem_of_getElem? (i := 1334) (by decide +kernel)⟩
theorem lw_p45 : lw_okq (⟨"RoseWallModel", "see", "(I)I"⟩, 35) := ⟨⟨by decide +kernel, by decide +kernel⟩, List.mem_of_getElem? (i := 1206) (by decide +kernel), List.mem_of_getElem? (i := 1337) (by decide +kernel), List.mem_of_getElem? (i := 1338) (by decide +kernel)⟩
theorem lw_p46 : lw_okq (⟨"RoseWallModel", "keyAt", "()I"⟩, 35) := ⟨⟨by decide +kernel, by decide +kernel⟩, List.mem_of_getElem? (i := 1206) (by decide +kernel), List.mem_of_getElem? (i := 1344) (by decide +kernel), List.mem_of_getElem? (i := 1345) (by decide +kernel)⟩
theorem lw_p47 : lw_okq (⟨"RoseWallModel", "eats", "(I)Z"⟩, 35) := ⟨⟨by decide +kernel, by decide +kernel⟩, List.mem_of_getElem? (i := 1206) (by decide +kernel), List.mem_of_getElem? (i := 1355) (by decide +kernel), List.mem_of_getElem? (i := 1356) (by decide +kernel)⟩
def lw_privs_3 : List (MethodName × Nat) := [(⟨"RoseWall$Contest", "leadOut", "(II)V"⟩, 6), (⟨"RoseWall$Contest", "addEdge", "(II)V"⟩, 6), (⟨"RoseWall$Reach", "spreadWays", "()V"⟩, 7), (⟨"RoseWall", "refusedSeen", "(I)I"⟩, 17), (⟨"RoseWall", "rowsSeen", "(LRoseWall$Tray;II)I"⟩, 17), (⟨"RoseWall", "isFirstBlind", "(LRoseWall$Tray;II)Z"⟩, 17), (⟨"RoseWall", "refusedTempers", "(II)I"⟩, 17), (⟨"RoseWall", "tempersSeen", "(LRoseWall$Tray;I)I"⟩, 17), (⟨"RoseWall", "isTemperSeen", "(LRoseWall$Tray;II)Z"⟩, 17), (⟨"RoseWall", "mostAlike", "(II)I"⟩, 17), (⟨"RoseWall", "alike", "(I)I"⟩, 17), (⟨"RoseWall", "share", "(II)I"⟩, 17), (⟨"RoseWallModel", "next", "()V"⟩, 35), (⟨"RoseWallModel", "see", "(I)I"⟩, 35), (⟨"RoseWallModel", "keyAt", "()I"⟩, 35), (⟨"RoseWallModel", "eats", "(I)Z"⟩, 35)]
theorem lw_r3 : ∀ q ∈ lw_privs_3, lw_okq q := List.forall_mem_cons.mpr ⟨lw_p32, List.forall_mem_cons.mpr ⟨lw_p33, List.forall_mem_cons.mpr ⟨lw_p34, List.forall_mem_cons.mpr ⟨lw_p35, List.forall_mem_cons.mpr ⟨lw_p36, List.forall_mem_cons.mpr ⟨lw_p37, List.forall_mem_cons.mpr ⟨lw_p38, List.forall_mem_cons.mpr ⟨lw_p39, List.forall_mem_cons.mpr ⟨lw_p40, List.forall_mem_cons.mpr ⟨lw_p41, List.forall_mem_cons.mpr ⟨lw_p42, List.forall_mem_cons.mpr ⟨lw_p43, List.forall_mem_cons.mpr ⟨lw_p44, List.forall_mem_cons.mpr ⟨lw_p45, List.forall_mem_cons.mpr ⟨lw_p46, List.forall_mem_cons.mpr ⟨lw_p47, fun _ h => absurd h List.not_mem_nil⟩⟩⟩⟩⟩⟩⟩⟩⟩⟩⟩⟩⟩⟩⟩⟩
theorem lw_p48 : lw_okq (⟨"RoseWallModel", "is", "(I)Z"⟩, 35) := ⟨⟨by decide +kernel, by decide +kernel⟩, List.mem_of_getElem? (i := 1206) (by decide +kernel), List.mem_of_getElem? (i := 1359) (by decide +kernel), List.mem_of_getElem? (i := 1360) (by decide +kernel)⟩
theorem lw_p49 : lw_okq (⟨"RoseWallModel", "fails", "(I)V"⟩, 35) := ⟨⟨by decide +kernel, by decide +kernel⟩, List.mem_of_getElem? (i := 1206) (by decide +kernel), List.mem_of_getElem? (i := 1363) (by decide +kernel), List.mem_of_getElem? (i := 1364) (by decide +kernel)⟩
theorem lw_p50 : lw_okq (⟨"RoseWallModel", "takes", "(II)I"⟩, 35) := ⟨⟨by decide +kernel, by decide +kernel⟩, List.mem_of_getElem? (i := 1206) (by decide +kernel), List.mem_of_getElem? (i := 1367) (by decide +kernel), List.mem_of_getElem? (i := 1368) (by decide +kernel)⟩
theorem lw_p51 : lw_okq (⟨"RoseWallModel", "ends", "()V"⟩, 35) := ⟨⟨by decide +kernel, by decide +kernel⟩, List.mem_of_getElem? (i := 1206) (by decide +kernel), List.mem_of_getElem? (i := 1371) (by decide +kernel), List.mem_of_getElem? (i := 1372) (by decide +kernel)⟩
theorem lw_p52 : lw_okq (⟨"RoseWallModel", "readLine", "()V"⟩, 35) := ⟨⟨by decide +kernel, by decide +kernel⟩, List.mem_of_getElem? (i := 1206) (by decide +kernel), List.mem_of_getElem? (i := 1375) (by decide +kernel), List.mem_of_getElem? (i := 1376) (by decide +kernel)⟩
theorem lw_p53 : lw_okq (⟨"RoseWallModel", "readRow", "()V"⟩, 35) := ⟨⟨by decide +kernel, by decide +kernel⟩, List.mem_of_getElem? (i := 1206) (by decide +kernel), List.mem_of_getElem? (i := 1379) (by decide +kernel), List.mem_of_getElem? (i := 1380) (by decide +kernel)⟩
theorem lw_p54 : lw_okq (⟨"RoseWallModel", "readTenant", "()V"⟩, 35) := ⟨⟨by decide +kernel, by decide +kernel⟩, List.mem_of_getElem? (i := 1206) (by decide +kernel), List.mem_of_getElem? (i := 1383) (by decide +kernel), List.mem_of_getElem? (i := 1384) (by decide +kernel)⟩
theorem lw_p55 : lw_okq (⟨"RoseWallModel", "readRose", "()I"⟩, 35) := ⟨⟨by decide +kernel, by decide +kernel⟩, List.mem_of_getElem? (i := 1206) (by decide +kernel), List.mem_of_getElem? (i := 1387) (by decide +kernel), List.mem_of_getElem? (i := 1388) (by decide +kernel)⟩
theorem lw_p56 : lw_okq (⟨"RoseWallModel", "readFace", "()V"⟩, 35) := ⟨⟨by decide +kernel, by decide +kernel⟩, List.mem_of_getElem? (i := 1206) (by decide +kernel), List.mem_of_getElem? (i := 1391) (by decide +kernel), List.mem_of_getElem? (i := 1392) (by decide +kernel)⟩
theorem lw_p57 : lw_okq (⟨"RoseWallModel", "readLaw", "(I)V"⟩, 35) := ⟨⟨by decide +kernel, by decide +kernel⟩, List.mem_of_getElem? (i := 1206) (by decide +kernel), List.mem_of_getElem? (i := 1395) (by decide +kernel), List.mem_of_getElem? (i := 1396) (by decide +kernel)⟩
theorem lw_p58 : lw_okq (⟨"RoseWallModel", "readTruth", "(I)V"⟩, 35) := ⟨⟨by decide +kernel, by decide +kernel⟩, List.mem_of_getElem? (i := 1206) (by decide +kernel), List.mem_of_getElem? (i := 1399) (by decide +kernel), List.mem_of_getElem? (i := 1400) (by decide +kernel)⟩
theorem lw_p59 : lw_okq (⟨"RoseWallModel", "readBoth", "(I)V"⟩, 35) := ⟨⟨by decide +kernel, by decide +kernel⟩, List.mem_of_getElem? (i := 1206) (by decide +kernel), List.mem_of_getElem? (i := 1403) (by decide +kernel), List.mem_of_getElem? (i := 1404) (by decide +kernel)⟩
theorem lw_p60 : lw_okq (⟨"RoseWallModel", "readUnit", "(I)V"⟩, 35) := ⟨⟨by decide +kernel, by decide +kernel⟩, List.mem_of_getElem? (i := 1206) (by decide +kernel), List.mem_of_getElem? (i := 1407) (by decide +kernel), List.mem_of_getElem? (i := 1408) (by decide +kernel)⟩
theorem lw_p61 : lw_okq (⟨"RoseWallModel", "goesIn", "(I)Z"⟩, 35) := ⟨⟨by decide +kernel, by decide +kernel⟩, List.mem_of_getElem? (i := 1206) (by decide +kernel), List.mem_of_getElem? (i := 1411) (by decide +kernel), List.mem_of_getElem? (i := 1412) (by decide +kernel)⟩
theorem lw_p62 : lw_okq (⟨"RoseWallModel", "codes", "(I)V"⟩, 35) := ⟨⟨by decide +kernel, by decide +kernel⟩, List.mem_of_getElem? (i := 1206) (by decide +kernel), List.mem_of_getElem? (i := 1415) (by decide +kernel), List.mem_of_getElem? (i := 1416) (by decide +kernel)⟩
theorem lw_p63 : lw_okq (⟨"RoseWallModel", "readSum", "(I)V"⟩, 35) := ⟨⟨by decide +kernel, by decide +kernel⟩, List.mem_of_getElem? (i := 1206) (by decide +kernel), List.mem_of_getElem? (i := 1419) (by decide +kernel), List.mem_of_getElem? (i := 1420) (by decide +kernel)⟩
def lw_privs_4 : List (MethodName × Nat) := [(⟨"RoseWallModel", "is", "(I)Z"⟩, 35), (⟨"RoseWallModel", "fails", "(I)V"⟩, 35), (⟨"RoseWallModel", "takes", "(II)I"⟩, 35), (⟨"RoseWallModel", "ends", "()V"⟩, 35), (⟨"RoseWallModel", "readLine", "()V"⟩, 35), (⟨"RoseWallModel", "readRow", "()V"⟩, 35), (⟨"RoseWallModel", "readTenant", "()V"⟩, 35), (⟨"RoseWallModel", "readRose", "()I"⟩, 35), (⟨"RoseWallModel", "readFace", "()V"⟩, 35), (⟨"RoseWallModel", "readLaw", "(I)V"⟩, 35), (⟨"RoseWallModel", "readTruth", "(I)V"⟩, 35), (⟨"RoseWallModel", "readBoth", "(I)V"⟩, 35), (⟨"RoseWallModel", "readUnit", "(I)V"⟩, 35), (⟨"RoseWallModel", "goesIn", "(I)Z"⟩, 35), (⟨"RoseWallModel", "codes", "(I)V"⟩, 35), (⟨"RoseWallModel", "readSum", "(I)V"⟩, 35)]
theorem lw_r4 : ∀ q ∈ lw_privs_4, lw_okq q := List.forall_mem_cons.mpr ⟨lw_p48, List.forall_mem_cons.mpr ⟨lw_p49, List.forall_mem_cons.mpr ⟨lw_p50, List.forall_mem_cons.mpr ⟨lw_p51, List.forall_mem_cons.mpr ⟨lw_p52, List.forall_mem_cons.mpr ⟨lw_p53, List.forall_mem_cons.mpr ⟨lw_p54, List.forall_mem_cons.mpr ⟨lw_p55, List.forall_mem_cons.mpr ⟨lw_p56, List.forall_mem_cons.mpr ⟨lw_p57, List.forall_mem_cons.mpr ⟨lw_p58, List.forall_mem_cons.mpr ⟨lw_p59, List.forall_mem_cons.mpr ⟨lw_p60, List.forall_mem_cons.mpr ⟨lw_p61, List.forall_mem_cons.mpr ⟨lw_p62, List.forall_mem_cons.mpr ⟨lw_p63, fun _ h => absurd h List.not_mem_nil⟩⟩⟩⟩⟩⟩⟩⟩⟩⟩⟩⟩⟩⟩⟩⟩
theorem lw_p64 : lw_okq (⟨"RoseWallModel", "readTerm", "(I)V"⟩, 35) := ⟨⟨by decide +kernel, by decide +kernel⟩, List.mem_of_getElem? (i := 1206) (by decide +kernel), List.mem_of_getElem? (i := 1423) (by decide +kernel), List.mem_of_getElem? (i := 1424) (by decide +kernel)⟩
theorem lw_p65 : lw_okq (⟨"RoseWallModel", "readAtom", "(I)V"⟩, 35) := ⟨⟨by decide +kernel, by decide +kernel⟩, List.mem_of_getElem? (i := 1206) (by decide +kernel), List.mem_of_getElem? (i := 1427) (by decide +kernel), List.mem_of_getElem? (i := 1428) (by decide +kernel)⟩
theorem lw_p66 : lw_okq (⟨"RoseWallModel", "wordOf", "(I)I"⟩, 35) := ⟨⟨by decide +kernel, by decide +kernel⟩, List.mem_of_getElem? (i := 1206) (by decide +kernel), List.mem_of_getElem? (i := 1431) (by decide +kernel), List.mem_of_getElem? (i := 1432) (by decide +kernel)⟩
theorem lw_p67 : lw_okq (⟨"RoseWallModel", "turnsWord", "(I)I"⟩, 35) := ⟨⟨by decide +kernel, by decide +kernel⟩, List.mem_of_getElem? (i := 1206) (by decide +kernel), List.mem_of_getElem? (i := 1435) (by decide +kernel), List.mem_of_getElem? (i := 1436) (by decide +kernel)⟩
theorem lw_p68 : lw_okq (⟨"RoseWallModel", "isRose", "(J)Z"⟩, 35) := ⟨⟨by decide +kernel, by decide +kernel⟩, List.mem_of_getElem? (i := 1206) (by decide +kernel), List.mem_of_getElem? (i := 1447) (by decide +kernel), List.mem_of_getElem? (i := 1448) (by decide +kernel)⟩
theorem lw_p69 : lw_okq (⟨"RoseWallModel", "roses", "()I"⟩, 35) := ⟨⟨by decide +kernel, by decide +kernel⟩, List.mem_of_getElem? (i := 1206) (by decide +kernel), List.mem_of_getElem? (i := 1451) (by decide +kernel), List.mem_of_getElem? (i := 1452) (by decide +kernel)⟩
theorem lw_p70 : lw_okq (⟨"RoseWallModel", "nearOf", "(II)I"⟩, 35) := ⟨⟨by decide +kernel, by decide +kernel⟩, List.mem_of_getElem? (i := 1206) (by decide +kernel), List.mem_of_getElem? (i := 1455) (by decide +kernel), List.mem_of_getElem? (i := 1456) (by decide +kernel)⟩
theorem lw_p71 : lw_okq (⟨"RoseWallModel", "turnsThen", "(IIII)Z"⟩, 35) := ⟨⟨by decide +kernel, by decide +kernel⟩, List.mem_of_getElem? (i := 1206) (by decide +kernel), List.mem_of_getElem? (i := 1463) (by decide +kernel), List.mem_of_getElem? (i := 1464) (by decide +kernel)⟩
theorem lw_p72 : lw_okq (⟨"RoseWallModel", "reckons", "(I)Z"⟩, 35) := ⟨⟨by decide +kernel, by decide +kernel⟩, List.mem_of_getElem? (i := 1206) (by decide +kernel), List.mem_of_getElem? (i := 1468) (by decide +kernel), List.mem_of_getElem? (i := 1469) (by decide +kernel)⟩
theorem lw_p73 : lw_okq (⟨"RoseWallModel", "isTenant", "(J)Z"⟩, 35) := ⟨⟨by decide +kernel, by decide +kernel⟩, List.mem_of_getElem? (i := 1206) (by decide +kernel), List.mem_of_getElem? (i := 1481) (by decide +kernel), List.mem_of_getElem? (i := 1482) (by decide +kernel)⟩
theorem lw_p74 : lw_okq (⟨"RoseWallModel", "goesBy", "(III)Z"⟩, 35) := ⟨⟨by decide +kernel, by decide +kernel⟩, List.mem_of_getElem? (i := 1206) (by decide +kernel), List.mem_of_getElem? (i := 1485) (by decide +kernel), List.mem_of_getElem? (i := 1486) (by decide +kernel)⟩
theorem lw_p75 : lw_okq (⟨"RoseWallModel", "keeps", "()V"⟩, 35) := ⟨⟨by decide +kernel, by decide +kernel⟩, List.mem_of_getElem? (i := 1206) (by decide +kernel), List.mem_of_getElem? (i := 1499) (by decide +kernel), List.mem_of_getElem? (i := 1500) (by decide +kernel)⟩
theorem lw_p76 : lw_okq (⟨"RoseWallModel", "goesNight", "(I)V"⟩, 35) := ⟨⟨by decide +kernel, by decide +kernel⟩, List.mem_of_getElem? (i := 1206) (by decide +kernel), List.mem_of_getElem? (i := 1503) (by decide +kernel), List.mem_of_getElem? (i := 1504) (by decide +kernel)⟩
theorem lw_p77 : lw_okq (⟨"RoseWallModel", "standNow", "()I"⟩, 35) := ⟨⟨by decide +kernel, by decide +kernel⟩, List.mem_of_getElem? (i := 1206) (by decide +kernel), List.mem_of_getElem? (i := 1507) (by decide +kernel), List.mem_of_getElem? (i := 1508) (by decide +kernel)⟩
theorem lw_p78 : lw_okq (⟨"RoseWallModel", "standThen", "(II)I"⟩, 35) := ⟨⟨by decide +kernel, by decide +kernel⟩, List.mem_of_getElem? (i := 1206) (by decide +kernel), List.mem_of_getElem? (i := 1514) (by decide +kernel), List.mem_of_getElem? (i := 1515) (by decide +kernel)⟩
theorem lw_p79 : lw_okq (⟨"RoseWallModel", "wallThen", "(III)I"⟩, 35) := ⟨⟨by decide +kernel, by decide +kernel⟩, List.mem_of_getElem? (i := 1206) (by decide +kernel), List.mem_of_getElem? (i := 1518) (by decide +kernel), List.mem_of_getElem? (i := 1519) (by decide +kernel)⟩
def lw_privs_5 : List (MethodName × Nat) := [(⟨"RoseWallModel", "readTerm", "(I)V"⟩, 35), (⟨"RoseWallModel", "readAtom", "(I)V"⟩, 35), (⟨"RoseWallModel", "wordOf", "(I)I"⟩, 35), (⟨"RoseWallModel", "turnsWord", "(I)I"⟩, 35), (⟨"RoseWallModel", "isRose", "(J)Z"⟩, 35), (⟨"RoseWallModel", "roses", "()I"⟩, 35), (⟨"RoseWallModel", "nearOf", "(II)I"⟩, 35), (⟨"RoseWallModel", "turnsThen", "(IIII)Z"⟩, 35), (⟨"RoseWallModel", "reckons", "(I)Z"⟩, 35), (⟨"RoseWallModel", "isTenant", "(J)Z"⟩, 35), (⟨"RoseWallModel", "goesBy", "(III)Z"⟩, 35), (⟨"RoseWallModel", "keeps", "()V"⟩, 35), (⟨"RoseWallModel", "goesNight", "(I)V"⟩, 35), (⟨"RoseWallModel", "standNow", "()I"⟩, 35), (⟨"RoseWallModel", "standThen", "(II)I"⟩, 35), (⟨"RoseWallModel", "wallThen", "(III)I"⟩, 35)]
theorem lw_r5 : ∀ q ∈ lw_privs_5, lw_okq q := List.forall_mem_cons.mpr ⟨lw_p64, List.forall_mem_cons.mpr ⟨lw_p65, List.forall_mem_cons.mpr ⟨lw_p66, List.forall_mem_cons.mpr ⟨lw_p67, List.forall_mem_cons.mpr ⟨lw_p68, List.forall_mem_cons.mpr ⟨lw_p69, List.forall_mem_cons.mpr ⟨lw_p70, List.forall_mem_cons.mpr ⟨lw_p71, List.forall_mem_cons.mpr ⟨lw_p72, List.forall_mem_cons.mpr ⟨lw_p73, List.forall_mem_cons.mpr ⟨lw_p74, List.forall_mem_cons.mpr ⟨lw_p75, List.forall_mem_cons.mpr ⟨lw_p76, List.forall_mem_cons.mpr ⟨lw_p77, List.forall_mem_cons.mpr ⟨lw_p78, List.forall_mem_cons.mpr ⟨lw_p79, fun _ h => absurd h List.not_mem_nil⟩⟩⟩⟩⟩⟩⟩⟩⟩⟩⟩⟩⟩⟩⟩⟩
theorem lw_p80 : lw_okq (⟨"RoseWallModel", "notes", "()V"⟩, 35) := ⟨⟨by decide +kernel, by decide +kernel⟩, List.mem_of_getElem? (i := 1206) (by decide +kernel), List.mem_of_getElem? (i := 1522) (by decide +kernel), List.mem_of_getElem? (i := 1523) (by decide +kernel)⟩
theorem lw_p81 : lw_okq (⟨"RoseWallModel", "whyLet", "(J)I"⟩, 35) := ⟨⟨by decide +kernel, by decide +kernel⟩, List.mem_of_getElem? (i := 1206) (by decide +kernel), List.mem_of_getElem? (i := 1535) (by decide +kernel), List.mem_of_getElem? (i := 1536) (by decide +kernel)⟩
theorem lw_p82 : lw_okq (⟨"RoseWallModel", "noTray", "(I)I"⟩, 35) := ⟨⟨by decide +kernel, by decide +kernel⟩, List.mem_of_getElem? (i := 1206) (by decide +kernel), List.mem_of_getElem? (i := 1557) (by decide +kernel), List.mem_of_getElem? (i := 1558) (by decide +kernel)⟩
theorem lw_p83 : lw_okq (⟨"RoseWallModel", "tells", "(I)I"⟩, 35) := ⟨⟨by decide +kernel, by decide +kernel⟩, List.mem_of_getElem? (i := 1206) (by decide +kernel), List.mem_of_getElem? (i := 1561) (by decide +kernel), List.mem_of_getElem? (i := 1562) (by decide +kernel)⟩
theorem lw_p84 : lw_okq (⟨"RoseWallModel", "whyNot", "(J)I"⟩, 35) := ⟨⟨by decide +kernel, by decide +kernel⟩, List.mem_of_getElem? (i := 1206) (by decide +kernel), List.mem_of_getElem? (i := 1565) (by decide +kernel), List.mem_of_getElem? (i := 1566) (by decide +kernel)⟩
theorem lw_p85 : lw_okq (⟨"RoseWallModel", "does", "(I)V"⟩, 35) := ⟨⟨by decide +kernel, by decide +kernel⟩, List.mem_of_getElem? (i := 1206) (by decide +kernel), List.mem_of_getElem? (i := 1574) (by decide +kernel), List.mem_of_getElem? (i := 1575) (by decide +kernel)⟩
theorem lw_p86 : lw_okq (⟨"RoseWallModel", "isAgain", "()V"⟩, 35) := ⟨⟨by decide +kernel, by decide +kernel⟩, List.mem_of_getElem? (i := 1206) (by decide +kernel), List.mem_of_getElem? (i := 1578) (by decide +kernel), List.mem_of_getElem? (i := 1579) (by decide +kernel)⟩
theorem lw_p87 : lw_okq (⟨"RoseWallModel", "drawn", "()I"⟩, 35) := ⟨⟨by decide +kernel, by decide +kernel⟩, List.mem_of_getElem? (i := 1206) (by decide +kernel), List.mem_of_getElem? (i := 1594) (by decide +kernel), List.mem_of_getElem? (i := 1595) (by decide +kernel)⟩
theorem lw_p88 : lw_okq (⟨"RoseWallModel", "draw", "(I)I"⟩, 35) := ⟨⟨by decide +kernel, by decide +kernel⟩, List.mem_of_getElem? (i := 1206) (by decide +kernel), List.mem_of_getElem? (i := 1598) (by decide +kernel), List.mem_of_getElem? (i := 1599) (by decide +kernel)⟩
theorem lw_p89 : lw_okq (⟨"RoseWallModel", "laysRound", "(I)V"⟩, 35) := ⟨⟨by decide +kernel, by decide +kernel⟩, List.mem_of_getElem? (i := 1206) (by decide +kernel), List.mem_of_getElem? (i := 1608) (by decide +kernel), List.mem_of_getElem? (i := 1609) (by decide +kernel)⟩
theorem lw_p90 : lw_okq (⟨"RoseWallModel", "laysStays", "()I"⟩, 35) := ⟨⟨by decide +kernel, by decide +kernel⟩, List.mem_of_getElem? (i := 1206) (by decide +kernel), List.mem_of_getElem? (i := 1620) (by decide +kernel), List.mem_of_getElem? (i := 1621) (by decide +kernel)⟩
theorem lw_p91 : lw_okq (⟨"RoseWallModel", "laysThen", "()V"⟩, 35) := ⟨⟨by decide +kernel, by decide +kernel⟩, List.mem_of_getElem? (i := 1206) (by decide +kernel), List.mem_of_getElem? (i := 1624) (by decide +kernel), List.mem_of_getElem? (i := 1625) (by decide +kernel)⟩
theorem lw_p92 : lw_okq (⟨"RoseWallModel", "laysFar", "(I)I"⟩, 35) := ⟨⟨by decide +kernel, by decide +kernel⟩, List.mem_of_getElem? (i := 1206) (by decide +kernel), List.mem_of_getElem? (i := 1640) (by decide +kernel), List.mem_of_getElem? (i := 1641) (by decide +kernel)⟩
theorem lw_p93 : lw_okq (⟨"RoseWallModel", "isSought", "(I)Z"⟩, 35) := ⟨⟨by decide +kernel, by decide +kernel⟩, List.mem_of_getElem? (i := 1206) (by decide +kernel), List.mem_of_getElem? (i := 1644) (by decide +kernel), List.mem_of_getElem? (i := 1645) (by decide +kernel)⟩
theorem lw_p94 : lw_okq (⟨"RoseWallModel", "leastBy", "(I)I"⟩, 35) := ⟨⟨by decide +kernel, by decide +kernel⟩, List.mem_of_getElem? (i := 1206) (by decide +kernel), List.mem_of_getElem? (i := 1648) (by decide +kernel), List.mem_of_getElem? (i := 1649) (by decide +kernel)⟩
theorem lw_p95 : lw_okq (⟨"RoseWallModel", "blindAt", "(I)I"⟩, 35) := ⟨⟨by decide +kernel, by decide +kernel⟩, List.mem_of_getElem? (i := 1206) (by decide +kernel), List.mem_of_getElem? (i := 1659) (by decide +kernel), List.mem_of_getElem? (i := 1660) (by decide +kernel)⟩
def lw_privs_6 : List (MethodName × Nat) := [(⟨"RoseWallModel", "notes", "()V"⟩, 35), (⟨"RoseWallModel", "whyLet", "(J)I"⟩, 35), (⟨"RoseWallModel", "noTray", "(I)I"⟩, 35), (⟨"RoseWallModel", "tells", "(I)I"⟩, 35), (⟨"RoseWallModel", "whyNot", "(J)I"⟩, 35), (⟨"RoseWallModel", "does", "(I)V"⟩, 35), (⟨"RoseWallModel", "isAgain", "()V"⟩, 35), (⟨"RoseWallModel", "drawn", "()I"⟩, 35), (⟨"RoseWallModel", "draw", "(I)I"⟩, 35), (⟨"RoseWallModel", "laysRound", "(I)V"⟩, 35), (⟨"RoseWallModel", "laysStays", "()I"⟩, 35), (⟨"RoseWallModel", "laysThen", "()V"⟩, 35), (⟨"RoseWallModel", "laysFar", "(I)I"⟩, 35), (⟨"RoseWallModel", "isSought", "(I)Z"⟩, 35), (⟨"RoseWallModel", "leastBy", "(I)I"⟩, 35), (⟨"RoseWallModel", "blindAt", "(I)I"⟩, 35)]
theorem lw_r6 : ∀ q ∈ lw_privs_6, lw_okq q := List.forall_mem_cons.mpr ⟨lw_p80, List.forall_mem_cons.mpr ⟨lw_p81, List.forall_mem_cons.mpr ⟨lw_p82, List.forall_mem_cons.mpr ⟨lw_p83, List.forall_mem_cons.mpr ⟨lw_p84, List.forall_mem_cons.mpr ⟨lw_p85, List.forall_mem_cons.mpr ⟨lw_p86, List.forall_mem_cons.mpr ⟨lw_p87, List.forall_mem_cons.mpr ⟨lw_p88, List.forall_mem_cons.mpr ⟨lw_p89, List.forall_mem_cons.mpr ⟨lw_p90, List.forall_mem_cons.mpr ⟨lw_p91, List.forall_mem_cons.mpr ⟨lw_p92, List.forall_mem_cons.mpr ⟨lw_p93, List.forall_mem_cons.mpr ⟨lw_p94, List.forall_mem_cons.mpr ⟨lw_p95, fun _ h => absurd h List.not_mem_nil⟩⟩⟩⟩⟩⟩⟩⟩⟩⟩⟩⟩⟩⟩⟩⟩
theorem lw_p96 : lw_okq (⟨"RoseWallModel", "laysForced", "()I"⟩, 35) := ⟨⟨by decide +kernel, by decide +kernel⟩, List.mem_of_getElem? (i := 1206) (by decide +kernel), List.mem_of_getElem? (i := 1667) (by decide +kernel), List.mem_of_getElem? (i := 1668) (by decide +kernel)⟩
theorem lw_p97 : lw_okq (⟨"RoseWallModel", "herBy", "(I)I"⟩, 35) := ⟨⟨by decide +kernel, by decide +kernel⟩, List.mem_of_getElem? (i := 1206) (by decide +kernel), List.mem_of_getElem? (i := 1671) (by decide +kernel), List.mem_of_getElem? (i := 1672) (by decide +kernel)⟩
theorem lw_p98 : lw_okq (⟨"RoseWallModel", "mostBy", "(I)I"⟩, 35) := ⟨⟨by decide +kernel, by decide +kernel⟩, List.mem_of_getElem? (i := 1206) (by decide +kernel), List.mem_of_getElem? (i := 1675) (by decide +kernel), List.mem_of_getElem? (i := 1676) (by decide +kernel)⟩
theorem lw_p99 : lw_okq (⟨"RoseWallModel", "isWall", "(J)Z"⟩, 35) := ⟨⟨by decide +kernel, by decide +kernel⟩, List.mem_of_getElem? (i := 1206) (by decide +kernel), List.mem_of_getElem? (i := 1687) (by decide +kernel), List.mem_of_getElem? (i := 1688) (by decide +kernel)⟩
theorem lw_p100 : lw_okq (⟨"RoseWallModel", "beginsMany", "()V"⟩, 35) := ⟨⟨by decide +kernel, by decide +kernel⟩, List.mem_of_getElem? (i := 1206) (by decide +kernel), List.mem_of_getElem? (i := 1703) (by decide +kernel), List.mem_of_getElem? (i := 1704) (by decide +kernel)⟩
theorem lw_p101 : lw_okq (⟨"RoseWallModel", "laysFrom", "(II)V"⟩, 35) := ⟨⟨by decide +kernel, by decide +kernel⟩, List.mem_of_getElem? (i := 1206) (by decide +kernel), List.mem_of_getElem? (i := 1711) (by decide +kernel), List.mem_of_getElem? (i := 1712) (by decide +kernel)⟩
theorem lw_p102 : lw_okq (⟨"RoseWallModel", "noSo", "(II)I"⟩, 35) := ⟨⟨by decide +kernel, by decide +kernel⟩, List.mem_of_getElem? (i := 1206) (by decide +kernel), List.mem_of_getElem? (i := 1719) (by decide +kernel), List.mem_of_getElem? (i := 1720) (by decide +kernel)⟩
theorem lw_p103 : lw_okq (⟨"RoseWallModel", "goesMany", "(II)V"⟩, 35) := ⟨⟨by decide +kernel, by decide +kernel⟩, List.mem_of_getElem? (i := 1206) (by decide +kernel), List.mem_of_getElem? (i := 1731) (by decide +kernel), List.mem_of_getElem? (i := 1732) (by decide +kernel)⟩
theorem lw_p104 : lw_okq (⟨"RoseWallModel", "noSeen", "(I)I"⟩, 35) := ⟨⟨by decide +kernel, by decide +kernel⟩, List.mem_of_getElem? (i := 1206) (by decide +kernel), List.mem_of_getElem? (i := 1739) (by decide +kernel), List.mem_of_getElem? (i := 1740) (by decide +kernel)⟩
theorem lw_p105 : lw_okq (⟨"RoseWallModel", "isRow", "(III)Z"⟩, 35) := ⟨⟨by decide +kernel, by decide +kernel⟩, List.mem_of_getElem? (i := 1206) (by decide +kernel), List.mem_of_getElem? (i := 1743) (by decide +kernel), List.mem_of_getElem? (i := 1744) (by decide +kernel)⟩
theorem lw_p106 : lw_okq (⟨"RoseWallModel", "blindIn", "(III)I"⟩, 35) := ⟨⟨by decide +kernel, by decide +kernel⟩, List.mem_of_getElem? (i := 1206) (by decide +kernel), List.mem_of_getElem? (i := 1747) (by decide +kernel), List.mem_of_getElem? (i := 1748) (by decide +kernel)⟩
theorem lw_p107 : lw_okq (⟨"RoseWallModel", "isSeen", "(III)Z"⟩, 35) := ⟨⟨by decide +kernel, by decide +kernel⟩, List.mem_of_getElem? (i := 1206) (by decide +kernel), List.mem_of_getElem? (i := 1751) (by decide +kernel), List.mem_of_getElem? (i := 1752) (by decide +kernel)⟩
theorem lw_p108 : lw_okq (⟨"RoseWallModel", "noBlinds", "(II)I"⟩, 35) := ⟨⟨by decide +kernel, by decide +kernel⟩, List.mem_of_getElem? (i := 1206) (by decide +kernel), List.mem_of_getElem? (i := 1767) (by decide +kernel), List.mem_of_getElem? (i := 1768) (by decide +kernel)⟩
theorem lw_p109 : lw_okq (⟨"RoseWallModel", "tempersOf", "(II)I"⟩, 35) := ⟨⟨by decide +kernel, by decide +kernel⟩, List.mem_of_getElem? (i := 1206) (by decide +kernel), List.mem_of_getElem? (i := 1771) (by decide +kernel), List.mem_of_getElem? (i := 1772) (by decide +kernel)⟩
theorem lw_p110 : lw_okq (⟨"RoseWallModel", "mostAlike", "(II)I"⟩, 35) := ⟨⟨by decide +kernel, by decide +kernel⟩, List.mem_of_getElem? (i := 1206) (by decide +kernel), List.mem_of_getElem? (i := 1779) (by decide +kernel), List.mem_of_getElem? (i := 1780) (by decide +kernel)⟩
theorem lw_p111 : lw_okq (⟨"RoseWallModel", "chanceOf", "(II)I"⟩, 35) := ⟨⟨by decide +kernel, by decide +kernel⟩, List.mem_of_getElem? (i := 1206) (by decide +kernel), List.mem_of_getElem? (i := 1788) (by decide +kernel), List.mem_of_getElem? (i := 1789) (by decide +kernel)⟩
def lw_privs_7 : List (MethodName × Nat) := [(⟨"RoseWallModel", "laysForced", "()I"⟩, 35), (⟨"RoseWallModel", "herBy", "(I)I"⟩, 35), (⟨"RoseWallModel", "mostBy", "(I)I"⟩, 35), (⟨"RoseWallModel", "isWall", "(J)Z"⟩, 35), (⟨"RoseWallModel", "beginsMany", "()V"⟩, 35), (⟨"RoseWallModel", "laysFrom", "(II)V"⟩, 35), (⟨"RoseWallModel", "noSo", "(II)I"⟩, 35), (⟨"RoseWallModel", "goesMany", "(II)V"⟩, 35), (⟨"RoseWallModel", "noSeen", "(I)I"⟩, 35), (⟨"RoseWallModel", "isRow", "(III)Z"⟩, 35), (⟨"RoseWallModel", "blindIn", "(III)I"⟩, 35), (⟨"RoseWallModel", "isSeen", "(III)Z"⟩, 35), (⟨"RoseWallModel", "noBlinds", "(II)I"⟩, 35), (⟨"RoseWallModel", "tempersOf", "(II)I"⟩, 35), (⟨"RoseWallModel", "mostAlike", "(II)I"⟩, 35), (⟨"RoseWallModel", "chanceOf", "(II)I"⟩, 35)]
theorem lw_r7 : ∀ q ∈ lw_privs_7, lw_okq q := List.forall_mem_cons.mpr ⟨lw_p96, List.forall_mem_cons.mpr ⟨lw_p97, List.forall_mem_cons.mpr ⟨lw_p98, List.forall_mem_cons.mpr ⟨lw_p99, List.forall_mem_cons.mpr ⟨lw_p100, List.forall_mem_cons.mpr ⟨lw_p101, List.forall_mem_cons.mpr ⟨lw_p102, List.forall_mem_cons.mpr ⟨lw_p103, List.forall_mem_cons.mpr ⟨lw_p104, List.forall_mem_cons.mpr ⟨lw_p105, List.forall_mem_cons.mpr ⟨lw_p106, List.forall_mem_cons.mpr ⟨lw_p107, List.forall_mem_cons.mpr ⟨lw_p108, List.forall_mem_cons.mpr ⟨lw_p109, List.forall_mem_cons.mpr ⟨lw_p110, List.forall_mem_cons.mpr ⟨lw_p111, fun _ h => absurd h List.not_mem_nil⟩⟩⟩⟩⟩⟩⟩⟩⟩⟩⟩⟩⟩⟩⟩⟩
def lw_privs : List (MethodName × Nat) := lw_privs_1 ++ (lw_privs_2 ++ (lw_privs_3 ++ (lw_privs_4 ++ (lw_privs_5 ++ (lw_privs_6 ++ (lw_privs_7))))))
def lw_tbl : List Cond := k2_sels lw_privs ++ tables_1
theorem lw_privs_ok : ∀ q ∈ lw_privs, lw_okq q := by
  show ∀ q ∈ lw_privs_1 ++ (lw_privs_2 ++ (lw_privs_3 ++ (lw_privs_4 ++ (lw_privs_5 ++ (lw_privs_6 ++ (lw_privs_7)))))), lw_okq q
  exact List.forall_mem_append.mpr ⟨lw_r1, List.forall_mem_append.mpr ⟨lw_r2, List.forall_mem_append.mpr ⟨lw_r3, List.forall_mem_append.mpr ⟨lw_r4, List.forall_mem_append.mpr ⟨lw_r5, List.forall_mem_append.mpr ⟨lw_r6, lw_r7⟩⟩⟩⟩⟩⟩
end
section
/-! THE PROGRAM AS DATA: written by wip/whole/gen/gen_tables.py out of the printed claim. -/
abbrev MD : Type := Nat × Nat × List (Nat × Jvm.ClassFile.Instr × Nat) × Nat × Nat × Bool
def k_law_0 : List (Nat × Jvm.ClassFile.Instr × Nat) := [(0, .new 7, 3), (3, .dup, 1), (4, .invokespecial 9, 3), (7, .astore_n 1, 1), (8, .new 10, 3), (11, .dup, 1), (12, .invokespecial 12, 3), (15, .astore_n 2, 1), (16, .iconst 0, 1), (17, .istore_n 3, 1), (18, .iload_n 3, 1), (19, .aload_n 0, 1), (20, .arraylength, 1), (21, .bipush 6, 2), (23, .isub, 1), (24, .if_icmp .gt 1449, 3), (27, .aload_n 0, 1), (28, .iload_n 3, 1), (29, .iaload, 1), (30, .bipush 63, 2), (32, .iand, 1), (33, .tableswitch 1434 0 43 #[191, 254, 277, 300, 333, 366, 389, 422, 445, 468, 491, 514, 547, 570, 603, 636, 669, 682, 705, 718, 741, 754, 767, 790, 823, 836, 849, 892, 925, 958, 991, 1014, 1047, 1070, 1103, 1136, 1169, 1192, 1215, 1258, 1332, 1365, 1388, 1411], 191), (224, .aload_n 1, 1), (225, .aload_n 0, 1), (226, .iload_n 3, 1), (227, .iconst 1, 1), (228, .iadd, 1), (229, .iaload, 1), (230, .aload_n 0, 1), (231, .iload_n 3, 1), (232, .iconst 2, 1), (233, .iadd, 1), (234, .iaload, 1), (235, .aload_n 0, 1), (236, .iload_n 3, 1), (237, .iconst 3, 1), (238, .iadd, 1), (239, .iaload, 1), (240, .aload_n 0, 1), (241, .iload_n 3, 1), (242, .iconst 4, 1), (243, .iadd, 1), (244, .iaload, 1), (245, .aload_n 0, 1), (246, .iload_n 3, 1), (247, .iconst 5, 1), (248, .iadd, 1), (249, .iaload, 1), (250, .invokevirtual 13, 3), (253, .aload_n 2, 1), (254, .aload_n 0, 1), (255, .iload_n 3, 1), (256, .iconst 1, 1), (257, .iadd, 1), (258, .iaload, 1), (259, .aload_n 0, 1), (260, .iload_n 3, 1), (261, .iconst 2, 1), (262, .iadd, 1), (263, .iaload, 1)]
def k_law_1 : List (Nat × Jvm.ClassFile.Instr × Nat) := [(264, .aload_n 0, 1), (265, .iload_n 3, 1), (266, .iconst 3, 1), (267, .iadd, 1), (268, .iaload, 1), (269, .aload_n 0, 1), (270, .iload_n 3, 1), (271, .iconst 4, 1), (272, .iadd, 1), (273, .iaload, 1), (274, .aload_n 0, 1), (275, .iload_n 3, 1), (276, .iconst 5, 1), (277, .iadd, 1), (278, .iaload, 1), (279, .invokevirtual 17, 3), (282, .if_icmp .eq 1185, 3), (285, .iconst 0, 1), (286, .ireturn, 1), (287, .aload_n 1, 1), (288, .aload_n 0, 1), (289, .iload_n 3, 1), (290, .iconst 1, 1), (291, .iadd, 1), (292, .iaload, 1), (293, .invokevirtual 18, 3), (296, .aload_n 2, 1), (297, .aload_n 0, 1), (298, .iload_n 3, 1), (299, .iconst 1, 1), (300, .iadd, 1), (301, .iaload, 1), (302, .invokevirtual 22, 3), (305, .if_icmp .eq 1162, 3), (308, .iconst 0, 1), (309, .ireturn, 1), (310, .aload_n 1, 1), (311, .aload_n 0, 1), (312, .iload_n 3, 1), (313, .iconst 1, 1), (314, .iadd, 1), (315, .iaload, 1), (316, .invokevirtual 23, 3), (319, .aload_n 2, 1), (320, .aload_n 0, 1), (321, .iload_n 3, 1), (322, .iconst 1, 1), (323, .iadd, 1), (324, .iaload, 1), (325, .invokevirtual 26, 3), (328, .if_icmp .eq 1139, 3), (331, .iconst 0, 1), (332, .ireturn, 1), (333, .aload_n 1, 1), (334, .aload_n 0, 1), (335, .iload_n 3, 1), (336, .iconst 1, 1), (337, .iadd, 1), (338, .iaload, 1), (339, .aload_n 0, 1)]
def k_law_2 : List (Nat × Jvm.ClassFile.Instr × Nat) := [(340, .iload_n 3, 1), (341, .iconst 2, 1), (342, .iadd, 1), (343, .iaload, 1), (344, .invokevirtual 27, 3), (347, .aload_n 2, 1), (348, .aload_n 0, 1), (349, .iload_n 3, 1), (350, .iconst 1, 1), (351, .iadd, 1), (352, .iaload, 1), (353, .aload_n 0, 1), (354, .iload_n 3, 1), (355, .iconst 2, 1), (356, .iadd, 1), (357, .iaload, 1), (358, .invokevirtual 31, 3), (361, .if_icmp .eq 1106, 3), (364, .iconst 0, 1), (365, .ireturn, 1), (366, .aload_n 1, 1), (367, .aload_n 0, 1), (368, .iload_n 3, 1), (369, .iconst 1, 1), (370, .iadd, 1), (371, .iaload, 1), (372, .aload_n 0, 1), (373, .iload_n 3, 1), (374, .iconst 2, 1), (375, .iadd, 1), (376, .iaload, 1), (377, .invokevirtual 32, 3), (380, .aload_n 2, 1), (381, .aload_n 0, 1), (382, .iload_n 3, 1), (383, .iconst 1, 1), (384, .iadd, 1), (385, .iaload, 1), (386, .aload_n 0, 1), (387, .iload_n 3, 1), (388, .iconst 2, 1), (389, .iadd, 1), (390, .iaload, 1), (391, .invokevirtual 35, 3), (394, .if_icmp .eq 1073, 3), (397, .iconst 0, 1), (398, .ireturn, 1), (399, .aload_n 1, 1), (400, .aload_n 0, 1), (401, .iload_n 3, 1), (402, .iconst 1, 1), (403, .iadd, 1), (404, .iaload, 1), (405, .invokevirtual 36, 3), (408, .aload_n 2, 1), (409, .aload_n 0, 1), (410, .iload_n 3, 1), (411, .iconst 1, 1), (412, .iadd, 1), (413, .iaload, 1)]
def k_law_3 : List (Nat × Jvm.ClassFile.Instr × Nat) := [(414, .invokevirtual 39, 3), (417, .if_icmp .eq 1050, 3), (420, .iconst 0, 1), (421, .ireturn, 1), (422, .aload_n 1, 1), (423, .aload_n 0, 1), (424, .iload_n 3, 1), (425, .iconst 1, 1), (426, .iadd, 1), (427, .iaload, 1), (428, .aload_n 0, 1), (429, .iload_n 3, 1), (430, .iconst 2, 1), (431, .iadd, 1), (432, .iaload, 1), (433, .invokevirtual 40, 3), (436, .aload_n 2, 1), (437, .aload_n 0, 1), (438, .iload_n 3, 1), (439, .iconst 1, 1), (440, .iadd, 1), (441, .iaload, 1), (442, .aload_n 0, 1), (443, .iload_n 3, 1), (444, .iconst 2, 1), (445, .iadd, 1), (446, .iaload, 1), (447, .invokevirtual 43, 3), (450, .if_icmp .eq 1017, 3), (453, .iconst 0, 1), (454, .ireturn, 1), (455, .aload_n 1, 1), (456, .aload_n 0, 1), (457, .iload_n 3, 1), (458, .iconst 1, 1), (459, .iadd, 1), (460, .iaload, 1), (461, .invokevirtual 44, 3), (464, .aload_n 2, 1), (465, .aload_n 0, 1), (466, .iload_n 3, 1), (467, .iconst 1, 1), (468, .iadd, 1), (469, .iaload, 1), (470, .invokevirtual 47, 3), (473, .if_icmp .eq 994, 3), (476, .iconst 0, 1), (477, .ireturn, 1), (478, .aload_n 1, 1), (479, .aload_n 0, 1), (480, .iload_n 3, 1), (481, .iconst 1, 1), (482, .iadd, 1), (483, .iaload, 1), (484, .invokevirtual 48, 3), (487, .aload_n 2, 1), (488, .aload_n 0, 1), (489, .iload_n 3, 1), (490, .iconst 1, 1), (491, .iadd, 1)]
def k_law_4 : List (Nat × Jvm.ClassFile.Instr × Nat) := [(492, .iaload, 1), (493, .invokevirtual 51, 3), (496, .if_icmp .eq 971, 3), (499, .iconst 0, 1), (500, .ireturn, 1), (501, .aload_n 1, 1), (502, .aload_n 0, 1), (503, .iload_n 3, 1), (504, .iconst 1, 1), (505, .iadd, 1), (506, .iaload, 1), (507, .invokevirtual 52, 3), (510, .aload_n 2, 1), (511, .aload_n 0, 1), (512, .iload_n 3, 1), (513, .iconst 1, 1), (514, .iadd, 1), (515, .iaload, 1), (516, .invokevirtual 55, 3), (519, .if_icmp .eq 948, 3), (522, .iconst 0, 1), (523, .ireturn, 1), (524, .aload_n 1, 1), (525, .aload_n 0, 1), (526, .iload_n 3, 1), (527, .iconst 1, 1), (528, .iadd, 1), (529, .iaload, 1), (530, .invokevirtual 56, 3), (533, .aload_n 2, 1), (534, .aload_n 0, 1), (535, .iload_n 3, 1), (536, .iconst 1, 1), (537, .iadd, 1), (538, .iaload, 1), (539, .invokevirtual 59, 3), (542, .if_icmp .eq 925, 3), (545, .iconst 0, 1), (546, .ireturn, 1), (547, .aload_n 1, 1), (548, .aload_n 0, 1), (549, .iload_n 3, 1), (550, .iconst 1, 1), (551, .iadd, 1), (552, .iaload, 1), (553, .aload_n 0, 1), (554, .iload_n 3, 1), (555, .iconst 2, 1), (556, .iadd, 1), (557, .iaload, 1), (558, .invokevirtual 60, 3), (561, .aload_n 2, 1), (562, .aload_n 0, 1), (563, .iload_n 3, 1), (564, .iconst 1, 1), (565, .iadd, 1), (566, .iaload, 1), (567, .aload_n 0, 1), (568, .iload_n 3, 1), (569, .iconst 2, 1)]
def k_law_5 : List (Nat × Jvm.ClassFile.Instr × Nat) := [(570, .iadd, 1), (571, .iaload, 1), (572, .invokevirtual 63, 3), (575, .if_icmp .eq 892, 3), (578, .iconst 0, 1), (579, .ireturn, 1), (580, .aload_n 1, 1), (581, .aload_n 0, 1), (582, .iload_n 3, 1), (583, .iconst 1, 1), (584, .iadd, 1), (585, .iaload, 1), (586, .invokevirtual 64, 3), (589, .aload_n 2, 1), (590, .aload_n 0, 1), (591, .iload_n 3, 1), (592, .iconst 1, 1), (593, .iadd, 1), (594, .iaload, 1), (595, .invokevirtual 67, 3), (598, .if_icmp .eq 869, 3), (601, .iconst 0, 1), (602, .ireturn, 1), (603, .aload_n 1, 1), (604, .aload_n 0, 1), (605, .iload_n 3, 1), (606, .iconst 1, 1), (607, .iadd, 1), (608, .iaload, 1), (609, .aload_n 0, 1), (610, .iload_n 3, 1), (611, .iconst 2, 1), (612, .iadd, 1), (613, .iaload, 1), (614, .invokevirtual 68, 3), (617, .aload_n 2, 1), (618, .aload_n 0, 1), (619, .iload_n 3, 1), (620, .iconst 1, 1), (621, .iadd, 1), (622, .iaload, 1), (623, .aload_n 0, 1), (624, .iload_n 3, 1), (625, .iconst 2, 1), (626, .iadd, 1), (627, .iaload, 1), (628, .invokevirtual 71, 3), (631, .if_icmp .eq 836, 3), (634, .iconst 0, 1), (635, .ireturn, 1), (636, .aload_n 1, 1), (637, .aload_n 0, 1), (638, .iload_n 3, 1), (639, .iconst 1, 1), (640, .iadd, 1), (641, .iaload, 1), (642, .aload_n 0, 1), (643, .iload_n 3, 1), (644, .iconst 2, 1), (645, .iadd, 1)]
def k_law_6 : List (Nat × Jvm.ClassFile.Instr × Nat) := [(646, .iaload, 1), (647, .invokevirtual 72, 3), (650, .aload_n 2, 1), (651, .aload_n 0, 1), (652, .iload_n 3, 1), (653, .iconst 1, 1), (654, .iadd, 1), (655, .iaload, 1), (656, .aload_n 0, 1), (657, .iload_n 3, 1), (658, .iconst 2, 1), (659, .iadd, 1), (660, .iaload, 1), (661, .invokevirtual 75, 3), (664, .if_icmp .eq 803, 3), (667, .iconst 0, 1), (668, .ireturn, 1), (669, .aload_n 1, 1), (670, .aload_n 0, 1), (671, .iload_n 3, 1), (672, .iconst 1, 1), (673, .iadd, 1), (674, .iaload, 1), (675, .aload_n 0, 1), (676, .iload_n 3, 1), (677, .iconst 2, 1), (678, .iadd, 1), (679, .iaload, 1), (680, .invokevirtual 76, 3), (683, .aload_n 2, 1), (684, .aload_n 0, 1), (685, .iload_n 3, 1), (686, .iconst 1, 1), (687, .iadd, 1), (688, .iaload, 1), (689, .aload_n 0, 1), (690, .iload_n 3, 1), (691, .iconst 2, 1), (692, .iadd, 1), (693, .iaload, 1), (694, .invokevirtual 79, 3), (697, .if_icmp .eq 770, 3), (700, .iconst 0, 1), (701, .ireturn, 1), (702, .aload_n 1, 1), (703, .invokevirtual 80, 3), (706, .aload_n 2, 1), (707, .invokevirtual 84, 3), (710, .if_icmp .eq 757, 3), (713, .iconst 0, 1), (714, .ireturn, 1), (715, .aload_n 1, 1), (716, .aload_n 0, 1), (717, .iload_n 3, 1), (718, .iconst 1, 1), (719, .iadd, 1), (720, .iaload, 1), (721, .invokevirtual 85, 3), (724, .aload_n 2, 1), (725, .aload_n 0, 1)]
def k_law_7 : List (Nat × Jvm.ClassFile.Instr × Nat) := [(726, .iload_n 3, 1), (727, .iconst 1, 1), (728, .iadd, 1), (729, .iaload, 1), (730, .invokevirtual 88, 3), (733, .if_icmp .eq 734, 3), (736, .iconst 0, 1), (737, .ireturn, 1), (738, .aload_n 1, 1), (739, .invokevirtual 89, 3), (742, .aload_n 2, 1), (743, .invokevirtual 92, 3), (746, .if_icmp .eq 721, 3), (749, .iconst 0, 1), (750, .ireturn, 1), (751, .aload_n 1, 1), (752, .aload_n 0, 1), (753, .iload_n 3, 1), (754, .iconst 1, 1), (755, .iadd, 1), (756, .iaload, 1), (757, .invokevirtual 93, 3), (760, .aload_n 2, 1), (761, .aload_n 0, 1), (762, .iload_n 3, 1), (763, .iconst 1, 1), (764, .iadd, 1), (765, .iaload, 1), (766, .invokevirtual 96, 3), (769, .if_icmp .eq 698, 3), (772, .iconst 0, 1), (773, .ireturn, 1), (774, .aload_n 1, 1), (775, .invokevirtual 97, 3), (778, .aload_n 2, 1), (779, .invokevirtual 100, 3), (782, .if_icmp .eq 685, 3), (785, .iconst 0, 1), (786, .ireturn, 1), (787, .aload_n 1, 1), (788, .invokevirtual 101, 3), (791, .aload_n 2, 1), (792, .invokevirtual 104, 3), (795, .if_icmp .eq 672, 3), (798, .iconst 0, 1), (799, .ireturn, 1), (800, .aload_n 1, 1), (801, .aload_n 0, 1), (802, .iload_n 3, 1), (803, .iconst 1, 1), (804, .iadd, 1), (805, .iaload, 1), (806, .invokevirtual 105, 3), (809, .aload_n 2, 1), (810, .aload_n 0, 1), (811, .iload_n 3, 1), (812, .iconst 1, 1), (813, .iadd, 1), (814, .iaload, 1), (815, .invokevirtual 108, 3)]
def k_law_8 : List (Nat × Jvm.ClassFile.Instr × Nat) := [(818, .if_icmp .eq 649, 3), (821, .iconst 0, 1), (822, .ireturn, 1), (823, .aload_n 1, 1), (824, .aload_n 0, 1), (825, .iload_n 3, 1), (826, .iconst 1, 1), (827, .iadd, 1), (828, .iaload, 1), (829, .aload_n 0, 1), (830, .iload_n 3, 1), (831, .iconst 2, 1), (832, .iadd, 1), (833, .iaload, 1), (834, .invokevirtual 109, 3), (837, .aload_n 2, 1), (838, .aload_n 0, 1), (839, .iload_n 3, 1), (840, .iconst 1, 1), (841, .iadd, 1), (842, .iaload, 1), (843, .aload_n 0, 1), (844, .iload_n 3, 1), (845, .iconst 2, 1), (846, .iadd, 1), (847, .iaload, 1), (848, .invokevirtual 112, 3), (851, .if_icmp .eq 616, 3), (854, .iconst 0, 1), (855, .ireturn, 1), (856, .aload_n 1, 1), (857, .invokevirtual 113, 3), (860, .aload_n 2, 1), (861, .invokevirtual 116, 3), (864, .if_icmp .eq 603, 3), (867, .iconst 0, 1), (868, .ireturn, 1), (869, .aload_n 1, 1), (870, .invokevirtual 117, 3), (873, .aload_n 2, 1), (874, .invokevirtual 120, 3), (877, .if_icmp .eq 590, 3), (880, .iconst 0, 1), (881, .ireturn, 1), (882, .aload_n 1, 1), (883, .aload_n 0, 1), (884, .iload_n 3, 1), (885, .iconst 1, 1), (886, .iadd, 1), (887, .iaload, 1), (888, .aload_n 0, 1), (889, .iload_n 3, 1), (890, .iconst 2, 1), (891, .iadd, 1), (892, .iaload, 1), (893, .aload_n 0, 1), (894, .iload_n 3, 1), (895, .iconst 3, 1), (896, .iadd, 1), (897, .iaload, 1)]
def k_law_9 : List (Nat × Jvm.ClassFile.Instr × Nat) := [(898, .invokevirtual 121, 3), (901, .aload_n 2, 1), (902, .aload_n 0, 1), (903, .iload_n 3, 1), (904, .iconst 1, 1), (905, .iadd, 1), (906, .iaload, 1), (907, .aload_n 0, 1), (908, .iload_n 3, 1), (909, .iconst 2, 1), (910, .iadd, 1), (911, .iaload, 1), (912, .aload_n 0, 1), (913, .iload_n 3, 1), (914, .iconst 3, 1), (915, .iadd, 1), (916, .iaload, 1), (917, .invokevirtual 125, 3), (920, .if_icmp .eq 547, 3), (923, .iconst 0, 1), (924, .ireturn, 1), (925, .aload_n 1, 1), (926, .aload_n 0, 1), (927, .iload_n 3, 1), (928, .iconst 1, 1), (929, .iadd, 1), (930, .iaload, 1), (931, .aload_n 0, 1), (932, .iload_n 3, 1), (933, .iconst 2, 1), (934, .iadd, 1), (935, .iaload, 1), (936, .invokevirtual 126, 3), (939, .aload_n 2, 1), (940, .aload_n 0, 1), (941, .iload_n 3, 1), (942, .iconst 1, 1), (943, .iadd, 1), (944, .iaload, 1), (945, .aload_n 0, 1), (946, .iload_n 3, 1), (947, .iconst 2, 1), (948, .iadd, 1), (949, .iaload, 1), (950, .invokevirtual 129, 3), (953, .if_icmp .eq 514, 3), (956, .iconst 0, 1), (957, .ireturn, 1), (958, .aload_n 1, 1), (959, .aload_n 0, 1), (960, .iload_n 3, 1), (961, .iconst 1, 1), (962, .iadd, 1), (963, .iaload, 1), (964, .aload_n 0, 1), (965, .iload_n 3, 1), (966, .iconst 2, 1), (967, .iadd, 1), (968, .iaload, 1), (969, .invokevirtual 130, 3)]
def k_law_10 : List (Nat × Jvm.ClassFile.Instr × Nat) := [(972, .aload_n 2, 1), (973, .aload_n 0, 1), (974, .iload_n 3, 1), (975, .iconst 1, 1), (976, .iadd, 1), (977, .iaload, 1), (978, .aload_n 0, 1), (979, .iload_n 3, 1), (980, .iconst 2, 1), (981, .iadd, 1), (982, .iaload, 1), (983, .invokevirtual 133, 3), (986, .if_icmp .eq 481, 3), (989, .iconst 0, 1), (990, .ireturn, 1), (991, .aload_n 1, 1), (992, .aload_n 0, 1), (993, .iload_n 3, 1), (994, .iconst 1, 1), (995, .iadd, 1), (996, .iaload, 1), (997, .aload_n 0, 1), (998, .iload_n 3, 1), (999, .iconst 2, 1), (1000, .iadd, 1), (1001, .iaload, 1), (1002, .invokevirtual 134, 3), (1005, .aload_n 2, 1), (1006, .aload_n 0, 1), (1007, .iload_n 3, 1), (1008, .iconst 1, 1), (1009, .iadd, 1), (1010, .iaload, 1), (1011, .aload_n 0, 1), (1012, .iload_n 3, 1), (1013, .iconst 2, 1), (1014, .iadd, 1), (1015, .iaload, 1), (1016, .invokevirtual 137, 3), (1019, .if_icmp .eq 448, 3), (1022, .iconst 0, 1), (1023, .ireturn, 1), (1024, .aload_n 1, 1), (1025, .aload_n 0, 1), (1026, .iload_n 3, 1), (1027, .iconst 1, 1), (1028, .iadd, 1), (1029, .iaload, 1), (1030, .invokevirtual 138, 3), (1033, .aload_n 2, 1), (1034, .aload_n 0, 1), (1035, .iload_n 3, 1), (1036, .iconst 1, 1), (1037, .iadd, 1), (1038, .iaload, 1), (1039, .invokevirtual 141, 3), (1042, .if_icmp .eq 425, 3), (1045, .iconst 0, 1), (1046, .ireturn, 1), (1047, .aload_n 1, 1)]
def k_law_11 : List (Nat × Jvm.ClassFile.Instr × Nat) := [(1048, .aload_n 0, 1), (1049, .iload_n 3, 1), (1050, .iconst 1, 1), (1051, .iadd, 1), (1052, .iaload, 1), (1053, .aload_n 0, 1), (1054, .iload_n 3, 1), (1055, .iconst 2, 1), (1056, .iadd, 1), (1057, .iaload, 1), (1058, .invokevirtual 142, 3), (1061, .aload_n 2, 1), (1062, .aload_n 0, 1), (1063, .iload_n 3, 1), (1064, .iconst 1, 1), (1065, .iadd, 1), (1066, .iaload, 1), (1067, .aload_n 0, 1), (1068, .iload_n 3, 1), (1069, .iconst 2, 1), (1070, .iadd, 1), (1071, .iaload, 1), (1072, .invokevirtual 145, 3), (1075, .if_icmp .eq 392, 3), (1078, .iconst 0, 1), (1079, .ireturn, 1), (1080, .aload_n 1, 1), (1081, .aload_n 0, 1), (1082, .iload_n 3, 1), (1083, .iconst 1, 1), (1084, .iadd, 1), (1085, .iaload, 1), (1086, .invokevirtual 146, 3), (1089, .aload_n 2, 1), (1090, .aload_n 0, 1), (1091, .iload_n 3, 1), (1092, .iconst 1, 1), (1093, .iadd, 1), (1094, .iaload, 1), (1095, .invokevirtual 149, 3), (1098, .if_icmp .eq 369, 3), (1101, .iconst 0, 1), (1102, .ireturn, 1), (1103, .aload_n 1, 1), (1104, .aload_n 0, 1), (1105, .iload_n 3, 1), (1106, .iconst 1, 1), (1107, .iadd, 1), (1108, .iaload, 1), (1109, .aload_n 0, 1), (1110, .iload_n 3, 1), (1111, .iconst 2, 1), (1112, .iadd, 1), (1113, .iaload, 1), (1114, .invokevirtual 150, 3), (1117, .aload_n 2, 1), (1118, .aload_n 0, 1), (1119, .iload_n 3, 1), (1120, .iconst 1, 1), (1121, .iadd, 1)]
def k_law_12 : List (Nat × Jvm.ClassFile.Instr × Nat) := [(1122, .iaload, 1), (1123, .aload_n 0, 1), (1124, .iload_n 3, 1), (1125, .iconst 2, 1), (1126, .iadd, 1), (1127, .iaload, 1), (1128, .invokevirtual 153, 3), (1131, .if_icmp .eq 336, 3), (1134, .iconst 0, 1), (1135, .ireturn, 1), (1136, .aload_n 1, 1), (1137, .aload_n 0, 1), (1138, .iload_n 3, 1), (1139, .iconst 1, 1), (1140, .iadd, 1), (1141, .iaload, 1), (1142, .aload_n 0, 1), (1143, .iload_n 3, 1), (1144, .iconst 2, 1), (1145, .iadd, 1), (1146, .iaload, 1), (1147, .invokevirtual 154, 3), (1150, .aload_n 2, 1), (1151, .aload_n 0, 1), (1152, .iload_n 3, 1), (1153, .iconst 1, 1), (1154, .iadd, 1), (1155, .iaload, 1), (1156, .aload_n 0, 1), (1157, .iload_n 3, 1), (1158, .iconst 2, 1), (1159, .iadd, 1), (1160, .iaload, 1), (1161, .invokevirtual 157, 3), (1164, .if_icmp .eq 303, 3), (1167, .iconst 0, 1), (1168, .ireturn, 1), (1169, .aload_n 1, 1), (1170, .aload_n 0, 1), (1171, .iload_n 3, 1), (1172, .iconst 1, 1), (1173, .iadd, 1), (1174, .iaload, 1), (1175, .aload_n 0, 1), (1176, .iload_n 3, 1), (1177, .iconst 2, 1), (1178, .iadd, 1), (1179, .iaload, 1), (1180, .invokevirtual 158, 3), (1183, .aload_n 2, 1), (1184, .aload_n 0, 1), (1185, .iload_n 3, 1), (1186, .iconst 1, 1), (1187, .iadd, 1), (1188, .iaload, 1), (1189, .aload_n 0, 1), (1190, .iload_n 3, 1), (1191, .iconst 2, 1), (1192, .iadd, 1), (1193, .iaload, 1)]
def k_law_13 : List (Nat × Jvm.ClassFile.Instr × Nat) := [(1194, .invokevirtual 161, 3), (1197, .if_icmp .eq 270, 3), (1200, .iconst 0, 1), (1201, .ireturn, 1), (1202, .aload_n 1, 1), (1203, .aload_n 0, 1), (1204, .iload_n 3, 1), (1205, .iconst 1, 1), (1206, .iadd, 1), (1207, .iaload, 1), (1208, .invokevirtual 162, 3), (1211, .aload_n 2, 1), (1212, .aload_n 0, 1), (1213, .iload_n 3, 1), (1214, .iconst 1, 1), (1215, .iadd, 1), (1216, .iaload, 1), (1217, .invokevirtual 165, 3), (1220, .if_icmp .eq 247, 3), (1223, .iconst 0, 1), (1224, .ireturn, 1), (1225, .aload_n 1, 1), (1226, .aload_n 0, 1), (1227, .iload_n 3, 1), (1228, .iconst 1, 1), (1229, .iadd, 1), (1230, .iaload, 1), (1231, .invokevirtual 166, 3), (1234, .aload_n 2, 1), (1235, .aload_n 0, 1), (1236, .iload_n 3, 1), (1237, .iconst 1, 1), (1238, .iadd, 1), (1239, .iaload, 1), (1240, .invokevirtual 169, 3), (1243, .if_icmp .eq 224, 3), (1246, .iconst 0, 1), (1247, .ireturn, 1), (1248, .aload_n 1, 1), (1249, .aload_n 0, 1), (1250, .iload_n 3, 1), (1251, .iconst 1, 1), (1252, .iadd, 1), (1253, .iaload, 1), (1254, .aload_n 0, 1), (1255, .iload_n 3, 1), (1256, .iconst 2, 1), (1257, .iadd, 1), (1258, .iaload, 1), (1259, .aload_n 0, 1), (1260, .iload_n 3, 1), (1261, .iconst 3, 1), (1262, .iadd, 1), (1263, .iaload, 1), (1264, .invokevirtual 170, 3), (1267, .aload_n 2, 1), (1268, .aload_n 0, 1), (1269, .iload_n 3, 1), (1270, .iconst 1, 1), (1271, .iadd, 1)]
def k_law_14 : List (Nat × Jvm.ClassFile.Instr × Nat) := [(1272, .iaload, 1), (1273, .aload_n 0, 1), (1274, .iload_n 3, 1), (1275, .iconst 2, 1), (1276, .iadd, 1), (1277, .iaload, 1), (1278, .aload_n 0, 1), (1279, .iload_n 3, 1), (1280, .iconst 3, 1), (1281, .iadd, 1), (1282, .iaload, 1), (1283, .invokevirtual 173, 3), (1286, .if_icmp .eq 181, 3), (1289, .iconst 0, 1), (1290, .ireturn, 1), (1291, .aload_n 1, 1), (1292, .aload_n 0, 1), (1293, .iload_n 3, 1), (1294, .iconst 1, 1), (1295, .iadd, 1), (1296, .iaload, 1), (1297, .aload_n 0, 1), (1298, .iload_n 3, 1), (1299, .iconst 2, 1), (1300, .iadd, 1), (1301, .iaload, 1), (1302, .aload_n 0, 1), (1303, .iload_n 3, 1), (1304, .iconst 3, 1), (1305, .iadd, 1), (1306, .iaload, 1), (1307, .i2l, 1), (1308, .bipush 32, 2), (1310, .lshl, 1), (1311, .aload_n 0, 1), (1312, .iload_n 3, 1), (1313, .iconst 4, 1), (1314, .iadd, 1), (1315, .iaload, 1), (1316, .i2l, 1), (1317, .ldc2_w 174, 3), (1320, .land, 1), (1321, .lor, 1), (1322, .invokevirtual 176, 3), (1325, .aload_n 2, 1), (1326, .aload_n 0, 1), (1327, .iload_n 3, 1), (1328, .iconst 1, 1), (1329, .iadd, 1), (1330, .iaload, 1), (1331, .aload_n 0, 1), (1332, .iload_n 3, 1), (1333, .iconst 2, 1), (1334, .iadd, 1), (1335, .iaload, 1), (1336, .aload_n 0, 1), (1337, .iload_n 3, 1), (1338, .iconst 3, 1), (1339, .iadd, 1), (1340, .iaload, 1)]
def k_law_15 : List (Nat × Jvm.ClassFile.Instr × Nat) := [(1341, .i2l, 1), (1342, .bipush 32, 2), (1344, .lshl, 1), (1345, .aload_n 0, 1), (1346, .iload_n 3, 1), (1347, .iconst 4, 1), (1348, .iadd, 1), (1349, .iaload, 1), (1350, .i2l, 1), (1351, .ldc2_w 174, 3), (1354, .land, 1), (1355, .lor, 1), (1356, .invokevirtual 180, 3), (1359, .lcmp, 1), (1360, .ifCond .eq 107, 3), (1363, .iconst 0, 1), (1364, .ireturn, 1), (1365, .aload_n 1, 1), (1366, .aload_n 0, 1), (1367, .iload_n 3, 1), (1368, .iconst 1, 1), (1369, .iadd, 1), (1370, .iaload, 1), (1371, .aload_n 0, 1), (1372, .iload_n 3, 1), (1373, .iconst 2, 1), (1374, .iadd, 1), (1375, .iaload, 1), (1376, .invokevirtual 181, 3), (1379, .aload_n 2, 1), (1380, .aload_n 0, 1), (1381, .iload_n 3, 1), (1382, .iconst 1, 1), (1383, .iadd, 1), (1384, .iaload, 1), (1385, .aload_n 0, 1), (1386, .iload_n 3, 1), (1387, .iconst 2, 1), (1388, .iadd, 1), (1389, .iaload, 1), (1390, .invokevirtual 184, 3), (1393, .if_icmp .eq 74, 3), (1396, .iconst 0, 1), (1397, .ireturn, 1), (1398, .aload_n 1, 1), (1399, .aload_n 0, 1), (1400, .iload_n 3, 1), (1401, .iconst 1, 1), (1402, .iadd, 1), (1403, .iaload, 1), (1404, .invokevirtual 185, 3), (1407, .aload_n 2, 1), (1408, .aload_n 0, 1), (1409, .iload_n 3, 1), (1410, .iconst 1, 1), (1411, .iadd, 1), (1412, .iaload, 1), (1413, .invokevirtual 188, 3), (1416, .if_icmp .eq 51, 3), (1419, .iconst 0, 1)]
def k_law_16 : List (Nat × Jvm.ClassFile.Instr × Nat) := [(1420, .ireturn, 1), (1421, .aload_n 1, 1), (1422, .aload_n 0, 1), (1423, .iload_n 3, 1), (1424, .iconst 1, 1), (1425, .iadd, 1), (1426, .iaload, 1), (1427, .invokevirtual 189, 3), (1430, .aload_n 2, 1), (1431, .aload_n 0, 1), (1432, .iload_n 3, 1), (1433, .iconst 1, 1), (1434, .iadd, 1), (1435, .iaload, 1), (1436, .invokevirtual 192, 3), (1439, .if_icmp .eq 28, 3), (1442, .iconst 0, 1), (1443, .ireturn, 1), (1444, .aload_n 1, 1), (1445, .aload_n 0, 1), (1446, .iload_n 3, 1), (1447, .iconst 1, 1), (1448, .iadd, 1), (1449, .iaload, 1), (1450, .invokevirtual 193, 3), (1453, .aload_n 2, 1), (1454, .aload_n 0, 1), (1455, .iload_n 3, 1), (1456, .iconst 1, 1), (1457, .iadd, 1), (1458, .iaload, 1), (1459, .invokevirtual 196, 3), (1462, .if_icmp .eq 5, 3), (1465, .iconst 0, 1), (1466, .ireturn, 1), (1467, .iinc 3 6, 3), (1470, .goto (-1452), 3), (1473, .iconst 1, 1), (1474, .ireturn, 1)]
def k_law : List (Nat × Jvm.ClassFile.Instr × Nat) := k_law_0 ++ (k_law_1 ++ (k_law_2 ++ (k_law_3 ++ (k_law_4 ++ (k_law_5 ++ (k_law_6 ++ (k_law_7 ++ (k_law_8 ++ (k_law_9 ++ (k_law_10 ++ (k_law_11 ++ (k_law_12 ++ (k_law_13 ++ (k_law_14 ++ (k_law_15 ++ (k_law_16))))))))))))))))
def k_RW_init_0 : List (Nat × Jvm.ClassFile.Instr × Nat) := [(0, .aload_n 0, 1), (1, .invokespecial 1, 3), (4, .aload_n 0, 1), (5, .sipush 900, 3), (8, .newarray .byte, 2), (10, .putfield 9, 3), (13, .aload_n 0, 1), (14, .new 13, 3), (17, .dup, 1), (18, .invokespecial 15, 3), (21, .putfield 16, 3), (24, .aload_n 0, 1), (25, .new 20, 3), (28, .dup, 1), (29, .invokespecial 22, 3), (32, .putfield 23, 3), (35, .aload_n 0, 1), (36, .iconst 4, 1), (37, .anewarray 27, 3), (40, .putfield 29, 3), (43, .aload_n 0, 1), (44, .iconst 2, 1), (45, .anewarray 27, 3), (48, .putfield 33, 3), (51, .aload_n 0, 1), (52, .iconst 2, 1), (53, .anewarray 36, 3), (56, .putfield 38, 3), (59, .aload_n 0, 1), (60, .new 36, 3), (63, .dup, 1), (64, .invokespecial 42, 3), (67, .putfield 43, 3), (70, .aload_n 0, 1), (71, .new 36, 3), (74, .dup, 1), (75, .invokespecial 42, 3), (78, .putfield 47, 3), (81, .aload_n 0, 1), (82, .new 36, 3), (85, .dup, 1), (86, .invokespecial 42, 3), (89, .putfield 50, 3), (92, .aload_n 0, 1), (93, .new 53, 3), (96, .dup, 1), (97, .invokespecial 55, 3), (100, .putfield 56, 3), (103, .aload_n 0, 1), (104, .iconst 4, 1), (105, .anewarray 60, 3), (108, .putfield 62, 3), (111, .aload_n 0, 1), (112, .new 66, 3), (115, .dup, 1), (116, .invokespecial 68, 3), (119, .putfield 69, 3), (122, .aload_n 0, 1), (123, .new 73, 3), (126, .dup, 1)]
def k_RW_init_1 : List (Nat × Jvm.ClassFile.Instr × Nat) := [(127, .invokespecial 75, 3), (130, .putfield 76, 3), (133, .aload_n 0, 1), (134, .new 80, 3), (137, .dup, 1), (138, .invokespecial 82, 3), (141, .putfield 83, 3), (144, .aload_n 0, 1), (145, .bipush 10, 2), (147, .newarray .int, 2), (149, .putfield 87, 3), (152, .iconst 0, 1), (153, .istore_n 1, 1), (154, .iload_n 1, 1), (155, .aload_n 0, 1), (156, .getfield 29, 3), (159, .arraylength, 1), (160, .if_icmp .ge 22, 3), (163, .aload_n 0, 1), (164, .getfield 29, 3), (167, .iload_n 1, 1), (168, .new 27, 3), (171, .dup, 1), (172, .invokespecial 91, 3), (175, .aastore, 1), (176, .iinc 1 1, 3), (179, .goto (-25), 3), (182, .iconst 0, 1), (183, .istore_n 1, 1), (184, .iload_n 1, 1), (185, .iconst 2, 1), (186, .if_icmp .ge 22, 3), (189, .aload_n 0, 1), (190, .getfield 38, 3), (193, .iload_n 1, 1), (194, .new 36, 3), (197, .dup, 1), (198, .invokespecial 42, 3), (201, .aastore, 1), (202, .iinc 1 1, 3), (205, .goto (-21), 3), (208, .iconst 0, 1), (209, .istore_n 1, 1), (210, .iload_n 1, 1), (211, .iconst 4, 1), (212, .if_icmp .ge 22, 3), (215, .aload_n 0, 1), (216, .getfield 62, 3), (219, .iload_n 1, 1), (220, .new 60, 3), (223, .dup, 1), (224, .invokespecial 92, 3), (227, .aastore, 1), (228, .iinc 1 1, 3), (231, .goto (-21), 3), (234, .aload_n 0, 1), (235, .aload_n 0, 1), (236, .getfield 29, 3), (239, .iconst 0, 1), (240, .aaload, 1)]
def k_RW_init_2 : List (Nat × Jvm.ClassFile.Instr × Nat) := [(241, .putfield 93, 3), (244, .aload_n 0, 1), (245, .getfield 43, 3), (248, .aload_n 0, 1), (249, .getfield 93, 3), (252, .invokevirtual 97, 3), (255, .aload_n 0, 1), (256, .getfield 69, 3), (259, .aload_n 0, 1), (260, .getfield 93, 3), (263, .invokevirtual 101, 3), (266, .return_, 1)]
def k_RW_init : List (Nat × Jvm.ClassFile.Instr × Nat) := k_RW_init_0 ++ (k_RW_init_1 ++ (k_RW_init_2))
def k_Mo_init_0 : List (Nat × Jvm.ClassFile.Instr × Nat) := [(0, .aload_n 0, 1), (1, .invokespecial 7, 3), (4, .aload_n 0, 1), (5, .sipush 2913, 3), (8, .newarray .int, 2), (10, .putfield 13, 3), (13, .aload_n 0, 1), (14, .iconst 2, 1), (15, .newarray .boolean, 2), (17, .putfield 17, 3), (20, .aload_n 0, 1), (21, .sipush 900, 3), (24, .newarray .int, 2), (26, .putfield 21, 3), (29, .aload_n 0, 1), (30, .sipush 971, 3), (33, .newarray .int, 2), (35, .putfield 24, 3), (38, .aload_n 0, 1), (39, .iconst (-1), 1), (40, .putfield 27, 3), (43, .aload_n 0, 1), (44, .sipush 900, 3), (47, .newarray .int, 2), (49, .putfield 30, 3), (52, .aload_n 0, 1), (53, .bipush 10, 2), (55, .newarray .int, 2), (57, .putfield 33, 3), (60, .aload_n 0, 1), (61, .iconst 4, 1), (62, .newarray .int, 2), (64, .putfield 36, 3), (67, .aload_n 0, 1), (68, .sipush 2561, 3), (71, .newarray .int, 2), (73, .putfield 39, 3), (76, .aload_n 0, 1), (77, .sipush 2560, 3), (80, .newarray .int, 2), (82, .putfield 42, 3), (85, .aload_n 0, 1), (86, .sipush 5120, 3), (89, .newarray .int, 2), (91, .putfield 45, 3), (94, .aload_n 0, 1), (95, .sipush 2560, 3), (98, .newarray .int, 2), (100, .putfield 48, 3), (103, .aload_n 0, 1), (104, .sipush 2560, 3), (107, .newarray .int, 2), (109, .putfield 51, 3), (112, .aload_n 0, 1), (113, .sipush 2560, 3), (116, .newarray .int, 2), (118, .putfield 54, 3), (121, .aload_n 0, 1), (122, .sipush 2560, 3), (125, .newarray .int, 2)]
def k_Mo_init_1 : List (Nat × Jvm.ClassFile.Instr × Nat) := [(127, .putfield 57, 3), (130, .aload_n 0, 1), (131, .sipush 512, 3), (134, .newarray .int, 2), (136, .putfield 60, 3), (139, .aload_n 0, 1), (140, .iconst 4, 1), (141, .newarray .int, 2), (143, .dup, 1), (144, .iconst 0, 1), (145, .iconst (-1), 1), (146, .iastore, 1), (147, .dup, 1), (148, .iconst 1, 1), (149, .iconst (-1), 1), (150, .iastore, 1), (151, .dup, 1), (152, .iconst 2, 1), (153, .iconst (-1), 1), (154, .iastore, 1), (155, .dup, 1), (156, .iconst 3, 1), (157, .iconst (-1), 1), (158, .iastore, 1), (159, .putfield 63, 3), (162, .aload_n 0, 1), (163, .iconst 4, 1), (164, .newarray .int, 2), (166, .putfield 66, 3), (169, .aload_n 0, 1), (170, .sipush 160, 3), (173, .newarray .long, 2), (175, .putfield 69, 3), (178, .aload_n 0, 1), (179, .getfield 13, 3), (182, .invokestatic 73, 3), (185, .return_, 1)]
def k_Mo_init : List (Nat × Jvm.ClassFile.Instr × Nat) := k_Mo_init_0 ++ (k_Mo_init_1)
def k_RW_feed : List (Nat × Jvm.ClassFile.Instr × Nat) := [(0, .aload_n 0, 1), (1, .getfield 104, 3), (4, .bipush 20, 2), (6, .iadd, 1), (7, .sipush 900, 3), (10, .if_icmp .le 6, 3), (13, .bipush (-5), 2), (15, .ireturn, 1), (16, .aload_n 0, 1), (17, .iload_n 1, 1), (18, .invokevirtual 108, 3), (21, .aload_n 0, 1), (22, .iload_n 2, 1), (23, .invokevirtual 108, 3), (26, .aload_n 0, 1), (27, .iload_n 3, 1), (28, .invokevirtual 108, 3), (31, .aload_n 0, 1), (32, .iload 4, 2), (34, .invokevirtual 108, 3), (37, .aload_n 0, 1), (38, .iload 5, 2), (40, .invokevirtual 108, 3), (43, .aload_n 0, 1), (44, .getfield 104, 3), (47, .ireturn, 1)]
def k_Mo_feed_0 : List (Nat × Jvm.ClassFile.Instr × Nat) := [(0, .aload_n 0, 1), (1, .iconst 0, 1), (2, .putfield 1, 3), (5, .aload_n 0, 1), (6, .getfield 77, 3), (9, .bipush 20, 2), (11, .iadd, 1), (12, .sipush 900, 3), (15, .if_icmp .le 6, 3), (18, .bipush (-5), 2), (20, .ireturn, 1), (21, .iconst 0, 1), (22, .istore 6, 2), (24, .iload 6, 2), (26, .bipush 20, 2), (28, .if_icmp .ge 93, 3), (31, .iload 6, 2), (33, .iconst 4, 1), (34, .if_icmp .ge 7, 3), (37, .iload_n 1, 1), (38, .goto 39, 3), (41, .iload 6, 2), (43, .bipush 8, 2), (45, .if_icmp .ge 7, 3), (48, .iload_n 2, 1), (49, .goto 28, 3), (52, .iload 6, 2), (54, .bipush 12, 2), (56, .if_icmp .ge 7, 3), (59, .iload_n 3, 1), (60, .goto 17, 3), (63, .iload 6, 2), (65, .bipush 16, 2), (67, .if_icmp .ge 8, 3), (70, .iload 4, 2), (72, .goto 5, 3), (75, .iload 5, 2), (77, .istore 7, 2), (79, .aload_n 0, 1), (80, .getfield 21, 3), (83, .aload_n 0, 1), (84, .getfield 77, 3), (87, .iload 7, 2), (89, .bipush 24, 2), (91, .bipush 8, 2), (93, .iload 6, 2), (95, .iconst 4, 1), (96, .irem, 1), (97, .imul, 1), (98, .isub, 1), (99, .ishr, 1), (100, .sipush 255, 3), (103, .iand, 1), (104, .iastore, 1), (105, .aload_n 0, 1), (106, .dup, 1), (107, .getfield 77, 3), (110, .iconst 1, 1), (111, .iadd, 1), (112, .putfield 77, 3)]
def k_Mo_feed_1 : List (Nat × Jvm.ClassFile.Instr × Nat) := [(115, .iinc 6 1, 3), (118, .goto (-94), 3), (121, .aload_n 0, 1), (122, .getfield 77, 3), (125, .ireturn, 1)]
def k_Mo_feed : List (Nat × Jvm.ClassFile.Instr × Nat) := k_Mo_feed_0 ++ (k_Mo_feed_1)
def k_RW_room : List (Nat × Jvm.ClassFile.Instr × Nat) := [(0, .iload_n 1, 1), (1, .ifCond .lt 11, 3), (4, .iload_n 1, 1), (5, .aload_n 0, 1), (6, .getfield 104, 3), (9, .if_icmp .le 6, 3), (12, .bipush (-3), 2), (14, .ireturn, 1), (15, .aload_n 0, 1), (16, .iconst 0, 1), (17, .putfield 104, 3), (20, .aload_n 0, 1), (21, .invokevirtual 112, 3), (24, .astore_n 2, 1), (25, .aload_n 0, 1), (26, .getfield 16, 3), (29, .aload_n 0, 1), (30, .getfield 9, 3), (33, .iload_n 1, 1), (34, .invokevirtual 116, 3), (37, .aload_n 0, 1), (38, .getfield 23, 3), (41, .aload_n 0, 1), (42, .getfield 16, 3), (45, .aload_n 2, 1), (46, .invokevirtual 119, 3), (49, .ifCond .ne 14, 3), (52, .bipush (-30), 2), (54, .aload_n 0, 1), (55, .getfield 16, 3), (58, .getfield 123, 3), (61, .isub, 1), (62, .ireturn, 1), (63, .aload_n 0, 1), (64, .aload_n 2, 1), (65, .putfield 93, 3), (68, .aload_n 0, 1), (69, .getfield 43, 3), (72, .aload_n 0, 1), (73, .getfield 93, 3), (76, .invokevirtual 97, 3), (79, .aload_n 0, 1), (80, .getfield 56, 3), (83, .invokevirtual 126, 3), (86, .aload_n 0, 1), (87, .getfield 69, 3), (90, .aload_n 0, 1), (91, .getfield 93, 3), (94, .invokevirtual 101, 3), (97, .aload_n 0, 1), (98, .getfield 93, 3), (101, .getfield 129, 3), (104, .ireturn, 1)]
def k_Mo_room_0 : List (Nat × Jvm.ClassFile.Instr × Nat) := [(0, .aload_n 0, 1), (1, .iconst 0, 1), (2, .putfield 1, 3), (5, .iload_n 1, 1), (6, .i2l, 1), (7, .lconst 0, 1), (8, .aload_n 0, 1), (9, .getfield 77, 3), (12, .i2l, 1), (13, .invokestatic 139, 3), (16, .ifCond .ne 6, 3), (19, .bipush (-3), 2), (21, .ireturn, 1), (22, .aload_n 0, 1), (23, .iload_n 1, 1), (24, .putfield 80, 3), (27, .aload_n 0, 1), (28, .iconst 0, 1), (29, .putfield 77, 3), (32, .aload_n 0, 1), (33, .iconst 0, 1), (34, .putfield 98, 3), (37, .aload_n 0, 1), (38, .iconst 0, 1), (39, .putfield 123, 3), (42, .aload_n 0, 1), (43, .getfield 24, 3), (46, .invokestatic 73, 3), (49, .aload_n 0, 1), (50, .invokevirtual 132, 3), (53, .aload_n 0, 1), (54, .iconst 0, 1), (55, .invokevirtual 161, 3), (58, .ifCond .ne 8, 3), (61, .aload_n 0, 1), (62, .iconst 2, 1), (63, .invokevirtual 135, 3), (66, .aload_n 0, 1), (67, .getfield 24, 3), (70, .iconst 1, 1), (71, .aload_n 0, 1), (72, .iconst 1, 1), (73, .iconst 3, 1), (74, .invokevirtual 179, 3), (77, .iastore, 1), (78, .aload_n 0, 1), (79, .getfield 24, 3), (82, .iconst 2, 1), (83, .aload_n 0, 1), (84, .iconst 1, 1), (85, .iconst 3, 1), (86, .invokevirtual 179, 3), (89, .iastore, 1), (90, .aload_n 0, 1), (91, .invokevirtual 198, 3), (94, .aload_n 0, 1), (95, .getfield 123, 3), (98, .ifCond .ne 23, 3), (101, .aload_n 0, 1), (102, .getfield 105, 3)]
def k_Mo_room_1 : List (Nat × Jvm.ClassFile.Instr × Nat) := [(105, .bipush 24, 2), (107, .if_icmp .eq 14, 3), (110, .aload_n 0, 1), (111, .invokevirtual 201, 3), (114, .aload_n 0, 1), (115, .invokevirtual 198, 3), (118, .goto (-24), 3), (121, .aload_n 0, 1), (122, .aload_n 0, 1), (123, .getfield 123, 3), (126, .putfield 204, 3), (129, .aload_n 0, 1), (130, .aload_n 0, 1), (131, .getfield 123, 3), (134, .ifCond .ne 7, 3), (137, .iconst (-1), 1), (138, .goto 7, 3), (141, .aload_n 0, 1), (142, .getfield 126, 3), (145, .putfield 27, 3), (148, .aload_n 0, 1), (149, .getfield 123, 3), (152, .ifCond .eq 11, 3), (155, .bipush (-30), 2), (157, .aload_n 0, 1), (158, .getfield 123, 3), (161, .isub, 1), (162, .ireturn, 1), (163, .iconst 0, 1), (164, .istore_n 2, 1), (165, .iload_n 2, 1), (166, .sipush 971, 3), (169, .if_icmp .ge 21, 3), (172, .aload_n 0, 1), (173, .getfield 13, 3), (176, .iload_n 2, 1), (177, .aload_n 0, 1), (178, .getfield 24, 3), (181, .iload_n 2, 1), (182, .iaload, 1), (183, .iastore, 1), (184, .iinc 2 1, 3), (187, .goto (-22), 3), (190, .aload_n 0, 1), (191, .getfield 13, 3), (194, .iconst 0, 1), (195, .iaload, 1), (196, .ireturn, 1)]
def k_Mo_room : List (Nat × Jvm.ClassFile.Instr × Nat) := k_Mo_room_0 ++ (k_Mo_room_1)
def k_RW_fault : List (Nat × Jvm.ClassFile.Instr × Nat) := [(0, .iload_n 1, 1), (1, .lookupswitch 43 #[(0, 27), (1, 35)], 27), (28, .aload_n 0, 1), (29, .getfield 16, 3), (32, .getfield 123, 3), (35, .ireturn, 1), (36, .aload_n 0, 1), (37, .getfield 16, 3), (40, .getfield 132, 3), (43, .ireturn, 1), (44, .iconst (-1), 1), (45, .ireturn, 1)]
def k_Mo_fault : List (Nat × Jvm.ClassFile.Instr × Nat) := [(0, .aload_n 0, 1), (1, .iconst 0, 1), (2, .putfield 1, 3), (5, .iload_n 1, 1), (6, .ifCond .ne 10, 3), (9, .aload_n 0, 1), (10, .getfield 204, 3), (13, .goto 16, 3), (16, .iload_n 1, 1), (17, .iconst 1, 1), (18, .if_icmp .ne 10, 3), (21, .aload_n 0, 1), (22, .getfield 27, 3), (25, .goto 4, 3), (28, .iconst (-1), 1), (29, .ireturn, 1)]
def k_RW_rose : List (Nat × Jvm.ClassFile.Instr × Nat) := [(0, .aload_n 0, 1), (1, .getfield 93, 3), (4, .iload_n 1, 1), (5, .invokevirtual 135, 3), (8, .ifCond .eq 12, 3), (11, .iload_n 2, 1), (12, .ifCond .lt 8, 3), (15, .iload_n 2, 1), (16, .iconst 4, 1), (17, .if_icmp .le 6, 3), (20, .bipush (-2), 2), (22, .ireturn, 1), (23, .iload_n 2, 1), (24, .tableswitch 71 0 2 #[28, 38, 50], 28), (52, .aload_n 0, 1), (53, .getfield 93, 3), (56, .getfield 139, 3), (59, .iload_n 1, 1), (60, .iaload, 1), (61, .ireturn, 1), (62, .aload_n 0, 1), (63, .getfield 43, 3), (66, .getfield 142, 3), (69, .iload_n 1, 1), (70, .ishr, 1), (71, .iconst 1, 1), (72, .iand, 1), (73, .ireturn, 1), (74, .aload_n 0, 1), (75, .getfield 43, 3), (78, .getfield 142, 3), (81, .aload_n 0, 1), (82, .getfield 93, 3), (85, .getfield 145, 3), (88, .iload_n 1, 1), (89, .iaload, 1), (90, .iand, 1), (91, .invokestatic 148, 3), (94, .ireturn, 1), (95, .aload_n 0, 1), (96, .getfield 69, 3), (99, .aload_n 0, 1), (100, .getfield 43, 3), (103, .invokevirtual 154, 3), (106, .iload_n 2, 1), (107, .iconst 3, 1), (108, .isub, 1), (109, .aload_n 0, 1), (110, .getfield 43, 3), (113, .getfield 158, 3), (116, .invokevirtual 161, 3), (119, .iload_n 1, 1), (120, .ishr, 1), (121, .iconst 1, 1), (122, .iand, 1), (123, .ireturn, 1)]
def k_Mo_rose : List (Nat × Jvm.ClassFile.Instr × Nat) := [(0, .aload_n 0, 1), (1, .iconst 0, 1), (2, .putfield 1, 3), (5, .aload_n 0, 1), (6, .iload_n 1, 1), (7, .i2l, 1), (8, .invokevirtual 249, 3), (11, .ifCond .ne 6, 3), (14, .bipush (-2), 2), (16, .ireturn, 1), (17, .iload_n 2, 1), (18, .tableswitch 100 0 4 #[34, 44, 56, 69, 69], 34), (52, .aload_n 0, 1), (53, .getfield 13, 3), (56, .bipush 12, 2), (58, .iload_n 1, 1), (59, .iadd, 1), (60, .iaload, 1), (61, .ireturn, 1), (62, .aload_n 0, 1), (63, .getfield 13, 3), (66, .bipush 25, 2), (68, .iaload, 1), (69, .iload_n 1, 1), (70, .ishr, 1), (71, .iconst 1, 1), (72, .iand, 1), (73, .ireturn, 1), (74, .aload_n 0, 1), (75, .iload_n 1, 1), (76, .aload_n 0, 1), (77, .getfield 13, 3), (80, .bipush 25, 2), (82, .iaload, 1), (83, .invokevirtual 224, 3), (86, .ireturn, 1), (87, .aload_n 0, 1), (88, .iload_n 1, 1), (89, .aload_n 0, 1), (90, .getfield 13, 3), (93, .bipush 25, 2), (95, .iaload, 1), (96, .aload_n 0, 1), (97, .getfield 13, 3), (100, .bipush 26, 2), (102, .iaload, 1), (103, .iload_n 2, 1), (104, .iconst 3, 1), (105, .isub, 1), (106, .invokevirtual 235, 3), (109, .ifCond .eq 7, 3), (112, .iconst 1, 1), (113, .goto 4, 3), (116, .iconst 0, 1), (117, .ireturn, 1), (118, .bipush (-2), 2), (120, .ireturn, 1)]
def k_RW_tenant : List (Nat × Jvm.ClassFile.Instr × Nat) := [(0, .aload_n 0, 1), (1, .getfield 93, 3), (4, .iload_n 1, 1), (5, .invokevirtual 165, 3), (8, .ifCond .eq 12, 3), (11, .iload_n 2, 1), (12, .ifCond .lt 8, 3), (15, .iload_n 2, 1), (16, .iconst 3, 1), (17, .if_icmp .le 6, 3), (20, .bipush (-2), 2), (22, .ireturn, 1), (23, .iload_n 2, 1), (24, .lookupswitch 55 #[(0, 28), (1, 38)], 28), (52, .aload_n 0, 1), (53, .getfield 93, 3), (56, .getfield 168, 3), (59, .iload_n 1, 1), (60, .iaload, 1), (61, .ireturn, 1), (62, .aload_n 0, 1), (63, .getfield 43, 3), (66, .getfield 171, 3), (69, .iload_n 1, 1), (70, .if_icmp .ne 7, 3), (73, .iconst 1, 1), (74, .goto 4, 3), (77, .iconst 0, 1), (78, .ireturn, 1), (79, .aload_n 0, 1), (80, .getfield 69, 3), (83, .aload_n 0, 1), (84, .getfield 43, 3), (87, .getfield 142, 3), (90, .iload_n 1, 1), (91, .iload_n 2, 1), (92, .iconst 2, 1), (93, .isub, 1), (94, .invokevirtual 174, 3), (97, .ifCond .eq 7, 3), (100, .iconst 1, 1), (101, .goto 4, 3), (104, .iconst 0, 1), (105, .ireturn, 1)]
def k_Mo_tenant : List (Nat × Jvm.ClassFile.Instr × Nat) := [(0, .aload_n 0, 1), (1, .iconst 0, 1), (2, .putfield 1, 3), (5, .aload_n 0, 1), (6, .iload_n 1, 1), (7, .i2l, 1), (8, .invokevirtual 253, 3), (11, .ifCond .ne 6, 3), (14, .bipush (-2), 2), (16, .ireturn, 1), (17, .iload_n 2, 1), (18, .tableswitch 81 0 3 #[30, 40, 57, 57], 30), (48, .aload_n 0, 1), (49, .getfield 13, 3), (52, .bipush 21, 2), (54, .iload_n 1, 1), (55, .iadd, 1), (56, .iaload, 1), (57, .ireturn, 1), (58, .aload_n 0, 1), (59, .getfield 13, 3), (62, .bipush 26, 2), (64, .iaload, 1), (65, .iload_n 1, 1), (66, .if_icmp .ne 7, 3), (69, .iconst 1, 1), (70, .goto 4, 3), (73, .iconst 0, 1), (74, .ireturn, 1), (75, .aload_n 0, 1), (76, .iload_n 1, 1), (77, .aload_n 0, 1), (78, .getfield 13, 3), (81, .bipush 25, 2), (83, .iaload, 1), (84, .iload_n 2, 1), (85, .iconst 2, 1), (86, .isub, 1), (87, .invokevirtual 242, 3), (90, .ifCond .eq 7, 3), (93, .iconst 1, 1), (94, .goto 4, 3), (97, .iconst 0, 1), (98, .ireturn, 1), (99, .bipush (-2), 2), (101, .ireturn, 1)]
def k_RW_night : List (Nat × Jvm.ClassFile.Instr × Nat) := [(0, .aload_n 0, 1), (1, .iload_n 1, 1), (2, .iconst 0, 1), (3, .invokevirtual 178, 3), (6, .istore_n 2, 1), (7, .iload_n 2, 1), (8, .ifCond .eq 10, 3), (11, .bipush (-10), 2), (13, .iload_n 2, 1), (14, .isub, 1), (15, .goto 10, 3), (18, .aload_n 0, 1), (19, .getfield 43, 3), (22, .getfield 142, 3), (25, .ireturn, 1)]
def k_Mo_night : List (Nat × Jvm.ClassFile.Instr × Nat) := [(0, .aload_n 0, 1), (1, .iconst 0, 1), (2, .putfield 1, 3), (5, .iload_n 1, 1), (6, .i2l, 1), (7, .invokestatic 262, 3), (10, .ifCond .ne 6, 3), (13, .bipush (-11), 2), (15, .ireturn, 1), (16, .aload_n 0, 1), (17, .invokevirtual 265, 3), (20, .aload_n 0, 1), (21, .iload_n 1, 1), (22, .invokevirtual 268, 3), (25, .aload_n 0, 1), (26, .invokevirtual 271, 3), (29, .aload_n 0, 1), (30, .getfield 13, 3), (33, .bipush 25, 2), (35, .iaload, 1), (36, .ireturn, 1)]
def k_RW_nights : List (Nat × Jvm.ClassFile.Instr × Nat) := [(0, .iload_n 1, 1), (1, .iconst 1, 1), (2, .if_icmp .lt 9, 3), (5, .iload_n 1, 1), (6, .bipush 99, 2), (8, .if_icmp .le 6, 3), (11, .bipush (-3), 2), (13, .ireturn, 1), (14, .iload_n 2, 1), (15, .invokestatic 182, 3), (18, .ifCond .ne 6, 3), (21, .bipush (-11), 2), (23, .ireturn, 1), (24, .aload_n 0, 1), (25, .getfield 56, 3), (28, .aload_n 0, 1), (29, .getfield 43, 3), (32, .invokevirtual 185, 3), (35, .aload_n 0, 1), (36, .getfield 43, 3), (39, .getfield 171, 3), (42, .iconst (-1), 1), (43, .if_icmp .ne 7, 3), (46, .iload_n 1, 1), (47, .goto 4, 3), (50, .iconst 0, 1), (51, .istore_n 3, 1), (52, .iconst 1, 1), (53, .istore 4, 2), (55, .iload 4, 2), (57, .iload_n 1, 1), (58, .if_icmp .gt 36, 3), (61, .aload_n 0, 1), (62, .aload_n 0, 1), (63, .getfield 43, 3), (66, .iload_n 2, 1), (67, .invokevirtual 189, 3), (70, .iload_n 3, 1), (71, .ifCond .ne 17, 3), (74, .aload_n 0, 1), (75, .getfield 43, 3), (78, .getfield 171, 3), (81, .iconst (-1), 1), (82, .if_icmp .ne 6, 3), (85, .iload 4, 2), (87, .istore_n 3, 1), (88, .iinc 4 1, 3), (91, .goto (-36), 3), (94, .iload_n 3, 1), (95, .ifCond .ne 7, 3), (98, .iload_n 1, 1), (99, .goto 4, 3), (102, .iload_n 3, 1), (103, .ireturn, 1)]
def k_Mo_nights : List (Nat × Jvm.ClassFile.Instr × Nat) := [(0, .aload_n 0, 1), (1, .iconst 0, 1), (2, .putfield 1, 3), (5, .iload_n 1, 1), (6, .i2l, 1), (7, .lconst 1, 1), (8, .ldc2_w 274, 3), (11, .invokestatic 139, 3), (14, .ifCond .ne 6, 3), (17, .bipush (-3), 2), (19, .ireturn, 1), (20, .iload_n 2, 1), (21, .i2l, 1), (22, .invokestatic 262, 3), (25, .ifCond .ne 6, 3), (28, .bipush (-11), 2), (30, .ireturn, 1), (31, .aload_n 0, 1), (32, .invokevirtual 265, 3), (35, .iload_n 1, 1), (36, .istore_n 3, 1), (37, .iconst 1, 1), (38, .istore 4, 2), (40, .iload 4, 2), (42, .iload_n 1, 1), (43, .if_icmp .gt 51, 3), (46, .aload_n 0, 1), (47, .getfield 13, 3), (50, .bipush 26, 2), (52, .iaload, 1), (53, .iconst 4, 1), (54, .if_icmp .eq 7, 3), (57, .iconst 1, 1), (58, .goto 4, 3), (61, .iconst 0, 1), (62, .istore 5, 2), (64, .aload_n 0, 1), (65, .iload_n 2, 1), (66, .invokevirtual 268, 3), (69, .iload 5, 2), (71, .ifCond .eq 17, 3), (74, .aload_n 0, 1), (75, .getfield 13, 3), (78, .bipush 26, 2), (80, .iaload, 1), (81, .iconst 4, 1), (82, .if_icmp .ne 6, 3), (85, .iload 4, 2), (87, .istore_n 3, 1), (88, .iinc 4 1, 3), (91, .goto (-51), 3), (94, .aload_n 0, 1), (95, .invokevirtual 271, 3), (98, .iload_n 3, 1), (99, .ireturn, 1)]
def k_RW_let : List (Nat × Jvm.ClassFile.Instr × Nat) := [(0, .aload_n 0, 1), (1, .iload_n 1, 1), (2, .bipush 10, 2), (4, .invokevirtual 178, 3), (7, .istore_n 2, 1), (8, .iload_n 2, 1), (9, .ifCond .eq 10, 3), (12, .bipush (-10), 2), (14, .iload_n 2, 1), (15, .isub, 1), (16, .goto 13, 3), (19, .aload_n 0, 1), (20, .getfield 43, 3), (23, .getfield 142, 3), (26, .invokestatic 148, 3), (29, .ireturn, 1)]
def k_Mo_let : List (Nat × Jvm.ClassFile.Instr × Nat) := [(0, .aload_n 0, 1), (1, .iconst 0, 1), (2, .putfield 1, 3), (5, .aload_n 0, 1), (6, .iload_n 1, 1), (7, .i2l, 1), (8, .invokevirtual 276, 3), (11, .istore_n 2, 1), (12, .iload_n 2, 1), (13, .ifCond .eq 8, 3), (16, .bipush (-10), 2), (18, .iload_n 2, 1), (19, .isub, 1), (20, .ireturn, 1), (21, .aload_n 0, 1), (22, .invokevirtual 265, 3), (25, .aload_n 0, 1), (26, .getfield 13, 3), (29, .bipush 26, 2), (31, .iload_n 1, 1), (32, .iastore, 1), (33, .aload_n 0, 1), (34, .invokevirtual 271, 3), (37, .aload_n 0, 1), (38, .getfield 13, 3), (41, .bipush 25, 2), (43, .iaload, 1), (44, .invokestatic 232, 3), (47, .ireturn, 1)]
def k_RW_turn : List (Nat × Jvm.ClassFile.Instr × Nat) := [(0, .aload_n 0, 1), (1, .iload_n 1, 1), (2, .bipush 20, 2), (4, .invokevirtual 178, 3), (7, .istore_n 2, 1), (8, .iload_n 2, 1), (9, .ifCond .eq 10, 3), (12, .bipush (-10), 2), (14, .iload_n 2, 1), (15, .isub, 1), (16, .goto 14, 3), (19, .aload_n 0, 1), (20, .getfield 43, 3), (23, .getfield 142, 3), (26, .iload_n 1, 1), (27, .ishr, 1), (28, .iconst 1, 1), (29, .iand, 1), (30, .ireturn, 1)]
def k_Mo_turn : List (Nat × Jvm.ClassFile.Instr × Nat) := [(0, .aload_n 0, 1), (1, .iconst 0, 1), (2, .putfield 1, 3), (5, .aload_n 0, 1), (6, .iload_n 1, 1), (7, .i2l, 1), (8, .invokevirtual 249, 3), (11, .ifCond .ne 6, 3), (14, .bipush (-11), 2), (16, .ireturn, 1), (17, .aload_n 0, 1), (18, .invokevirtual 265, 3), (21, .aload_n 0, 1), (22, .getfield 13, 3), (25, .bipush 25, 2), (27, .dup2, 1), (28, .iaload, 1), (29, .iconst 1, 1), (30, .iload_n 1, 1), (31, .ishl, 1), (32, .ixor, 1), (33, .iastore, 1), (34, .aload_n 0, 1), (35, .invokevirtual 271, 3), (38, .aload_n 0, 1), (39, .getfield 13, 3), (42, .bipush 25, 2), (44, .iaload, 1), (45, .iload_n 1, 1), (46, .ishr, 1), (47, .iconst 1, 1), (48, .iand, 1), (49, .ireturn, 1)]
def k_RW_temper : List (Nat × Jvm.ClassFile.Instr × Nat) := [(0, .aload_n 0, 1), (1, .iload_n 1, 1), (2, .bipush 30, 2), (4, .invokevirtual 178, 3), (7, .istore_n 2, 1), (8, .iload_n 2, 1), (9, .ifCond .eq 10, 3), (12, .bipush (-10), 2), (14, .iload_n 2, 1), (15, .isub, 1), (16, .goto 10, 3), (19, .aload_n 0, 1), (20, .getfield 47, 3), (23, .getfield 158, 3), (26, .ireturn, 1)]
def k_Mo_temper : List (Nat × Jvm.ClassFile.Instr × Nat) := [(0, .aload_n 0, 1), (1, .iconst 0, 1), (2, .putfield 1, 3), (5, .iload_n 1, 1), (6, .i2l, 1), (7, .lconst 0, 1), (8, .ldc2_w 280, 3), (11, .invokestatic 139, 3), (14, .ifCond .ne 6, 3), (17, .bipush (-11), 2), (19, .ireturn, 1), (20, .aload_n 0, 1), (21, .invokevirtual 265, 3), (24, .aload_n 0, 1), (25, .getfield 13, 3), (28, .bipush 27, 2), (30, .iload_n 1, 1), (31, .iastore, 1), (32, .aload_n 0, 1), (33, .invokevirtual 271, 3), (36, .aload_n 0, 1), (37, .getfield 36, 3), (40, .iconst 2, 1), (41, .iaload, 1), (42, .ireturn, 1)]
def k_RW_undo : List (Nat × Jvm.ClassFile.Instr × Nat) := [(0, .iload_n 1, 1), (1, .iconst 1, 1), (2, .if_icmp .lt 14, 3), (5, .iload_n 1, 1), (6, .aload_n 0, 1), (7, .getfield 56, 3), (10, .getfield 193, 3), (13, .if_icmp .le 6, 3), (16, .bipush (-3), 2), (18, .ireturn, 1), (19, .aload_n 0, 1), (20, .getfield 56, 3), (23, .iload_n 1, 1), (24, .aload_n 0, 1), (25, .getfield 43, 3), (28, .invokevirtual 196, 3), (31, .aload_n 0, 1), (32, .getfield 56, 3), (35, .getfield 193, 3), (38, .ireturn, 1)]
def k_Mo_undo : List (Nat × Jvm.ClassFile.Instr × Nat) := [(0, .aload_n 0, 1), (1, .iconst 0, 1), (2, .putfield 1, 3), (5, .iload_n 1, 1), (6, .i2l, 1), (7, .lconst 1, 1), (8, .ldc2_w 282, 3), (11, .invokestatic 139, 3), (14, .ifCond .eq 14, 3), (17, .iload_n 1, 1), (18, .aload_n 0, 1), (19, .getfield 13, 3), (22, .bipush 29, 2), (24, .iaload, 1), (25, .if_icmp .le 6, 3), (28, .bipush (-3), 2), (30, .ireturn, 1), (31, .aload_n 0, 1), (32, .getfield 13, 3), (35, .bipush 29, 2), (37, .dup2, 1), (38, .iaload, 1), (39, .iload_n 1, 1), (40, .isub, 1), (41, .iastore, 1), (42, .iconst 0, 1), (43, .istore_n 2, 1), (44, .iload_n 2, 1), (45, .iconst 4, 1), (46, .if_icmp .ge 37, 3), (49, .aload_n 0, 1), (50, .getfield 13, 3), (53, .bipush 25, 2), (55, .iload_n 2, 1), (56, .iadd, 1), (57, .aload_n 0, 1), (58, .getfield 13, 3), (61, .bipush 30, 2), (63, .iconst 4, 1), (64, .aload_n 0, 1), (65, .getfield 13, 3), (68, .bipush 29, 2), (70, .iaload, 1), (71, .imul, 1), (72, .iadd, 1), (73, .iload_n 2, 1), (74, .iadd, 1), (75, .iaload, 1), (76, .iastore, 1), (77, .iinc 2 1, 3), (80, .goto (-36), 3), (83, .aload_n 0, 1), (84, .getfield 13, 3), (87, .bipush 29, 2), (89, .iaload, 1), (90, .ireturn, 1)]
def k_RW_judge_0 : List (Nat × Jvm.ClassFile.Instr × Nat) := [(0, .iload_n 1, 1), (1, .invokestatic 200, 3), (4, .ifCond .eq 12, 3), (7, .iload_n 2, 1), (8, .ifCond .lt 8, 3), (11, .iload_n 2, 1), (12, .iconst 3, 1), (13, .if_icmp .le 6, 3), (16, .bipush (-2), 2), (18, .ireturn, 1), (19, .aload_n 0, 1), (20, .getfield 62, 3), (23, .iload_n 1, 1), (24, .aaload, 1), (25, .getfield 203, 3), (28, .ifCond .eq 6, 3), (31, .bipush (-6), 2), (33, .ireturn, 1), (34, .aload_n 0, 1), (35, .getfield 50, 3), (38, .aload_n 0, 1), (39, .getfield 43, 3), (42, .invokevirtual 207, 3), (45, .aload_n 0, 1), (46, .aload_n 0, 1), (47, .getfield 62, 3), (50, .iload_n 1, 1), (51, .aaload, 1), (52, .aload_n 0, 1), (53, .getfield 50, 3), (56, .invokevirtual 210, 3), (59, .istore_n 3, 1), (60, .iload_n 3, 1), (61, .aload_n 0, 1), (62, .getfield 62, 3), (65, .iload_n 1, 1), (66, .aaload, 1), (67, .getfield 214, 3), (70, .if_icmp .ne 7, 3), (73, .iconst 1, 1), (74, .goto 4, 3), (77, .iconst 0, 1), (78, .istore 4, 2), (80, .iload_n 2, 1), (81, .tableswitch 74 0 2 #[27, 38, 66], 27), (108, .iload 4, 2), (110, .ifCond .eq 7, 3), (113, .iconst (-1), 1), (114, .goto 4, 3), (117, .iload_n 3, 1), (118, .ireturn, 1), (119, .iload 4, 2), (121, .ifCond .eq 7, 3), (124, .iconst 0, 1), (125, .goto 21, 3), (128, .aload_n 0, 1), (129, .aload_n 0, 1), (130, .getfield 50, 3), (133, .aload_n 0, 1), (134, .getfield 62, 3)]
def k_RW_judge_1 : List (Nat × Jvm.ClassFile.Instr × Nat) := [(137, .iload_n 1, 1), (138, .aaload, 1), (139, .iload_n 3, 1), (140, .invokevirtual 215, 3), (143, .invokevirtual 219, 3), (146, .ireturn, 1), (147, .aload_n 0, 1), (148, .getfield 50, 3), (151, .getfield 142, 3), (154, .ireturn, 1), (155, .aload_n 0, 1), (156, .getfield 50, 3), (159, .getfield 171, 3), (162, .ireturn, 1)]
def k_RW_judge : List (Nat × Jvm.ClassFile.Instr × Nat) := k_RW_judge_0 ++ (k_RW_judge_1)
def k_Mo_judge : List (Nat × Jvm.ClassFile.Instr × Nat) := [(0, .aload_n 0, 1), (1, .iconst 0, 1), (2, .putfield 1, 3), (5, .iload_n 2, 1), (6, .i2l, 1), (7, .lconst 0, 1), (8, .ldc2_w 227, 3), (11, .invokestatic 139, 3), (14, .ifCond .ne 6, 3), (17, .bipush (-2), 2), (19, .ireturn, 1), (20, .aload_n 0, 1), (21, .iload_n 1, 1), (22, .invokevirtual 303, 3), (25, .istore_n 3, 1), (26, .iload_n 3, 1), (27, .ifCond .eq 5, 3), (30, .iload_n 3, 1), (31, .ireturn, 1), (32, .aload_n 0, 1), (33, .invokevirtual 265, 3), (36, .aload_n 0, 1), (37, .iload_n 1, 1), (38, .invokevirtual 306, 3), (41, .istore 4, 2), (43, .aload_n 0, 1), (44, .getfield 13, 3), (47, .bipush 25, 2), (49, .iaload, 1), (50, .istore 5, 2), (52, .aload_n 0, 1), (53, .getfield 13, 3), (56, .bipush 26, 2), (58, .iaload, 1), (59, .istore 6, 2), (61, .aload_n 0, 1), (62, .invokevirtual 309, 3), (65, .iload_n 2, 1), (66, .ifCond .ne 19, 3), (69, .aload_n 0, 1), (70, .getfield 294, 3), (73, .ifCond .ne 7, 3), (76, .iconst (-1), 1), (77, .goto 35, 3), (80, .iload 4, 2), (82, .goto 30, 3), (85, .iload_n 2, 1), (86, .iconst 1, 1), (87, .if_icmp .ne 10, 3), (90, .aload_n 0, 1), (91, .getfield 294, 3), (94, .goto 18, 3), (97, .iload_n 2, 1), (98, .iconst 2, 1), (99, .if_icmp .ne 8, 3), (102, .iload 5, 2), (104, .goto 8, 3), (107, .iload 6, 2), (109, .invokestatic 312, 3), (112, .ireturn, 1)]
def k_RW_perform : List (Nat × Jvm.ClassFile.Instr × Nat) := [(0, .iload_n 1, 1), (1, .invokestatic 200, 3), (4, .ifCond .ne 6, 3), (7, .bipush (-2), 2), (9, .ireturn, 1), (10, .aload_n 0, 1), (11, .getfield 62, 3), (14, .iload_n 1, 1), (15, .aaload, 1), (16, .getfield 203, 3), (19, .ifCond .eq 6, 3), (22, .bipush (-6), 2), (24, .ireturn, 1), (25, .aload_n 0, 1), (26, .getfield 47, 3), (29, .aload_n 0, 1), (30, .getfield 43, 3), (33, .invokevirtual 207, 3), (36, .aload_n 0, 1), (37, .aload_n 0, 1), (38, .getfield 62, 3), (41, .iload_n 1, 1), (42, .aaload, 1), (43, .aload_n 0, 1), (44, .getfield 43, 3), (47, .invokevirtual 210, 3), (50, .istore_n 2, 1), (51, .iload_n 2, 1), (52, .ifCond .le 14, 3), (55, .aload_n 0, 1), (56, .getfield 56, 3), (59, .aload_n 0, 1), (60, .getfield 47, 3), (63, .invokevirtual 185, 3), (66, .iload_n 2, 1), (67, .ireturn, 1)]
def k_Mo_perform : List (Nat × Jvm.ClassFile.Instr × Nat) := [(0, .aload_n 0, 1), (1, .iconst 0, 1), (2, .putfield 1, 3), (5, .aload_n 0, 1), (6, .iload_n 1, 1), (7, .invokevirtual 303, 3), (10, .istore_n 2, 1), (11, .iload_n 2, 1), (12, .ifCond .eq 5, 3), (15, .iload_n 2, 1), (16, .ireturn, 1), (17, .aload_n 0, 1), (18, .invokevirtual 265, 3), (21, .aload_n 0, 1), (22, .iload_n 1, 1), (23, .invokevirtual 306, 3), (26, .istore_n 3, 1), (27, .iload_n 3, 1), (28, .ifCond .le 7, 3), (31, .aload_n 0, 1), (32, .invokevirtual 271, 3), (35, .iload_n 3, 1), (36, .ireturn, 1)]
def k_RW_season : List (Nat × Jvm.ClassFile.Instr × Nat) := [(0, .iload_n 2, 1), (1, .iconst 1, 1), (2, .if_icmp .lt 9, 3), (5, .iload_n 2, 1), (6, .bipush 40, 2), (8, .if_icmp .le 6, 3), (11, .bipush (-3), 2), (13, .ireturn, 1), (14, .aload_n 0, 1), (15, .getfield 47, 3), (18, .aload_n 0, 1), (19, .getfield 43, 3), (22, .invokevirtual 207, 3), (25, .iload_n 1, 1), (26, .istore_n 3, 1), (27, .iconst 0, 1), (28, .istore 4, 2), (30, .iconst 0, 1), (31, .istore 5, 2), (33, .iload 5, 2), (35, .iload_n 2, 1), (36, .if_icmp .ge 52, 3), (39, .iload_n 3, 1), (40, .invokestatic 223, 3), (43, .istore_n 3, 1), (44, .iload_n 3, 1), (45, .bipush 16, 2), (47, .iushr, 1), (48, .bipush 6, 2), (50, .irem, 1), (51, .istore 6, 2), (53, .iload_n 3, 1), (54, .invokestatic 223, 3), (57, .istore_n 3, 1), (58, .aload_n 0, 1), (59, .aload_n 0, 1), (60, .getfield 43, 3), (63, .iload 6, 2), (65, .iload_n 3, 1), (66, .bipush 16, 2), (68, .iushr, 1), (69, .invokestatic 226, 3), (72, .i2l, 1), (73, .invokevirtual 219, 3), (76, .ifCond .ne 6, 3), (79, .iinc 4 1, 3), (82, .iinc 5 1, 3), (85, .goto (-52), 3), (88, .iload 4, 2), (90, .ifCond .le 14, 3), (93, .aload_n 0, 1), (94, .getfield 56, 3), (97, .aload_n 0, 1), (98, .getfield 47, 3), (101, .invokevirtual 185, 3), (104, .iload 4, 2), (106, .ireturn, 1)]
def k_Mo_season : List (Nat × Jvm.ClassFile.Instr × Nat) := [(0, .aload_n 0, 1), (1, .iconst 0, 1), (2, .putfield 1, 3), (5, .iload_n 2, 1), (6, .i2l, 1), (7, .lconst 1, 1), (8, .ldc2_w 322, 3), (11, .invokestatic 139, 3), (14, .ifCond .ne 6, 3), (17, .bipush (-3), 2), (19, .ireturn, 1), (20, .aload_n 0, 1), (21, .invokevirtual 265, 3), (24, .aload_n 0, 1), (25, .iload_n 1, 1), (26, .putfield 316, 3), (29, .iconst 0, 1), (30, .istore_n 3, 1), (31, .iconst 0, 1), (32, .istore 4, 2), (34, .iload 4, 2), (36, .iload_n 2, 1), (37, .if_icmp .ge 37, 3), (40, .aload_n 0, 1), (41, .invokevirtual 324, 3), (44, .istore 5, 2), (46, .aload_n 0, 1), (47, .iload 5, 2), (49, .i2l, 1), (50, .invokevirtual 297, 3), (53, .ifCond .eq 6, 3), (56, .goto 12, 3), (59, .aload_n 0, 1), (60, .iload 5, 2), (62, .invokevirtual 300, 3), (65, .iinc 3 1, 3), (68, .iinc 4 1, 3), (71, .goto (-37), 3), (74, .iload_n 3, 1), (75, .ifCond .le 7, 3), (78, .aload_n 0, 1), (79, .invokevirtual 271, 3), (82, .iload_n 3, 1), (83, .ireturn, 1)]
def k_RW_lies : List (Nat × Jvm.ClassFile.Instr × Nat) := [(0, .iload_n 1, 1), (1, .ifCond .lt 16, 3), (4, .iload_n 1, 1), (5, .ldc 242, 2), (7, .if_icmp .gt 10, 3), (10, .iload_n 2, 1), (11, .invokestatic 182, 3), (14, .ifCond .ne 6, 3), (17, .bipush (-3), 2), (19, .ireturn, 1), (20, .aload_n 0, 1), (21, .getfield 76, 3), (24, .aload_n 0, 1), (25, .getfield 69, 3), (28, .aload_n 0, 1), (29, .invokevirtual 243, 3), (32, .iload_n 2, 1), (33, .invokevirtual 246, 3), (36, .istore_n 3, 1), (37, .aload_n 0, 1), (38, .getfield 76, 3), (41, .iload_n 1, 1), (42, .iload_n 3, 1), (43, .invokevirtual 250, 3), (46, .sipush 511, 3), (49, .iand, 1), (50, .ireturn, 1)]
def k_Mo_lies : List (Nat × Jvm.ClassFile.Instr × Nat) := [(0, .aload_n 0, 1), (1, .iconst 0, 1), (2, .putfield 1, 3), (5, .iload_n 1, 1), (6, .i2l, 1), (7, .lconst 0, 1), (8, .ldc2_w 333, 3), (11, .invokestatic 139, 3), (14, .ifCond .eq 11, 3), (17, .iload_n 2, 1), (18, .i2l, 1), (19, .invokestatic 262, 3), (22, .ifCond .ne 6, 3), (25, .bipush (-3), 2), (27, .ireturn, 1), (28, .aload_n 0, 1), (29, .iload_n 2, 1), (30, .invokevirtual 335, 3), (33, .aload_n 0, 1), (34, .getfield 39, 3), (37, .iload_n 1, 1), (38, .aload_n 0, 1), (39, .getfield 327, 3), (42, .if_icmp .ge 7, 3), (45, .iload_n 1, 1), (46, .goto 19, 3), (49, .aload_n 0, 1), (50, .getfield 327, 3), (53, .iload_n 1, 1), (54, .aload_n 0, 1), (55, .getfield 327, 3), (58, .isub, 1), (59, .aload_n 0, 1), (60, .getfield 330, 3), (63, .irem, 1), (64, .iadd, 1), (65, .iaload, 1), (66, .iconst 5, 1), (67, .idiv, 1), (68, .ireturn, 1)]
def k_RW_round : List (Nat × Jvm.ClassFile.Instr × Nat) := [(0, .iload_n 2, 1), (1, .ifCond .lt 8, 3), (4, .iload_n 2, 1), (5, .iconst 3, 1), (6, .if_icmp .le 6, 3), (9, .bipush (-2), 2), (11, .ireturn, 1), (12, .iload_n 1, 1), (13, .invokestatic 182, 3), (16, .ifCond .ne 6, 3), (19, .bipush (-3), 2), (21, .ireturn, 1), (22, .aload_n 0, 1), (23, .getfield 76, 3), (26, .aload_n 0, 1), (27, .getfield 69, 3), (30, .aload_n 0, 1), (31, .invokevirtual 243, 3), (34, .iload_n 1, 1), (35, .invokevirtual 246, 3), (38, .istore_n 3, 1), (39, .iload_n 2, 1), (40, .tableswitch 49 0 2 #[28, 30, 40], 28), (68, .iload_n 3, 1), (69, .ireturn, 1), (70, .aload_n 0, 1), (71, .getfield 76, 3), (74, .getfield 253, 3), (77, .iload_n 3, 1), (78, .isub, 1), (79, .ireturn, 1), (80, .aload_n 0, 1), (81, .getfield 76, 3), (84, .iload_n 3, 1), (85, .invokevirtual 254, 3), (88, .ireturn, 1), (89, .aload_n 0, 1), (90, .getfield 43, 3), (93, .getfield 171, 3), (96, .iconst (-1), 1), (97, .if_icmp .ne 7, 3), (100, .iconst (-1), 1), (101, .goto 10, 3), (104, .aload_n 0, 1), (105, .getfield 76, 3), (108, .invokevirtual 257, 3), (111, .ireturn, 1)]
def k_Mo_round_0 : List (Nat × Jvm.ClassFile.Instr × Nat) := [(0, .aload_n 0, 1), (1, .iconst 0, 1), (2, .putfield 1, 3), (5, .iload_n 2, 1), (6, .i2l, 1), (7, .lconst 0, 1), (8, .ldc2_w 227, 3), (11, .invokestatic 139, 3), (14, .ifCond .ne 6, 3), (17, .bipush (-2), 2), (19, .ireturn, 1), (20, .iload_n 1, 1), (21, .i2l, 1), (22, .invokestatic 262, 3), (25, .ifCond .ne 6, 3), (28, .bipush (-3), 2), (30, .ireturn, 1), (31, .aload_n 0, 1), (32, .iload_n 1, 1), (33, .invokevirtual 335, 3), (36, .iload_n 2, 1), (37, .ifCond .ne 8, 3), (40, .aload_n 0, 1), (41, .getfield 327, 3), (44, .ireturn, 1), (45, .iload_n 2, 1), (46, .iconst 1, 1), (47, .if_icmp .ne 8, 3), (50, .aload_n 0, 1), (51, .getfield 330, 3), (54, .ireturn, 1), (55, .iconst 0, 1), (56, .istore_n 3, 1), (57, .aload_n 0, 1), (58, .getfield 327, 3), (61, .istore 4, 2), (63, .iload 4, 2), (65, .aload_n 0, 1), (66, .getfield 327, 3), (69, .aload_n 0, 1), (70, .getfield 330, 3), (73, .iadd, 1), (74, .if_icmp .ge 42, 3), (77, .aload_n 0, 1), (78, .getfield 39, 3), (81, .iload 4, 2), (83, .iaload, 1), (84, .iconst 5, 1), (85, .idiv, 1), (86, .invokestatic 232, 3), (89, .iload_n 3, 1), (90, .if_icmp .le 18, 3), (93, .aload_n 0, 1), (94, .getfield 39, 3), (97, .iload 4, 2), (99, .iaload, 1), (100, .iconst 5, 1), (101, .idiv, 1), (102, .invokestatic 232, 3), (105, .goto 4, 3)]
def k_Mo_round_1 : List (Nat × Jvm.ClassFile.Instr × Nat) := [(108, .iload_n 3, 1), (109, .istore_n 3, 1), (110, .iinc 4 1, 3), (113, .goto (-50), 3), (116, .iload_n 2, 1), (117, .iconst 2, 1), (118, .if_icmp .ne 5, 3), (121, .iload_n 3, 1), (122, .ireturn, 1), (123, .iconst 1, 1), (124, .istore 4, 2), (126, .iload 4, 2), (128, .aload_n 0, 1), (129, .getfield 327, 3), (132, .aload_n 0, 1), (133, .getfield 330, 3), (136, .iadd, 1), (137, .if_icmp .ge 40, 3), (140, .aload_n 0, 1), (141, .getfield 39, 3), (144, .iload 4, 2), (146, .iaload, 1), (147, .iconst 5, 1), (148, .irem, 1), (149, .iconst 4, 1), (150, .if_icmp .ne 21, 3), (153, .aload_n 0, 1), (154, .getfield 39, 3), (157, .iload 4, 2), (159, .iconst 1, 1), (160, .isub, 1), (161, .iaload, 1), (162, .iconst 5, 1), (163, .irem, 1), (164, .iconst 4, 1), (165, .if_icmp .eq 6, 3), (168, .iload 4, 2), (170, .ireturn, 1), (171, .iinc 4 1, 3), (174, .goto (-48), 3), (177, .iconst (-1), 1), (178, .ireturn, 1)]
def k_Mo_round : List (Nat × Jvm.ClassFile.Instr × Nat) := k_Mo_round_0 ++ (k_Mo_round_1)
def k_RW_stays : List (Nat × Jvm.ClassFile.Instr × Nat) := [(0, .aload_n 0, 1), (1, .getfield 43, 3), (4, .getfield 171, 3), (7, .iconst (-1), 1), (8, .if_icmp .ne 6, 3), (11, .bipush (-5), 2), (13, .ireturn, 1), (14, .aload_n 0, 1), (15, .getfield 76, 3), (18, .aload_n 0, 1), (19, .getfield 69, 3), (22, .aload_n 0, 1), (23, .invokevirtual 243, 3), (26, .bipush (-3), 2), (28, .invokevirtual 263, 3), (31, .pop, 1), (32, .aload_n 0, 1), (33, .getfield 83, 3), (36, .aload_n 0, 1), (37, .getfield 76, 3), (40, .iconst 0, 1), (41, .invokevirtual 266, 3), (44, .aload_n 0, 1), (45, .getfield 83, 3), (48, .iconst 0, 1), (49, .iconst 1, 1), (50, .invokevirtual 270, 3), (53, .istore_n 1, 1), (54, .iload_n 1, 1), (55, .iconst (-1), 1), (56, .if_icmp .ne 7, 3), (59, .iconst (-1), 1), (60, .goto 6, 3), (63, .iload_n 1, 1), (64, .iconst 1, 1), (65, .isub, 1), (66, .ireturn, 1)]
def k_Mo_stays : List (Nat × Jvm.ClassFile.Instr × Nat) := [(0, .aload_n 0, 1), (1, .iconst 0, 1), (2, .putfield 1, 3), (5, .aload_n 0, 1), (6, .getfield 13, 3), (9, .bipush 26, 2), (11, .iaload, 1), (12, .iconst 4, 1), (13, .if_icmp .ne 6, 3), (16, .bipush (-5), 2), (18, .ireturn, 1), (19, .aload_n 0, 1), (20, .invokevirtual 345, 3), (23, .istore_n 1, 1), (24, .iload_n 1, 1), (25, .ldc_w 344, 3), (28, .if_icmp .ne 7, 3), (31, .iconst (-1), 1), (32, .goto 4, 3), (35, .iload_n 1, 1), (36, .ireturn, 1)]
def k_RW_stayBy : List (Nat × Jvm.ClassFile.Instr × Nat) := [(0, .iload_n 1, 1), (1, .ifCond .lt 9, 3), (4, .iload_n 1, 1), (5, .bipush 99, 2), (7, .if_icmp .le 6, 3), (10, .bipush (-3), 2), (12, .ireturn, 1), (13, .aload_n 0, 1), (14, .getfield 43, 3), (17, .getfield 171, 3), (20, .iconst (-1), 1), (21, .if_icmp .ne 6, 3), (24, .bipush (-5), 2), (26, .ireturn, 1), (27, .aload_n 0, 1), (28, .getfield 76, 3), (31, .aload_n 0, 1), (32, .getfield 69, 3), (35, .aload_n 0, 1), (36, .invokevirtual 243, 3), (39, .bipush (-3), 2), (41, .invokevirtual 263, 3), (44, .pop, 1), (45, .aload_n 0, 1), (46, .getfield 83, 3), (49, .aload_n 0, 1), (50, .getfield 76, 3), (53, .iconst 0, 1), (54, .invokevirtual 266, 3), (57, .aload_n 0, 1), (58, .getfield 83, 3), (61, .aload_n 0, 1), (62, .getfield 76, 3), (65, .iload_n 1, 1), (66, .invokevirtual 273, 3), (69, .ireturn, 1)]
def k_Mo_stayBy_0 : List (Nat × Jvm.ClassFile.Instr × Nat) := [(0, .aload_n 0, 1), (1, .iconst 0, 1), (2, .putfield 1, 3), (5, .iload_n 1, 1), (6, .i2l, 1), (7, .lconst 0, 1), (8, .ldc2_w 274, 3), (11, .invokestatic 139, 3), (14, .ifCond .ne 6, 3), (17, .bipush (-3), 2), (19, .ireturn, 1), (20, .aload_n 0, 1), (21, .getfield 13, 3), (24, .bipush 26, 2), (26, .iaload, 1), (27, .iconst 4, 1), (28, .if_icmp .ne 6, 3), (31, .bipush (-5), 2), (33, .ireturn, 1), (34, .aload_n 0, 1), (35, .invokevirtual 345, 3), (38, .istore_n 2, 1), (39, .iload_n 1, 1), (40, .iload_n 2, 1), (41, .if_icmp .lt 5, 3), (44, .iconst (-1), 1), (45, .ireturn, 1), (46, .aload_n 0, 1), (47, .invokevirtual 256, 3), (50, .istore_n 3, 1), (51, .iconst 0, 1), (52, .istore 4, 2), (54, .iload_n 2, 1), (55, .ldc_w 344, 3), (58, .if_icmp .ne 9, 3), (61, .ldc_w 344, 3), (64, .goto 9, 3), (67, .iload_n 2, 1), (68, .iload 4, 2), (70, .isub, 1), (71, .iconst 1, 1), (72, .isub, 1), (73, .istore 5, 2), (75, .aload_n 0, 1), (76, .getfield 48, 3), (79, .aload_n 0, 1), (80, .getfield 45, 3), (83, .iconst 2, 1), (84, .iload_n 3, 1), (85, .imul, 1), (86, .iaload, 1), (87, .iaload, 1), (88, .iload 5, 2), (90, .if_icmp .ne 7, 3), (93, .iconst 0, 1), (94, .goto 4, 3), (97, .iconst 1, 1), (98, .istore 6, 2), (100, .iload 4, 2), (102, .iload_n 1, 1)]
def k_Mo_stayBy_1 : List (Nat × Jvm.ClassFile.Instr × Nat) := [(103, .if_icmp .ne 6, 3), (106, .iload 6, 2), (108, .ireturn, 1), (109, .aload_n 0, 1), (110, .getfield 45, 3), (113, .iconst 2, 1), (114, .iload_n 3, 1), (115, .imul, 1), (116, .iload 6, 2), (118, .iadd, 1), (119, .iaload, 1), (120, .istore_n 3, 1), (121, .iinc 4 1, 3), (124, .goto (-70), 3)]
def k_Mo_stayBy : List (Nat × Jvm.ClassFile.Instr × Nat) := k_Mo_stayBy_0 ++ (k_Mo_stayBy_1)
def k_RW_out : List (Nat × Jvm.ClassFile.Instr × Nat) := [(0, .aload_n 0, 1), (1, .getfield 43, 3), (4, .getfield 171, 3), (7, .iconst (-1), 1), (8, .if_icmp .ne 6, 3), (11, .bipush (-5), 2), (13, .ireturn, 1), (14, .aload_n 0, 1), (15, .getfield 76, 3), (18, .aload_n 0, 1), (19, .getfield 76, 3), (22, .aload_n 0, 1), (23, .getfield 69, 3), (26, .aload_n 0, 1), (27, .invokevirtual 243, 3), (30, .bipush (-2), 2), (32, .invokevirtual 263, 3), (35, .invokevirtual 277, 3), (38, .ireturn, 1)]
def k_Mo_out : List (Nat × Jvm.ClassFile.Instr × Nat) := [(0, .aload_n 0, 1), (1, .iconst 0, 1), (2, .putfield 1, 3), (5, .aload_n 0, 1), (6, .getfield 13, 3), (9, .bipush 26, 2), (11, .iaload, 1), (12, .iconst 4, 1), (13, .if_icmp .ne 8, 3), (16, .bipush (-5), 2), (18, .goto 11, 3), (21, .aload_n 0, 1), (22, .iconst (-1), 1), (23, .invokevirtual 357, 3), (26, .invokestatic 360, 3), (29, .ireturn, 1)]
def k_RW_outBy : List (Nat × Jvm.ClassFile.Instr × Nat) := [(0, .iload_n 1, 1), (1, .ifCond .ge 6, 3), (4, .bipush (-3), 2), (6, .ireturn, 1), (7, .aload_n 0, 1), (8, .getfield 43, 3), (11, .getfield 171, 3), (14, .iconst (-1), 1), (15, .if_icmp .ne 6, 3), (18, .bipush (-5), 2), (20, .ireturn, 1), (21, .aload_n 0, 1), (22, .getfield 76, 3), (25, .aload_n 0, 1), (26, .getfield 76, 3), (29, .aload_n 0, 1), (30, .getfield 69, 3), (33, .aload_n 0, 1), (34, .invokevirtual 243, 3), (37, .bipush (-2), 2), (39, .invokevirtual 263, 3), (42, .iload_n 1, 1), (43, .invokevirtual 280, 3), (46, .ireturn, 1)]
def k_Mo_outBy : List (Nat × Jvm.ClassFile.Instr × Nat) := [(0, .aload_n 0, 1), (1, .iconst 0, 1), (2, .putfield 1, 3), (5, .iload_n 1, 1), (6, .ifCond .ge 6, 3), (9, .bipush (-3), 2), (11, .ireturn, 1), (12, .aload_n 0, 1), (13, .getfield 13, 3), (16, .bipush 26, 2), (18, .iaload, 1), (19, .iconst 4, 1), (20, .if_icmp .ne 6, 3), (23, .bipush (-5), 2), (25, .ireturn, 1), (26, .aload_n 0, 1), (27, .iconst (-1), 1), (28, .invokevirtual 357, 3), (31, .pop, 1), (32, .aload_n 0, 1), (33, .iload_n 1, 1), (34, .invokevirtual 363, 3), (37, .ireturn, 1)]
def k_RW_forces : List (Nat × Jvm.ClassFile.Instr × Nat) := [(0, .aload_n 0, 1), (1, .getfield 43, 3), (4, .getfield 171, 3), (7, .iconst (-1), 1), (8, .if_icmp .ne 6, 3), (11, .bipush (-5), 2), (13, .ireturn, 1), (14, .aload_n 0, 1), (15, .getfield 76, 3), (18, .aload_n 0, 1), (19, .getfield 69, 3), (22, .aload_n 0, 1), (23, .invokevirtual 243, 3), (26, .bipush (-3), 2), (28, .invokevirtual 263, 3), (31, .pop, 1), (32, .aload_n 0, 1), (33, .getfield 83, 3), (36, .aload_n 0, 1), (37, .getfield 76, 3), (40, .iconst 1, 1), (41, .invokevirtual 266, 3), (44, .aload_n 0, 1), (45, .getfield 83, 3), (48, .iconst 0, 1), (49, .iconst 0, 1), (50, .invokevirtual 270, 3), (53, .ireturn, 1)]
def k_Mo_forces : List (Nat × Jvm.ClassFile.Instr × Nat) := [(0, .aload_n 0, 1), (1, .iconst 0, 1), (2, .putfield 1, 3), (5, .aload_n 0, 1), (6, .getfield 13, 3), (9, .bipush 26, 2), (11, .iaload, 1), (12, .iconst 4, 1), (13, .if_icmp .ne 8, 3), (16, .bipush (-5), 2), (18, .goto 10, 3), (21, .aload_n 0, 1), (22, .invokevirtual 372, 3), (25, .invokestatic 360, 3), (28, .ireturn, 1)]
def k_RW_minds : List (Nat × Jvm.ClassFile.Instr × Nat) := [(0, .aload_n 0, 1), (1, .getfield 43, 3), (4, .getfield 171, 3), (7, .iconst (-1), 1), (8, .if_icmp .ne 6, 3), (11, .bipush (-5), 2), (13, .ireturn, 1), (14, .aload_n 0, 1), (15, .getfield 76, 3), (18, .aload_n 0, 1), (19, .getfield 69, 3), (22, .aload_n 0, 1), (23, .invokevirtual 243, 3), (26, .bipush (-3), 2), (28, .invokevirtual 263, 3), (31, .pop, 1), (32, .aload_n 0, 1), (33, .getfield 83, 3), (36, .aload_n 0, 1), (37, .getfield 76, 3), (40, .iconst 1, 1), (41, .invokevirtual 266, 3), (44, .aload_n 0, 1), (45, .getfield 83, 3), (48, .aload_n 0, 1), (49, .getfield 76, 3), (52, .invokevirtual 283, 3), (55, .ireturn, 1)]
def k_Mo_minds : List (Nat × Jvm.ClassFile.Instr × Nat) := [(0, .aload_n 0, 1), (1, .iconst 0, 1), (2, .putfield 1, 3), (5, .aload_n 0, 1), (6, .getfield 13, 3), (9, .bipush 26, 2), (11, .iaload, 1), (12, .iconst 4, 1), (13, .if_icmp .ne 6, 3), (16, .bipush (-5), 2), (18, .ireturn, 1), (19, .aload_n 0, 1), (20, .invokevirtual 372, 3), (23, .istore_n 1, 1), (24, .iload_n 1, 1), (25, .ldc_w 344, 3), (28, .if_icmp .ne 7, 3), (31, .iconst (-1), 1), (32, .goto 30, 3), (35, .aload_n 0, 1), (36, .getfield 51, 3), (39, .aload_n 0, 1), (40, .getfield 45, 3), (43, .iconst 2, 1), (44, .aload_n 0, 1), (45, .invokevirtual 256, 3), (48, .imul, 1), (49, .iaload, 1), (50, .iaload, 1), (51, .iload_n 1, 1), (52, .iconst 1, 1), (53, .isub, 1), (54, .if_icmp .ne 7, 3), (57, .iconst 0, 1), (58, .goto 4, 3), (61, .iconst 1, 1), (62, .ireturn, 1)]
def k_RW_soonest : List (Nat × Jvm.ClassFile.Instr × Nat) := [(0, .aload_n 0, 1), (1, .getfield 93, 3), (4, .iload_n 1, 1), (5, .invokevirtual 287, 3), (8, .ifCond .ne 6, 3), (11, .bipush (-3), 2), (13, .ireturn, 1), (14, .aload_n 0, 1), (15, .getfield 76, 3), (18, .aload_n 0, 1), (19, .getfield 76, 3), (22, .aload_n 0, 1), (23, .getfield 69, 3), (26, .aload_n 0, 1), (27, .invokevirtual 243, 3), (30, .iload_n 1, 1), (31, .invokevirtual 263, 3), (34, .invokevirtual 277, 3), (37, .ireturn, 1)]
def k_Mo_soonest : List (Nat × Jvm.ClassFile.Instr × Nat) := [(0, .aload_n 0, 1), (1, .iconst 0, 1), (2, .putfield 1, 3), (5, .aload_n 0, 1), (6, .iload_n 1, 1), (7, .i2l, 1), (8, .invokevirtual 375, 3), (11, .ifCond .eq 14, 3), (14, .aload_n 0, 1), (15, .iload_n 1, 1), (16, .invokevirtual 357, 3), (19, .invokestatic 360, 3), (22, .goto 5, 3), (25, .bipush (-3), 2), (27, .ireturn, 1)]
def k_RW_way : List (Nat × Jvm.ClassFile.Instr × Nat) := [(0, .aload_n 0, 1), (1, .getfield 93, 3), (4, .iload_n 1, 1), (5, .invokevirtual 287, 3), (8, .ifCond .eq 7, 3), (11, .iload_n 2, 1), (12, .ifCond .ge 6, 3), (15, .bipush (-3), 2), (17, .ireturn, 1), (18, .aload_n 0, 1), (19, .getfield 76, 3), (22, .aload_n 0, 1), (23, .getfield 76, 3), (26, .aload_n 0, 1), (27, .getfield 69, 3), (30, .aload_n 0, 1), (31, .invokevirtual 243, 3), (34, .iload_n 1, 1), (35, .invokevirtual 263, 3), (38, .iload_n 2, 1), (39, .invokevirtual 280, 3), (42, .ireturn, 1)]
def k_Mo_way : List (Nat × Jvm.ClassFile.Instr × Nat) := [(0, .aload_n 0, 1), (1, .iconst 0, 1), (2, .putfield 1, 3), (5, .aload_n 0, 1), (6, .iload_n 1, 1), (7, .i2l, 1), (8, .invokevirtual 375, 3), (11, .ifCond .eq 7, 3), (14, .iload_n 2, 1), (15, .ifCond .ge 6, 3), (18, .bipush (-3), 2), (20, .ireturn, 1), (21, .aload_n 0, 1), (22, .iload_n 1, 1), (23, .invokevirtual 357, 3), (26, .pop, 1), (27, .aload_n 0, 1), (28, .iload_n 2, 1), (29, .invokevirtual 363, 3), (32, .ireturn, 1)]
def k_RW_toFace : List (Nat × Jvm.ClassFile.Instr × Nat) := [(0, .aload_n 0, 1), (1, .getfield 93, 3), (4, .getfield 290, 3), (7, .ifCond .ne 5, 3), (10, .iconst (-1), 1), (11, .ireturn, 1), (12, .aload_n 0, 1), (13, .getfield 76, 3), (16, .aload_n 0, 1), (17, .getfield 76, 3), (20, .aload_n 0, 1), (21, .getfield 69, 3), (24, .aload_n 0, 1), (25, .invokevirtual 243, 3), (28, .aload_n 0, 1), (29, .getfield 93, 3), (32, .getfield 290, 3), (35, .invokevirtual 263, 3), (38, .invokevirtual 277, 3), (41, .ireturn, 1)]
def k_Mo_toFace : List (Nat × Jvm.ClassFile.Instr × Nat) := [(0, .aload_n 0, 1), (1, .iconst 0, 1), (2, .putfield 1, 3), (5, .aload_n 0, 1), (6, .getfield 13, 3), (9, .iconst 4, 1), (10, .iaload, 1), (11, .ifCond .ne 7, 3), (14, .iconst (-1), 1), (15, .goto 16, 3), (18, .aload_n 0, 1), (19, .aload_n 0, 1), (20, .getfield 13, 3), (23, .iconst 4, 1), (24, .iaload, 1), (25, .invokevirtual 357, 3), (28, .invokestatic 360, 3), (31, .ireturn, 1)]
def k_RW_walls : List (Nat × Jvm.ClassFile.Instr × Nat) := [(0, .aload_n 0, 1), (1, .getfield 76, 3), (4, .aload_n 0, 1), (5, .getfield 69, 3), (8, .aload_n 0, 1), (9, .invokevirtual 243, 3), (12, .iconst (-1), 1), (13, .invokevirtual 263, 3), (16, .pop, 1), (17, .aload_n 0, 1), (18, .getfield 76, 3), (21, .invokevirtual 293, 3), (24, .ireturn, 1)]
def k_Mo_walls_0 : List (Nat × Jvm.ClassFile.Instr × Nat) := [(0, .aload_n 0, 1), (1, .iconst 0, 1), (2, .putfield 1, 3), (5, .aload_n 0, 1), (6, .invokevirtual 378, 3), (9, .iconst 1, 1), (10, .istore_n 1, 1), (11, .iload_n 1, 1), (12, .ifCond .eq 88, 3), (15, .iconst 0, 1), (16, .istore_n 1, 1), (17, .iconst 0, 1), (18, .istore_n 2, 1), (19, .iload_n 2, 1), (20, .sipush 2560, 3), (23, .if_icmp .ge 74, 3), (26, .iconst 0, 1), (27, .istore_n 3, 1), (28, .iload_n 3, 1), (29, .iconst 2, 1), (30, .if_icmp .ge 61, 3), (33, .aload_n 0, 1), (34, .getfield 54, 3), (37, .iload_n 2, 1), (38, .iaload, 1), (39, .iconst 1, 1), (40, .if_icmp .ne 51, 3), (43, .iload_n 1, 1), (44, .aload_n 0, 1), (45, .getfield 54, 3), (48, .aload_n 0, 1), (49, .getfield 45, 3), (52, .iconst 2, 1), (53, .iload_n 2, 1), (54, .imul, 1), (55, .iload_n 3, 1), (56, .iadd, 1), (57, .iaload, 1), (58, .iaload, 1), (59, .ifCond .ne 7, 3), (62, .iconst 1, 1), (63, .goto 4, 3), (66, .iconst 0, 1), (67, .ior, 1), (68, .istore_n 1, 1), (69, .aload_n 0, 1), (70, .getfield 54, 3), (73, .aload_n 0, 1), (74, .getfield 45, 3), (77, .iconst 2, 1), (78, .iload_n 2, 1), (79, .imul, 1), (80, .iload_n 3, 1), (81, .iadd, 1), (82, .iaload, 1), (83, .iconst 1, 1), (84, .iastore, 1), (85, .iinc 3 1, 3), (88, .goto (-60), 3), (91, .iinc 2 1, 3)]
def k_Mo_walls_1 : List (Nat × Jvm.ClassFile.Instr × Nat) := [(94, .goto (-75), 3), (97, .goto (-86), 3), (100, .iconst 0, 1), (101, .istore_n 2, 1), (102, .iconst 0, 1), (103, .istore_n 3, 1), (104, .iload_n 3, 1), (105, .sipush 512, 3), (108, .if_icmp .ge 65, 3), (111, .iconst 0, 1), (112, .istore 4, 2), (114, .iconst 0, 1), (115, .istore 5, 2), (117, .iload 5, 2), (119, .iconst 5, 1), (120, .if_icmp .ge 34, 3), (123, .iload 4, 2), (125, .aload_n 0, 1), (126, .getfield 54, 3), (129, .iload_n 3, 1), (130, .iload 5, 2), (132, .invokestatic 246, 3), (135, .iaload, 1), (136, .iconst 1, 1), (137, .if_icmp .ne 7, 3), (140, .iconst 1, 1), (141, .goto 4, 3), (144, .iconst 0, 1), (145, .ior, 1), (146, .istore 4, 2), (148, .iinc 5 1, 3), (151, .goto (-34), 3), (154, .iload_n 2, 1), (155, .iload 4, 2), (157, .ifCond .eq 7, 3), (160, .iconst 1, 1), (161, .goto 4, 3), (164, .iconst 0, 1), (165, .iadd, 1), (166, .istore_n 2, 1), (167, .iinc 3 1, 3), (170, .goto (-66), 3), (173, .iload_n 2, 1), (174, .ireturn, 1)]
def k_Mo_walls : List (Nat × Jvm.ClassFile.Instr × Nat) := k_Mo_walls_0 ++ (k_Mo_walls_1)
def k_RW_parents : List (Nat × Jvm.ClassFile.Instr × Nat) := [(0, .iload_n 3, 1), (1, .iconst (-1), 1), (2, .if_icmp .eq 17, 3), (5, .aload_n 0, 1), (6, .getfield 93, 3), (9, .iload_n 3, 1), (10, .invokevirtual 165, 3), (13, .ifCond .ne 6, 3), (16, .bipush (-2), 2), (18, .ireturn, 1), (19, .aload_n 0, 1), (20, .getfield 93, 3), (23, .iload_n 1, 1), (24, .invokevirtual 287, 3), (27, .ifCond .eq 10, 3), (30, .iload_n 2, 1), (31, .invokestatic 182, 3), (34, .ifCond .ne 6, 3), (37, .bipush (-3), 2), (39, .ireturn, 1), (40, .aload_n 0, 1), (41, .getfield 69, 3), (44, .aload_n 0, 1), (45, .getfield 43, 3), (48, .getfield 158, 3), (51, .invokevirtual 260, 3), (54, .aload_n 0, 1), (55, .getfield 69, 3), (58, .iload_n 1, 1), (59, .iload_n 2, 1), (60, .iload_n 3, 1), (61, .invokevirtual 296, 3), (64, .ireturn, 1)]
def k_Mo_parents : List (Nat × Jvm.ClassFile.Instr × Nat) := [(0, .aload_n 0, 1), (1, .iconst 0, 1), (2, .putfield 1, 3), (5, .iload_n 3, 1), (6, .iconst (-1), 1), (7, .if_icmp .eq 15, 3), (10, .aload_n 0, 1), (11, .iload_n 3, 1), (12, .i2l, 1), (13, .invokevirtual 253, 3), (16, .ifCond .ne 6, 3), (19, .bipush (-2), 2), (21, .ireturn, 1), (22, .aload_n 0, 1), (23, .iload_n 1, 1), (24, .i2l, 1), (25, .invokevirtual 375, 3), (28, .ifCond .eq 11, 3), (31, .iload_n 2, 1), (32, .i2l, 1), (33, .invokestatic 262, 3), (36, .ifCond .ne 6, 3), (39, .bipush (-3), 2), (41, .ireturn, 1), (42, .aload_n 0, 1), (43, .iload_n 2, 1), (44, .iload_n 3, 1), (45, .invokevirtual 381, 3), (48, .aload_n 0, 1), (49, .getfield 60, 3), (52, .iload_n 1, 1), (53, .iaload, 1), (54, .ireturn, 1)]
def k_RW_orphans : List (Nat × Jvm.ClassFile.Instr × Nat) := [(0, .iload_n 2, 1), (1, .iconst (-1), 1), (2, .if_icmp .eq 17, 3), (5, .aload_n 0, 1), (6, .getfield 93, 3), (9, .iload_n 2, 1), (10, .invokevirtual 165, 3), (13, .ifCond .ne 6, 3), (16, .bipush (-2), 2), (18, .ireturn, 1), (19, .iload_n 1, 1), (20, .invokestatic 182, 3), (23, .ifCond .ne 6, 3), (26, .bipush (-3), 2), (28, .ireturn, 1), (29, .aload_n 0, 1), (30, .getfield 69, 3), (33, .aload_n 0, 1), (34, .getfield 43, 3), (37, .getfield 158, 3), (40, .invokevirtual 260, 3), (43, .aload_n 0, 1), (44, .getfield 69, 3), (47, .iload_n 1, 1), (48, .iload_n 2, 1), (49, .invokevirtual 299, 3), (52, .ireturn, 1)]
def k_Mo_orphans : List (Nat × Jvm.ClassFile.Instr × Nat) := [(0, .aload_n 0, 1), (1, .iconst 0, 1), (2, .putfield 1, 3), (5, .aload_n 0, 1), (6, .iload_n 1, 1), (7, .iload_n 2, 1), (8, .invokevirtual 385, 3), (11, .istore_n 3, 1), (12, .iload_n 3, 1), (13, .ifCond .eq 5, 3), (16, .iload_n 3, 1), (17, .ireturn, 1), (18, .aload_n 0, 1), (19, .iload_n 1, 1), (20, .iload_n 2, 1), (21, .invokevirtual 381, 3), (24, .iconst 0, 1), (25, .istore 4, 2), (27, .iconst 0, 1), (28, .istore 5, 2), (30, .iload 5, 2), (32, .iconst 1, 1), (33, .aload_n 0, 1), (34, .invokevirtual 207, 3), (37, .ishl, 1), (38, .if_icmp .ge 29, 3), (41, .iload 4, 2), (43, .aload_n 0, 1), (44, .getfield 60, 3), (47, .iload 5, 2), (49, .iaload, 1), (50, .ifCond .ne 7, 3), (53, .iconst 1, 1), (54, .goto 4, 3), (57, .iconst 0, 1), (58, .iadd, 1), (59, .istore 4, 2), (61, .iinc 5 1, 3), (64, .goto (-34), 3), (67, .iload 4, 2), (69, .ireturn, 1)]
def k_RW_still : List (Nat × Jvm.ClassFile.Instr × Nat) := [(0, .iload_n 2, 1), (1, .iconst (-1), 1), (2, .if_icmp .eq 17, 3), (5, .aload_n 0, 1), (6, .getfield 93, 3), (9, .iload_n 2, 1), (10, .invokevirtual 165, 3), (13, .ifCond .ne 6, 3), (16, .bipush (-2), 2), (18, .ireturn, 1), (19, .iload_n 1, 1), (20, .invokestatic 182, 3), (23, .ifCond .ne 6, 3), (26, .bipush (-3), 2), (28, .ireturn, 1), (29, .aload_n 0, 1), (30, .getfield 69, 3), (33, .aload_n 0, 1), (34, .getfield 43, 3), (37, .getfield 158, 3), (40, .invokevirtual 260, 3), (43, .aload_n 0, 1), (44, .getfield 69, 3), (47, .iload_n 1, 1), (48, .iload_n 2, 1), (49, .invokevirtual 302, 3), (52, .ireturn, 1)]
def k_Mo_still : List (Nat × Jvm.ClassFile.Instr × Nat) := [(0, .aload_n 0, 1), (1, .iconst 0, 1), (2, .putfield 1, 3), (5, .aload_n 0, 1), (6, .iload_n 1, 1), (7, .iload_n 2, 1), (8, .invokevirtual 385, 3), (11, .istore_n 3, 1), (12, .iload_n 3, 1), (13, .ifCond .eq 5, 3), (16, .iload_n 3, 1), (17, .ireturn, 1), (18, .iconst 0, 1), (19, .istore 4, 2), (21, .iconst 0, 1), (22, .istore 5, 2), (24, .iload 5, 2), (26, .iconst 1, 1), (27, .aload_n 0, 1), (28, .invokevirtual 207, 3), (31, .ishl, 1), (32, .if_icmp .ge 41, 3), (35, .iload 4, 2), (37, .aload_n 0, 1), (38, .iload 5, 2), (40, .iload_n 2, 1), (41, .iconst (-1), 1), (42, .if_icmp .ne 7, 3), (45, .iconst 4, 1), (46, .goto 4, 3), (49, .iload_n 2, 1), (50, .iload_n 1, 1), (51, .invokevirtual 239, 3), (54, .iload 5, 2), (56, .if_icmp .ne 7, 3), (59, .iconst 1, 1), (60, .goto 4, 3), (63, .iconst 0, 1), (64, .iadd, 1), (65, .istore 4, 2), (67, .iinc 5 1, 3), (70, .goto (-46), 3), (73, .iload 4, 2), (75, .ireturn, 1)]
def k_RW_rows : List (Nat × Jvm.ClassFile.Instr × Nat) := [(0, .aload_n 0, 1), (1, .getfield 93, 3), (4, .iload_n 1, 1), (5, .invokevirtual 287, 3), (8, .ifCond .eq 13, 3), (11, .iload_n 2, 1), (12, .ifCond .lt 9, 3), (15, .iload_n 2, 1), (16, .bipush 20, 2), (18, .if_icmp .le 6, 3), (21, .bipush (-3), 2), (23, .ireturn, 1), (24, .aload_n 0, 1), (25, .getfield 76, 3), (28, .aload_n 0, 1), (29, .getfield 69, 3), (32, .aload_n 0, 1), (33, .invokevirtual 243, 3), (36, .iload_n 1, 1), (37, .iload_n 2, 1), (38, .invokevirtual 305, 3), (41, .ireturn, 1)]
def k_Mo_rows : List (Nat × Jvm.ClassFile.Instr × Nat) := [(0, .aload_n 0, 1), (1, .iconst 0, 1), (2, .putfield 1, 3), (5, .aload_n 0, 1), (6, .iload_n 1, 1), (7, .i2l, 1), (8, .invokevirtual 375, 3), (11, .ifCond .eq 15, 3), (14, .iload_n 2, 1), (15, .i2l, 1), (16, .lconst 0, 1), (17, .ldc2_w 290, 3), (20, .invokestatic 139, 3), (23, .ifCond .ne 6, 3), (26, .bipush (-3), 2), (28, .ireturn, 1), (29, .aload_n 0, 1), (30, .invokevirtual 378, 3), (33, .iconst 0, 1), (34, .istore_n 3, 1), (35, .iload_n 3, 1), (36, .iload_n 2, 1), (37, .if_icmp .ge 15, 3), (40, .aload_n 0, 1), (41, .iconst 1, 1), (42, .iconst 1, 1), (43, .invokevirtual 388, 3), (46, .iinc 3 1, 3), (49, .goto (-14), 3), (52, .iconst 0, 1), (53, .istore_n 3, 1), (54, .iconst 0, 1), (55, .istore 4, 2), (57, .iload 4, 2), (59, .iconst 5, 1), (60, .if_icmp .ge 23, 3), (63, .iload_n 3, 1), (64, .aload_n 0, 1), (65, .getfield 54, 3), (68, .iload_n 1, 1), (69, .iload 4, 2), (71, .invokestatic 246, 3), (74, .iaload, 1), (75, .iadd, 1), (76, .istore_n 3, 1), (77, .iinc 4 1, 3), (80, .goto (-23), 3), (83, .iload_n 3, 1), (84, .ireturn, 1)]
def k_RW_seen : List (Nat × Jvm.ClassFile.Instr × Nat) := [(0, .aload_n 0, 1), (1, .iload_n 1, 1), (2, .invokevirtual 309, 3), (5, .istore_n 2, 1), (6, .iload_n 2, 1), (7, .ifCond .eq 7, 3), (10, .iload_n 2, 1), (11, .goto 18, 3), (14, .aload_n 0, 1), (15, .aload_n 0, 1), (16, .getfield 62, 3), (19, .iload_n 1, 1), (20, .aaload, 1), (21, .aload_n 0, 1), (22, .invokevirtual 243, 3), (25, .iconst 0, 1), (26, .invokevirtual 312, 3), (29, .ireturn, 1)]
def k_Mo_seen : List (Nat × Jvm.ClassFile.Instr × Nat) := [(0, .aload_n 0, 1), (1, .iconst 0, 1), (2, .putfield 1, 3), (5, .aload_n 0, 1), (6, .iload_n 1, 1), (7, .invokevirtual 397, 3), (10, .istore_n 2, 1), (11, .iload_n 2, 1), (12, .ifCond .eq 5, 3), (15, .iload_n 2, 1), (16, .ireturn, 1), (17, .aload_n 0, 1), (18, .invokevirtual 338, 3), (21, .iconst 0, 1), (22, .istore_n 3, 1), (23, .iconst 0, 1), (24, .istore 4, 2), (26, .iload 4, 2), (28, .iconst 1, 1), (29, .aload_n 0, 1), (30, .getfield 66, 3), (33, .iload_n 1, 1), (34, .iaload, 1), (35, .ishl, 1), (36, .if_icmp .ge 31, 3), (39, .iload_n 3, 1), (40, .aload_n 0, 1), (41, .iload_n 1, 1), (42, .iload 4, 2), (44, .aload_n 0, 1), (45, .invokevirtual 256, 3), (48, .invokevirtual 400, 3), (51, .ifCond .eq 7, 3), (54, .iconst 1, 1), (55, .goto 4, 3), (58, .iconst 0, 1), (59, .iadd, 1), (60, .istore_n 3, 1), (61, .iinc 4 1, 3), (64, .goto (-38), 3), (67, .iload_n 3, 1), (68, .ireturn, 1)]
def k_RW_seenBy_0 : List (Nat × Jvm.ClassFile.Instr × Nat) := [(0, .aload_n 0, 1), (1, .iload_n 1, 1), (2, .invokevirtual 309, 3), (5, .istore_n 3, 1), (6, .iload_n 3, 1), (7, .ifCond .eq 5, 3), (10, .iload_n 3, 1), (11, .ireturn, 1), (12, .iload_n 2, 1), (13, .ifCond .ge 6, 3), (16, .bipush (-3), 2), (18, .ireturn, 1), (19, .aload_n 0, 1), (20, .invokevirtual 243, 3), (23, .istore 4, 2), (25, .iload_n 2, 1), (26, .aload_n 0, 1), (27, .getfield 62, 3), (30, .iload_n 1, 1), (31, .aaload, 1), (32, .getfield 214, 3), (35, .if_icmp .ge 19, 3), (38, .aload_n 0, 1), (39, .aload_n 0, 1), (40, .getfield 62, 3), (43, .iload_n 1, 1), (44, .aaload, 1), (45, .iload 4, 2), (47, .iconst 0, 1), (48, .invokevirtual 312, 3), (51, .ifCond .ne 5, 3), (54, .iconst (-1), 1), (55, .ireturn, 1), (56, .iconst (-1), 1), (57, .istore 5, 2), (59, .iconst 0, 1), (60, .istore 6, 2), (62, .iload 6, 2), (64, .iload_n 2, 1), (65, .if_icmp .gt 46, 3), (68, .aload_n 0, 1), (69, .aload_n 0, 1), (70, .getfield 62, 3), (73, .iload_n 1, 1), (74, .aaload, 1), (75, .iload 4, 2), (77, .iload 6, 2), (79, .invokevirtual 316, 3), (82, .ifCond .eq 7, 3), (85, .iconst 0, 1), (86, .goto 4, 3), (89, .iconst 1, 1), (90, .istore 5, 2), (92, .aload_n 0, 1), (93, .getfield 69, 3), (96, .iload 4, 2), (98, .iload 5, 2), (100, .invokevirtual 320, 3), (103, .istore 4, 2), (105, .iinc 6 1, 3)]
def k_RW_seenBy_1 : List (Nat × Jvm.ClassFile.Instr × Nat) := [(108, .goto (-46), 3), (111, .iload 5, 2), (113, .ireturn, 1)]
def k_RW_seenBy : List (Nat × Jvm.ClassFile.Instr × Nat) := k_RW_seenBy_0 ++ (k_RW_seenBy_1)
def k_Mo_seenBy : List (Nat × Jvm.ClassFile.Instr × Nat) := [(0, .aload_n 0, 1), (1, .iconst 0, 1), (2, .putfield 1, 3), (5, .aload_n 0, 1), (6, .iload_n 1, 1), (7, .invokevirtual 397, 3), (10, .istore_n 3, 1), (11, .iload_n 3, 1), (12, .ifCond .eq 5, 3), (15, .iload_n 3, 1), (16, .ireturn, 1), (17, .iload_n 2, 1), (18, .ifCond .ge 6, 3), (21, .bipush (-3), 2), (23, .ireturn, 1), (24, .aload_n 0, 1), (25, .invokevirtual 338, 3), (28, .iconst 0, 1), (29, .istore 4, 2), (31, .iload 4, 2), (33, .iconst 1, 1), (34, .aload_n 0, 1), (35, .getfield 66, 3), (38, .iload_n 1, 1), (39, .iaload, 1), (40, .ishl, 1), (41, .if_icmp .ge 42, 3), (44, .iload_n 2, 1), (45, .aload_n 0, 1), (46, .getfield 66, 3), (49, .iload_n 1, 1), (50, .iaload, 1), (51, .if_icmp .ge 32, 3), (54, .aload_n 0, 1), (55, .iload_n 1, 1), (56, .iload 4, 2), (58, .aload_n 0, 1), (59, .invokevirtual 256, 3), (62, .invokevirtual 400, 3), (65, .ifCond .eq 12, 3), (68, .aload_n 0, 1), (69, .iload_n 1, 1), (70, .iload 4, 2), (72, .iload_n 2, 1), (73, .invokevirtual 391, 3), (76, .ireturn, 1), (77, .iinc 4 1, 3), (80, .goto (-49), 3), (83, .iconst (-1), 1), (84, .ireturn, 1)]
def k_RW_whose_0 : List (Nat × Jvm.ClassFile.Instr × Nat) := [(0, .aload_n 0, 1), (1, .iload_n 1, 1), (2, .invokevirtual 309, 3), (5, .istore_n 2, 1), (6, .iload_n 2, 1), (7, .ifCond .eq 5, 3), (10, .iload_n 2, 1), (11, .ireturn, 1), (12, .aload_n 0, 1), (13, .getfield 69, 3), (16, .aload_n 0, 1), (17, .getfield 43, 3), (20, .getfield 158, 3), (23, .invokevirtual 260, 3), (26, .aload_n 0, 1), (27, .aload_n 0, 1), (28, .getfield 62, 3), (31, .iload_n 1, 1), (32, .aaload, 1), (33, .aload_n 0, 1), (34, .getfield 43, 3), (37, .getfield 142, 3), (40, .iconst (-1), 1), (41, .invokestatic 327, 3), (44, .iconst 0, 1), (45, .invokevirtual 312, 3), (48, .ifCond .le 9, 3), (51, .sipush 512, 3), (54, .goto 4, 3), (57, .iconst 0, 1), (58, .istore_n 3, 1), (59, .iconst 0, 1), (60, .istore 4, 2), (62, .iload 4, 2), (64, .aload_n 0, 1), (65, .getfield 93, 3), (68, .getfield 330, 3), (71, .if_icmp .ge 42, 3), (74, .aload_n 0, 1), (75, .aload_n 0, 1), (76, .getfield 62, 3), (79, .iload_n 1, 1), (80, .aaload, 1), (81, .aload_n 0, 1), (82, .getfield 43, 3), (85, .getfield 142, 3), (88, .iload 4, 2), (90, .invokestatic 327, 3), (93, .iconst 0, 1), (94, .invokevirtual 312, 3), (97, .ifCond .le 10, 3), (100, .iload_n 3, 1), (101, .iconst 1, 1), (102, .iload 4, 2), (104, .ishl, 1), (105, .ior, 1), (106, .istore_n 3, 1), (107, .iinc 4 1, 3), (110, .goto (-48), 3), (113, .iload_n 3, 1)]
def k_RW_whose_1 : List (Nat × Jvm.ClassFile.Instr × Nat) := [(114, .ireturn, 1)]
def k_RW_whose : List (Nat × Jvm.ClassFile.Instr × Nat) := k_RW_whose_0 ++ (k_RW_whose_1)
def k_Mo_whose_0 : List (Nat × Jvm.ClassFile.Instr × Nat) := [(0, .aload_n 0, 1), (1, .iconst 0, 1), (2, .putfield 1, 3), (5, .aload_n 0, 1), (6, .iload_n 1, 1), (7, .invokevirtual 397, 3), (10, .istore_n 2, 1), (11, .iload_n 2, 1), (12, .ifCond .eq 5, 3), (15, .iload_n 2, 1), (16, .ireturn, 1), (17, .aload_n 0, 1), (18, .invokevirtual 338, 3), (21, .iconst 0, 1), (22, .istore_n 3, 1), (23, .iconst 0, 1), (24, .istore 4, 2), (26, .iload 4, 2), (28, .iconst 4, 1), (29, .if_icmp .gt 91, 3), (32, .iload 4, 2), (34, .iconst 4, 1), (35, .if_icmp .eq 17, 3), (38, .iload 4, 2), (40, .aload_n 0, 1), (41, .getfield 13, 3), (44, .iconst 3, 1), (45, .iaload, 1), (46, .if_icmp .lt 6, 3), (49, .goto 65, 3), (52, .iconst 0, 1), (53, .istore 5, 2), (55, .iload 5, 2), (57, .iconst 1, 1), (58, .aload_n 0, 1), (59, .getfield 66, 3), (62, .iload_n 1, 1), (63, .iaload, 1), (64, .ishl, 1), (65, .if_icmp .ge 49, 3), (68, .aload_n 0, 1), (69, .iload_n 1, 1), (70, .iload 5, 2), (72, .aload_n 0, 1), (73, .getfield 13, 3), (76, .bipush 25, 2), (78, .iaload, 1), (79, .iload 4, 2), (81, .invokestatic 246, 3), (84, .invokevirtual 400, 3), (87, .ifCond .eq 21, 3), (90, .iload_n 3, 1), (91, .iconst 1, 1), (92, .iload 4, 2), (94, .iconst 4, 1), (95, .if_icmp .ne 8, 3), (98, .bipush 9, 2), (100, .goto 5, 3), (103, .iload 4, 2), (105, .ishl, 1)]
def k_Mo_whose_1 : List (Nat × Jvm.ClassFile.Instr × Nat) := [(106, .ior, 1), (107, .istore_n 3, 1), (108, .iinc 5 1, 3), (111, .goto (-56), 3), (114, .iinc 4 1, 3), (117, .goto (-91), 3), (120, .iload_n 3, 1), (121, .ireturn, 1)]
def k_Mo_whose : List (Nat × Jvm.ClassFile.Instr × Nat) := k_Mo_whose_0 ++ (k_Mo_whose_1)
def k_RW_tempers : List (Nat × Jvm.ClassFile.Instr × Nat) := [(0, .aload_n 0, 1), (1, .iload_n 1, 1), (2, .iload_n 2, 1), (3, .invokevirtual 333, 3), (6, .istore_n 3, 1), (7, .iload_n 3, 1), (8, .ifCond .eq 7, 3), (11, .iload_n 3, 1), (12, .goto 14, 3), (15, .aload_n 0, 1), (16, .aload_n 0, 1), (17, .getfield 62, 3), (20, .iload_n 1, 1), (21, .aaload, 1), (22, .iload_n 2, 1), (23, .invokevirtual 336, 3), (26, .ireturn, 1)]
def k_Mo_tempers : List (Nat × Jvm.ClassFile.Instr × Nat) := [(0, .aload_n 0, 1), (1, .iconst 0, 1), (2, .putfield 1, 3), (5, .aload_n 0, 1), (6, .iload_n 1, 1), (7, .iload_n 2, 1), (8, .invokevirtual 403, 3), (11, .istore_n 3, 1), (12, .iload_n 3, 1), (13, .ifCond .eq 7, 3), (16, .iload_n 3, 1), (17, .goto 9, 3), (20, .aload_n 0, 1), (21, .iload_n 1, 1), (22, .iload_n 2, 1), (23, .invokevirtual 406, 3), (26, .ireturn, 1)]
def k_RW_attempt : List (Nat × Jvm.ClassFile.Instr × Nat) := [(0, .aload_n 0, 1), (1, .iload_n 1, 1), (2, .iload_n 2, 1), (3, .invokevirtual 333, 3), (6, .istore_n 3, 1), (7, .iload_n 3, 1), (8, .ifCond .eq 5, 3), (11, .iload_n 3, 1), (12, .ireturn, 1), (13, .aload_n 0, 1), (14, .aload_n 0, 1), (15, .getfield 62, 3), (18, .iload_n 1, 1), (19, .aaload, 1), (20, .iload_n 2, 1), (21, .invokevirtual 336, 3), (24, .istore 4, 2), (26, .iload 4, 2), (28, .ifCond .ne 5, 3), (31, .iconst (-1), 1), (32, .ireturn, 1), (33, .aload_n 0, 1), (34, .iload 4, 2), (36, .iconst 1, 1), (37, .invokevirtual 340, 3), (40, .aload_n 0, 1), (41, .iload 4, 2), (43, .iconst 0, 1), (44, .invokevirtual 340, 3), (47, .if_icmp .ge 7, 3), (50, .iconst 1, 1), (51, .goto 4, 3), (54, .iconst 0, 1), (55, .ireturn, 1)]
def k_Mo_attempt : List (Nat × Jvm.ClassFile.Instr × Nat) := [(0, .aload_n 0, 1), (1, .iconst 0, 1), (2, .putfield 1, 3), (5, .aload_n 0, 1), (6, .iload_n 1, 1), (7, .iload_n 2, 1), (8, .invokevirtual 403, 3), (11, .istore_n 3, 1), (12, .iload_n 3, 1), (13, .ifCond .eq 5, 3), (16, .iload_n 3, 1), (17, .ireturn, 1), (18, .aload_n 0, 1), (19, .iload_n 1, 1), (20, .iload_n 2, 1), (21, .invokevirtual 406, 3), (24, .istore 4, 2), (26, .iload 4, 2), (28, .ifCond .ne 7, 3), (31, .iconst (-1), 1), (32, .goto 25, 3), (35, .aload_n 0, 1), (36, .iload 4, 2), (38, .iconst 1, 1), (39, .invokevirtual 409, 3), (42, .aload_n 0, 1), (43, .iload 4, 2), (45, .iconst 0, 1), (46, .invokevirtual 409, 3), (49, .if_icmp .ge 7, 3), (52, .iconst 1, 1), (53, .goto 4, 3), (56, .iconst 0, 1), (57, .ireturn, 1)]
def k_RW_chance : List (Nat × Jvm.ClassFile.Instr × Nat) := [(0, .iload_n 2, 1), (1, .ifCond .lt 8, 3), (4, .iload_n 2, 1), (5, .iconst 1, 1), (6, .if_icmp .le 6, 3), (9, .bipush (-2), 2), (11, .ireturn, 1), (12, .iload_n 1, 1), (13, .ifCond .lt 9, 3), (16, .iload_n 1, 1), (17, .bipush 8, 2), (19, .if_icmp .le 6, 3), (22, .bipush (-3), 2), (24, .ireturn, 1), (25, .aload_n 0, 1), (26, .getfield 43, 3), (29, .getfield 171, 3), (32, .iconst (-1), 1), (33, .if_icmp .ne 6, 3), (36, .bipush (-5), 2), (38, .ireturn, 1), (39, .aload_n 0, 1), (40, .aload_n 0, 1), (41, .invokevirtual 243, 3), (44, .iload_n 1, 1), (45, .invokevirtual 359, 3), (48, .istore_n 3, 1), (49, .iload_n 1, 1), (50, .invokestatic 362, 3), (53, .istore 4, 2), (55, .iload_n 3, 1), (56, .iload 4, 2), (58, .invokestatic 365, 3), (61, .istore 5, 2), (63, .iload 5, 2), (65, .iconst 1, 1), (66, .if_icmp .ge 7, 3), (69, .iconst (-1), 1), (70, .goto 16, 3), (73, .iload_n 2, 1), (74, .ifCond .ne 7, 3), (77, .iload_n 3, 1), (78, .goto 5, 3), (81, .iload 4, 2), (83, .iload 5, 2), (85, .idiv, 1), (86, .ireturn, 1)]
def k_Mo_chance : List (Nat × Jvm.ClassFile.Instr × Nat) := [(0, .aload_n 0, 1), (1, .iconst 0, 1), (2, .putfield 1, 3), (5, .iload_n 2, 1), (6, .i2l, 1), (7, .lconst 0, 1), (8, .lconst 1, 1), (9, .invokestatic 139, 3), (12, .ifCond .ne 6, 3), (15, .bipush (-2), 2), (17, .ireturn, 1), (18, .iload_n 1, 1), (19, .i2l, 1), (20, .lconst 0, 1), (21, .ldc2_w 415, 3), (24, .invokestatic 139, 3), (27, .ifCond .ne 6, 3), (30, .bipush (-3), 2), (32, .ireturn, 1), (33, .aload_n 0, 1), (34, .getfield 13, 3), (37, .bipush 26, 2), (39, .iaload, 1), (40, .iconst 4, 1), (41, .if_icmp .ne 6, 3), (44, .bipush (-5), 2), (46, .ireturn, 1), (47, .aload_n 0, 1), (48, .aload_n 0, 1), (49, .getfield 13, 3), (52, .bipush 26, 2), (54, .iaload, 1), (55, .iload_n 1, 1), (56, .invokevirtual 417, 3), (59, .istore_n 3, 1), (60, .iload_n 2, 1), (61, .ifCond .ne 7, 3), (64, .iload_n 3, 1), (65, .goto 7, 3), (68, .iload_n 1, 1), (69, .invokestatic 420, 3), (72, .iload_n 3, 1), (73, .iload_n 1, 1), (74, .invokestatic 420, 3), (77, .invokestatic 412, 3), (80, .idiv, 1), (81, .ireturn, 1)]
def k_RW_gone : List (Nat × Jvm.ClassFile.Instr × Nat) := [(0, .iload_n 1, 1), (1, .ifCond .lt 9, 3), (4, .iload_n 1, 1), (5, .bipush 100, 2), (7, .if_icmp .le 6, 3), (10, .bipush (-3), 2), (12, .ireturn, 1), (13, .aload_n 0, 1), (14, .getfield 43, 3), (17, .getfield 171, 3), (20, .iconst (-1), 1), (21, .if_icmp .ne 6, 3), (24, .bipush (-5), 2), (26, .ireturn, 1), (27, .aload_n 0, 1), (28, .invokevirtual 243, 3), (31, .istore_n 2, 1), (32, .iconst 0, 1), (33, .istore_n 3, 1), (34, .iload_n 3, 1), (35, .bipush 8, 2), (37, .if_icmp .gt 34, 3), (40, .aload_n 0, 1), (41, .iload_n 2, 1), (42, .iload_n 3, 1), (43, .invokevirtual 359, 3), (46, .i2l, 1), (47, .ldc2_w 368, 3), (50, .lmul, 1), (51, .iload_n 1, 1), (52, .i2l, 1), (53, .iload_n 3, 1), (54, .invokestatic 362, 3), (57, .i2l, 1), (58, .lmul, 1), (59, .lcmp, 1), (60, .ifCond .ge 5, 3), (63, .iload_n 3, 1), (64, .ireturn, 1), (65, .iinc 3 1, 3), (68, .goto (-34), 3), (71, .iconst (-1), 1), (72, .ireturn, 1)]
def k_Mo_gone : List (Nat × Jvm.ClassFile.Instr × Nat) := [(0, .aload_n 0, 1), (1, .iconst 0, 1), (2, .putfield 1, 3), (5, .iload_n 1, 1), (6, .i2l, 1), (7, .lconst 0, 1), (8, .ldc2_w 423, 3), (11, .invokestatic 139, 3), (14, .ifCond .ne 6, 3), (17, .bipush (-3), 2), (19, .ireturn, 1), (20, .aload_n 0, 1), (21, .getfield 13, 3), (24, .bipush 26, 2), (26, .iaload, 1), (27, .iconst 4, 1), (28, .if_icmp .ne 6, 3), (31, .bipush (-5), 2), (33, .ireturn, 1), (34, .iconst 0, 1), (35, .istore_n 2, 1), (36, .iload_n 2, 1), (37, .bipush 8, 2), (39, .if_icmp .gt 40, 3), (42, .ldc2_w 423, 3), (45, .aload_n 0, 1), (46, .aload_n 0, 1), (47, .getfield 13, 3), (50, .bipush 26, 2), (52, .iaload, 1), (53, .iload_n 2, 1), (54, .invokevirtual 417, 3), (57, .i2l, 1), (58, .lmul, 1), (59, .iload_n 1, 1), (60, .i2l, 1), (61, .iload_n 2, 1), (62, .invokestatic 420, 3), (65, .i2l, 1), (66, .lmul, 1), (67, .lcmp, 1), (68, .ifCond .ge 5, 3), (71, .iload_n 2, 1), (72, .ireturn, 1), (73, .iinc 2 1, 3), (76, .goto (-40), 3), (79, .iconst (-1), 1), (80, .ireturn, 1)]
def k_RW_best : List (Nat × Jvm.ClassFile.Instr × Nat) := [(0, .iload_n 1, 1), (1, .ifCond .lt 9, 3), (4, .iload_n 1, 1), (5, .bipush 8, 2), (7, .if_icmp .le 6, 3), (10, .bipush (-3), 2), (12, .ireturn, 1), (13, .aload_n 0, 1), (14, .getfield 69, 3), (17, .aload_n 0, 1), (18, .getfield 43, 3), (21, .getfield 158, 3), (24, .invokevirtual 260, 3), (27, .iconst (-1), 1), (28, .istore_n 2, 1), (29, .iconst (-1), 1), (30, .istore_n 3, 1), (31, .iconst 0, 1), (32, .istore 4, 2), (34, .iload 4, 2), (36, .aload_n 0, 1), (37, .getfield 93, 3), (40, .getfield 330, 3), (43, .if_icmp .ge 40, 3), (46, .aload_n 0, 1), (47, .aload_n 0, 1), (48, .getfield 43, 3), (51, .getfield 142, 3), (54, .iload 4, 2), (56, .invokestatic 327, 3), (59, .iload_n 1, 1), (60, .invokevirtual 359, 3), (63, .istore 5, 2), (65, .iload 5, 2), (67, .iload_n 3, 1), (68, .if_icmp .le 9, 3), (71, .iload 5, 2), (73, .istore_n 3, 1), (74, .iload 4, 2), (76, .istore_n 2, 1), (77, .iinc 4 1, 3), (80, .goto (-46), 3), (83, .iload_n 2, 1), (84, .ireturn, 1)]
def k_Mo_best : List (Nat × Jvm.ClassFile.Instr × Nat) := [(0, .aload_n 0, 1), (1, .iconst 0, 1), (2, .putfield 1, 3), (5, .iload_n 1, 1), (6, .i2l, 1), (7, .lconst 0, 1), (8, .ldc2_w 415, 3), (11, .invokestatic 139, 3), (14, .ifCond .ne 6, 3), (17, .bipush (-3), 2), (19, .ireturn, 1), (20, .iconst (-1), 1), (21, .istore_n 2, 1), (22, .iconst (-1), 1), (23, .istore_n 3, 1), (24, .iconst 0, 1), (25, .istore 4, 2), (27, .iload 4, 2), (29, .aload_n 0, 1), (30, .getfield 13, 3), (33, .iconst 3, 1), (34, .iaload, 1), (35, .if_icmp .ge 33, 3), (38, .aload_n 0, 1), (39, .iload 4, 2), (41, .iload_n 1, 1), (42, .invokevirtual 417, 3), (45, .istore 5, 2), (47, .iload 5, 2), (49, .iload_n 3, 1), (50, .if_icmp .gt 6, 3), (53, .goto 9, 3), (56, .iload 4, 2), (58, .istore_n 2, 1), (59, .iload 5, 2), (61, .istore_n 3, 1), (62, .iinc 4 1, 3), (65, .goto (-38), 3), (68, .iload_n 2, 1), (69, .ireturn, 1)]
def k_RW_numbers : List (Nat × Jvm.ClassFile.Instr × Nat) := [(0, .iload_n 1, 1), (1, .invokestatic 200, 3), (4, .ifCond .eq 12, 3), (7, .iload_n 2, 1), (8, .ifCond .lt 8, 3), (11, .iload_n 2, 1), (12, .iconst 3, 1), (13, .if_icmp .le 6, 3), (16, .bipush (-2), 2), (18, .ireturn, 1), (19, .iload_n 3, 1), (20, .ifCond .lt 9, 3), (23, .iload_n 3, 1), (24, .bipush 40, 2), (26, .if_icmp .le 6, 3), (29, .bipush (-3), 2), (31, .ireturn, 1), (32, .aload_n 0, 1), (33, .getfield 62, 3), (36, .iload_n 1, 1), (37, .aaload, 1), (38, .iload_n 2, 1), (39, .iload_n 3, 1), (40, .invokevirtual 373, 3), (43, .iconst 0, 1), (44, .ireturn, 1)]
def k_Mo_numbers : List (Nat × Jvm.ClassFile.Instr × Nat) := [(0, .aload_n 0, 1), (1, .iconst 0, 1), (2, .putfield 1, 3), (5, .iload_n 1, 1), (6, .i2l, 1), (7, .lconst 0, 1), (8, .ldc2_w 227, 3), (11, .invokestatic 139, 3), (14, .ifCond .eq 15, 3), (17, .iload_n 2, 1), (18, .i2l, 1), (19, .lconst 0, 1), (20, .ldc2_w 227, 3), (23, .invokestatic 139, 3), (26, .ifCond .ne 6, 3), (29, .bipush (-2), 2), (31, .ireturn, 1), (32, .iload_n 3, 1), (33, .i2l, 1), (34, .lconst 0, 1), (35, .ldc2_w 322, 3), (38, .invokestatic 139, 3), (41, .ifCond .ne 6, 3), (44, .bipush (-3), 2), (46, .ireturn, 1), (47, .aload_n 0, 1), (48, .getfield 63, 3), (51, .iload_n 1, 1), (52, .iload_n 2, 1), (53, .iastore, 1), (54, .aload_n 0, 1), (55, .getfield 66, 3), (58, .iload_n 1, 1), (59, .iload_n 3, 1), (60, .iastore, 1), (61, .iconst 0, 1), (62, .istore 4, 2), (64, .iload 4, 2), (66, .iload_n 3, 1), (67, .if_icmp .ge 22, 3), (70, .aload_n 0, 1), (71, .getfield 69, 3), (74, .bipush 40, 2), (76, .iload_n 1, 1), (77, .imul, 1), (78, .iload 4, 2), (80, .iadd, 1), (81, .lconst 0, 1), (82, .lastore, 1), (83, .iinc 4 1, 3), (86, .goto (-22), 3), (89, .iconst 0, 1), (90, .ireturn, 1)]
def k_RW_write : List (Nat × Jvm.ClassFile.Instr × Nat) := [(0, .iload_n 1, 1), (1, .invokestatic 200, 3), (4, .ifCond .ne 7, 3), (7, .ldc2_w 376, 3), (10, .lreturn, 1), (11, .aload_n 0, 1), (12, .getfield 62, 3), (15, .iload_n 1, 1), (16, .aaload, 1), (17, .getfield 203, 3), (20, .ifCond .eq 7, 3), (23, .ldc2_w 378, 3), (26, .lreturn, 1), (27, .iload_n 2, 1), (28, .ifCond .lt 16, 3), (31, .iload_n 2, 1), (32, .aload_n 0, 1), (33, .getfield 62, 3), (36, .iload_n 1, 1), (37, .aaload, 1), (38, .getfield 214, 3), (41, .if_icmp .lt 7, 3), (44, .ldc2_w 380, 3), (47, .lreturn, 1), (48, .aload_n 0, 1), (49, .getfield 62, 3), (52, .iload_n 1, 1), (53, .aaload, 1), (54, .iload_n 2, 1), (55, .lload_n 3, 1), (56, .invokevirtual 382, 3), (59, .aload_n 0, 1), (60, .getfield 62, 3), (63, .iload_n 1, 1), (64, .aaload, 1), (65, .iload_n 2, 1), (66, .invokevirtual 215, 3), (69, .lreturn, 1)]
def k_Mo_write : List (Nat × Jvm.ClassFile.Instr × Nat) := [(0, .aload_n 0, 1), (1, .iconst 0, 1), (2, .putfield 1, 3), (5, .aload_n 0, 1), (6, .iload_n 1, 1), (7, .invokevirtual 303, 3), (10, .istore 5, 2), (12, .iload 5, 2), (14, .ifCond .eq 7, 3), (17, .iload 5, 2), (19, .i2l, 1), (20, .lreturn, 1), (21, .iload_n 2, 1), (22, .i2l, 1), (23, .lconst 0, 1), (24, .aload_n 0, 1), (25, .getfield 66, 3), (28, .iload_n 1, 1), (29, .iaload, 1), (30, .iconst 1, 1), (31, .isub, 1), (32, .i2l, 1), (33, .invokestatic 139, 3), (36, .ifCond .ne 7, 3), (39, .ldc2_w 425, 3), (42, .lreturn, 1), (43, .aload_n 0, 1), (44, .getfield 69, 3), (47, .bipush 40, 2), (49, .iload_n 1, 1), (50, .imul, 1), (51, .iload_n 2, 1), (52, .iadd, 1), (53, .lload_n 3, 1), (54, .aload_n 0, 1), (55, .getfield 63, 3), (58, .iload_n 1, 1), (59, .iaload, 1), (60, .invokestatic 427, 3), (63, .lastore, 1), (64, .aload_n 0, 1), (65, .getfield 69, 3), (68, .bipush 40, 2), (70, .iload_n 1, 1), (71, .imul, 1), (72, .iload_n 2, 1), (73, .iadd, 1), (74, .laload, 1), (75, .lreturn, 1)]
def k_RW_lists : List (Nat × Jvm.ClassFile.Instr × Nat) := [(0, .iload_n 1, 1), (1, .invokestatic 200, 3), (4, .ifCond .ne 6, 3), (7, .bipush (-2), 2), (9, .ireturn, 1), (10, .aload_n 0, 1), (11, .getfield 62, 3), (14, .iload_n 1, 1), (15, .aaload, 1), (16, .getfield 203, 3), (19, .ifCond .eq 6, 3), (22, .bipush (-6), 2), (24, .ireturn, 1), (25, .iload_n 2, 1), (26, .invokestatic 182, 3), (29, .ifCond .ne 6, 3), (32, .bipush (-3), 2), (34, .ireturn, 1), (35, .aload_n 0, 1), (36, .invokevirtual 243, 3), (39, .istore_n 3, 1), (40, .iconst 0, 1), (41, .istore 4, 2), (43, .iload 4, 2), (45, .aload_n 0, 1), (46, .getfield 62, 3), (49, .iload_n 1, 1), (50, .aaload, 1), (51, .getfield 214, 3), (54, .if_icmp .ge 36, 3), (57, .aload_n 0, 1), (58, .getfield 69, 3), (61, .iload_n 3, 1), (62, .iload_n 2, 1), (63, .invokevirtual 320, 3), (66, .istore_n 3, 1), (67, .aload_n 0, 1), (68, .getfield 62, 3), (71, .iload_n 1, 1), (72, .aaload, 1), (73, .iload 4, 2), (75, .iload_n 3, 1), (76, .sipush 511, 3), (79, .iand, 1), (80, .i2l, 1), (81, .invokevirtual 382, 3), (84, .iinc 4 1, 3), (87, .goto (-44), 3), (90, .aload_n 0, 1), (91, .getfield 62, 3), (94, .iload_n 1, 1), (95, .aaload, 1), (96, .getfield 214, 3), (99, .ireturn, 1)]
def k_Mo_lists : List (Nat × Jvm.ClassFile.Instr × Nat) := [(0, .aload_n 0, 1), (1, .iconst 0, 1), (2, .putfield 1, 3), (5, .aload_n 0, 1), (6, .iload_n 1, 1), (7, .invokevirtual 303, 3), (10, .istore_n 3, 1), (11, .iload_n 3, 1), (12, .ifCond .eq 5, 3), (15, .iload_n 3, 1), (16, .ireturn, 1), (17, .iload_n 2, 1), (18, .i2l, 1), (19, .invokestatic 262, 3), (22, .ifCond .ne 6, 3), (25, .bipush (-3), 2), (27, .ireturn, 1), (28, .aload_n 0, 1), (29, .invokevirtual 256, 3), (32, .istore 4, 2), (34, .iconst 0, 1), (35, .istore 5, 2), (37, .iload 5, 2), (39, .aload_n 0, 1), (40, .getfield 66, 3), (43, .iload_n 1, 1), (44, .iaload, 1), (45, .if_icmp .ge 44, 3), (48, .aload_n 0, 1), (49, .iload 4, 2), (51, .iload_n 2, 1), (52, .invokevirtual 259, 3), (55, .istore 4, 2), (57, .aload_n 0, 1), (58, .getfield 69, 3), (61, .bipush 40, 2), (63, .iload_n 1, 1), (64, .imul, 1), (65, .iload 5, 2), (67, .iadd, 1), (68, .iload 4, 2), (70, .iconst 5, 1), (71, .idiv, 1), (72, .i2l, 1), (73, .aload_n 0, 1), (74, .getfield 63, 3), (77, .iload_n 1, 1), (78, .iaload, 1), (79, .invokestatic 427, 3), (82, .lastore, 1), (83, .iinc 5 1, 3), (86, .goto (-49), 3), (89, .aload_n 0, 1), (90, .getfield 66, 3), (93, .iload_n 1, 1), (94, .iaload, 1), (95, .ireturn, 1)]
def k_RW_image : List (Nat × Jvm.ClassFile.Instr × Nat) := [(0, .iload_n 1, 1), (1, .ifCond .lt 8, 3), (4, .iload_n 1, 1), (5, .iconst 2, 1), (6, .if_icmp .lt 6, 3), (9, .bipush (-2), 2), (11, .ireturn, 1), (12, .aload_n 0, 1), (13, .getfield 33, 3), (16, .iload_n 1, 1), (17, .aload_n 0, 1), (18, .getfield 93, 3), (21, .aastore, 1), (22, .aload_n 0, 1), (23, .getfield 38, 3), (26, .iload_n 1, 1), (27, .aaload, 1), (28, .aload_n 0, 1), (29, .getfield 43, 3), (32, .invokevirtual 207, 3), (35, .iconst 0, 1), (36, .ireturn, 1)]
def k_Mo_image : List (Nat × Jvm.ClassFile.Instr × Nat) := [(0, .aload_n 0, 1), (1, .iconst 0, 1), (2, .putfield 1, 3), (5, .iload_n 1, 1), (6, .i2l, 1), (7, .lconst 0, 1), (8, .lconst 1, 1), (9, .invokestatic 139, 3), (12, .ifCond .ne 6, 3), (15, .bipush (-2), 2), (17, .ireturn, 1), (18, .iconst 0, 1), (19, .istore_n 2, 1), (20, .iload_n 2, 1), (21, .sipush 971, 3), (24, .if_icmp .ge 29, 3), (27, .aload_n 0, 1), (28, .getfield 13, 3), (31, .sipush 971, 3), (34, .iload_n 1, 1), (35, .iconst 1, 1), (36, .iadd, 1), (37, .imul, 1), (38, .iload_n 2, 1), (39, .iadd, 1), (40, .aload_n 0, 1), (41, .getfield 13, 3), (44, .iload_n 2, 1), (45, .iaload, 1), (46, .iastore, 1), (47, .iinc 2 1, 3), (50, .goto (-30), 3), (53, .aload_n 0, 1), (54, .getfield 17, 3), (57, .iload_n 1, 1), (58, .iconst 1, 1), (59, .bastore, 1), (60, .iconst 0, 1), (61, .ireturn, 1)]
def k_RW_restore : List (Nat × Jvm.ClassFile.Instr × Nat) := [(0, .iload_n 1, 1), (1, .ifCond .lt 8, 3), (4, .iload_n 1, 1), (5, .iconst 2, 1), (6, .if_icmp .lt 6, 3), (9, .bipush (-2), 2), (11, .ireturn, 1), (12, .aload_n 0, 1), (13, .getfield 33, 3), (16, .iload_n 1, 1), (17, .aaload, 1), (18, .ifnonnull 6, 3), (21, .bipush (-5), 2), (23, .ireturn, 1), (24, .aload_n 0, 1), (25, .aload_n 0, 1), (26, .getfield 33, 3), (29, .iload_n 1, 1), (30, .aaload, 1), (31, .putfield 93, 3), (34, .aload_n 0, 1), (35, .getfield 43, 3), (38, .aload_n 0, 1), (39, .getfield 38, 3), (42, .iload_n 1, 1), (43, .aaload, 1), (44, .invokevirtual 207, 3), (47, .aload_n 0, 1), (48, .getfield 56, 3), (51, .invokevirtual 126, 3), (54, .aload_n 0, 1), (55, .getfield 69, 3), (58, .aload_n 0, 1), (59, .getfield 93, 3), (62, .invokevirtual 101, 3), (65, .iconst 0, 1), (66, .ireturn, 1)]
def k_Mo_restore : List (Nat × Jvm.ClassFile.Instr × Nat) := [(0, .aload_n 0, 1), (1, .iconst 0, 1), (2, .putfield 1, 3), (5, .iload_n 1, 1), (6, .i2l, 1), (7, .lconst 0, 1), (8, .lconst 1, 1), (9, .invokestatic 139, 3), (12, .ifCond .ne 6, 3), (15, .bipush (-2), 2), (17, .ireturn, 1), (18, .aload_n 0, 1), (19, .getfield 17, 3), (22, .iload_n 1, 1), (23, .baload, 1), (24, .ifCond .ne 6, 3), (27, .bipush (-5), 2), (29, .ireturn, 1), (30, .iconst 0, 1), (31, .istore_n 2, 1), (32, .iload_n 2, 1), (33, .sipush 971, 3), (36, .if_icmp .ge 29, 3), (39, .aload_n 0, 1), (40, .getfield 13, 3), (43, .iload_n 2, 1), (44, .aload_n 0, 1), (45, .getfield 13, 3), (48, .sipush 971, 3), (51, .iload_n 1, 1), (52, .iconst 1, 1), (53, .iadd, 1), (54, .imul, 1), (55, .iload_n 2, 1), (56, .iadd, 1), (57, .iaload, 1), (58, .iastore, 1), (59, .iinc 2 1, 3), (62, .goto (-30), 3), (65, .aload_n 0, 1), (66, .getfield 13, 3), (69, .bipush 29, 2), (71, .iconst 0, 1), (72, .iastore, 1), (73, .iconst 0, 1), (74, .ireturn, 1)]
def k_RW_count : List (Nat × Jvm.ClassFile.Instr × Nat) := [(0, .iload_n 1, 1), (1, .tableswitch 147 0 10 #[59, 67, 75, 83, 91, 102, 110, 118, 126, 134, 139], 59), (60, .aload_n 0, 1), (61, .getfield 93, 3), (64, .getfield 386, 3), (67, .ireturn, 1), (68, .aload_n 0, 1), (69, .getfield 93, 3), (72, .getfield 330, 3), (75, .ireturn, 1), (76, .aload_n 0, 1), (77, .getfield 43, 3), (80, .getfield 142, 3), (83, .ireturn, 1), (84, .aload_n 0, 1), (85, .getfield 43, 3), (88, .getfield 171, 3), (91, .ireturn, 1), (92, .aload_n 0, 1), (93, .getfield 43, 3), (96, .getfield 142, 3), (99, .invokestatic 148, 3), (102, .ireturn, 1), (103, .aload_n 0, 1), (104, .getfield 93, 3), (107, .getfield 290, 3), (110, .ireturn, 1), (111, .aload_n 0, 1), (112, .getfield 43, 3), (115, .getfield 158, 3), (118, .ireturn, 1), (119, .aload_n 0, 1), (120, .getfield 43, 3), (123, .getfield 239, 3), (126, .ireturn, 1), (127, .aload_n 0, 1), (128, .getfield 56, 3), (131, .getfield 193, 3), (134, .ireturn, 1), (135, .aload_n 0, 1), (136, .getfield 104, 3), (139, .ireturn, 1), (140, .aload_n 0, 1), (141, .getfield 93, 3), (144, .getfield 129, 3), (147, .ireturn, 1), (148, .iconst (-1), 1), (149, .ireturn, 1)]
def k_Mo_count : List (Nat × Jvm.ClassFile.Instr × Nat) := [(0, .aload_n 0, 1), (1, .iconst 0, 1), (2, .putfield 1, 3), (5, .iload_n 1, 1), (6, .tableswitch 143 0 10 #[58, 63, 70, 78, 89, 100, 107, 115, 123, 131, 136], 58), (64, .aload_n 0, 1), (65, .invokevirtual 207, 3), (68, .ireturn, 1), (69, .aload_n 0, 1), (70, .getfield 13, 3), (73, .iconst 3, 1), (74, .iaload, 1), (75, .ireturn, 1), (76, .aload_n 0, 1), (77, .getfield 13, 3), (80, .bipush 25, 2), (82, .iaload, 1), (83, .ireturn, 1), (84, .aload_n 0, 1), (85, .getfield 13, 3), (88, .bipush 26, 2), (90, .iaload, 1), (91, .invokestatic 312, 3), (94, .ireturn, 1), (95, .aload_n 0, 1), (96, .getfield 13, 3), (99, .bipush 25, 2), (101, .iaload, 1), (102, .invokestatic 232, 3), (105, .ireturn, 1), (106, .aload_n 0, 1), (107, .getfield 13, 3), (110, .iconst 4, 1), (111, .iaload, 1), (112, .ireturn, 1), (113, .aload_n 0, 1), (114, .getfield 13, 3), (117, .bipush 27, 2), (119, .iaload, 1), (120, .ireturn, 1), (121, .aload_n 0, 1), (122, .getfield 13, 3), (125, .bipush 28, 2), (127, .iaload, 1), (128, .ireturn, 1), (129, .aload_n 0, 1), (130, .getfield 13, 3), (133, .bipush 29, 2), (135, .iaload, 1), (136, .ireturn, 1), (137, .aload_n 0, 1), (138, .getfield 77, 3), (141, .ireturn, 1), (142, .aload_n 0, 1), (143, .getfield 13, 3), (146, .iconst 0, 1), (147, .iaload, 1), (148, .ireturn, 1), (149, .iconst (-1), 1), (150, .ireturn, 1)]
def k_Tok_init : List (Nat × Jvm.ClassFile.Instr × Nat) := [(0, .aload_n 0, 1), (1, .invokespecial 3, 3), (4, .aload_n 0, 1), (5, .sipush 901, 3), (8, .newarray .int, 2), (10, .putfield 9, 3), (13, .aload_n 0, 1), (14, .sipush 901, 3), (17, .newarray .int, 2), (19, .putfield 15, 3), (22, .aload_n 0, 1), (23, .sipush 901, 3), (26, .newarray .int, 2), (28, .putfield 18, 3), (31, .aload_n 0, 1), (32, .iconst (-1), 1), (33, .putfield 21, 3), (36, .return_, 1)]
def k_RR_init : List (Nat × Jvm.ClassFile.Instr × Nat) := [(0, .aload_n 0, 1), (1, .invokespecial 3, 3), (4, .aload_n 0, 1), (5, .new 9, 3), (8, .dup, 1), (9, .invokespecial 11, 3), (12, .putfield 12, 3), (15, .return_, 1)]
def k_Mom_init : List (Nat × Jvm.ClassFile.Instr × Nat) := [(0, .aload_n 0, 1), (1, .invokespecial 3, 3), (4, .aload_n 0, 1), (5, .iconst (-1), 1), (6, .putfield 9, 3), (9, .return_, 1)]
def k_Past_init : List (Nat × Jvm.ClassFile.Instr × Nat) := [(0, .aload_n 0, 1), (1, .invokespecial 3, 3), (4, .aload_n 0, 1), (5, .bipush 10, 2), (7, .anewarray 9, 3), (10, .putfield 11, 3), (13, .iconst 0, 1), (14, .istore_n 1, 1), (15, .iload_n 1, 1), (16, .bipush 10, 2), (18, .if_icmp .ge 22, 3), (21, .aload_n 0, 1), (22, .getfield 11, 3), (25, .iload_n 1, 1), (26, .new 9, 3), (29, .dup, 1), (30, .invokespecial 17, 3), (33, .aastore, 1), (34, .iinc 1 1, 3), (37, .goto (-22), 3), (40, .return_, 1)]
def k_Stp_init : List (Nat × Jvm.ClassFile.Instr × Nat) := [(0, .aload_n 0, 1), (1, .invokespecial 3, 3), (4, .aload_n 0, 1), (5, .sipush 900, 3), (8, .newarray .long, 2), (10, .putfield 9, 3), (13, .aload_n 0, 1), (14, .bipush 8, 2), (16, .newarray .long, 2), (18, .putfield 15, 3), (21, .aload_n 0, 1), (22, .bipush 10, 2), (24, .newarray .int, 2), (26, .putfield 20, 3), (29, .aload_n 0, 1), (30, .sipush 5120, 3), (33, .newarray .int, 2), (35, .putfield 24, 3), (38, .aload_n 0, 1), (39, .sipush 512, 3), (42, .newarray .int, 2), (44, .putfield 27, 3), (47, .return_, 1)]
def k_Rch_init : List (Nat × Jvm.ClassFile.Instr × Nat) := [(0, .aload_n 0, 1), (1, .invokespecial 3, 3), (4, .aload_n 0, 1), (5, .sipush 1024, 3), (8, .newarray .int, 2), (10, .putfield 9, 3), (13, .aload_n 0, 1), (14, .sipush 2048, 3), (17, .newarray .int, 2), (19, .putfield 15, 3), (22, .aload_n 0, 1), (23, .sipush 1024, 3), (26, .newarray .int, 2), (28, .putfield 18, 3), (31, .aload_n 0, 1), (32, .sipush 2560, 3), (35, .newarray .int, 2), (37, .putfield 21, 3), (40, .aload_n 0, 1), (41, .sipush 1024, 3), (44, .newarray .int, 2), (46, .putfield 24, 3), (49, .aload_n 0, 1), (50, .sipush 1024, 3), (53, .newarray .int, 2), (55, .putfield 27, 3), (58, .return_, 1)]
def k_Con_init : List (Nat × Jvm.ClassFile.Instr × Nat) := [(0, .aload_n 0, 1), (1, .invokespecial 3, 3), (4, .aload_n 0, 1), (5, .sipush 2048, 3), (8, .newarray .int, 2), (10, .putfield 9, 3), (13, .aload_n 0, 1), (14, .sipush 2048, 3), (17, .newarray .int, 2), (19, .putfield 15, 3), (22, .aload_n 0, 1), (23, .sipush 2048, 3), (26, .newarray .int, 2), (28, .putfield 18, 3), (31, .aload_n 0, 1), (32, .sipush 1024, 3), (35, .newarray .int, 2), (37, .putfield 21, 3), (40, .aload_n 0, 1), (41, .sipush 2048, 3), (44, .newarray .int, 2), (46, .putfield 24, 3), (49, .return_, 1)]
def k_Room_init : List (Nat × Jvm.ClassFile.Instr × Nat) := [(0, .aload_n 0, 1), (1, .invokespecial 3, 3), (4, .aload_n 0, 1), (5, .bipush 9, 2), (7, .newarray .int, 2), (9, .putfield 9, 3), (12, .aload_n 0, 1), (13, .bipush 9, 2), (15, .newarray .int, 2), (17, .putfield 15, 3), (20, .aload_n 0, 1), (21, .iconst 4, 1), (22, .newarray .int, 2), (24, .putfield 18, 3), (27, .aload_n 0, 1), (28, .new 21, 3), (31, .dup, 1), (32, .invokespecial 23, 3), (35, .putfield 24, 3), (38, .aload_n 0, 1), (39, .new 21, 3), (42, .dup, 1), (43, .invokespecial 23, 3), (46, .putfield 28, 3), (49, .aload_n 0, 1), (50, .invokevirtual 31, 3), (53, .return_, 1)]
def k_Tray_init : List (Nat × Jvm.ClassFile.Instr × Nat) := [(0, .aload_n 0, 1), (1, .invokespecial 3, 3), (4, .aload_n 0, 1), (5, .bipush 40, 2), (7, .newarray .long, 2), (9, .putfield 9, 3), (12, .aload_n 0, 1), (13, .iconst 1, 1), (14, .putfield 15, 3), (17, .return_, 1)]
def k_Mom_begin : List (Nat × Jvm.ClassFile.Instr × Nat) := [(0, .aload_n 0, 1), (1, .aload_n 1, 1), (2, .getfield 15, 3), (5, .putfield 20, 3), (8, .aload_n 0, 1), (9, .aload_n 1, 1), (10, .getfield 21, 3), (13, .putfield 9, 3), (16, .aload_n 0, 1), (17, .aload_n 1, 1), (18, .getfield 22, 3), (21, .putfield 25, 3), (24, .aload_n 0, 1), (25, .iconst 0, 1), (26, .putfield 26, 3), (29, .return_, 1)]
def k_Stp_take : List (Nat × Jvm.ClassFile.Instr × Nat) := [(0, .aload_n 0, 1), (1, .aload_n 1, 1), (2, .putfield 30, 3), (5, .aload_n 0, 1), (6, .getfield 9, 3), (9, .lconst 0, 1), (10, .invokestatic 34, 3), (13, .aload_n 0, 1), (14, .getfield 15, 3), (17, .lconst 0, 1), (18, .invokestatic 34, 3), (21, .aload_n 0, 1), (22, .dup, 1), (23, .getfield 40, 3), (26, .iconst 1, 1), (27, .iadd, 1), (28, .putfield 40, 3), (31, .return_, 1)]
def k_Mo_plain : List (Nat × Jvm.ClassFile.Instr × Nat) := [(0, .iconst 0, 1), (1, .istore_n 1, 1), (2, .iload_n 1, 1), (3, .sipush 971, 3), (6, .if_icmp .ge 13, 3), (9, .aload_n 0, 1), (10, .iload_n 1, 1), (11, .iconst 0, 1), (12, .iastore, 1), (13, .iinc 1 1, 3), (16, .goto (-14), 3), (19, .aload_n 0, 1), (20, .iconst 1, 1), (21, .iconst 1, 1), (22, .iastore, 1), (23, .aload_n 0, 1), (24, .iconst 2, 1), (25, .iconst 1, 1), (26, .iastore, 1), (27, .aload_n 0, 1), (28, .iconst 5, 1), (29, .iconst 5, 1), (30, .iastore, 1), (31, .aload_n 0, 1), (32, .bipush 26, 2), (34, .iconst 4, 1), (35, .iastore, 1), (36, .return_, 1)]
def k_RW_tapeFour : List (Nat × Jvm.ClassFile.Instr × Nat) := [(0, .bipush 24, 2), (2, .istore_n 2, 1), (3, .iload_n 2, 1), (4, .ifCond .lt 39, 3), (7, .aload_n 0, 1), (8, .getfield 104, 3), (11, .sipush 900, 3), (14, .if_icmp .ge 29, 3), (17, .aload_n 0, 1), (18, .getfield 9, 3), (21, .aload_n 0, 1), (22, .dup, 1), (23, .getfield 104, 3), (26, .dup_x1, 1), (27, .iconst 1, 1), (28, .iadd, 1), (29, .putfield 104, 3), (32, .iload_n 1, 1), (33, .iload_n 2, 1), (34, .ishr, 1), (35, .i2b, 1), (36, .bastore, 1), (37, .iinc 2 (-8), 3), (40, .goto (-37), 3), (43, .return_, 1)]
def k_RW_spareRoom : List (Nat × Jvm.ClassFile.Instr × Nat) := [(0, .iconst 1, 1), (1, .istore_n 1, 1), (2, .iload_n 1, 1), (3, .aload_n 0, 1), (4, .getfield 29, 3), (7, .arraylength, 1), (8, .if_icmp .ge 59, 3), (11, .aload_n 0, 1), (12, .getfield 29, 3), (15, .iload_n 1, 1), (16, .aaload, 1), (17, .aload_n 0, 1), (18, .getfield 93, 3), (21, .if_acmp .eq 40, 3), (24, .aload_n 0, 1), (25, .getfield 29, 3), (28, .iload_n 1, 1), (29, .aaload, 1), (30, .aload_n 0, 1), (31, .getfield 33, 3), (34, .iconst 0, 1), (35, .aaload, 1), (36, .if_acmp .eq 25, 3), (39, .aload_n 0, 1), (40, .getfield 29, 3), (43, .iload_n 1, 1), (44, .aaload, 1), (45, .aload_n 0, 1), (46, .getfield 33, 3), (49, .iconst 1, 1), (50, .aaload, 1), (51, .if_acmp .eq 10, 3), (54, .aload_n 0, 1), (55, .getfield 29, 3), (58, .iload_n 1, 1), (59, .aaload, 1), (60, .areturn, 1), (61, .iinc 1 1, 3), (64, .goto (-62), 3), (67, .aload_n 0, 1), (68, .getfield 29, 3), (71, .iconst 0, 1), (72, .aaload, 1), (73, .areturn, 1)]
def k_Tok_begin_0 : List (Nat × Jvm.ClassFile.Instr × Nat) := [(0, .aload_n 0, 1), (1, .aload_n 1, 1), (2, .putfield 25, 3), (5, .aload_n 0, 1), (6, .iconst 0, 1), (7, .iload_n 2, 1), (8, .aload_n 1, 1), (9, .arraylength, 1), (10, .invokestatic 29, 3), (13, .invokestatic 35, 3), (16, .putfield 38, 3), (19, .aload_n 0, 1), (20, .iconst 0, 1), (21, .putfield 41, 3), (24, .aload_n 0, 1), (25, .iconst (-1), 1), (26, .putfield 21, 3), (29, .aload_n 0, 1), (30, .iconst 0, 1), (31, .putfield 44, 3), (34, .aload_n 0, 1), (35, .iconst 0, 1), (36, .putfield 47, 3), (39, .bipush 20, 2), (41, .istore_n 3, 1), (42, .iconst 0, 1), (43, .istore 4, 2), (45, .iload 4, 2), (47, .sipush 900, 3), (50, .if_icmp .gt 68, 3), (53, .iload_n 3, 1), (54, .bipush 21, 2), (56, .if_icmp .eq 62, 3), (59, .aload_n 0, 1), (60, .invokevirtual 50, 3), (63, .istore_n 3, 1), (64, .aload_n 0, 1), (65, .getfield 9, 3), (68, .iload 4, 2), (70, .iload_n 3, 1), (71, .iastore, 1), (72, .aload_n 0, 1), (73, .getfield 18, 3), (76, .iload 4, 2), (78, .aload_n 0, 1), (79, .getfield 54, 3), (82, .iastore, 1), (83, .aload_n 0, 1), (84, .iload 4, 2), (86, .iconst 1, 1), (87, .iadd, 1), (88, .putfield 44, 3), (91, .aload_n 0, 1), (92, .getfield 15, 3), (95, .iload 4, 2), (97, .iload_n 3, 1), (98, .bipush 20, 2), (100, .if_icmp .ne 10, 3), (103, .aload_n 0, 1), (104, .invokevirtual 57, 3)]
def k_Tok_begin_1 : List (Nat × Jvm.ClassFile.Instr × Nat) := [(107, .goto 4, 3), (110, .iconst 0, 1), (111, .iastore, 1), (112, .iinc 4 1, 3), (115, .goto (-70), 3), (118, .aload_n 0, 1), (119, .iconst (-1), 1), (120, .putfield 60, 3), (123, .aload_n 0, 1), (124, .invokevirtual 63, 3), (127, .return_, 1)]
def k_Tok_begin : List (Nat × Jvm.ClassFile.Instr × Nat) := k_Tok_begin_0 ++ (k_Tok_begin_1)
def k_RR_readRoom : List (Nat × Jvm.ClassFile.Instr × Nat) := [(0, .aload_n 0, 1), (1, .aload_n 1, 1), (2, .putfield 18, 3), (5, .aload_n 0, 1), (6, .aload_n 2, 1), (7, .putfield 22, 3), (10, .aload_n 0, 1), (11, .getfield 22, 3), (14, .invokevirtual 26, 3), (17, .aload_n 0, 1), (18, .invokevirtual 31, 3), (21, .ifCond .ne 5, 3), (24, .iconst 0, 1), (25, .ireturn, 1), (26, .aload_n 0, 1), (27, .getfield 22, 3), (30, .iconst 1, 1), (31, .putfield 35, 3), (34, .iconst 0, 1), (35, .istore_n 3, 1), (36, .iload_n 3, 1), (37, .sipush 900, 3), (40, .if_icmp .ge 55, 3), (43, .aload_n 0, 1), (44, .getfield 18, 3), (47, .getfield 39, 3), (50, .bipush 21, 2), (52, .if_icmp .eq 43, 3), (55, .aload_n 0, 1), (56, .invokevirtual 44, 3), (59, .ifCond .eq 15, 3), (62, .aload_n 0, 1), (63, .getfield 18, 3), (66, .bipush 59, 2), (68, .invokevirtual 47, 3), (71, .ifCond .ne 5, 3), (74, .iconst 0, 1), (75, .ireturn, 1), (76, .aload_n 0, 1), (77, .getfield 22, 3), (80, .dup, 1), (81, .getfield 35, 3), (84, .iconst 1, 1), (85, .iadd, 1), (86, .putfield 35, 3), (89, .iinc 3 1, 3), (92, .goto (-56), 3), (95, .iconst 1, 1), (96, .ireturn, 1)]
def k_Past_clear : List (Nat × Jvm.ClassFile.Instr × Nat) := [(0, .aload_n 0, 1), (1, .iconst 0, 1), (2, .putfield 18, 3), (5, .return_, 1)]
def k_Mo_within : List (Nat × Jvm.ClassFile.Instr × Nat) := [(0, .lload_n 0, 1), (1, .lload_n 2, 1), (2, .lcmp, 1), (3, .ifCond .lt 14, 3), (6, .lload_n 0, 1), (7, .lload 4, 2), (9, .lcmp, 1), (10, .ifCond .gt 7, 3), (13, .iconst 1, 1), (14, .goto 4, 3), (17, .iconst 0, 1), (18, .ireturn, 1)]
def k_Mo_next_0 : List (Nat × Jvm.ClassFile.Instr × Nat) := [(0, .aload_n 0, 1), (1, .aload_n 0, 1), (2, .getfield 98, 3), (5, .putfield 95, 3), (8, .aload_n 0, 1), (9, .aload_n 0, 1), (10, .getfield 95, 3), (13, .invokevirtual 101, 3), (16, .bipush 10, 2), (18, .if_icmp .eq 16, 3), (21, .aload_n 0, 1), (22, .aload_n 0, 1), (23, .getfield 95, 3), (26, .invokevirtual 101, 3), (29, .bipush 32, 2), (31, .if_icmp .ne 16, 3), (34, .aload_n 0, 1), (35, .dup, 1), (36, .getfield 95, 3), (39, .iconst 1, 1), (40, .iadd, 1), (41, .putfield 95, 3), (44, .goto (-36), 3), (47, .aload_n 0, 1), (48, .aload_n 0, 1), (49, .getfield 95, 3), (52, .putfield 98, 3), (55, .aload_n 0, 1), (56, .getfield 95, 3), (59, .aload_n 0, 1), (60, .getfield 80, 3), (63, .if_icmp .lt 12, 3), (66, .aload_n 0, 1), (67, .bipush 24, 2), (69, .putfield 105, 3), (72, .goto 222, 3), (75, .aload_n 0, 1), (76, .aload_n 0, 1), (77, .getfield 95, 3), (80, .invokevirtual 101, 3), (83, .invokestatic 108, 3), (86, .ifCond .eq 41, 3), (89, .aload_n 0, 1), (90, .aload_n 0, 1), (91, .getfield 98, 3), (94, .invokevirtual 101, 3), (97, .invokestatic 108, 3), (100, .ifCond .eq 16, 3), (103, .aload_n 0, 1), (104, .dup, 1), (105, .getfield 98, 3), (108, .iconst 1, 1), (109, .iadd, 1), (110, .putfield 98, 3), (113, .goto (-24), 3), (116, .aload_n 0, 1), (117, .aload_n 0, 1), (118, .invokevirtual 112, 3), (121, .putfield 105, 3), (124, .goto 170, 3)]
def k_Mo_next_1 : List (Nat × Jvm.ClassFile.Instr × Nat) := [(127, .aload_n 0, 1), (128, .aload_n 0, 1), (129, .getfield 95, 3), (132, .invokevirtual 101, 3), (135, .invokestatic 115, 3), (138, .ifCond .eq 98, 3), (141, .aload_n 0, 1), (142, .iconst 0, 1), (143, .putfield 118, 3), (146, .aload_n 0, 1), (147, .aload_n 0, 1), (148, .getfield 98, 3), (151, .invokevirtual 101, 3), (154, .invokestatic 115, 3), (157, .ifCond .eq 52, 3), (160, .aload_n 0, 1), (161, .getfield 98, 3), (164, .aload_n 0, 1), (165, .getfield 95, 3), (168, .isub, 1), (169, .iconst 3, 1), (170, .if_icmp .ge 26, 3), (173, .aload_n 0, 1), (174, .bipush 10, 2), (176, .aload_n 0, 1), (177, .getfield 118, 3), (180, .imul, 1), (181, .aload_n 0, 1), (182, .aload_n 0, 1), (183, .getfield 98, 3), (186, .invokevirtual 101, 3), (189, .iadd, 1), (190, .bipush 48, 2), (192, .isub, 1), (193, .putfield 118, 3), (196, .aload_n 0, 1), (197, .dup, 1), (198, .getfield 98, 3), (201, .iconst 1, 1), (202, .iadd, 1), (203, .putfield 98, 3), (206, .goto (-60), 3), (209, .aload_n 0, 1), (210, .aload_n 0, 1), (211, .getfield 98, 3), (214, .aload_n 0, 1), (215, .getfield 95, 3), (218, .isub, 1), (219, .iconst 3, 1), (220, .if_icmp .le 8, 3), (223, .bipush 25, 2), (225, .goto 5, 3), (228, .bipush 23, 2), (230, .putfield 105, 3), (233, .goto 61, 3), (236, .aload_n 0, 1), (237, .dup, 1), (238, .getfield 98, 3), (241, .iconst 1, 1), (242, .iadd, 1)]
def k_Mo_next_2 : List (Nat × Jvm.ClassFile.Instr × Nat) := [(243, .putfield 98, 3), (246, .aload_n 0, 1), (247, .bipush 25, 2), (249, .putfield 105, 3), (252, .iconst 0, 1), (253, .istore_n 1, 1), (254, .iload_n 1, 1), (255, .ldc 121, 2), (257, .invokevirtual 85, 3), (260, .if_icmp .ge 34, 3), (263, .aload_n 0, 1), (264, .aload_n 0, 1), (265, .getfield 95, 3), (268, .invokevirtual 101, 3), (271, .ldc 121, 2), (273, .iload_n 1, 1), (274, .invokevirtual 91, 3), (277, .if_icmp .ne 11, 3), (280, .aload_n 0, 1), (281, .bipush 30, 2), (283, .iload_n 1, 1), (284, .iadd, 1), (285, .putfield 105, 3), (288, .iinc 1 1, 3), (291, .goto (-37), 3), (294, .return_, 1)]
def k_Mo_next : List (Nat × Jvm.ClassFile.Instr × Nat) := k_Mo_next_0 ++ (k_Mo_next_1 ++ (k_Mo_next_2))
def k_Mo_eats : List (Nat × Jvm.ClassFile.Instr × Nat) := [(0, .aload_n 0, 1), (1, .iload_n 1, 1), (2, .invokevirtual 129, 3), (5, .ifCond .ne 5, 3), (8, .iconst 0, 1), (9, .ireturn, 1), (10, .aload_n 0, 1), (11, .invokevirtual 132, 3), (14, .iconst 1, 1), (15, .ireturn, 1)]
def k_Mo_fails : List (Nat × Jvm.ClassFile.Instr × Nat) := [(0, .aload_n 0, 1), (1, .getfield 123, 3), (4, .ifCond .eq 4, 3), (7, .return_, 1), (8, .aload_n 0, 1), (9, .aload_n 0, 1), (10, .getfield 105, 3), (13, .bipush 25, 2), (15, .if_icmp .ne 7, 3), (18, .iconst 1, 1), (19, .goto 4, 3), (22, .iload_n 1, 1), (23, .putfield 123, 3), (26, .aload_n 0, 1), (27, .aload_n 0, 1), (28, .getfield 95, 3), (31, .putfield 126, 3), (34, .return_, 1)]
def k_Mo_takes : List (Nat × Jvm.ClassFile.Instr × Nat) := [(0, .aload_n 0, 1), (1, .bipush 23, 2), (3, .invokevirtual 129, 3), (6, .ifCond .ne 11, 3), (9, .aload_n 0, 1), (10, .iconst 2, 1), (11, .invokevirtual 135, 3), (14, .goto 23, 3), (17, .aload_n 0, 1), (18, .getfield 118, 3), (21, .i2l, 1), (22, .iload_n 1, 1), (23, .i2l, 1), (24, .iload_n 2, 1), (25, .i2l, 1), (26, .invokestatic 139, 3), (29, .ifCond .ne 8, 3), (32, .aload_n 0, 1), (33, .iconst 3, 1), (34, .invokevirtual 135, 3), (37, .aload_n 0, 1), (38, .getfield 118, 3), (41, .istore_n 3, 1), (42, .aload_n 0, 1), (43, .getfield 123, 3), (46, .ifCond .ne 7, 3), (49, .aload_n 0, 1), (50, .invokevirtual 132, 3), (53, .iload_n 3, 1), (54, .ireturn, 1)]
def k_Mo_ends : List (Nat × Jvm.ClassFile.Instr × Nat) := [(0, .aload_n 0, 1), (1, .bipush 30, 2), (3, .invokevirtual 161, 3), (6, .ifCond .ne 8, 3), (9, .aload_n 0, 1), (10, .iconst 2, 1), (11, .invokevirtual 135, 3), (14, .aload_n 0, 1), (15, .getfield 24, 3), (18, .iconst 0, 1), (19, .dup2, 1), (20, .iaload, 1), (21, .iconst 1, 1), (22, .iadd, 1), (23, .iastore, 1), (24, .return_, 1)]
def k_Mo_readLine_0 : List (Nat × Jvm.ClassFile.Instr × Nat) := [(0, .aload_n 0, 1), (1, .getfield 123, 3), (4, .ifCond .eq 4, 3), (7, .return_, 1), (8, .aload_n 0, 1), (9, .iconst 1, 1), (10, .invokevirtual 129, 3), (13, .ifCond .eq 10, 3), (16, .aload_n 0, 1), (17, .invokevirtual 186, 3), (20, .goto 178, 3), (23, .aload_n 0, 1), (24, .iconst 2, 1), (25, .invokevirtual 129, 3), (28, .ifCond .eq 10, 3), (31, .aload_n 0, 1), (32, .invokevirtual 189, 3), (35, .goto 163, 3), (38, .aload_n 0, 1), (39, .iconst 4, 1), (40, .invokevirtual 161, 3), (43, .ifCond .eq 26, 3), (46, .aload_n 0, 1), (47, .getfield 24, 3), (50, .bipush 26, 2), (52, .aload_n 0, 1), (53, .iconst 0, 1), (54, .aload_n 0, 1), (55, .getfield 24, 3), (58, .iconst 3, 1), (59, .iaload, 1), (60, .iconst 1, 1), (61, .isub, 1), (62, .invokevirtual 179, 3), (65, .iastore, 1), (66, .goto 132, 3), (69, .aload_n 0, 1), (70, .iconst 5, 1), (71, .invokevirtual 161, 3), (74, .ifCond .eq 20, 3), (77, .aload_n 0, 1), (78, .getfield 24, 3), (81, .bipush 25, 2), (83, .dup2, 1), (84, .iaload, 1), (85, .aload_n 0, 1), (86, .invokevirtual 183, 3), (89, .ior, 1), (90, .iastore, 1), (91, .goto 107, 3), (94, .aload_n 0, 1), (95, .bipush 6, 2), (97, .invokevirtual 129, 3), (100, .ifCond .eq 10, 3), (103, .aload_n 0, 1), (104, .invokevirtual 192, 3), (107, .goto 91, 3), (110, .aload_n 0, 1), (111, .bipush 7, 2), (113, .invokevirtual 161, 3)]
def k_Mo_readLine_1 : List (Nat × Jvm.ClassFile.Instr × Nat) := [(116, .ifCond .eq 19, 3), (119, .aload_n 0, 1), (120, .getfield 24, 3), (123, .iconst 5, 1), (124, .aload_n 0, 1), (125, .iconst 0, 1), (126, .bipush 10, 2), (128, .invokevirtual 179, 3), (131, .iastore, 1), (132, .goto 66, 3), (135, .aload_n 0, 1), (136, .bipush 8, 2), (138, .invokevirtual 161, 3), (141, .ifCond .eq 20, 3), (144, .aload_n 0, 1), (145, .getfield 24, 3), (148, .bipush 27, 2), (150, .aload_n 0, 1), (151, .iconst 0, 1), (152, .bipush 9, 2), (154, .invokevirtual 179, 3), (157, .iastore, 1), (158, .goto 40, 3), (161, .aload_n 0, 1), (162, .bipush 9, 2), (164, .invokevirtual 129, 3), (167, .ifCond .ne 12, 3), (170, .aload_n 0, 1), (171, .bipush 10, 2), (173, .invokevirtual 129, 3), (176, .ifCond .eq 17, 3), (179, .aload_n 0, 1), (180, .aload_n 0, 1), (181, .getfield 105, 3), (184, .bipush 9, 2), (186, .isub, 1), (187, .invokevirtual 195, 3), (190, .goto 8, 3), (193, .aload_n 0, 1), (194, .iconst 2, 1), (195, .invokevirtual 135, 3), (198, .return_, 1)]
def k_Mo_readLine : List (Nat × Jvm.ClassFile.Instr × Nat) := k_Mo_readLine_0 ++ (k_Mo_readLine_1)
def k_Room_hasRose : List (Nat × Jvm.ClassFile.Instr × Nat) := [(0, .iload_n 1, 1), (1, .ifCond .lt 21, 3), (4, .iload_n 1, 1), (5, .aload_n 0, 1), (6, .getfield 73, 3), (9, .if_icmp .ge 13, 3), (12, .iload_n 1, 1), (13, .bipush 9, 2), (15, .if_icmp .ge 7, 3), (18, .iconst 1, 1), (19, .goto 4, 3), (22, .iconst 0, 1), (23, .ireturn, 1)]
def k_Int_bitCount : List (Nat × Jvm.ClassFile.Instr × Nat) := [(0, .iload_n 0, 1), (1, .iload_n 0, 1), (2, .iconst 1, 1), (3, .iushr, 1), (4, .ldc_w 265, 3), (7, .iand, 1), (8, .isub, 1), (9, .istore_n 0, 1), (10, .iload_n 0, 1), (11, .ldc_w 266, 3), (14, .iand, 1), (15, .iload_n 0, 1), (16, .iconst 2, 1), (17, .iushr, 1), (18, .ldc_w 266, 3), (21, .iand, 1), (22, .iadd, 1), (23, .istore_n 0, 1), (24, .iload_n 0, 1), (25, .iload_n 0, 1), (26, .iconst 4, 1), (27, .iushr, 1), (28, .iadd, 1), (29, .ldc_w 267, 3), (32, .iand, 1), (33, .istore_n 0, 1), (34, .iload_n 0, 1), (35, .iload_n 0, 1), (36, .bipush 8, 2), (38, .iushr, 1), (39, .iadd, 1), (40, .istore_n 0, 1), (41, .iload_n 0, 1), (42, .iload_n 0, 1), (43, .bipush 16, 2), (45, .iushr, 1), (46, .iadd, 1), (47, .istore_n 0, 1), (48, .iload_n 0, 1), (49, .bipush 63, 2), (51, .iand, 1), (52, .ireturn, 1)]
def k_Mom_place : List (Nat × Jvm.ClassFile.Instr × Nat) := [(0, .aload_n 0, 1), (1, .getfield 20, 3), (4, .aload_n 0, 1), (5, .getfield 9, 3), (8, .invokestatic 29, 3), (11, .ireturn, 1)]
def k_Stp_pass_0 : List (Nat × Jvm.ClassFile.Instr × Nat) := [(0, .aload_n 0, 1), (1, .getfield 30, 3), (4, .ifnull 31, 3), (7, .iload_n 1, 1), (8, .ifCond .lt 27, 3), (11, .iload_n 1, 1), (12, .sipush 2560, 3), (15, .if_icmp .ge 20, 3), (18, .iload_n 2, 1), (19, .invokestatic 47, 3), (22, .ifCond .eq 13, 3), (25, .iload_n 3, 1), (26, .ifCond .lt 9, 3), (29, .iload_n 3, 1), (30, .bipush 10, 2), (32, .if_icmp .lt 5, 3), (35, .iconst 0, 1), (36, .ireturn, 1), (37, .iload_n 1, 1), (38, .sipush 511, 3), (41, .iand, 1), (42, .istore 4, 2), (44, .iload_n 1, 1), (45, .bipush 9, 2), (47, .ishr, 1), (48, .istore 5, 2), (50, .iload_n 3, 1), (51, .iconst 5, 1), (52, .imul, 1), (53, .iload 5, 2), (55, .iadd, 1), (56, .iconst 2, 1), (57, .imul, 1), (58, .iload_n 2, 1), (59, .iadd, 1), (60, .bipush 9, 2), (62, .imul, 1), (63, .istore 6, 2), (65, .iconst 0, 1), (66, .istore 7, 2), (68, .iconst 0, 1), (69, .istore 8, 2), (71, .iload 8, 2), (73, .bipush 9, 2), (75, .if_icmp .ge 110, 3), (78, .iload 8, 2), (80, .aload_n 0, 1), (81, .getfield 30, 3), (84, .getfield 55, 3), (87, .if_icmp .ge 98, 3), (90, .iload 4, 2), (92, .aload_n 0, 1), (93, .getfield 30, 3), (96, .getfield 60, 3), (99, .iload 8, 2), (101, .iaload, 1), (102, .iand, 1), (103, .invokestatic 63, 3), (106, .iconst 2, 1), (107, .imul, 1)]
def k_Stp_pass_1 : List (Nat × Jvm.ClassFile.Instr × Nat) := [(108, .iload 4, 2), (110, .iload 8, 2), (112, .ishr, 1), (113, .iconst 1, 1), (114, .iand, 1), (115, .iadd, 1), (116, .istore 9, 2), (118, .aload_n 0, 1), (119, .getfield 9, 3), (122, .iload 6, 2), (124, .iload 8, 2), (126, .iadd, 1), (127, .laload, 1), (128, .lstore 10, 2), (130, .lload 10, 2), (132, .iload 9, 2), (134, .lshr, 1), (135, .lconst 1, 1), (136, .land, 1), (137, .lconst 0, 1), (138, .lcmp, 1), (139, .ifCond .ne 16, 3), (142, .aload_n 0, 1), (143, .iload 6, 2), (145, .iload 8, 2), (147, .iadd, 1), (148, .iload 9, 2), (150, .invokevirtual 69, 3), (153, .lstore 10, 2), (155, .lload 10, 2), (157, .iload 9, 2), (159, .bipush 32, 2), (161, .iadd, 1), (162, .lshr, 1), (163, .lconst 1, 1), (164, .land, 1), (165, .lconst 0, 1), (166, .lcmp, 1), (167, .ifCond .eq 12, 3), (170, .iload 7, 2), (172, .iconst 1, 1), (173, .iload 8, 2), (175, .ishl, 1), (176, .ior, 1), (177, .istore 7, 2), (179, .iinc 8 1, 3), (182, .goto (-111), 3), (185, .iload 5, 2), (187, .iconst 4, 1), (188, .if_icmp .ge 19, 3), (191, .aload_n 0, 1), (192, .iload 7, 2), (194, .iload 5, 2), (196, .iload_n 2, 1), (197, .invokevirtual 73, 3), (200, .ifCond .eq 7, 3), (203, .iconst 1, 1), (204, .goto 4, 3), (207, .iconst 0, 1), (208, .istore 8, 2)]
def k_Stp_pass_2 : List (Nat × Jvm.ClassFile.Instr × Nat) := [(210, .iload 7, 2), (212, .iload 8, 2), (214, .ifCond .eq 7, 3), (217, .iconst 4, 1), (218, .goto 5, 3), (221, .iload 5, 2), (223, .bipush 9, 2), (225, .ishl, 1), (226, .ior, 1), (227, .ireturn, 1)]
def k_Stp_pass : List (Nat × Jvm.ClassFile.Instr × Nat) := k_Stp_pass_0 ++ (k_Stp_pass_1 ++ (k_Stp_pass_2))
def k_Mo_isRose : List (Nat × Jvm.ClassFile.Instr × Nat) := [(0, .lload_n 1, 1), (1, .lconst 0, 1), (2, .aload_n 0, 1), (3, .invokevirtual 207, 3), (6, .iconst 1, 1), (7, .isub, 1), (8, .i2l, 1), (9, .invokestatic 139, 3), (12, .ireturn, 1)]
def k_Mo_nearOf_0 : List (Nat × Jvm.ClassFile.Instr × Nat) := [(0, .iconst 0, 1), (1, .istore_n 3, 1), (2, .iconst 0, 1), (3, .istore 4, 2), (5, .iload 4, 2), (7, .aload_n 0, 1), (8, .invokevirtual 207, 3), (11, .if_icmp .ge 99, 3), (14, .iload 4, 2), (16, .aload_n 0, 1), (17, .getfield 13, 3), (20, .iconst 2, 1), (21, .iaload, 1), (22, .idiv, 1), (23, .iload_n 1, 1), (24, .aload_n 0, 1), (25, .getfield 13, 3), (28, .iconst 2, 1), (29, .iaload, 1), (30, .idiv, 1), (31, .isub, 1), (32, .istore 5, 2), (34, .iload 4, 2), (36, .aload_n 0, 1), (37, .getfield 13, 3), (40, .iconst 2, 1), (41, .iaload, 1), (42, .irem, 1), (43, .iload_n 1, 1), (44, .aload_n 0, 1), (45, .getfield 13, 3), (48, .iconst 2, 1), (49, .iaload, 1), (50, .irem, 1), (51, .isub, 1), (52, .istore 6, 2), (54, .iload_n 3, 1), (55, .iload 4, 2), (57, .iload_n 1, 1), (58, .if_icmp .eq 43, 3), (61, .iload_n 2, 1), (62, .i2l, 1), (63, .iload 4, 2), (65, .invokestatic 210, 3), (68, .ifCond .eq 33, 3), (71, .iload 5, 2), (73, .i2l, 1), (74, .ldc2_w 214, 3), (77, .lconst 1, 1), (78, .invokestatic 139, 3), (81, .ifCond .eq 20, 3), (84, .iload 6, 2), (86, .i2l, 1), (87, .ldc2_w 214, 3), (90, .lconst 1, 1), (91, .invokestatic 139, 3), (94, .ifCond .eq 7, 3), (97, .iconst 1, 1), (98, .goto 4, 3), (101, .iconst 0, 1)]
def k_Mo_nearOf_1 : List (Nat × Jvm.ClassFile.Instr × Nat) := [(102, .iadd, 1), (103, .istore_n 3, 1), (104, .iinc 4 1, 3), (107, .goto (-102), 3), (110, .iload_n 3, 1), (111, .ireturn, 1)]
def k_Mo_nearOf : List (Nat × Jvm.ClassFile.Instr × Nat) := k_Mo_nearOf_0 ++ (k_Mo_nearOf_1)
def k_Mo_turnsThen_0 : List (Nat × Jvm.ClassFile.Instr × Nat) := [(0, .aload_n 0, 1), (1, .iload_n 1, 1), (2, .iload_n 2, 1), (3, .invokevirtual 224, 3), (6, .istore 5, 2), (8, .aload_n 0, 1), (9, .getfield 13, 3), (12, .bipush 6, 2), (14, .iaload, 1), (15, .ifCond .ne 14, 3), (18, .iload 5, 2), (20, .i2l, 1), (21, .lconst 1, 1), (22, .ldc2_w 227, 3), (25, .invokestatic 139, 3), (28, .ireturn, 1), (29, .aload_n 0, 1), (30, .getfield 33, 3), (33, .iconst 0, 1), (34, .iload 4, 2), (36, .iastore, 1), (37, .aload_n 0, 1), (38, .getfield 33, 3), (41, .iconst 1, 1), (42, .iload_n 3, 1), (43, .iconst 4, 1), (44, .if_icmp .ne 8, 3), (47, .bipush 9, 2), (49, .goto 4, 3), (52, .iload_n 3, 1), (53, .iastore, 1), (54, .aload_n 0, 1), (55, .getfield 33, 3), (58, .iconst 2, 1), (59, .iload_n 1, 1), (60, .iastore, 1), (61, .aload_n 0, 1), (62, .getfield 33, 3), (65, .iconst 3, 1), (66, .aload_n 0, 1), (67, .getfield 13, 3), (70, .bipush 12, 2), (72, .iload_n 1, 1), (73, .iadd, 1), (74, .iaload, 1), (75, .iastore, 1), (76, .aload_n 0, 1), (77, .getfield 33, 3), (80, .iconst 4, 1), (81, .iload 5, 2), (83, .iastore, 1), (84, .aload_n 0, 1), (85, .getfield 33, 3), (88, .iconst 5, 1), (89, .iload_n 2, 1), (90, .iload_n 1, 1), (91, .ishr, 1), (92, .iconst 1, 1), (93, .iand, 1), (94, .iastore, 1)]
def k_Mo_turnsThen_1 : List (Nat × Jvm.ClassFile.Instr × Nat) := [(95, .aload_n 0, 1), (96, .getfield 33, 3), (99, .bipush 6, 2), (101, .aload_n 0, 1), (102, .getfield 13, 3), (105, .bipush 27, 2), (107, .iaload, 1), (108, .iastore, 1), (109, .aload_n 0, 1), (110, .iconst 0, 1), (111, .invokevirtual 229, 3), (114, .ireturn, 1)]
def k_Mo_turnsThen : List (Nat × Jvm.ClassFile.Instr × Nat) := k_Mo_turnsThen_0 ++ (k_Mo_turnsThen_1)
def k_Room_hasTenant : List (Nat × Jvm.ClassFile.Instr × Nat) := [(0, .iload_n 1, 1), (1, .ifCond .lt 20, 3), (4, .iload_n 1, 1), (5, .aload_n 0, 1), (6, .getfield 34, 3), (9, .if_icmp .ge 12, 3), (12, .iload_n 1, 1), (13, .iconst 4, 1), (14, .if_icmp .ge 7, 3), (17, .iconst 1, 1), (18, .goto 4, 3), (21, .iconst 0, 1), (22, .ireturn, 1)]
def k_Stp_isGoing_0 : List (Nat × Jvm.ClassFile.Instr × Nat) := [(0, .aload_n 0, 1), (1, .getfield 30, 3), (4, .ifnull 21, 3), (7, .aload_n 0, 1), (8, .getfield 30, 3), (11, .iload_n 2, 1), (12, .invokevirtual 94, 3), (15, .ifCond .eq 10, 3), (18, .iload_n 3, 1), (19, .invokestatic 47, 3), (22, .ifCond .ne 5, 3), (25, .iconst 0, 1), (26, .ireturn, 1), (27, .iload_n 1, 1), (28, .sipush 511, 3), (31, .iand, 1), (32, .invokestatic 63, 3), (35, .istore 4, 2), (37, .aload_n 0, 1), (38, .getfield 30, 3), (41, .getfield 97, 3), (44, .invokevirtual 84, 3), (47, .ifCond .ne 23, 3), (50, .iload 4, 2), (52, .aload_n 0, 1), (53, .getfield 30, 3), (56, .getfield 100, 3), (59, .iload_n 2, 1), (60, .iaload, 1), (61, .if_icmp .le 7, 3), (64, .iconst 1, 1), (65, .goto 4, 3), (68, .iconst 0, 1), (69, .ireturn, 1), (70, .iload 4, 2), (72, .iconst 2, 1), (73, .imul, 1), (74, .aload_n 0, 1), (75, .getfield 30, 3), (78, .getfield 103, 3), (81, .ifCond .eq 18, 3), (84, .iload_n 1, 1), (85, .aload_n 0, 1), (86, .getfield 30, 3), (89, .getfield 103, 3), (92, .if_icmp .ne 7, 3), (95, .iconst 1, 1), (96, .goto 4, 3), (99, .iconst 0, 1), (100, .iadd, 1), (101, .istore 5, 2), (103, .iload_n 2, 1), (104, .iconst 2, 1), (105, .imul, 1), (106, .iload_n 3, 1), (107, .iadd, 1), (108, .istore 6, 2), (110, .aload_n 0, 1), (111, .getfield 15, 3), (114, .iload 6, 2)]
def k_Stp_isGoing_1 : List (Nat × Jvm.ClassFile.Instr × Nat) := [(116, .laload, 1), (117, .iload 5, 2), (119, .lshr, 1), (120, .lconst 1, 1), (121, .land, 1), (122, .lconst 0, 1), (123, .lcmp, 1), (124, .ifCond .ne 96, 3), (127, .aload_n 0, 1), (128, .getfield 20, 3), (131, .iconst 0, 1), (132, .iload_n 3, 1), (133, .iastore, 1), (134, .aload_n 0, 1), (135, .getfield 20, 3), (138, .iconst 1, 1), (139, .iload_n 2, 1), (140, .iastore, 1), (141, .aload_n 0, 1), (142, .getfield 20, 3), (145, .bipush 7, 2), (147, .iload 4, 2), (149, .iastore, 1), (150, .aload_n 0, 1), (151, .getfield 20, 3), (154, .bipush 8, 2), (156, .iload 5, 2), (158, .iconst 2, 1), (159, .irem, 1), (160, .iastore, 1), (161, .aload_n 0, 1), (162, .getfield 20, 3), (165, .bipush 9, 2), (167, .aload_n 0, 1), (168, .getfield 30, 3), (171, .getfield 100, 3), (174, .iload_n 2, 1), (175, .iaload, 1), (176, .iastore, 1), (177, .aload_n 0, 1), (178, .getfield 15, 3), (181, .iload 6, 2), (183, .dup2, 1), (184, .laload, 1), (185, .lconst 1, 1), (186, .iload 5, 2), (188, .lshl, 1), (189, .aload_n 0, 1), (190, .getfield 30, 3), (193, .getfield 97, 3), (196, .aload_n 0, 1), (197, .getfield 20, 3), (200, .invokevirtual 90, 3), (203, .ifCond .eq 13, 3), (206, .lconst 1, 1), (207, .iload 5, 2), (209, .bipush 32, 2), (211, .iadd, 1), (212, .lshl, 1), (213, .goto 4, 3)]
def k_Stp_isGoing_2 : List (Nat × Jvm.ClassFile.Instr × Nat) := [(216, .lconst 0, 1), (217, .lor, 1), (218, .lor, 1), (219, .lastore, 1), (220, .aload_n 0, 1), (221, .getfield 15, 3), (224, .iload 6, 2), (226, .laload, 1), (227, .iload 5, 2), (229, .bipush 32, 2), (231, .iadd, 1), (232, .lshr, 1), (233, .lconst 1, 1), (234, .land, 1), (235, .lconst 0, 1), (236, .lcmp, 1), (237, .ifCond .eq 7, 3), (240, .iconst 1, 1), (241, .goto 4, 3), (244, .iconst 0, 1), (245, .ireturn, 1)]
def k_Stp_isGoing : List (Nat × Jvm.ClassFile.Instr × Nat) := k_Stp_isGoing_0 ++ (k_Stp_isGoing_1 ++ (k_Stp_isGoing_2))
def k_Mo_isTenant : List (Nat × Jvm.ClassFile.Instr × Nat) := [(0, .lload_n 1, 1), (1, .lconst 0, 1), (2, .aload_n 0, 1), (3, .getfield 13, 3), (6, .iconst 3, 1), (7, .iaload, 1), (8, .iconst 1, 1), (9, .isub, 1), (10, .i2l, 1), (11, .invokestatic 139, 3), (14, .ireturn, 1)]
def k_Mo_goesBy_0 : List (Nat × Jvm.ClassFile.Instr × Nat) := [(0, .aload_n 0, 1), (1, .getfield 13, 3), (4, .bipush 7, 2), (6, .iaload, 1), (7, .ifCond .ne 25, 3), (10, .iload_n 2, 1), (11, .invokestatic 232, 3), (14, .aload_n 0, 1), (15, .getfield 13, 3), (18, .bipush 21, 2), (20, .iload_n 1, 1), (21, .iadd, 1), (22, .iaload, 1), (23, .if_icmp .le 7, 3), (26, .iconst 1, 1), (27, .goto 4, 3), (30, .iconst 0, 1), (31, .ireturn, 1), (32, .aload_n 0, 1), (33, .getfield 33, 3), (36, .iconst 0, 1), (37, .iload_n 3, 1), (38, .iastore, 1), (39, .aload_n 0, 1), (40, .getfield 33, 3), (43, .iconst 1, 1), (44, .iload_n 1, 1), (45, .iastore, 1), (46, .aload_n 0, 1), (47, .getfield 33, 3), (50, .bipush 7, 2), (52, .iload_n 2, 1), (53, .invokestatic 232, 3), (56, .iastore, 1), (57, .aload_n 0, 1), (58, .getfield 33, 3), (61, .bipush 8, 2), (63, .iload_n 2, 1), (64, .ifCond .eq 17, 3), (67, .iload_n 2, 1), (68, .aload_n 0, 1), (69, .getfield 13, 3), (72, .iconst 4, 1), (73, .iaload, 1), (74, .if_icmp .ne 7, 3), (77, .iconst 1, 1), (78, .goto 4, 3), (81, .iconst 0, 1), (82, .iastore, 1), (83, .aload_n 0, 1), (84, .getfield 33, 3), (87, .bipush 9, 2), (89, .aload_n 0, 1), (90, .getfield 13, 3), (93, .bipush 21, 2), (95, .iload_n 1, 1), (96, .iadd, 1), (97, .iaload, 1), (98, .iastore, 1), (99, .aload_n 0, 1)]
def k_Mo_goesBy_1 : List (Nat × Jvm.ClassFile.Instr × Nat) := [(100, .iconst 1, 1), (101, .invokevirtual 229, 3), (104, .ireturn, 1)]
def k_Mo_goesBy : List (Nat × Jvm.ClassFile.Instr × Nat) := k_Mo_goesBy_0 ++ (k_Mo_goesBy_1)
def k_RW_doneAlone : List (Nat × Jvm.ClassFile.Instr × Nat) := [(0, .iload_n 1, 1), (1, .ifCond .lt 9, 3), (4, .iload_n 1, 1), (5, .bipush 9, 2), (7, .if_icmp .le 5, 3), (10, .iconst 1, 1), (11, .ireturn, 1), (12, .aload_n 0, 1), (13, .getfield 47, 3), (16, .aload_n 0, 1), (17, .getfield 43, 3), (20, .invokevirtual 207, 3), (23, .aload_n 0, 1), (24, .aload_n 0, 1), (25, .getfield 43, 3), (28, .iload_n 2, 1), (29, .iload_n 1, 1), (30, .iadd, 1), (31, .i2l, 1), (32, .invokevirtual 219, 3), (35, .istore_n 3, 1), (36, .iload_n 3, 1), (37, .ifCond .ne 14, 3), (40, .aload_n 0, 1), (41, .getfield 56, 3), (44, .aload_n 0, 1), (45, .getfield 47, 3), (48, .invokevirtual 185, 3), (51, .iload_n 3, 1), (52, .ireturn, 1)]
def k_Mo_isBlind : List (Nat × Jvm.ClassFile.Instr × Nat) := [(0, .lload_n 0, 1), (1, .lconst 0, 1), (2, .lconst 1, 1), (3, .invokestatic 139, 3), (6, .ireturn, 1)]
def k_Mo_keeps : List (Nat × Jvm.ClassFile.Instr × Nat) := [(0, .iconst 0, 1), (1, .istore_n 1, 1), (2, .iload_n 1, 1), (3, .iconst 4, 1), (4, .if_icmp .ge 24, 3), (7, .aload_n 0, 1), (8, .getfield 36, 3), (11, .iload_n 1, 1), (12, .aload_n 0, 1), (13, .getfield 13, 3), (16, .bipush 25, 2), (18, .iload_n 1, 1), (19, .iadd, 1), (20, .iaload, 1), (21, .iastore, 1), (22, .iinc 1 1, 3), (25, .goto (-23), 3), (28, .return_, 1)]
def k_Mo_goesNight : List (Nat × Jvm.ClassFile.Instr × Nat) := [(0, .aload_n 0, 1), (1, .aload_n 0, 1), (2, .invokevirtual 256, 3), (5, .iload_n 1, 1), (6, .invokevirtual 259, 3), (9, .istore_n 2, 1), (10, .aload_n 0, 1), (11, .getfield 13, 3), (14, .bipush 25, 2), (16, .iload_n 2, 1), (17, .iconst 5, 1), (18, .idiv, 1), (19, .iastore, 1), (20, .aload_n 0, 1), (21, .getfield 13, 3), (24, .bipush 26, 2), (26, .iload_n 2, 1), (27, .iconst 5, 1), (28, .irem, 1), (29, .iastore, 1), (30, .aload_n 0, 1), (31, .getfield 13, 3), (34, .bipush 28, 2), (36, .dup2, 1), (37, .iaload, 1), (38, .iconst 1, 1), (39, .iadd, 1), (40, .iastore, 1), (41, .return_, 1)]
def k_Mo_notes_0 : List (Nat × Jvm.ClassFile.Instr × Nat) := [(0, .aload_n 0, 1), (1, .getfield 13, 3), (4, .bipush 29, 2), (6, .iaload, 1), (7, .bipush 10, 2), (9, .if_icmp .ne 46, 3), (12, .iconst 0, 1), (13, .istore_n 1, 1), (14, .iload_n 1, 1), (15, .bipush 36, 2), (17, .if_icmp .ge 27, 3), (20, .aload_n 0, 1), (21, .getfield 13, 3), (24, .bipush 30, 2), (26, .iload_n 1, 1), (27, .iadd, 1), (28, .aload_n 0, 1), (29, .getfield 13, 3), (32, .bipush 34, 2), (34, .iload_n 1, 1), (35, .iadd, 1), (36, .iaload, 1), (37, .iastore, 1), (38, .iinc 1 1, 3), (41, .goto (-27), 3), (44, .aload_n 0, 1), (45, .getfield 13, 3), (48, .bipush 29, 2), (50, .dup2, 1), (51, .iaload, 1), (52, .iconst 1, 1), (53, .isub, 1), (54, .iastore, 1), (55, .iconst 0, 1), (56, .istore_n 1, 1), (57, .iload_n 1, 1), (58, .iconst 4, 1), (59, .if_icmp .ge 34, 3), (62, .aload_n 0, 1), (63, .getfield 13, 3), (66, .bipush 30, 2), (68, .iconst 4, 1), (69, .aload_n 0, 1), (70, .getfield 13, 3), (73, .bipush 29, 2), (75, .iaload, 1), (76, .imul, 1), (77, .iadd, 1), (78, .iload_n 1, 1), (79, .iadd, 1), (80, .aload_n 0, 1), (81, .getfield 36, 3), (84, .iload_n 1, 1), (85, .iaload, 1), (86, .iastore, 1), (87, .iinc 1 1, 3), (90, .goto (-33), 3), (93, .aload_n 0, 1), (94, .getfield 13, 3), (97, .bipush 29, 2)]
def k_Mo_notes_1 : List (Nat × Jvm.ClassFile.Instr × Nat) := [(99, .dup2, 1), (100, .iaload, 1), (101, .iconst 1, 1), (102, .iadd, 1), (103, .iastore, 1), (104, .return_, 1)]
def k_Mo_notes : List (Nat × Jvm.ClassFile.Instr × Nat) := k_Mo_notes_0 ++ (k_Mo_notes_1)
def k_RW_isBlind : List (Nat × Jvm.ClassFile.Instr × Nat) := [(0, .iload_n 0, 1), (1, .ifCond .eq 8, 3), (4, .iload_n 0, 1), (5, .iconst 1, 1), (6, .if_icmp .ne 7, 3), (9, .iconst 1, 1), (10, .goto 4, 3), (13, .iconst 0, 1), (14, .ireturn, 1)]
def k_Past_keep : List (Nat × Jvm.ClassFile.Instr × Nat) := [(0, .aload_n 0, 1), (1, .getfield 11, 3), (4, .aload_n 0, 1), (5, .getfield 22, 3), (8, .aaload, 1), (9, .aload_n 1, 1), (10, .invokevirtual 25, 3), (13, .aload_n 0, 1), (14, .aload_n 0, 1), (15, .getfield 22, 3), (18, .iconst 1, 1), (19, .iadd, 1), (20, .bipush 10, 2), (22, .irem, 1), (23, .putfield 22, 3), (26, .aload_n 0, 1), (27, .aload_n 0, 1), (28, .getfield 18, 3), (31, .iconst 1, 1), (32, .iadd, 1), (33, .bipush 10, 2), (35, .invokestatic 29, 3), (38, .putfield 18, 3), (41, .return_, 1)]
def k_RW_passNight : List (Nat × Jvm.ClassFile.Instr × Nat) := [(0, .aload_n 1, 1), (1, .aload_n 0, 1), (2, .getfield 69, 3), (5, .aload_n 1, 1), (6, .invokevirtual 154, 3), (9, .iload_n 2, 1), (10, .aload_n 1, 1), (11, .getfield 158, 3), (14, .invokevirtual 161, 3), (17, .invokevirtual 236, 3), (20, .aload_n 1, 1), (21, .dup, 1), (22, .getfield 239, 3), (25, .iconst 1, 1), (26, .iadd, 1), (27, .putfield 239, 3), (30, .return_, 1)]
def k_Mo_whyLet : List (Nat × Jvm.ClassFile.Instr × Nat) := [(0, .aload_n 0, 1), (1, .lload_n 1, 1), (2, .invokevirtual 253, 3), (5, .ifCond .ne 7, 3), (8, .iconst 1, 1), (9, .goto 19, 3), (12, .aload_n 0, 1), (13, .getfield 13, 3), (16, .bipush 26, 2), (18, .iaload, 1), (19, .iconst 4, 1), (20, .if_icmp .eq 7, 3), (23, .iconst 2, 1), (24, .goto 4, 3), (27, .iconst 0, 1), (28, .ireturn, 1)]
def k_Mo_bitsOf : List (Nat × Jvm.ClassFile.Instr × Nat) := [(0, .iconst 0, 1), (1, .istore_n 1, 1), (2, .iconst 0, 1), (3, .istore_n 2, 1), (4, .iload_n 2, 1), (5, .bipush 10, 2), (7, .if_icmp .ge 17, 3), (10, .iload_n 1, 1), (11, .iload_n 0, 1), (12, .iload_n 2, 1), (13, .ishr, 1), (14, .iconst 1, 1), (15, .iand, 1), (16, .iadd, 1), (17, .istore_n 1, 1), (18, .iinc 2 1, 3), (21, .goto (-17), 3), (24, .iload_n 1, 1), (25, .ireturn, 1)]
def k_Past_bringBack : List (Nat × Jvm.ClassFile.Instr × Nat) := [(0, .aload_n 0, 1), (1, .aload_n 0, 1), (2, .getfield 22, 3), (5, .iload_n 1, 1), (6, .isub, 1), (7, .bipush 10, 2), (9, .invokestatic 35, 3), (12, .putfield 22, 3), (15, .aload_n 0, 1), (16, .dup, 1), (17, .getfield 18, 3), (20, .iload_n 1, 1), (21, .isub, 1), (22, .putfield 18, 3), (25, .aload_n 2, 1), (26, .aload_n 0, 1), (27, .getfield 11, 3), (30, .aload_n 0, 1), (31, .getfield 22, 3), (34, .aaload, 1), (35, .invokevirtual 25, 3), (38, .return_, 1)]
def k_RW_isTray : List (Nat × Jvm.ClassFile.Instr × Nat) := [(0, .iload_n 0, 1), (1, .ifCond .lt 12, 3), (4, .iload_n 0, 1), (5, .iconst 4, 1), (6, .if_icmp .ge 7, 3), (9, .iconst 1, 1), (10, .goto 4, 3), (13, .iconst 0, 1), (14, .ireturn, 1)]
def k_Mom_copy : List (Nat × Jvm.ClassFile.Instr × Nat) := [(0, .aload_n 0, 1), (1, .aload_n 1, 1), (2, .getfield 20, 3), (5, .putfield 20, 3), (8, .aload_n 0, 1), (9, .aload_n 1, 1), (10, .getfield 9, 3), (13, .putfield 9, 3), (16, .aload_n 0, 1), (17, .aload_n 1, 1), (18, .getfield 25, 3), (21, .putfield 25, 3), (24, .aload_n 0, 1), (25, .aload_n 1, 1), (26, .getfield 26, 3), (29, .putfield 26, 3), (32, .return_, 1)]
def k_RW_doTray : List (Nat × Jvm.ClassFile.Instr × Nat) := [(0, .iconst 0, 1), (1, .istore_n 3, 1), (2, .iload_n 3, 1), (3, .aload_n 1, 1), (4, .getfield 214, 3), (7, .if_icmp .ge 22, 3), (10, .aload_n 0, 1), (11, .aload_n 2, 1), (12, .aload_n 1, 1), (13, .iload_n 3, 1), (14, .invokevirtual 215, 3), (17, .invokevirtual 219, 3), (20, .ifCond .ne 9, 3), (23, .iinc 3 1, 3), (26, .goto (-24), 3), (29, .iload_n 3, 1), (30, .ireturn, 1)]
def k_Tray_at : List (Nat × Jvm.ClassFile.Instr × Nat) := [(0, .iload_n 1, 1), (1, .ifCond .lt 11, 3), (4, .iload_n 1, 1), (5, .aload_n 0, 1), (6, .getfield 32, 3), (9, .if_icmp .lt 9, 3), (12, .ldc2_w 41, 3), (15, .goto 9, 3), (18, .aload_n 0, 1), (19, .getfield 9, 3), (22, .iload_n 1, 1), (23, .laload, 1), (24, .lreturn, 1)]
def k_RW_doDeed : List (Nat × Jvm.ClassFile.Instr × Nat) := [(0, .lload_n 2, 1), (1, .lconst 0, 1), (2, .lcmp, 1), (3, .ifCond .lt 11, 3), (6, .lload_n 2, 1), (7, .ldc2_w 230, 3), (10, .lcmp, 1), (11, .ifCond .lt 5, 3), (14, .iconst 1, 1), (15, .ireturn, 1), (16, .lload_n 2, 1), (17, .l2i, 1), (18, .bipush 10, 2), (20, .irem, 1), (21, .istore 4, 2), (23, .lload_n 2, 1), (24, .l2i, 1), (25, .bipush 10, 2), (27, .idiv, 1), (28, .bipush 10, 2), (30, .imul, 1), (31, .lookupswitch 78 #[(10, 33), (20, 41), (30, 70)], 33), (64, .aload_n 0, 1), (65, .aload_n 1, 1), (66, .iload 4, 2), (68, .invokevirtual 232, 3), (71, .ireturn, 1), (72, .aload_n 0, 1), (73, .getfield 93, 3), (76, .iload 4, 2), (78, .invokevirtual 135, 3), (81, .ifCond .ne 5, 3), (84, .iconst 1, 1), (85, .ireturn, 1), (86, .aload_n 1, 1), (87, .dup, 1), (88, .getfield 142, 3), (91, .iconst 1, 1), (92, .iload 4, 2), (94, .ishl, 1), (95, .ixor, 1), (96, .putfield 142, 3), (99, .iconst 0, 1), (100, .ireturn, 1), (101, .aload_n 1, 1), (102, .iload 4, 2), (104, .putfield 158, 3), (107, .iconst 0, 1), (108, .ireturn, 1), (109, .iload 4, 2), (111, .invokestatic 182, 3), (114, .ifCond .ne 5, 3), (117, .iconst 1, 1), (118, .ireturn, 1), (119, .aload_n 0, 1), (120, .aload_n 1, 1), (121, .iload 4, 2), (123, .invokevirtual 189, 3), (126, .iconst 0, 1), (127, .ireturn, 1)]
def k_Mo_noTray : List (Nat × Jvm.ClassFile.Instr × Nat) := [(0, .iload_n 1, 1), (1, .i2l, 1), (2, .lconst 0, 1), (3, .ldc2_w 227, 3), (6, .invokestatic 139, 3), (9, .ifCond .ne 8, 3), (12, .bipush (-2), 2), (14, .goto 19, 3), (17, .aload_n 0, 1), (18, .getfield 63, 3), (21, .iload_n 1, 1), (22, .iaload, 1), (23, .iconst (-1), 1), (24, .if_icmp .ne 8, 3), (27, .bipush (-6), 2), (29, .goto 4, 3), (32, .iconst 0, 1), (33, .ireturn, 1)]
def k_Mo_tells : List (Nat × Jvm.ClassFile.Instr × Nat) := [(0, .aload_n 0, 1), (1, .iconst 0, 1), (2, .putfield 294, 3), (5, .iconst 0, 1), (6, .istore_n 2, 1), (7, .iload_n 2, 1), (8, .aload_n 0, 1), (9, .getfield 66, 3), (12, .iload_n 1, 1), (13, .iaload, 1), (14, .if_icmp .ge 53, 3), (17, .aload_n 0, 1), (18, .aload_n 0, 1), (19, .aload_n 0, 1), (20, .getfield 69, 3), (23, .bipush 40, 2), (25, .iload_n 1, 1), (26, .imul, 1), (27, .iload_n 2, 1), (28, .iadd, 1), (29, .laload, 1), (30, .invokevirtual 297, 3), (33, .putfield 294, 3), (36, .aload_n 0, 1), (37, .getfield 294, 3), (40, .ifCond .eq 5, 3), (43, .iload_n 2, 1), (44, .ireturn, 1), (45, .aload_n 0, 1), (46, .aload_n 0, 1), (47, .getfield 69, 3), (50, .bipush 40, 2), (52, .iload_n 1, 1), (53, .imul, 1), (54, .iload_n 2, 1), (55, .iadd, 1), (56, .laload, 1), (57, .l2i, 1), (58, .invokevirtual 300, 3), (61, .iinc 2 1, 3), (64, .goto (-57), 3), (67, .aload_n 0, 1), (68, .getfield 66, 3), (71, .iload_n 1, 1), (72, .iaload, 1), (73, .ireturn, 1)]
def k_Mo_isAgain : List (Nat × Jvm.ClassFile.Instr × Nat) := [(0, .iconst 0, 1), (1, .istore_n 1, 1), (2, .iload_n 1, 1), (3, .iconst 4, 1), (4, .if_icmp .ge 24, 3), (7, .aload_n 0, 1), (8, .getfield 13, 3), (11, .bipush 25, 2), (13, .iload_n 1, 1), (14, .iadd, 1), (15, .aload_n 0, 1), (16, .getfield 36, 3), (19, .iload_n 1, 1), (20, .iaload, 1), (21, .iastore, 1), (22, .iinc 1 1, 3), (25, .goto (-23), 3), (28, .return_, 1)]
def k_Mo_toldWho : List (Nat × Jvm.ClassFile.Instr × Nat) := [(0, .iload_n 0, 1), (1, .iconst 4, 1), (2, .if_icmp .ne 7, 3), (5, .iconst (-1), 1), (6, .goto 4, 3), (9, .iload_n 0, 1), (10, .ireturn, 1)]
def k_RW_drawn : List (Nat × Jvm.ClassFile.Instr × Nat) := [(0, .ldc 229, 2), (2, .iload_n 0, 1), (3, .imul, 1), (4, .sipush 12345, 3), (7, .iadd, 1), (8, .ireturn, 1)]
def k_RW_seasonDeed : List (Nat × Jvm.ClassFile.Instr × Nat) := [(0, .iload_n 0, 1), (1, .tableswitch 50 3 5 #[27, 34, 42], 27), (28, .bipush 10, 2), (30, .iload_n 1, 1), (31, .iconst 4, 1), (32, .irem, 1), (33, .iadd, 1), (34, .ireturn, 1), (35, .bipush 20, 2), (37, .iload_n 1, 1), (38, .bipush 9, 2), (40, .irem, 1), (41, .iadd, 1), (42, .ireturn, 1), (43, .bipush 30, 2), (45, .iload_n 1, 1), (46, .bipush 10, 2), (48, .irem, 1), (49, .iadd, 1), (50, .ireturn, 1), (51, .iload_n 1, 1), (52, .iconst 2, 1), (53, .irem, 1), (54, .ireturn, 1)]
def k_Mo_drawn : List (Nat × Jvm.ClassFile.Instr × Nat) := [(0, .aload_n 0, 1), (1, .bipush 6, 2), (3, .invokevirtual 319, 3), (6, .istore_n 1, 1), (7, .iload_n 1, 1), (8, .iconst 3, 1), (9, .if_icmp .ge 11, 3), (12, .aload_n 0, 1), (13, .iconst 2, 1), (14, .invokevirtual 319, 3), (17, .goto 45, 3), (20, .iload_n 1, 1), (21, .iconst 3, 1), (22, .if_icmp .ne 14, 3), (25, .bipush 10, 2), (27, .aload_n 0, 1), (28, .iconst 4, 1), (29, .invokevirtual 319, 3), (32, .iadd, 1), (33, .goto 29, 3), (36, .iload_n 1, 1), (37, .iconst 4, 1), (38, .if_icmp .ne 15, 3), (41, .bipush 20, 2), (43, .aload_n 0, 1), (44, .bipush 9, 2), (46, .invokevirtual 319, 3), (49, .iadd, 1), (50, .goto 12, 3), (53, .bipush 30, 2), (55, .aload_n 0, 1), (56, .bipush 10, 2), (58, .invokevirtual 319, 3), (61, .iadd, 1), (62, .ireturn, 1)]
def k_Mo_whyNot : List (Nat × Jvm.ClassFile.Instr × Nat) := [(0, .lload_n 1, 1), (1, .invokestatic 262, 3), (4, .ifCond .ne 16, 3), (7, .lload_n 1, 1), (8, .ldc2_w 284, 3), (11, .ldc2_w 286, 3), (14, .invokestatic 139, 3), (17, .ifCond .eq 5, 3), (20, .iconst 0, 1), (21, .ireturn, 1), (22, .lload_n 1, 1), (23, .ldc2_w 282, 3), (26, .ldc2_w 288, 3), (29, .invokestatic 139, 3), (32, .ifCond .eq 13, 3), (35, .aload_n 0, 1), (36, .lload_n 1, 1), (37, .ldc2_w 282, 3), (40, .lsub, 1), (41, .invokevirtual 276, 3), (44, .ireturn, 1), (45, .lload_n 1, 1), (46, .ldc2_w 290, 3), (49, .ldc2_w 292, 3), (52, .invokestatic 139, 3), (55, .ifCond .eq 19, 3), (58, .aload_n 0, 1), (59, .lload_n 1, 1), (60, .ldc2_w 290, 3), (63, .lsub, 1), (64, .invokevirtual 249, 3), (67, .ifCond .eq 7, 3), (70, .iconst 0, 1), (71, .goto 4, 3), (74, .iconst 1, 1), (75, .ireturn, 1)]
def k_Mo_does : List (Nat × Jvm.ClassFile.Instr × Nat) := [(0, .iload_n 1, 1), (1, .iconst 2, 1), (2, .if_icmp .ge 11, 3), (5, .aload_n 0, 1), (6, .iload_n 1, 1), (7, .invokevirtual 268, 3), (10, .goto 59, 3), (13, .iload_n 1, 1), (14, .bipush 20, 2), (16, .if_icmp .ge 17, 3), (19, .aload_n 0, 1), (20, .getfield 13, 3), (23, .bipush 26, 2), (25, .iload_n 1, 1), (26, .bipush 10, 2), (28, .isub, 1), (29, .iastore, 1), (30, .goto 39, 3), (33, .iload_n 1, 1), (34, .bipush 30, 2), (36, .if_icmp .ge 22, 3), (39, .aload_n 0, 1), (40, .getfield 13, 3), (43, .bipush 25, 2), (45, .dup2, 1), (46, .iaload, 1), (47, .iconst 1, 1), (48, .iload_n 1, 1), (49, .bipush 20, 2), (51, .isub, 1), (52, .ishl, 1), (53, .ixor, 1), (54, .iastore, 1), (55, .goto 14, 3), (58, .aload_n 0, 1), (59, .getfield 13, 3), (62, .bipush 27, 2), (64, .iload_n 1, 1), (65, .bipush 30, 2), (67, .isub, 1), (68, .iastore, 1), (69, .return_, 1)]
def k_RW_here : List (Nat × Jvm.ClassFile.Instr × Nat) := [(0, .aload_n 0, 1), (1, .getfield 69, 3), (4, .aload_n 0, 1), (5, .getfield 43, 3), (8, .getfield 158, 3), (11, .invokevirtual 260, 3), (14, .aload_n 0, 1), (15, .getfield 43, 3), (18, .invokevirtual 154, 3), (21, .ireturn, 1)]
def k_Rch_walk : List (Nat × Jvm.ClassFile.Instr × Nat) := [(0, .aload_n 0, 1), (1, .iconst 0, 1), (2, .putfield 30, 3), (5, .iload_n 2, 1), (6, .istore 4, 2), (8, .iconst 0, 1), (9, .istore 5, 2), (11, .iload 5, 2), (13, .sipush 1024, 3), (16, .if_icmp .ge 36, 3), (19, .aload_n 0, 1), (20, .iload 4, 2), (22, .invokevirtual 47, 3), (25, .iconst (-1), 1), (26, .if_icmp .ne 26, 3), (29, .aload_n 0, 1), (30, .iload 4, 2), (32, .iconst (-1), 1), (33, .invokevirtual 34, 3), (36, .pop, 1), (37, .aload_n 1, 1), (38, .iload 4, 2), (40, .iload_n 3, 1), (41, .invokevirtual 42, 3), (44, .istore 4, 2), (46, .iinc 5 1, 3), (49, .goto (-38), 3), (52, .iconst 0, 1), (53, .aload_n 0, 1), (54, .iload 4, 2), (56, .invokevirtual 47, 3), (59, .invokestatic 54, 3), (62, .ireturn, 1)]
def k_Rch_placeBehind : List (Nat × Jvm.ClassFile.Instr × Nat) := [(0, .aload_n 0, 1), (1, .getfield 30, 3), (4, .iload_n 2, 1), (5, .isub, 1), (6, .istore_n 3, 1), (7, .iload_n 1, 1), (8, .aload_n 0, 1), (9, .getfield 30, 3), (12, .if_icmp .lt 8, 3), (15, .iload_n 3, 1), (16, .iconst 1, 1), (17, .if_icmp .ge 7, 3), (20, .iload_n 1, 1), (21, .goto 10, 3), (24, .iload_n 2, 1), (25, .iload_n 1, 1), (26, .iload_n 2, 1), (27, .isub, 1), (28, .iload_n 3, 1), (29, .irem, 1), (30, .iadd, 1), (31, .istore 4, 2), (33, .iload 4, 2), (35, .ifCond .lt 12, 3), (38, .iload 4, 2), (40, .aload_n 0, 1), (41, .getfield 30, 3), (44, .if_icmp .lt 7, 3), (47, .iconst 0, 1), (48, .goto 10, 3), (51, .aload_n 0, 1), (52, .getfield 9, 3), (55, .iload 4, 2), (57, .iaload, 1), (58, .ireturn, 1)]
def k_Mo_laysRound : List (Nat × Jvm.ClassFile.Instr × Nat) := [(0, .iconst 0, 1), (1, .istore_n 2, 1), (2, .iload_n 2, 1), (3, .sipush 2560, 3), (6, .if_icmp .ge 16, 3), (9, .aload_n 0, 1), (10, .getfield 42, 3), (13, .iload_n 2, 1), (14, .iconst (-1), 1), (15, .iastore, 1), (16, .iinc 2 1, 3), (19, .goto (-17), 3), (22, .aload_n 0, 1), (23, .invokevirtual 256, 3), (26, .istore_n 2, 1), (27, .iconst 0, 1), (28, .istore_n 3, 1), (29, .aload_n 0, 1), (30, .getfield 42, 3), (33, .iload_n 2, 1), (34, .iaload, 1), (35, .iconst (-1), 1), (36, .if_icmp .ne 30, 3), (39, .aload_n 0, 1), (40, .getfield 42, 3), (43, .iload_n 2, 1), (44, .iload_n 3, 1), (45, .iastore, 1), (46, .aload_n 0, 1), (47, .getfield 39, 3), (50, .iload_n 3, 1), (51, .iload_n 2, 1), (52, .iastore, 1), (53, .iinc 3 1, 3), (56, .aload_n 0, 1), (57, .iload_n 2, 1), (58, .iload_n 1, 1), (59, .invokevirtual 259, 3), (62, .istore_n 2, 1), (63, .goto (-34), 3), (66, .aload_n 0, 1), (67, .aload_n 0, 1), (68, .getfield 42, 3), (71, .iload_n 2, 1), (72, .iaload, 1), (73, .putfield 327, 3), (76, .aload_n 0, 1), (77, .iload_n 3, 1), (78, .aload_n 0, 1), (79, .getfield 327, 3), (82, .isub, 1), (83, .putfield 330, 3), (86, .return_, 1)]
def k_Rch_mostTurned : List (Nat × Jvm.ClassFile.Instr × Nat) := [(0, .iconst 0, 1), (1, .istore_n 2, 1), (2, .iconst 0, 1), (3, .iload_n 1, 1), (4, .invokestatic 54, 3), (7, .istore_n 3, 1), (8, .iload_n 3, 1), (9, .aload_n 0, 1), (10, .getfield 30, 3), (13, .if_icmp .ge 27, 3), (16, .iload_n 2, 1), (17, .aload_n 0, 1), (18, .getfield 9, 3), (21, .iload_n 3, 1), (22, .iaload, 1), (23, .sipush 511, 3), (26, .iand, 1), (27, .invokestatic 59, 3), (30, .invokestatic 54, 3), (33, .istore_n 2, 1), (34, .iinc 3 1, 3), (37, .goto (-29), 3), (40, .iload_n 2, 1), (41, .ireturn, 1)]
def k_Rch_firstEmpty : List (Nat × Jvm.ClassFile.Instr × Nat) := [(0, .iconst 0, 1), (1, .istore_n 1, 1), (2, .iload_n 1, 1), (3, .aload_n 0, 1), (4, .getfield 30, 3), (7, .if_icmp .ge 24, 3), (10, .aload_n 0, 1), (11, .getfield 9, 3), (14, .iload_n 1, 1), (15, .iaload, 1), (16, .bipush 9, 2), (18, .ishr, 1), (19, .iconst 4, 1), (20, .if_icmp .ne 5, 3), (23, .iload_n 1, 1), (24, .ireturn, 1), (25, .iinc 1 1, 3), (28, .goto (-26), 3), (31, .iconst (-1), 1), (32, .ireturn, 1)]
def k_Rch_explore_0 : List (Nat × Jvm.ClassFile.Instr × Nat) := [(0, .aload_n 0, 1), (1, .iconst 0, 1), (2, .putfield 30, 3), (5, .aload_n 0, 1), (6, .iload_n 2, 1), (7, .iconst (-1), 1), (8, .invokevirtual 34, 3), (11, .pop, 1), (12, .iload_n 2, 1), (13, .iload_n 3, 1), (14, .invokestatic 38, 3), (17, .ifCond .eq 5, 3), (20, .iconst 0, 1), (21, .ireturn, 1), (22, .iconst 0, 1), (23, .istore 4, 2), (25, .iload 4, 2), (27, .iconst 2, 1), (28, .aload_n 0, 1), (29, .getfield 30, 3), (32, .imul, 1), (33, .if_icmp .ge 105, 3), (36, .iload 4, 2), (38, .aload_n 0, 1), (39, .getfield 15, 3), (42, .arraylength, 1), (43, .if_icmp .ge 95, 3), (46, .aload_n 0, 1), (47, .getfield 9, 3), (50, .iload 4, 2), (52, .iconst 2, 1), (53, .idiv, 1), (54, .iaload, 1), (55, .istore 5, 2), (57, .iload_n 3, 1), (58, .bipush (-3), 2), (60, .if_icmp .ne 15, 3), (63, .iload 5, 2), (65, .bipush 9, 2), (67, .ishr, 1), (68, .iconst 4, 1), (69, .if_icmp .ne 6, 3), (72, .goto 60, 3), (75, .aload_n 1, 1), (76, .iload 5, 2), (78, .iload 4, 2), (80, .iconst 2, 1), (81, .irem, 1), (82, .invokevirtual 42, 3), (85, .istore 6, 2), (87, .aload_n 0, 1), (88, .iload 6, 2), (90, .invokevirtual 47, 3), (93, .istore 7, 2), (95, .iload 7, 2), (97, .iconst (-1), 1), (98, .if_icmp .ne 25, 3), (101, .aload_n 0, 1), (102, .iload 6, 2), (104, .iload 4, 2)]
def k_Rch_explore_1 : List (Nat × Jvm.ClassFile.Instr × Nat) := [(106, .invokevirtual 34, 3), (109, .istore 7, 2), (111, .iload 6, 2), (113, .iload_n 3, 1), (114, .invokestatic 38, 3), (117, .ifCond .eq 6, 3), (120, .iload 7, 2), (122, .ireturn, 1), (123, .aload_n 0, 1), (124, .getfield 15, 3), (127, .iload 4, 2), (129, .iload 7, 2), (131, .iastore, 1), (132, .iinc 4 1, 3), (135, .goto (-110), 3), (138, .iconst (-1), 1), (139, .ireturn, 1)]
def k_Rch_explore : List (Nat × Jvm.ClassFile.Instr × Nat) := k_Rch_explore_0 ++ (k_Rch_explore_1)
def k_Con_settle_0 : List (Nat × Jvm.ClassFile.Instr × Nat) := [(0, .aload_n 0, 1), (1, .aload_n 1, 1), (2, .iload_n 2, 1), (3, .invokevirtual 27, 3), (6, .iconst 0, 1), (7, .istore_n 3, 1), (8, .iload_n 3, 1), (9, .aload_n 0, 1), (10, .getfield 31, 3), (13, .if_icmp .ge 121, 3), (16, .iload_n 3, 1), (17, .aload_n 0, 1), (18, .getfield 18, 3), (21, .arraylength, 1), (22, .if_icmp .ge 112, 3), (25, .aload_n 0, 1), (26, .getfield 18, 3), (29, .iload_n 3, 1), (30, .iaload, 1), (31, .istore 4, 2), (33, .iload_n 2, 1), (34, .ifCond .eq 12, 3), (37, .iconst 1, 1), (38, .iload 4, 2), (40, .iconst 2, 1), (41, .irem, 1), (42, .isub, 1), (43, .goto 7, 3), (46, .iload 4, 2), (48, .iconst 2, 1), (49, .irem, 1), (50, .istore 5, 2), (52, .aload_n 0, 1), (53, .getfield 21, 3), (56, .iload 4, 2), (58, .iconst 2, 1), (59, .idiv, 1), (60, .iaload, 1), (61, .istore 6, 2), (63, .iconst 0, 1), (64, .istore 7, 2), (66, .iload 7, 2), (68, .aload_n 0, 1), (69, .getfield 24, 3), (72, .arraylength, 1), (73, .if_icmp .ge 55, 3), (76, .iload 6, 2), (78, .ifCond .lt 50, 3), (81, .iload 6, 2), (83, .aload_n 0, 1), (84, .getfield 24, 3), (87, .arraylength, 1), (88, .if_icmp .ge 40, 3), (91, .aload_n 0, 1), (92, .iload 6, 2), (94, .iconst 2, 1), (95, .idiv, 1), (96, .iconst 2, 1), (97, .imul, 1), (98, .iload 5, 2)]
def k_Con_settle_1 : List (Nat × Jvm.ClassFile.Instr × Nat) := [(100, .iadd, 1), (101, .aload_n 0, 1), (102, .getfield 9, 3), (105, .iload 4, 2), (107, .iaload, 1), (108, .iconst 1, 1), (109, .iadd, 1), (110, .invokevirtual 35, 3), (113, .aload_n 0, 1), (114, .getfield 24, 3), (117, .iload 6, 2), (119, .iaload, 1), (120, .istore 6, 2), (122, .iinc 7 1, 3), (125, .goto (-59), 3), (128, .iinc 3 1, 3), (131, .goto (-123), 3), (134, .return_, 1)]
def k_Con_settle : List (Nat × Jvm.ClassFile.Instr × Nat) := k_Con_settle_0 ++ (k_Con_settle_1)
def k_Con_level : List (Nat × Jvm.ClassFile.Instr × Nat) := [(0, .iload_n 1, 1), (1, .ifCond .lt 10, 3), (4, .iload_n 1, 1), (5, .sipush 1024, 3), (8, .if_icmp .lt 7, 3), (11, .iconst (-1), 1), (12, .goto 15, 3), (15, .aload_n 0, 1), (16, .getfield 9, 3), (19, .iload_n 1, 1), (20, .iconst 2, 1), (21, .imul, 1), (22, .iload_n 2, 1), (23, .iconst 1, 1), (24, .iand, 1), (25, .iadd, 1), (26, .iaload, 1), (27, .ireturn, 1)]
def k_Mo_laysStays_0 : List (Nat × Jvm.ClassFile.Instr × Nat) := [(0, .aload_n 0, 1), (1, .invokevirtual 338, 3), (4, .iconst 0, 1), (5, .istore_n 1, 1), (6, .iload_n 1, 1), (7, .sipush 2560, 3), (10, .if_icmp .ge 29, 3), (13, .aload_n 0, 1), (14, .getfield 48, 3), (17, .iload_n 1, 1), (18, .iload_n 1, 1), (19, .invokestatic 341, 3), (22, .ifCond .eq 7, 3), (25, .iconst (-1), 1), (26, .goto 6, 3), (29, .ldc_w 344, 3), (32, .iastore, 1), (33, .iinc 1 1, 3), (36, .goto (-30), 3), (39, .iconst 1, 1), (40, .istore_n 1, 1), (41, .iload_n 1, 1), (42, .ifCond .eq 119, 3), (45, .iconst 0, 1), (46, .istore_n 1, 1), (47, .iconst 0, 1), (48, .istore_n 2, 1), (49, .iload_n 2, 1), (50, .iconst 5, 1), (51, .aload_n 0, 1), (52, .invokevirtual 207, 3), (55, .ishl, 1), (56, .if_icmp .ge 102, 3), (59, .iload_n 2, 1), (60, .invokestatic 341, 3), (63, .ifCond .ne 89, 3), (66, .aload_n 0, 1), (67, .getfield 48, 3), (70, .iload_n 2, 1), (71, .iaload, 1), (72, .ldc_w 344, 3), (75, .if_icmp .ge 6, 3), (78, .goto 74, 3), (81, .aload_n 0, 1), (82, .getfield 48, 3), (85, .aload_n 0, 1), (86, .getfield 45, 3), (89, .iconst 2, 1), (90, .iload_n 2, 1), (91, .imul, 1), (92, .iaload, 1), (93, .iaload, 1), (94, .istore_n 3, 1), (95, .aload_n 0, 1), (96, .getfield 48, 3), (99, .aload_n 0, 1), (100, .getfield 45, 3), (103, .iconst 2, 1), (104, .iload_n 2, 1), (105, .imul, 1)]
def k_Mo_laysStays_1 : List (Nat × Jvm.ClassFile.Instr × Nat) := [(106, .iconst 1, 1), (107, .iadd, 1), (108, .iaload, 1), (109, .iaload, 1), (110, .istore 4, 2), (112, .iload_n 3, 1), (113, .ldc_w 344, 3), (116, .if_icmp .eq 36, 3), (119, .iload 4, 2), (121, .ldc_w 344, 3), (124, .if_icmp .ne 6, 3), (127, .goto 25, 3), (130, .aload_n 0, 1), (131, .getfield 48, 3), (134, .iload_n 2, 1), (135, .iconst 1, 1), (136, .iload_n 3, 1), (137, .iload 4, 2), (139, .if_icmp .le 7, 3), (142, .iload_n 3, 1), (143, .goto 5, 3), (146, .iload 4, 2), (148, .iadd, 1), (149, .iastore, 1), (150, .iconst 1, 1), (151, .istore_n 1, 1), (152, .iinc 2 1, 3), (155, .goto (-106), 3), (158, .goto (-117), 3), (161, .aload_n 0, 1), (162, .getfield 48, 3), (165, .aload_n 0, 1), (166, .invokevirtual 256, 3), (169, .iaload, 1), (170, .ireturn, 1)]
def k_Mo_laysStays : List (Nat × Jvm.ClassFile.Instr × Nat) := k_Mo_laysStays_0 ++ (k_Mo_laysStays_1)
def k_Con_stayBlind_0 : List (Nat × Jvm.ClassFile.Instr × Nat) := [(0, .iconst 0, 1), (1, .istore_n 3, 1), (2, .iconst (-1), 1), (3, .istore 4, 2), (5, .iconst 0, 1), (6, .istore 5, 2), (8, .iload 5, 2), (10, .iload_n 2, 1), (11, .if_icmp .gt 94, 3), (14, .aload_n 0, 1), (15, .iload_n 3, 1), (16, .iconst 1, 1), (17, .invokevirtual 57, 3), (20, .istore 6, 2), (22, .iload 6, 2), (24, .ifCond .eq 20, 3), (27, .iload 6, 2), (29, .iconst 1, 1), (30, .if_icmp .eq 14, 3), (33, .iload_n 3, 1), (34, .ifCond .lt 10, 3), (37, .iload_n 3, 1), (38, .sipush 1024, 3), (41, .if_icmp .lt 5, 3), (44, .iconst (-1), 1), (45, .ireturn, 1), (46, .iload 6, 2), (48, .iconst (-1), 1), (49, .if_icmp .ne 7, 3), (52, .iconst (-1), 1), (53, .goto 7, 3), (56, .iload 6, 2), (58, .iconst 1, 1), (59, .isub, 1), (60, .istore 7, 2), (62, .aload_n 0, 1), (63, .aload_n 1, 1), (64, .getfield 51, 3), (67, .iload_n 3, 1), (68, .iconst 2, 1), (69, .imul, 1), (70, .iaload, 1), (71, .iconst 1, 1), (72, .invokevirtual 57, 3), (75, .iload 7, 2), (77, .if_icmp .ne 7, 3), (80, .iconst 0, 1), (81, .goto 4, 3), (84, .iconst 1, 1), (85, .istore 4, 2), (87, .aload_n 1, 1), (88, .getfield 51, 3), (91, .iload_n 3, 1), (92, .iconst 2, 1), (93, .imul, 1), (94, .iload 4, 2), (96, .iadd, 1), (97, .iaload, 1), (98, .istore_n 3, 1), (99, .iinc 5 1, 3)]
def k_Con_stayBlind_1 : List (Nat × Jvm.ClassFile.Instr × Nat) := [(102, .goto (-94), 3), (105, .iload 4, 2), (107, .ireturn, 1)]
def k_Con_stayBlind : List (Nat × Jvm.ClassFile.Instr × Nat) := k_Con_stayBlind_0 ++ (k_Con_stayBlind_1)
def k_Mo_standNow : List (Nat × Jvm.ClassFile.Instr × Nat) := [(0, .aload_n 0, 1), (1, .getfield 13, 3), (4, .bipush 25, 2), (6, .iaload, 1), (7, .aload_n 0, 1), (8, .getfield 13, 3), (11, .bipush 26, 2), (13, .iaload, 1), (14, .invokestatic 246, 3), (17, .ireturn, 1)]
def k_Rch_depth : List (Nat × Jvm.ClassFile.Instr × Nat) := [(0, .iload_n 1, 1), (1, .ifCond .lt 11, 3), (4, .iload_n 1, 1), (5, .aload_n 0, 1), (6, .getfield 30, 3), (9, .if_icmp .lt 5, 3), (12, .iconst (-1), 1), (13, .ireturn, 1), (14, .iconst 0, 1), (15, .istore_n 2, 1), (16, .aload_n 0, 1), (17, .getfield 18, 3), (20, .iload_n 1, 1), (21, .iaload, 1), (22, .istore_n 3, 1), (23, .iload_n 3, 1), (24, .ifCond .lt 34, 3), (27, .iload_n 3, 1), (28, .aload_n 0, 1), (29, .getfield 15, 3), (32, .arraylength, 1), (33, .if_icmp .ge 25, 3), (36, .iload_n 2, 1), (37, .sipush 1024, 3), (40, .if_icmp .ge 18, 3), (43, .iinc 2 1, 3), (46, .aload_n 0, 1), (47, .getfield 18, 3), (50, .iload_n 3, 1), (51, .iconst 2, 1), (52, .idiv, 1), (53, .iaload, 1), (54, .istore_n 3, 1), (55, .goto (-32), 3), (58, .iload_n 2, 1), (59, .ireturn, 1)]
def k_Mo_laysFar_0 : List (Nat × Jvm.ClassFile.Instr × Nat) := [(0, .aload_n 0, 1), (1, .invokevirtual 338, 3), (4, .aload_n 0, 1), (5, .iload_n 1, 1), (6, .putfield 348, 3), (9, .iconst 0, 1), (10, .istore_n 2, 1), (11, .iload_n 2, 1), (12, .sipush 2560, 3), (15, .if_icmp .ge 30, 3), (18, .aload_n 0, 1), (19, .getfield 48, 3), (22, .iload_n 2, 1), (23, .aload_n 0, 1), (24, .iload_n 2, 1), (25, .invokevirtual 351, 3), (28, .ifCond .eq 7, 3), (31, .iconst 0, 1), (32, .goto 6, 3), (35, .ldc_w 344, 3), (38, .iastore, 1), (39, .iinc 2 1, 3), (42, .goto (-31), 3), (45, .iconst 1, 1), (46, .istore_n 2, 1), (47, .iload_n 2, 1), (48, .ifCond .eq 56, 3), (51, .iconst 0, 1), (52, .istore_n 2, 1), (53, .iconst 0, 1), (54, .istore_n 3, 1), (55, .iload_n 3, 1), (56, .iconst 5, 1), (57, .aload_n 0, 1), (58, .invokevirtual 207, 3), (61, .ishl, 1), (62, .if_icmp .ge 39, 3), (65, .aload_n 0, 1), (66, .iload_n 3, 1), (67, .invokevirtual 354, 3), (70, .aload_n 0, 1), (71, .getfield 48, 3), (74, .iload_n 3, 1), (75, .iaload, 1), (76, .if_icmp .lt 6, 3), (79, .goto 16, 3), (82, .aload_n 0, 1), (83, .getfield 48, 3), (86, .iload_n 3, 1), (87, .aload_n 0, 1), (88, .iload_n 3, 1), (89, .invokevirtual 354, 3), (92, .iastore, 1), (93, .iconst 1, 1), (94, .istore_n 2, 1), (95, .iinc 3 1, 3), (98, .goto (-43), 3), (101, .goto (-54), 3), (104, .aload_n 0, 1), (105, .getfield 48, 3)]
def k_Mo_laysFar_1 : List (Nat × Jvm.ClassFile.Instr × Nat) := [(108, .aload_n 0, 1), (109, .invokevirtual 256, 3), (112, .iaload, 1), (113, .ireturn, 1)]
def k_Mo_laysFar : List (Nat × Jvm.ClassFile.Instr × Nat) := k_Mo_laysFar_0 ++ (k_Mo_laysFar_1)
def k_Mo_toldFar : List (Nat × Jvm.ClassFile.Instr × Nat) := [(0, .iload_n 0, 1), (1, .ldc_w 344, 3), (4, .if_icmp .ne 7, 3), (7, .iconst (-1), 1), (8, .goto 4, 3), (11, .iload_n 0, 1), (12, .ireturn, 1)]
def k_Rch_blindTo : List (Nat × Jvm.ClassFile.Instr × Nat) := [(0, .aload_n 0, 1), (1, .iload_n 1, 1), (2, .invokevirtual 51, 3), (5, .istore_n 3, 1), (6, .iload_n 2, 1), (7, .ifCond .lt 19, 3), (10, .iload_n 2, 1), (11, .iload_n 3, 1), (12, .if_icmp .ge 14, 3), (15, .iload_n 1, 1), (16, .ifCond .lt 10, 3), (19, .iload_n 1, 1), (20, .sipush 1024, 3), (23, .if_icmp .lt 5, 3), (26, .iconst (-1), 1), (27, .ireturn, 1), (28, .iload_n 3, 1), (29, .iconst 1, 1), (30, .isub, 1), (31, .iload_n 2, 1), (32, .isub, 1), (33, .istore 4, 2), (35, .aload_n 0, 1), (36, .getfield 18, 3), (39, .iload_n 1, 1), (40, .iaload, 1), (41, .istore 5, 2), (43, .iconst 0, 1), (44, .istore 6, 2), (46, .iload 6, 2), (48, .iload 4, 2), (50, .if_icmp .ge 35, 3), (53, .iload 5, 2), (55, .ifCond .lt 30, 3), (58, .iload 5, 2), (60, .aload_n 0, 1), (61, .getfield 15, 3), (64, .arraylength, 1), (65, .if_icmp .ge 20, 3), (68, .aload_n 0, 1), (69, .getfield 18, 3), (72, .iload 5, 2), (74, .iconst 2, 1), (75, .idiv, 1), (76, .iaload, 1), (77, .istore 5, 2), (79, .iinc 6 1, 3), (82, .goto (-36), 3), (85, .iload 5, 2), (87, .ifCond .ge 7, 3), (90, .iconst (-1), 1), (91, .goto 7, 3), (94, .iload 5, 2), (96, .iconst 2, 1), (97, .irem, 1), (98, .ireturn, 1)]
def k_Mo_blindAt : List (Nat × Jvm.ClassFile.Instr × Nat) := [(0, .aload_n 0, 1), (1, .invokevirtual 256, 3), (4, .istore_n 2, 1), (5, .aload_n 0, 1), (6, .getfield 48, 3), (9, .iload_n 2, 1), (10, .iaload, 1), (11, .istore_n 3, 1), (12, .iload_n 3, 1), (13, .ldc_w 344, 3), (16, .if_icmp .eq 8, 3), (19, .iload_n 1, 1), (20, .iload_n 3, 1), (21, .if_icmp .lt 5, 3), (24, .iconst (-1), 1), (25, .ireturn, 1), (26, .iconst 0, 1), (27, .istore 4, 2), (29, .aload_n 0, 1), (30, .getfield 48, 3), (33, .aload_n 0, 1), (34, .getfield 45, 3), (37, .iconst 2, 1), (38, .iload_n 2, 1), (39, .imul, 1), (40, .iaload, 1), (41, .iaload, 1), (42, .iload_n 3, 1), (43, .iload 4, 2), (45, .isub, 1), (46, .iconst 1, 1), (47, .isub, 1), (48, .if_icmp .ne 7, 3), (51, .iconst 0, 1), (52, .goto 4, 3), (55, .iconst 1, 1), (56, .istore 5, 2), (58, .iload 4, 2), (60, .iload_n 1, 1), (61, .if_icmp .ne 6, 3), (64, .iload 5, 2), (66, .ireturn, 1), (67, .aload_n 0, 1), (68, .getfield 45, 3), (71, .iconst 2, 1), (72, .iload_n 2, 1), (73, .imul, 1), (74, .iload 5, 2), (76, .iadd, 1), (77, .iaload, 1), (78, .istore_n 2, 1), (79, .iinc 4 1, 3), (82, .goto (-53), 3)]
def k_Mo_laysForced_0 : List (Nat × Jvm.ClassFile.Instr × Nat) := [(0, .aload_n 0, 1), (1, .invokevirtual 338, 3), (4, .iconst 0, 1), (5, .istore_n 1, 1), (6, .iload_n 1, 1), (7, .sipush 2560, 3), (10, .if_icmp .ge 41, 3), (13, .aload_n 0, 1), (14, .getfield 48, 3), (17, .iload_n 1, 1), (18, .iload_n 1, 1), (19, .invokestatic 341, 3), (22, .ifCond .eq 7, 3), (25, .iconst 0, 1), (26, .goto 6, 3), (29, .ldc_w 344, 3), (32, .iastore, 1), (33, .aload_n 0, 1), (34, .getfield 51, 3), (37, .iload_n 1, 1), (38, .aload_n 0, 1), (39, .getfield 48, 3), (42, .iload_n 1, 1), (43, .iaload, 1), (44, .iastore, 1), (45, .iinc 1 1, 3), (48, .goto (-42), 3), (51, .iconst 1, 1), (52, .istore_n 1, 1), (53, .iload_n 1, 1), (54, .ifCond .eq 132, 3), (57, .iconst 0, 1), (58, .istore_n 1, 1), (59, .iconst 0, 1), (60, .istore_n 2, 1), (61, .iload_n 2, 1), (62, .iconst 5, 1), (63, .aload_n 0, 1), (64, .invokevirtual 207, 3), (67, .ishl, 1), (68, .if_icmp .ge 115, 3), (71, .iload_n 2, 1), (72, .invokestatic 341, 3), (75, .ifCond .eq 6, 3), (78, .goto 99, 3), (81, .aload_n 0, 1), (82, .iload_n 2, 1), (83, .invokevirtual 366, 3), (86, .istore_n 3, 1), (87, .aload_n 0, 1), (88, .iload_n 2, 1), (89, .invokevirtual 369, 3), (92, .istore 4, 2), (94, .iload_n 1, 1), (95, .iload_n 3, 1), (96, .aload_n 0, 1), (97, .getfield 48, 3), (100, .iload_n 2, 1), (101, .iaload, 1), (102, .if_icmp .lt 14, 3)]
def k_Mo_laysForced_1 : List (Nat × Jvm.ClassFile.Instr × Nat) := [(105, .iload 4, 2), (107, .aload_n 0, 1), (108, .getfield 51, 3), (111, .iload_n 2, 1), (112, .iaload, 1), (113, .if_icmp .ge 7, 3), (116, .iconst 1, 1), (117, .goto 4, 3), (120, .iconst 0, 1), (121, .ior, 1), (122, .istore_n 1, 1), (123, .aload_n 0, 1), (124, .getfield 48, 3), (127, .iload_n 2, 1), (128, .iload_n 3, 1), (129, .aload_n 0, 1), (130, .getfield 48, 3), (133, .iload_n 2, 1), (134, .iaload, 1), (135, .if_icmp .ge 7, 3), (138, .iload_n 3, 1), (139, .goto 9, 3), (142, .aload_n 0, 1), (143, .getfield 48, 3), (146, .iload_n 2, 1), (147, .iaload, 1), (148, .iastore, 1), (149, .aload_n 0, 1), (150, .getfield 51, 3), (153, .iload_n 2, 1), (154, .iload 4, 2), (156, .aload_n 0, 1), (157, .getfield 51, 3), (160, .iload_n 2, 1), (161, .iaload, 1), (162, .if_icmp .ge 8, 3), (165, .iload 4, 2), (167, .goto 9, 3), (170, .aload_n 0, 1), (171, .getfield 51, 3), (174, .iload_n 2, 1), (175, .iaload, 1), (176, .iastore, 1), (177, .iinc 2 1, 3), (180, .goto (-119), 3), (183, .goto (-130), 3), (186, .aload_n 0, 1), (187, .getfield 48, 3), (190, .aload_n 0, 1), (191, .invokevirtual 256, 3), (194, .iaload, 1), (195, .ireturn, 1)]
def k_Mo_laysForced : List (Nat × Jvm.ClassFile.Instr × Nat) := k_Mo_laysForced_0 ++ (k_Mo_laysForced_1)
def k_Con_forcingBlind : List (Nat × Jvm.ClassFile.Instr × Nat) := [(0, .aload_n 0, 1), (1, .iconst 0, 1), (2, .iconst 0, 1), (3, .invokevirtual 57, 3), (6, .istore_n 2, 1), (7, .iload_n 2, 1), (8, .iconst (-1), 1), (9, .if_icmp .ne 5, 3), (12, .iconst (-1), 1), (13, .ireturn, 1), (14, .aload_n 0, 1), (15, .aload_n 1, 1), (16, .getfield 51, 3), (19, .iconst 0, 1), (20, .iaload, 1), (21, .iconst 1, 1), (22, .invokevirtual 57, 3), (25, .iload_n 2, 1), (26, .iconst 1, 1), (27, .isub, 1), (28, .if_icmp .ne 7, 3), (31, .iconst 0, 1), (32, .goto 4, 3), (35, .iconst 1, 1), (36, .ireturn, 1)]
def k_Room_hasWall : List (Nat × Jvm.ClassFile.Instr × Nat) := [(0, .iload_n 1, 1), (1, .ifCond .lt 15, 3), (4, .iload_n 1, 1), (5, .aload_n 0, 1), (6, .invokevirtual 85, 3), (9, .if_icmp .gt 7, 3), (12, .iconst 1, 1), (13, .goto 4, 3), (16, .iconst 0, 1), (17, .ireturn, 1)]
def k_Mo_isWall : List (Nat × Jvm.ClassFile.Instr × Nat) := [(0, .lload_n 1, 1), (1, .lconst 0, 1), (2, .iconst 1, 1), (3, .aload_n 0, 1), (4, .invokevirtual 207, 3), (7, .ishl, 1), (8, .iconst 1, 1), (9, .isub, 1), (10, .i2l, 1), (11, .invokestatic 139, 3), (14, .ireturn, 1)]
def k_Rch_differentWalls : List (Nat × Jvm.ClassFile.Instr × Nat) := [(0, .aload_n 0, 1), (1, .getfield 9, 3), (4, .iconst 0, 1), (5, .iaload, 1), (6, .bipush 9, 2), (8, .ishr, 1), (9, .istore_n 1, 1), (10, .iconst 0, 1), (11, .istore_n 2, 1), (12, .iconst 0, 1), (13, .istore_n 3, 1), (14, .iload_n 3, 1), (15, .aload_n 0, 1), (16, .getfield 30, 3), (19, .if_icmp .ge 50, 3), (22, .aload_n 0, 1), (23, .getfield 9, 3), (26, .iload_n 3, 1), (27, .iaload, 1), (28, .sipush 511, 3), (31, .iand, 1), (32, .iload_n 1, 1), (33, .bipush 9, 2), (35, .ishl, 1), (36, .ior, 1), (37, .istore 4, 2), (39, .iload 4, 2), (41, .aload_n 0, 1), (42, .getfield 9, 3), (45, .iload_n 3, 1), (46, .iaload, 1), (47, .if_icmp .eq 13, 3), (50, .aload_n 0, 1), (51, .iload 4, 2), (53, .invokevirtual 47, 3), (56, .iconst (-1), 1), (57, .if_icmp .ne 6, 3), (60, .iinc 2 1, 3), (63, .iinc 3 1, 3), (66, .goto (-52), 3), (69, .iload_n 2, 1), (70, .ireturn, 1)]
def k_Mo_beginsMany : List (Nat × Jvm.ClassFile.Instr × Nat) := [(0, .aload_n 0, 1), (1, .invokevirtual 338, 3), (4, .iconst 0, 1), (5, .istore_n 1, 1), (6, .iload_n 1, 1), (7, .sipush 2560, 3), (10, .if_icmp .ge 35, 3), (13, .aload_n 0, 1), (14, .getfield 54, 3), (17, .iload_n 1, 1), (18, .iload_n 1, 1), (19, .aload_n 0, 1), (20, .invokevirtual 256, 3), (23, .if_icmp .ne 7, 3), (26, .iconst 1, 1), (27, .goto 4, 3), (30, .iconst 0, 1), (31, .iastore, 1), (32, .aload_n 0, 1), (33, .getfield 57, 3), (36, .iload_n 1, 1), (37, .iconst 0, 1), (38, .iastore, 1), (39, .iinc 1 1, 3), (42, .goto (-36), 3), (45, .return_, 1)]
def k_Mo_standOf : List (Nat × Jvm.ClassFile.Instr × Nat) := [(0, .iconst 5, 1), (1, .iload_n 0, 1), (2, .imul, 1), (3, .iload_n 1, 1), (4, .iadd, 1), (5, .ireturn, 1)]
def k_Stp_tune : List (Nat × Jvm.ClassFile.Instr × Nat) := [(0, .iload_n 1, 1), (1, .aload_n 0, 1), (2, .getfield 44, 3), (5, .if_icmp .eq 18, 3), (8, .aload_n 0, 1), (9, .iload_n 1, 1), (10, .putfield 44, 3), (13, .aload_n 0, 1), (14, .dup, 1), (15, .getfield 40, 3), (18, .iconst 1, 1), (19, .iadd, 1), (20, .putfield 40, 3), (23, .return_, 1)]
def k_Stp_comingTo : List (Nat × Jvm.ClassFile.Instr × Nat) := [(0, .iconst 0, 1), (1, .istore 4, 2), (3, .iconst 0, 1), (4, .istore 5, 2), (6, .iload 5, 2), (8, .aload_n 0, 1), (9, .getfield 30, 3), (12, .invokevirtual 106, 3), (15, .if_icmp .gt 31, 3), (18, .aload_n 0, 1), (19, .iload 5, 2), (21, .iload_n 3, 1), (22, .invokestatic 110, 3), (25, .iload_n 2, 1), (26, .invokevirtual 114, 3), (29, .sipush 511, 3), (32, .iand, 1), (33, .iload_n 1, 1), (34, .if_icmp .ne 6, 3), (37, .iinc 4 1, 3), (40, .iinc 5 1, 3), (43, .goto (-37), 3), (46, .iload 4, 2), (48, .ireturn, 1)]
def k_Mo_laysFrom : List (Nat × Jvm.ClassFile.Instr × Nat) := [(0, .iconst 0, 1), (1, .istore_n 3, 1), (2, .iload_n 3, 1), (3, .sipush 512, 3), (6, .if_icmp .ge 16, 3), (9, .aload_n 0, 1), (10, .getfield 60, 3), (13, .iload_n 3, 1), (14, .iconst 0, 1), (15, .iastore, 1), (16, .iinc 3 1, 3), (19, .goto (-17), 3), (22, .iconst 0, 1), (23, .istore_n 3, 1), (24, .iload_n 3, 1), (25, .iconst 1, 1), (26, .aload_n 0, 1), (27, .invokevirtual 207, 3), (30, .ishl, 1), (31, .if_icmp .ge 34, 3), (34, .aload_n 0, 1), (35, .getfield 60, 3), (38, .aload_n 0, 1), (39, .iload_n 3, 1), (40, .iload_n 2, 1), (41, .iconst (-1), 1), (42, .if_icmp .ne 7, 3), (45, .iconst 4, 1), (46, .goto 4, 3), (49, .iload_n 2, 1), (50, .iload_n 1, 1), (51, .invokevirtual 239, 3), (54, .dup2, 1), (55, .iaload, 1), (56, .iconst 1, 1), (57, .iadd, 1), (58, .iastore, 1), (59, .iinc 3 1, 3), (62, .goto (-38), 3), (65, .return_, 1)]
def k_Stp_comingOfNone : List (Nat × Jvm.ClassFile.Instr × Nat) := [(0, .aload_n 0, 1), (1, .getfield 27, 3), (4, .iconst 0, 1), (5, .invokestatic 117, 3), (8, .aload_n 0, 1), (9, .getfield 30, 3), (12, .invokevirtual 106, 3), (15, .iconst 1, 1), (16, .iadd, 1), (17, .istore_n 3, 1), (18, .iconst 0, 1), (19, .istore 4, 2), (21, .iload 4, 2), (23, .aload_n 0, 1), (24, .getfield 30, 3), (27, .invokevirtual 106, 3), (30, .if_icmp .gt 47, 3), (33, .aload_n 0, 1), (34, .iload 4, 2), (36, .iload_n 2, 1), (37, .invokestatic 110, 3), (40, .iload_n 1, 1), (41, .invokevirtual 114, 3), (44, .sipush 511, 3), (47, .iand, 1), (48, .istore 5, 2), (50, .aload_n 0, 1), (51, .getfield 27, 3), (54, .iload 5, 2), (56, .iaload, 1), (57, .ifCond .ne 14, 3), (60, .aload_n 0, 1), (61, .getfield 27, 3), (64, .iload 5, 2), (66, .iconst 1, 1), (67, .iastore, 1), (68, .iinc 3 (-1), 3), (71, .iinc 4 1, 3), (74, .goto (-53), 3), (77, .iload_n 3, 1), (78, .ireturn, 1)]
def k_Mo_noSo : List (Nat × Jvm.ClassFile.Instr × Nat) := [(0, .iload_n 2, 1), (1, .iconst (-1), 1), (2, .if_icmp .eq 17, 3), (5, .aload_n 0, 1), (6, .iload_n 2, 1), (7, .i2l, 1), (8, .invokevirtual 253, 3), (11, .ifCond .ne 8, 3), (14, .bipush (-2), 2), (16, .goto 17, 3), (19, .iload_n 1, 1), (20, .i2l, 1), (21, .invokestatic 262, 3), (24, .ifCond .eq 7, 3), (27, .iconst 0, 1), (28, .goto 5, 3), (31, .bipush (-3), 2), (33, .ireturn, 1)]
def k_Mo_roses : List (Nat × Jvm.ClassFile.Instr × Nat) := [(0, .aload_n 0, 1), (1, .getfield 13, 3), (4, .iconst 1, 1), (5, .iaload, 1), (6, .aload_n 0, 1), (7, .getfield 13, 3), (10, .iconst 2, 1), (11, .iaload, 1), (12, .imul, 1), (13, .ireturn, 1)]
def k_Stp_stayingSame : List (Nat × Jvm.ClassFile.Instr × Nat) := [(0, .iconst 0, 1), (1, .istore_n 3, 1), (2, .iconst 0, 1), (3, .istore 4, 2), (5, .iload 4, 2), (7, .aload_n 0, 1), (8, .getfield 30, 3), (11, .invokevirtual 106, 3), (14, .if_icmp .gt 32, 3), (17, .aload_n 0, 1), (18, .iload 4, 2), (20, .iload_n 2, 1), (21, .invokestatic 110, 3), (24, .iload_n 1, 1), (25, .invokevirtual 114, 3), (28, .sipush 511, 3), (31, .iand, 1), (32, .iload 4, 2), (34, .if_icmp .ne 6, 3), (37, .iinc 3 1, 3), (40, .iinc 4 1, 3), (43, .goto (-38), 3), (46, .iload_n 3, 1), (47, .ireturn, 1)]
def k_Mo_wallThen : List (Nat × Jvm.ClassFile.Instr × Nat) := [(0, .iconst 0, 1), (1, .istore 4, 2), (3, .iconst 0, 1), (4, .istore 5, 2), (6, .iload 5, 2), (8, .aload_n 0, 1), (9, .invokevirtual 207, 3), (12, .if_icmp .ge 34, 3), (15, .iload 4, 2), (17, .aload_n 0, 1), (18, .iload 5, 2), (20, .iload_n 1, 1), (21, .iload_n 2, 1), (22, .iload_n 3, 1), (23, .invokevirtual 235, 3), (26, .ifCond .eq 10, 3), (29, .iconst 1, 1), (30, .iload 5, 2), (32, .ishl, 1), (33, .goto 4, 3), (36, .iconst 0, 1), (37, .ior, 1), (38, .istore 4, 2), (40, .iinc 5 1, 3), (43, .goto (-37), 3), (46, .iload 4, 2), (48, .ireturn, 1)]
def k_Rch_rowsTo : List (Nat × Jvm.ClassFile.Instr × Nat) := [(0, .aload_n 0, 1), (1, .aload_n 1, 1), (2, .iload_n 2, 1), (3, .iconst (-1), 1), (4, .invokevirtual 64, 3), (7, .pop, 1), (8, .aload_n 0, 1), (9, .getfield 24, 3), (12, .iconst 0, 1), (13, .invokestatic 68, 3), (16, .aload_n 0, 1), (17, .getfield 27, 3), (20, .iconst 0, 1), (21, .invokestatic 68, 3), (24, .aload_n 0, 1), (25, .getfield 24, 3), (28, .iconst 0, 1), (29, .iconst 1, 1), (30, .iastore, 1), (31, .iconst 0, 1), (32, .istore 5, 2), (34, .iload 5, 2), (36, .iload 4, 2), (38, .if_icmp .ge 13, 3), (41, .aload_n 0, 1), (42, .invokevirtual 74, 3), (45, .iinc 5 1, 3), (48, .goto (-14), 3), (51, .iconst 0, 1), (52, .istore 5, 2), (54, .iconst 0, 1), (55, .istore 6, 2), (57, .iload 6, 2), (59, .aload_n 0, 1), (60, .getfield 30, 3), (63, .if_icmp .ge 40, 3), (66, .iload 5, 2), (68, .aload_n 0, 1), (69, .getfield 9, 3), (72, .iload 6, 2), (74, .iaload, 1), (75, .sipush 511, 3), (78, .iand, 1), (79, .iload_n 3, 1), (80, .if_icmp .ne 13, 3), (83, .aload_n 0, 1), (84, .getfield 24, 3), (87, .iload 6, 2), (89, .iaload, 1), (90, .goto 4, 3), (93, .iconst 0, 1), (94, .iadd, 1), (95, .istore 5, 2), (97, .iinc 6 1, 3), (100, .goto (-43), 3), (103, .iload 5, 2), (105, .ireturn, 1)]
def k_Mo_goesMany_0 : List (Nat × Jvm.ClassFile.Instr × Nat) := [(0, .iconst 0, 1), (1, .istore_n 3, 1), (2, .iload_n 3, 1), (3, .sipush 2560, 3), (6, .if_icmp .ge 71, 3), (9, .aload_n 0, 1), (10, .getfield 54, 3), (13, .iload_n 3, 1), (14, .iaload, 1), (15, .ifCond .ne 6, 3), (18, .goto 53, 3), (21, .aload_n 0, 1), (22, .getfield 57, 3), (25, .aload_n 0, 1), (26, .getfield 45, 3), (29, .iconst 2, 1), (30, .iload_n 3, 1), (31, .imul, 1), (32, .iaload, 1), (33, .dup2, 1), (34, .iaload, 1), (35, .iload_n 1, 1), (36, .aload_n 0, 1), (37, .getfield 54, 3), (40, .iload_n 3, 1), (41, .iaload, 1), (42, .imul, 1), (43, .iadd, 1), (44, .iastore, 1), (45, .aload_n 0, 1), (46, .getfield 57, 3), (49, .aload_n 0, 1), (50, .getfield 45, 3), (53, .iconst 2, 1), (54, .iload_n 3, 1), (55, .imul, 1), (56, .iconst 1, 1), (57, .iadd, 1), (58, .iaload, 1), (59, .dup2, 1), (60, .iaload, 1), (61, .iload_n 2, 1), (62, .aload_n 0, 1), (63, .getfield 54, 3), (66, .iload_n 3, 1), (67, .iaload, 1), (68, .imul, 1), (69, .iadd, 1), (70, .iastore, 1), (71, .iinc 3 1, 3), (74, .goto (-72), 3), (77, .iconst 0, 1), (78, .istore_n 3, 1), (79, .iload_n 3, 1), (80, .sipush 2560, 3), (83, .if_icmp .ge 28, 3), (86, .aload_n 0, 1), (87, .getfield 54, 3), (90, .iload_n 3, 1), (91, .aload_n 0, 1)]
def k_Mo_goesMany_1 : List (Nat × Jvm.ClassFile.Instr × Nat) := [(92, .getfield 57, 3), (95, .iload_n 3, 1), (96, .iaload, 1), (97, .iastore, 1), (98, .aload_n 0, 1), (99, .getfield 57, 3), (102, .iload_n 3, 1), (103, .iconst 0, 1), (104, .iastore, 1), (105, .iinc 3 1, 3), (108, .goto (-29), 3), (111, .return_, 1)]
def k_Mo_goesMany : List (Nat × Jvm.ClassFile.Instr × Nat) := k_Mo_goesMany_0 ++ (k_Mo_goesMany_1)
def k_RW_refusedSeen_0 : List (Nat × Jvm.ClassFile.Instr × Nat) := [(0, .iload_n 1, 1), (1, .invokestatic 200, 3), (4, .ifCond .ne 6, 3), (7, .bipush (-2), 2), (9, .ireturn, 1), (10, .aload_n 0, 1), (11, .getfield 62, 3), (14, .iload_n 1, 1), (15, .aaload, 1), (16, .getfield 203, 3), (19, .ifCond .eq 6, 3), (22, .bipush (-6), 2), (24, .ireturn, 1), (25, .aload_n 0, 1), (26, .getfield 62, 3), (29, .iload_n 1, 1), (30, .aaload, 1), (31, .getfield 214, 3), (34, .iconst 1, 1), (35, .if_icmp .lt 17, 3), (38, .aload_n 0, 1), (39, .getfield 62, 3), (42, .iload_n 1, 1), (43, .aaload, 1), (44, .getfield 214, 3), (47, .bipush 10, 2), (49, .if_icmp .le 6, 3), (52, .bipush (-4), 2), (54, .ireturn, 1), (55, .iconst 0, 1), (56, .istore_n 2, 1), (57, .iload_n 2, 1), (58, .aload_n 0, 1), (59, .getfield 62, 3), (62, .iload_n 1, 1), (63, .aaload, 1), (64, .getfield 214, 3), (67, .if_icmp .ge 44, 3), (70, .aload_n 0, 1), (71, .getfield 62, 3), (74, .iload_n 1, 1), (75, .aaload, 1), (76, .iload_n 2, 1), (77, .invokevirtual 215, 3), (80, .lstore_n 3, 1), (81, .lload_n 3, 1), (82, .ldc2_w 343, 3), (85, .lcmp, 1), (86, .ifCond .lt 16, 3), (89, .lload_n 3, 1), (90, .aload_n 0, 1), (91, .getfield 93, 3), (94, .invokevirtual 345, 3), (97, .i2l, 1), (98, .lcmp, 1), (99, .ifCond .le 6, 3), (102, .bipush (-3), 2), (104, .ireturn, 1), (105, .iinc 2 1, 3), (108, .goto (-51), 3)]
def k_RW_refusedSeen_1 : List (Nat × Jvm.ClassFile.Instr × Nat) := [(111, .iconst 0, 1), (112, .ireturn, 1)]
def k_RW_refusedSeen : List (Nat × Jvm.ClassFile.Instr × Nat) := k_RW_refusedSeen_0 ++ (k_RW_refusedSeen_1)
def k_RW_rowsSeen : List (Nat × Jvm.ClassFile.Instr × Nat) := [(0, .iload_n 3, 1), (1, .aload_n 1, 1), (2, .getfield 214, 3), (5, .if_icmp .ge 9, 3), (8, .iload_n 3, 1), (9, .bipush 10, 2), (11, .if_icmp .le 5, 3), (14, .iconst 1, 1), (15, .ireturn, 1), (16, .iconst 0, 1), (17, .istore 4, 2), (19, .iconst 0, 1), (20, .istore 5, 2), (22, .iload 5, 2), (24, .iconst 1, 1), (25, .if_icmp .gt 50, 3), (28, .aload_n 0, 1), (29, .getfield 69, 3), (32, .iload_n 2, 1), (33, .iload 5, 2), (35, .invokevirtual 320, 3), (38, .istore 6, 2), (40, .aload_n 1, 1), (41, .iload_n 3, 1), (42, .iload 6, 2), (44, .sipush 511, 3), (47, .iand, 1), (48, .invokevirtual 323, 3), (51, .ifCond .eq 18, 3), (54, .iload 4, 2), (56, .aload_n 0, 1), (57, .aload_n 1, 1), (58, .iload 6, 2), (60, .iload_n 3, 1), (61, .iconst 1, 1), (62, .iadd, 1), (63, .invokevirtual 312, 3), (66, .iadd, 1), (67, .istore 4, 2), (69, .iinc 5 1, 3), (72, .goto (-50), 3), (75, .iload 4, 2), (77, .ireturn, 1)]
def k_Mo_noSeen : List (Nat × Jvm.ClassFile.Instr × Nat) := [(0, .aload_n 0, 1), (1, .iload_n 1, 1), (2, .invokevirtual 303, 3), (5, .istore_n 2, 1), (6, .iload_n 2, 1), (7, .ifCond .eq 5, 3), (10, .iload_n 2, 1), (11, .ireturn, 1), (12, .aload_n 0, 1), (13, .getfield 66, 3), (16, .iload_n 1, 1), (17, .iaload, 1), (18, .i2l, 1), (19, .lconst 1, 1), (20, .ldc2_w 282, 3), (23, .invokestatic 139, 3), (26, .ifCond .ne 6, 3), (29, .bipush (-4), 2), (31, .ireturn, 1), (32, .iconst 0, 1), (33, .istore_n 3, 1), (34, .iload_n 3, 1), (35, .aload_n 0, 1), (36, .getfield 66, 3), (39, .iload_n 1, 1), (40, .iaload, 1), (41, .if_icmp .ge 48, 3), (44, .aload_n 0, 1), (45, .getfield 69, 3), (48, .bipush 40, 2), (50, .iload_n 1, 1), (51, .imul, 1), (52, .iload_n 3, 1), (53, .iadd, 1), (54, .laload, 1), (55, .ldc2_w 214, 3), (58, .lcmp, 1), (59, .ifCond .eq 24, 3), (62, .aload_n 0, 1), (63, .aload_n 0, 1), (64, .getfield 69, 3), (67, .bipush 40, 2), (69, .iload_n 1, 1), (70, .imul, 1), (71, .iload_n 3, 1), (72, .iadd, 1), (73, .laload, 1), (74, .invokevirtual 375, 3), (77, .ifCond .ne 6, 3), (80, .bipush (-3), 2), (82, .ireturn, 1), (83, .iinc 3 1, 3), (86, .goto (-52), 3), (89, .iconst 0, 1), (90, .ireturn, 1)]
def k_Mo_laysThen : List (Nat × Jvm.ClassFile.Instr × Nat) := [(0, .iconst 0, 1), (1, .istore_n 1, 1), (2, .iload_n 1, 1), (3, .iconst 5, 1), (4, .aload_n 0, 1), (5, .invokevirtual 207, 3), (8, .ishl, 1), (9, .if_icmp .ge 71, 3), (12, .iload_n 1, 1), (13, .iconst 5, 1), (14, .irem, 1), (15, .iconst 4, 1), (16, .if_icmp .eq 15, 3), (19, .iload_n 1, 1), (20, .iconst 5, 1), (21, .irem, 1), (22, .aload_n 0, 1), (23, .getfield 13, 3), (26, .iconst 3, 1), (27, .iaload, 1), (28, .if_icmp .ge 7, 3), (31, .iconst 1, 1), (32, .goto 4, 3), (35, .iconst 0, 1), (36, .istore_n 2, 1), (37, .iconst 0, 1), (38, .istore_n 3, 1), (39, .iload_n 3, 1), (40, .iconst 2, 1), (41, .if_icmp .ge 33, 3), (44, .aload_n 0, 1), (45, .getfield 45, 3), (48, .iconst 2, 1), (49, .iload_n 1, 1), (50, .imul, 1), (51, .iload_n 3, 1), (52, .iadd, 1), (53, .iload_n 2, 1), (54, .ifCond .eq 12, 3), (57, .aload_n 0, 1), (58, .iload_n 1, 1), (59, .iload_n 3, 1), (60, .invokevirtual 259, 3), (63, .goto 4, 3), (66, .iload_n 1, 1), (67, .iastore, 1), (68, .iinc 3 1, 3), (71, .goto (-32), 3), (74, .iinc 1 1, 3), (77, .goto (-75), 3), (80, .return_, 1)]
def k_Mo_isRow : List (Nat × Jvm.ClassFile.Instr × Nat) := [(0, .iload_n 3, 1), (1, .istore 4, 2), (3, .iconst 0, 1), (4, .istore 5, 2), (6, .iload 5, 2), (8, .aload_n 0, 1), (9, .getfield 66, 3), (12, .iload_n 1, 1), (13, .iaload, 1), (14, .if_icmp .ge 45, 3), (17, .aload_n 0, 1), (18, .getfield 45, 3), (21, .iconst 2, 1), (22, .iload 4, 2), (24, .imul, 1), (25, .aload_n 0, 1), (26, .iload_n 1, 1), (27, .iload_n 2, 1), (28, .iload 5, 2), (30, .invokevirtual 391, 3), (33, .iadd, 1), (34, .iaload, 1), (35, .istore 4, 2), (37, .aload_n 0, 1), (38, .iload_n 1, 1), (39, .iload 5, 2), (41, .iload 4, 2), (43, .iconst 5, 1), (44, .idiv, 1), (45, .invokevirtual 394, 3), (48, .ifCond .ne 5, 3), (51, .iconst 0, 1), (52, .ireturn, 1), (53, .iinc 5 1, 3), (56, .goto (-50), 3), (59, .iconst 1, 1), (60, .ireturn, 1)]
def k_RW_isFirstBlind : List (Nat × Jvm.ClassFile.Instr × Nat) := [(0, .aload_n 0, 1), (1, .getfield 69, 3), (4, .iload_n 2, 1), (5, .iconst 0, 1), (6, .invokevirtual 320, 3), (9, .istore 4, 2), (11, .aload_n 1, 1), (12, .iload_n 3, 1), (13, .iload 4, 2), (15, .sipush 511, 3), (18, .iand, 1), (19, .invokevirtual 323, 3), (22, .ifCond .eq 20, 3), (25, .aload_n 0, 1), (26, .aload_n 1, 1), (27, .iload 4, 2), (29, .iload_n 3, 1), (30, .iconst 1, 1), (31, .iadd, 1), (32, .invokevirtual 312, 3), (35, .ifCond .le 7, 3), (38, .iconst 1, 1), (39, .goto 4, 3), (42, .iconst 0, 1), (43, .ireturn, 1)]
def k_Stp_next : List (Nat × Jvm.ClassFile.Instr × Nat) := [(0, .iload_n 1, 1), (1, .ifCond .lt 17, 3), (4, .iload_n 1, 1), (5, .sipush 2560, 3), (8, .if_icmp .ge 10, 3), (11, .iload_n 2, 1), (12, .invokestatic 47, 3), (15, .ifCond .ne 5, 3), (18, .iconst 0, 1), (19, .ireturn, 1), (20, .iload_n 2, 1), (21, .sipush 2560, 3), (24, .imul, 1), (25, .iload_n 1, 1), (26, .iadd, 1), (27, .istore_n 3, 1), (28, .aload_n 0, 1), (29, .getfield 24, 3), (32, .iload_n 3, 1), (33, .iaload, 1), (34, .bipush 12, 2), (36, .ishr, 1), (37, .aload_n 0, 1), (38, .getfield 40, 3), (41, .if_icmp .eq 27, 3), (44, .aload_n 0, 1), (45, .getfield 24, 3), (48, .iload_n 3, 1), (49, .aload_n 0, 1), (50, .getfield 40, 3), (53, .bipush 12, 2), (55, .ishl, 1), (56, .aload_n 0, 1), (57, .iload_n 1, 1), (58, .iload_n 2, 1), (59, .aload_n 0, 1), (60, .getfield 44, 3), (63, .invokevirtual 51, 3), (66, .ior, 1), (67, .iastore, 1), (68, .aload_n 0, 1), (69, .getfield 24, 3), (72, .iload_n 3, 1), (73, .iaload, 1), (74, .sipush 4095, 3), (77, .iand, 1), (78, .ireturn, 1)]
def k_Mo_blindIn : List (Nat × Jvm.ClassFile.Instr × Nat) := [(0, .iload_n 2, 1), (1, .aload_n 0, 1), (2, .getfield 66, 3), (5, .iload_n 1, 1), (6, .iaload, 1), (7, .iconst 1, 1), (8, .isub, 1), (9, .iload_n 3, 1), (10, .isub, 1), (11, .ishr, 1), (12, .iconst 1, 1), (13, .iand, 1), (14, .ireturn, 1)]
def k_RW_placeOf : List (Nat × Jvm.ClassFile.Instr × Nat) := [(0, .iload_n 0, 1), (1, .sipush 511, 3), (4, .iand, 1), (5, .iload_n 1, 1), (6, .ifCond .lt 8, 3), (9, .iload_n 1, 1), (10, .iconst 4, 1), (11, .if_icmp .lt 7, 3), (14, .iconst 4, 1), (15, .goto 4, 3), (18, .iload_n 1, 1), (19, .bipush 9, 2), (21, .ishl, 1), (22, .ior, 1), (23, .ireturn, 1)]
def k_RW_refusedTempers : List (Nat × Jvm.ClassFile.Instr × Nat) := [(0, .aload_n 0, 1), (1, .iload_n 1, 1), (2, .invokevirtual 309, 3), (5, .istore_n 3, 1), (6, .iload_n 3, 1), (7, .ifCond .eq 5, 3), (10, .iload_n 3, 1), (11, .ireturn, 1), (12, .iload_n 2, 1), (13, .ifCond .lt 18, 3), (16, .iload_n 2, 1), (17, .iconst 1, 1), (18, .aload_n 0, 1), (19, .getfield 62, 3), (22, .iload_n 1, 1), (23, .aaload, 1), (24, .getfield 214, 3), (27, .ishl, 1), (28, .if_icmp .lt 8, 3), (31, .bipush (-3), 2), (33, .goto 4, 3), (36, .iconst 0, 1), (37, .ireturn, 1)]
def k_RW_tempersSeen : List (Nat × Jvm.ClassFile.Instr × Nat) := [(0, .iconst 0, 1), (1, .istore_n 3, 1), (2, .iconst 0, 1), (3, .istore 4, 2), (5, .iload 4, 2), (7, .bipush 10, 2), (9, .if_icmp .ge 27, 3), (12, .aload_n 0, 1), (13, .aload_n 1, 1), (14, .iload_n 2, 1), (15, .iload 4, 2), (17, .invokevirtual 348, 3), (20, .ifCond .eq 10, 3), (23, .iload_n 3, 1), (24, .iconst 1, 1), (25, .iload 4, 2), (27, .ishl, 1), (28, .ior, 1), (29, .istore_n 3, 1), (30, .iinc 4 1, 3), (33, .goto (-28), 3), (36, .iload_n 3, 1), (37, .ireturn, 1)]
def k_Mo_noBlinds : List (Nat × Jvm.ClassFile.Instr × Nat) := [(0, .aload_n 0, 1), (1, .iload_n 1, 1), (2, .invokevirtual 397, 3), (5, .istore_n 3, 1), (6, .iload_n 3, 1), (7, .ifCond .eq 5, 3), (10, .iload_n 3, 1), (11, .ireturn, 1), (12, .iload_n 2, 1), (13, .i2l, 1), (14, .lconst 0, 1), (15, .iconst 1, 1), (16, .aload_n 0, 1), (17, .getfield 66, 3), (20, .iload_n 1, 1), (21, .iaload, 1), (22, .ishl, 1), (23, .iconst 1, 1), (24, .isub, 1), (25, .i2l, 1), (26, .invokestatic 139, 3), (29, .ifCond .eq 7, 3), (32, .iconst 0, 1), (33, .goto 5, 3), (36, .bipush (-3), 2), (38, .ireturn, 1)]
def k_Mo_tempersOf_0 : List (Nat × Jvm.ClassFile.Instr × Nat) := [(0, .aload_n 0, 1), (1, .getfield 13, 3), (4, .bipush 27, 2), (6, .iaload, 1), (7, .istore_n 3, 1), (8, .iconst 0, 1), (9, .istore 4, 2), (11, .iconst 0, 1), (12, .istore 5, 2), (14, .iload 5, 2), (16, .bipush 9, 2), (18, .if_icmp .gt 97, 3), (21, .aload_n 0, 1), (22, .getfield 13, 3), (25, .bipush 27, 2), (27, .iload 5, 2), (29, .iastore, 1), (30, .aload_n 0, 1), (31, .invokevirtual 256, 3), (34, .istore 6, 2), (36, .iconst 1, 1), (37, .istore 7, 2), (39, .iconst 0, 1), (40, .istore 8, 2), (42, .iload 8, 2), (44, .aload_n 0, 1), (45, .getfield 66, 3), (48, .iload_n 1, 1), (49, .iaload, 1), (50, .if_icmp .ge 41, 3), (53, .iload 7, 2), (55, .ifCond .eq 36, 3), (58, .aload_n 0, 1), (59, .iload 6, 2), (61, .iload_n 2, 1), (62, .iload 8, 2), (64, .ishr, 1), (65, .iconst 1, 1), (66, .iand, 1), (67, .invokevirtual 259, 3), (70, .istore 6, 2), (72, .aload_n 0, 1), (73, .iload_n 1, 1), (74, .iload 8, 2), (76, .iload 6, 2), (78, .iconst 5, 1), (79, .idiv, 1), (80, .invokevirtual 394, 3), (83, .istore 7, 2), (85, .iinc 8 1, 3), (88, .goto (-46), 3), (91, .iload 4, 2), (93, .iload 7, 2), (95, .ifCond .eq 10, 3), (98, .iconst 1, 1), (99, .iload 5, 2), (101, .ishl, 1), (102, .goto 4, 3), (105, .iconst 0, 1), (106, .ior, 1)]
def k_Mo_tempersOf_1 : List (Nat × Jvm.ClassFile.Instr × Nat) := [(107, .istore 4, 2), (109, .iinc 5 1, 3), (112, .goto (-98), 3), (115, .aload_n 0, 1), (116, .getfield 13, 3), (119, .bipush 27, 2), (121, .iload_n 3, 1), (122, .iastore, 1), (123, .iload 4, 2), (125, .ireturn, 1)]
def k_Mo_tempersOf : List (Nat × Jvm.ClassFile.Instr × Nat) := k_Mo_tempersOf_0 ++ (k_Mo_tempersOf_1)
def k_RW_mostAlike : List (Nat × Jvm.ClassFile.Instr × Nat) := [(0, .iconst 0, 1), (1, .istore_n 3, 1), (2, .iload_n 3, 1), (3, .bipush 10, 2), (5, .if_icmp .ge 47, 3), (8, .aload_n 0, 1), (9, .getfield 87, 3), (12, .iload_n 3, 1), (13, .iload_n 1, 1), (14, .iload_n 3, 1), (15, .ishr, 1), (16, .iconst 1, 1), (17, .iand, 1), (18, .ifCond .eq 26, 3), (21, .aload_n 0, 1), (22, .getfield 69, 3), (25, .aload_n 0, 1), (26, .getfield 43, 3), (29, .invokevirtual 154, 3), (32, .iload_n 2, 1), (33, .iload_n 3, 1), (34, .invokevirtual 161, 3), (37, .sipush 511, 3), (40, .iand, 1), (41, .goto 4, 3), (44, .iconst (-1), 1), (45, .iastore, 1), (46, .iinc 3 1, 3), (49, .goto (-47), 3), (52, .iconst 0, 1), (53, .istore_n 3, 1), (54, .iconst 0, 1), (55, .istore 4, 2), (57, .iload 4, 2), (59, .bipush 10, 2), (61, .if_icmp .ge 36, 3), (64, .aload_n 0, 1), (65, .getfield 87, 3), (68, .iload 4, 2), (70, .iaload, 1), (71, .iconst (-1), 1), (72, .if_icmp .eq 19, 3), (75, .iload_n 3, 1), (76, .aload_n 0, 1), (77, .aload_n 0, 1), (78, .getfield 87, 3), (81, .iload 4, 2), (83, .iaload, 1), (84, .invokevirtual 351, 3), (87, .invokestatic 354, 3), (90, .istore_n 3, 1), (91, .iinc 4 1, 3), (94, .goto (-37), 3), (97, .iload_n 3, 1), (98, .ireturn, 1)]
def k_Mo_mostAlike_0 : List (Nat × Jvm.ClassFile.Instr × Nat) := [(0, .aload_n 0, 1), (1, .getfield 13, 3), (4, .bipush 27, 2), (6, .iaload, 1), (7, .istore_n 3, 1), (8, .iconst 0, 1), (9, .istore 4, 2), (11, .iconst 0, 1), (12, .istore 5, 2), (14, .iload 5, 2), (16, .sipush 512, 3), (19, .if_icmp .ge 17, 3), (22, .aload_n 0, 1), (23, .getfield 60, 3), (26, .iload 5, 2), (28, .iconst 0, 1), (29, .iastore, 1), (30, .iinc 5 1, 3), (33, .goto (-19), 3), (36, .iconst 0, 1), (37, .istore 5, 2), (39, .iload 5, 2), (41, .bipush 9, 2), (43, .if_icmp .gt 89, 3), (46, .iload_n 1, 1), (47, .i2l, 1), (48, .iload 5, 2), (50, .invokestatic 210, 3), (53, .ifCond .ne 6, 3), (56, .goto 70, 3), (59, .aload_n 0, 1), (60, .getfield 13, 3), (63, .bipush 27, 2), (65, .iload 5, 2), (67, .iastore, 1), (68, .aload_n 0, 1), (69, .aload_n 0, 1), (70, .getfield 13, 3), (73, .bipush 25, 2), (75, .iaload, 1), (76, .aload_n 0, 1), (77, .getfield 13, 3), (80, .bipush 26, 2), (82, .iaload, 1), (83, .iload_n 2, 1), (84, .invokevirtual 239, 3), (87, .istore 6, 2), (89, .aload_n 0, 1), (90, .getfield 60, 3), (93, .iload 6, 2), (95, .dup2, 1), (96, .iaload, 1), (97, .iconst 1, 1), (98, .iadd, 1), (99, .iastore, 1), (100, .aload_n 0, 1), (101, .getfield 60, 3), (104, .iload 6, 2), (106, .iaload, 1), (107, .iload 4, 2)]
def k_Mo_mostAlike_1 : List (Nat × Jvm.ClassFile.Instr × Nat) := [(109, .if_icmp .le 13, 3), (112, .aload_n 0, 1), (113, .getfield 60, 3), (116, .iload 6, 2), (118, .iaload, 1), (119, .goto 5, 3), (122, .iload 4, 2), (124, .istore 4, 2), (126, .iinc 5 1, 3), (129, .goto (-90), 3), (132, .aload_n 0, 1), (133, .getfield 13, 3), (136, .bipush 27, 2), (138, .iload_n 3, 1), (139, .iastore, 1), (140, .iload 4, 2), (142, .ireturn, 1)]
def k_Mo_mostAlike : List (Nat × Jvm.ClassFile.Instr × Nat) := k_Mo_mostAlike_0 ++ (k_Mo_mostAlike_1)
def k_RW_share_0 : List (Nat × Jvm.ClassFile.Instr × Nat) := [(0, .iload_n 1, 1), (1, .bipush 9, 2), (3, .ishr, 1), (4, .iconst 4, 1), (5, .if_icmp .eq 9, 3), (8, .iload_n 2, 1), (9, .bipush 8, 2), (11, .if_icmp .le 5, 3), (14, .iconst 0, 1), (15, .ireturn, 1), (16, .iload_n 2, 1), (17, .ifCond .gt 5, 3), (20, .iconst 1, 1), (21, .ireturn, 1), (22, .iconst 0, 1), (23, .istore_n 3, 1), (24, .aload_n 0, 1), (25, .getfield 93, 3), (28, .getfield 370, 3), (31, .ifCond .le 30, 3), (34, .iload_n 3, 1), (35, .aload_n 0, 1), (36, .getfield 93, 3), (39, .getfield 370, 3), (42, .aload_n 0, 1), (43, .aload_n 0, 1), (44, .getfield 69, 3), (47, .iload_n 1, 1), (48, .iconst 1, 1), (49, .invokevirtual 320, 3), (52, .iload_n 2, 1), (53, .iconst 1, 1), (54, .isub, 1), (55, .invokevirtual 359, 3), (58, .imul, 1), (59, .iadd, 1), (60, .istore_n 3, 1), (61, .aload_n 0, 1), (62, .getfield 93, 3), (65, .getfield 370, 3), (68, .bipush 10, 2), (70, .if_icmp .ge 33, 3), (73, .iload_n 3, 1), (74, .bipush 10, 2), (76, .aload_n 0, 1), (77, .getfield 93, 3), (80, .getfield 370, 3), (83, .isub, 1), (84, .aload_n 0, 1), (85, .aload_n 0, 1), (86, .getfield 69, 3), (89, .iload_n 1, 1), (90, .iconst 0, 1), (91, .invokevirtual 320, 3), (94, .iload_n 2, 1), (95, .iconst 1, 1), (96, .isub, 1), (97, .invokevirtual 359, 3), (100, .imul, 1), (101, .iadd, 1)]
def k_RW_share_1 : List (Nat × Jvm.ClassFile.Instr × Nat) := [(102, .istore_n 3, 1), (103, .iload_n 3, 1), (104, .ireturn, 1)]
def k_RW_share : List (Nat × Jvm.ClassFile.Instr × Nat) := k_RW_share_0 ++ (k_RW_share_1)
def k_RW_powerOfTen : List (Nat × Jvm.ClassFile.Instr × Nat) := [(0, .iconst 1, 1), (1, .istore_n 1, 1), (2, .iconst 0, 1), (3, .istore_n 2, 1), (4, .iload_n 2, 1), (5, .iload_n 0, 1), (6, .if_icmp .ge 20, 3), (9, .iload_n 2, 1), (10, .bipush 9, 2), (12, .if_icmp .ge 14, 3), (15, .iload_n 1, 1), (16, .bipush 10, 2), (18, .imul, 1), (19, .istore_n 1, 1), (20, .iinc 2 1, 3), (23, .goto (-19), 3), (26, .iload_n 1, 1), (27, .ireturn, 1)]
def k_RW_commonDivisor : List (Nat × Jvm.ClassFile.Instr × Nat) := [(0, .iload_n 0, 1), (1, .istore_n 2, 1), (2, .iload_n 1, 1), (3, .istore_n 3, 1), (4, .iconst 0, 1), (5, .istore 4, 2), (7, .iload 4, 2), (9, .bipush 100, 2), (11, .if_icmp .ge 23, 3), (14, .iload_n 3, 1), (15, .ifCond .eq 19, 3), (18, .iload_n 2, 1), (19, .iload_n 3, 1), (20, .irem, 1), (21, .istore 5, 2), (23, .iload_n 3, 1), (24, .istore_n 2, 1), (25, .iload 5, 2), (27, .istore_n 3, 1), (28, .iinc 4 1, 3), (31, .goto (-24), 3), (34, .iload_n 2, 1), (35, .ireturn, 1)]
def k_Mo_chanceOf : List (Nat × Jvm.ClassFile.Instr × Nat) := [(0, .aload_n 0, 1), (1, .invokevirtual 378, 3), (4, .aload_n 0, 1), (5, .getfield 54, 3), (8, .aload_n 0, 1), (9, .invokevirtual 256, 3), (12, .iconst 0, 1), (13, .iastore, 1), (14, .aload_n 0, 1), (15, .getfield 54, 3), (18, .aload_n 0, 1), (19, .getfield 13, 3), (22, .bipush 25, 2), (24, .iaload, 1), (25, .iload_n 1, 1), (26, .invokestatic 246, 3), (29, .iconst 1, 1), (30, .iastore, 1), (31, .iconst 0, 1), (32, .istore_n 3, 1), (33, .iload_n 3, 1), (34, .iload_n 2, 1), (35, .if_icmp .ge 28, 3), (38, .aload_n 0, 1), (39, .bipush 10, 2), (41, .aload_n 0, 1), (42, .getfield 13, 3), (45, .iconst 5, 1), (46, .iaload, 1), (47, .isub, 1), (48, .aload_n 0, 1), (49, .getfield 13, 3), (52, .iconst 5, 1), (53, .iaload, 1), (54, .invokevirtual 388, 3), (57, .iinc 3 1, 3), (60, .goto (-27), 3), (63, .iconst 0, 1), (64, .istore_n 3, 1), (65, .iconst 0, 1), (66, .istore 4, 2), (68, .iload 4, 2), (70, .sipush 2560, 3), (73, .if_icmp .ge 31, 3), (76, .iload_n 3, 1), (77, .iload 4, 2), (79, .invokestatic 341, 3), (82, .ifCond .eq 7, 3), (85, .iconst 0, 1), (86, .goto 10, 3), (89, .aload_n 0, 1), (90, .getfield 54, 3), (93, .iload 4, 2), (95, .iaload, 1), (96, .iadd, 1), (97, .istore_n 3, 1), (98, .iinc 4 1, 3), (101, .goto (-33), 3), (104, .iload_n 3, 1), (105, .ireturn, 1)]
def k_Mo_wholeOf : List (Nat × Jvm.ClassFile.Instr × Nat) := [(0, .iconst 1, 1), (1, .istore_n 1, 1), (2, .iconst 0, 1), (3, .istore_n 2, 1), (4, .iload_n 2, 1), (5, .iload_n 0, 1), (6, .if_icmp .ge 14, 3), (9, .iload_n 1, 1), (10, .bipush 10, 2), (12, .imul, 1), (13, .istore_n 1, 1), (14, .iinc 2 1, 3), (17, .goto (-13), 3), (20, .iload_n 1, 1), (21, .ireturn, 1)]
def k_Mo_common : List (Nat × Jvm.ClassFile.Instr × Nat) := [(0, .iload_n 1, 1), (1, .ifCond .ne 7, 3), (4, .iload_n 0, 1), (5, .goto 10, 3), (8, .iload_n 1, 1), (9, .iload_n 0, 1), (10, .iload_n 1, 1), (11, .irem, 1), (12, .invokestatic 412, 3), (15, .ireturn, 1)]
def k_Tray_begin : List (Nat × Jvm.ClassFile.Instr × Nat) := [(0, .aload_n 0, 1), (1, .iload_n 1, 1), (2, .putfield 19, 3), (5, .aload_n 0, 1), (6, .iconst 0, 1), (7, .iload_n 2, 1), (8, .bipush 40, 2), (10, .invokestatic 23, 3), (13, .invokestatic 29, 3), (16, .putfield 32, 3), (19, .aload_n 0, 1), (20, .iconst 0, 1), (21, .putfield 15, 3), (24, .aload_n 0, 1), (25, .getfield 9, 3), (28, .lconst 0, 1), (29, .invokestatic 35, 3), (32, .return_, 1)]
def k_Tray_put : List (Nat × Jvm.ClassFile.Instr × Nat) := [(0, .iload_n 1, 1), (1, .ifCond .lt 11, 3), (4, .iload_n 1, 1), (5, .aload_n 0, 1), (6, .getfield 32, 3), (9, .if_icmp .lt 4, 3), (12, .return_, 1), (13, .aload_n 0, 1), (14, .getfield 19, 3), (17, .tableswitch 65 0 2 #[27, 40, 53], 27), (44, .aload_n 0, 1), (45, .getfield 9, 3), (48, .iload_n 1, 1), (49, .lload_n 2, 1), (50, .l2i, 1), (51, .i2b, 1), (52, .i2l, 1), (53, .lastore, 1), (54, .goto 35, 3), (57, .aload_n 0, 1), (58, .getfield 9, 3), (61, .iload_n 1, 1), (62, .lload_n 2, 1), (63, .l2i, 1), (64, .i2s, 1), (65, .i2l, 1), (66, .lastore, 1), (67, .goto 22, 3), (70, .aload_n 0, 1), (71, .getfield 9, 3), (74, .iload_n 1, 1), (75, .lload_n 2, 1), (76, .l2i, 1), (77, .i2l, 1), (78, .lastore, 1), (79, .goto 10, 3), (82, .aload_n 0, 1), (83, .getfield 9, 3), (86, .iload_n 1, 1), (87, .lload_n 2, 1), (88, .lastore, 1), (89, .return_, 1)]
def k_Mo_cut : List (Nat × Jvm.ClassFile.Instr × Nat) := [(0, .iload_n 2, 1), (1, .ifCond .ne 10, 3), (4, .lload_n 0, 1), (5, .l2i, 1), (6, .i2b, 1), (7, .i2l, 1), (8, .goto 27, 3), (11, .iload_n 2, 1), (12, .iconst 1, 1), (13, .if_icmp .ne 10, 3), (16, .lload_n 0, 1), (17, .l2i, 1), (18, .i2s, 1), (19, .i2l, 1), (20, .goto 15, 3), (23, .iload_n 2, 1), (24, .iconst 2, 1), (25, .if_icmp .ne 9, 3), (28, .lload_n 0, 1), (29, .l2i, 1), (30, .i2l, 1), (31, .goto 4, 3), (34, .lload_n 0, 1), (35, .lreturn, 1)]
def k_Mo_standThen : List (Nat × Jvm.ClassFile.Instr × Nat) := [(0, .iload_n 1, 1), (1, .iconst 5, 1), (2, .irem, 1), (3, .istore_n 3, 1), (4, .aload_n 0, 1), (5, .iload_n 1, 1), (6, .iconst 5, 1), (7, .idiv, 1), (8, .iload_n 3, 1), (9, .iload_n 2, 1), (10, .invokevirtual 239, 3), (13, .istore 4, 2), (15, .iload 4, 2), (17, .iload_n 3, 1), (18, .iconst 4, 1), (19, .if_icmp .eq 18, 3), (22, .aload_n 0, 1), (23, .iload_n 3, 1), (24, .iload 4, 2), (26, .iload_n 2, 1), (27, .invokevirtual 242, 3), (30, .ifCond .eq 7, 3), (33, .iconst 4, 1), (34, .goto 4, 3), (37, .iload_n 3, 1), (38, .invokestatic 246, 3), (41, .ireturn, 1)]
def k_LR_init : List (Nat × Jvm.ClassFile.Instr × Nat) := [(0, .aload_n 0, 1), (1, .invokespecial 3, 3), (4, .return_, 1)]
def k_Lw_init : List (Nat × Jvm.ClassFile.Instr × Nat) := [(0, .aload_n 0, 1), (1, .invokespecial 3, 3), (4, .aload_n 0, 1), (5, .sipush 900, 3), (8, .newarray .int, 2), (10, .putfield 9, 3), (13, .aload_n 0, 1), (14, .bipush 40, 2), (16, .newarray .int, 2), (18, .putfield 15, 3), (21, .return_, 1)]
def k_Room_clear : List (Nat × Jvm.ClassFile.Instr × Nat) := [(0, .aload_n 0, 1), (1, .iconst 0, 1), (2, .putfield 34, 3), (5, .aload_n 0, 1), (6, .iconst (-1), 1), (7, .putfield 38, 3), (10, .aload_n 0, 1), (11, .iconst 0, 1), (12, .putfield 41, 3), (15, .aload_n 0, 1), (16, .iconst 0, 1), (17, .putfield 44, 3), (20, .aload_n 0, 1), (21, .iconst 5, 1), (22, .putfield 47, 3), (25, .aload_n 0, 1), (26, .iconst 0, 1), (27, .putfield 50, 3), (30, .aload_n 0, 1), (31, .iconst 0, 1), (32, .putfield 53, 3), (35, .aload_n 0, 1), (36, .getfield 9, 3), (39, .iconst 0, 1), (40, .invokestatic 56, 3), (43, .aload_n 0, 1), (44, .getfield 24, 3), (47, .invokevirtual 62, 3), (50, .aload_n 0, 1), (51, .getfield 28, 3), (54, .invokevirtual 62, 3), (57, .aload_n 0, 1), (58, .iconst 1, 1), (59, .iconst 1, 1), (60, .invokevirtual 63, 3), (63, .return_, 1)]
def k_Arr_fillJ : List (Nat × Jvm.ClassFile.Instr × Nat) := [(0, .iconst 0, 1), (1, .istore_n 3, 1), (2, .aload_n 0, 1), (3, .arraylength, 1), (4, .istore 4, 2), (6, .iload_n 3, 1), (7, .iload 4, 2), (9, .if_icmp .ge 13, 3), (12, .aload_n 0, 1), (13, .iload_n 3, 1), (14, .lload_n 1, 1), (15, .lastore, 1), (16, .iinc 3 1, 3), (19, .goto (-13), 3), (22, .return_, 1)]
def k_Mat_min : List (Nat × Jvm.ClassFile.Instr × Nat) := [(0, .iload_n 0, 1), (1, .iload_n 1, 1), (2, .if_icmp .gt 7, 3), (5, .iload_n 0, 1), (6, .goto 4, 3), (9, .iload_n 1, 1), (10, .ireturn, 1)]
def k_Mat_max : List (Nat × Jvm.ClassFile.Instr × Nat) := [(0, .iload_n 0, 1), (1, .iload_n 1, 1), (2, .if_icmp .lt 7, 3), (5, .iload_n 0, 1), (6, .goto 4, 3), (9, .iload_n 1, 1), (10, .ireturn, 1)]
def k_Tok_splitNext_0 : List (Nat × Jvm.ClassFile.Instr × Nat) := [(0, .aload_n 0, 1), (1, .aload_n 0, 1), (2, .getfield 47, 3), (5, .putfield 54, 3), (8, .aload_n 0, 1), (9, .getfield 54, 3), (12, .aload_n 0, 1), (13, .getfield 38, 3), (16, .if_icmp .ge 44, 3), (19, .aload_n 0, 1), (20, .getfield 25, 3), (23, .aload_n 0, 1), (24, .getfield 54, 3), (27, .baload, 1), (28, .bipush 32, 2), (30, .if_icmp .eq 17, 3), (33, .aload_n 0, 1), (34, .getfield 25, 3), (37, .aload_n 0, 1), (38, .getfield 54, 3), (41, .baload, 1), (42, .bipush 10, 2), (44, .if_icmp .ne 16, 3), (47, .aload_n 0, 1), (48, .dup, 1), (49, .getfield 54, 3), (52, .iconst 1, 1), (53, .iadd, 1), (54, .putfield 54, 3), (57, .goto (-49), 3), (60, .aload_n 0, 1), (61, .aload_n 0, 1), (62, .getfield 54, 3), (65, .putfield 47, 3), (68, .aload_n 0, 1), (69, .getfield 54, 3), (72, .aload_n 0, 1), (73, .getfield 38, 3), (76, .if_icmp .lt 6, 3), (79, .bipush 21, 2), (81, .ireturn, 1), (82, .aload_n 0, 1), (83, .getfield 25, 3), (86, .aload_n 0, 1), (87, .getfield 54, 3), (90, .baload, 1), (91, .istore_n 1, 1), (92, .iload_n 1, 1), (93, .invokestatic 72, 3), (96, .ifCond .eq 63, 3), (99, .aload_n 0, 1), (100, .getfield 47, 3), (103, .aload_n 0, 1), (104, .getfield 38, 3), (107, .if_icmp .ge 31, 3), (110, .aload_n 0, 1), (111, .getfield 25, 3), (114, .aload_n 0, 1), (115, .getfield 47, 3), (118, .baload, 1)]
def k_Tok_splitNext_1 : List (Nat × Jvm.ClassFile.Instr × Nat) := [(119, .invokestatic 72, 3), (122, .ifCond .eq 16, 3), (125, .aload_n 0, 1), (126, .dup, 1), (127, .getfield 47, 3), (130, .iconst 1, 1), (131, .iadd, 1), (132, .putfield 47, 3), (135, .goto (-36), 3), (138, .aload_n 0, 1), (139, .getfield 47, 3), (142, .aload_n 0, 1), (143, .getfield 54, 3), (146, .isub, 1), (147, .iconst 3, 1), (148, .if_icmp .gt 8, 3), (151, .bipush 20, 2), (153, .goto 5, 3), (156, .bipush 22, 2), (158, .ireturn, 1), (159, .iload_n 1, 1), (160, .invokestatic 76, 3), (163, .ifCond .eq 47, 3), (166, .aload_n 0, 1), (167, .getfield 47, 3), (170, .aload_n 0, 1), (171, .getfield 38, 3), (174, .if_icmp .ge 31, 3), (177, .aload_n 0, 1), (178, .getfield 25, 3), (181, .aload_n 0, 1), (182, .getfield 47, 3), (185, .baload, 1), (186, .invokestatic 76, 3), (189, .ifCond .eq 16, 3), (192, .aload_n 0, 1), (193, .dup, 1), (194, .getfield 47, 3), (197, .iconst 1, 1), (198, .iadd, 1), (199, .putfield 47, 3), (202, .goto (-36), 3), (205, .aload_n 0, 1), (206, .invokevirtual 79, 3), (209, .ireturn, 1), (210, .aload_n 0, 1), (211, .aload_n 0, 1), (212, .getfield 54, 3), (215, .iconst 1, 1), (216, .iadd, 1), (217, .putfield 47, 3), (220, .iload_n 1, 1), (221, .ifCond .le 17, 3), (224, .ldc 82, 2), (226, .iload_n 1, 1), (227, .i2c, 1), (228, .invokevirtual 84, 3), (231, .ifCond .lt 7, 3), (234, .iload_n 1, 1), (235, .goto 5, 3)]
def k_Tok_splitNext_2 : List (Nat × Jvm.ClassFile.Instr × Nat) := [(238, .bipush 22, 2), (240, .ireturn, 1)]
def k_Tok_splitNext : List (Nat × Jvm.ClassFile.Instr × Nat) := k_Tok_splitNext_0 ++ (k_Tok_splitNext_1 ++ (k_Tok_splitNext_2))
def k_Tok_readNumber : List (Nat × Jvm.ClassFile.Instr × Nat) := [(0, .iconst 0, 1), (1, .istore_n 1, 1), (2, .aload_n 0, 1), (3, .getfield 54, 3), (6, .istore_n 2, 1), (7, .iload_n 2, 1), (8, .aload_n 0, 1), (9, .getfield 47, 3), (12, .if_icmp .ge 32, 3), (15, .iload_n 2, 1), (16, .aload_n 0, 1), (17, .getfield 38, 3), (20, .if_icmp .ge 24, 3), (23, .iload_n 1, 1), (24, .bipush 10, 2), (26, .imul, 1), (27, .aload_n 0, 1), (28, .getfield 25, 3), (31, .iload_n 2, 1), (32, .baload, 1), (33, .iadd, 1), (34, .bipush 48, 2), (36, .isub, 1), (37, .istore_n 1, 1), (38, .iinc 2 1, 3), (41, .goto (-34), 3), (44, .iload_n 1, 1), (45, .ireturn, 1)]
def k_Tok_advance : List (Nat × Jvm.ClassFile.Instr × Nat) := [(0, .aload_n 0, 1), (1, .getfield 60, 3), (4, .iconst 1, 1), (5, .iadd, 1), (6, .aload_n 0, 1), (7, .getfield 44, 3), (10, .if_icmp .ge 39, 3), (13, .aload_n 0, 1), (14, .dup, 1), (15, .getfield 60, 3), (18, .iconst 1, 1), (19, .iadd, 1), (20, .putfield 60, 3), (23, .aload_n 0, 1), (24, .aload_n 0, 1), (25, .getfield 9, 3), (28, .aload_n 0, 1), (29, .getfield 60, 3), (32, .iaload, 1), (33, .putfield 66, 3), (36, .aload_n 0, 1), (37, .aload_n 0, 1), (38, .getfield 15, 3), (41, .aload_n 0, 1), (42, .getfield 60, 3), (45, .iaload, 1), (46, .putfield 69, 3), (49, .return_, 1)]
def k_RR_readWall : List (Nat × Jvm.ClassFile.Instr × Nat) := [(0, .aload_n 0, 1), (1, .getfield 18, 3), (4, .bipush 10, 2), (6, .invokevirtual 47, 3), (9, .ifCond .ne 5, 3), (12, .iconst 0, 1), (13, .ireturn, 1), (14, .aload_n 0, 1), (15, .getfield 18, 3), (18, .iconst 1, 1), (19, .iconst 3, 1), (20, .invokevirtual 51, 3), (23, .istore_n 1, 1), (24, .iload_n 1, 1), (25, .iconst (-1), 1), (26, .if_icmp .ne 7, 3), (29, .iconst (-1), 1), (30, .goto 12, 3), (33, .aload_n 0, 1), (34, .getfield 18, 3), (37, .iconst 1, 1), (38, .iconst 3, 1), (39, .invokevirtual 51, 3), (42, .istore_n 2, 1), (43, .iload_n 2, 1), (44, .iconst (-1), 1), (45, .if_icmp .ne 5, 3), (48, .iconst 0, 1), (49, .ireturn, 1), (50, .aload_n 0, 1), (51, .getfield 22, 3), (54, .iload_n 1, 1), (55, .iload_n 2, 1), (56, .invokevirtual 55, 3), (59, .aload_n 0, 1), (60, .getfield 18, 3), (63, .bipush 59, 2), (65, .invokevirtual 47, 3), (68, .ireturn, 1)]
def k_RR_readLine_0 : List (Nat × Jvm.ClassFile.Instr × Nat) := [(0, .aload_n 0, 1), (1, .getfield 18, 3), (4, .getfield 39, 3), (7, .istore_n 1, 1), (8, .iload_n 1, 1), (9, .iconst 1, 1), (10, .if_icmp .ne 23, 3), (13, .aload_n 0, 1), (14, .getfield 22, 3), (17, .getfield 59, 3), (20, .iconst 4, 1), (21, .if_icmp .lt 12, 3), (24, .aload_n 0, 1), (25, .getfield 18, 3), (28, .iconst 4, 1), (29, .invokevirtual 62, 3), (32, .ireturn, 1), (33, .iload_n 1, 1), (34, .invokestatic 65, 3), (37, .ifCond .ne 12, 3), (40, .aload_n 0, 1), (41, .getfield 18, 3), (44, .iconst 2, 1), (45, .invokevirtual 62, 3), (48, .ireturn, 1), (49, .aload_n 0, 1), (50, .getfield 18, 3), (53, .invokevirtual 68, 3), (56, .iload_n 1, 1), (57, .tableswitch 170 1 15 #[80, 170, 170, 170, 170, 170, 170, 85, 170, 170, 75, 170, 170, 90, 130], 75), (132, .aload_n 0, 1), (133, .invokevirtual 71, 3), (136, .ireturn, 1), (137, .aload_n 0, 1), (138, .invokevirtual 74, 3), (141, .ireturn, 1), (142, .aload_n 0, 1), (143, .invokevirtual 77, 3), (146, .ireturn, 1), (147, .aload_n 0, 1), (148, .getfield 18, 3), (151, .bipush 58, 2), (153, .invokevirtual 47, 3), (156, .ifCond .eq 29, 3), (159, .aload_n 0, 1), (160, .getfield 12, 3), (163, .aload_n 0, 1), (164, .getfield 18, 3), (167, .aload_n 0, 1), (168, .getfield 22, 3), (171, .getfield 80, 3), (174, .iconst 1, 1), (175, .invokevirtual 84, 3), (178, .ifCond .eq 7, 3), (181, .iconst 1, 1), (182, .goto 4, 3), (185, .iconst 0, 1), (186, .ireturn, 1), (187, .aload_n 0, 1), (188, .getfield 18, 3)]
def k_RR_readLine_1 : List (Nat × Jvm.ClassFile.Instr × Nat) := [(191, .bipush 58, 2), (193, .invokevirtual 47, 3), (196, .ifCond .eq 29, 3), (199, .aload_n 0, 1), (200, .getfield 12, 3), (203, .aload_n 0, 1), (204, .getfield 18, 3), (207, .aload_n 0, 1), (208, .getfield 22, 3), (211, .getfield 88, 3), (214, .iconst 0, 1), (215, .invokevirtual 84, 3), (218, .ifCond .eq 7, 3), (221, .iconst 1, 1), (222, .goto 4, 3), (225, .iconst 0, 1), (226, .ireturn, 1), (227, .aload_n 0, 1), (228, .iload_n 1, 1), (229, .invokevirtual 91, 3), (232, .ireturn, 1)]
def k_RR_readLine : List (Nat × Jvm.ClassFile.Instr × Nat) := k_RR_readLine_0 ++ (k_RR_readLine_1)
def k_Tok_pass : List (Nat × Jvm.ClassFile.Instr × Nat) := [(0, .aload_n 0, 1), (1, .getfield 66, 3), (4, .iload_n 1, 1), (5, .if_icmp .eq 9, 3), (8, .aload_n 0, 1), (9, .iconst 2, 1), (10, .invokevirtual 140, 3), (13, .ireturn, 1), (14, .aload_n 0, 1), (15, .invokevirtual 63, 3), (18, .iconst 1, 1), (19, .ireturn, 1)]
def k_Mo_see : List (Nat × Jvm.ClassFile.Instr × Nat) := [(0, .iload_n 1, 1), (1, .aload_n 0, 1), (2, .getfield 80, 3), (5, .if_icmp .ge 12, 3), (8, .aload_n 0, 1), (9, .getfield 21, 3), (12, .iload_n 1, 1), (13, .iaload, 1), (14, .goto 4, 3), (17, .iconst (-1), 1), (18, .ireturn, 1)]
def k_Mo_isSmall : List (Nat × Jvm.ClassFile.Instr × Nat) := [(0, .iload_n 0, 1), (1, .bipush 97, 2), (3, .if_icmp .lt 13, 3), (6, .iload_n 0, 1), (7, .bipush 122, 2), (9, .if_icmp .gt 7, 3), (12, .iconst 1, 1), (13, .goto 4, 3), (16, .iconst 0, 1), (17, .ireturn, 1)]
def k_Mo_keyAt_0 : List (Nat × Jvm.ClassFile.Instr × Nat) := [(0, .iconst 0, 1), (1, .istore_n 1, 1), (2, .iconst 1, 1), (3, .istore_n 2, 1), (4, .iload_n 2, 1), (5, .ldc 83, 2), (7, .invokevirtual 85, 3), (10, .if_icmp .ge 113, 3), (13, .iconst 0, 1), (14, .istore_n 3, 1), (15, .ldc 83, 2), (17, .iload_n 2, 1), (18, .iload_n 3, 1), (19, .iadd, 1), (20, .invokevirtual 91, 3), (23, .bipush 32, 2), (25, .if_icmp .eq 44, 3), (28, .aload_n 0, 1), (29, .getfield 95, 3), (32, .iload_n 3, 1), (33, .iadd, 1), (34, .aload_n 0, 1), (35, .getfield 98, 3), (38, .if_icmp .ge 31, 3), (41, .aload_n 0, 1), (42, .getfield 21, 3), (45, .aload_n 0, 1), (46, .getfield 95, 3), (49, .iload_n 3, 1), (50, .iadd, 1), (51, .iaload, 1), (52, .ldc 83, 2), (54, .iload_n 2, 1), (55, .iload_n 3, 1), (56, .iadd, 1), (57, .invokevirtual 91, 3), (60, .if_icmp .ne 9, 3), (63, .iinc 3 1, 3), (66, .goto (-51), 3), (69, .ldc 83, 2), (71, .iload_n 2, 1), (72, .iload_n 3, 1), (73, .iadd, 1), (74, .invokevirtual 91, 3), (77, .bipush 32, 2), (79, .if_icmp .ne 18, 3), (82, .aload_n 0, 1), (83, .getfield 95, 3), (86, .iload_n 3, 1), (87, .iadd, 1), (88, .aload_n 0, 1), (89, .getfield 98, 3), (92, .if_icmp .ne 5, 3), (95, .iload_n 1, 1), (96, .ireturn, 1), (97, .ldc 83, 2), (99, .iload_n 2, 1), (100, .invokevirtual 91, 3), (103, .bipush 32, 2), (105, .if_icmp .eq 9, 3)]
def k_Mo_keyAt_1 : List (Nat × Jvm.ClassFile.Instr × Nat) := [(108, .iinc 2 1, 3), (111, .goto (-14), 3), (114, .iinc 2 1, 3), (117, .iinc 1 1, 3), (120, .goto (-116), 3), (123, .bipush 22, 2), (125, .ireturn, 1)]
def k_Mo_keyAt : List (Nat × Jvm.ClassFile.Instr × Nat) := k_Mo_keyAt_0 ++ (k_Mo_keyAt_1)
def k_Mo_isDigit : List (Nat × Jvm.ClassFile.Instr × Nat) := [(0, .iload_n 0, 1), (1, .bipush 48, 2), (3, .if_icmp .lt 13, 3), (6, .iload_n 0, 1), (7, .bipush 57, 2), (9, .if_icmp .gt 7, 3), (12, .iconst 1, 1), (13, .goto 4, 3), (16, .iconst 0, 1), (17, .ireturn, 1)]
def k_Str_length : List (Nat × Jvm.ClassFile.Instr × Nat) := [(0, .aload_n 0, 1), (1, .getfield 9, 3), (4, .arraylength, 1), (5, .aload_n 0, 1), (6, .invokevirtual 335, 3), (9, .ishr, 1), (10, .ireturn, 1)]
def k_Str_charAt : List (Nat × Jvm.ClassFile.Instr × Nat) := [(0, .aload_n 0, 1), (1, .invokevirtual 492, 3), (4, .ifCond .eq 12, 3), (7, .aload_n 0, 1), (8, .getfield 9, 3), (11, .iload_n 1, 1), (12, .invokestatic 495, 3), (15, .ireturn, 1), (16, .aload_n 0, 1), (17, .getfield 9, 3), (20, .iload_n 1, 1), (21, .invokestatic 498, 3), (24, .ireturn, 1)]
def k_Mo_is : List (Nat × Jvm.ClassFile.Instr × Nat) := [(0, .aload_n 0, 1), (1, .getfield 123, 3), (4, .ifCond .ne 15, 3), (7, .aload_n 0, 1), (8, .getfield 105, 3), (11, .iload_n 1, 1), (12, .if_icmp .ne 7, 3), (15, .iconst 1, 1), (16, .goto 4, 3), (19, .iconst 0, 1), (20, .ireturn, 1)]
def k_Mo_readRow : List (Nat × Jvm.ClassFile.Instr × Nat) := [(0, .aload_n 0, 1), (1, .invokevirtual 132, 3), (4, .aload_n 0, 1), (5, .iconst 0, 1), (6, .aload_n 0, 1), (7, .getfield 24, 3), (10, .iconst 1, 1), (11, .iaload, 1), (12, .iconst 1, 1), (13, .isub, 1), (14, .invokevirtual 179, 3), (17, .istore_n 1, 1), (18, .iconst 0, 1), (19, .istore_n 2, 1), (20, .iload_n 2, 1), (21, .aload_n 0, 1), (22, .getfield 24, 3), (25, .iconst 2, 1), (26, .iaload, 1), (27, .if_icmp .ge 41, 3), (30, .aload_n 0, 1), (31, .getfield 123, 3), (34, .ifCond .ne 34, 3), (37, .aload_n 0, 1), (38, .getfield 24, 3), (41, .bipush 12, 2), (43, .aload_n 0, 1), (44, .getfield 24, 3), (47, .iconst 2, 1), (48, .iaload, 1), (49, .iload_n 1, 1), (50, .imul, 1), (51, .iadd, 1), (52, .iload_n 2, 1), (53, .iadd, 1), (54, .aload_n 0, 1), (55, .iconst 0, 1), (56, .bipush 9, 2), (58, .invokevirtual 179, 3), (61, .iastore, 1), (62, .iinc 2 1, 3), (65, .goto (-45), 3), (68, .return_, 1)]
def k_Mo_readTenant : List (Nat × Jvm.ClassFile.Instr × Nat) := [(0, .aload_n 0, 1), (1, .getfield 24, 3), (4, .iconst 3, 1), (5, .iaload, 1), (6, .istore_n 1, 1), (7, .iload_n 1, 1), (8, .iconst 4, 1), (9, .if_icmp .ne 8, 3), (12, .aload_n 0, 1), (13, .iconst 4, 1), (14, .invokevirtual 135, 3), (17, .aload_n 0, 1), (18, .getfield 123, 3), (21, .ifCond .eq 4, 3), (24, .return_, 1), (25, .aload_n 0, 1), (26, .invokevirtual 132, 3), (29, .aload_n 0, 1), (30, .getfield 24, 3), (33, .bipush 21, 2), (35, .iload_n 1, 1), (36, .iadd, 1), (37, .bipush 9, 2), (39, .iastore, 1), (40, .aload_n 0, 1), (41, .getfield 123, 3), (44, .ifCond .ne 30, 3), (47, .aload_n 0, 1), (48, .iconst 3, 1), (49, .invokevirtual 161, 3), (52, .ifCond .eq 22, 3), (55, .aload_n 0, 1), (56, .getfield 24, 3), (59, .bipush 21, 2), (61, .iload_n 1, 1), (62, .iadd, 1), (63, .aload_n 0, 1), (64, .iconst 0, 1), (65, .bipush 9, 2), (67, .invokevirtual 179, 3), (70, .iastore, 1), (71, .goto (-31), 3), (74, .aload_n 0, 1), (75, .getfield 123, 3), (78, .ifCond .ne 13, 3), (81, .aload_n 0, 1), (82, .getfield 24, 3), (85, .iconst 3, 1), (86, .dup2, 1), (87, .iaload, 1), (88, .iconst 1, 1), (89, .iadd, 1), (90, .iastore, 1), (91, .return_, 1)]
def k_Mo_readRose : List (Nat × Jvm.ClassFile.Instr × Nat) := [(0, .iconst 1, 1), (1, .aload_n 0, 1), (2, .iconst 0, 1), (3, .aload_n 0, 1), (4, .getfield 24, 3), (7, .iconst 1, 1), (8, .iaload, 1), (9, .aload_n 0, 1), (10, .getfield 24, 3), (13, .iconst 2, 1), (14, .iaload, 1), (15, .imul, 1), (16, .iconst 1, 1), (17, .isub, 1), (18, .invokevirtual 179, 3), (21, .ishl, 1), (22, .ireturn, 1)]
def k_Mo_readFace : List (Nat × Jvm.ClassFile.Instr × Nat) := [(0, .aload_n 0, 1), (1, .invokevirtual 132, 3), (4, .aload_n 0, 1), (5, .invokevirtual 183, 3), (8, .istore_n 1, 1), (9, .aload_n 0, 1), (10, .getfield 123, 3), (13, .ifCond .ne 22, 3), (16, .aload_n 0, 1), (17, .bipush 23, 2), (19, .invokevirtual 129, 3), (22, .ifCond .eq 13, 3), (25, .iload_n 1, 1), (26, .aload_n 0, 1), (27, .invokevirtual 183, 3), (30, .ior, 1), (31, .istore_n 1, 1), (32, .goto (-23), 3), (35, .aload_n 0, 1), (36, .getfield 123, 3), (39, .ifCond .ne 10, 3), (42, .aload_n 0, 1), (43, .getfield 24, 3), (46, .iconst 4, 1), (47, .iload_n 1, 1), (48, .iastore, 1), (49, .return_, 1)]
def k_Mo_readLaw : List (Nat × Jvm.ClassFile.Instr × Nat) := [(0, .aload_n 0, 1), (1, .invokevirtual 132, 3), (4, .aload_n 0, 1), (5, .bipush 31, 2), (7, .invokevirtual 161, 3), (10, .ifCond .ne 8, 3), (13, .aload_n 0, 1), (14, .iconst 2, 1), (15, .invokevirtual 135, 3), (18, .aload_n 0, 1), (19, .getfield 24, 3), (22, .bipush 70, 2), (24, .iaload, 1), (25, .istore_n 2, 1), (26, .aload_n 0, 1), (27, .iload_n 1, 1), (28, .putfield 143, 3), (31, .aload_n 0, 1), (32, .iconst 0, 1), (33, .invokevirtual 173, 3), (36, .aload_n 0, 1), (37, .getfield 123, 3), (40, .ifCond .eq 4, 3), (43, .return_, 1), (44, .aload_n 0, 1), (45, .getfield 24, 3), (48, .bipush 6, 2), (50, .iload_n 1, 1), (51, .iadd, 1), (52, .iconst 1, 1), (53, .iastore, 1), (54, .aload_n 0, 1), (55, .getfield 24, 3), (58, .bipush 8, 2), (60, .iload_n 1, 1), (61, .iadd, 1), (62, .iload_n 2, 1), (63, .iastore, 1), (64, .aload_n 0, 1), (65, .getfield 24, 3), (68, .bipush 10, 2), (70, .iload_n 1, 1), (71, .iadd, 1), (72, .aload_n 0, 1), (73, .getfield 24, 3), (76, .bipush 70, 2), (78, .iaload, 1), (79, .iload_n 2, 1), (80, .isub, 1), (81, .iastore, 1), (82, .return_, 1)]
def k_Stp_learnTurning_0 : List (Nat × Jvm.ClassFile.Instr × Nat) := [(0, .iload_n 1, 1), (1, .ifCond .lt 12, 3), (4, .iload_n 1, 1), (5, .aload_n 0, 1), (6, .getfield 9, 3), (9, .arraylength, 1), (10, .if_icmp .lt 5, 3), (13, .lconst 0, 1), (14, .lreturn, 1), (15, .iload_n 1, 1), (16, .bipush 9, 2), (18, .irem, 1), (19, .istore_n 3, 1), (20, .iload_n 1, 1), (21, .bipush 9, 2), (23, .idiv, 1), (24, .istore 4, 2), (26, .iload 4, 2), (28, .iconst 2, 1), (29, .idiv, 1), (30, .iconst 5, 1), (31, .irem, 1), (32, .istore 5, 2), (34, .aload_n 0, 1), (35, .getfield 20, 3), (38, .iconst 0, 1), (39, .iload 4, 2), (41, .iconst 2, 1), (42, .irem, 1), (43, .iastore, 1), (44, .aload_n 0, 1), (45, .getfield 20, 3), (48, .iconst 1, 1), (49, .iload 5, 2), (51, .iconst 4, 1), (52, .if_icmp .ne 8, 3), (55, .bipush 9, 2), (57, .goto 5, 3), (60, .iload 5, 2), (62, .iastore, 1), (63, .aload_n 0, 1), (64, .getfield 20, 3), (67, .iconst 2, 1), (68, .iload_n 3, 1), (69, .iastore, 1), (70, .aload_n 0, 1), (71, .getfield 20, 3), (74, .iconst 3, 1), (75, .aload_n 0, 1), (76, .getfield 30, 3), (79, .getfield 77, 3), (82, .iload_n 3, 1), (83, .iaload, 1), (84, .iastore, 1), (85, .aload_n 0, 1), (86, .getfield 20, 3), (89, .iconst 4, 1), (90, .iload_n 2, 1), (91, .iconst 2, 1), (92, .idiv, 1)]
def k_Stp_learnTurning_1 : List (Nat × Jvm.ClassFile.Instr × Nat) := [(93, .iastore, 1), (94, .aload_n 0, 1), (95, .getfield 20, 3), (98, .iconst 5, 1), (99, .iload_n 2, 1), (100, .iconst 2, 1), (101, .irem, 1), (102, .iastore, 1), (103, .aload_n 0, 1), (104, .getfield 20, 3), (107, .bipush 6, 2), (109, .iload 4, 2), (111, .iconst 2, 1), (112, .idiv, 1), (113, .iconst 5, 1), (114, .idiv, 1), (115, .iastore, 1), (116, .aload_n 0, 1), (117, .getfield 30, 3), (120, .getfield 80, 3), (123, .invokevirtual 84, 3), (126, .ifCond .eq 20, 3), (129, .aload_n 0, 1), (130, .getfield 30, 3), (133, .getfield 80, 3), (136, .aload_n 0, 1), (137, .getfield 20, 3), (140, .invokevirtual 90, 3), (143, .goto 22, 3), (146, .iload_n 2, 1), (147, .iconst 2, 1), (148, .idiv, 1), (149, .iconst 1, 1), (150, .if_icmp .lt 14, 3), (153, .iload_n 2, 1), (154, .iconst 2, 1), (155, .idiv, 1), (156, .iconst 3, 1), (157, .if_icmp .gt 7, 3), (160, .iconst 1, 1), (161, .goto 4, 3), (164, .iconst 0, 1), (165, .istore 6, 2), (167, .aload_n 0, 1), (168, .getfield 9, 3), (171, .iload_n 1, 1), (172, .dup2, 1), (173, .laload, 1), (174, .lconst 1, 1), (175, .iload_n 2, 1), (176, .lshl, 1), (177, .iload 6, 2), (179, .ifCond .eq 12, 3), (182, .lconst 1, 1), (183, .iload_n 2, 1), (184, .bipush 32, 2), (186, .iadd, 1), (187, .lshl, 1), (188, .goto 4, 3), (191, .lconst 0, 1)]
def k_Stp_learnTurning_2 : List (Nat × Jvm.ClassFile.Instr × Nat) := [(192, .lor, 1), (193, .lor, 1), (194, .lastore, 1), (195, .aload_n 0, 1), (196, .getfield 9, 3), (199, .iload_n 1, 1), (200, .laload, 1), (201, .lreturn, 1)]
def k_Stp_learnTurning : List (Nat × Jvm.ClassFile.Instr × Nat) := k_Stp_learnTurning_0 ++ (k_Stp_learnTurning_1 ++ (k_Stp_learnTurning_2))
def k_Mo_isIn : List (Nat × Jvm.ClassFile.Instr × Nat) := [(0, .lload_n 0, 1), (1, .iload_n 2, 1), (2, .lshr, 1), (3, .lconst 1, 1), (4, .land, 1), (5, .lconst 1, 1), (6, .lcmp, 1), (7, .ifCond .ne 7, 3), (10, .iconst 1, 1), (11, .goto 4, 3), (14, .iconst 0, 1), (15, .ireturn, 1)]
def k_Mo_reckons_0 : List (Nat × Jvm.ClassFile.Instr × Nat) := [(0, .iconst 0, 1), (1, .istore_n 2, 1), (2, .iconst 0, 1), (3, .istore_n 3, 1), (4, .iload_n 3, 1), (5, .aload_n 0, 1), (6, .getfield 13, 3), (9, .bipush 10, 2), (11, .iload_n 1, 1), (12, .iadd, 1), (13, .iaload, 1), (14, .if_icmp .ge 133, 3), (17, .aload_n 0, 1), (18, .getfield 13, 3), (21, .bipush 71, 2), (23, .aload_n 0, 1), (24, .getfield 13, 3), (27, .bipush 8, 2), (29, .iload_n 1, 1), (30, .iadd, 1), (31, .iaload, 1), (32, .iadd, 1), (33, .iload_n 3, 1), (34, .iadd, 1), (35, .iaload, 1), (36, .istore 4, 2), (38, .iload 4, 2), (40, .sipush 3000, 3), (43, .if_icmp .ge 39, 3), (46, .aload_n 0, 1), (47, .getfield 30, 3), (50, .iload_n 2, 1), (51, .iload 4, 2), (53, .sipush 1000, 3), (56, .if_icmp .ge 8, 3), (59, .iload 4, 2), (61, .goto 14, 3), (64, .aload_n 0, 1), (65, .getfield 33, 3), (68, .iload 4, 2), (70, .sipush 1000, 3), (73, .isub, 1), (74, .iaload, 1), (75, .iastore, 1), (76, .iinc 2 1, 3), (79, .goto 62, 3), (82, .iload 4, 2), (84, .sipush 3006, 3), (87, .if_icmp .ne 24, 3), (90, .aload_n 0, 1), (91, .getfield 30, 3), (94, .iload_n 2, 1), (95, .iconst 1, 1), (96, .isub, 1), (97, .iconst 1, 1), (98, .aload_n 0, 1), (99, .getfield 30, 3), (102, .iload_n 2, 1), (103, .iconst 1, 1), (104, .isub, 1)]
def k_Mo_reckons_1 : List (Nat × Jvm.ClassFile.Instr × Nat) := [(105, .iaload, 1), (106, .isub, 1), (107, .iastore, 1), (108, .goto 33, 3), (111, .iinc 2 (-1), 3), (114, .aload_n 0, 1), (115, .getfield 30, 3), (118, .iload_n 2, 1), (119, .iconst 1, 1), (120, .isub, 1), (121, .iload 4, 2), (123, .aload_n 0, 1), (124, .getfield 30, 3), (127, .iload_n 2, 1), (128, .iconst 1, 1), (129, .isub, 1), (130, .iaload, 1), (131, .aload_n 0, 1), (132, .getfield 30, 3), (135, .iload_n 2, 1), (136, .iaload, 1), (137, .invokestatic 220, 3), (140, .iastore, 1), (141, .iinc 3 1, 3), (144, .goto (-140), 3), (147, .aload_n 0, 1), (148, .getfield 30, 3), (151, .iconst 0, 1), (152, .iaload, 1), (153, .iconst 1, 1), (154, .if_icmp .ne 7, 3), (157, .iconst 1, 1), (158, .goto 4, 3), (161, .iconst 0, 1), (162, .ireturn, 1)]
def k_Mo_reckons : List (Nat × Jvm.ClassFile.Instr × Nat) := k_Mo_reckons_0 ++ (k_Mo_reckons_1)
def k_Lw_isTold : List (Nat × Jvm.ClassFile.Instr × Nat) := [(0, .aload_n 0, 1), (1, .getfield 18, 3), (4, .ifCond .le 7, 3), (7, .iconst 1, 1), (8, .goto 4, 3), (11, .iconst 0, 1), (12, .ireturn, 1)]
def k_Lw_holds_0 : List (Nat × Jvm.ClassFile.Instr × Nat) := [(0, .iconst 0, 1), (1, .istore_n 2, 1), (2, .iconst 0, 1), (3, .istore_n 3, 1), (4, .iload_n 3, 1), (5, .aload_n 0, 1), (6, .getfield 18, 3), (9, .if_icmp .ge 145, 3), (12, .iload_n 3, 1), (13, .sipush 900, 3), (16, .if_icmp .ge 138, 3), (19, .aload_n 0, 1), (20, .getfield 9, 3), (23, .iload_n 3, 1), (24, .iaload, 1), (25, .istore 4, 2), (27, .iload 4, 2), (29, .ifCond .ge 12, 3), (32, .iload 4, 2), (34, .iconst (-1), 1), (35, .ixor, 1), (36, .aload_n 1, 1), (37, .arraylength, 1), (38, .if_icmp .ge 37, 3), (41, .iload_n 2, 1), (42, .bipush 40, 2), (44, .if_icmp .ge 104, 3), (47, .aload_n 0, 1), (48, .getfield 15, 3), (51, .iload_n 2, 1), (52, .iinc 2 1, 3), (55, .iload 4, 2), (57, .ifCond .lt 8, 3), (60, .iload 4, 2), (62, .goto 9, 3), (65, .aload_n 1, 1), (66, .iload 4, 2), (68, .iconst (-1), 1), (69, .ixor, 1), (70, .iaload, 1), (71, .iastore, 1), (72, .goto 76, 3), (75, .iload 4, 2), (77, .iconst (-1), 1), (78, .ixor, 1), (79, .bipush 18, 2), (81, .if_icmp .ne 28, 3), (84, .iload_n 2, 1), (85, .ifCond .le 63, 3), (88, .aload_n 0, 1), (89, .getfield 15, 3), (92, .iload_n 2, 1), (93, .iconst 1, 1), (94, .isub, 1), (95, .iconst 1, 1), (96, .aload_n 0, 1), (97, .getfield 15, 3), (100, .iload_n 2, 1), (101, .iconst 1, 1), (102, .isub, 1)]
def k_Lw_holds_1 : List (Nat × Jvm.ClassFile.Instr × Nat) := [(103, .iaload, 1), (104, .isub, 1), (105, .iastore, 1), (106, .goto 42, 3), (109, .iload_n 2, 1), (110, .iconst 1, 1), (111, .if_icmp .le 37, 3), (114, .iinc 2 (-1), 3), (117, .aload_n 0, 1), (118, .getfield 15, 3), (121, .iload_n 2, 1), (122, .iconst 1, 1), (123, .isub, 1), (124, .iload 4, 2), (126, .iconst (-1), 1), (127, .ixor, 1), (128, .aload_n 0, 1), (129, .getfield 15, 3), (132, .iload_n 2, 1), (133, .iconst 1, 1), (134, .isub, 1), (135, .iaload, 1), (136, .i2l, 1), (137, .aload_n 0, 1), (138, .getfield 15, 3), (141, .iload_n 2, 1), (142, .iaload, 1), (143, .i2l, 1), (144, .invokestatic 24, 3), (147, .iastore, 1), (148, .iinc 3 1, 3), (151, .goto (-147), 3), (154, .iload_n 2, 1), (155, .ifCond .le 18, 3), (158, .aload_n 0, 1), (159, .getfield 15, 3), (162, .iload_n 2, 1), (163, .iconst 1, 1), (164, .isub, 1), (165, .iaload, 1), (166, .ifCond .eq 7, 3), (169, .iconst 1, 1), (170, .goto 4, 3), (173, .iconst 0, 1), (174, .ireturn, 1)]
def k_Lw_holds : List (Nat × Jvm.ClassFile.Instr × Nat) := k_Lw_holds_0 ++ (k_Lw_holds_1)
def k_Mom_goTo : List (Nat × Jvm.ClassFile.Instr × Nat) := [(0, .aload_n 0, 1), (1, .iload_n 1, 1), (2, .sipush 511, 3), (5, .iand, 1), (6, .putfield 20, 3), (9, .aload_n 0, 1), (10, .iload_n 1, 1), (11, .bipush 9, 2), (13, .ishr, 1), (14, .iconst 4, 1), (15, .if_icmp .ne 7, 3), (18, .iconst (-1), 1), (19, .goto 7, 3), (22, .iload_n 1, 1), (23, .bipush 9, 2), (25, .ishr, 1), (26, .putfield 9, 3), (29, .return_, 1)]
def k_Mat_floorMod : List (Nat × Jvm.ClassFile.Instr × Nat) := [(0, .iload_n 0, 1), (1, .iload_n 1, 1), (2, .irem, 1), (3, .istore_n 2, 1), (4, .iload_n 0, 1), (5, .iload_n 1, 1), (6, .ixor, 1), (7, .ifCond .ge 11, 3), (10, .iload_n 2, 1), (11, .ifCond .eq 7, 3), (14, .iload_n 2, 1), (15, .iload_n 1, 1), (16, .iadd, 1), (17, .ireturn, 1), (18, .iload_n 2, 1), (19, .ireturn, 1)]
def k_RW_doLet : List (Nat × Jvm.ClassFile.Instr × Nat) := [(0, .aload_n 0, 1), (1, .getfield 93, 3), (4, .iload_n 2, 1), (5, .invokevirtual 165, 3), (8, .ifCond .ne 5, 3), (11, .iconst 1, 1), (12, .ireturn, 1), (13, .aload_n 1, 1), (14, .getfield 171, 3), (17, .iconst (-1), 1), (18, .if_icmp .eq 5, 3), (21, .iconst 2, 1), (22, .ireturn, 1), (23, .aload_n 1, 1), (24, .iload_n 2, 1), (25, .putfield 171, 3), (28, .iconst 0, 1), (29, .ireturn, 1)]
def k_Mo_draw : List (Nat × Jvm.ClassFile.Instr × Nat) := [(0, .aload_n 0, 1), (1, .ldc_w 315, 3), (4, .aload_n 0, 1), (5, .getfield 316, 3), (8, .imul, 1), (9, .sipush 12345, 3), (12, .iadd, 1), (13, .putfield 316, 3), (16, .aload_n 0, 1), (17, .getfield 316, 3), (20, .bipush 16, 2), (22, .iushr, 1), (23, .iload_n 1, 1), (24, .irem, 1), (25, .ireturn, 1)]
def k_Rch_nodeOf : List (Nat × Jvm.ClassFile.Instr × Nat) := [(0, .iload_n 1, 1), (1, .ifCond .lt 10, 3), (4, .iload_n 1, 1), (5, .sipush 2560, 3), (8, .if_icmp .lt 5, 3), (11, .iconst (-1), 1), (12, .ireturn, 1), (13, .aload_n 0, 1), (14, .getfield 21, 3), (17, .iload_n 1, 1), (18, .iaload, 1), (19, .istore_n 2, 1), (20, .iload_n 2, 1), (21, .ifCond .lt 25, 3), (24, .iload_n 2, 1), (25, .aload_n 0, 1), (26, .getfield 30, 3), (29, .if_icmp .ge 17, 3), (32, .aload_n 0, 1), (33, .getfield 9, 3), (36, .iload_n 2, 1), (37, .iaload, 1), (38, .iload_n 1, 1), (39, .if_icmp .ne 7, 3), (42, .iload_n 2, 1), (43, .goto 4, 3), (46, .iconst (-1), 1), (47, .ireturn, 1)]
def k_Rch_add : List (Nat × Jvm.ClassFile.Instr × Nat) := [(0, .aload_n 0, 1), (1, .getfield 30, 3), (4, .sipush 1024, 3), (7, .if_icmp .ge 14, 3), (10, .iload_n 1, 1), (11, .ifCond .lt 10, 3), (14, .iload_n 1, 1), (15, .sipush 2560, 3), (18, .if_icmp .lt 5, 3), (21, .iconst 0, 1), (22, .ireturn, 1), (23, .aload_n 0, 1), (24, .getfield 9, 3), (27, .aload_n 0, 1), (28, .getfield 30, 3), (31, .iload_n 1, 1), (32, .iastore, 1), (33, .aload_n 0, 1), (34, .getfield 18, 3), (37, .aload_n 0, 1), (38, .getfield 30, 3), (41, .iload_n 2, 1), (42, .iastore, 1), (43, .aload_n 0, 1), (44, .getfield 21, 3), (47, .iload_n 1, 1), (48, .aload_n 0, 1), (49, .getfield 30, 3), (52, .iastore, 1), (53, .aload_n 0, 1), (54, .dup, 1), (55, .getfield 30, 3), (58, .dup_x1, 1), (59, .iconst 1, 1), (60, .iadd, 1), (61, .putfield 30, 3), (64, .ireturn, 1)]
def k_Rch_isGoal : List (Nat × Jvm.ClassFile.Instr × Nat) := [(0, .iload_n 1, 1), (1, .bipush (-2), 2), (3, .if_icmp .ne 19, 3), (6, .iload_n 0, 1), (7, .bipush 9, 2), (9, .ishr, 1), (10, .iconst 4, 1), (11, .if_icmp .ne 7, 3), (14, .iconst 1, 1), (15, .goto 21, 3), (18, .iconst 0, 1), (19, .goto 17, 3), (22, .iload_n 0, 1), (23, .sipush 511, 3), (26, .iand, 1), (27, .iload_n 1, 1), (28, .if_icmp .ne 7, 3), (31, .iconst 1, 1), (32, .goto 4, 3), (35, .iconst 0, 1), (36, .ireturn, 1)]
def k_Con_begin_0 : List (Nat × Jvm.ClassFile.Instr × Nat) := [(0, .aload_n 0, 1), (1, .iconst 0, 1), (2, .putfield 31, 3), (5, .aload_n 0, 1), (6, .getfield 9, 3), (9, .iconst (-1), 1), (10, .invokestatic 39, 3), (13, .aload_n 0, 1), (14, .getfield 21, 3), (17, .iconst (-1), 1), (18, .invokestatic 39, 3), (21, .iconst 0, 1), (22, .istore_n 3, 1), (23, .iload_n 3, 1), (24, .aload_n 1, 1), (25, .getfield 45, 3), (28, .if_icmp .ge 137, 3), (31, .iload_n 3, 1), (32, .sipush 1024, 3), (35, .if_icmp .ge 130, 3), (38, .aload_n 1, 1), (39, .getfield 48, 3), (42, .iload_n 3, 1), (43, .iaload, 1), (44, .bipush 9, 2), (46, .ishr, 1), (47, .iconst 4, 1), (48, .if_icmp .ne 7, 3), (51, .iconst 1, 1), (52, .goto 4, 3), (55, .iconst 0, 1), (56, .istore 4, 2), (58, .aload_n 0, 1), (59, .getfield 15, 3), (62, .iload_n 3, 1), (63, .iconst 2, 1), (64, .imul, 1), (65, .iconst 0, 1), (66, .iadd, 1), (67, .iload_n 2, 1), (68, .ifCond .eq 7, 3), (71, .iconst 1, 1), (72, .goto 4, 3), (75, .iconst 0, 1), (76, .iastore, 1), (77, .aload_n 0, 1), (78, .getfield 15, 3), (81, .iload_n 3, 1), (82, .iconst 2, 1), (83, .imul, 1), (84, .iconst 1, 1), (85, .iadd, 1), (86, .iload 4, 2), (88, .ifCond .eq 7, 3), (91, .iconst 1, 1), (92, .goto 4, 3), (95, .iconst 2, 1), (96, .iastore, 1), (97, .iload 4, 2), (99, .ifCond .eq 26, 3)]
def k_Con_begin_1 : List (Nat × Jvm.ClassFile.Instr × Nat) := [(102, .aload_n 0, 1), (103, .iload_n 3, 1), (104, .iconst 2, 1), (105, .imul, 1), (106, .iconst 0, 1), (107, .iadd, 1), (108, .iconst 0, 1), (109, .invokevirtual 35, 3), (112, .aload_n 0, 1), (113, .iload_n 3, 1), (114, .iconst 2, 1), (115, .imul, 1), (116, .iconst 1, 1), (117, .iadd, 1), (118, .iconst 0, 1), (119, .invokevirtual 35, 3), (122, .goto 37, 3), (125, .aload_n 0, 1), (126, .iload_n 3, 1), (127, .iconst 2, 1), (128, .imul, 1), (129, .aload_n 1, 1), (130, .getfield 51, 3), (133, .iload_n 3, 1), (134, .iconst 2, 1), (135, .imul, 1), (136, .iaload, 1), (137, .invokevirtual 54, 3), (140, .aload_n 0, 1), (141, .iload_n 3, 1), (142, .iconst 2, 1), (143, .imul, 1), (144, .iconst 1, 1), (145, .iadd, 1), (146, .aload_n 1, 1), (147, .getfield 51, 3), (150, .iload_n 3, 1), (151, .iconst 2, 1), (152, .imul, 1), (153, .iconst 1, 1), (154, .iadd, 1), (155, .iaload, 1), (156, .invokevirtual 54, 3), (159, .iinc 3 1, 3), (162, .goto (-139), 3), (165, .return_, 1)]
def k_Con_begin : List (Nat × Jvm.ClassFile.Instr × Nat) := k_Con_begin_0 ++ (k_Con_begin_1)
def k_Con_leadOut : List (Nat × Jvm.ClassFile.Instr × Nat) := [(0, .iload_n 1, 1), (1, .ifCond .lt 12, 3), (4, .iload_n 1, 1), (5, .aload_n 0, 1), (6, .getfield 15, 3), (9, .arraylength, 1), (10, .if_icmp .lt 4, 3), (13, .return_, 1), (14, .aload_n 0, 1), (15, .getfield 15, 3), (18, .iload_n 1, 1), (19, .dup2, 1), (20, .iaload, 1), (21, .iconst 1, 1), (22, .isub, 1), (23, .iastore, 1), (24, .aload_n 0, 1), (25, .getfield 15, 3), (28, .iload_n 1, 1), (29, .iaload, 1), (30, .ifCond .ne 39, 3), (33, .aload_n 0, 1), (34, .getfield 31, 3), (37, .aload_n 0, 1), (38, .getfield 18, 3), (41, .arraylength, 1), (42, .if_icmp .ge 27, 3), (45, .aload_n 0, 1), (46, .getfield 9, 3), (49, .iload_n 1, 1), (50, .iload_n 2, 1), (51, .iastore, 1), (52, .aload_n 0, 1), (53, .getfield 18, 3), (56, .aload_n 0, 1), (57, .dup, 1), (58, .getfield 31, 3), (61, .dup_x1, 1), (62, .iconst 1, 1), (63, .iadd, 1), (64, .putfield 31, 3), (67, .iload_n 1, 1), (68, .iastore, 1), (69, .return_, 1)]
def k_Mo_isGone : List (Nat × Jvm.ClassFile.Instr × Nat) := [(0, .iload_n 0, 1), (1, .iconst 5, 1), (2, .irem, 1), (3, .iconst 4, 1), (4, .if_icmp .ne 7, 3), (7, .iconst 1, 1), (8, .goto 4, 3), (11, .iconst 0, 1), (12, .ireturn, 1)]
def k_Mo_isSought : List (Nat × Jvm.ClassFile.Instr × Nat) := [(0, .aload_n 0, 1), (1, .getfield 348, 3), (4, .iconst (-1), 1), (5, .if_icmp .ne 10, 3), (8, .iload_n 1, 1), (9, .invokestatic 341, 3), (12, .goto 18, 3), (15, .iload_n 1, 1), (16, .iconst 5, 1), (17, .idiv, 1), (18, .aload_n 0, 1), (19, .getfield 348, 3), (22, .if_icmp .ne 7, 3), (25, .iconst 1, 1), (26, .goto 4, 3), (29, .iconst 0, 1), (30, .ireturn, 1)]
def k_Mo_leastBy : List (Nat × Jvm.ClassFile.Instr × Nat) := [(0, .aload_n 0, 1), (1, .getfield 48, 3), (4, .aload_n 0, 1), (5, .getfield 45, 3), (8, .iconst 2, 1), (9, .iload_n 1, 1), (10, .imul, 1), (11, .iaload, 1), (12, .iaload, 1), (13, .istore_n 2, 1), (14, .aload_n 0, 1), (15, .getfield 48, 3), (18, .aload_n 0, 1), (19, .getfield 45, 3), (22, .iconst 2, 1), (23, .iload_n 1, 1), (24, .imul, 1), (25, .iconst 1, 1), (26, .iadd, 1), (27, .iaload, 1), (28, .iaload, 1), (29, .istore_n 3, 1), (30, .iload_n 2, 1), (31, .iload_n 3, 1), (32, .if_icmp .ge 7, 3), (35, .iload_n 2, 1), (36, .goto 4, 3), (39, .iload_n 3, 1), (40, .istore 4, 2), (42, .iload 4, 2), (44, .ldc_w 344, 3), (47, .if_icmp .ne 9, 3), (50, .ldc_w 344, 3), (53, .goto 7, 3), (56, .iload 4, 2), (58, .iconst 1, 1), (59, .iadd, 1), (60, .ireturn, 1)]
def k_Mo_herBy : List (Nat × Jvm.ClassFile.Instr × Nat) := [(0, .aload_n 0, 1), (1, .getfield 51, 3), (4, .aload_n 0, 1), (5, .getfield 45, 3), (8, .iconst 2, 1), (9, .iload_n 1, 1), (10, .imul, 1), (11, .iaload, 1), (12, .iaload, 1), (13, .istore_n 2, 1), (14, .aload_n 0, 1), (15, .getfield 51, 3), (18, .aload_n 0, 1), (19, .getfield 45, 3), (22, .iconst 2, 1), (23, .iload_n 1, 1), (24, .imul, 1), (25, .iconst 1, 1), (26, .iadd, 1), (27, .iaload, 1), (28, .iaload, 1), (29, .istore_n 3, 1), (30, .iload_n 2, 1), (31, .iload_n 3, 1), (32, .if_icmp .ge 7, 3), (35, .iload_n 2, 1), (36, .goto 4, 3), (39, .iload_n 3, 1), (40, .istore 4, 2), (42, .iload 4, 2), (44, .ldc_w 344, 3), (47, .if_icmp .ne 9, 3), (50, .ldc_w 344, 3), (53, .goto 7, 3), (56, .iload 4, 2), (58, .iconst 1, 1), (59, .iadd, 1), (60, .ireturn, 1)]
def k_Mo_mostBy : List (Nat × Jvm.ClassFile.Instr × Nat) := [(0, .aload_n 0, 1), (1, .getfield 48, 3), (4, .aload_n 0, 1), (5, .getfield 45, 3), (8, .iconst 2, 1), (9, .iload_n 1, 1), (10, .imul, 1), (11, .iaload, 1), (12, .iaload, 1), (13, .istore_n 2, 1), (14, .aload_n 0, 1), (15, .getfield 48, 3), (18, .aload_n 0, 1), (19, .getfield 45, 3), (22, .iconst 2, 1), (23, .iload_n 1, 1), (24, .imul, 1), (25, .iconst 1, 1), (26, .iadd, 1), (27, .iaload, 1), (28, .iaload, 1), (29, .istore_n 3, 1), (30, .iload_n 2, 1), (31, .iload_n 3, 1), (32, .if_icmp .le 7, 3), (35, .iload_n 2, 1), (36, .goto 4, 3), (39, .iload_n 3, 1), (40, .istore 4, 2), (42, .iload 4, 2), (44, .ldc_w 344, 3), (47, .if_icmp .ne 9, 3), (50, .ldc_w 344, 3), (53, .goto 7, 3), (56, .iload 4, 2), (58, .iconst 1, 1), (59, .iadd, 1), (60, .ireturn, 1)]
def k_Room_fullWall : List (Nat × Jvm.ClassFile.Instr × Nat) := [(0, .iconst 1, 1), (1, .aload_n 0, 1), (2, .getfield 73, 3), (5, .ishl, 1), (6, .iconst 1, 1), (7, .isub, 1), (8, .ireturn, 1)]
def k_Arr_fillI : List (Nat × Jvm.ClassFile.Instr × Nat) := [(0, .iconst 0, 1), (1, .istore_n 2, 1), (2, .aload_n 0, 1), (3, .arraylength, 1), (4, .istore_n 3, 1), (5, .iload_n 2, 1), (6, .iload_n 3, 1), (7, .if_icmp .ge 13, 3), (10, .aload_n 0, 1), (11, .iload_n 2, 1), (12, .iload_n 1, 1), (13, .iastore, 1), (14, .iinc 2 1, 3), (17, .goto (-12), 3), (20, .return_, 1)]
def k_Rch_spreadWays : List (Nat × Jvm.ClassFile.Instr × Nat) := [(0, .iconst 0, 1), (1, .istore_n 1, 1), (2, .iload_n 1, 1), (3, .iconst 2, 1), (4, .aload_n 0, 1), (5, .getfield 30, 3), (8, .imul, 1), (9, .if_icmp .ge 51, 3), (12, .aload_n 0, 1), (13, .getfield 24, 3), (16, .iload_n 1, 1), (17, .iconst 2, 1), (18, .idiv, 1), (19, .iaload, 1), (20, .istore_n 2, 1), (21, .aload_n 0, 1), (22, .getfield 15, 3), (25, .iload_n 1, 1), (26, .iaload, 1), (27, .istore_n 3, 1), (28, .iload_n 2, 1), (29, .ifCond .eq 25, 3), (32, .iload_n 3, 1), (33, .ifCond .lt 21, 3), (36, .iload_n 3, 1), (37, .aload_n 0, 1), (38, .getfield 30, 3), (41, .if_icmp .ge 13, 3), (44, .aload_n 0, 1), (45, .getfield 27, 3), (48, .iload_n 3, 1), (49, .dup2, 1), (50, .iaload, 1), (51, .iload_n 2, 1), (52, .iadd, 1), (53, .iastore, 1), (54, .iinc 1 1, 3), (57, .goto (-55), 3), (60, .iconst 0, 1), (61, .istore_n 1, 1), (62, .iload_n 1, 1), (63, .aload_n 0, 1), (64, .getfield 30, 3), (67, .if_icmp .ge 28, 3), (70, .aload_n 0, 1), (71, .getfield 24, 3), (74, .iload_n 1, 1), (75, .aload_n 0, 1), (76, .getfield 27, 3), (79, .iload_n 1, 1), (80, .iaload, 1), (81, .iastore, 1), (82, .aload_n 0, 1), (83, .getfield 27, 3), (86, .iload_n 1, 1), (87, .iconst 0, 1), (88, .iastore, 1), (89, .iinc 1 1, 3), (92, .goto (-30), 3), (95, .return_, 1)]
def k_Tray_fits : List (Nat × Jvm.ClassFile.Instr × Nat) := [(0, .aload_n 0, 1), (1, .iload_n 1, 1), (2, .invokevirtual 43, 3), (5, .lstore_n 3, 1), (6, .lload_n 3, 1), (7, .ldc2_w 41, 3), (10, .lcmp, 1), (11, .ifCond .eq 10, 3), (14, .lload_n 3, 1), (15, .iload_n 2, 1), (16, .i2l, 1), (17, .lcmp, 1), (18, .ifCond .ne 7, 3), (21, .iconst 1, 1), (22, .goto 4, 3), (25, .iconst 0, 1), (26, .ireturn, 1)]
def k_Mo_isSeen : List (Nat × Jvm.ClassFile.Instr × Nat) := [(0, .aload_n 0, 1), (1, .getfield 69, 3), (4, .bipush 40, 2), (6, .iload_n 1, 1), (7, .imul, 1), (8, .iload_n 2, 1), (9, .iadd, 1), (10, .laload, 1), (11, .ldc2_w 214, 3), (14, .lcmp, 1), (15, .ifCond .eq 20, 3), (18, .aload_n 0, 1), (19, .getfield 69, 3), (22, .bipush 40, 2), (24, .iload_n 1, 1), (25, .imul, 1), (26, .iload_n 2, 1), (27, .iadd, 1), (28, .laload, 1), (29, .iload_n 3, 1), (30, .i2l, 1), (31, .lcmp, 1), (32, .ifCond .ne 7, 3), (35, .iconst 1, 1), (36, .goto 4, 3), (39, .iconst 0, 1), (40, .ireturn, 1)]
def k_RW_isTemperSeen : List (Nat × Jvm.ClassFile.Instr × Nat) := [(0, .aload_n 0, 1), (1, .getfield 43, 3), (4, .invokevirtual 154, 3), (7, .istore 4, 2), (9, .iconst 0, 1), (10, .istore 5, 2), (12, .iload 5, 2), (14, .aload_n 1, 1), (15, .getfield 214, 3), (18, .if_icmp .ge 44, 3), (21, .aload_n 0, 1), (22, .getfield 69, 3), (25, .iload 4, 2), (27, .iload_n 2, 1), (28, .iload 5, 2), (30, .ishr, 1), (31, .iconst 1, 1), (32, .iand, 1), (33, .iload_n 3, 1), (34, .invokevirtual 161, 3), (37, .istore 4, 2), (39, .aload_n 1, 1), (40, .iload 5, 2), (42, .iload 4, 2), (44, .sipush 511, 3), (47, .iand, 1), (48, .invokevirtual 323, 3), (51, .ifCond .ne 5, 3), (54, .iconst 0, 1), (55, .ireturn, 1), (56, .iinc 5 1, 3), (59, .goto (-47), 3), (62, .iconst 1, 1), (63, .ireturn, 1)]
def k_RW_alike : List (Nat × Jvm.ClassFile.Instr × Nat) := [(0, .iconst 0, 1), (1, .istore_n 2, 1), (2, .iconst 0, 1), (3, .istore_n 3, 1), (4, .iload_n 3, 1), (5, .bipush 10, 2), (7, .if_icmp .ge 22, 3), (10, .aload_n 0, 1), (11, .getfield 87, 3), (14, .iload_n 3, 1), (15, .iaload, 1), (16, .iload_n 1, 1), (17, .if_icmp .ne 6, 3), (20, .iinc 2 1, 3), (23, .iinc 3 1, 3), (26, .goto (-22), 3), (29, .iload_n 2, 1), (30, .ireturn, 1)]
def k_Lw_clear : List (Nat × Jvm.ClassFile.Instr × Nat) := [(0, .aload_n 0, 1), (1, .iconst 0, 1), (2, .putfield 18, 3), (5, .return_, 1)]
def k_Room_shape : List (Nat × Jvm.ClassFile.Instr × Nat) := [(0, .aload_n 0, 1), (1, .iload_n 1, 1), (2, .putfield 67, 3), (5, .aload_n 0, 1), (6, .iload_n 2, 1), (7, .putfield 70, 3), (10, .aload_n 0, 1), (11, .aload_n 0, 1), (12, .getfield 67, 3), (15, .aload_n 0, 1), (16, .getfield 70, 3), (19, .imul, 1), (20, .putfield 73, 3), (23, .iconst 0, 1), (24, .istore_n 3, 1), (25, .iload_n 3, 1), (26, .aload_n 0, 1), (27, .getfield 73, 3), (30, .if_icmp .ge 26, 3), (33, .iload_n 3, 1), (34, .bipush 9, 2), (36, .if_icmp .ge 20, 3), (39, .aload_n 0, 1), (40, .getfield 15, 3), (43, .iload_n 3, 1), (44, .aload_n 0, 1), (45, .iload_n 3, 1), (46, .invokevirtual 76, 3), (49, .iastore, 1), (50, .iinc 3 1, 3), (53, .goto (-28), 3), (56, .return_, 1)]
def k_Tok_isDigit : List (Nat × Jvm.ClassFile.Instr × Nat) := [(0, .iload_n 0, 1), (1, .bipush 48, 2), (3, .if_icmp .lt 13, 3), (6, .iload_n 0, 1), (7, .bipush 57, 2), (9, .if_icmp .gt 7, 3), (12, .iconst 1, 1), (13, .goto 4, 3), (16, .iconst 0, 1), (17, .ireturn, 1)]
def k_Tok_isLetter : List (Nat × Jvm.ClassFile.Instr × Nat) := [(0, .iload_n 0, 1), (1, .bipush 97, 2), (3, .if_icmp .lt 13, 3), (6, .iload_n 0, 1), (7, .bipush 122, 2), (9, .if_icmp .gt 7, 3), (12, .iconst 1, 1), (13, .goto 4, 3), (16, .iconst 0, 1), (17, .ireturn, 1)]
def k_Tok_kindOfWord_0 : List (Nat × Jvm.ClassFile.Instr × Nat) := [(0, .aload_n 0, 1), (1, .getfield 47, 3), (4, .aload_n 0, 1), (5, .getfield 54, 3), (8, .isub, 1), (9, .tableswitch 228 2 8 #[43, 74, 133, 138, 168, 228, 211], 43), (52, .aload_n 0, 1), (53, .ldc 90, 2), (55, .invokevirtual 92, 3), (58, .ifCond .eq 8, 3), (61, .bipush 16, 2), (63, .goto 19, 3), (66, .aload_n 0, 1), (67, .ldc 96, 2), (69, .invokevirtual 92, 3), (72, .ifCond .eq 8, 3), (75, .bipush 12, 2), (77, .goto 5, 3), (80, .bipush 19, 2), (82, .ireturn, 1), (83, .aload_n 0, 1), (84, .ldc 98, 2), (86, .invokevirtual 92, 3), (89, .ifCond .eq 8, 3), (92, .bipush 17, 2), (94, .goto 47, 3), (97, .aload_n 0, 1), (98, .ldc 100, 2), (100, .invokevirtual 92, 3), (103, .ifCond .eq 8, 3), (106, .bipush 18, 2), (108, .goto 33, 3), (111, .aload_n 0, 1), (112, .ldc 102, 2), (114, .invokevirtual 92, 3), (117, .ifCond .eq 8, 3), (120, .bipush 11, 2), (122, .goto 19, 3), (125, .aload_n 0, 1), (126, .ldc 104, 2), (128, .invokevirtual 92, 3), (131, .ifCond .eq 8, 3), (134, .bipush 7, 2), (136, .goto 5, 3), (139, .bipush 19, 2), (141, .ireturn, 1), (142, .aload_n 0, 1), (143, .invokevirtual 106, 3), (146, .ireturn, 1), (147, .aload_n 0, 1), (148, .ldc 109, 2), (150, .invokevirtual 92, 3), (153, .ifCond .eq 7, 3), (156, .iconst 0, 1), (157, .goto 19, 3), (160, .aload_n 0, 1), (161, .ldc 111, 2), (163, .invokevirtual 92, 3), (166, .ifCond .eq 8, 3), (169, .bipush 14, 2)]
def k_Tok_kindOfWord_1 : List (Nat × Jvm.ClassFile.Instr × Nat) := [(171, .goto 5, 3), (174, .bipush 19, 2), (176, .ireturn, 1), (177, .aload_n 0, 1), (178, .ldc 113, 2), (180, .invokevirtual 92, 3), (183, .ifCond .eq 7, 3), (186, .iconst 1, 1), (187, .goto 32, 3), (190, .aload_n 0, 1), (191, .ldc 115, 2), (193, .invokevirtual 92, 3), (196, .ifCond .eq 7, 3), (199, .iconst 5, 1), (200, .goto 19, 3), (203, .aload_n 0, 1), (204, .ldc 117, 2), (206, .invokevirtual 92, 3), (209, .ifCond .eq 8, 3), (212, .bipush 6, 2), (214, .goto 5, 3), (217, .bipush 19, 2), (219, .ireturn, 1), (220, .aload_n 0, 1), (221, .ldc 119, 2), (223, .invokevirtual 92, 3), (226, .ifCond .eq 8, 3), (229, .bipush 9, 2), (231, .goto 5, 3), (234, .bipush 19, 2), (236, .ireturn, 1), (237, .bipush 19, 2), (239, .ireturn, 1)]
def k_Tok_kindOfWord : List (Nat × Jvm.ClassFile.Instr × Nat) := k_Tok_kindOfWord_0 ++ (k_Tok_kindOfWord_1)
def k_Str_indexOf : List (Nat × Jvm.ClassFile.Instr × Nat) := [(0, .aload_n 0, 1), (1, .iload_n 1, 1), (2, .iconst 0, 1), (3, .invokevirtual 633, 3), (6, .ireturn, 1)]
def k_Tok_passNumber : List (Nat × Jvm.ClassFile.Instr × Nat) := [(0, .aload_n 0, 1), (1, .getfield 66, 3), (4, .bipush 20, 2), (6, .if_icmp .eq 11, 3), (9, .aload_n 0, 1), (10, .iconst 2, 1), (11, .invokevirtual 140, 3), (14, .pop, 1), (15, .iconst (-1), 1), (16, .ireturn, 1), (17, .aload_n 0, 1), (18, .getfield 69, 3), (21, .iload_n 1, 1), (22, .if_icmp .lt 11, 3), (25, .aload_n 0, 1), (26, .getfield 69, 3), (29, .iload_n 2, 1), (30, .if_icmp .le 11, 3), (33, .aload_n 0, 1), (34, .iconst 3, 1), (35, .invokevirtual 140, 3), (38, .pop, 1), (39, .iconst (-1), 1), (40, .ireturn, 1), (41, .aload_n 0, 1), (42, .getfield 69, 3), (45, .istore_n 3, 1), (46, .aload_n 0, 1), (47, .invokevirtual 63, 3), (50, .iload_n 3, 1), (51, .ireturn, 1)]
def k_Tok_refuse : List (Nat × Jvm.ClassFile.Instr × Nat) := [(0, .aload_n 0, 1), (1, .aload_n 0, 1), (2, .getfield 66, 3), (5, .bipush 22, 2), (7, .if_icmp .ne 7, 3), (10, .iconst 1, 1), (11, .goto 4, 3), (14, .iload_n 1, 1), (15, .putfield 41, 3), (18, .aload_n 0, 1), (19, .aload_n 0, 1), (20, .getfield 60, 3), (23, .ifCond .ge 7, 3), (26, .iconst 0, 1), (27, .goto 12, 3), (30, .aload_n 0, 1), (31, .getfield 18, 3), (34, .aload_n 0, 1), (35, .getfield 60, 3), (38, .iaload, 1), (39, .putfield 21, 3), (42, .iconst 0, 1), (43, .ireturn, 1)]
def k_RR_isLine : List (Nat × Jvm.ClassFile.Instr × Nat) := [(0, .iload_n 0, 1), (1, .tableswitch 77 1 15 #[75, 77, 77, 77, 75, 75, 77, 75, 77, 77, 75, 75, 75, 75, 75], 75), (76, .iconst 1, 1), (77, .ireturn, 1), (78, .iconst 0, 1), (79, .ireturn, 1)]
def k_RR_readKinds : List (Nat × Jvm.ClassFile.Instr × Nat) := [(0, .aload_n 0, 1), (1, .getfield 18, 3), (4, .iconst 0, 1), (5, .aload_n 0, 1), (6, .getfield 22, 3), (9, .getfield 94, 3), (12, .iconst 1, 1), (13, .isub, 1), (14, .invokevirtual 51, 3), (17, .istore_n 1, 1), (18, .iload_n 1, 1), (19, .iconst (-1), 1), (20, .if_icmp .ne 5, 3), (23, .iconst 0, 1), (24, .ireturn, 1), (25, .iconst 0, 1), (26, .istore_n 2, 1), (27, .iload_n 2, 1), (28, .aload_n 0, 1), (29, .getfield 22, 3), (32, .getfield 97, 3), (35, .if_icmp .ge 63, 3), (38, .aload_n 0, 1), (39, .getfield 18, 3), (42, .iconst 0, 1), (43, .bipush 9, 2), (45, .invokevirtual 51, 3), (48, .istore_n 3, 1), (49, .iload_n 1, 1), (50, .aload_n 0, 1), (51, .getfield 22, 3), (54, .getfield 97, 3), (57, .imul, 1), (58, .iload_n 2, 1), (59, .iadd, 1), (60, .istore 4, 2), (62, .iload_n 3, 1), (63, .iconst (-1), 1), (64, .if_icmp .eq 15, 3), (67, .aload_n 0, 1), (68, .getfield 22, 3), (71, .iload 4, 2), (73, .invokevirtual 100, 3), (76, .ifCond .ne 5, 3), (79, .iconst 0, 1), (80, .ireturn, 1), (81, .aload_n 0, 1), (82, .getfield 22, 3), (85, .getfield 103, 3), (88, .iload 4, 2), (90, .iload_n 3, 1), (91, .iastore, 1), (92, .iinc 2 1, 3), (95, .goto (-68), 3), (98, .iconst 1, 1), (99, .ireturn, 1)]
def k_RR_readTenant : List (Nat × Jvm.ClassFile.Instr × Nat) := [(0, .bipush 9, 2), (2, .istore_n 1, 1), (3, .iconst 0, 1), (4, .istore_n 2, 1), (5, .iload_n 2, 1), (6, .sipush 900, 3), (9, .if_icmp .ge 46, 3), (12, .aload_n 0, 1), (13, .getfield 18, 3), (16, .getfield 39, 3), (19, .bipush 9, 2), (21, .if_icmp .ne 34, 3), (24, .aload_n 0, 1), (25, .getfield 18, 3), (28, .invokevirtual 68, 3), (31, .aload_n 0, 1), (32, .getfield 18, 3), (35, .iconst 0, 1), (36, .bipush 9, 2), (38, .invokevirtual 51, 3), (41, .istore_n 1, 1), (42, .iload_n 1, 1), (43, .iconst (-1), 1), (44, .if_icmp .ne 5, 3), (47, .iconst 0, 1), (48, .ireturn, 1), (49, .iinc 2 1, 3), (52, .goto (-47), 3), (55, .aload_n 0, 1), (56, .getfield 22, 3), (59, .getfield 59, 3), (62, .iconst 4, 1), (63, .if_icmp .ge 26, 3), (66, .aload_n 0, 1), (67, .getfield 22, 3), (70, .getfield 107, 3), (73, .aload_n 0, 1), (74, .getfield 22, 3), (77, .dup, 1), (78, .getfield 59, 3), (81, .dup_x1, 1), (82, .iconst 1, 1), (83, .iadd, 1), (84, .putfield 59, 3), (87, .iload_n 1, 1), (88, .iastore, 1), (89, .iconst 1, 1), (90, .ireturn, 1)]
def k_RR_readFace : List (Nat × Jvm.ClassFile.Instr × Nat) := [(0, .iconst 0, 1), (1, .istore_n 1, 1), (2, .iconst 0, 1), (3, .istore_n 2, 1), (4, .iload_n 2, 1), (5, .sipush 900, 3), (8, .if_icmp .ge 56, 3), (11, .iload_n 2, 1), (12, .ifCond .eq 15, 3), (15, .aload_n 0, 1), (16, .getfield 18, 3), (19, .getfield 39, 3), (22, .bipush 20, 2), (24, .if_icmp .ne 40, 3), (27, .aload_n 0, 1), (28, .getfield 18, 3), (31, .iconst 0, 1), (32, .aload_n 0, 1), (33, .getfield 22, 3), (36, .getfield 110, 3), (39, .iconst 1, 1), (40, .isub, 1), (41, .invokevirtual 51, 3), (44, .istore_n 3, 1), (45, .iload_n 3, 1), (46, .iconst (-1), 1), (47, .if_icmp .ne 5, 3), (50, .iconst 0, 1), (51, .ireturn, 1), (52, .iload_n 1, 1), (53, .iconst 1, 1), (54, .iload_n 3, 1), (55, .ishl, 1), (56, .ior, 1), (57, .istore_n 1, 1), (58, .iinc 2 1, 3), (61, .goto (-57), 3), (64, .aload_n 0, 1), (65, .getfield 22, 3), (68, .iload_n 1, 1), (69, .putfield 113, 3), (72, .iconst 1, 1), (73, .ireturn, 1)]
def k_LR_readLaw : List (Nat × Jvm.ClassFile.Instr × Nat) := [(0, .aload_n 0, 1), (1, .aload_n 1, 1), (2, .putfield 9, 3), (5, .aload_n 0, 1), (6, .aload_n 2, 1), (7, .putfield 15, 3), (10, .aload_n 0, 1), (11, .iload_n 3, 1), (12, .putfield 19, 3), (15, .aload_n 0, 1), (16, .getfield 15, 3), (19, .invokevirtual 23, 3), (22, .aload_n 0, 1), (23, .iconst 0, 1), (24, .invokevirtual 28, 3), (27, .ireturn, 1)]
def k_RR_readOne : List (Nat × Jvm.ClassFile.Instr × Nat) := [(0, .aload_n 0, 1), (1, .getfield 18, 3), (4, .iconst 0, 1), (5, .aload_n 0, 1), (6, .iload_n 1, 1), (7, .invokevirtual 116, 3), (10, .invokevirtual 51, 3), (13, .istore_n 2, 1), (14, .iload_n 2, 1), (15, .iconst (-1), 1), (16, .if_icmp .ne 5, 3), (19, .iconst 0, 1), (20, .ireturn, 1), (21, .iload_n 1, 1), (22, .lookupswitch 71 #[(5, 44), (12, 34), (13, 61)], 34), (56, .aload_n 0, 1), (57, .getfield 22, 3), (60, .iload_n 2, 1), (61, .putfield 120, 3), (64, .iconst 1, 1), (65, .ireturn, 1), (66, .aload_n 0, 1), (67, .getfield 22, 3), (70, .dup, 1), (71, .getfield 123, 3), (74, .iconst 1, 1), (75, .iload_n 2, 1), (76, .ishl, 1), (77, .ior, 1), (78, .putfield 123, 3), (81, .iconst 1, 1), (82, .ireturn, 1), (83, .aload_n 0, 1), (84, .getfield 22, 3), (87, .iload_n 2, 1), (88, .putfield 126, 3), (91, .iconst 1, 1), (92, .ireturn, 1), (93, .aload_n 0, 1), (94, .getfield 22, 3), (97, .iload_n 2, 1), (98, .putfield 129, 3), (101, .iconst 1, 1), (102, .ireturn, 1)]
def k_Str_coder : List (Nat × Jvm.ClassFile.Instr × Nat) := [(0, .getstatic 38, 3), (3, .ifCond .eq 10, 3), (6, .aload_n 0, 1), (7, .getfield 15, 3), (10, .goto 4, 3), (13, .iconst 1, 1), (14, .ireturn, 1)]
def k_Str_isLatin1 : List (Nat × Jvm.ClassFile.Instr × Nat) := [(0, .getstatic 38, 3), (3, .ifCond .eq 14, 3), (6, .aload_n 0, 1), (7, .getfield 15, 3), (10, .ifCond .ne 7, 3), (13, .iconst 1, 1), (14, .goto 4, 3), (17, .iconst 0, 1), (18, .ireturn, 1)]
def k_Lat_charAt : List (Nat × Jvm.ClassFile.Instr × Nat) := [(0, .iload_n 1, 1), (1, .aload_n 0, 1), (2, .arraylength, 1), (3, .invokestatic 9, 3), (6, .aload_n 0, 1), (7, .iload_n 1, 1), (8, .baload, 1), (9, .sipush 255, 3), (12, .iand, 1), (13, .i2c, 1), (14, .ireturn, 1)]
def k_Mo_readTruth : List (Nat × Jvm.ClassFile.Instr × Nat) := [(0, .aload_n 0, 1), (1, .iload_n 1, 1), (2, .invokevirtual 176, 3), (5, .aload_n 0, 1), (6, .bipush 17, 2), (8, .invokevirtual 161, 3), (11, .ifCond .eq 18, 3), (14, .aload_n 0, 1), (15, .iload_n 1, 1), (16, .invokevirtual 176, 3), (19, .aload_n 0, 1), (20, .sipush 3008, 3), (23, .invokevirtual 149, 3), (26, .goto (-21), 3), (29, .return_, 1)]
def k_Mo_between_0 : List (Nat × Jvm.ClassFile.Instr × Nat) := [(0, .iload_n 0, 1), (1, .tableswitch 80 3003 3008 #[39, 50, 61, 80, 72, 76], 39), (40, .iload_n 1, 1), (41, .iload_n 2, 1), (42, .if_icmp .ne 7, 3), (45, .iconst 1, 1), (46, .goto 4, 3), (49, .iconst 0, 1), (50, .ireturn, 1), (51, .iload_n 1, 1), (52, .iload_n 2, 1), (53, .if_icmp .ge 7, 3), (56, .iconst 1, 1), (57, .goto 4, 3), (60, .iconst 0, 1), (61, .ireturn, 1), (62, .iload_n 1, 1), (63, .iload_n 2, 1), (64, .if_icmp .le 7, 3), (67, .iconst 1, 1), (68, .goto 4, 3), (71, .iconst 0, 1), (72, .ireturn, 1), (73, .iload_n 1, 1), (74, .iload_n 2, 1), (75, .iand, 1), (76, .ireturn, 1), (77, .iload_n 1, 1), (78, .iload_n 2, 1), (79, .ior, 1), (80, .ireturn, 1), (81, .iload_n 0, 1), (82, .sipush 3000, 3), (85, .if_icmp .ne 11, 3), (88, .iload_n 1, 1), (89, .i2l, 1), (90, .iload_n 2, 1), (91, .i2l, 1), (92, .ladd, 1), (93, .goto 23, 3), (96, .iload_n 0, 1), (97, .sipush 3001, 3), (100, .if_icmp .ne 11, 3), (103, .iload_n 1, 1), (104, .i2l, 1), (105, .iload_n 2, 1), (106, .i2l, 1), (107, .lsub, 1), (108, .goto 8, 3), (111, .iload_n 1, 1), (112, .i2l, 1), (113, .iload_n 2, 1), (114, .i2l, 1), (115, .lmul, 1), (116, .lstore_n 3, 1), (117, .lload_n 3, 1), (118, .ldc2_w 216, 3), (121, .lcmp, 1), (122, .ifCond .le 9, 3), (125, .ldc2_w 216, 3)]
def k_Mo_between_1 : List (Nat × Jvm.ClassFile.Instr × Nat) := [(128, .goto 18, 3), (131, .lload_n 3, 1), (132, .ldc2_w 218, 3), (135, .lcmp, 1), (136, .ifCond .ge 9, 3), (139, .ldc2_w 218, 3), (142, .goto 4, 3), (145, .lload_n 3, 1), (146, .l2i, 1), (147, .ireturn, 1)]
def k_Mo_between : List (Nat × Jvm.ClassFile.Instr × Nat) := k_Mo_between_0 ++ (k_Mo_between_1)
def k_Lw_joined_0 : List (Nat × Jvm.ClassFile.Instr × Nat) := [(0, .iload_n 0, 1), (1, .lookupswitch 132 #[(17, 127), (42, 83), (43, 67), (45, 75), (60, 103), (61, 91), (62, 115)], 67), (68, .lload_n 1, 1), (69, .lload_n 3, 1), (70, .ladd, 1), (71, .lstore 5, 2), (73, .goto 65, 3), (76, .lload_n 1, 1), (77, .lload_n 3, 1), (78, .lsub, 1), (79, .lstore 5, 2), (81, .goto 57, 3), (84, .lload_n 1, 1), (85, .lload_n 3, 1), (86, .lmul, 1), (87, .lstore 5, 2), (89, .goto 49, 3), (92, .lload_n 1, 1), (93, .lload_n 3, 1), (94, .lcmp, 1), (95, .ifCond .ne 7, 3), (98, .iconst 1, 1), (99, .goto 4, 3), (102, .iconst 0, 1), (103, .ireturn, 1), (104, .lload_n 1, 1), (105, .lload_n 3, 1), (106, .lcmp, 1), (107, .ifCond .ge 7, 3), (110, .iconst 1, 1), (111, .goto 4, 3), (114, .iconst 0, 1), (115, .ireturn, 1), (116, .lload_n 1, 1), (117, .lload_n 3, 1), (118, .lcmp, 1), (119, .ifCond .le 7, 3), (122, .iconst 1, 1), (123, .goto 4, 3), (126, .iconst 0, 1), (127, .ireturn, 1), (128, .lload_n 1, 1), (129, .lload_n 3, 1), (130, .land, 1), (131, .l2i, 1), (132, .ireturn, 1), (133, .lload_n 1, 1), (134, .lload_n 3, 1), (135, .lor, 1), (136, .l2i, 1), (137, .ireturn, 1), (138, .lload 5, 2), (140, .ldc2_w 28, 3), (143, .lcmp, 1), (144, .ifCond .le 8, 3), (147, .ldc 30, 2), (149, .goto 20, 3), (152, .lload 5, 2), (154, .ldc2_w 31, 3), (157, .lcmp, 1)]
def k_Lw_joined_1 : List (Nat × Jvm.ClassFile.Instr × Nat) := [(158, .ifCond .ge 8, 3), (161, .ldc 33, 2), (163, .goto 6, 3), (166, .lload 5, 2), (168, .l2i, 1), (169, .ireturn, 1)]
def k_Lw_joined : List (Nat × Jvm.ClassFile.Instr × Nat) := k_Lw_joined_0 ++ (k_Lw_joined_1)
def k_Con_addEdge : List (Nat × Jvm.ClassFile.Instr × Nat) := [(0, .iload_n 2, 1), (1, .ifCond .lt 42, 3), (4, .iload_n 2, 1), (5, .sipush 1024, 3), (8, .if_icmp .ge 35, 3), (11, .iload_n 1, 1), (12, .ifCond .lt 31, 3), (15, .iload_n 1, 1), (16, .aload_n 0, 1), (17, .getfield 24, 3), (20, .arraylength, 1), (21, .if_icmp .ge 22, 3), (24, .aload_n 0, 1), (25, .getfield 24, 3), (28, .iload_n 1, 1), (29, .aload_n 0, 1), (30, .getfield 21, 3), (33, .iload_n 2, 1), (34, .iaload, 1), (35, .iastore, 1), (36, .aload_n 0, 1), (37, .getfield 21, 3), (40, .iload_n 2, 1), (41, .iload_n 1, 1), (42, .iastore, 1), (43, .return_, 1)]
def k_Room_neighbours : List (Nat × Jvm.ClassFile.Instr × Nat) := [(0, .iconst 0, 1), (1, .istore_n 2, 1), (2, .iconst 0, 1), (3, .istore_n 3, 1), (4, .iload_n 3, 1), (5, .aload_n 0, 1), (6, .getfield 73, 3), (9, .if_icmp .ge 75, 3), (12, .aload_n 0, 1), (13, .getfield 70, 3), (16, .ifCond .le 68, 3), (19, .iload_n 3, 1), (20, .aload_n 0, 1), (21, .getfield 70, 3), (24, .idiv, 1), (25, .iload_n 1, 1), (26, .aload_n 0, 1), (27, .getfield 70, 3), (30, .idiv, 1), (31, .isub, 1), (32, .invokestatic 80, 3), (35, .istore 4, 2), (37, .iload_n 3, 1), (38, .aload_n 0, 1), (39, .getfield 70, 3), (42, .irem, 1), (43, .iload_n 1, 1), (44, .aload_n 0, 1), (45, .getfield 70, 3), (48, .irem, 1), (49, .isub, 1), (50, .invokestatic 80, 3), (53, .istore 5, 2), (55, .iload_n 3, 1), (56, .iload_n 1, 1), (57, .if_icmp .eq 21, 3), (60, .iload 4, 2), (62, .iconst 1, 1), (63, .if_icmp .gt 15, 3), (66, .iload 5, 2), (68, .iconst 1, 1), (69, .if_icmp .gt 9, 3), (72, .iload_n 2, 1), (73, .iconst 1, 1), (74, .iload_n 3, 1), (75, .ishl, 1), (76, .ior, 1), (77, .istore_n 2, 1), (78, .iinc 3 1, 3), (81, .goto (-77), 3), (84, .iload_n 2, 1), (85, .ireturn, 1)]
def k_Tok_isWord : List (Nat × Jvm.ClassFile.Instr × Nat) := [(0, .iconst 0, 1), (1, .istore_n 2, 1), (2, .iload_n 2, 1), (3, .aload_n 1, 1), (4, .invokevirtual 134, 3), (7, .if_icmp .ge 43, 3), (10, .aload_n 0, 1), (11, .getfield 54, 3), (14, .iload_n 2, 1), (15, .iadd, 1), (16, .aload_n 0, 1), (17, .getfield 38, 3), (20, .if_icmp .ge 30, 3), (23, .aload_n 0, 1), (24, .getfield 25, 3), (27, .aload_n 0, 1), (28, .getfield 54, 3), (31, .iload_n 2, 1), (32, .iadd, 1), (33, .baload, 1), (34, .aload_n 1, 1), (35, .iload_n 2, 1), (36, .invokevirtual 136, 3), (39, .if_icmp .eq 5, 3), (42, .iconst 0, 1), (43, .ireturn, 1), (44, .iinc 2 1, 3), (47, .goto (-45), 3), (50, .iconst 1, 1), (51, .ireturn, 1)]
def k_Tok_kindOfFour_0 : List (Nat × Jvm.ClassFile.Instr × Nat) := [(0, .aload_n 0, 1), (1, .getfield 25, 3), (4, .aload_n 0, 1), (5, .getfield 54, 3), (8, .baload, 1), (9, .tableswitch 215 99 119 #[99, 215, 215, 115, 132, 215, 215, 215, 149, 215, 215, 165, 181, 215, 215, 215, 215, 215, 215, 215, 198], 99), (108, .aload_n 0, 1), (109, .ldc 121, 2), (111, .invokevirtual 92, 3), (114, .ifCond .eq 7, 3), (117, .iconst 2, 1), (118, .goto 5, 3), (121, .bipush 19, 2), (123, .ireturn, 1), (124, .aload_n 0, 1), (125, .ldc 123, 2), (127, .invokevirtual 92, 3), (130, .ifCond .eq 8, 3), (133, .bipush 8, 2), (135, .goto 5, 3), (138, .bipush 19, 2), (140, .ireturn, 1), (141, .aload_n 0, 1), (142, .ldc 125, 2), (144, .invokevirtual 92, 3), (147, .ifCond .eq 8, 3), (150, .bipush 15, 2), (152, .goto 5, 3), (155, .bipush 19, 2), (157, .ireturn, 1), (158, .aload_n 0, 1), (159, .ldc 127, 2), (161, .invokevirtual 92, 3), (164, .ifCond .eq 7, 3), (167, .iconst 3, 1), (168, .goto 5, 3), (171, .bipush 19, 2), (173, .ireturn, 1), (174, .aload_n 0, 1), (175, .ldc 128, 2), (177, .invokevirtual 92, 3), (180, .ifCond .eq 7, 3), (183, .iconst 4, 1), (184, .goto 5, 3), (187, .bipush 19, 2), (189, .ireturn, 1), (190, .aload_n 0, 1), (191, .ldc 130, 2), (193, .invokevirtual 92, 3), (196, .ifCond .eq 8, 3), (199, .bipush 13, 2), (201, .goto 5, 3), (204, .bipush 19, 2), (206, .ireturn, 1), (207, .aload_n 0, 1), (208, .ldc 132, 2), (210, .invokevirtual 92, 3), (213, .ifCond .eq 8, 3), (216, .bipush 10, 2), (218, .goto 5, 3)]
def k_Tok_kindOfFour_1 : List (Nat × Jvm.ClassFile.Instr × Nat) := [(221, .bipush 19, 2), (223, .ireturn, 1), (224, .bipush 19, 2), (226, .ireturn, 1)]
def k_Tok_kindOfFour : List (Nat × Jvm.ClassFile.Instr × Nat) := k_Tok_kindOfFour_0 ++ (k_Tok_kindOfFour_1)
def k_Str_indexOf2 : List (Nat × Jvm.ClassFile.Instr × Nat) := [(0, .aload_n 0, 1), (1, .invokevirtual 492, 3), (4, .ifCond .eq 19, 3), (7, .aload_n 0, 1), (8, .getfield 9, 3), (11, .iload_n 1, 1), (12, .iload_n 2, 1), (13, .aload_n 0, 1), (14, .invokevirtual 505, 3), (17, .invokestatic 637, 3), (20, .goto 16, 3), (23, .aload_n 0, 1), (24, .getfield 9, 3), (27, .iload_n 1, 1), (28, .iload_n 2, 1), (29, .aload_n 0, 1), (30, .invokevirtual 505, 3), (33, .invokestatic 640, 3), (36, .ireturn, 1)]
def k_LR_readTruth : List (Nat × Jvm.ClassFile.Instr × Nat) := [(0, .aload_n 0, 1), (1, .iload_n 1, 1), (2, .invokevirtual 32, 3), (5, .ifCond .ne 5, 3), (8, .iconst 0, 1), (9, .ireturn, 1), (10, .iconst 0, 1), (11, .istore_n 2, 1), (12, .iload_n 2, 1), (13, .sipush 900, 3), (16, .if_icmp .ge 47, 3), (19, .aload_n 0, 1), (20, .getfield 9, 3), (23, .getfield 35, 3), (26, .bipush 16, 2), (28, .if_icmp .ne 35, 3), (31, .aload_n 0, 1), (32, .getfield 9, 3), (35, .invokevirtual 41, 3), (38, .aload_n 0, 1), (39, .iload_n 1, 1), (40, .invokevirtual 32, 3), (43, .ifCond .ne 5, 3), (46, .iconst 0, 1), (47, .ireturn, 1), (48, .aload_n 0, 1), (49, .getfield 15, 3), (52, .bipush (-17), 2), (54, .invokevirtual 44, 3), (57, .iinc 2 1, 3), (60, .goto (-48), 3), (63, .iconst 1, 1), (64, .ireturn, 1)]
def k_RR_highest : List (Nat × Jvm.ClassFile.Instr × Nat) := [(0, .iload_n 1, 1), (1, .lookupswitch 58 #[(5, 45), (12, 35), (13, 55)], 35), (36, .aload_n 0, 1), (37, .getfield 22, 3), (40, .getfield 59, 3), (43, .iconst 1, 1), (44, .isub, 1), (45, .ireturn, 1), (46, .aload_n 0, 1), (47, .getfield 22, 3), (50, .getfield 110, 3), (53, .iconst 1, 1), (54, .isub, 1), (55, .ireturn, 1), (56, .bipush 10, 2), (58, .ireturn, 1), (59, .bipush 9, 2), (61, .ireturn, 1)]
def k_Str_checkIndex : List (Nat × Jvm.ClassFile.Instr × Nat) := [(0, .iload_n 0, 1), (1, .iload_n 1, 1), (2, .getstatic 1053, 3), (5, .invokestatic 1059, 3), (8, .pop, 1), (9, .return_, 1)]
def k_Mo_readBoth : List (Nat × Jvm.ClassFile.Instr × Nat) := [(0, .aload_n 0, 1), (1, .iload_n 1, 1), (2, .invokevirtual 170, 3), (5, .aload_n 0, 1), (6, .bipush 16, 2), (8, .invokevirtual 161, 3), (11, .ifCond .eq 18, 3), (14, .aload_n 0, 1), (15, .iload_n 1, 1), (16, .invokevirtual 170, 3), (19, .aload_n 0, 1), (20, .sipush 3007, 3), (23, .invokevirtual 149, 3), (26, .goto (-21), 3), (29, .return_, 1)]
def k_Mo_codes : List (Nat × Jvm.ClassFile.Instr × Nat) := [(0, .aload_n 0, 1), (1, .getfield 123, 3), (4, .ifCond .eq 4, 3), (7, .return_, 1), (8, .aload_n 0, 1), (9, .getfield 24, 3), (12, .bipush 71, 2), (14, .aload_n 0, 1), (15, .getfield 24, 3), (18, .bipush 70, 2), (20, .iaload, 1), (21, .iadd, 1), (22, .iload_n 1, 1), (23, .iastore, 1), (24, .aload_n 0, 1), (25, .getfield 24, 3), (28, .bipush 70, 2), (30, .dup2, 1), (31, .iaload, 1), (32, .iconst 1, 1), (33, .iadd, 1), (34, .iastore, 1), (35, .return_, 1)]
def k_Mat_abs : List (Nat × Jvm.ClassFile.Instr × Nat) := [(0, .iload_n 0, 1), (1, .ifCond .ge 8, 3), (4, .iload_n 0, 1), (5, .ineg, 1), (6, .goto 4, 3), (9, .iload_n 0, 1), (10, .ireturn, 1)]
def k_Lat_indexOf : List (Nat × Jvm.ClassFile.Instr × Nat) := [(0, .iload_n 1, 1), (1, .invokestatic 88, 3), (4, .ifCond .ne 5, 3), (7, .iconst (-1), 1), (8, .ireturn, 1), (9, .iload_n 2, 1), (10, .iconst 0, 1), (11, .invokestatic 92, 3), (14, .istore_n 2, 1), (15, .iload_n 3, 1), (16, .aload_n 0, 1), (17, .arraylength, 1), (18, .invokestatic 38, 3), (21, .istore_n 3, 1), (22, .iload_n 2, 1), (23, .iload_n 3, 1), (24, .if_icmp .lt 5, 3), (27, .iconst (-1), 1), (28, .ireturn, 1), (29, .aload_n 0, 1), (30, .iload_n 1, 1), (31, .iload_n 2, 1), (32, .iload_n 3, 1), (33, .invokestatic 95, 3), (36, .ireturn, 1)]
def k_LR_readBoth : List (Nat × Jvm.ClassFile.Instr × Nat) := [(0, .aload_n 0, 1), (1, .iload_n 1, 1), (2, .invokevirtual 48, 3), (5, .ifCond .ne 5, 3), (8, .iconst 0, 1), (9, .ireturn, 1), (10, .iconst 0, 1), (11, .istore_n 2, 1), (12, .iload_n 2, 1), (13, .sipush 900, 3), (16, .if_icmp .ge 47, 3), (19, .aload_n 0, 1), (20, .getfield 9, 3), (23, .getfield 35, 3), (26, .bipush 17, 2), (28, .if_icmp .ne 35, 3), (31, .aload_n 0, 1), (32, .getfield 9, 3), (35, .invokevirtual 41, 3), (38, .aload_n 0, 1), (39, .iload_n 1, 1), (40, .invokevirtual 48, 3), (43, .ifCond .ne 5, 3), (46, .iconst 0, 1), (47, .ireturn, 1), (48, .aload_n 0, 1), (49, .getfield 15, 3), (52, .bipush (-18), 2), (54, .invokevirtual 44, 3), (57, .iinc 2 1, 3), (60, .goto (-48), 3), (63, .iconst 1, 1), (64, .ireturn, 1)]
def k_Lw_add : List (Nat × Jvm.ClassFile.Instr × Nat) := [(0, .aload_n 0, 1), (1, .getfield 18, 3), (4, .sipush 900, 3), (7, .if_icmp .ge 20, 3), (10, .aload_n 0, 1), (11, .getfield 9, 3), (14, .aload_n 0, 1), (15, .dup, 1), (16, .getfield 18, 3), (19, .dup_x1, 1), (20, .iconst 1, 1), (21, .iadd, 1), (22, .putfield 18, 3), (25, .iload_n 1, 1), (26, .iastore, 1), (27, .return_, 1)]
def k_Pre_checkIndex : List (Nat × Jvm.ClassFile.Instr × Nat) := [(0, .iload_n 0, 1), (1, .ifCond .lt 8, 3), (4, .iload_n 0, 1), (5, .iload_n 1, 1), (6, .if_icmp .lt 10, 3), (9, .aload_n 2, 1), (10, .iload_n 0, 1), (11, .iload_n 1, 1), (12, .invokestatic 95, 3), (15, .athrow, 1), (16, .iload_n 0, 1), (17, .ireturn, 1)]
def k_Mo_readUnit_0 : List (Nat × Jvm.ClassFile.Instr × Nat) := [(0, .aload_n 0, 1), (1, .bipush 18, 2), (3, .invokevirtual 129, 3), (6, .ifCond .eq 27, 3), (9, .aload_n 0, 1), (10, .iload_n 1, 1), (11, .invokevirtual 155, 3), (14, .ifCond .ne 4, 3), (17, .return_, 1), (18, .aload_n 0, 1), (19, .iload_n 1, 1), (20, .iconst 1, 1), (21, .iadd, 1), (22, .invokevirtual 170, 3), (25, .aload_n 0, 1), (26, .sipush 3006, 3), (29, .invokevirtual 149, 3), (32, .return_, 1), (33, .aload_n 0, 1), (34, .bipush 37, 2), (36, .invokevirtual 129, 3), (39, .ifCond .eq 34, 3), (42, .aload_n 0, 1), (43, .iload_n 1, 1), (44, .invokevirtual 155, 3), (47, .ifCond .ne 4, 3), (50, .return_, 1), (51, .aload_n 0, 1), (52, .iload_n 1, 1), (53, .iconst 1, 1), (54, .iadd, 1), (55, .invokevirtual 173, 3), (58, .aload_n 0, 1), (59, .bipush 38, 2), (61, .invokevirtual 161, 3), (64, .ifCond .ne 8, 3), (67, .aload_n 0, 1), (68, .iconst 2, 1), (69, .invokevirtual 135, 3), (72, .return_, 1), (73, .aload_n 0, 1), (74, .iload_n 1, 1), (75, .invokevirtual 158, 3), (78, .aload_n 0, 1), (79, .bipush 39, 2), (81, .invokevirtual 129, 3), (84, .ifCond .eq 9, 3), (87, .sipush 3003, 3), (90, .goto 21, 3), (93, .aload_n 0, 1), (94, .bipush 40, 2), (96, .invokevirtual 129, 3), (99, .ifCond .eq 9, 3), (102, .sipush 3004, 3), (105, .goto 6, 3), (108, .sipush 3005, 3), (111, .istore_n 2, 1), (112, .aload_n 0, 1), (113, .bipush 39, 2), (115, .invokevirtual 129, 3)]
def k_Mo_readUnit_1 : List (Nat × Jvm.ClassFile.Instr × Nat) := [(118, .ifCond .ne 21, 3), (121, .aload_n 0, 1), (122, .bipush 40, 2), (124, .invokevirtual 129, 3), (127, .ifCond .ne 12, 3), (130, .aload_n 0, 1), (131, .bipush 41, 2), (133, .invokevirtual 129, 3), (136, .ifCond .eq 10, 3), (139, .aload_n 0, 1), (140, .invokevirtual 132, 3), (143, .goto 8, 3), (146, .aload_n 0, 1), (147, .iconst 2, 1), (148, .invokevirtual 135, 3), (151, .aload_n 0, 1), (152, .iload_n 1, 1), (153, .invokevirtual 158, 3), (156, .aload_n 0, 1), (157, .iload_n 2, 1), (158, .invokevirtual 149, 3), (161, .return_, 1)]
def k_Mo_readUnit : List (Nat × Jvm.ClassFile.Instr × Nat) := k_Mo_readUnit_0 ++ (k_Mo_readUnit_1)
def k_Lat_canEncode : List (Nat × Jvm.ClassFile.Instr × Nat) := [(0, .iload_n 0, 1), (1, .ifCond .lt 14, 3), (4, .iload_n 0, 1), (5, .sipush 255, 3), (8, .if_icmp .gt 7, 3), (11, .iconst 1, 1), (12, .goto 4, 3), (15, .iconst 0, 1), (16, .ireturn, 1)]
def k_Lat_indexOfChar : List (Nat × Jvm.ClassFile.Instr × Nat) := [(0, .iload_n 1, 1), (1, .i2b, 1), (2, .istore 4, 2), (4, .iload_n 2, 1), (5, .istore 5, 2), (7, .iload 5, 2), (9, .iload_n 3, 1), (10, .if_icmp .ge 21, 3), (13, .aload_n 0, 1), (14, .iload 5, 2), (16, .baload, 1), (17, .iload 4, 2), (19, .if_icmp .ne 6, 3), (22, .iload 5, 2), (24, .ireturn, 1), (25, .iinc 5 1, 3), (28, .goto (-21), 3), (31, .iconst (-1), 1), (32, .ireturn, 1)]
def k_LR_readUnit_0 : List (Nat × Jvm.ClassFile.Instr × Nat) := [(0, .aload_n 0, 1), (1, .getfield 9, 3), (4, .getfield 35, 3), (7, .bipush 18, 2), (9, .if_icmp .ne 34, 3), (12, .aload_n 0, 1), (13, .iload_n 1, 1), (14, .invokevirtual 51, 3), (17, .ifCond .eq 13, 3), (20, .aload_n 0, 1), (21, .iload_n 1, 1), (22, .iconst 1, 1), (23, .iadd, 1), (24, .invokevirtual 48, 3), (27, .ifCond .ne 5, 3), (30, .iconst 0, 1), (31, .ireturn, 1), (32, .aload_n 0, 1), (33, .getfield 15, 3), (36, .bipush (-19), 2), (38, .invokevirtual 44, 3), (41, .iconst 1, 1), (42, .ireturn, 1), (43, .aload_n 0, 1), (44, .getfield 9, 3), (47, .getfield 35, 3), (50, .bipush 91, 2), (52, .if_icmp .ne 39, 3), (55, .aload_n 0, 1), (56, .iload_n 1, 1), (57, .invokevirtual 51, 3), (60, .ifCond .eq 29, 3), (63, .aload_n 0, 1), (64, .iload_n 1, 1), (65, .iconst 1, 1), (66, .iadd, 1), (67, .invokevirtual 28, 3), (70, .ifCond .eq 19, 3), (73, .aload_n 0, 1), (74, .getfield 9, 3), (77, .bipush 93, 2), (79, .invokevirtual 54, 3), (82, .ifCond .eq 7, 3), (85, .iconst 1, 1), (86, .goto 4, 3), (89, .iconst 0, 1), (90, .ireturn, 1), (91, .aload_n 0, 1), (92, .iload_n 1, 1), (93, .invokevirtual 57, 3), (96, .ifCond .ne 5, 3), (99, .iconst 0, 1), (100, .ireturn, 1), (101, .aload_n 0, 1), (102, .getfield 9, 3), (105, .getfield 35, 3), (108, .istore_n 2, 1), (109, .iload_n 2, 1), (110, .bipush 61, 2), (112, .if_icmp .eq 24, 3)]
def k_LR_readUnit_1 : List (Nat × Jvm.ClassFile.Instr × Nat) := [(115, .iload_n 2, 1), (116, .bipush 60, 2), (118, .if_icmp .eq 18, 3), (121, .iload_n 2, 1), (122, .bipush 62, 2), (124, .if_icmp .eq 12, 3), (127, .aload_n 0, 1), (128, .getfield 9, 3), (131, .iconst 2, 1), (132, .invokevirtual 60, 3), (135, .ireturn, 1), (136, .aload_n 0, 1), (137, .getfield 9, 3), (140, .invokevirtual 41, 3), (143, .aload_n 0, 1), (144, .iload_n 1, 1), (145, .invokevirtual 57, 3), (148, .ifCond .ne 5, 3), (151, .iconst 0, 1), (152, .ireturn, 1), (153, .aload_n 0, 1), (154, .getfield 15, 3), (157, .iload_n 2, 1), (158, .iconst (-1), 1), (159, .ixor, 1), (160, .invokevirtual 44, 3), (163, .iconst 1, 1), (164, .ireturn, 1)]
def k_LR_readUnit : List (Nat × Jvm.ClassFile.Instr × Nat) := k_LR_readUnit_0 ++ (k_LR_readUnit_1)
def k_Mo_goesIn : List (Nat × Jvm.ClassFile.Instr × Nat) := [(0, .iload_n 1, 1), (1, .bipush 6, 2), (3, .if_icmp .ne 8, 3), (6, .aload_n 0, 1), (7, .iconst 4, 1), (8, .invokevirtual 135, 3), (11, .aload_n 0, 1), (12, .getfield 123, 3), (15, .ifCond .ne 7, 3), (18, .aload_n 0, 1), (19, .invokevirtual 132, 3), (22, .aload_n 0, 1), (23, .getfield 123, 3), (26, .ifCond .ne 7, 3), (29, .iconst 1, 1), (30, .goto 4, 3), (33, .iconst 0, 1), (34, .ireturn, 1)]
def k_Mo_readSum : List (Nat × Jvm.ClassFile.Instr × Nat) := [(0, .aload_n 0, 1), (1, .iload_n 1, 1), (2, .invokevirtual 167, 3), (5, .aload_n 0, 1), (6, .bipush 32, 2), (8, .invokevirtual 129, 3), (11, .ifCond .ne 12, 3), (14, .aload_n 0, 1), (15, .bipush 33, 2), (17, .invokevirtual 129, 3), (20, .ifCond .eq 39, 3), (23, .aload_n 0, 1), (24, .getfield 105, 3), (27, .bipush 32, 2), (29, .if_icmp .ne 9, 3), (32, .sipush 3000, 3), (35, .goto 6, 3), (38, .sipush 3001, 3), (41, .istore_n 2, 1), (42, .aload_n 0, 1), (43, .invokevirtual 132, 3), (46, .aload_n 0, 1), (47, .iload_n 1, 1), (48, .invokevirtual 167, 3), (51, .aload_n 0, 1), (52, .iload_n 2, 1), (53, .invokevirtual 149, 3), (56, .goto (-51), 3), (59, .return_, 1)]
def k_LR_enter : List (Nat × Jvm.ClassFile.Instr × Nat) := [(0, .iload_n 1, 1), (1, .bipush 6, 2), (3, .if_icmp .lt 12, 3), (6, .aload_n 0, 1), (7, .getfield 9, 3), (10, .iconst 4, 1), (11, .invokevirtual 60, 3), (14, .ireturn, 1), (15, .aload_n 0, 1), (16, .getfield 9, 3), (19, .invokevirtual 41, 3), (22, .iconst 1, 1), (23, .ireturn, 1)]
def k_LR_readSum : List (Nat × Jvm.ClassFile.Instr × Nat) := [(0, .aload_n 0, 1), (1, .iload_n 1, 1), (2, .invokevirtual 63, 3), (5, .ifCond .ne 5, 3), (8, .iconst 0, 1), (9, .ireturn, 1), (10, .iconst 0, 1), (11, .istore_n 2, 1), (12, .iload_n 2, 1), (13, .sipush 900, 3), (16, .if_icmp .ge 68, 3), (19, .aload_n 0, 1), (20, .getfield 9, 3), (23, .getfield 35, 3), (26, .bipush 43, 2), (28, .if_icmp .eq 15, 3), (31, .aload_n 0, 1), (32, .getfield 9, 3), (35, .getfield 35, 3), (38, .bipush 45, 2), (40, .if_icmp .ne 44, 3), (43, .aload_n 0, 1), (44, .getfield 9, 3), (47, .getfield 35, 3), (50, .istore_n 3, 1), (51, .aload_n 0, 1), (52, .getfield 9, 3), (55, .invokevirtual 41, 3), (58, .aload_n 0, 1), (59, .iload_n 1, 1), (60, .invokevirtual 63, 3), (63, .ifCond .ne 5, 3), (66, .iconst 0, 1), (67, .ireturn, 1), (68, .aload_n 0, 1), (69, .getfield 15, 3), (72, .iload_n 3, 1), (73, .iconst (-1), 1), (74, .ixor, 1), (75, .invokevirtual 44, 3), (78, .iinc 2 1, 3), (81, .goto (-69), 3), (84, .iconst 1, 1), (85, .ireturn, 1)]
def k_Mo_readTerm : List (Nat × Jvm.ClassFile.Instr × Nat) := [(0, .aload_n 0, 1), (1, .iload_n 1, 1), (2, .invokevirtual 164, 3), (5, .aload_n 0, 1), (6, .bipush 34, 2), (8, .invokevirtual 161, 3), (11, .ifCond .eq 18, 3), (14, .aload_n 0, 1), (15, .iload_n 1, 1), (16, .invokevirtual 164, 3), (19, .aload_n 0, 1), (20, .sipush 3002, 3), (23, .invokevirtual 149, 3), (26, .goto (-21), 3), (29, .return_, 1)]
def k_LR_readTerm : List (Nat × Jvm.ClassFile.Instr × Nat) := [(0, .aload_n 0, 1), (1, .iload_n 1, 1), (2, .invokevirtual 66, 3), (5, .ifCond .ne 5, 3), (8, .iconst 0, 1), (9, .ireturn, 1), (10, .iconst 0, 1), (11, .istore_n 2, 1), (12, .iload_n 2, 1), (13, .sipush 900, 3), (16, .if_icmp .ge 47, 3), (19, .aload_n 0, 1), (20, .getfield 9, 3), (23, .getfield 35, 3), (26, .bipush 42, 2), (28, .if_icmp .ne 35, 3), (31, .aload_n 0, 1), (32, .getfield 9, 3), (35, .invokevirtual 41, 3), (38, .aload_n 0, 1), (39, .iload_n 1, 1), (40, .invokevirtual 66, 3), (43, .ifCond .ne 5, 3), (46, .iconst 0, 1), (47, .ireturn, 1), (48, .aload_n 0, 1), (49, .getfield 15, 3), (52, .bipush (-43), 2), (54, .invokevirtual 44, 3), (57, .iinc 2 1, 3), (60, .goto (-48), 3), (63, .iconst 1, 1), (64, .ireturn, 1)]
def k_Mo_readAtom : List (Nat × Jvm.ClassFile.Instr × Nat) := [(0, .aload_n 0, 1), (1, .bipush 23, 2), (3, .invokevirtual 129, 3), (6, .ifCond .eq 18, 3), (9, .aload_n 0, 1), (10, .aload_n 0, 1), (11, .getfield 118, 3), (14, .invokevirtual 149, 3), (17, .aload_n 0, 1), (18, .invokevirtual 132, 3), (21, .goto 92, 3), (24, .aload_n 0, 1), (25, .getfield 123, 3), (28, .ifCond .ne 38, 3), (31, .aload_n 0, 1), (32, .aload_n 0, 1), (33, .getfield 105, 3), (36, .invokevirtual 152, 3), (39, .iconst (-1), 1), (40, .if_icmp .eq 26, 3), (43, .aload_n 0, 1), (44, .sipush 1000, 3), (47, .aload_n 0, 1), (48, .aload_n 0, 1), (49, .getfield 105, 3), (52, .invokevirtual 152, 3), (55, .iadd, 1), (56, .invokevirtual 149, 3), (59, .aload_n 0, 1), (60, .invokevirtual 132, 3), (63, .goto 50, 3), (66, .aload_n 0, 1), (67, .bipush 35, 2), (69, .invokevirtual 129, 3), (72, .ifCond .eq 36, 3), (75, .aload_n 0, 1), (76, .iload_n 1, 1), (77, .invokevirtual 155, 3), (80, .ifCond .ne 4, 3), (83, .return_, 1), (84, .aload_n 0, 1), (85, .iload_n 1, 1), (86, .iconst 1, 1), (87, .iadd, 1), (88, .invokevirtual 158, 3), (91, .aload_n 0, 1), (92, .bipush 36, 2), (94, .invokevirtual 161, 3), (97, .ifCond .ne 16, 3), (100, .aload_n 0, 1), (101, .iconst 2, 1), (102, .invokevirtual 135, 3), (105, .goto 8, 3), (108, .aload_n 0, 1), (109, .iconst 2, 1), (110, .invokevirtual 135, 3), (113, .return_, 1)]
def k_LR_readAtom : List (Nat × Jvm.ClassFile.Instr × Nat) := [(0, .aload_n 0, 1), (1, .getfield 9, 3), (4, .getfield 35, 3), (7, .istore_n 2, 1), (8, .iload_n 2, 1), (9, .bipush 40, 2), (11, .if_icmp .ne 39, 3), (14, .aload_n 0, 1), (15, .iload_n 1, 1), (16, .invokevirtual 51, 3), (19, .ifCond .eq 29, 3), (22, .aload_n 0, 1), (23, .iload_n 1, 1), (24, .iconst 1, 1), (25, .iadd, 1), (26, .invokevirtual 57, 3), (29, .ifCond .eq 19, 3), (32, .aload_n 0, 1), (33, .getfield 9, 3), (36, .bipush 41, 2), (38, .invokevirtual 54, 3), (41, .ifCond .eq 7, 3), (44, .iconst 1, 1), (45, .goto 4, 3), (48, .iconst 0, 1), (49, .ireturn, 1), (50, .iload_n 2, 1), (51, .bipush 20, 2), (53, .if_icmp .ne 20, 3), (56, .aload_n 0, 1), (57, .getfield 15, 3), (60, .aload_n 0, 1), (61, .getfield 9, 3), (64, .getfield 69, 3), (67, .invokevirtual 44, 3), (70, .goto 33, 3), (73, .aload_n 0, 1), (74, .iload_n 2, 1), (75, .invokevirtual 72, 3), (78, .ifCond .eq 16, 3), (81, .aload_n 0, 1), (82, .getfield 15, 3), (85, .iload_n 2, 1), (86, .iconst (-1), 1), (87, .ixor, 1), (88, .invokevirtual 44, 3), (91, .goto 12, 3), (94, .aload_n 0, 1), (95, .getfield 9, 3), (98, .iconst 2, 1), (99, .invokevirtual 60, 3), (102, .ireturn, 1), (103, .aload_n 0, 1), (104, .getfield 9, 3), (107, .invokevirtual 41, 3), (110, .iconst 1, 1), (111, .ireturn, 1)]
def k_Mo_wordOf : List (Nat × Jvm.ClassFile.Instr × Nat) := [(0, .iload_n 1, 1), (1, .bipush 11, 2), (3, .if_icmp .ne 5, 3), (6, .iconst 0, 1), (7, .ireturn, 1), (8, .iload_n 1, 1), (9, .iconst 2, 1), (10, .if_icmp .ne 5, 3), (13, .iconst 1, 1), (14, .ireturn, 1), (15, .aload_n 0, 1), (16, .getfield 143, 3), (19, .ifCond .ne 9, 3), (22, .aload_n 0, 1), (23, .iload_n 1, 1), (24, .invokevirtual 146, 3), (27, .ireturn, 1), (28, .iload_n 1, 1), (29, .bipush 15, 2), (31, .if_icmp .ne 8, 3), (34, .bipush 7, 2), (36, .goto 25, 3), (39, .iload_n 1, 1), (40, .bipush 6, 2), (42, .if_icmp .ne 8, 3), (45, .bipush 8, 2), (47, .goto 14, 3), (50, .iload_n 1, 1), (51, .iconst 3, 1), (52, .if_icmp .ne 8, 3), (55, .bipush 9, 2), (57, .goto 4, 3), (60, .iconst (-1), 1), (61, .ireturn, 1)]
def k_LR_isValue : List (Nat × Jvm.ClassFile.Instr × Nat) := [(0, .iload_n 1, 1), (1, .iconst 1, 1), (2, .if_icmp .gt 5, 3), (5, .iconst 1, 1), (6, .ireturn, 1), (7, .aload_n 0, 1), (8, .getfield 19, 3), (11, .ifCond .eq 17, 3), (14, .iload_n 1, 1), (15, .bipush 6, 2), (17, .if_icmp .gt 7, 3), (20, .iconst 1, 1), (21, .goto 24, 3), (24, .iconst 0, 1), (25, .goto 20, 3), (28, .iload_n 1, 1), (29, .bipush 7, 2), (31, .if_icmp .lt 13, 3), (34, .iload_n 1, 1), (35, .bipush 9, 2), (37, .if_icmp .gt 7, 3), (40, .iconst 1, 1), (41, .goto 4, 3), (44, .iconst 0, 1), (45, .ireturn, 1)]
def k_Mo_turnsWord : List (Nat × Jvm.ClassFile.Instr × Nat) := [(0, .iload_n 1, 1), (1, .tableswitch 66 5 14 #[61, 66, 66, 63, 66, 66, 66, 55, 57, 59], 55), (56, .iconst 2, 1), (57, .ireturn, 1), (58, .iconst 3, 1), (59, .ireturn, 1), (60, .iconst 4, 1), (61, .ireturn, 1), (62, .iconst 5, 1), (63, .ireturn, 1), (64, .bipush 6, 2), (66, .ireturn, 1), (67, .iconst (-1), 1), (68, .ireturn, 1)]
def m_law : MD := (0, 13, k_law, 4, 2, false)
def m_RW_init : MD := (1, 11, k_RW_init, 2, 0, true)
def m_Mo_init : MD := (2, 12, k_Mo_init, 1, 0, true)
def m_RW_feed : MD := (3, 11, k_RW_feed, 6, 1, false)
def m_Mo_feed : MD := (4, 12, k_Mo_feed, 8, 1, false)
def m_RW_room : MD := (5, 11, k_RW_room, 3, 1, false)
def m_Mo_room : MD := (6, 12, k_Mo_room, 3, 1, false)
def m_RW_fault : MD := (7, 11, k_RW_fault, 2, 1, false)
def m_Mo_fault : MD := (8, 12, k_Mo_fault, 2, 1, false)
def m_RW_rose : MD := (9, 11, k_RW_rose, 3, 1, false)
def m_Mo_rose : MD := (10, 12, k_Mo_rose, 3, 1, false)
def m_RW_tenant : MD := (11, 11, k_RW_tenant, 3, 1, false)
def m_Mo_tenant : MD := (12, 12, k_Mo_tenant, 3, 1, false)
def m_RW_night : MD := (13, 11, k_RW_night, 3, 1, false)
def m_Mo_night : MD := (14, 12, k_Mo_night, 2, 1, false)
def m_RW_nights : MD := (15, 11, k_RW_nights, 5, 1, false)
def m_Mo_nights : MD := (16, 12, k_Mo_nights, 6, 1, false)
def m_RW_let : MD := (17, 11, k_RW_let, 3, 1, false)
def m_Mo_let : MD := (18, 12, k_Mo_let, 3, 1, false)
def m_RW_turn : MD := (19, 11, k_RW_turn, 3, 1, false)
def m_Mo_turn : MD := (20, 12, k_Mo_turn, 2, 1, false)
def m_RW_temper : MD := (21, 11, k_RW_temper, 3, 1, false)
def m_Mo_temper : MD := (22, 12, k_Mo_temper, 2, 1, false)
def m_RW_undo : MD := (23, 11, k_RW_undo, 2, 1, false)
def m_Mo_undo : MD := (24, 12, k_Mo_undo, 3, 1, false)
def m_RW_judge : MD := (25, 11, k_RW_judge, 5, 1, false)
def m_Mo_judge : MD := (26, 12, k_Mo_judge, 7, 1, false)
def m_RW_perform : MD := (27, 11, k_RW_perform, 3, 1, false)
def m_Mo_perform : MD := (28, 12, k_Mo_perform, 4, 1, false)
def m_RW_season : MD := (29, 11, k_RW_season, 7, 1, false)
def m_Mo_season : MD := (30, 12, k_Mo_season, 6, 1, false)
def m_RW_lies : MD := (31, 11, k_RW_lies, 4, 1, false)
def m_Mo_lies : MD := (32, 12, k_Mo_lies, 3, 1, false)
def m_RW_round : MD := (33, 11, k_RW_round, 4, 1, false)
def m_Mo_round : MD := (34, 12, k_Mo_round, 5, 1, false)
def m_RW_stays : MD := (35, 11, k_RW_stays, 2, 1, false)
def m_Mo_stays : MD := (36, 12, k_Mo_stays, 2, 1, false)
def m_RW_stayBy : MD := (37, 11, k_RW_stayBy, 2, 1, false)
def m_Mo_stayBy : MD := (38, 12, k_Mo_stayBy, 7, 1, false)
def m_RW_out : MD := (39, 11, k_RW_out, 1, 1, false)
def m_Mo_out : MD := (40, 12, k_Mo_out, 1, 1, false)
def m_RW_outBy : MD := (41, 11, k_RW_outBy, 2, 1, false)
def m_Mo_outBy : MD := (42, 12, k_Mo_outBy, 2, 1, false)
def m_RW_forces : MD := (43, 11, k_RW_forces, 1, 1, false)
def m_Mo_forces : MD := (44, 12, k_Mo_forces, 1, 1, false)
def m_RW_minds : MD := (45, 11, k_RW_minds, 1, 1, false)
def m_Mo_minds : MD := (46, 12, k_Mo_minds, 2, 1, false)
def m_RW_soonest : MD := (47, 11, k_RW_soonest, 2, 1, false)
def m_Mo_soonest : MD := (48, 12, k_Mo_soonest, 2, 1, false)
def m_RW_way : MD := (49, 11, k_RW_way, 3, 1, false)
def m_Mo_way : MD := (50, 12, k_Mo_way, 3, 1, false)
def m_RW_toFace : MD := (51, 11, k_RW_toFace, 1, 1, false)
def m_Mo_toFace : MD := (52, 12, k_Mo_toFace, 1, 1, false)
def m_RW_walls : MD := (53, 11, k_RW_walls, 1, 1, false)
def m_Mo_walls : MD := (54, 12, k_Mo_walls, 6, 1, false)
def m_RW_parents : MD := (55, 11, k_RW_parents, 4, 1, false)
def m_Mo_parents : MD := (56, 12, k_Mo_parents, 4, 1, false)
def m_RW_orphans : MD := (57, 11, k_RW_orphans, 3, 1, false)
def m_Mo_orphans : MD := (58, 12, k_Mo_orphans, 6, 1, false)
def m_RW_still : MD := (59, 11, k_RW_still, 3, 1, false)
def m_Mo_still : MD := (60, 12, k_Mo_still, 6, 1, false)
def m_RW_rows : MD := (61, 11, k_RW_rows, 3, 1, false)
def m_Mo_rows : MD := (62, 12, k_Mo_rows, 5, 1, false)
def m_RW_seen : MD := (63, 11, k_RW_seen, 3, 1, false)
def m_Mo_seen : MD := (64, 12, k_Mo_seen, 5, 1, false)
def m_RW_seenBy : MD := (65, 11, k_RW_seenBy, 7, 1, false)
def m_Mo_seenBy : MD := (66, 12, k_Mo_seenBy, 5, 1, false)
def m_RW_whose : MD := (67, 11, k_RW_whose, 5, 1, false)
def m_Mo_whose : MD := (68, 12, k_Mo_whose, 6, 1, false)
def m_RW_tempers : MD := (69, 11, k_RW_tempers, 4, 1, false)
def m_Mo_tempers : MD := (70, 12, k_Mo_tempers, 4, 1, false)
def m_RW_attempt : MD := (71, 11, k_RW_attempt, 5, 1, false)
def m_Mo_attempt : MD := (72, 12, k_Mo_attempt, 5, 1, false)
def m_RW_chance : MD := (73, 11, k_RW_chance, 6, 1, false)
def m_Mo_chance : MD := (74, 12, k_Mo_chance, 4, 1, false)
def m_RW_gone : MD := (75, 11, k_RW_gone, 4, 1, false)
def m_Mo_gone : MD := (76, 12, k_Mo_gone, 3, 1, false)
def m_RW_best : MD := (77, 11, k_RW_best, 6, 1, false)
def m_Mo_best : MD := (78, 12, k_Mo_best, 6, 1, false)
def m_RW_numbers : MD := (79, 11, k_RW_numbers, 4, 1, false)
def m_Mo_numbers : MD := (80, 12, k_Mo_numbers, 5, 1, false)
def m_RW_write : MD := (81, 11, k_RW_write, 5, 6, false)
def m_Mo_write : MD := (82, 12, k_Mo_write, 6, 6, false)
def m_RW_lists : MD := (83, 11, k_RW_lists, 5, 1, false)
def m_Mo_lists : MD := (84, 12, k_Mo_lists, 6, 1, false)
def m_RW_image : MD := (85, 11, k_RW_image, 2, 1, false)
def m_Mo_image : MD := (86, 12, k_Mo_image, 3, 1, false)
def m_RW_restore : MD := (87, 11, k_RW_restore, 2, 1, false)
def m_Mo_restore : MD := (88, 12, k_Mo_restore, 3, 1, false)
def m_RW_count : MD := (89, 11, k_RW_count, 2, 1, false)
def m_Mo_count : MD := (90, 12, k_Mo_count, 2, 1, false)
def m_Tok_init : MD := (91, 9, k_Tok_init, 1, 0, true)
def m_RR_init : MD := (92, 7, k_RR_init, 1, 0, true)
def m_Mom_init : MD := (93, 3, k_Mom_init, 1, 0, true)
def m_Past_init : MD := (94, 4, k_Past_init, 2, 0, true)
def m_Stp_init : MD := (95, 8, k_Stp_init, 1, 0, true)
def m_Rch_init : MD := (96, 5, k_Rch_init, 1, 0, true)
def m_Con_init : MD := (97, 0, k_Con_init, 1, 0, true)
def m_Room_init : MD := (98, 6, k_Room_init, 1, 0, true)
def m_Tray_init : MD := (99, 10, k_Tray_init, 1, 0, true)
def m_Mom_begin : MD := (100, 3, k_Mom_begin, 2, 0, false)
def m_Stp_take : MD := (101, 8, k_Stp_take, 2, 0, false)
def m_Mo_plain : MD := (102, 12, k_Mo_plain, 2, 0, false)
def m_RW_tapeFour : MD := (103, 11, k_RW_tapeFour, 3, 0, false)
def m_RW_spareRoom : MD := (104, 11, k_RW_spareRoom, 2, 7, false)
def m_Tok_begin : MD := (105, 9, k_Tok_begin, 5, 0, false)
def m_RR_readRoom : MD := (106, 7, k_RR_readRoom, 4, 2, false)
def m_Past_clear : MD := (107, 4, k_Past_clear, 1, 0, false)
def m_Mo_within : MD := (108, 12, k_Mo_within, 6, 2, false)
def m_Mo_next : MD := (109, 12, k_Mo_next, 2, 0, false)
def m_Mo_eats : MD := (110, 12, k_Mo_eats, 2, 2, false)
def m_Mo_fails : MD := (111, 12, k_Mo_fails, 2, 0, false)
def m_Mo_takes : MD := (112, 12, k_Mo_takes, 4, 1, false)
def m_Mo_ends : MD := (113, 12, k_Mo_ends, 1, 0, false)
def m_Mo_readLine : MD := (114, 12, k_Mo_readLine, 1, 0, false)
def m_Room_hasRose : MD := (115, 6, k_Room_hasRose, 2, 2, false)
def m_Int_bitCount : MD := (116, 14, k_Int_bitCount, 1, 1, false)
def m_Mom_place : MD := (117, 3, k_Mom_place, 1, 1, false)
def m_Stp_pass : MD := (118, 8, k_Stp_pass, 12, 1, false)
def m_Mo_isRose : MD := (119, 12, k_Mo_isRose, 3, 2, false)
def m_Mo_nearOf : MD := (120, 12, k_Mo_nearOf, 7, 1, false)
def m_Mo_turnsThen : MD := (121, 12, k_Mo_turnsThen, 6, 2, false)
def m_Room_hasTenant : MD := (122, 6, k_Room_hasTenant, 2, 2, false)
def m_Stp_isGoing : MD := (123, 8, k_Stp_isGoing, 7, 2, false)
def m_Mo_isTenant : MD := (124, 12, k_Mo_isTenant, 3, 2, false)
def m_Mo_goesBy : MD := (125, 12, k_Mo_goesBy, 4, 2, false)
def m_RW_doneAlone : MD := (126, 11, k_RW_doneAlone, 4, 1, false)
def m_Mo_isBlind : MD := (127, 12, k_Mo_isBlind, 2, 2, false)
def m_Mo_keeps : MD := (128, 12, k_Mo_keeps, 2, 0, false)
def m_Mo_goesNight : MD := (129, 12, k_Mo_goesNight, 3, 0, false)
def m_Mo_notes : MD := (130, 12, k_Mo_notes, 2, 0, false)
def m_RW_isBlind : MD := (131, 11, k_RW_isBlind, 1, 2, false)
def m_Past_keep : MD := (132, 4, k_Past_keep, 2, 0, false)
def m_RW_passNight : MD := (133, 11, k_RW_passNight, 3, 0, false)
def m_Mo_whyLet : MD := (134, 12, k_Mo_whyLet, 3, 1, false)
def m_Mo_bitsOf : MD := (135, 12, k_Mo_bitsOf, 3, 1, false)
def m_Past_bringBack : MD := (136, 4, k_Past_bringBack, 3, 0, false)
def m_RW_isTray : MD := (137, 11, k_RW_isTray, 1, 2, false)
def m_Mom_copy : MD := (138, 3, k_Mom_copy, 2, 0, false)
def m_RW_doTray : MD := (139, 11, k_RW_doTray, 4, 1, false)
def m_Tray_at : MD := (140, 10, k_Tray_at, 2, 6, false)
def m_RW_doDeed : MD := (141, 11, k_RW_doDeed, 5, 1, false)
def m_Mo_noTray : MD := (142, 12, k_Mo_noTray, 2, 1, false)
def m_Mo_tells : MD := (143, 12, k_Mo_tells, 3, 1, false)
def m_Mo_isAgain : MD := (144, 12, k_Mo_isAgain, 2, 0, false)
def m_Mo_toldWho : MD := (145, 12, k_Mo_toldWho, 1, 1, false)
def m_RW_drawn : MD := (146, 11, k_RW_drawn, 1, 1, false)
def m_RW_seasonDeed : MD := (147, 11, k_RW_seasonDeed, 2, 1, false)
def m_Mo_drawn : MD := (148, 12, k_Mo_drawn, 2, 1, false)
def m_Mo_whyNot : MD := (149, 12, k_Mo_whyNot, 3, 1, false)
def m_Mo_does : MD := (150, 12, k_Mo_does, 2, 0, false)
def m_RW_here : MD := (151, 11, k_RW_here, 1, 1, false)
def m_Rch_walk : MD := (152, 5, k_Rch_walk, 6, 1, false)
def m_Rch_placeBehind : MD := (153, 5, k_Rch_placeBehind, 5, 1, false)
def m_Mo_laysRound : MD := (154, 12, k_Mo_laysRound, 4, 0, false)
def m_Rch_mostTurned : MD := (155, 5, k_Rch_mostTurned, 4, 1, false)
def m_Rch_firstEmpty : MD := (156, 5, k_Rch_firstEmpty, 2, 1, false)
def m_Rch_explore : MD := (157, 5, k_Rch_explore, 8, 1, false)
def m_Con_settle : MD := (158, 0, k_Con_settle, 8, 0, false)
def m_Con_level : MD := (159, 0, k_Con_level, 3, 1, false)
def m_Mo_laysStays : MD := (160, 12, k_Mo_laysStays, 5, 1, false)
def m_Con_stayBlind : MD := (161, 0, k_Con_stayBlind, 8, 1, false)
def m_Mo_standNow : MD := (162, 12, k_Mo_standNow, 1, 1, false)
def m_Rch_depth : MD := (163, 5, k_Rch_depth, 4, 1, false)
def m_Mo_laysFar : MD := (164, 12, k_Mo_laysFar, 4, 1, false)
def m_Mo_toldFar : MD := (165, 12, k_Mo_toldFar, 1, 1, false)
def m_Rch_blindTo : MD := (166, 5, k_Rch_blindTo, 7, 1, false)
def m_Mo_blindAt : MD := (167, 12, k_Mo_blindAt, 6, 1, false)
def m_Mo_laysForced : MD := (168, 12, k_Mo_laysForced, 5, 1, false)
def m_Con_forcingBlind : MD := (169, 0, k_Con_forcingBlind, 3, 1, false)
def m_Room_hasWall : MD := (170, 6, k_Room_hasWall, 2, 2, false)
def m_Mo_isWall : MD := (171, 12, k_Mo_isWall, 3, 2, false)
def m_Rch_differentWalls : MD := (172, 5, k_Rch_differentWalls, 5, 1, false)
def m_Mo_beginsMany : MD := (173, 12, k_Mo_beginsMany, 2, 0, false)
def m_Mo_standOf : MD := (174, 12, k_Mo_standOf, 2, 1, false)
def m_Stp_tune : MD := (175, 8, k_Stp_tune, 2, 0, false)
def m_Stp_comingTo : MD := (176, 8, k_Stp_comingTo, 6, 1, false)
def m_Mo_laysFrom : MD := (177, 12, k_Mo_laysFrom, 4, 0, false)
def m_Stp_comingOfNone : MD := (178, 8, k_Stp_comingOfNone, 6, 1, false)
def m_Mo_noSo : MD := (179, 12, k_Mo_noSo, 3, 1, false)
def m_Mo_roses : MD := (180, 12, k_Mo_roses, 1, 1, false)
def m_Stp_stayingSame : MD := (181, 8, k_Stp_stayingSame, 5, 1, false)
def m_Mo_wallThen : MD := (182, 12, k_Mo_wallThen, 6, 1, false)
def m_Rch_rowsTo : MD := (183, 5, k_Rch_rowsTo, 7, 1, false)
def m_Mo_goesMany : MD := (184, 12, k_Mo_goesMany, 4, 0, false)
def m_RW_refusedSeen : MD := (185, 11, k_RW_refusedSeen, 5, 1, false)
def m_RW_rowsSeen : MD := (186, 11, k_RW_rowsSeen, 7, 1, false)
def m_Mo_noSeen : MD := (187, 12, k_Mo_noSeen, 4, 1, false)
def m_Mo_laysThen : MD := (188, 12, k_Mo_laysThen, 4, 0, false)
def m_Mo_isRow : MD := (189, 12, k_Mo_isRow, 6, 2, false)
def m_RW_isFirstBlind : MD := (190, 11, k_RW_isFirstBlind, 5, 2, false)
def m_Stp_next : MD := (191, 8, k_Stp_next, 4, 1, false)
def m_Mo_blindIn : MD := (192, 12, k_Mo_blindIn, 4, 1, false)
def m_RW_placeOf : MD := (193, 11, k_RW_placeOf, 2, 1, false)
def m_RW_refusedTempers : MD := (194, 11, k_RW_refusedTempers, 4, 1, false)
def m_RW_tempersSeen : MD := (195, 11, k_RW_tempersSeen, 5, 1, false)
def m_Mo_noBlinds : MD := (196, 12, k_Mo_noBlinds, 4, 1, false)
def m_Mo_tempersOf : MD := (197, 12, k_Mo_tempersOf, 9, 1, false)
def m_RW_mostAlike : MD := (198, 11, k_RW_mostAlike, 5, 1, false)
def m_Mo_mostAlike : MD := (199, 12, k_Mo_mostAlike, 7, 1, false)
def m_RW_share : MD := (200, 11, k_RW_share, 4, 1, false)
def m_RW_powerOfTen : MD := (201, 11, k_RW_powerOfTen, 3, 1, false)
def m_RW_commonDivisor : MD := (202, 11, k_RW_commonDivisor, 6, 1, false)
def m_Mo_chanceOf : MD := (203, 12, k_Mo_chanceOf, 5, 1, false)
def m_Mo_wholeOf : MD := (204, 12, k_Mo_wholeOf, 3, 1, false)
def m_Mo_common : MD := (205, 12, k_Mo_common, 2, 1, false)
def m_Tray_begin : MD := (206, 10, k_Tray_begin, 3, 0, false)
def m_Tray_put : MD := (207, 10, k_Tray_put, 4, 0, false)
def m_Mo_cut : MD := (208, 12, k_Mo_cut, 3, 6, false)
def m_Mo_standThen : MD := (209, 12, k_Mo_standThen, 5, 1, false)
def m_LR_init : MD := (210, 2, k_LR_init, 1, 0, true)
def m_Lw_init : MD := (211, 1, k_Lw_init, 1, 0, true)
def m_Room_clear : MD := (212, 6, k_Room_clear, 1, 0, false)
def m_Arr_fillJ : MD := (213, 18, k_Arr_fillJ, 5, 0, false)
def m_Mat_min : MD := (214, 15, k_Mat_min, 2, 1, false)
def m_Mat_max : MD := (215, 15, k_Mat_max, 2, 1, false)
def m_Tok_splitNext : MD := (216, 9, k_Tok_splitNext, 2, 1, false)
def m_Tok_readNumber : MD := (217, 9, k_Tok_readNumber, 3, 1, false)
def m_Tok_advance : MD := (218, 9, k_Tok_advance, 1, 0, false)
def m_RR_readWall : MD := (219, 7, k_RR_readWall, 3, 2, false)
def m_RR_readLine : MD := (220, 7, k_RR_readLine, 2, 2, false)
def m_Tok_pass : MD := (221, 9, k_Tok_pass, 2, 2, false)
def m_Mo_see : MD := (222, 12, k_Mo_see, 2, 1, false)
def m_Mo_isSmall : MD := (223, 12, k_Mo_isSmall, 1, 2, false)
def m_Mo_keyAt : MD := (224, 12, k_Mo_keyAt, 4, 1, false)
def m_Mo_isDigit : MD := (225, 12, k_Mo_isDigit, 1, 2, false)
def m_Str_length : MD := (226, 16, k_Str_length, 1, 1, false)
def m_Str_charAt : MD := (227, 16, k_Str_charAt, 2, 4, false)
def m_Mo_is : MD := (228, 12, k_Mo_is, 2, 2, false)
def m_Mo_readRow : MD := (229, 12, k_Mo_readRow, 3, 0, false)
def m_Mo_readTenant : MD := (230, 12, k_Mo_readTenant, 2, 0, false)
def m_Mo_readRose : MD := (231, 12, k_Mo_readRose, 1, 1, false)
def m_Mo_readFace : MD := (232, 12, k_Mo_readFace, 2, 0, false)
def m_Mo_readLaw : MD := (233, 12, k_Mo_readLaw, 3, 0, false)
def m_Stp_learnTurning : MD := (234, 8, k_Stp_learnTurning, 7, 6, false)
def m_Mo_isIn : MD := (235, 12, k_Mo_isIn, 3, 2, false)
def m_Mo_reckons : MD := (236, 12, k_Mo_reckons, 5, 2, false)
def m_Lw_isTold : MD := (237, 1, k_Lw_isTold, 1, 2, false)
def m_Lw_holds : MD := (238, 1, k_Lw_holds, 5, 2, false)
def m_Mom_goTo : MD := (239, 3, k_Mom_goTo, 2, 0, false)
def m_Mat_floorMod : MD := (240, 15, k_Mat_floorMod, 3, 1, false)
def m_RW_doLet : MD := (241, 11, k_RW_doLet, 3, 1, false)
def m_Mo_draw : MD := (242, 12, k_Mo_draw, 2, 1, false)
def m_Rch_nodeOf : MD := (243, 5, k_Rch_nodeOf, 3, 1, false)
def m_Rch_add : MD := (244, 5, k_Rch_add, 3, 1, false)
def m_Rch_isGoal : MD := (245, 5, k_Rch_isGoal, 2, 2, false)
def m_Con_begin : MD := (246, 0, k_Con_begin, 5, 0, false)
def m_Con_leadOut : MD := (247, 0, k_Con_leadOut, 3, 0, false)
def m_Mo_isGone : MD := (248, 12, k_Mo_isGone, 1, 2, false)
def m_Mo_isSought : MD := (249, 12, k_Mo_isSought, 2, 2, false)
def m_Mo_leastBy : MD := (250, 12, k_Mo_leastBy, 5, 1, false)
def m_Mo_herBy : MD := (251, 12, k_Mo_herBy, 5, 1, false)
def m_Mo_mostBy : MD := (252, 12, k_Mo_mostBy, 5, 1, false)
def m_Room_fullWall : MD := (253, 6, k_Room_fullWall, 1, 1, false)
def m_Arr_fillI : MD := (254, 18, k_Arr_fillI, 4, 0, false)
def m_Rch_spreadWays : MD := (255, 5, k_Rch_spreadWays, 4, 0, false)
def m_Tray_fits : MD := (256, 10, k_Tray_fits, 5, 2, false)
def m_Mo_isSeen : MD := (257, 12, k_Mo_isSeen, 4, 2, false)
def m_RW_isTemperSeen : MD := (258, 11, k_RW_isTemperSeen, 6, 2, false)
def m_RW_alike : MD := (259, 11, k_RW_alike, 4, 1, false)
def m_Lw_clear : MD := (260, 1, k_Lw_clear, 1, 0, false)
def m_Room_shape : MD := (261, 6, k_Room_shape, 4, 0, false)
def m_Tok_isDigit : MD := (262, 9, k_Tok_isDigit, 1, 2, false)
def m_Tok_isLetter : MD := (263, 9, k_Tok_isLetter, 1, 2, false)
def m_Tok_kindOfWord : MD := (264, 9, k_Tok_kindOfWord, 1, 1, false)
def m_Str_indexOf : MD := (265, 16, k_Str_indexOf, 2, 1, false)
def m_Tok_passNumber : MD := (266, 9, k_Tok_passNumber, 4, 1, false)
def m_Tok_refuse : MD := (267, 9, k_Tok_refuse, 2, 2, false)
def m_RR_isLine : MD := (268, 7, k_RR_isLine, 1, 2, false)
def m_RR_readKinds : MD := (269, 7, k_RR_readKinds, 5, 2, false)
def m_RR_readTenant : MD := (270, 7, k_RR_readTenant, 3, 2, false)
def m_RR_readFace : MD := (271, 7, k_RR_readFace, 4, 2, false)
def m_LR_readLaw : MD := (272, 2, k_LR_readLaw, 4, 2, false)
def m_RR_readOne : MD := (273, 7, k_RR_readOne, 3, 2, false)
def m_Str_coder : MD := (274, 16, k_Str_coder, 1, 3, false)
def m_Str_isLatin1 : MD := (275, 16, k_Str_isLatin1, 1, 2, false)
def m_Lat_charAt : MD := (276, 17, k_Lat_charAt, 2, 4, false)
def m_Mo_readTruth : MD := (277, 12, k_Mo_readTruth, 2, 0, false)
def m_Mo_between : MD := (278, 12, k_Mo_between, 5, 1, false)
def m_Lw_joined : MD := (279, 1, k_Lw_joined, 7, 1, false)
def m_Con_addEdge : MD := (280, 0, k_Con_addEdge, 3, 0, false)
def m_Room_neighbours : MD := (281, 6, k_Room_neighbours, 6, 1, false)
def m_Tok_isWord : MD := (282, 9, k_Tok_isWord, 3, 2, false)
def m_Tok_kindOfFour : MD := (283, 9, k_Tok_kindOfFour, 1, 1, false)
def m_Str_indexOf2 : MD := (284, 16, k_Str_indexOf2, 3, 1, false)
def m_LR_readTruth : MD := (285, 2, k_LR_readTruth, 3, 2, false)
def m_RR_highest : MD := (286, 7, k_RR_highest, 2, 1, false)
def m_Str_checkIndex : MD := (287, 16, k_Str_checkIndex, 2, 0, false)
def m_Mo_readBoth : MD := (288, 12, k_Mo_readBoth, 2, 0, false)
def m_Mo_codes : MD := (289, 12, k_Mo_codes, 2, 0, false)
def m_Mat_abs : MD := (290, 15, k_Mat_abs, 1, 1, false)
def m_Lat_indexOf : MD := (291, 17, k_Lat_indexOf, 4, 1, false)
def m_LR_readBoth : MD := (292, 2, k_LR_readBoth, 3, 2, false)
def m_Lw_add : MD := (293, 1, k_Lw_add, 2, 0, false)
def m_Pre_checkIndex : MD := (294, 19, k_Pre_checkIndex, 3, 1, false)
def m_Mo_readUnit : MD := (295, 12, k_Mo_readUnit, 3, 0, false)
def m_Lat_canEncode : MD := (296, 17, k_Lat_canEncode, 1, 2, false)
def m_Lat_indexOfChar : MD := (297, 17, k_Lat_indexOfChar, 6, 1, false)
def m_LR_readUnit : MD := (298, 2, k_LR_readUnit, 3, 2, false)
def m_Mo_goesIn : MD := (299, 12, k_Mo_goesIn, 2, 2, false)
def m_Mo_readSum : MD := (300, 12, k_Mo_readSum, 3, 0, false)
def m_LR_enter : MD := (301, 2, k_LR_enter, 2, 2, false)
def m_LR_readSum : MD := (302, 2, k_LR_readSum, 4, 2, false)
def m_Mo_readTerm : MD := (303, 12, k_Mo_readTerm, 2, 0, false)
def m_LR_readTerm : MD := (304, 2, k_LR_readTerm, 3, 2, false)
def m_Mo_readAtom : MD := (305, 12, k_Mo_readAtom, 2, 0, false)
def m_LR_readAtom : MD := (306, 2, k_LR_readAtom, 3, 2, false)
def m_Mo_wordOf : MD := (307, 12, k_Mo_wordOf, 2, 1, false)
def m_LR_isValue : MD := (308, 2, k_LR_isValue, 2, 2, false)
def m_Mo_turnsWord : MD := (309, 12, k_Mo_turnsWord, 2, 1, false)
def fresT : List (List (Nat × Nat × Nat × Nat × Bool × Nat)) := [[(9, 10, 0, 2, true, 344), (15, 10, 1, 2, true, 345), (18, 10, 2, 2, true, 346), (21, 10, 4, 2, true, 348), (24, 10, 5, 2, true, 349), (31, 10, 3, 0, false, 347), (45, 15, 1, 0, false, 315), (48, 15, 0, 2, true, 313), (51, 15, 2, 2, true, 318)], [(9, 11, 0, 2, true, 374), (15, 11, 1, 2, true, 375), (18, 11, 2, 0, false, 376)], [(9, 12, 0, 2, false, 207), (15, 12, 1, 2, false, 208), (19, 12, 2, 3, false, 209), (35, 19, 9, 0, false, 158), (69, 19, 10, 0, false, 161)], [(9, 13, 1, 0, false, 238), (15, 16, 5, 0, false, 420), (20, 13, 0, 0, false, 236), (21, 16, 4, 0, false, 418), (22, 16, 8, 0, false, 430), (25, 13, 2, 0, false, 240), (26, 13, 3, 0, false, 242)], [(11, 14, 0, 2, true, 261), (18, 14, 2, 0, false, 263), (22, 14, 1, 0, false, 262)], [(9, 15, 0, 2, true, 312), (15, 15, 2, 2, true, 317), (18, 15, 3, 2, true, 319), (21, 15, 4, 2, true, 320), (24, 15, 5, 2, true, 321), (27, 15, 6, 2, true, 322), (30, 15, 1, 0, false, 314)], [(9, 16, 10, 2, true, 436), (15, 16, 11, 2, true, 440), (18, 16, 12, 2, true, 443), (24, 16, 13, 2, true, 447), (28, 16, 14, 2, true, 450), (34, 16, 3, 0, false, 414), (38, 16, 4, 0, false, 417), (41, 16, 5, 0, false, 421), (44, 16, 6, 0, false, 423), (47, 16, 7, 0, false, 427), (50, 16, 8, 0, false, 431), (53, 16, 9, 0, false, 434), (67, 16, 0, 0, false, 406), (70, 16, 1, 0, false, 408), (73, 16, 2, 0, false, 410)], [(12, 17, 0, 2, true, 217), (18, 17, 1, 2, false, 218), (22, 17, 2, 2, false, 219), (35, 16, 9, 0, false, 433), (39, 19, 9, 0, false, 157), (59, 16, 3, 0, false, 415), (80, 16, 13, 2, true, 448), (88, 16, 14, 2, true, 451), (94, 16, 0, 0, false, 407), (97, 16, 1, 0, false, 409), (103, 16, 10, 2, true, 438), (107, 16, 12, 2, true, 445), (110, 16, 2, 0, false, 412), (113, 16, 6, 0, false, 425), (120, 16, 4, 0, false, 419), (123, 16, 5, 0, false, 422), (126, 16, 7, 0, false, 428), (129, 16, 8, 0, false, 432)], [(9, 18, 2, 2, true, 282), (15, 18, 3, 2, true, 283), (20, 18, 4, 2, true, 284), (24, 18, 5, 2, true, 285), (27, 18, 7, 2, true, 287), (30, 18, 0, 2, false, 280), (40, 18, 6, 0, false, 286), (44, 18, 1, 0, false, 281), (55, 16, 2, 0, false, 411), (60, 16, 11, 2, true, 441), (77, 16, 10, 2, true, 437), (80, 16, 13, 2, true, 449), (97, 16, 14, 2, true, 452), (100, 16, 12, 2, true, 444), (103, 16, 6, 0, false, 424)], [(9, 19, 4, 2, true, 152), (15, 19, 5, 2, true, 153), (18, 19, 6, 2, true, 154), (21, 19, 12, 0, false, 164), (25, 19, 0, 2, false, 148), (38, 19, 1, 0, false, 149), (41, 19, 11, 0, false, 162), (44, 19, 7, 0, false, 155), (47, 19, 3, 0, false, 151), (54, 19, 2, 0, false, 150), (60, 19, 8, 0, false, 156), (66, 19, 9, 0, false, 159), (69, 19, 10, 0, false, 160)], [(9, 20, 0, 2, true, 489), (15, 20, 3, 3, false, 493), (19, 20, 1, 0, false, 490), (32, 20, 2, 0, false, 491)], [(9, 21, 0, 2, true, 515), (16, 21, 2, 2, true, 517), (23, 21, 3, 2, true, 518), (29, 21, 4, 2, true, 519), (33, 21, 6, 2, true, 521), (38, 21, 7, 2, true, 522), (43, 21, 8, 2, true, 523), (47, 21, 9, 2, true, 524), (50, 21, 10, 2, true, 525), (56, 21, 11, 2, true, 526), (62, 21, 12, 2, true, 527), (69, 21, 13, 2, true, 528), (76, 21, 14, 2, true, 529), (83, 21, 15, 2, true, 530), (87, 21, 16, 2, true, 531), (93, 21, 5, 2, false, 520), (104, 21, 1, 0, false, 516), (123, 19, 11, 0, false, 163), (129, 16, 9, 0, false, 435), (132, 19, 12, 0, false, 165), (139, 16, 10, 2, true, 439), (142, 13, 0, 0, false, 237), (145, 16, 11, 2, true, 442), (158, 13, 2, 0, false, 241), (168, 16, 12, 2, true, 446), (171, 13, 1, 0, false, 239), (193, 14, 2, 0, false, 264), (203, 20, 3, 3, false, 494), (214, 20, 2, 0, false, 492), (239, 13, 3, 0, false, 243), (253, 15, 1, 0, false, 316), (290, 16, 6, 0, false, 426), (330, 16, 3, 0, false, 416), (370, 16, 7, 0, false, 429), (386, 16, 2, 0, false, 413)], [(1, 22, 0, 0, false, 1326), (13, 22, 1, 2, true, 1327), (17, 22, 2, 2, true, 1328), (21, 22, 3, 2, true, 1329), (24, 22, 4, 2, true, 1330), (27, 22, 14, 0, false, 1340), (30, 22, 16, 2, true, 1342), (33, 22, 17, 2, true, 1343), (36, 22, 18, 2, true, 1344), (39, 22, 21, 2, true, 1347), (42, 22, 22, 2, true, 1348), (45, 22, 25, 2, true, 1351), (48, 22, 26, 2, true, 1352), (51, 22, 27, 2, true, 1353), (54, 22, 29, 2, true, 1355), (57, 22, 30, 2, true, 1356), (60, 22, 31, 2, true, 1357), (63, 22, 32, 2, true, 1358), (66, 22, 33, 2, true, 1359), (69, 22, 34, 2, true, 1360), (77, 22, 5, 0, false, 1331), (80, 22, 8, 0, false, 1334), (95, 22, 6, 0, false, 1332), (98, 22, 7, 0, false, 1333), (105, 22, 9, 0, false, 1335), (118, 22, 10, 0, false, 1336), (123, 22, 11, 0, false, 1337), (126, 22, 12, 0, false, 1338), (143, 22, 15, 0, false, 1341), (204, 22, 13, 0, false, 1339), (294, 22, 19, 0, false, 1345), (316, 22, 20, 0, false, 1346), (327, 22, 23, 0, false, 1349), (330, 22, 24, 0, false, 1350), (348, 22, 28, 0, false, 1354)], [], [], [], [(9, 2, 0, 5, false, 1947), (15, 2, 1, 4, false, 1948)], [], [], [], []]
def mds_0 : List MD := [m_law]
def mds_1 : List MD := [m_RW_init, m_Mo_init, m_RW_feed, m_Mo_feed, m_RW_room, m_Mo_room, m_RW_fault, m_Mo_fault, m_RW_rose, m_Mo_rose]
def mds_2 : List MD := [m_RW_tenant, m_Mo_tenant, m_RW_night, m_Mo_night, m_RW_nights, m_Mo_nights, m_RW_let, m_Mo_let, m_RW_turn, m_Mo_turn]
def mds_3 : List MD := [m_RW_temper, m_Mo_temper, m_RW_undo, m_Mo_undo, m_RW_judge, m_Mo_judge, m_RW_perform, m_Mo_perform, m_RW_season, m_Mo_season]
def mds_4 : List MD := [m_RW_lies, m_Mo_lies, m_RW_round, m_Mo_round, m_RW_stays, m_Mo_stays, m_RW_stayBy, m_Mo_stayBy, m_RW_out, m_Mo_out]
def mds_5 : List MD := [m_RW_outBy, m_Mo_outBy, m_RW_forces, m_Mo_forces, m_RW_minds, m_Mo_minds, m_RW_soonest, m_Mo_soonest, m_RW_way, m_Mo_way]
def mds_6 : List MD := [m_RW_toFace, m_Mo_toFace, m_RW_walls, m_Mo_walls, m_RW_parents, m_Mo_parents, m_RW_orphans, m_Mo_orphans, m_RW_still, m_Mo_still]
def mds_7 : List MD := [m_RW_rows, m_Mo_rows, m_RW_seen, m_Mo_seen, m_RW_seenBy, m_Mo_seenBy, m_RW_whose, m_Mo_whose, m_RW_tempers, m_Mo_tempers]
def mds_8 : List MD := [m_RW_attempt, m_Mo_attempt, m_RW_chance, m_Mo_chance, m_RW_gone, m_Mo_gone, m_RW_best, m_Mo_best, m_RW_numbers, m_Mo_numbers]
def mds_9 : List MD := [m_RW_write, m_Mo_write, m_RW_lists, m_Mo_lists, m_RW_image, m_Mo_image, m_RW_restore, m_Mo_restore, m_RW_count, m_Mo_count]
def mds_10 : List MD := [m_Tok_init, m_RR_init, m_Mom_init, m_Past_init, m_Stp_init, m_Rch_init, m_Con_init, m_Room_init, m_Tray_init, m_Mom_begin]
def mds_11 : List MD := [m_Stp_take, m_Mo_plain, m_RW_tapeFour, m_RW_spareRoom, m_Tok_begin, m_RR_readRoom, m_Past_clear, m_Mo_within, m_Mo_next, m_Mo_eats]
def mds_12 : List MD := [m_Mo_fails, m_Mo_takes, m_Mo_ends, m_Mo_readLine, m_Room_hasRose, m_Int_bitCount, m_Mom_place, m_Stp_pass, m_Mo_isRose, m_Mo_nearOf]
def mds_13 : List MD := [m_Mo_turnsThen, m_Room_hasTenant, m_Stp_isGoing, m_Mo_isTenant, m_Mo_goesBy, m_RW_doneAlone, m_Mo_isBlind, m_Mo_keeps, m_Mo_goesNight, m_Mo_notes]
def mds_14 : List MD := [m_RW_isBlind, m_Past_keep, m_RW_passNight, m_Mo_whyLet, m_Mo_bitsOf, m_Past_bringBack, m_RW_isTray, m_Mom_copy, m_RW_doTray, m_Tray_at]
def mds_15 : List MD := [m_RW_doDeed, m_Mo_noTray, m_Mo_tells, m_Mo_isAgain, m_Mo_toldWho, m_RW_drawn, m_RW_seasonDeed, m_Mo_drawn, m_Mo_whyNot, m_Mo_does]
def mds_16 : List MD := [m_RW_here, m_Rch_walk, m_Rch_placeBehind, m_Mo_laysRound, m_Rch_mostTurned, m_Rch_firstEmpty, m_Rch_explore, m_Con_settle, m_Con_level, m_Mo_laysStays]
def mds_17 : List MD := [m_Con_stayBlind, m_Mo_standNow, m_Rch_depth, m_Mo_laysFar, m_Mo_toldFar, m_Rch_blindTo, m_Mo_blindAt, m_Mo_laysForced, m_Con_forcingBlind, m_Room_hasWall]
def mds_18 : List MD := [m_Mo_isWall, m_Rch_differentWalls, m_Mo_beginsMany, m_Mo_standOf, m_Stp_tune, m_Stp_comingTo, m_Mo_laysFrom, m_Stp_comingOfNone, m_Mo_noSo, m_Mo_roses]
def mds_19 : List MD := [m_Stp_stayingSame, m_Mo_wallThen, m_Rch_rowsTo, m_Mo_goesMany, m_RW_refusedSeen, m_RW_rowsSeen, m_Mo_noSeen, m_Mo_laysThen, m_Mo_isRow, m_RW_isFirstBlind]
def mds_20 : List MD := [m_Stp_next, m_Mo_blindIn, m_RW_placeOf, m_RW_refusedTempers, m_RW_tempersSeen, m_Mo_noBlinds, m_Mo_tempersOf, m_RW_mostAlike, m_Mo_mostAlike, m_RW_share]
def mds_21 : List MD := [m_RW_powerOfTen, m_RW_commonDivisor, m_Mo_chanceOf, m_Mo_wholeOf, m_Mo_common, m_Tray_begin, m_Tray_put, m_Mo_cut, m_Mo_standThen, m_LR_init]
def mds_22 : List MD := [m_Lw_init, m_Room_clear, m_Arr_fillJ, m_Mat_min, m_Mat_max, m_Tok_splitNext, m_Tok_readNumber, m_Tok_advance, m_RR_readWall, m_RR_readLine]
def mds_23 : List MD := [m_Tok_pass, m_Mo_see, m_Mo_isSmall, m_Mo_keyAt, m_Mo_isDigit, m_Str_length, m_Str_charAt, m_Mo_is, m_Mo_readRow, m_Mo_readTenant]
def mds_24 : List MD := [m_Mo_readRose, m_Mo_readFace, m_Mo_readLaw, m_Stp_learnTurning, m_Mo_isIn, m_Mo_reckons, m_Lw_isTold, m_Lw_holds, m_Mom_goTo, m_Mat_floorMod]
def mds_25 : List MD := [m_RW_doLet, m_Mo_draw, m_Rch_nodeOf, m_Rch_add, m_Rch_isGoal, m_Con_begin, m_Con_leadOut, m_Mo_isGone, m_Mo_isSought, m_Mo_leastBy]
def mds_26 : List MD := [m_Mo_herBy, m_Mo_mostBy, m_Room_fullWall, m_Arr_fillI, m_Rch_spreadWays, m_Tray_fits, m_Mo_isSeen, m_RW_isTemperSeen, m_RW_alike, m_Lw_clear]
def mds_27 : List MD := [m_Room_shape, m_Tok_isDigit, m_Tok_isLetter, m_Tok_kindOfWord, m_Str_indexOf, m_Tok_passNumber, m_Tok_refuse, m_RR_isLine, m_RR_readKinds, m_RR_readTenant]
def mds_28 : List MD := [m_RR_readFace, m_LR_readLaw, m_RR_readOne, m_Str_coder, m_Str_isLatin1, m_Lat_charAt, m_Mo_readTruth, m_Mo_between, m_Lw_joined, m_Con_addEdge]
def mds_29 : List MD := [m_Room_neighbours, m_Tok_isWord, m_Tok_kindOfFour, m_Str_indexOf2, m_LR_readTruth, m_RR_highest, m_Str_checkIndex, m_Mo_readBoth, m_Mo_codes, m_Mat_abs]
def mds_30 : List MD := [m_Lat_indexOf, m_LR_readBoth, m_Lw_add, m_Pre_checkIndex, m_Mo_readUnit, m_Lat_canEncode, m_Lat_indexOfChar, m_LR_readUnit, m_Mo_goesIn, m_Mo_readSum]
def mds_31 : List MD := [m_LR_enter, m_LR_readSum, m_Mo_readTerm, m_LR_readTerm, m_Mo_readAtom, m_LR_readAtom, m_Mo_wordOf, m_LR_isValue, m_Mo_turnsWord]
def mds : List MD := mds_0 ++ (mds_1 ++ (mds_2 ++ (mds_3 ++ (mds_4 ++ (mds_5 ++ (mds_6 ++ (mds_7 ++ (mds_8 ++ (mds_9 ++ (mds_10 ++ (mds_11 ++ (mds_12 ++ (mds_13 ++ (mds_14 ++ (mds_15 ++ (mds_16 ++ (mds_17 ++ (mds_18 ++ (mds_19 ++ (mds_20 ++ (mds_21 ++ (mds_22 ++ (mds_23 ++ (mds_24 ++ (mds_25 ++ (mds_26 ++ (mds_27 ++ (mds_28 ++ (mds_29 ++ (mds_30 ++ (mds_31)))))))))))))))))))))))))))))))
def mresT : List (List (Nat × Nat × Nat × Nat × Nat × Nat)) := [[(27, 246, 2, 10, 1069, 0), (35, 247, 2, 10, 1074, 0), (39, 254, 2, 0, 1073, 0), (54, 280, 2, 10, 1078, 0), (57, 159, 2, 10, 1094, 0)], [(24, 279, 3, 0, 891, 0)], [(23, 260, 0, 11, 797, 0), (28, 285, 1, 12, 798, 0), (32, 292, 1, 12, 802, 0), (41, 218, 0, 19, 815, 0), (44, 293, 1, 11, 816, 0), (48, 298, 1, 12, 806, 0), (51, 301, 1, 12, 810, 0), (54, 221, 1, 19, 820, 0), (57, 302, 1, 12, 821, 0), (60, 267, 1, 19, 814, 0), (63, 304, 1, 12, 825, 0), (66, 306, 1, 12, 829, 0), (72, 308, 1, 12, 833, 0)], [(29, 193, 2, 0, 868, 1)], [(17, 93, 0, 13, 260, 1), (25, 138, 1, 13, 946, 0), (29, 214, 2, 0, 947, 0), (35, 240, 2, 0, 972, 0)], [(34, 244, 2, 15, 1027, 0), (38, 245, 2, 0, 1062, 0), (42, 191, 2, 18, 1031, 0), (47, 243, 1, 15, 1023, 0), (51, 163, 1, 15, 1111, 0), (54, 215, 2, 0, 1036, 0), (59, 116, 1, 0, 1049, 0), (64, 157, 3, 15, 1188, 0), (68, 254, 2, 0, 1189, 0), (74, 255, 0, 15, 1190, 0)], [(23, 211, 0, 11, 370, 1), (31, 212, 0, 16, 384, 0), (56, 254, 2, 0, 388, 0), (62, 260, 0, 11, 391, 0), (63, 261, 2, 16, 395, 0), (76, 281, 1, 16, 399, 0), (80, 290, 1, 0, 403, 0), (85, 253, 0, 16, 1132, 0)], [(11, 210, 0, 12, 203, 1), (26, 212, 0, 16, 750, 0), (31, 219, 0, 17, 751, 0), (44, 220, 0, 17, 768, 0), (47, 221, 1, 19, 755, 0), (51, 266, 2, 19, 763, 0), (55, 261, 2, 16, 767, 0), (62, 267, 1, 19, 772, 0), (65, 268, 1, 0, 773, 0), (68, 218, 0, 19, 776, 0), (71, 269, 0, 17, 777, 0), (74, 270, 0, 17, 785, 0), (77, 271, 0, 17, 789, 0), (84, 272, 3, 12, 793, 0), (91, 273, 1, 17, 837, 0), (100, 115, 1, 16, 781, 0), (116, 286, 1, 17, 841, 0)], [(34, 213, 2, 0, 512, 0), (47, 131, 1, 0, 875, 1), (51, 118, 3, 18, 1035, 0), (63, 116, 1, 0, 878, 0), (69, 234, 2, 18, 879, 0), (73, 123, 3, 18, 898, 0), (84, 237, 0, 11, 883, 0), (90, 238, 1, 11, 887, 0), (94, 122, 1, 16, 902, 0), (106, 253, 0, 16, 1160, 0), (110, 193, 2, 0, 1161, 1), (114, 191, 2, 18, 1162, 0), (117, 254, 2, 0, 1171, 0)], [(29, 214, 2, 0, 587, 0), (35, 215, 2, 0, 590, 0), (50, 216, 0, 19, 593, 0), (57, 217, 0, 19, 738, 0), (63, 218, 0, 19, 742, 0), (72, 262, 1, 0, 597, 0), (76, 263, 1, 0, 600, 0), (79, 264, 0, 19, 603, 0), (84, 265, 1, 2, 683, 0), (92, 282, 1, 19, 608, 0), (106, 283, 0, 19, 665, 0), (134, 226, 0, 2, 612, 0), (136, 227, 1, 2, 622, 0), (140, 267, 1, 19, 759, 0)], [(23, 214, 2, 0, 1287, 0), (29, 215, 2, 0, 1288, 0), (35, 213, 2, 0, 1289, 0), (43, 140, 1, 20, 1213, 0)], [(15, 91, 0, 19, 144, 1), (22, 92, 0, 17, 197, 1), (42, 93, 0, 13, 232, 1), (55, 94, 0, 14, 255, 0), (68, 95, 0, 18, 276, 1), (75, 96, 0, 15, 308, 1), (82, 97, 0, 10, 340, 1), (91, 98, 0, 16, 364, 0), (92, 99, 0, 20, 485, 1), (97, 100, 1, 13, 504, 0), (101, 101, 1, 18, 508, 0), (108, 103, 1, 21, 571, 0), (112, 104, 0, 21, 579, 0), (116, 105, 2, 19, 583, 0), (119, 106, 2, 17, 746, 0), (126, 107, 0, 14, 845, 0), (135, 115, 1, 16, 857, 0), (148, 116, 1, 0, 858, 0), (154, 117, 0, 13, 864, 0), (161, 118, 3, 18, 871, 0), (165, 122, 1, 16, 910, 0), (174, 123, 3, 18, 911, 0), (178, 126, 2, 21, 916, 0), (182, 131, 1, 0, 933, 0), (185, 132, 1, 14, 942, 0), (189, 133, 2, 21, 934, 0), (196, 136, 2, 14, 968, 0), (200, 137, 1, 0, 979, 0), (207, 138, 1, 13, 920, 0), (210, 139, 2, 21, 982, 0), (215, 140, 1, 20, 986, 0), (219, 141, 2, 21, 924, 0), (223, 146, 1, 0, 999, 0), (226, 147, 2, 0, 1003, 0), (232, 241, 2, 21, 929, 0), (236, 239, 1, 13, 938, 0), (243, 151, 0, 21, 1011, 0), (246, 152, 3, 15, 1019, 0), (250, 153, 2, 15, 1037, 0), (254, 155, 1, 15, 1045, 0), (257, 156, 0, 15, 1050, 0), (260, 175, 1, 18, 1015, 0), (263, 157, 3, 15, 1058, 0), (266, 158, 2, 10, 1065, 0), (270, 159, 2, 10, 1082, 0), (273, 161, 2, 10, 1090, 0), (277, 163, 1, 15, 1099, 0), (280, 166, 2, 15, 1107, 0), (283, 169, 1, 10, 1120, 0), (287, 170, 1, 16, 1128, 0), (293, 172, 0, 15, 1148, 0), (296, 176, 3, 18, 1156, 0), (299, 178, 2, 18, 1167, 0), (302, 181, 2, 18, 1176, 0), (305, 183, 4, 15, 1184, 0), (309, 185, 1, 21, 1198, 0), (312, 186, 3, 21, 1204, 0), (316, 190, 3, 21, 1218, 0), (320, 191, 2, 18, 1208, 0), (323, 256, 2, 20, 1209, 0), (327, 193, 2, 0, 1226, 0), (333, 194, 2, 21, 1231, 0), (336, 195, 2, 21, 1235, 0), (340, 198, 2, 21, 1247, 0), (345, 253, 0, 16, 1203, 0), (348, 258, 3, 21, 1239, 0), (351, 259, 1, 21, 1251, 0), (354, 215, 2, 0, 1255, 0), (359, 200, 2, 21, 1260, 0), (362, 201, 1, 0, 1264, 0), (365, 202, 2, 0, 1267, 0), (373, 206, 2, 20, 1283, 0), (382, 207, 2, 20, 1297, 0)], [(73, 102, 1, 0, 1323, 0), (85, 226, 0, 2, 1460, 0), (91, 227, 1, 2, 1461, 0), (101, 222, 1, 22, 1448, 0), (108, 223, 1, 0, 1452, 0), (112, 224, 0, 22, 1455, 0), (115, 225, 1, 0, 1462, 0), (129, 228, 1, 22, 1470, 0), (132, 109, 0, 22, 1444, 0), (135, 111, 1, 22, 1474, 0), (139, 108, 3, 0, 1441, 0), (146, 309, 1, 22, 1546, 0), (149, 289, 1, 22, 1526, 0), (152, 307, 1, 22, 1542, 0), (155, 299, 1, 22, 1522, 0), (158, 300, 1, 22, 1530, 0), (161, 110, 1, 22, 1466, 0), (164, 305, 1, 22, 1538, 0), (167, 303, 1, 22, 1534, 0), (170, 295, 1, 22, 1518, 0), (173, 277, 1, 22, 1510, 0), (176, 288, 1, 22, 1514, 0), (179, 112, 2, 22, 1478, 0), (183, 231, 0, 22, 1498, 0), (186, 229, 0, 22, 1490, 0), (189, 230, 0, 22, 1494, 0), (192, 232, 0, 22, 1502, 0), (195, 233, 1, 22, 1506, 0), (198, 113, 0, 22, 1482, 0), (201, 114, 0, 22, 1486, 0), (207, 180, 0, 22, 1562, 0), (210, 235, 2, 0, 1570, 0), (220, 278, 3, 0, 1583, 0), (224, 120, 2, 22, 1566, 0), (229, 236, 1, 22, 1579, 0), (232, 135, 1, 0, 1600, 0), (235, 121, 4, 22, 1574, 0), (239, 182, 3, 22, 1629, 0), (242, 125, 3, 22, 1596, 0), (246, 174, 2, 0, 1622, 0), (249, 119, 1, 22, 1558, 0), (253, 124, 1, 22, 1592, 0), (256, 162, 0, 22, 1618, 0), (259, 209, 2, 22, 1625, 0), (262, 127, 1, 0, 1607, 0), (265, 128, 0, 22, 1610, 0), (268, 129, 1, 22, 1614, 0), (271, 130, 0, 22, 1633, 0), (276, 134, 1, 22, 1646, 0), (297, 149, 1, 22, 1676, 0), (300, 150, 1, 22, 1685, 0), (303, 142, 1, 22, 1668, 0), (306, 143, 1, 22, 1672, 0), (309, 144, 0, 22, 1689, 0), (312, 145, 1, 0, 1693, 0), (319, 242, 1, 22, 1709, 0), (324, 148, 0, 22, 1705, 0), (335, 154, 1, 22, 1719, 0), (338, 188, 0, 22, 1735, 0), (341, 248, 1, 0, 1739, 0), (345, 160, 0, 22, 1731, 0), (351, 249, 1, 22, 1755, 0), (354, 250, 1, 22, 1759, 0), (357, 164, 1, 22, 1751, 0), (360, 165, 1, 0, 1763, 0), (363, 167, 1, 22, 1770, 0), (366, 251, 1, 22, 1782, 0), (369, 252, 1, 22, 1786, 0), (372, 168, 0, 22, 1778, 0), (375, 171, 1, 22, 1798, 0), (378, 173, 0, 22, 1814, 0), (381, 177, 2, 22, 1822, 0), (385, 179, 2, 22, 1830, 0), (388, 184, 2, 22, 1842, 0), (391, 192, 3, 22, 1858, 0), (394, 257, 3, 22, 1862, 0), (397, 187, 1, 22, 1850, 0), (400, 189, 3, 22, 1854, 0), (403, 196, 2, 22, 1878, 0), (406, 197, 2, 22, 1882, 0), (409, 199, 2, 22, 1890, 0), (412, 205, 2, 0, 1906, 0), (417, 203, 2, 22, 1899, 0), (420, 204, 1, 0, 1903, 0), (427, 208, 2, 0, 1927, 0)], [(9, 1, 0, 21, 136, 0), (12, 2, 0, 22, 1319, 0), (13, 3, 5, 21, 567, 0), (17, 4, 5, 22, 1433, 0), (18, 5, 1, 21, 575, 0), (22, 6, 1, 22, 1437, 0), (23, 7, 1, 21, 849, 0), (26, 8, 1, 22, 1550, 0), (27, 9, 2, 21, 853, 0), (31, 10, 2, 22, 1554, 0), (32, 11, 2, 21, 906, 0), (35, 12, 2, 22, 1588, 0), (36, 13, 1, 21, 912, 0), (39, 14, 1, 22, 1603, 0), (40, 15, 2, 21, 948, 0), (43, 16, 2, 22, 1637, 0), (44, 17, 1, 21, 952, 0), (47, 18, 1, 22, 1642, 0), (48, 19, 1, 21, 956, 0), (51, 20, 1, 22, 1650, 0), (52, 21, 1, 21, 960, 0), (55, 22, 1, 22, 1654, 0), (56, 23, 1, 21, 964, 0), (59, 24, 1, 22, 1659, 0), (60, 25, 2, 21, 975, 0), (63, 26, 2, 22, 1664, 0), (64, 27, 1, 21, 991, 0), (67, 28, 1, 22, 1696, 0), (68, 29, 2, 21, 995, 0), (71, 30, 2, 22, 1700, 0), (72, 31, 2, 21, 1006, 0), (75, 32, 2, 22, 1714, 0), (76, 33, 2, 21, 1041, 0), (79, 34, 2, 22, 1723, 0), (80, 35, 0, 21, 1054, 0), (84, 36, 0, 22, 1727, 0), (85, 37, 1, 21, 1086, 0), (88, 38, 1, 22, 1743, 0), (89, 39, 0, 21, 1095, 0), (92, 40, 0, 22, 1747, 0), (93, 41, 1, 21, 1103, 0), (96, 42, 1, 22, 1766, 0), (97, 43, 0, 21, 1112, 0), (100, 44, 0, 22, 1774, 0), (101, 45, 0, 21, 1116, 0), (104, 46, 0, 22, 1790, 0), (105, 47, 1, 21, 1124, 0), (108, 48, 1, 22, 1794, 0), (109, 49, 2, 21, 1136, 0), (112, 50, 2, 22, 1802, 0), (113, 51, 0, 21, 1140, 0), (116, 52, 0, 22, 1806, 0), (117, 53, 0, 21, 1144, 0), (120, 54, 0, 22, 1810, 0), (121, 55, 3, 21, 1152, 0), (125, 56, 3, 22, 1818, 0), (126, 57, 2, 21, 1163, 0), (129, 58, 2, 22, 1826, 0), (130, 59, 2, 21, 1172, 0), (133, 60, 2, 22, 1834, 0), (134, 61, 2, 21, 1180, 0), (137, 62, 2, 22, 1838, 0), (138, 63, 1, 21, 1194, 0), (141, 64, 1, 22, 1846, 0), (142, 65, 2, 21, 1214, 0), (145, 66, 2, 22, 1866, 0), (146, 67, 1, 21, 1222, 0), (149, 68, 1, 22, 1870, 0), (150, 69, 2, 21, 1227, 0), (153, 70, 2, 22, 1874, 0), (154, 71, 2, 21, 1243, 0), (157, 72, 2, 22, 1886, 0), (158, 73, 2, 21, 1256, 0), (161, 74, 2, 22, 1894, 0), (162, 75, 1, 21, 1270, 0), (165, 76, 1, 22, 1909, 0), (166, 77, 1, 21, 1275, 0), (169, 78, 1, 22, 1914, 0), (170, 79, 3, 21, 1279, 0), (173, 80, 3, 22, 1918, 0), (176, 81, 3, 21, 1290, 0), (180, 82, 3, 22, 1922, 0), (181, 83, 2, 21, 1301, 0), (184, 84, 2, 22, 1930, 0), (185, 85, 1, 21, 1305, 0), (188, 86, 1, 22, 1934, 0), (189, 87, 1, 21, 1309, 0), (192, 88, 1, 22, 1938, 0), (193, 89, 1, 21, 1313, 0), (196, 90, 1, 22, 1942, 0)], [], [], [(335, 274, 0, 2, 616, 0), (492, 275, 0, 2, 626, 0), (495, 276, 2, 0, 630, 0), (505, 226, 0, 2, 691, 0), (633, 284, 2, 2, 687, 0), (637, 291, 4, 0, 692, 0), (1059, 294, 3, 0, 638, 0)], [(9, 287, 2, 0, 633, 0), (38, 214, 2, 0, 699, 0), (88, 296, 1, 0, 695, 0), (92, 215, 2, 0, 698, 0), (95, 297, 4, 0, 700, 0)], [], [], []]
def oiniT : List (List (Nat × Nat)) := [[(3, 343)], [(3, 373)], [(3, 206)], [(3, 235)], [(3, 258)], [(3, 311)], [(3, 367)], [(3, 200)], [(3, 279)], [(3, 147)], [(3, 488)], [(1, 139)], [(7, 1322)], [], [], [], [], [], [], [], []]
def cresT : List (List (Nat × Nat × Nat × Nat × Nat × Nat)) := [[], [], [], [], [(9, 3, 4, 259, 231, 117)], [], [(21, 1, 3, 368, 369, 123)], [(9, 2, 3, 201, 202, 116)], [], [], [], [(13, 9, 13, 142, 143, 114), (20, 7, 3, 195, 196, 115), (27, 6, 15, 227, 363, 122), (36, 3, 4, 229, 231, 117), (53, 4, 3, 253, 254, 118), (60, 10, 4, 272, 484, 126), (66, 8, 8, 274, 275, 119), (73, 5, 7, 306, 307, 120), (80, 0, 6, 338, 339, 121)], [], [(7, 11, 17, 134, 135, 113), (10, 12, 35, 1317, 1318, 127)], [], [], [], [], [], [], []]
def anewT : List (List (Nat × Nat × Nat × Nat)) := [[], [], [], [], [(9, 45, 259, 230)], [], [], [], [], [], [], [(27, 44, 227, 228), (36, 45, 229, 230), (60, 46, 272, 273)], [], [], [], [], [], [], [], [], []]
def kintT : List (List (Nat × Int × Nat)) := [[], [(30, 1000000, 895), (33, (-1000000), 897)], [], [], [], [], [], [], [], [], [], [(229, 1103515245, 1002), (242, 99999, 1010)], [(315, 1103515245, 1713), (344, 268435456, 1742)], [], [(265, 1431655765, 861), (266, 858993459, 862), (267, 252645135, 863)], [], [], [], [], [], []]
def klongT : List (List (Nat × Int × Nat)) := [[], [(28, 1000000, 894), (31, (-1000000), 896)], [], [], [], [], [], [], [], [], [(41, (-1), 990)], [(230, 40, 928), (343, (-1), 1202), (368, 100, 1274), (376, (-2), 1294), (378, (-6), 1295), (380, (-7), 1296)], [(214, (-1), 1573), (216, 1000000, 1586), (218, (-1000000), 1587), (227, 3, 1578), (274, 99, 1641), (280, 9, 1658), (282, 10, 1663), (284, 30, 1680), (286, 39, 1681), (288, 19, 1682), (290, 20, 1683), (292, 29, 1684), (322, 40, 1704), (333, 99999, 1718), (415, 8, 1898), (423, 100, 1913), (425, (-7), 1926)], [(174, 4294967295, 1946)], [], [], [], [], [], [], []]
def kstrT : List (List (Nat × Nat × Nat)) := [[], [], [], [], [], [], [], [], [], [(82, 48, 682), (90, 10, 607), (96, 12, 660), (98, 14, 661), (100, 16, 662), (102, 18, 663), (104, 20, 664), (109, 36, 676), (111, 38, 677), (113, 40, 678), (115, 42, 679), (117, 44, 680), (119, 46, 681), (121, 22, 669), (123, 24, 670), (125, 26, 671), (127, 28, 672), (128, 30, 673), (130, 32, 674), (132, 34, 675)], [], [], [(83, 50, 1459), (121, 52, 1465)], [], [], [], [], [], [], [], []]
def gstT : List (List (Nat × Nat × Nat)) := [[], [], [], [], [], [], [], [], [], [], [], [], [], [], [], [], [(38, 1, 620), (1053, 2, 636)], [], [], [], []]
def shT : List (Nat × Nat) := [(21, 0), (41, 900), (19, 0), (40, 901), (40, 901), (40, 901), (17, 0), (12, 0), (44, 4), (44, 2), (45, 2), (13, 0), (13, 0), (13, 0), (14, 0), (45, 10), (13, 0), (13, 0), (13, 0), (13, 0), (13, 0), (13, 0), (13, 0), (13, 0), (13, 0), (13, 0), (46, 4), (18, 0), (43, 900), (43, 8), (40, 10), (40, 5120), (40, 512), (15, 0), (40, 1024), (40, 2048), (40, 1024), (40, 2560), (40, 1024), (40, 1024), (10, 0), (40, 2048), (40, 2048), (40, 2048), (40, 1024), (40, 2048), (40, 10), (16, 0), (40, 9), (40, 9), (40, 4), (11, 0), (40, 900), (40, 40), (11, 0), (40, 900), (40, 40), (16, 0), (40, 9), (40, 9), (40, 4), (11, 0), (40, 900), (40, 40), (11, 0), (40, 900), (40, 40), (16, 0), (40, 9), (40, 9), (40, 4), (11, 0), (40, 900), (40, 40), (11, 0), (40, 900), (40, 40), (16, 0), (40, 9), (40, 9), (40, 4), (11, 0), (40, 900), (40, 40), (11, 0), (40, 900), (40, 40), (13, 0), (13, 0), (20, 0), (43, 40), (20, 0), (43, 40), (20, 0), (43, 40), (20, 0), (43, 40), (22, 0), (40, 2913), (42, 2), (40, 900), (40, 971), (40, 900), (40, 10), (40, 4), (40, 2561), (40, 2560), (40, 5120), (40, 2560), (40, 2560), (40, 2560), (40, 2560), (40, 512), (40, 4), (40, 4), (43, 160)]
def srT : List (List Nat) := [[101, 0, 102, 106, 108, 0, 109, 110, 111, 112, 113, 114, 126, 127, 133, 140, 146], [], [0, 0, 0, 0, 103, 104, 105, 0, 0, 0, 0, 0, 0], [], [], [], [107, 0, 0], [0, 0, 0], [147, 157, 167, 177], [], [187, 188], [0, 0, 0, 0], [0, 0, 0, 0], [0, 0, 0, 0], [115, 0, 0], [116, 117, 118, 119, 120, 121, 122, 123, 124, 125], [0, 0, 0, 0], [0, 0, 0, 0], [0, 0, 0, 0], [0, 0, 0, 0], [0, 0, 0, 0], [0, 0, 0, 0], [0, 0, 0, 0], [0, 0, 0, 0], [0, 0, 0, 0], [0, 0, 0, 0], [189, 191, 193, 195], [0, 0, 128, 129, 130, 131, 0, 132], [], [], [], [], [], [134, 0, 135, 136, 137, 138, 139], [], [], [], [], [], [], [141, 142, 143, 0, 144, 145], [], [], [], [], [], [], [0, 0, 0, 0, 0, 0, 0, 0, 0, 0, 148, 149, 150, 151, 154], [], [], [], [152, 153, 0], [], [], [155, 156, 0], [], [], [0, 0, 0, 0, 0, 0, 0, 0, 0, 0, 158, 159, 160, 161, 164], [], [], [], [162, 163, 0], [], [], [165, 166, 0], [], [], [0, 0, 0, 0, 0, 0, 0, 0, 0, 0, 168, 169, 170, 171, 174], [], [], [], [172, 173, 0], [], [], [175, 176, 0], [], [], [0, 0, 0, 0, 0, 0, 0, 0, 0, 0, 178, 179, 180, 181, 184], [], [], [], [182, 183, 0], [], [], [185, 186, 0], [], [], [0, 0, 0, 0], [0, 0, 0, 0], [190, 0, 0, 0], [], [192, 0, 0, 0], [], [194, 0, 0, 0], [], [196, 0, 0, 0], [], [0, 198, 199, 200, 201, 0, 0, 0, 0, 0, 0, 0, 0, 0, 0, 0, 202, 203, 204, 0, 0, 205, 206, 0, 0, 207, 208, 209, 0, 210, 211, 212, 213, 214, 215], [], [], [], [], [], [], [], [], [], [], [], [], [], [], [], [], [], []]
def txtT : List (List Int) := [[111, 114], [105, 110], [97, 110, 100], [110, 111, 116], [114, 111, 119], [97, 108, 108], [99, 101, 108, 108], [102, 97, 99, 101], [103, 111, 101, 115], [107, 105, 110, 100], [110, 101, 97, 114], [111, 112, 101, 110], [119, 97, 108, 108], [108, 105, 103, 104, 116], [116, 117, 114, 110, 115], [116, 101, 110, 97, 110, 116], [116, 117, 114, 110, 101, 100], [116, 101, 109, 112, 101, 114], [112, 97, 116, 105, 101, 110, 99, 101], [59, 58, 43, 45, 42, 40, 41, 91, 93, 61, 60, 62], [32, 119, 97, 108, 108, 32, 114, 111, 119, 32, 116, 101, 110, 97, 110, 116, 32, 112, 97, 116, 105, 101, 110, 99, 101, 32, 105, 110, 32, 116, 117, 114, 110, 101, 100, 32, 102, 97, 99, 101, 32, 111, 112, 101, 110, 32, 116, 101, 109, 112, 101, 114, 32, 116, 117, 114, 110, 115, 32, 103, 111, 101, 115, 32, 108, 105, 103, 104, 116, 32, 99, 101, 108, 108, 32, 107, 105, 110, 100, 32, 110, 101, 97, 114, 32, 97, 108, 108, 32, 97, 110, 100, 32, 111, 114, 32, 110, 111, 116, 32], [59, 58, 43, 45, 42, 40, 41, 91, 93, 61, 60, 62]]
def lkN {α : Type} : List (Nat × α) → Nat → Option α
  | [], _ => none
  | (k, v) :: r, n => match Nat.beq k n with
    | true => some v
    | false => lkN r n
end
section
/-! CLASSES AND METHODS BY NUMBER, and the checks of the tables: written by wip/whole/gen/gen_names.py. -/
def RX0 : String := "RoseWall$Contest"
def TX0 : u_T := fun k => match k with
  | 0 => ("RoseWall$Contest", "levels", "[I", true)
  | 1 => ("RoseWall$Contest", "left", "[I", true)
  | 2 => ("RoseWall$Contest", "settled", "[I", true)
  | 3 => ("RoseWall$Contest", "size", "I", false)
  | 4 => ("RoseWall$Contest", "edgeTo", "[I", true)
  | _ => ("RoseWall$Contest", "edgeAhead", "[I", true)
def tyX0 : Nat → FieldType := fun k => match k with
  | 0 => .array .int
  | 1 => .array .int
  | 2 => .array .int
  | 3 => .int
  | 4 => .array .int
  | _ => .array .int
theorem nmX0 : ∀ a, a < 6 → ∀ b, b < 6 → a ≠ b → (TX0 a).2.1 ≠ (TX0 b).2.1 := by decide +kernel
theorem tyX0_ok : ∀ k, k < 6 → parseFieldDescriptor (TX0 k).2.2.1 = some (tyX0 k) := by decide +kernel
def RX1 : String := "RoseWall$Law"
def TX1 : u_T := fun k => match k with
  | 0 => ("RoseWall$Law", "code", "[I", true)
  | 1 => ("RoseWall$Law", "stack", "[I", true)
  | _ => ("RoseWall$Law", "size", "I", false)
def tyX1 : Nat → FieldType := fun k => match k with
  | 0 => .array .int
  | 1 => .array .int
  | _ => .int
theorem nmX1 : ∀ a, a < 3 → ∀ b, b < 3 → a ≠ b → (TX1 a).2.1 ≠ (TX1 b).2.1 := by decide +kernel
theorem tyX1_ok : ∀ k, k < 3 → parseFieldDescriptor (TX1 k).2.2.1 = some (tyX1 k) := by decide +kernel
def RX2 : String := "RoseWall$LawReader"
def TX2 : u_T := fun k => match k with
  | 0 => ("RoseWall$LawReader", "tokens", "LRoseWall$Tokens;", false)
  | 1 => ("RoseWall$LawReader", "law", "LRoseWall$Law;", false)
  | _ => ("RoseWall$LawReader", "ofTurns", "Z", false)
def tyX2 : Nat → FieldType := fun k => match k with
  | 0 => .object "RoseWall$Tokens"
  | 1 => .object "RoseWall$Law"
  | _ => .boolean
theorem nmX2 : ∀ a, a < 3 → ∀ b, b < 3 → a ≠ b → (TX2 a).2.1 ≠ (TX2 b).2.1 := by decide +kernel
theorem tyX2_ok : ∀ k, k < 3 → parseFieldDescriptor (TX2 k).2.2.1 = some (tyX2 k) := by decide +kernel
def RX3 : String := "RoseWall$Moment"
def TX3 : u_T := fun k => match k with
  | 0 => ("RoseWall$Moment", "wall", "I", false)
  | 1 => ("RoseWall$Moment", "who", "I", false)
  | 2 => ("RoseWall$Moment", "temper", "I", false)
  | _ => ("RoseWall$Moment", "nights", "I", false)
def tyX3 : Nat → FieldType := fun k => match k with
  | 0 => .int
  | 1 => .int
  | 2 => .int
  | _ => .int
theorem nmX3 : ∀ a, a < 4 → ∀ b, b < 4 → a ≠ b → (TX3 a).2.1 ≠ (TX3 b).2.1 := by decide +kernel
theorem tyX3_ok : ∀ k, k < 4 → parseFieldDescriptor (TX3 k).2.2.1 = some (tyX3 k) := by decide +kernel
def RX4 : String := "RoseWall$Past"
def TX4 : u_T := fun k => match k with
  | 0 => ("RoseWall$Past", "kept", "[LRoseWall$Moment;", true)
  | 1 => ("RoseWall$Past", "next", "I", false)
  | _ => ("RoseWall$Past", "size", "I", false)
def tyX4 : Nat → FieldType := fun k => match k with
  | 0 => .array (.object "RoseWall$Moment")
  | 1 => .int
  | _ => .int
theorem nmX4 : ∀ a, a < 3 → ∀ b, b < 3 → a ≠ b → (TX4 a).2.1 ≠ (TX4 b).2.1 := by decide +kernel
theorem tyX4_ok : ∀ k, k < 3 → parseFieldDescriptor (TX4 k).2.2.1 = some (tyX4 k) := by decide +kernel
def RX5 : String := "RoseWall$Reach"
def TX5 : u_T := fun k => match k with
  | 0 => ("RoseWall$Reach", "places", "[I", true)
  | 1 => ("RoseWall$Reach", "size", "I", false)
  | 2 => ("RoseWall$Reach", "to", "[I", true)
  | 3 => ("RoseWall$Reach", "cameBy", "[I", true)
  | 4 => ("RoseWall$Reach", "order", "[I", true)
  | 5 => ("RoseWall$Reach", "ways", "[I", true)
  | _ => ("RoseWall$Reach", "waysThen", "[I", true)
def tyX5 : Nat → FieldType := fun k => match k with
  | 0 => .array .int
  | 1 => .int
  | 2 => .array .int
  | 3 => .array .int
  | 4 => .array .int
  | 5 => .array .int
  | _ => .array .int
theorem nmX5 : ∀ a, a < 7 → ∀ b, b < 7 → a ≠ b → (TX5 a).2.1 ≠ (TX5 b).2.1 := by decide +kernel
theorem tyX5_ok : ∀ k, k < 7 → parseFieldDescriptor (TX5 k).2.2.1 = some (tyX5 k) := by decide +kernel
def RX6 : String := "RoseWall$Room"
def TX6 : u_T := fun k => match k with
  | 0 => ("RoseWall$Room", "rows", "I", false)
  | 1 => ("RoseWall$Room", "columns", "I", false)
  | 2 => ("RoseWall$Room", "roses", "I", false)
  | 3 => ("RoseWall$Room", "tenants", "I", false)
  | 4 => ("RoseWall$Room", "who", "I", false)
  | 5 => ("RoseWall$Room", "wall", "I", false)
  | 6 => ("RoseWall$Room", "face", "I", false)
  | 7 => ("RoseWall$Room", "open", "I", false)
  | 8 => ("RoseWall$Room", "temper", "I", false)
  | 9 => ("RoseWall$Room", "lines", "I", false)
  | 10 => ("RoseWall$Room", "kinds", "[I", true)
  | 11 => ("RoseWall$Room", "near", "[I", true)
  | 12 => ("RoseWall$Room", "patience", "[I", true)
  | 13 => ("RoseWall$Room", "turns", "LRoseWall$Law;", true)
  | _ => ("RoseWall$Room", "goes", "LRoseWall$Law;", true)
def tyX6 : Nat → FieldType := fun k => match k with
  | 0 => .int
  | 1 => .int
  | 2 => .int
  | 3 => .int
  | 4 => .int
  | 5 => .int
  | 6 => .int
  | 7 => .int
  | 8 => .int
  | 9 => .int
  | 10 => .array .int
  | 11 => .array .int
  | 12 => .array .int
  | 13 => .object "RoseWall$Law"
  | _ => .object "RoseWall$Law"
theorem nmX6 : ∀ a, a < 15 → ∀ b, b < 15 → a ≠ b → (TX6 a).2.1 ≠ (TX6 b).2.1 := by decide +kernel
theorem tyX6_ok : ∀ k, k < 15 → parseFieldDescriptor (TX6 k).2.2.1 = some (tyX6 k) := by decide +kernel
def RX7 : String := "RoseWall$RoomReader"
def TX7 : u_T := fun k => match k with
  | 0 => ("RoseWall$RoomReader", "laws", "LRoseWall$LawReader;", true)
  | 1 => ("RoseWall$RoomReader", "tokens", "LRoseWall$Tokens;", false)
  | _ => ("RoseWall$RoomReader", "room", "LRoseWall$Room;", false)
def tyX7 : Nat → FieldType := fun k => match k with
  | 0 => .object "RoseWall$LawReader"
  | 1 => .object "RoseWall$Tokens"
  | _ => .object "RoseWall$Room"
theorem nmX7 : ∀ a, a < 3 → ∀ b, b < 3 → a ≠ b → (TX7 a).2.1 ≠ (TX7 b).2.1 := by decide +kernel
theorem tyX7_ok : ∀ k, k < 3 → parseFieldDescriptor (TX7 k).2.2.1 = some (tyX7 k) := by decide +kernel
def RX8 : String := "RoseWall$Steps"
def TX8 : u_T := fun k => match k with
  | 0 => ("RoseWall$Steps", "room", "LRoseWall$Room;", false)
  | 1 => ("RoseWall$Steps", "temper", "I", false)
  | 2 => ("RoseWall$Steps", "turning", "[J", true)
  | 3 => ("RoseWall$Steps", "going", "[J", true)
  | 4 => ("RoseWall$Steps", "scene", "[I", true)
  | 5 => ("RoseWall$Steps", "then", "[I", true)
  | 6 => ("RoseWall$Steps", "stamp", "I", false)
  | _ => ("RoseWall$Steps", "came", "[I", true)
def tyX8 : Nat → FieldType := fun k => match k with
  | 0 => .object "RoseWall$Room"
  | 1 => .int
  | 2 => .array .long
  | 3 => .array .long
  | 4 => .array .int
  | 5 => .array .int
  | 6 => .int
  | _ => .array .int
theorem nmX8 : ∀ a, a < 8 → ∀ b, b < 8 → a ≠ b → (TX8 a).2.1 ≠ (TX8 b).2.1 := by decide +kernel
theorem tyX8_ok : ∀ k, k < 8 → parseFieldDescriptor (TX8 k).2.2.1 = some (tyX8 k) := by decide +kernel
def RX9 : String := "RoseWall$Tokens"
def TX9 : u_T := fun k => match k with
  | 0 => ("RoseWall$Tokens", "text", "[B", false)
  | 1 => ("RoseWall$Tokens", "length", "I", false)
  | 2 => ("RoseWall$Tokens", "start", "I", false)
  | 3 => ("RoseWall$Tokens", "end", "I", false)
  | 4 => ("RoseWall$Tokens", "kinds", "[I", true)
  | 5 => ("RoseWall$Tokens", "values", "[I", true)
  | 6 => ("RoseWall$Tokens", "starts", "[I", true)
  | 7 => ("RoseWall$Tokens", "size", "I", false)
  | 8 => ("RoseWall$Tokens", "at", "I", false)
  | 9 => ("RoseWall$Tokens", "kind", "I", false)
  | 10 => ("RoseWall$Tokens", "value", "I", false)
  | 11 => ("RoseWall$Tokens", "fault", "I", false)
  | _ => ("RoseWall$Tokens", "faultPlace", "I", false)
def tyX9 : Nat → FieldType := fun k => match k with
  | 0 => .array .byte
  | 1 => .int
  | 2 => .int
  | 3 => .int
  | 4 => .array .int
  | 5 => .array .int
  | 6 => .array .int
  | 7 => .int
  | 8 => .int
  | 9 => .int
  | 10 => .int
  | 11 => .int
  | _ => .int
theorem nmX9 : ∀ a, a < 13 → ∀ b, b < 13 → a ≠ b → (TX9 a).2.1 ≠ (TX9 b).2.1 := by decide +kernel
theorem tyX9_ok : ∀ k, k < 13 → parseFieldDescriptor (TX9 k).2.2.1 = some (tyX9 k) := by decide +kernel
def RX10 : String := "RoseWall$Tray"
def TX10 : u_T := fun k => match k with
  | 0 => ("RoseWall$Tray", "values", "[J", true)
  | 1 => ("RoseWall$Tray", "sort", "I", false)
  | 2 => ("RoseWall$Tray", "size", "I", false)
  | _ => ("RoseWall$Tray", "missing", "Z", false)
def tyX10 : Nat → FieldType := fun k => match k with
  | 0 => .array .long
  | 1 => .int
  | 2 => .int
  | _ => .boolean
theorem nmX10 : ∀ a, a < 4 → ∀ b, b < 4 → a ≠ b → (TX10 a).2.1 ≠ (TX10 b).2.1 := by decide +kernel
theorem tyX10_ok : ∀ k, k < 4 → parseFieldDescriptor (TX10 k).2.2.1 = some (tyX10 k) := by decide +kernel
def RX11 : String := "RoseWall"
def TX11 : u_T := fun k => match k with
  | 0 => ("RoseWall", "tape", "[B", true)
  | 1 => ("RoseWall", "taped", "I", false)
  | 2 => ("RoseWall", "tokens", "LRoseWall$Tokens;", true)
  | 3 => ("RoseWall", "reader", "LRoseWall$RoomReader;", true)
  | 4 => ("RoseWall", "pool", "[LRoseWall$Room;", true)
  | 5 => ("RoseWall", "room", "LRoseWall$Room;", false)
  | 6 => ("RoseWall", "imageRooms", "[LRoseWall$Room;", true)
  | 7 => ("RoseWall", "imageMoments", "[LRoseWall$Moment;", true)
  | 8 => ("RoseWall", "now", "LRoseWall$Moment;", true)
  | 9 => ("RoseWall", "before", "LRoseWall$Moment;", true)
  | 10 => ("RoseWall", "trial", "LRoseWall$Moment;", true)
  | 11 => ("RoseWall", "past", "LRoseWall$Past;", true)
  | 12 => ("RoseWall", "trays", "[LRoseWall$Tray;", true)
  | 13 => ("RoseWall", "steps", "LRoseWall$Steps;", true)
  | 14 => ("RoseWall", "reach", "LRoseWall$Reach;", true)
  | 15 => ("RoseWall", "contest", "LRoseWall$Contest;", true)
  | _ => ("RoseWall", "wallsThen", "[I", true)
def tyX11 : Nat → FieldType := fun k => match k with
  | 0 => .array .byte
  | 1 => .int
  | 2 => .object "RoseWall$Tokens"
  | 3 => .object "RoseWall$RoomReader"
  | 4 => .array (.object "RoseWall$Room")
  | 5 => .object "RoseWall$Room"
  | 6 => .array (.object "RoseWall$Room")
  | 7 => .array (.object "RoseWall$Moment")
  | 8 => .object "RoseWall$Moment"
  | 9 => .object "RoseWall$Moment"
  | 10 => .object "RoseWall$Moment"
  | 11 => .object "RoseWall$Past"
  | 12 => .array (.object "RoseWall$Tray")
  | 13 => .object "RoseWall$Steps"
  | 14 => .object "RoseWall$Reach"
  | 15 => .object "RoseWall$Contest"
  | _ => .array .int
theorem nmX11 : ∀ a, a < 17 → ∀ b, b < 17 → a ≠ b → (TX11 a).2.1 ≠ (TX11 b).2.1 := by decide +kernel
theorem tyX11_ok : ∀ k, k < 17 → parseFieldDescriptor (TX11 k).2.2.1 = some (tyX11 k) := by decide +kernel
def RX12 : String := "RoseWallModel"
def TX12 : u_T := fun k => match k with
  | 0 => ("RoseWallModel", "thrown", "I", false)
  | 1 => ("RoseWallModel", "all", "[I", true)
  | 2 => ("RoseWallModel", "hasImage", "[Z", true)
  | 3 => ("RoseWallModel", "tape", "[I", true)
  | 4 => ("RoseWallModel", "fresh", "[I", true)
  | 5 => ("RoseWallModel", "taped", "I", false)
  | 6 => ("RoseWallModel", "at", "I", false)
  | 7 => ("RoseWallModel", "behind", "I", false)
  | 8 => ("RoseWallModel", "size", "I", false)
  | 9 => ("RoseWallModel", "kind", "I", false)
  | 10 => ("RoseWallModel", "number", "I", false)
  | 11 => ("RoseWallModel", "wrong", "I", false)
  | 12 => ("RoseWallModel", "wrongAt", "I", false)
  | 13 => ("RoseWallModel", "faultKind", "I", false)
  | 14 => ("RoseWallModel", "faultPlace", "I", false)
  | 15 => ("RoseWallModel", "reading", "I", false)
  | 16 => ("RoseWallModel", "reckoned", "[I", true)
  | 17 => ("RoseWallModel", "words", "[I", true)
  | 18 => ("RoseWallModel", "was", "[I", true)
  | 19 => ("RoseWallModel", "toldWhy", "I", false)
  | 20 => ("RoseWallModel", "x", "I", false)
  | 21 => ("RoseWallModel", "row", "[I", true)
  | 22 => ("RoseWallModel", "first", "[I", true)
  | 23 => ("RoseWallModel", "tail", "I", false)
  | 24 => ("RoseWallModel", "round1", "I", false)
  | 25 => ("RoseWallModel", "then", "[I", true)
  | 26 => ("RoseWallModel", "far", "[I", true)
  | 27 => ("RoseWallModel", "otherFar", "[I", true)
  | 28 => ("RoseWallModel", "soughtWall", "I", false)
  | 29 => ("RoseWallModel", "many", "[I", true)
  | 30 => ("RoseWallModel", "manyThen", "[I", true)
  | 31 => ("RoseWallModel", "from", "[I", true)
  | 32 => ("RoseWallModel", "rowSort", "[I", true)
  | 33 => ("RoseWallModel", "rowMany", "[I", true)
  | _ => ("RoseWallModel", "numbers", "[J", true)
def tyX12 : Nat → FieldType := fun k => match k with
  | 0 => .int
  | 1 => .array .int
  | 2 => .array .boolean
  | 3 => .array .int
  | 4 => .array .int
  | 5 => .int
  | 6 => .int
  | 7 => .int
  | 8 => .int
  | 9 => .int
  | 10 => .int
  | 11 => .int
  | 12 => .int
  | 13 => .int
  | 14 => .int
  | 15 => .int
  | 16 => .array .int
  | 17 => .array .int
  | 18 => .array .int
  | 19 => .int
  | 20 => .int
  | 21 => .array .int
  | 22 => .array .int
  | 23 => .int
  | 24 => .int
  | 25 => .array .int
  | 26 => .array .int
  | 27 => .array .int
  | 28 => .int
  | 29 => .array .int
  | 30 => .array .int
  | 31 => .array .int
  | 32 => .array .int
  | 33 => .array .int
  | _ => .array .long
theorem nmX12 : ∀ a, a < 35 → ∀ b, b < 35 → a ≠ b → (TX12 a).2.1 ≠ (TX12 b).2.1 := by decide +kernel
theorem tyX12_ok : ∀ k, k < 35 → parseFieldDescriptor (TX12 k).2.2.1 = some (tyX12 k) := by decide +kernel
abbrev vwCl : List vw_C := [(RX0, TX0, 6), (RX1, TX1, 3), (RX2, TX2, 3), (RX3, TX3, 4), (RX4, TX4, 3), (RX5, TX5, 7), (RX6, TX6, 15), (RX7, TX7, 3), (RX8, TX8, 8), (RX9, TX9, 13), (RX10, TX10, 4), (RX11, TX11, 17), (RX12, TX12, 35)]
def ownT : List String := ["RoseWall$Contest", "RoseWall$Law", "RoseWall$LawReader", "RoseWall$Moment", "RoseWall$Past", "RoseWall$Reach", "RoseWall$Room", "RoseWall$RoomReader", "RoseWall$Steps", "RoseWall$Tokens", "RoseWall$Tray", "RoseWall", "RoseWallModel", "RoseWallLaw", "java/lang/Integer", "java/lang/Math", "java/lang/String", "java/lang/StringLatin1", "java/util/Arrays", "jdk/internal/util/Preconditions", "java/lang/Object"]
def nmT : List MethodName := [⟨"RoseWallLaw", "law", "([I)Z"⟩, ⟨"RoseWall", "<init>", "()V"⟩, ⟨"RoseWallModel", "<init>", "()V"⟩, ⟨"RoseWall", "feed", "(IIIII)I"⟩, ⟨"RoseWallModel", "feed", "(IIIII)I"⟩, ⟨"RoseWall", "room", "(I)I"⟩, ⟨"RoseWallModel", "room", "(I)I"⟩, ⟨"RoseWall", "fault", "(I)I"⟩, ⟨"RoseWallModel", "fault", "(I)I"⟩, ⟨"RoseWall", "rose", "(II)I"⟩, ⟨"RoseWallModel", "rose", "(II)I"⟩, ⟨"RoseWall", "tenant", "(II)I"⟩, ⟨"RoseWallModel", "tenant", "(II)I"⟩, ⟨"RoseWall", "night", "(I)I"⟩, ⟨"RoseWallModel", "night", "(I)I"⟩, ⟨"RoseWall", "nights", "(II)I"⟩, ⟨"RoseWallModel", "nights", "(II)I"⟩, ⟨"RoseWall", "let", "(I)I"⟩, ⟨"RoseWallModel", "let", "(I)I"⟩, ⟨"RoseWall", "turn", "(I)I"⟩, ⟨"RoseWallModel", "turn", "(I)I"⟩, ⟨"RoseWall", "temper", "(I)I"⟩, ⟨"RoseWallModel", "temper", "(I)I"⟩, ⟨"RoseWall", "undo", "(I)I"⟩, ⟨"RoseWallModel", "undo", "(I)I"⟩, ⟨"RoseWall", "judge", "(II)I"⟩, ⟨"RoseWallModel", "judge", "(II)I"⟩, ⟨"RoseWall", "perform", "(I)I"⟩, ⟨"RoseWallModel", "perform", "(I)I"⟩, ⟨"RoseWall", "season", "(II)I"⟩, ⟨"RoseWallModel", "season", "(II)I"⟩, ⟨"RoseWall", "lies", "(II)I"⟩, ⟨"RoseWallModel", "lies", "(II)I"⟩, ⟨"RoseWall", "round", "(II)I"⟩, ⟨"RoseWallModel", "round", "(II)I"⟩, ⟨"RoseWall", "stays", "()I"⟩, ⟨"RoseWallModel", "stays", "()I"⟩, ⟨"RoseWall", "stayBy", "(I)I"⟩, ⟨"RoseWallModel", "stayBy", "(I)I"⟩, ⟨"RoseWall", "out", "()I"⟩, ⟨"RoseWallModel", "out", "()I"⟩, ⟨"RoseWall", "outBy", "(I)I"⟩, ⟨"RoseWallModel", "outBy", "(I)I"⟩, ⟨"RoseWall", "forces", "()I"⟩, ⟨"RoseWallModel", "forces", "()I"⟩, ⟨"RoseWall", "minds", "()I"⟩, ⟨"RoseWallModel", "minds", "()I"⟩, ⟨"RoseWall", "soonest", "(I)I"⟩, ⟨"RoseWallModel", "soonest", "(I)I"⟩, ⟨"RoseWall", "way", "(II)I"⟩, ⟨"RoseWallModel", "way", "(II)I"⟩, ⟨"RoseWall", "toFace", "()I"⟩, ⟨"RoseWallModel", "toFace", "()I"⟩, ⟨"RoseWall", "walls", "()I"⟩, ⟨"RoseWallModel", "walls", "()I"⟩, ⟨"RoseWall", "parents", "(III)I"⟩, ⟨"RoseWallModel", "parents", "(III)I"⟩, ⟨"RoseWall", "orphans", "(II)I"⟩, ⟨"RoseWallModel", "orphans", "(II)I"⟩, ⟨"RoseWall", "still", "(II)I"⟩, ⟨"RoseWallModel", "still", "(II)I"⟩, ⟨"RoseWall", "rows", "(II)I"⟩, ⟨"RoseWallModel", "rows", "(II)I"⟩, ⟨"RoseWall", "seen", "(I)I"⟩, ⟨"RoseWallModel", "seen", "(I)I"⟩, ⟨"RoseWall", "seenBy", "(II)I"⟩, ⟨"RoseWallModel", "seenBy", "(II)I"⟩, ⟨"RoseWall", "whose", "(I)I"⟩, ⟨"RoseWallModel", "whose", "(I)I"⟩, ⟨"RoseWall", "tempers", "(II)I"⟩, ⟨"RoseWallModel", "tempers", "(II)I"⟩, ⟨"RoseWall", "attempt", "(II)I"⟩, ⟨"RoseWallModel", "attempt", "(II)I"⟩, ⟨"RoseWall", "chance", "(II)I"⟩, ⟨"RoseWallModel", "chance", "(II)I"⟩, ⟨"RoseWall", "gone", "(I)I"⟩, ⟨"RoseWallModel", "gone", "(I)I"⟩, ⟨"RoseWall", "best", "(I)I"⟩, ⟨"RoseWallModel", "best", "(I)I"⟩, ⟨"RoseWall", "numbers", "(III)I"⟩, ⟨"RoseWallModel", "numbers", "(III)I"⟩, ⟨"RoseWall", "write", "(IIJ)J"⟩, ⟨"RoseWallModel", "write", "(IIJ)J"⟩, ⟨"RoseWall", "lists", "(II)I"⟩, ⟨"RoseWallModel", "lists", "(II)I"⟩, ⟨"RoseWall", "image", "(I)I"⟩, ⟨"RoseWallModel", "image", "(I)I"⟩, ⟨"RoseWall", "restore", "(I)I"⟩, ⟨"RoseWallModel", "restore", "(I)I"⟩, ⟨"RoseWall", "count", "(I)I"⟩, ⟨"RoseWallModel", "count", "(I)I"⟩, ⟨"RoseWall$Tokens", "<init>", "()V"⟩, ⟨"RoseWall$RoomReader", "<init>", "()V"⟩, ⟨"RoseWall$Moment", "<init>", "()V"⟩, ⟨"RoseWall$Past", "<init>", "()V"⟩, ⟨"RoseWall$Steps", "<init>", "()V"⟩, ⟨"RoseWall$Reach", "<init>", "()V"⟩, ⟨"RoseWall$Contest", "<init>", "()V"⟩, ⟨"RoseWall$Room", "<init>", "()V"⟩, ⟨"RoseWall$Tray", "<init>", "()V"⟩, ⟨"RoseWall$Moment", "begin", "(LRoseWall$Room;)V"⟩, ⟨"RoseWall$Steps", "take", "(LRoseWall$Room;)V"⟩, ⟨"RoseWallModel", "plain", "([I)V"⟩, ⟨"RoseWall", "tapeFour", "(I)V"⟩, ⟨"RoseWall", "spareRoom", "()LRoseWall$Room;"⟩, ⟨"RoseWall$Tokens", "begin", "([BI)V"⟩, ⟨"RoseWall$RoomReader", "readRoom", "(LRoseWall$Tokens;LRoseWall$Room;)Z"⟩, ⟨"RoseWall$Past", "clear", "()V"⟩, ⟨"RoseWallModel", "within", "(JJJ)Z"⟩, ⟨"RoseWallModel", "next", "()V"⟩, ⟨"RoseWallModel", "eats", "(I)Z"⟩, ⟨"RoseWallModel", "fails", "(I)V"⟩, ⟨"RoseWallModel", "takes", "(II)I"⟩, ⟨"RoseWallModel", "ends", "()V"⟩, ⟨"RoseWallModel", "readLine", "()V"⟩, ⟨"RoseWall$Room", "hasRose", "(I)Z"⟩, ⟨"java/lang/Integer", "bitCount", "(I)I"⟩, ⟨"RoseWall$Moment", "place", "()I"⟩, ⟨"RoseWall$Steps", "pass", "(III)I"⟩, ⟨"RoseWallModel", "isRose", "(J)Z"⟩, ⟨"RoseWallModel", "nearOf", "(II)I"⟩, ⟨"RoseWallModel", "turnsThen", "(IIII)Z"⟩, ⟨"RoseWall$Room", "hasTenant", "(I)Z"⟩, ⟨"RoseWall$Steps", "isGoing", "(III)Z"⟩, ⟨"RoseWallModel", "isTenant", "(J)Z"⟩, ⟨"RoseWallModel", "goesBy", "(III)Z"⟩, ⟨"RoseWall", "doneAlone", "(II)I"⟩, ⟨"RoseWallModel", "isBlind", "(J)Z"⟩, ⟨"RoseWallModel", "keeps", "()V"⟩, ⟨"RoseWallModel", "goesNight", "(I)V"⟩, ⟨"RoseWallModel", "notes", "()V"⟩, ⟨"RoseWall", "isBlind", "(I)Z"⟩, ⟨"RoseWall$Past", "keep", "(LRoseWall$Moment;)V"⟩, ⟨"RoseWall", "passNight", "(LRoseWall$Moment;I)V"⟩, ⟨"RoseWallModel", "whyLet", "(J)I"⟩, ⟨"RoseWallModel", "bitsOf", "(I)I"⟩, ⟨"RoseWall$Past", "bringBack", "(ILRoseWall$Moment;)V"⟩, ⟨"RoseWall", "isTray", "(I)Z"⟩, ⟨"RoseWall$Moment", "copy", "(LRoseWall$Moment;)V"⟩, ⟨"RoseWall", "doTray", "(LRoseWall$Tray;LRoseWall$Moment;)I"⟩, ⟨"RoseWall$Tray", "at", "(I)J"⟩, ⟨"RoseWall", "doDeed", "(LRoseWall$Moment;J)I"⟩, ⟨"RoseWallModel", "noTray", "(I)I"⟩, ⟨"RoseWallModel", "tells", "(I)I"⟩, ⟨"RoseWallModel", "isAgain", "()V"⟩, ⟨"RoseWallModel", "toldWho", "(I)I"⟩, ⟨"RoseWall", "drawn", "(I)I"⟩, ⟨"RoseWall", "seasonDeed", "(II)I"⟩, ⟨"RoseWallModel", "drawn", "()I"⟩, ⟨"RoseWallModel", "whyNot", "(J)I"⟩, ⟨"RoseWallModel", "does", "(I)V"⟩, ⟨"RoseWall", "here", "()I"⟩, ⟨"RoseWall$Reach", "walk", "(LRoseWall$Steps;II)I"⟩, ⟨"RoseWall$Reach", "placeBehind", "(II)I"⟩, ⟨"RoseWallModel", "laysRound", "(I)V"⟩, ⟨"RoseWall$Reach", "mostTurned", "(I)I"⟩, ⟨"RoseWall$Reach", "firstEmpty", "()I"⟩, ⟨"RoseWall$Reach", "explore", "(LRoseWall$Steps;II)I"⟩, ⟨"RoseWall$Contest", "settle", "(LRoseWall$Reach;Z)V"⟩, ⟨"RoseWall$Contest", "level", "(II)I"⟩, ⟨"RoseWallModel", "laysStays", "()I"⟩, ⟨"RoseWall$Contest", "stayBlind", "(LRoseWall$Reach;I)I"⟩, ⟨"RoseWallModel", "standNow", "()I"⟩, ⟨"RoseWall$Reach", "depth", "(I)I"⟩, ⟨"RoseWallModel", "laysFar", "(I)I"⟩, ⟨"RoseWallModel", "toldFar", "(I)I"⟩, ⟨"RoseWall$Reach", "blindTo", "(II)I"⟩, ⟨"RoseWallModel", "blindAt", "(I)I"⟩, ⟨"RoseWallModel", "laysForced", "()I"⟩, ⟨"RoseWall$Contest", "forcingBlind", "(LRoseWall$Reach;)I"⟩, ⟨"RoseWall$Room", "hasWall", "(I)Z"⟩, ⟨"RoseWallModel", "isWall", "(J)Z"⟩, ⟨"RoseWall$Reach", "differentWalls", "()I"⟩, ⟨"RoseWallModel", "beginsMany", "()V"⟩, ⟨"RoseWallModel", "standOf", "(II)I"⟩, ⟨"RoseWall$Steps", "tune", "(I)V"⟩, ⟨"RoseWall$Steps", "comingTo", "(III)I"⟩, ⟨"RoseWallModel", "laysFrom", "(II)V"⟩, ⟨"RoseWall$Steps", "comingOfNone", "(II)I"⟩, ⟨"RoseWallModel", "noSo", "(II)I"⟩, ⟨"RoseWallModel", "roses", "()I"⟩, ⟨"RoseWall$Steps", "stayingSame", "(II)I"⟩, ⟨"RoseWallModel", "wallThen", "(III)I"⟩, ⟨"RoseWall$Reach", "rowsTo", "(LRoseWall$Steps;III)I"⟩, ⟨"RoseWallModel", "goesMany", "(II)V"⟩, ⟨"RoseWall", "refusedSeen", "(I)I"⟩, ⟨"RoseWall", "rowsSeen", "(LRoseWall$Tray;II)I"⟩, ⟨"RoseWallModel", "noSeen", "(I)I"⟩, ⟨"RoseWallModel", "laysThen", "()V"⟩, ⟨"RoseWallModel", "isRow", "(III)Z"⟩, ⟨"RoseWall", "isFirstBlind", "(LRoseWall$Tray;II)Z"⟩, ⟨"RoseWall$Steps", "next", "(II)I"⟩, ⟨"RoseWallModel", "blindIn", "(III)I"⟩, ⟨"RoseWall", "placeOf", "(II)I"⟩, ⟨"RoseWall", "refusedTempers", "(II)I"⟩, ⟨"RoseWall", "tempersSeen", "(LRoseWall$Tray;I)I"⟩, ⟨"RoseWallModel", "noBlinds", "(II)I"⟩, ⟨"RoseWallModel", "tempersOf", "(II)I"⟩, ⟨"RoseWall", "mostAlike", "(II)I"⟩, ⟨"RoseWallModel", "mostAlike", "(II)I"⟩, ⟨"RoseWall", "share", "(II)I"⟩, ⟨"RoseWall", "powerOfTen", "(I)I"⟩, ⟨"RoseWall", "commonDivisor", "(II)I"⟩, ⟨"RoseWallModel", "chanceOf", "(II)I"⟩, ⟨"RoseWallModel", "wholeOf", "(I)I"⟩, ⟨"RoseWallModel", "common", "(II)I"⟩, ⟨"RoseWall$Tray", "begin", "(II)V"⟩, ⟨"RoseWall$Tray", "put", "(IJ)V"⟩, ⟨"RoseWallModel", "cut", "(JI)J"⟩, ⟨"RoseWallModel", "standThen", "(II)I"⟩, ⟨"RoseWall$LawReader", "<init>", "()V"⟩, ⟨"RoseWall$Law", "<init>", "()V"⟩, ⟨"RoseWall$Room", "clear", "()V"⟩, ⟨"java/util/Arrays", "fill", "([JJ)V"⟩, ⟨"java/lang/Math", "min", "(II)I"⟩, ⟨"java/lang/Math", "max", "(II)I"⟩, ⟨"RoseWall$Tokens", "splitNext", "()I"⟩, ⟨"RoseWall$Tokens", "readNumber", "()I"⟩, ⟨"RoseWall$Tokens", "advance", "()V"⟩, ⟨"RoseWall$RoomReader", "readWall", "()Z"⟩, ⟨"RoseWall$RoomReader", "readLine", "()Z"⟩, ⟨"RoseWall$Tokens", "pass", "(I)Z"⟩, ⟨"RoseWallModel", "see", "(I)I"⟩, ⟨"RoseWallModel", "isSmall", "(I)Z"⟩, ⟨"RoseWallModel", "keyAt", "()I"⟩, ⟨"RoseWallModel", "isDigit", "(I)Z"⟩, ⟨"java/lang/String", "length", "()I"⟩, ⟨"java/lang/String", "charAt", "(I)C"⟩, ⟨"RoseWallModel", "is", "(I)Z"⟩, ⟨"RoseWallModel", "readRow", "()V"⟩, ⟨"RoseWallModel", "readTenant", "()V"⟩, ⟨"RoseWallModel", "readRose", "()I"⟩, ⟨"RoseWallModel", "readFace", "()V"⟩, ⟨"RoseWallModel", "readLaw", "(I)V"⟩, ⟨"RoseWall$Steps", "learnTurning", "(II)J"⟩, ⟨"RoseWallModel", "isIn", "(JI)Z"⟩, ⟨"RoseWallModel", "reckons", "(I)Z"⟩, ⟨"RoseWall$Law", "isTold", "()Z"⟩, ⟨"RoseWall$Law", "holds", "([I)Z"⟩, ⟨"RoseWall$Moment", "goTo", "(I)V"⟩, ⟨"java/lang/Math", "floorMod", "(II)I"⟩, ⟨"RoseWall", "doLet", "(LRoseWall$Moment;I)I"⟩, ⟨"RoseWallModel", "draw", "(I)I"⟩, ⟨"RoseWall$Reach", "nodeOf", "(I)I"⟩, ⟨"RoseWall$Reach", "add", "(II)I"⟩, ⟨"RoseWall$Reach", "isGoal", "(II)Z"⟩, ⟨"RoseWall$Contest", "begin", "(LRoseWall$Reach;Z)V"⟩, ⟨"RoseWall$Contest", "leadOut", "(II)V"⟩, ⟨"RoseWallModel", "isGone", "(I)Z"⟩, ⟨"RoseWallModel", "isSought", "(I)Z"⟩, ⟨"RoseWallModel", "leastBy", "(I)I"⟩, ⟨"RoseWallModel", "herBy", "(I)I"⟩, ⟨"RoseWallModel", "mostBy", "(I)I"⟩, ⟨"RoseWall$Room", "fullWall", "()I"⟩, ⟨"java/util/Arrays", "fill", "([II)V"⟩, ⟨"RoseWall$Reach", "spreadWays", "()V"⟩, ⟨"RoseWall$Tray", "fits", "(II)Z"⟩, ⟨"RoseWallModel", "isSeen", "(III)Z"⟩, ⟨"RoseWall", "isTemperSeen", "(LRoseWall$Tray;II)Z"⟩, ⟨"RoseWall", "alike", "(I)I"⟩, ⟨"RoseWall$Law", "clear", "()V"⟩, ⟨"RoseWall$Room", "shape", "(II)V"⟩, ⟨"RoseWall$Tokens", "isDigit", "(I)Z"⟩, ⟨"RoseWall$Tokens", "isLetter", "(I)Z"⟩, ⟨"RoseWall$Tokens", "kindOfWord", "()I"⟩, ⟨"java/lang/String", "indexOf", "(I)I"⟩, ⟨"RoseWall$Tokens", "passNumber", "(II)I"⟩, ⟨"RoseWall$Tokens", "refuse", "(I)Z"⟩, ⟨"RoseWall$RoomReader", "isLine", "(I)Z"⟩, ⟨"RoseWall$RoomReader", "readKinds", "()Z"⟩, ⟨"RoseWall$RoomReader", "readTenant", "()Z"⟩, ⟨"RoseWall$RoomReader", "readFace", "()Z"⟩, ⟨"RoseWall$LawReader", "readLaw", "(LRoseWall$Tokens;LRoseWall$Law;Z)Z"⟩, ⟨"RoseWall$RoomReader", "readOne", "(I)Z"⟩, ⟨"java/lang/String", "coder", "()B"⟩, ⟨"java/lang/String", "isLatin1", "()Z"⟩, ⟨"java/lang/StringLatin1", "charAt", "([BI)C"⟩, ⟨"RoseWallModel", "readTruth", "(I)V"⟩, ⟨"RoseWallModel", "between", "(III)I"⟩, ⟨"RoseWall$Law", "joined", "(IJJ)I"⟩, ⟨"RoseWall$Contest", "addEdge", "(II)V"⟩, ⟨"RoseWall$Room", "neighbours", "(I)I"⟩, ⟨"RoseWall$Tokens", "isWord", "(Ljava/lang/String;)Z"⟩, ⟨"RoseWall$Tokens", "kindOfFour", "()I"⟩, ⟨"java/lang/String", "indexOf", "(II)I"⟩, ⟨"RoseWall$LawReader", "readTruth", "(I)Z"⟩, ⟨"RoseWall$RoomReader", "highest", "(I)I"⟩, ⟨"java/lang/String", "checkIndex", "(II)V"⟩, ⟨"RoseWallModel", "readBoth", "(I)V"⟩, ⟨"RoseWallModel", "codes", "(I)V"⟩, ⟨"java/lang/Math", "abs", "(I)I"⟩, ⟨"java/lang/StringLatin1", "indexOf", "([BIII)I"⟩, ⟨"RoseWall$LawReader", "readBoth", "(I)Z"⟩, ⟨"RoseWall$Law", "add", "(I)V"⟩, ⟨"jdk/internal/util/Preconditions", "checkIndex", "(IILjava/util/function/BiFunction;)I"⟩, ⟨"RoseWallModel", "readUnit", "(I)V"⟩, ⟨"java/lang/StringLatin1", "canEncode", "(I)Z"⟩, ⟨"java/lang/StringLatin1", "indexOfChar", "([BIII)I"⟩, ⟨"RoseWall$LawReader", "readUnit", "(I)Z"⟩, ⟨"RoseWallModel", "goesIn", "(I)Z"⟩, ⟨"RoseWallModel", "readSum", "(I)V"⟩, ⟨"RoseWall$LawReader", "enter", "(I)Z"⟩, ⟨"RoseWall$LawReader", "readSum", "(I)Z"⟩, ⟨"RoseWallModel", "readTerm", "(I)V"⟩, ⟨"RoseWall$LawReader", "readTerm", "(I)Z"⟩, ⟨"RoseWallModel", "readAtom", "(I)V"⟩, ⟨"RoseWall$LawReader", "readAtom", "(I)Z"⟩, ⟨"RoseWallModel", "wordOf", "(I)I"⟩, ⟨"RoseWall$LawReader", "isValue", "(I)Z"⟩, ⟨"RoseWallModel", "turnsWord", "(I)I"⟩]
def bytT : List ByteArray := [code, prog_1_method_1_code, prog_14_method_3_code, prog_1_method_2_code, prog_14_method_5_code, prog_1_method_4_code, prog_14_method_33_code, prog_1_method_6_code, prog_14_method_34_code, prog_1_method_7_code, prog_14_method_50_code, prog_1_method_8_code, prog_14_method_51_code, prog_1_method_9_code, prog_14_method_57_code, prog_1_method_10_code, prog_14_method_58_code, prog_1_method_11_code, prog_14_method_59_code, prog_1_method_12_code, prog_14_method_60_code, prog_1_method_13_code, prog_14_method_61_code, prog_1_method_14_code, prog_14_method_62_code, prog_1_method_15_code, prog_14_method_68_code, prog_1_method_16_code, prog_14_method_69_code, prog_1_method_17_code, prog_14_method_72_code, prog_1_method_26_code, prog_14_method_74_code, prog_1_method_27_code, prog_14_method_75_code, prog_1_method_29_code, prog_14_method_79_code, prog_1_method_30_code, prog_14_method_80_code, prog_1_method_31_code, prog_14_method_86_code, prog_1_method_32_code, prog_14_method_87_code, prog_1_method_33_code, prog_14_method_91_code, prog_1_method_34_code, prog_14_method_92_code, prog_1_method_35_code, prog_14_method_93_code, prog_1_method_36_code, prog_14_method_94_code, prog_1_method_37_code, prog_14_method_95_code, prog_1_method_38_code, prog_14_method_98_code, prog_1_method_39_code, prog_14_method_101_code, prog_1_method_40_code, prog_14_method_102_code, prog_1_method_41_code, prog_14_method_103_code, prog_1_method_42_code, prog_14_method_104_code, prog_1_method_43_code, prog_14_method_109_code, prog_1_method_44_code, prog_14_method_110_code, prog_1_method_46_code, prog_14_method_111_code, prog_1_method_47_code, prog_14_method_114_code, prog_1_method_48_code, prog_14_method_116_code, prog_1_method_56_code, prog_14_method_120_code, prog_1_method_57_code, prog_14_method_121_code, prog_1_method_58_code, prog_14_method_122_code, prog_1_method_62_code, prog_14_method_124_code, prog_1_method_63_code, prog_14_method_125_code, prog_1_method_64_code, prog_14_method_126_code, prog_1_method_66_code, prog_14_method_127_code, prog_1_method_67_code, prog_14_method_128_code, prog_1_method_68_code, prog_14_method_129_code, prog_11_method_1_code, prog_9_method_1_code, prog_5_method_1_code, prog_6_method_1_code, prog_10_method_1_code, prog_7_method_1_code, prog_2_method_1_code, prog_8_method_1_code, prog_12_method_1_code, prog_5_method_2_code, prog_10_method_2_code, prog_14_method_4_code, prog_1_method_3_code, prog_1_method_5_code, prog_11_method_2_code, prog_9_method_2_code, prog_6_method_2_code, prog_14_method_2_code, prog_14_method_10_code, prog_14_method_13_code, prog_14_method_11_code, prog_14_method_14_code, prog_14_method_32_code, prog_14_method_31_code, prog_8_method_5_code, prog_16_method_49_code, prog_5_method_4_code, prog_10_method_5_code, prog_14_method_36_code, prog_14_method_41_code, prog_14_method_44_code, prog_8_method_6_code, prog_10_method_7_code, prog_14_method_37_code, prog_14_method_45_code, prog_1_method_20_code, prog_14_method_39_code, prog_14_method_52_code, prog_14_method_55_code, prog_14_method_54_code, prog_1_method_25_code, prog_6_method_3_code, prog_1_method_24_code, prog_14_method_56_code, prog_14_method_40_code, prog_6_method_4_code, prog_1_method_65_code, prog_5_method_3_code, prog_1_method_21_code, prog_12_method_4_code, prog_1_method_22_code, prog_14_method_66_code, prog_14_method_65_code, prog_14_method_53_code, prog_14_method_67_code, prog_1_method_18_code, prog_1_method_19_code, prog_14_method_71_code, prog_14_method_63_code, prog_14_method_64_code, prog_1_method_28_code, prog_7_method_8_code, prog_7_method_9_code, prog_14_method_73_code, prog_7_method_10_code, prog_7_method_11_code, prog_7_method_4_code, prog_2_method_3_code, prog_2_method_2_code, prog_14_method_78_code, prog_2_method_7_code, prog_14_method_49_code, prog_7_method_6_code, prog_14_method_83_code, prog_14_method_84_code, prog_7_method_7_code, prog_14_method_85_code, prog_14_method_90_code, prog_2_method_8_code, prog_8_method_8_code, prog_14_method_38_code, prog_7_method_12_code, prog_14_method_96_code, prog_14_method_47_code, prog_10_method_3_code, prog_10_method_8_code, prog_14_method_100_code, prog_10_method_9_code, prog_14_method_99_code, prog_14_method_35_code, prog_10_method_10_code, prog_14_method_46_code, prog_7_method_13_code, prog_14_method_97_code, prog_1_method_49_code, prog_1_method_51_code, prog_14_method_105_code, prog_14_method_76_code, prog_14_method_108_code, prog_1_method_45_code, prog_10_method_4_code, prog_14_method_107_code, prog_1_method_69_code, prog_1_method_50_code, prog_1_method_52_code, prog_14_method_112_code, prog_14_method_113_code, prog_1_method_54_code, prog_14_method_115_code, prog_1_method_59_code, prog_1_method_60_code, prog_1_method_61_code, prog_14_method_118_code, prog_14_method_117_code, prog_14_method_119_code, prog_12_method_2_code, prog_12_method_3_code, prog_14_method_123_code, prog_14_method_48_code, prog_4_method_1_code, prog_3_method_1_code, prog_8_method_2_code, prog_21_method_101_code, prog_17_method_69_code, prog_17_method_65_code, prog_11_method_4_code, prog_11_method_5_code, prog_11_method_3_code, prog_9_method_3_code, prog_9_method_4_code, prog_11_method_11_code, prog_14_method_6_code, prog_14_method_7_code, prog_14_method_9_code, prog_14_method_8_code, prog_18_method_54_code, prog_18_method_56_code, prog_14_method_12_code, prog_14_method_26_code, prog_14_method_27_code, prog_14_method_28_code, prog_14_method_29_code, prog_14_method_30_code, prog_10_method_6_code, prog_14_method_15_code, prog_14_method_43_code, prog_3_method_4_code, prog_3_method_5_code, prog_5_method_5_code, prog_17_method_50_code, prog_1_method_23_code, prog_14_method_70_code, prog_7_method_2_code, prog_7_method_3_code, prog_7_method_5_code, prog_2_method_4_code, prog_2_method_6_code, prog_14_method_77_code, prog_14_method_81_code, prog_14_method_82_code, prog_14_method_89_code, prog_14_method_88_code, prog_8_method_7_code, prog_21_method_103_code, prog_7_method_14_code, prog_12_method_5_code, prog_14_method_106_code, prog_1_method_53_code, prog_1_method_55_code, prog_3_method_2_code, prog_8_method_3_code, prog_11_method_9_code, prog_11_method_10_code, prog_11_method_6_code, prog_18_method_79_code, prog_11_method_12_code, prog_11_method_13_code, prog_9_method_5_code, prog_9_method_6_code, prog_9_method_7_code, prog_9_method_8_code, prog_4_method_2_code, prog_9_method_9_code, prog_18_method_152_code, prog_18_method_154_code, prog_19_method_2_code, prog_14_method_25_code, prog_14_method_42_code, prog_3_method_6_code, prog_2_method_5_code, prog_8_method_4_code, prog_11_method_8_code, prog_11_method_7_code, prog_18_method_80_code, prog_4_method_3_code, prog_9_method_10_code, prog_18_method_155_code, prog_14_method_24_code, prog_14_method_18_code, prog_17_method_59_code, prog_19_method_22_code, prog_4_method_4_code, prog_3_method_3_code, prog_22_method_11_code, prog_14_method_23_code, prog_19_method_4_code, prog_19_method_23_code, prog_4_method_5_code, prog_14_method_19_code, prog_14_method_22_code, prog_4_method_6_code, prog_4_method_7_code, prog_14_method_21_code, prog_4_method_8_code, prog_14_method_20_code, prog_4_method_9_code, prog_14_method_17_code, prog_4_method_10_code, prog_14_method_16_code]
def rtyT : List (Option FieldType) := [some .boolean, none, none, some .int, some .int, some .int, some .int, some .int, some .int, some .int, some .int, some .int, some .int, some .int, some .int, some .int, some .int, some .int, some .int, some .int, some .int, some .int, some .int, some .int, some .int, some .int, some .int, some .int, some .int, some .int, some .int, some .int, some .int, some .int, some .int, some .int, some .int, some .int, some .int, some .int, some .int, some .int, some .int, some .int, some .int, some .int, some .int, some .int, some .int, some .int, some .int, some .int, some .int, some .int, some .int, some .int, some .int, some .int, some .int, some .int, some .int, some .int, some .int, some .int, some .int, some .int, some .int, some .int, some .int, some .int, some .int, some .int, some .int, some .int, some .int, some .int, some .int, some .int, some .int, some .int, some .int, some .long, some .long, some .int, some .int, some .int, some .int, some .int, some .int, some .int, some .int, none, none, none, none, none, none, none, none, none, none, none, none, none, some (.object "RoseWall$Room"), none, some .boolean, none, some .boolean, none, some .boolean, none, some .int, none, none, some .boolean, some .int, some .int, some .int, some .boolean, some .int, some .boolean, some .boolean, some .boolean, some .boolean, some .boolean, some .int, some .boolean, none, none, none, some .boolean, none, none, some .int, some .int, none, some .boolean, none, some .int, some .long, some .int, some .int, some .int, none, some .int, some .int, some .int, some .int, some .int, none, some .int, some .int, some .int, none, some .int, some .int, some .int, none, some .int, some .int, some .int, some .int, some .int, some .int, some .int, some .int, some .int, some .int, some .int, some .boolean, some .boolean, some .int, none, some .int, none, some .int, none, some .int, some .int, some .int, some .int, some .int, some .int, none, some .int, some .int, some .int, none, some .boolean, some .boolean, some .int, some .int, some .int, some .int, some .int, some .int, some .int, some .int, some .int, some .int, some .int, some .int, some .int, some .int, some .int, none, none, some .long, some .int, none, none, none, none, some .int, some .int, some .int, some .int, none, some .boolean, some .boolean, some .boolean, some .int, some .boolean, some .int, some .boolean, some .int, some .char, some .boolean, none, none, some .int, none, none, some .long, some .boolean, some .boolean, some .boolean, some .boolean, none, some .int, some .int, some .int, some .int, some .int, some .boolean, none, none, some .boolean, some .boolean, some .int, some .int, some .int, some .int, none, none, some .boolean, some .boolean, some .boolean, some .int, none, none, some .boolean, some .boolean, some .int, some .int, some .int, some .boolean, some .boolean, some .boolean, some .boolean, some .boolean, some .boolean, some .boolean, some .byte, some .boolean, some .char, none, some .int, some .int, none, some .int, some .boolean, some .int, some .int, some .boolean, some .int, none, none, none, some .int, some .int, some .boolean, none, some .int, none, some .boolean, some .int, some .boolean, some .boolean, none, some .boolean, some .boolean, none, some .boolean, none, some .boolean, some .int, some .boolean, some .int]
def wcT : List Nat := [0, 138, 1321, 570, 1436, 578, 1440, 852, 1553, 856, 1557, 909, 1591, 915, 1606, 951, 1640, 955, 1645, 959, 1653, 963, 1657, 967, 1662, 978, 1667, 994, 1699, 998, 1703, 1009, 1717, 1044, 1726, 1057, 1730, 1089, 1746, 1098, 1750, 1106, 1769, 1115, 1777, 1119, 1793, 1127, 1797, 1139, 1805, 1143, 1809, 1147, 1813, 1155, 1821, 1166, 1829, 1175, 1837, 1183, 1841, 1197, 1849, 1217, 1869, 1225, 1873, 1230, 1877, 1246, 1889, 1259, 1897, 1273, 1912, 1278, 1917, 1282, 1921, 1293, 1925, 1304, 1933, 1308, 1937, 1312, 1941, 1316, 1945, 146, 199, 234, 257, 278, 310, 342, 366, 487, 507, 511, 1325, 574, 582, 586, 749, 848, 1443, 1447, 1469, 1477, 1481, 1485, 1489, 784, 860, 867, 874, 1561, 1569, 1577, 905, 901, 1595, 1599, 919, 1609, 1613, 1617, 1636, 877, 945, 937, 1649, 1602, 971, 981, 923, 985, 989, 927, 1671, 1675, 1692, 1695, 1001, 1005, 1708, 1679, 1688, 1014, 1022, 1040, 1722, 1048, 1053, 1061, 1068, 1085, 1734, 1093, 1621, 1102, 1754, 1765, 1110, 1773, 1781, 1123, 1131, 1801, 1151, 1817, 1624, 1018, 1159, 1825, 1170, 1833, 1565, 1179, 1632, 1187, 1845, 1201, 1207, 1853, 1738, 1857, 1221, 1034, 1861, 870, 1234, 1238, 1881, 1885, 1250, 1893, 1263, 1266, 1269, 1902, 1905, 1908, 1286, 1300, 1929, 1628, 205, 372, 387, 514, 589, 592, 596, 741, 745, 754, 771, 758, 1451, 1454, 1458, 1464, 615, 625, 1473, 1493, 1497, 1501, 1505, 1509, 882, 1572, 1582, 886, 890, 941, 974, 932, 1712, 1026, 1030, 1064, 1072, 1077, 1741, 1758, 1762, 1785, 1789, 1135, 390, 1193, 1212, 1865, 1242, 1254, 394, 398, 599, 602, 606, 686, 766, 762, 775, 780, 788, 792, 796, 840, 619, 629, 632, 1513, 1585, 893, 1081, 402, 611, 668, 690, 801, 844, 635, 1517, 1529, 405, 694, 805, 819, 640, 1521, 697, 702, 809, 1525, 1533, 813, 824, 1537, 828, 1541, 832, 1545, 836, 1549]
def wiT : List Nat := [112, 113, 127, 113, 127, 113, 127, 113, 127, 113, 127, 113, 127, 113, 127, 113, 127, 113, 127, 113, 127, 113, 127, 113, 127, 113, 127, 113, 127, 113, 127, 113, 127, 113, 127, 113, 127, 113, 127, 113, 127, 113, 127, 113, 127, 113, 127, 113, 127, 113, 127, 113, 127, 113, 127, 113, 127, 113, 127, 113, 127, 113, 127, 113, 127, 113, 127, 113, 127, 113, 127, 113, 127, 113, 127, 113, 127, 113, 127, 113, 127, 113, 127, 113, 127, 113, 127, 113, 127, 113, 127, 114, 115, 117, 118, 119, 120, 121, 122, 126, 117, 119, 127, 113, 113, 114, 115, 118, 127, 127, 127, 127, 127, 127, 127, 122, 133, 117, 119, 127, 127, 127, 122, 119, 127, 127, 113, 127, 127, 127, 127, 113, 118, 113, 127, 127, 118, 113, 117, 113, 126, 113, 127, 127, 127, 127, 113, 113, 127, 127, 127, 113, 120, 120, 127, 120, 120, 120, 121, 121, 127, 121, 127, 120, 127, 127, 120, 127, 127, 121, 122, 127, 120, 127, 127, 119, 119, 127, 119, 127, 127, 119, 127, 120, 127, 113, 113, 127, 127, 127, 113, 119, 127, 113, 113, 113, 127, 127, 113, 127, 113, 113, 113, 127, 127, 127, 126, 126, 127, 127, 116, 123, 122, 124, 125, 125, 114, 114, 114, 115, 115, 114, 127, 127, 127, 127, 128, 128, 127, 127, 127, 127, 127, 127, 119, 127, 127, 123, 123, 117, 125, 113, 127, 120, 120, 120, 121, 121, 127, 127, 127, 127, 127, 122, 124, 120, 126, 127, 113, 113, 123, 122, 114, 114, 114, 128, 114, 114, 115, 115, 115, 115, 116, 115, 128, 128, 129, 127, 127, 123, 121, 122, 114, 114, 128, 116, 115, 128, 127, 127, 125, 129, 116, 123, 130, 127, 129, 129, 116, 127, 127, 116, 116, 127, 116, 127, 116, 127, 116, 127]
def winT : List Nat := [0, 137, 1320, 568, 1434, 576, 1438, 850, 1551, 854, 1555, 907, 1589, 913, 1604, 949, 1638, 953, 1643, 957, 1651, 961, 1655, 965, 1660, 976, 1665, 992, 1697, 996, 1701, 1007, 1715, 1042, 1724, 1055, 1728, 1087, 1744, 1096, 1748, 1104, 1767, 1113, 1775, 1117, 1791, 1125, 1795, 1137, 1803, 1141, 1807, 1145, 1811, 1153, 1819, 1164, 1827, 1173, 1835, 1181, 1839, 1195, 1847, 1215, 1867, 1223, 1871, 1228, 1875, 1244, 1887, 1257, 1895, 1271, 1910, 1276, 1915, 1280, 1919, 1291, 1923, 1302, 1931, 1306, 1935, 1310, 1939, 1314, 1943, 145, 198, 233, 256, 277, 309, 341, 365, 486, 505, 509, 0, 573, 581, 584, 747, 846, 0, 1446, 1468, 1476, 1480, 1484, 1488, 782, 0, 865, 872, 1560, 1568, 1576, 903, 899, 1594, 1598, 918, 0, 1612, 1616, 1635, 0, 943, 936, 1648, 0, 969, 0, 921, 984, 987, 926, 1670, 1674, 1691, 0, 0, 0, 1707, 1678, 1687, 1013, 1020, 1038, 1721, 1046, 1051, 1059, 1066, 1083, 1733, 1091, 1620, 1100, 1753, 0, 1108, 1772, 1780, 1121, 1129, 1800, 1149, 1816, 0, 1016, 1157, 1824, 1168, 1832, 1564, 1177, 1631, 1185, 1844, 1200, 1206, 1852, 1737, 1856, 1220, 1032, 1860, 0, 1233, 1237, 1880, 1884, 1249, 1892, 1262, 0, 0, 1901, 0, 0, 1284, 1298, 0, 1627, 204, 371, 385, 0, 0, 0, 595, 740, 743, 753, 770, 756, 1450, 0, 1457, 0, 613, 623, 1472, 1492, 1496, 1500, 1504, 1508, 881, 0, 1581, 884, 888, 939, 0, 931, 1711, 1024, 1029, 0, 1071, 1076, 0, 1757, 1761, 1784, 1788, 1133, 0, 1192, 1210, 1864, 1241, 1253, 392, 396, 0, 0, 605, 684, 764, 760, 0, 779, 787, 791, 794, 839, 617, 627, 0, 1512, 0, 0, 1080, 401, 610, 667, 688, 800, 843, 0, 1516, 1528, 0, 0, 804, 817, 0, 1520, 0, 0, 808, 1524, 1532, 812, 823, 1536, 827, 1540, 831, 1544, 835, 1548]
def wstT : List Nat := [0, 0, 0, 0, 0, 0, 0, 0, 0, 0, 0, 0, 0, 0, 0, 0, 0, 0, 0, 0, 0, 0, 0, 0, 0, 0, 0, 0, 0, 0, 0, 0, 0, 0, 0, 0, 0, 0, 0, 0, 0, 0, 0, 0, 0, 0, 0, 0, 0, 0, 0, 0, 0, 0, 0, 0, 0, 0, 0, 0, 0, 0, 0, 0, 0, 0, 0, 0, 0, 0, 0, 0, 0, 0, 0, 0, 0, 0, 0, 0, 0, 0, 0, 0, 0, 0, 0, 0, 0, 0, 0, 0, 0, 0, 0, 0, 0, 0, 0, 0, 0, 0, 1324, 0, 0, 0, 0, 0, 1442, 0, 0, 0, 0, 0, 0, 0, 859, 0, 0, 0, 0, 0, 0, 0, 0, 0, 0, 1608, 0, 0, 0, 876, 0, 0, 0, 1601, 0, 980, 0, 0, 0, 0, 0, 0, 0, 1694, 1000, 1004, 0, 0, 0, 0, 0, 0, 0, 0, 0, 0, 0, 0, 0, 0, 0, 0, 0, 1764, 0, 0, 0, 0, 0, 0, 0, 0, 1623, 0, 0, 0, 0, 0, 0, 0, 0, 0, 0, 0, 0, 0, 0, 0, 0, 0, 0, 869, 0, 0, 0, 0, 0, 0, 0, 1265, 1268, 0, 1904, 1907, 0, 0, 1928, 0, 0, 0, 0, 513, 588, 591, 0, 0, 0, 0, 0, 0, 0, 1453, 0, 1463, 0, 0, 0, 0, 0, 0, 0, 0, 0, 1571, 0, 0, 0, 0, 973, 0, 0, 0, 0, 1063, 0, 0, 1740, 0, 0, 0, 0, 0, 389, 0, 0, 0, 0, 0, 0, 0, 598, 601, 0, 0, 0, 0, 774, 0, 0, 0, 0, 0, 0, 0, 631, 0, 1584, 892, 0, 0, 0, 0, 0, 0, 0, 634, 0, 0, 404, 693, 0, 0, 639, 0, 696, 701, 0, 0, 0, 0, 0, 0, 0, 0, 0, 0, 0, 0]
def wseT : List Nat := [0, 0, 0, 569, 1435, 577, 1439, 851, 1552, 855, 1556, 908, 1590, 914, 1605, 950, 1639, 954, 1644, 958, 1652, 962, 1656, 966, 1661, 977, 1666, 993, 1698, 997, 1702, 1008, 1716, 1043, 1725, 1056, 1729, 1088, 1745, 1097, 1749, 1105, 1768, 1114, 1776, 1118, 1792, 1126, 1796, 1138, 1804, 1142, 1808, 1146, 1812, 1154, 1820, 1165, 1828, 1174, 1836, 1182, 1840, 1196, 1848, 1216, 1868, 1224, 1872, 1229, 1876, 1245, 1888, 1258, 1896, 1272, 1911, 1277, 1916, 1281, 1920, 1292, 1924, 1303, 1932, 1307, 1936, 1311, 1940, 1315, 1944, 0, 0, 0, 0, 0, 0, 0, 0, 0, 506, 510, 0, 1, 2, 585, 748, 847, 0, 44, 47, 49, 50, 51, 52, 783, 0, 866, 873, 68, 70, 71, 904, 900, 73, 74, 24, 0, 75, 76, 80, 0, 944, 27, 81, 0, 970, 0, 922, 28, 988, 25, 82, 83, 86, 0, 0, 0, 87, 84, 85, 29, 1021, 1039, 89, 1047, 1052, 1060, 1067, 1084, 90, 1092, 77, 1101, 92, 0, 1109, 95, 96, 1122, 1130, 99, 1150, 100, 0, 1017, 1158, 101, 1169, 102, 69, 1178, 79, 1186, 103, 35, 36, 104, 91, 105, 37, 1033, 106, 0, 38, 39, 108, 109, 41, 110, 43, 0, 0, 111, 0, 0, 1285, 1299, 0, 78, 0, 0, 386, 0, 0, 0, 3, 7, 744, 8, 9, 757, 45, 0, 46, 0, 614, 624, 48, 53, 54, 55, 56, 57, 23, 0, 72, 885, 889, 940, 0, 26, 88, 1025, 30, 0, 31, 32, 0, 93, 94, 97, 98, 1134, 0, 34, 1211, 107, 40, 42, 393, 397, 0, 0, 4, 685, 765, 761, 0, 10, 11, 12, 795, 21, 618, 628, 0, 58, 0, 0, 33, 0, 5, 6, 689, 13, 22, 0, 59, 62, 0, 0, 14, 818, 0, 60, 0, 0, 15, 61, 63, 16, 17, 64, 18, 65, 19, 66, 20, 67]
def ftyT : List (List Nat) := [[2, 2, 2, 0, 2, 2], [2, 2, 0], [2, 2, 3], [0, 0, 0, 0], [2, 0, 0], [2, 0, 2, 2, 2, 2, 2], [0, 0, 0, 0, 0, 0, 0, 0, 0, 0, 2, 2, 2, 2, 2], [2, 2, 2], [2, 0, 2, 2, 2, 2, 0, 2], [2, 0, 0, 0, 2, 2, 2, 0, 0, 0, 0, 0, 0], [2, 0, 0, 3], [2, 0, 2, 2, 2, 2, 2, 2, 2, 2, 2, 2, 2, 2, 2, 2, 2], [0, 2, 2, 2, 2, 0, 0, 0, 0, 0, 0, 0, 0, 0, 0, 0, 2, 2, 2, 0, 0, 2, 2, 0, 0, 2, 2, 2, 0, 2, 2, 2, 2, 2, 2]]
end
section
/-! CHECKS of the tables by the kernel, and what they give. -/
def yOf (me : MD) : MethodName := nmT.getD me.1 ⟨"", "", ""⟩
def byt (me : MD) : ByteArray := bytT.getD me.1 ⟨#[]⟩
def rty (me : MD) : Option FieldType := rtyT.getD me.1 none
def ownN (k : Nat) : String := ownT.getD k ""
def TB : List Cond := lw_tbl.filter goodWord
theorem inTB {i : Nat} {w : Cond} (h : lw_tbl[i]? = some w) (hg : goodWord w = true) : w ∈ TB := List.mem_filter.mpr ⟨List.mem_of_getElem? h, hg⟩
theorem TB_tbl {w : Cond} (h : w ∈ TB) : w ∈ lw_tbl := (List.mem_filter.mp h).1
theorem TB_good : GoodIn TB TB := fun w h => ⟨h, good_of_word (List.mem_filter.mp h).2⟩
def ckRows {α : Type} (T : List (List (Nat × α))) (ck : Nat → Nat → α → Bool) : Bool := (List.range T.length).all fun own => (T.getD own []).all fun e => ck own e.1 e.2
theorem lkN_mem {α : Type} {n : Nat} {v : α} : ∀ {l : List (Nat × α)}, lkN l n = some v → (n, v) ∈ l
  | [], h => by cases h
  | (k, x) :: r, h => by
    unfold lkN at h
    split at h
    · rename_i hb
      have hk : k = n := Nat.eq_of_beq_eq_true hb
      cases h
      rw [hk]
      exact List.mem_cons_self
    · exact List.mem_cons_of_mem _ (lkN_mem h)
theorem ckRows_spec {α : Type} {T : List (List (Nat × α))} {ck : Nat → Nat → α → Bool} (h : ckRows T ck = true) {own n : Nat} {v : α} (hl : lkN (T.getD own []) n = some v) : ck own n v = true := by
  have hm := lkN_mem hl
  by_cases ho : own < T.length
  · have h1 := List.all_eq_true.mp h own (List.mem_range.mpr ho)
    exact List.all_eq_true.mp h1 _ hm
  · rw [List.getD_eq_getElem?_getD, List.getElem?_eq_none (Nat.le_of_not_lt ho)] at hm
    cases hm
def ckTy (d : String) (cat : Nat) : Bool := match parseFieldDescriptor d with
  | some .int => Nat.beq cat 0
  | some .long => Nat.beq cat 1
  | some .boolean => Nat.beq cat 3
  | some (.object _) => Nat.beq cat 2
  | some (.array _) => Nat.beq cat 2
  | _ => false
def ckF (own n : Nat) (f : Nat × Nat × Nat × Bool × Nat) : Bool := match Nat.beq f.1 2 with
  | true => match Nat.beq f.2.1 0 with
    | true => Nat.beq f.2.2.1 5 && decide (lw_tbl[f.2.2.2.2]? = some (.fieldLink (ownN own) n "java/lang/String" "value" "[B"))
    | false => Nat.beq f.2.2.1 4 && decide (lw_tbl[f.2.2.2.2]? = some (.fieldLink (ownN own) n "java/lang/String" "coder" "B"))
  | false => match vwCl[f.1 - 10]? with
    | some r => Nat.ble 10 f.1 && (Nat.blt f.1 40 && (Nat.blt f.2.1 r.2.2 && (decide ((r.2.1 f.2.1).1 = r.1) && (decide (lw_tbl[f.2.2.2.2]? = some (.fieldLink (ownN own) n r.1 (r.2.1 f.2.1).2.1 (r.2.1 f.2.1).2.2.1)) && (decide ((r.2.1 f.2.1).2.2.2 = f.2.2.2.1) && (ckTy (r.2.1 f.2.1).2.2.1 f.2.2.1 && Nat.beq ((ftyT.getD (f.1 - 10) []).getD f.2.1 0) f.2.2.1))))))
    | none => false
set_option maxRecDepth 100000 in
set_option maxHeartbeats 4000000 in
theorem ckF_all : ckRows fresT ckF = true := by decide +kernel
def ckM (me : MD) : Bool := decide (lw_tbl[wcT.getD me.1 0]? = some (.code (yOf me) (byt me) me.2.2.2.1 (rty me))) && (plainFor (yOf me) && (decide (ownN me.2.1 = (yOf me).cls) && (Nat.ble me.2.2.2.1 41 && (decide (me.2.2.2.2.2 = true → (yOf me).name = "<init>") && (decide (lw_tbl[wiT.getD me.1 0]? = some (.initialized (yOf me).cls)) && (decide ((yOf me).cls ≠ "java/lang/invoke/MethodHandle" ∧ (yOf me).cls ≠ "java/lang/invoke/VarHandle") && (match rty me with
  | none => Nat.beq me.2.2.2.2.1 0
  | some .int => Nat.beq me.2.2.2.2.1 1
  | some .boolean => Nat.beq me.2.2.2.2.1 2
  | some .byte => Nat.beq me.2.2.2.2.1 3
  | some .char => Nat.beq me.2.2.2.2.1 4
  | some .long => Nat.beq me.2.2.2.2.1 6
  | some (.object _) => Nat.beq me.2.2.2.2.1 7
  | _ => false)))))))
def ckR (own n : Nat) (q : Nat × Nat × Nat × Nat × Nat) : Bool := Nat.blt 0 q.1 && (Nat.blt q.1 310 && (decide ((parseMethodDescriptor (nmT.getD q.1 ⟨"", "", ""⟩).desc).map (fun d => d.parameters.length) = some q.2.1) && ((match Nat.beq q.2.2.2.2 0 with
  | true => decide (lw_tbl[q.2.2.2.1]? = some (.methodLink (ownN own) n (nmT.getD q.1 ⟨"", "", ""⟩)))
  | false => decide (lw_tbl[q.2.2.2.1]? = some (.methodLinkNest (ownN own) n (nmT.getD q.1 ⟨"", "", ""⟩) "RoseWall"))) && (match Nat.beq q.2.2.1 0 with
  | true => decide (lw_tbl[wstT.getD q.1 0]? = some (.static (nmT.getD q.1 ⟨"", "", ""⟩)))
  | false => decide (lw_tbl[winT.getD q.1 0]? = some (.instanceMethod (nmT.getD q.1 ⟨"", "", ""⟩))) && ((match Nat.beq q.2.2.1 2 with
    | true => decide ((nmT.getD q.1 ⟨"", "", ""⟩).cls = "java/lang/String")
    | false => match vwCl[q.2.2.1 - 10]? with
      | some r => Nat.ble 10 q.2.2.1 && (Nat.blt q.2.2.1 40 && decide (r.1 = (nmT.getD q.1 ⟨"", "", ""⟩).cls))
      | none => false) && (decide ((nmT.getD q.1 ⟨"", "", ""⟩).name = "<init>") || decide (lw_tbl[wseT.getD q.1 0]? = some (.selects (nmT.getD q.1 ⟨"", "", ""⟩).cls (nmT.getD q.1 ⟨"", "", ""⟩) (nmT.getD q.1 ⟨"", "", ""⟩)))))))))
theorem all_app {α : Type} {f : α → Bool} {a b : List α} (ha : a.all f = true) (hb : b.all f = true) : (a ++ b).all f = true := by rw [List.all_append, ha, hb]; rfl
theorem ckRows_of {α : Type} {T : List (List (Nat × α))} {ck : Nat → Nat → α → Bool} {N : Nat} (hN : T.length = N) (h : ∀ own, own < N → (T.getD own []).all (fun e => ck own e.1 e.2) = true) : ckRows T ck = true := by
  subst hN
  exact List.all_eq_true.mpr (fun own ho => h own (List.mem_range.mp ho))
def arrN (k : Nat) : String := match k with
  | 44 => "RoseWall$Room"
  | 45 => "RoseWall$Moment"
  | _ => "RoseWall$Tray"
set_option maxRecDepth 100000 in
theorem ckO_all : ckRows oiniT (fun own n w => decide (lw_tbl[w]? = some (.methodLink (ownN own) n Lib.objectInit))) = true := by decide +kernel
set_option maxRecDepth 100000 in
theorem ckC_all : ckRows cresT (fun own n q => match vwCl[q.1]? with
  | some r => Nat.beq r.2.2 q.2.1 && (decide (lw_tbl[q.2.2.1]? = some (.classLink (ownN own) n r.1)) && (decide (lw_tbl[q.2.2.2.1]? = some (.instantiable r.1 r.2.2)) && decide (lw_tbl[q.2.2.2.2]? = some (.initialized r.1))))
  | none => false) = true := by decide +kernel
set_option maxRecDepth 100000 in
theorem ckA_all : ckRows anewT (fun own n q => Nat.ble 44 q.1 && (Nat.ble q.1 46 && (decide (lw_tbl[q.2.1]? = some (.classLink (ownN own) n (arrN q.1))) && decide (lw_tbl[q.2.2]? = some (.arrayOver (.object (arrN q.1))))))) = true := by decide +kernel
set_option maxRecDepth 100000 in
theorem ckKI_all : ckRows kintT (fun own n q => decide (lw_tbl[q.2]? = some (.constant (ownN own) n (Int32.ofInt q.1)))) = true := by decide +kernel
set_option maxRecDepth 100000 in
theorem ckKL_all : ckRows klongT (fun own n q => decide (lw_tbl[q.2]? = some (.constantLong (ownN own) n (Int64.ofInt q.1)))) = true := by decide +kernel
set_option maxRecDepth 100000 in
theorem ckG_all : ckRows gstT (fun own n q => match Nat.beq q.1 1 with
  | true => decide (lw_tbl[q.2]? = some (.fieldLink (ownN own) n "java/lang/String" "COMPACT_STRINGS" "Z"))
  | false => decide (lw_tbl[q.2]? = some (.fieldLink (ownN own) n "jdk/internal/util/Preconditions" "SIOOBE_FORMATTER" "Ljava/util/function/BiFunction;"))) = true := by decide +kernel
/-- the classes' own words -/
def lays (ci : Nat) : List Cond := match vwCl[ci]? with
  | some r => u_ws r.1 r.2.1 r.2.2
  | none => []
set_option maxRecDepth 100000 in
set_option maxHeartbeats 4000000 in
theorem ckL_all : (List.range 13).all (fun ci => (lays ci).all (fun w => decide (w ∈ lw_tbl) && goodWord w)) = true := by decide +kernel
def lenI : Jvm.ClassFile.Instr → Nat
  | .iload _ => 2
  | .aload _ => 2
  | .lload _ => 2
  | .istore _ => 2
  | .astore _ => 2
  | .lstore _ => 2
  | .bipush _ => 2
  | .ldc _ => 2
  | .newarray _ => 2
  | .iinc _ _ => 3
  | .sipush _ => 3
  | .ldc_w _ => 3
  | .ldc2_w _ => 3
  | .ifCond _ _ => 3
  | .if_icmp _ _ => 3
  | .if_acmp _ _ => 3
  | .ifnull _ => 3
  | .ifnonnull _ => 3
  | .goto _ => 3
  | .getfield _ => 3
  | .putfield _ => 3
  | .getstatic _ => 3
  | .new _ => 3
  | .anewarray _ => 3
  | .invokevirtual _ => 3
  | .invokestatic _ => 3
  | .invokespecial _ => 3
  | _ => 1
def i32 (z : Int) : Bool := decide (-2147483648 ≤ z) && decide (z ≤ 2147483647)
def wfI (pc : Nat) (i : Jvm.ClassFile.Instr) (len : Nat) : Bool := match i with
  | .bipush n => Nat.beq len 2 && decide ((Int8.ofInt n).toInt32 = Int32.ofInt n)
  | .sipush n => Nat.beq len 3 && decide ((Int16.ofInt n).toInt32 = Int32.ofInt n)
  | .ifCond _ o => Nat.beq len 3 && decide (0 ≤ (pc : Int) + o)
  | .if_icmp _ o => Nat.beq len 3 && decide (0 ≤ (pc : Int) + o)
  | .if_acmp _ o => Nat.beq len 3 && decide (0 ≤ (pc : Int) + o)
  | .ifnull o => Nat.beq len 3 && decide (0 ≤ (pc : Int) + o)
  | .ifnonnull o => Nat.beq len 3 && decide (0 ≤ (pc : Int) + o)
  | .goto o => Nat.beq len 3 && decide (0 ≤ (pc : Int) + o)
  | .tableswitch d lo hi offs => decide (0 ≤ (pc : Int) + d) && (offs.toList.all (fun o => decide (0 ≤ (pc : Int) + o)) && (i32 lo && (i32 hi && decide ((offs.toList.length : Int) = hi - lo + 1))))
  | .lookupswitch d ps => decide (0 ≤ (pc : Int) + d) && (ps.toList.all (fun q => i32 q.1 && decide (0 ≤ (pc : Int) + q.2)) && (ps.toList.zip (ps.toList.drop 1)).all (fun (a, next) => a.1 < next.1))
  | i => Nat.beq len (lenI i)
def ckD (b : ByteArray) (rows : List (Nat × Jvm.ClassFile.Instr × Nat)) : Bool := rows.all (fun q => decide (decode b q.1 = .ok q.2) && wfI q.1 q.2.1 q.2.2)
theorem ckD_app {b : ByteArray} {r1 r2 : List (Nat × Jvm.ClassFile.Instr × Nat)} (h1 : ckD b r1 = true) (h2 : ckD b r2 = true) : ckD b (r1 ++ r2) = true := by
  unfold ckD at *
  rw [List.all_append, h1, h2]
  rfl
theorem ckD_spec {b : ByteArray} {rows : List (Nat × Jvm.ClassFile.Instr × Nat)} (h : ckD b rows = true) {pc : Nat} {i : Jvm.ClassFile.Instr} {len : Nat} (hl : lkN rows pc = some (i, len)) : decode b pc = .ok (i, len) ∧ wfI pc i len = true := by
  have h1 := List.all_eq_true.mp h _ (lkN_mem hl)
  rw [Bool.and_eq_true] at h1
  exact ⟨of_decide_eq_true h1.1, h1.2⟩
end
section
/-! CHECKS of the methods: written by wip/whole/gen. -/
set_option maxRecDepth 100000 in
theorem ckMs_1 : mds_1.all ckM = true := by decide +kernel
set_option maxRecDepth 100000 in
theorem ckMs_2 : mds_2.all ckM = true := by decide +kernel
set_option maxRecDepth 100000 in
theorem ckMs_3 : mds_3.all ckM = true := by decide +kernel
set_option maxRecDepth 100000 in
theorem ckMs_4 : mds_4.all ckM = true := by decide +kernel
set_option maxRecDepth 100000 in
theorem ckMs_5 : mds_5.all ckM = true := by decide +kernel
set_option maxRecDepth 100000 in
theorem ckMs_6 : mds_6.all ckM = true := by decide +kernel
set_option maxRecDepth 100000 in
theorem ckMs_7 : mds_7.all ckM = true := by decide +kernel
set_option maxRecDepth 100000 in
theorem ckMs_8 : mds_8.all ckM = true := by decide +kernel
set_option maxRecDepth 100000 in
theorem ckMs_9 : mds_9.all ckM = true := by decide +kernel
set_option maxRecDepth 100000 in
theorem ckMs_10 : mds_10.all ckM = true := by decide +kernel
set_option maxRecDepth 100000 in
theorem ckMs_11 : mds_11.all ckM = true := by decide +kernel
set_option maxRecDepth 100000 in
theorem ckMs_12 : mds_12.all ckM = true := by decide +kernel
set_option maxRecDepth 100000 in
theorem ckMs_13 : mds_13.all ckM = true := by decide +kernel
set_option maxRecDepth 100000 in
theorem ckMs_14 : mds_14.all ckM = true := by decide +kernel
set_option maxRecDepth 100000 in
theorem ckMs_15 : mds_15.all ckM = true := by decide +kernel
set_option maxRecDepth 100000 in
theorem ckMs_16 : mds_16.all ckM = true := by decide +kernel
set_option maxRecDepth 100000 in
theorem ckMs_17 : mds_17.all ckM = true := by decide +kernel
set_option maxRecDepth 100000 in
theorem ckMs_18 : mds_18.all ckM = true := by decide +kernel
set_option maxRecDepth 100000 in
theorem ckMs_19 : mds_19.all ckM = true := by decide +kernel
set_option maxRecDepth 100000 in
theorem ckMs_20 : mds_20.all ckM = true := by decide +kernel
set_option maxRecDepth 100000 in
theorem ckMs_21 : mds_21.all ckM = true := by decide +kernel
set_option maxRecDepth 100000 in
theorem ckMs_22 : mds_22.all ckM = true := by decide +kernel
set_option maxRecDepth 100000 in
theorem ckMs_23 : mds_23.all ckM = true := by decide +kernel
set_option maxRecDepth 100000 in
theorem ckMs_24 : mds_24.all ckM = true := by decide +kernel
set_option maxRecDepth 100000 in
theorem ckMs_25 : mds_25.all ckM = true := by decide +kernel
set_option maxRecDepth 100000 in
theorem ckMs_26 : mds_26.all ckM = true := by decide +kernel
set_option maxRecDepth 100000 in
theorem ckMs_27 : mds_27.all ckM = true := by decide +kernel
set_option maxRecDepth 100000 in
theorem ckMs_28 : mds_28.all ckM = true := by decide +kernel
set_option maxRecDepth 100000 in
theorem ckMs_29 : mds_29.all ckM = true := by decide +kernel
set_option maxRecDepth 100000 in
theorem ckMs_30 : mds_30.all ckM = true := by decide +kernel
set_option maxRecDepth 100000 in
theorem ckMs_31 : mds_31.all ckM = true := by decide +kernel
theorem ckM_all : ∀ me ∈ mds, me.1 ≠ 0 → ckM me = true := by
  have h1 : ∀ me ∈ mds_1 ++ (mds_2 ++ (mds_3 ++ (mds_4 ++ (mds_5 ++ (mds_6 ++ (mds_7 ++ (mds_8 ++ (mds_9 ++ (mds_10 ++ (mds_11 ++ (mds_12 ++ (mds_13 ++ (mds_14 ++ (mds_15 ++ (mds_16 ++ (mds_17 ++ (mds_18 ++ (mds_19 ++ (mds_20 ++ (mds_21 ++ (mds_22 ++ (mds_23 ++ (mds_24 ++ (mds_25 ++ (mds_26 ++ (mds_27 ++ (mds_28 ++ (mds_29 ++ (mds_30 ++ (mds_31)))))))))))))))))))))))))))))), ckM me = true := List.forall_mem_append.mpr ⟨List.all_eq_true.mp ckMs_1, List.forall_mem_append.mpr ⟨List.all_eq_true.mp ckMs_2, List.forall_mem_append.mpr ⟨List.all_eq_true.mp ckMs_3, List.forall_mem_append.mpr ⟨List.all_eq_true.mp ckMs_4, List.forall_mem_append.mpr ⟨List.all_eq_true.mp ckMs_5, List.forall_mem_append.mpr ⟨List.all_eq_true.mp ckMs_6, List.forall_mem_append.mpr ⟨List.all_eq_true.mp ckMs_7, List.forall_mem_append.mpr ⟨List.all_eq_true.mp ckMs_8, List.forall_mem_append.mpr ⟨List.all_eq_true.mp ckMs_9, List.forall_mem_append.mpr ⟨List.all_eq_true.mp ckMs_10, List.forall_mem_append.mpr ⟨List.all_eq_true.mp ckMs_11, List.forall_mem_append.mpr ⟨List.all_eq_true.mp ckMs_12, List.forall_mem_append.mpr ⟨List.all_eq_true.mp ckMs_13, List.forall_mem_append.mpr ⟨List.all_eq_true.mp ckMs_14, List.forall_mem_append.mpr ⟨List.all_eq_true.mp ckMs_15, List.forall_mem_append.mpr ⟨List.all_eq_true.mp ckMs_16, List.forall_mem_append.mpr ⟨List.all_eq_true.mp ckMs_17, List.forall_mem_append.mpr ⟨List.all_eq_true.mp ckMs_18, List.forall_mem_append.mpr ⟨List.all_eq_true.mp ckMs_19, List.forall_mem_append.mpr ⟨List.all_eq_true.mp ckMs_20, List.forall_mem_append.mpr ⟨List.all_eq_true.mp ckMs_21, List.forall_mem_append.mpr ⟨List.all_eq_true.mp ckMs_22, List.forall_mem_append.mpr ⟨List.all_eq_true.mp ckMs_23, List.forall_mem_append.mpr ⟨List.all_eq_true.mp ckMs_24, List.forall_mem_append.mpr ⟨List.all_eq_true.mp ckMs_25, List.forall_mem_append.mpr ⟨List.all_eq_true.mp ckMs_26, List.forall_mem_append.mpr ⟨List.all_eq_true.mp ckMs_27, List.forall_mem_append.mpr ⟨List.all_eq_true.mp ckMs_28, List.forall_mem_append.mpr ⟨List.all_eq_true.mp ckMs_29, List.forall_mem_append.mpr ⟨List.all_eq_true.mp ckMs_30, List.all_eq_true.mp ckMs_31⟩⟩⟩⟩⟩⟩⟩⟩⟩⟩⟩⟩⟩⟩⟩⟩⟩⟩⟩⟩⟩⟩⟩⟩⟩⟩⟩⟩⟩⟩
  show ∀ me ∈ mds_0 ++ (mds_1 ++ (mds_2 ++ (mds_3 ++ (mds_4 ++ (mds_5 ++ (mds_6 ++ (mds_7 ++ (mds_8 ++ (mds_9 ++ (mds_10 ++ (mds_11 ++ (mds_12 ++ (mds_13 ++ (mds_14 ++ (mds_15 ++ (mds_16 ++ (mds_17 ++ (mds_18 ++ (mds_19 ++ (mds_20 ++ (mds_21 ++ (mds_22 ++ (mds_23 ++ (mds_24 ++ (mds_25 ++ (mds_26 ++ (mds_27 ++ (mds_28 ++ (mds_29 ++ (mds_30 ++ (mds_31))))))))))))))))))))))))))))))), me.1 ≠ 0 → ckM me = true
  intro me hm h0
  rcases List.mem_append.mp hm with h | h
  · rw [List.mem_singleton.mp h] at h0
    exact absurd rfl h0
  · exact h1 me h
end
section
/-! CHECKS of the calls: written by wip/whole/gen. -/
set_option maxRecDepth 100000 in
theorem ckRs_0_0 : ([(27, 246, 2, 10, 1069, 0), (35, 247, 2, 10, 1074, 0), (39, 254, 2, 0, 1073, 0), (54, 280, 2, 10, 1078, 0), (57, 159, 2, 10, 1094, 0)] : List (Nat × Nat × Nat × Nat × Nat × Nat)).all (fun e => ckR 0 e.1 e.2) = true := by decide +kernel
set_option maxRecDepth 100000 in
theorem ckRs_1_0 : ([(24, 279, 3, 0, 891, 0)] : List (Nat × Nat × Nat × Nat × Nat × Nat)).all (fun e => ckR 1 e.1 e.2) = true := by decide +kernel
set_option maxRecDepth 100000 in
theorem ckRs_2_0 : ([(23, 260, 0, 11, 797, 0), (28, 285, 1, 12, 798, 0), (32, 292, 1, 12, 802, 0), (41, 218, 0, 19, 815, 0), (44, 293, 1, 11, 816, 0), (48, 298, 1, 12, 806, 0), (51, 301, 1, 12, 810, 0), (54, 221, 1, 19, 820, 0), (57, 302, 1, 12, 821, 0), (60, 267, 1, 19, 814, 0), (63, 304, 1, 12, 825, 0), (66, 306, 1, 12, 829, 0)] : List (Nat × Nat × Nat × Nat × Nat × Nat)).all (fun e => ckR 2 e.1 e.2) = true := by decide +kernel
set_option maxRecDepth 100000 in
theorem ckRs_2_12 : ([(72, 308, 1, 12, 833, 0)] : List (Nat × Nat × Nat × Nat × Nat × Nat)).all (fun e => ckR 2 e.1 e.2) = true := by decide +kernel
set_option maxRecDepth 100000 in
theorem ckRs_3_0 : ([(29, 193, 2, 0, 868, 1)] : List (Nat × Nat × Nat × Nat × Nat × Nat)).all (fun e => ckR 3 e.1 e.2) = true := by decide +kernel
set_option maxRecDepth 100000 in
theorem ckRs_4_0 : ([(17, 93, 0, 13, 260, 1), (25, 138, 1, 13, 946, 0), (29, 214, 2, 0, 947, 0), (35, 240, 2, 0, 972, 0)] : List (Nat × Nat × Nat × Nat × Nat × Nat)).all (fun e => ckR 4 e.1 e.2) = true := by decide +kernel
set_option maxRecDepth 100000 in
theorem ckRs_5_0 : ([(34, 244, 2, 15, 1027, 0), (38, 245, 2, 0, 1062, 0), (42, 191, 2, 18, 1031, 0), (47, 243, 1, 15, 1023, 0), (51, 163, 1, 15, 1111, 0), (54, 215, 2, 0, 1036, 0), (59, 116, 1, 0, 1049, 0), (64, 157, 3, 15, 1188, 0), (68, 254, 2, 0, 1189, 0), (74, 255, 0, 15, 1190, 0)] : List (Nat × Nat × Nat × Nat × Nat × Nat)).all (fun e => ckR 5 e.1 e.2) = true := by decide +kernel
set_option maxRecDepth 100000 in
theorem ckRs_6_0 : ([(23, 211, 0, 11, 370, 1), (31, 212, 0, 16, 384, 0), (56, 254, 2, 0, 388, 0), (62, 260, 0, 11, 391, 0), (63, 261, 2, 16, 395, 0), (76, 281, 1, 16, 399, 0), (80, 290, 1, 0, 403, 0), (85, 253, 0, 16, 1132, 0)] : List (Nat × Nat × Nat × Nat × Nat × Nat)).all (fun e => ckR 6 e.1 e.2) = true := by decide +kernel
set_option maxRecDepth 100000 in
theorem ckRs_7_0 : ([(11, 210, 0, 12, 203, 1), (26, 212, 0, 16, 750, 0), (31, 219, 0, 17, 751, 0), (44, 220, 0, 17, 768, 0), (47, 221, 1, 19, 755, 0), (51, 266, 2, 19, 763, 0), (55, 261, 2, 16, 767, 0), (62, 267, 1, 19, 772, 0), (65, 268, 1, 0, 773, 0), (68, 218, 0, 19, 776, 0), (71, 269, 0, 17, 777, 0), (74, 270, 0, 17, 785, 0)] : List (Nat × Nat × Nat × Nat × Nat × Nat)).all (fun e => ckR 7 e.1 e.2) = true := by decide +kernel
set_option maxRecDepth 100000 in
theorem ckRs_7_12 : ([(77, 271, 0, 17, 789, 0), (84, 272, 3, 12, 793, 0), (91, 273, 1, 17, 837, 0), (100, 115, 1, 16, 781, 0), (116, 286, 1, 17, 841, 0)] : List (Nat × Nat × Nat × Nat × Nat × Nat)).all (fun e => ckR 7 e.1 e.2) = true := by decide +kernel
set_option maxRecDepth 100000 in
theorem ckRs_8_0 : ([(34, 213, 2, 0, 512, 0), (47, 131, 1, 0, 875, 1), (51, 118, 3, 18, 1035, 0), (63, 116, 1, 0, 878, 0), (69, 234, 2, 18, 879, 0), (73, 123, 3, 18, 898, 0), (84, 237, 0, 11, 883, 0), (90, 238, 1, 11, 887, 0), (94, 122, 1, 16, 902, 0), (106, 253, 0, 16, 1160, 0), (110, 193, 2, 0, 1161, 1), (114, 191, 2, 18, 1162, 0)] : List (Nat × Nat × Nat × Nat × Nat × Nat)).all (fun e => ckR 8 e.1 e.2) = true := by decide +kernel
set_option maxRecDepth 100000 in
theorem ckRs_8_12 : ([(117, 254, 2, 0, 1171, 0)] : List (Nat × Nat × Nat × Nat × Nat × Nat)).all (fun e => ckR 8 e.1 e.2) = true := by decide +kernel
set_option maxRecDepth 100000 in
theorem ckRs_9_0 : ([(29, 214, 2, 0, 587, 0), (35, 215, 2, 0, 590, 0), (50, 216, 0, 19, 593, 0), (57, 217, 0, 19, 738, 0), (63, 218, 0, 19, 742, 0), (72, 262, 1, 0, 597, 0), (76, 263, 1, 0, 600, 0), (79, 264, 0, 19, 603, 0), (84, 265, 1, 2, 683, 0), (92, 282, 1, 19, 608, 0), (106, 283, 0, 19, 665, 0), (134, 226, 0, 2, 612, 0)] : List (Nat × Nat × Nat × Nat × Nat × Nat)).all (fun e => ckR 9 e.1 e.2) = true := by decide +kernel
set_option maxRecDepth 100000 in
theorem ckRs_9_12 : ([(136, 227, 1, 2, 622, 0), (140, 267, 1, 19, 759, 0)] : List (Nat × Nat × Nat × Nat × Nat × Nat)).all (fun e => ckR 9 e.1 e.2) = true := by decide +kernel
set_option maxRecDepth 100000 in
theorem ckRs_10_0 : ([(23, 214, 2, 0, 1287, 0), (29, 215, 2, 0, 1288, 0), (35, 213, 2, 0, 1289, 0), (43, 140, 1, 20, 1213, 0)] : List (Nat × Nat × Nat × Nat × Nat × Nat)).all (fun e => ckR 10 e.1 e.2) = true := by decide +kernel
set_option maxRecDepth 100000 in
theorem ckRs_11_0 : ([(15, 91, 0, 19, 144, 1), (22, 92, 0, 17, 197, 1), (42, 93, 0, 13, 232, 1), (55, 94, 0, 14, 255, 0), (68, 95, 0, 18, 276, 1), (75, 96, 0, 15, 308, 1), (82, 97, 0, 10, 340, 1), (91, 98, 0, 16, 364, 0), (92, 99, 0, 20, 485, 1), (97, 100, 1, 13, 504, 0), (101, 101, 1, 18, 508, 0), (108, 103, 1, 21, 571, 0)] : List (Nat × Nat × Nat × Nat × Nat × Nat)).all (fun e => ckR 11 e.1 e.2) = true := by decide +kernel
set_option maxRecDepth 100000 in
theorem ckRs_11_12 : ([(112, 104, 0, 21, 579, 0), (116, 105, 2, 19, 583, 0), (119, 106, 2, 17, 746, 0), (126, 107, 0, 14, 845, 0), (135, 115, 1, 16, 857, 0), (148, 116, 1, 0, 858, 0), (154, 117, 0, 13, 864, 0), (161, 118, 3, 18, 871, 0), (165, 122, 1, 16, 910, 0), (174, 123, 3, 18, 911, 0), (178, 126, 2, 21, 916, 0), (182, 131, 1, 0, 933, 0)] : List (Nat × Nat × Nat × Nat × Nat × Nat)).all (fun e => ckR 11 e.1 e.2) = true := by decide +kernel
set_option maxRecDepth 100000 in
theorem ckRs_11_24 : ([(185, 132, 1, 14, 942, 0), (189, 133, 2, 21, 934, 0), (196, 136, 2, 14, 968, 0), (200, 137, 1, 0, 979, 0), (207, 138, 1, 13, 920, 0), (210, 139, 2, 21, 982, 0), (215, 140, 1, 20, 986, 0), (219, 141, 2, 21, 924, 0), (223, 146, 1, 0, 999, 0), (226, 147, 2, 0, 1003, 0), (232, 241, 2, 21, 929, 0), (236, 239, 1, 13, 938, 0)] : List (Nat × Nat × Nat × Nat × Nat × Nat)).all (fun e => ckR 11 e.1 e.2) = true := by decide +kernel
set_option maxRecDepth 100000 in
theorem ckRs_11_36 : ([(243, 151, 0, 21, 1011, 0), (246, 152, 3, 15, 1019, 0), (250, 153, 2, 15, 1037, 0), (254, 155, 1, 15, 1045, 0), (257, 156, 0, 15, 1050, 0), (260, 175, 1, 18, 1015, 0), (263, 157, 3, 15, 1058, 0), (266, 158, 2, 10, 1065, 0), (270, 159, 2, 10, 1082, 0), (273, 161, 2, 10, 1090, 0), (277, 163, 1, 15, 1099, 0), (280, 166, 2, 15, 1107, 0)] : List (Nat × Nat × Nat × Nat × Nat × Nat)).all (fun e => ckR 11 e.1 e.2) = true := by decide +kernel
set_option maxRecDepth 100000 in
theorem ckRs_11_48 : ([(283, 169, 1, 10, 1120, 0), (287, 170, 1, 16, 1128, 0), (293, 172, 0, 15, 1148, 0), (296, 176, 3, 18, 1156, 0), (299, 178, 2, 18, 1167, 0), (302, 181, 2, 18, 1176, 0), (305, 183, 4, 15, 1184, 0), (309, 185, 1, 21, 1198, 0), (312, 186, 3, 21, 1204, 0), (316, 190, 3, 21, 1218, 0), (320, 191, 2, 18, 1208, 0), (323, 256, 2, 20, 1209, 0)] : List (Nat × Nat × Nat × Nat × Nat × Nat)).all (fun e => ckR 11 e.1 e.2) = true := by decide +kernel
set_option maxRecDepth 100000 in
theorem ckRs_11_60 : ([(327, 193, 2, 0, 1226, 0), (333, 194, 2, 21, 1231, 0), (336, 195, 2, 21, 1235, 0), (340, 198, 2, 21, 1247, 0), (345, 253, 0, 16, 1203, 0), (348, 258, 3, 21, 1239, 0), (351, 259, 1, 21, 1251, 0), (354, 215, 2, 0, 1255, 0), (359, 200, 2, 21, 1260, 0), (362, 201, 1, 0, 1264, 0), (365, 202, 2, 0, 1267, 0), (373, 206, 2, 20, 1283, 0)] : List (Nat × Nat × Nat × Nat × Nat × Nat)).all (fun e => ckR 11 e.1 e.2) = true := by decide +kernel
set_option maxRecDepth 100000 in
theorem ckRs_11_72 : ([(382, 207, 2, 20, 1297, 0)] : List (Nat × Nat × Nat × Nat × Nat × Nat)).all (fun e => ckR 11 e.1 e.2) = true := by decide +kernel
set_option maxRecDepth 100000 in
theorem ckRs_12_0 : ([(73, 102, 1, 0, 1323, 0), (85, 226, 0, 2, 1460, 0), (91, 227, 1, 2, 1461, 0), (101, 222, 1, 22, 1448, 0), (108, 223, 1, 0, 1452, 0), (112, 224, 0, 22, 1455, 0), (115, 225, 1, 0, 1462, 0), (129, 228, 1, 22, 1470, 0), (132, 109, 0, 22, 1444, 0), (135, 111, 1, 22, 1474, 0), (139, 108, 3, 0, 1441, 0), (146, 309, 1, 22, 1546, 0)] : List (Nat × Nat × Nat × Nat × Nat × Nat)).all (fun e => ckR 12 e.1 e.2) = true := by decide +kernel
set_option maxRecDepth 100000 in
theorem ckRs_12_12 : ([(149, 289, 1, 22, 1526, 0), (152, 307, 1, 22, 1542, 0), (155, 299, 1, 22, 1522, 0), (158, 300, 1, 22, 1530, 0), (161, 110, 1, 22, 1466, 0), (164, 305, 1, 22, 1538, 0), (167, 303, 1, 22, 1534, 0), (170, 295, 1, 22, 1518, 0), (173, 277, 1, 22, 1510, 0), (176, 288, 1, 22, 1514, 0), (179, 112, 2, 22, 1478, 0), (183, 231, 0, 22, 1498, 0)] : List (Nat × Nat × Nat × Nat × Nat × Nat)).all (fun e => ckR 12 e.1 e.2) = true := by decide +kernel
set_option maxRecDepth 100000 in
theorem ckRs_12_24 : ([(186, 229, 0, 22, 1490, 0), (189, 230, 0, 22, 1494, 0), (192, 232, 0, 22, 1502, 0), (195, 233, 1, 22, 1506, 0), (198, 113, 0, 22, 1482, 0), (201, 114, 0, 22, 1486, 0), (207, 180, 0, 22, 1562, 0), (210, 235, 2, 0, 1570, 0), (220, 278, 3, 0, 1583, 0), (224, 120, 2, 22, 1566, 0), (229, 236, 1, 22, 1579, 0), (232, 135, 1, 0, 1600, 0)] : List (Nat × Nat × Nat × Nat × Nat × Nat)).all (fun e => ckR 12 e.1 e.2) = true := by decide +kernel
set_option maxRecDepth 100000 in
theorem ckRs_12_36 : ([(235, 121, 4, 22, 1574, 0), (239, 182, 3, 22, 1629, 0), (242, 125, 3, 22, 1596, 0), (246, 174, 2, 0, 1622, 0), (249, 119, 1, 22, 1558, 0), (253, 124, 1, 22, 1592, 0), (256, 162, 0, 22, 1618, 0), (259, 209, 2, 22, 1625, 0), (262, 127, 1, 0, 1607, 0), (265, 128, 0, 22, 1610, 0), (268, 129, 1, 22, 1614, 0), (271, 130, 0, 22, 1633, 0)] : List (Nat × Nat × Nat × Nat × Nat × Nat)).all (fun e => ckR 12 e.1 e.2) = true := by decide +kernel
set_option maxRecDepth 100000 in
theorem ckRs_12_48 : ([(276, 134, 1, 22, 1646, 0), (297, 149, 1, 22, 1676, 0), (300, 150, 1, 22, 1685, 0), (303, 142, 1, 22, 1668, 0), (306, 143, 1, 22, 1672, 0), (309, 144, 0, 22, 1689, 0), (312, 145, 1, 0, 1693, 0), (319, 242, 1, 22, 1709, 0), (324, 148, 0, 22, 1705, 0), (335, 154, 1, 22, 1719, 0), (338, 188, 0, 22, 1735, 0), (341, 248, 1, 0, 1739, 0)] : List (Nat × Nat × Nat × Nat × Nat × Nat)).all (fun e => ckR 12 e.1 e.2) = true := by decide +kernel
set_option maxRecDepth 100000 in
theorem ckRs_12_60 : ([(345, 160, 0, 22, 1731, 0), (351, 249, 1, 22, 1755, 0), (354, 250, 1, 22, 1759, 0), (357, 164, 1, 22, 1751, 0), (360, 165, 1, 0, 1763, 0), (363, 167, 1, 22, 1770, 0), (366, 251, 1, 22, 1782, 0), (369, 252, 1, 22, 1786, 0), (372, 168, 0, 22, 1778, 0), (375, 171, 1, 22, 1798, 0), (378, 173, 0, 22, 1814, 0), (381, 177, 2, 22, 1822, 0)] : List (Nat × Nat × Nat × Nat × Nat × Nat)).all (fun e => ckR 12 e.1 e.2) = true := by decide +kernel
set_option maxRecDepth 100000 in
theorem ckRs_12_72 : ([(385, 179, 2, 22, 1830, 0), (388, 184, 2, 22, 1842, 0), (391, 192, 3, 22, 1858, 0), (394, 257, 3, 22, 1862, 0), (397, 187, 1, 22, 1850, 0), (400, 189, 3, 22, 1854, 0), (403, 196, 2, 22, 1878, 0), (406, 197, 2, 22, 1882, 0), (409, 199, 2, 22, 1890, 0), (412, 205, 2, 0, 1906, 0), (417, 203, 2, 22, 1899, 0), (420, 204, 1, 0, 1903, 0)] : List (Nat × Nat × Nat × Nat × Nat × Nat)).all (fun e => ckR 12 e.1 e.2) = true := by decide +kernel
set_option maxRecDepth 100000 in
theorem ckRs_12_84 : ([(427, 208, 2, 0, 1927, 0)] : List (Nat × Nat × Nat × Nat × Nat × Nat)).all (fun e => ckR 12 e.1 e.2) = true := by decide +kernel
set_option maxRecDepth 100000 in
theorem ckRs_13_0 : ([(9, 1, 0, 21, 136, 0), (12, 2, 0, 22, 1319, 0), (13, 3, 5, 21, 567, 0), (17, 4, 5, 22, 1433, 0), (18, 5, 1, 21, 575, 0), (22, 6, 1, 22, 1437, 0), (23, 7, 1, 21, 849, 0), (26, 8, 1, 22, 1550, 0), (27, 9, 2, 21, 853, 0), (31, 10, 2, 22, 1554, 0), (32, 11, 2, 21, 906, 0), (35, 12, 2, 22, 1588, 0)] : List (Nat × Nat × Nat × Nat × Nat × Nat)).all (fun e => ckR 13 e.1 e.2) = true := by decide +kernel
set_option maxRecDepth 100000 in
theorem ckRs_13_12 : ([(36, 13, 1, 21, 912, 0), (39, 14, 1, 22, 1603, 0), (40, 15, 2, 21, 948, 0), (43, 16, 2, 22, 1637, 0), (44, 17, 1, 21, 952, 0), (47, 18, 1, 22, 1642, 0), (48, 19, 1, 21, 956, 0), (51, 20, 1, 22, 1650, 0), (52, 21, 1, 21, 960, 0), (55, 22, 1, 22, 1654, 0), (56, 23, 1, 21, 964, 0), (59, 24, 1, 22, 1659, 0)] : List (Nat × Nat × Nat × Nat × Nat × Nat)).all (fun e => ckR 13 e.1 e.2) = true := by decide +kernel
set_option maxRecDepth 100000 in
theorem ckRs_13_24 : ([(60, 25, 2, 21, 975, 0), (63, 26, 2, 22, 1664, 0), (64, 27, 1, 21, 991, 0), (67, 28, 1, 22, 1696, 0), (68, 29, 2, 21, 995, 0), (71, 30, 2, 22, 1700, 0), (72, 31, 2, 21, 1006, 0), (75, 32, 2, 22, 1714, 0), (76, 33, 2, 21, 1041, 0), (79, 34, 2, 22, 1723, 0), (80, 35, 0, 21, 1054, 0), (84, 36, 0, 22, 1727, 0)] : List (Nat × Nat × Nat × Nat × Nat × Nat)).all (fun e => ckR 13 e.1 e.2) = true := by decide +kernel
set_option maxRecDepth 100000 in
theorem ckRs_13_36 : ([(85, 37, 1, 21, 1086, 0), (88, 38, 1, 22, 1743, 0), (89, 39, 0, 21, 1095, 0), (92, 40, 0, 22, 1747, 0), (93, 41, 1, 21, 1103, 0), (96, 42, 1, 22, 1766, 0), (97, 43, 0, 21, 1112, 0), (100, 44, 0, 22, 1774, 0), (101, 45, 0, 21, 1116, 0), (104, 46, 0, 22, 1790, 0), (105, 47, 1, 21, 1124, 0), (108, 48, 1, 22, 1794, 0)] : List (Nat × Nat × Nat × Nat × Nat × Nat)).all (fun e => ckR 13 e.1 e.2) = true := by decide +kernel
set_option maxRecDepth 100000 in
theorem ckRs_13_48 : ([(109, 49, 2, 21, 1136, 0), (112, 50, 2, 22, 1802, 0), (113, 51, 0, 21, 1140, 0), (116, 52, 0, 22, 1806, 0), (117, 53, 0, 21, 1144, 0), (120, 54, 0, 22, 1810, 0), (121, 55, 3, 21, 1152, 0), (125, 56, 3, 22, 1818, 0), (126, 57, 2, 21, 1163, 0), (129, 58, 2, 22, 1826, 0), (130, 59, 2, 21, 1172, 0), (133, 60, 2, 22, 1834, 0)] : List (Nat × Nat × Nat × Nat × Nat × Nat)).all (fun e => ckR 13 e.1 e.2) = true := by decide +kernel
set_option maxRecDepth 100000 in
theorem ckRs_13_60 : ([(134, 61, 2, 21, 1180, 0), (137, 62, 2, 22, 1838, 0), (138, 63, 1, 21, 1194, 0), (141, 64, 1, 22, 1846, 0), (142, 65, 2, 21, 1214, 0), (145, 66, 2, 22, 1866, 0), (146, 67, 1, 21, 1222, 0), (149, 68, 1, 22, 1870, 0), (150, 69, 2, 21, 1227, 0), (153, 70, 2, 22, 1874, 0), (154, 71, 2, 21, 1243, 0), (157, 72, 2, 22, 1886, 0)] : List (Nat × Nat × Nat × Nat × Nat × Nat)).all (fun e => ckR 13 e.1 e.2) = true := by decide +kernel
set_option maxRecDepth 100000 in
theorem ckRs_13_72 : ([(158, 73, 2, 21, 1256, 0), (161, 74, 2, 22, 1894, 0), (162, 75, 1, 21, 1270, 0), (165, 76, 1, 22, 1909, 0), (166, 77, 1, 21, 1275, 0), (169, 78, 1, 22, 1914, 0), (170, 79, 3, 21, 1279, 0), (173, 80, 3, 22, 1918, 0), (176, 81, 3, 21, 1290, 0), (180, 82, 3, 22, 1922, 0), (181, 83, 2, 21, 1301, 0), (184, 84, 2, 22, 1930, 0)] : List (Nat × Nat × Nat × Nat × Nat × Nat)).all (fun e => ckR 13 e.1 e.2) = true := by decide +kernel
set_option maxRecDepth 100000 in
theorem ckRs_13_84 : ([(185, 85, 1, 21, 1305, 0), (188, 86, 1, 22, 1934, 0), (189, 87, 1, 21, 1309, 0), (192, 88, 1, 22, 1938, 0), (193, 89, 1, 21, 1313, 0), (196, 90, 1, 22, 1942, 0)] : List (Nat × Nat × Nat × Nat × Nat × Nat)).all (fun e => ckR 13 e.1 e.2) = true := by decide +kernel
set_option maxRecDepth 100000 in
theorem ckRs_16_0 : ([(335, 274, 0, 2, 616, 0), (492, 275, 0, 2, 626, 0), (495, 276, 2, 0, 630, 0), (505, 226, 0, 2, 691, 0), (633, 284, 2, 2, 687, 0), (637, 291, 4, 0, 692, 0), (1059, 294, 3, 0, 638, 0)] : List (Nat × Nat × Nat × Nat × Nat × Nat)).all (fun e => ckR 16 e.1 e.2) = true := by decide +kernel
set_option maxRecDepth 100000 in
theorem ckRs_17_0 : ([(9, 287, 2, 0, 633, 0), (38, 214, 2, 0, 699, 0), (88, 296, 1, 0, 695, 0), (92, 215, 2, 0, 698, 0), (95, 297, 4, 0, 700, 0)] : List (Nat × Nat × Nat × Nat × Nat × Nat)).all (fun e => ckR 17 e.1 e.2) = true := by decide +kernel
set_option maxRecDepth 100000 in
theorem ckR_all : ckRows mresT ckR = true := ckRows_of (N := 21) rfl (fun own ho => match own, ho with
  | 0, _ => ckRs_0_0
  | 1, _ => ckRs_1_0
  | 2, _ => all_app ckRs_2_0 (ckRs_2_12)
  | 3, _ => ckRs_3_0
  | 4, _ => ckRs_4_0
  | 5, _ => ckRs_5_0
  | 6, _ => ckRs_6_0
  | 7, _ => all_app ckRs_7_0 (ckRs_7_12)
  | 8, _ => all_app ckRs_8_0 (ckRs_8_12)
  | 9, _ => all_app ckRs_9_0 (ckRs_9_12)
  | 10, _ => ckRs_10_0
  | 11, _ => all_app ckRs_11_0 (all_app ckRs_11_12 (all_app ckRs_11_24 (all_app ckRs_11_36 (all_app ckRs_11_48 (all_app ckRs_11_60 (ckRs_11_72))))))
  | 12, _ => all_app ckRs_12_0 (all_app ckRs_12_12 (all_app ckRs_12_24 (all_app ckRs_12_36 (all_app ckRs_12_48 (all_app ckRs_12_60 (all_app ckRs_12_72 (ckRs_12_84)))))))
  | 13, _ => all_app ckRs_13_0 (all_app ckRs_13_12 (all_app ckRs_13_24 (all_app ckRs_13_36 (all_app ckRs_13_48 (all_app ckRs_13_60 (all_app ckRs_13_72 (ckRs_13_84)))))))
  | 14, _ => rfl
  | 15, _ => rfl
  | 16, _ => ckRs_16_0
  | 17, _ => ckRs_17_0
  | 18, _ => rfl
  | 19, _ => rfl
  | 20, _ => rfl
  | k + 21, h => absurd h (by omega))
end
section
/-! DECODE CHECKS, a row a method: written by wip/whole/gen. -/
set_option maxRecDepth 100000 in
theorem dk_law_0 : ckD code k_law_0 = true := by decide +kernel
set_option maxRecDepth 100000 in
theorem dk_law_1 : ckD code k_law_1 = true := by decide +kernel
set_option maxRecDepth 100000 in
theorem dk_law_2 : ckD code k_law_2 = true := by decide +kernel
set_option maxRecDepth 100000 in
theorem dk_law_3 : ckD code k_law_3 = true := by decide +kernel
set_option maxRecDepth 100000 in
theorem dk_law_4 : ckD code k_law_4 = true := by decide +kernel
set_option maxRecDepth 100000 in
theorem dk_law_5 : ckD code k_law_5 = true := by decide +kernel
set_option maxRecDepth 100000 in
theorem dk_law_6 : ckD code k_law_6 = true := by decide +kernel
set_option maxRecDepth 100000 in
theorem dk_law_7 : ckD code k_law_7 = true := by decide +kernel
set_option maxRecDepth 100000 in
theorem dk_law_8 : ckD code k_law_8 = true := by decide +kernel
set_option maxRecDepth 100000 in
theorem dk_law_9 : ckD code k_law_9 = true := by decide +kernel
set_option maxRecDepth 100000 in
theorem dk_law_10 : ckD code k_law_10 = true := by decide +kernel
set_option maxRecDepth 100000 in
theorem dk_law_11 : ckD code k_law_11 = true := by decide +kernel
set_option maxRecDepth 100000 in
theorem dk_law_12 : ckD code k_law_12 = true := by decide +kernel
set_option maxRecDepth 100000 in
theorem dk_law_13 : ckD code k_law_13 = true := by decide +kernel
set_option maxRecDepth 100000 in
theorem dk_law_14 : ckD code k_law_14 = true := by decide +kernel
set_option maxRecDepth 100000 in
theorem dk_law_15 : ckD code k_law_15 = true := by decide +kernel
set_option maxRecDepth 100000 in
theorem dk_law_16 : ckD code k_law_16 = true := by decide +kernel
theorem dk_law : ckD code k_law = true := ckD_app dk_law_0 (ckD_app dk_law_1 (ckD_app dk_law_2 (ckD_app dk_law_3 (ckD_app dk_law_4 (ckD_app dk_law_5 (ckD_app dk_law_6 (ckD_app dk_law_7 (ckD_app dk_law_8 (ckD_app dk_law_9 (ckD_app dk_law_10 (ckD_app dk_law_11 (ckD_app dk_law_12 (ckD_app dk_law_13 (ckD_app dk_law_14 (ckD_app dk_law_15 (dk_law_16))))))))))))))))
set_option maxRecDepth 100000 in
theorem dk_RW_init_0 : ckD prog_1_method_1_code k_RW_init_0 = true := by decide +kernel
set_option maxRecDepth 100000 in
theorem dk_RW_init_1 : ckD prog_1_method_1_code k_RW_init_1 = true := by decide +kernel
set_option maxRecDepth 100000 in
theorem dk_RW_init_2 : ckD prog_1_method_1_code k_RW_init_2 = true := by decide +kernel
theorem dk_RW_init : ckD prog_1_method_1_code k_RW_init = true := ckD_app dk_RW_init_0 (ckD_app dk_RW_init_1 (dk_RW_init_2))
set_option maxRecDepth 100000 in
theorem dk_Mo_init_0 : ckD prog_14_method_3_code k_Mo_init_0 = true := by decide +kernel
set_option maxRecDepth 100000 in
theorem dk_Mo_init_1 : ckD prog_14_method_3_code k_Mo_init_1 = true := by decide +kernel
theorem dk_Mo_init : ckD prog_14_method_3_code k_Mo_init = true := ckD_app dk_Mo_init_0 (dk_Mo_init_1)
set_option maxRecDepth 100000 in
theorem dk_RW_feed : ckD prog_1_method_2_code k_RW_feed = true := by decide +kernel
set_option maxRecDepth 100000 in
theorem dk_Mo_feed_0 : ckD prog_14_method_5_code k_Mo_feed_0 = true := by decide +kernel
set_option maxRecDepth 100000 in
theorem dk_Mo_feed_1 : ckD prog_14_method_5_code k_Mo_feed_1 = true := by decide +kernel
theorem dk_Mo_feed : ckD prog_14_method_5_code k_Mo_feed = true := ckD_app dk_Mo_feed_0 (dk_Mo_feed_1)
set_option maxRecDepth 100000 in
theorem dk_RW_room : ckD prog_1_method_4_code k_RW_room = true := by decide +kernel
set_option maxRecDepth 100000 in
theorem dk_Mo_room_0 : ckD prog_14_method_33_code k_Mo_room_0 = true := by decide +kernel
set_option maxRecDepth 100000 in
theorem dk_Mo_room_1 : ckD prog_14_method_33_code k_Mo_room_1 = true := by decide +kernel
theorem dk_Mo_room : ckD prog_14_method_33_code k_Mo_room = true := ckD_app dk_Mo_room_0 (dk_Mo_room_1)
set_option maxRecDepth 100000 in
theorem dk_RW_fault : ckD prog_1_method_6_code k_RW_fault = true := by decide +kernel
set_option maxRecDepth 100000 in
theorem dk_Mo_fault : ckD prog_14_method_34_code k_Mo_fault = true := by decide +kernel
set_option maxRecDepth 100000 in
theorem dk_RW_rose : ckD prog_1_method_7_code k_RW_rose = true := by decide +kernel
set_option maxRecDepth 100000 in
theorem dk_Mo_rose : ckD prog_14_method_50_code k_Mo_rose = true := by decide +kernel
set_option maxRecDepth 100000 in
theorem dk_RW_tenant : ckD prog_1_method_8_code k_RW_tenant = true := by decide +kernel
set_option maxRecDepth 100000 in
theorem dk_Mo_tenant : ckD prog_14_method_51_code k_Mo_tenant = true := by decide +kernel
set_option maxRecDepth 100000 in
theorem dk_RW_night : ckD prog_1_method_9_code k_RW_night = true := by decide +kernel
set_option maxRecDepth 100000 in
theorem dk_Mo_night : ckD prog_14_method_57_code k_Mo_night = true := by decide +kernel
set_option maxRecDepth 100000 in
theorem dk_RW_nights : ckD prog_1_method_10_code k_RW_nights = true := by decide +kernel
set_option maxRecDepth 100000 in
theorem dk_Mo_nights : ckD prog_14_method_58_code k_Mo_nights = true := by decide +kernel
set_option maxRecDepth 100000 in
theorem dk_RW_let : ckD prog_1_method_11_code k_RW_let = true := by decide +kernel
set_option maxRecDepth 100000 in
theorem dk_Mo_let : ckD prog_14_method_59_code k_Mo_let = true := by decide +kernel
set_option maxRecDepth 100000 in
theorem dk_RW_turn : ckD prog_1_method_12_code k_RW_turn = true := by decide +kernel
set_option maxRecDepth 100000 in
theorem dk_Mo_turn : ckD prog_14_method_60_code k_Mo_turn = true := by decide +kernel
set_option maxRecDepth 100000 in
theorem dk_RW_temper : ckD prog_1_method_13_code k_RW_temper = true := by decide +kernel
set_option maxRecDepth 100000 in
theorem dk_Mo_temper : ckD prog_14_method_61_code k_Mo_temper = true := by decide +kernel
set_option maxRecDepth 100000 in
theorem dk_RW_undo : ckD prog_1_method_14_code k_RW_undo = true := by decide +kernel
set_option maxRecDepth 100000 in
theorem dk_Mo_undo : ckD prog_14_method_62_code k_Mo_undo = true := by decide +kernel
set_option maxRecDepth 100000 in
theorem dk_RW_judge_0 : ckD prog_1_method_15_code k_RW_judge_0 = true := by decide +kernel
set_option maxRecDepth 100000 in
theorem dk_RW_judge_1 : ckD prog_1_method_15_code k_RW_judge_1 = true := by decide +kernel
theorem dk_RW_judge : ckD prog_1_method_15_code k_RW_judge = true := ckD_app dk_RW_judge_0 (dk_RW_judge_1)
set_option maxRecDepth 100000 in
theorem dk_Mo_judge : ckD prog_14_method_68_code k_Mo_judge = true := by decide +kernel
set_option maxRecDepth 100000 in
theorem dk_RW_perform : ckD prog_1_method_16_code k_RW_perform = true := by decide +kernel
set_option maxRecDepth 100000 in
theorem dk_Mo_perform : ckD prog_14_method_69_code k_Mo_perform = true := by decide +kernel
set_option maxRecDepth 100000 in
theorem dk_RW_season : ckD prog_1_method_17_code k_RW_season = true := by decide +kernel
set_option maxRecDepth 100000 in
theorem dk_Mo_season : ckD prog_14_method_72_code k_Mo_season = true := by decide +kernel
set_option maxRecDepth 100000 in
theorem dk_RW_lies : ckD prog_1_method_26_code k_RW_lies = true := by decide +kernel
set_option maxRecDepth 100000 in
theorem dk_Mo_lies : ckD prog_14_method_74_code k_Mo_lies = true := by decide +kernel
set_option maxRecDepth 100000 in
theorem dk_RW_round : ckD prog_1_method_27_code k_RW_round = true := by decide +kernel
set_option maxRecDepth 100000 in
theorem dk_Mo_round_0 : ckD prog_14_method_75_code k_Mo_round_0 = true := by decide +kernel
set_option maxRecDepth 100000 in
theorem dk_Mo_round_1 : ckD prog_14_method_75_code k_Mo_round_1 = true := by decide +kernel
theorem dk_Mo_round : ckD prog_14_method_75_code k_Mo_round = true := ckD_app dk_Mo_round_0 (dk_Mo_round_1)
set_option maxRecDepth 100000 in
theorem dk_RW_stays : ckD prog_1_method_29_code k_RW_stays = true := by decide +kernel
set_option maxRecDepth 100000 in
theorem dk_Mo_stays : ckD prog_14_method_79_code k_Mo_stays = true := by decide +kernel
set_option maxRecDepth 100000 in
theorem dk_RW_stayBy : ckD prog_1_method_30_code k_RW_stayBy = true := by decide +kernel
set_option maxRecDepth 100000 in
theorem dk_Mo_stayBy_0 : ckD prog_14_method_80_code k_Mo_stayBy_0 = true := by decide +kernel
set_option maxRecDepth 100000 in
theorem dk_Mo_stayBy_1 : ckD prog_14_method_80_code k_Mo_stayBy_1 = true := by decide +kernel
theorem dk_Mo_stayBy : ckD prog_14_method_80_code k_Mo_stayBy = true := ckD_app dk_Mo_stayBy_0 (dk_Mo_stayBy_1)
set_option maxRecDepth 100000 in
theorem dk_RW_out : ckD prog_1_method_31_code k_RW_out = true := by decide +kernel
set_option maxRecDepth 100000 in
theorem dk_Mo_out : ckD prog_14_method_86_code k_Mo_out = true := by decide +kernel
set_option maxRecDepth 100000 in
theorem dk_RW_outBy : ckD prog_1_method_32_code k_RW_outBy = true := by decide +kernel
set_option maxRecDepth 100000 in
theorem dk_Mo_outBy : ckD prog_14_method_87_code k_Mo_outBy = true := by decide +kernel
set_option maxRecDepth 100000 in
theorem dk_RW_forces : ckD prog_1_method_33_code k_RW_forces = true := by decide +kernel
set_option maxRecDepth 100000 in
theorem dk_Mo_forces : ckD prog_14_method_91_code k_Mo_forces = true := by decide +kernel
set_option maxRecDepth 100000 in
theorem dk_RW_minds : ckD prog_1_method_34_code k_RW_minds = true := by decide +kernel
set_option maxRecDepth 100000 in
theorem dk_Mo_minds : ckD prog_14_method_92_code k_Mo_minds = true := by decide +kernel
set_option maxRecDepth 100000 in
theorem dk_RW_soonest : ckD prog_1_method_35_code k_RW_soonest = true := by decide +kernel
set_option maxRecDepth 100000 in
theorem dk_Mo_soonest : ckD prog_14_method_93_code k_Mo_soonest = true := by decide +kernel
set_option maxRecDepth 100000 in
theorem dk_RW_way : ckD prog_1_method_36_code k_RW_way = true := by decide +kernel
set_option maxRecDepth 100000 in
theorem dk_Mo_way : ckD prog_14_method_94_code k_Mo_way = true := by decide +kernel
set_option maxRecDepth 100000 in
theorem dk_RW_toFace : ckD prog_1_method_37_code k_RW_toFace = true := by decide +kernel
set_option maxRecDepth 100000 in
theorem dk_Mo_toFace : ckD prog_14_method_95_code k_Mo_toFace = true := by decide +kernel
set_option maxRecDepth 100000 in
theorem dk_RW_walls : ckD prog_1_method_38_code k_RW_walls = true := by decide +kernel
set_option maxRecDepth 100000 in
theorem dk_Mo_walls_0 : ckD prog_14_method_98_code k_Mo_walls_0 = true := by decide +kernel
set_option maxRecDepth 100000 in
theorem dk_Mo_walls_1 : ckD prog_14_method_98_code k_Mo_walls_1 = true := by decide +kernel
theorem dk_Mo_walls : ckD prog_14_method_98_code k_Mo_walls = true := ckD_app dk_Mo_walls_0 (dk_Mo_walls_1)
set_option maxRecDepth 100000 in
theorem dk_RW_parents : ckD prog_1_method_39_code k_RW_parents = true := by decide +kernel
set_option maxRecDepth 100000 in
theorem dk_Mo_parents : ckD prog_14_method_101_code k_Mo_parents = true := by decide +kernel
set_option maxRecDepth 100000 in
theorem dk_RW_orphans : ckD prog_1_method_40_code k_RW_orphans = true := by decide +kernel
set_option maxRecDepth 100000 in
theorem dk_Mo_orphans : ckD prog_14_method_102_code k_Mo_orphans = true := by decide +kernel
set_option maxRecDepth 100000 in
theorem dk_RW_still : ckD prog_1_method_41_code k_RW_still = true := by decide +kernel
set_option maxRecDepth 100000 in
theorem dk_Mo_still : ckD prog_14_method_103_code k_Mo_still = true := by decide +kernel
set_option maxRecDepth 100000 in
theorem dk_RW_rows : ckD prog_1_method_42_code k_RW_rows = true := by decide +kernel
set_option maxRecDepth 100000 in
theorem dk_Mo_rows : ckD prog_14_method_104_code k_Mo_rows = true := by decide +kernel
set_option maxRecDepth 100000 in
theorem dk_RW_seen : ckD prog_1_method_43_code k_RW_seen = true := by decide +kernel
set_option maxRecDepth 100000 in
theorem dk_Mo_seen : ckD prog_14_method_109_code k_Mo_seen = true := by decide +kernel
set_option maxRecDepth 100000 in
theorem dk_RW_seenBy_0 : ckD prog_1_method_44_code k_RW_seenBy_0 = true := by decide +kernel
set_option maxRecDepth 100000 in
theorem dk_RW_seenBy_1 : ckD prog_1_method_44_code k_RW_seenBy_1 = true := by decide +kernel
theorem dk_RW_seenBy : ckD prog_1_method_44_code k_RW_seenBy = true := ckD_app dk_RW_seenBy_0 (dk_RW_seenBy_1)
set_option maxRecDepth 100000 in
theorem dk_Mo_seenBy : ckD prog_14_method_110_code k_Mo_seenBy = true := by decide +kernel
set_option maxRecDepth 100000 in
theorem dk_RW_whose_0 : ckD prog_1_method_46_code k_RW_whose_0 = true := by decide +kernel
set_option maxRecDepth 100000 in
theorem dk_RW_whose_1 : ckD prog_1_method_46_code k_RW_whose_1 = true := by decide +kernel
theorem dk_RW_whose : ckD prog_1_method_46_code k_RW_whose = true := ckD_app dk_RW_whose_0 (dk_RW_whose_1)
set_option maxRecDepth 100000 in
theorem dk_Mo_whose_0 : ckD prog_14_method_111_code k_Mo_whose_0 = true := by decide +kernel
set_option maxRecDepth 100000 in
theorem dk_Mo_whose_1 : ckD prog_14_method_111_code k_Mo_whose_1 = true := by decide +kernel
theorem dk_Mo_whose : ckD prog_14_method_111_code k_Mo_whose = true := ckD_app dk_Mo_whose_0 (dk_Mo_whose_1)
set_option maxRecDepth 100000 in
theorem dk_RW_tempers : ckD prog_1_method_47_code k_RW_tempers = true := by decide +kernel
set_option maxRecDepth 100000 in
theorem dk_Mo_tempers : ckD prog_14_method_114_code k_Mo_tempers = true := by decide +kernel
set_option maxRecDepth 100000 in
theorem dk_RW_attempt : ckD prog_1_method_48_code k_RW_attempt = true := by decide +kernel
set_option maxRecDepth 100000 in
theorem dk_Mo_attempt : ckD prog_14_method_116_code k_Mo_attempt = true := by decide +kernel
set_option maxRecDepth 100000 in
theorem dk_RW_chance : ckD prog_1_method_56_code k_RW_chance = true := by decide +kernel
set_option maxRecDepth 100000 in
theorem dk_Mo_chance : ckD prog_14_method_120_code k_Mo_chance = true := by decide +kernel
set_option maxRecDepth 100000 in
theorem dk_RW_gone : ckD prog_1_method_57_code k_RW_gone = true := by decide +kernel
set_option maxRecDepth 100000 in
theorem dk_Mo_gone : ckD prog_14_method_121_code k_Mo_gone = true := by decide +kernel
set_option maxRecDepth 100000 in
theorem dk_RW_best : ckD prog_1_method_58_code k_RW_best = true := by decide +kernel
set_option maxRecDepth 100000 in
theorem dk_Mo_best : ckD prog_14_method_122_code k_Mo_best = true := by decide +kernel
set_option maxRecDepth 100000 in
theorem dk_RW_numbers : ckD prog_1_method_62_code k_RW_numbers = true := by decide +kernel
set_option maxRecDepth 100000 in
theorem dk_Mo_numbers : ckD prog_14_method_124_code k_Mo_numbers = true := by decide +kernel
set_option maxRecDepth 100000 in
theorem dk_RW_write : ckD prog_1_method_63_code k_RW_write = true := by decide +kernel
set_option maxRecDepth 100000 in
theorem dk_Mo_write : ckD prog_14_method_125_code k_Mo_write = true := by decide +kernel
set_option maxRecDepth 100000 in
theorem dk_RW_lists : ckD prog_1_method_64_code k_RW_lists = true := by decide +kernel
set_option maxRecDepth 100000 in
theorem dk_Mo_lists : ckD prog_14_method_126_code k_Mo_lists = true := by decide +kernel
set_option maxRecDepth 100000 in
theorem dk_RW_image : ckD prog_1_method_66_code k_RW_image = true := by decide +kernel
set_option maxRecDepth 100000 in
theorem dk_Mo_image : ckD prog_14_method_127_code k_Mo_image = true := by decide +kernel
set_option maxRecDepth 100000 in
theorem dk_RW_restore : ckD prog_1_method_67_code k_RW_restore = true := by decide +kernel
set_option maxRecDepth 100000 in
theorem dk_Mo_restore : ckD prog_14_method_128_code k_Mo_restore = true := by decide +kernel
set_option maxRecDepth 100000 in
theorem dk_RW_count : ckD prog_1_method_68_code k_RW_count = true := by decide +kernel
set_option maxRecDepth 100000 in
theorem dk_Mo_count : ckD prog_14_method_129_code k_Mo_count = true := by decide +kernel
set_option maxRecDepth 100000 in
theorem dk_Tok_init : ckD prog_11_method_1_code k_Tok_init = true := by decide +kernel
set_option maxRecDepth 100000 in
theorem dk_RR_init : ckD prog_9_method_1_code k_RR_init = true := by decide +kernel
set_option maxRecDepth 100000 in
theorem dk_Mom_init : ckD prog_5_method_1_code k_Mom_init = true := by decide +kernel
set_option maxRecDepth 100000 in
theorem dk_Past_init : ckD prog_6_method_1_code k_Past_init = true := by decide +kernel
set_option maxRecDepth 100000 in
theorem dk_Stp_init : ckD prog_10_method_1_code k_Stp_init = true := by decide +kernel
set_option maxRecDepth 100000 in
theorem dk_Rch_init : ckD prog_7_method_1_code k_Rch_init = true := by decide +kernel
set_option maxRecDepth 100000 in
theorem dk_Con_init : ckD prog_2_method_1_code k_Con_init = true := by decide +kernel
set_option maxRecDepth 100000 in
theorem dk_Room_init : ckD prog_8_method_1_code k_Room_init = true := by decide +kernel
set_option maxRecDepth 100000 in
theorem dk_Tray_init : ckD prog_12_method_1_code k_Tray_init = true := by decide +kernel
set_option maxRecDepth 100000 in
theorem dk_Mom_begin : ckD prog_5_method_2_code k_Mom_begin = true := by decide +kernel
set_option maxRecDepth 100000 in
theorem dk_Stp_take : ckD prog_10_method_2_code k_Stp_take = true := by decide +kernel
set_option maxRecDepth 100000 in
theorem dk_Mo_plain : ckD prog_14_method_4_code k_Mo_plain = true := by decide +kernel
set_option maxRecDepth 100000 in
theorem dk_RW_tapeFour : ckD prog_1_method_3_code k_RW_tapeFour = true := by decide +kernel
set_option maxRecDepth 100000 in
theorem dk_RW_spareRoom : ckD prog_1_method_5_code k_RW_spareRoom = true := by decide +kernel
set_option maxRecDepth 100000 in
theorem dk_Tok_begin_0 : ckD prog_11_method_2_code k_Tok_begin_0 = true := by decide +kernel
set_option maxRecDepth 100000 in
theorem dk_Tok_begin_1 : ckD prog_11_method_2_code k_Tok_begin_1 = true := by decide +kernel
theorem dk_Tok_begin : ckD prog_11_method_2_code k_Tok_begin = true := ckD_app dk_Tok_begin_0 (dk_Tok_begin_1)
set_option maxRecDepth 100000 in
theorem dk_RR_readRoom : ckD prog_9_method_2_code k_RR_readRoom = true := by decide +kernel
set_option maxRecDepth 100000 in
theorem dk_Past_clear : ckD prog_6_method_2_code k_Past_clear = true := by decide +kernel
set_option maxRecDepth 100000 in
theorem dk_Mo_within : ckD prog_14_method_2_code k_Mo_within = true := by decide +kernel
set_option maxRecDepth 100000 in
theorem dk_Mo_next_0 : ckD prog_14_method_10_code k_Mo_next_0 = true := by decide +kernel
set_option maxRecDepth 100000 in
theorem dk_Mo_next_1 : ckD prog_14_method_10_code k_Mo_next_1 = true := by decide +kernel
set_option maxRecDepth 100000 in
theorem dk_Mo_next_2 : ckD prog_14_method_10_code k_Mo_next_2 = true := by decide +kernel
theorem dk_Mo_next : ckD prog_14_method_10_code k_Mo_next = true := ckD_app dk_Mo_next_0 (ckD_app dk_Mo_next_1 (dk_Mo_next_2))
set_option maxRecDepth 100000 in
theorem dk_Mo_eats : ckD prog_14_method_13_code k_Mo_eats = true := by decide +kernel
set_option maxRecDepth 100000 in
theorem dk_Mo_fails : ckD prog_14_method_11_code k_Mo_fails = true := by decide +kernel
set_option maxRecDepth 100000 in
theorem dk_Mo_takes : ckD prog_14_method_14_code k_Mo_takes = true := by decide +kernel
set_option maxRecDepth 100000 in
theorem dk_Mo_ends : ckD prog_14_method_32_code k_Mo_ends = true := by decide +kernel
set_option maxRecDepth 100000 in
theorem dk_Mo_readLine_0 : ckD prog_14_method_31_code k_Mo_readLine_0 = true := by decide +kernel
set_option maxRecDepth 100000 in
theorem dk_Mo_readLine_1 : ckD prog_14_method_31_code k_Mo_readLine_1 = true := by decide +kernel
theorem dk_Mo_readLine : ckD prog_14_method_31_code k_Mo_readLine = true := ckD_app dk_Mo_readLine_0 (dk_Mo_readLine_1)
set_option maxRecDepth 100000 in
theorem dk_Room_hasRose : ckD prog_8_method_5_code k_Room_hasRose = true := by decide +kernel
set_option maxRecDepth 100000 in
theorem dk_Int_bitCount : ckD prog_16_method_49_code k_Int_bitCount = true := by decide +kernel
set_option maxRecDepth 100000 in
theorem dk_Mom_place : ckD prog_5_method_4_code k_Mom_place = true := by decide +kernel
set_option maxRecDepth 100000 in
theorem dk_Stp_pass_0 : ckD prog_10_method_5_code k_Stp_pass_0 = true := by decide +kernel
set_option maxRecDepth 100000 in
theorem dk_Stp_pass_1 : ckD prog_10_method_5_code k_Stp_pass_1 = true := by decide +kernel
set_option maxRecDepth 100000 in
theorem dk_Stp_pass_2 : ckD prog_10_method_5_code k_Stp_pass_2 = true := by decide +kernel
theorem dk_Stp_pass : ckD prog_10_method_5_code k_Stp_pass = true := ckD_app dk_Stp_pass_0 (ckD_app dk_Stp_pass_1 (dk_Stp_pass_2))
set_option maxRecDepth 100000 in
theorem dk_Mo_isRose : ckD prog_14_method_36_code k_Mo_isRose = true := by decide +kernel
set_option maxRecDepth 100000 in
theorem dk_Mo_nearOf_0 : ckD prog_14_method_41_code k_Mo_nearOf_0 = true := by decide +kernel
set_option maxRecDepth 100000 in
theorem dk_Mo_nearOf_1 : ckD prog_14_method_41_code k_Mo_nearOf_1 = true := by decide +kernel
theorem dk_Mo_nearOf : ckD prog_14_method_41_code k_Mo_nearOf = true := ckD_app dk_Mo_nearOf_0 (dk_Mo_nearOf_1)
set_option maxRecDepth 100000 in
theorem dk_Mo_turnsThen_0 : ckD prog_14_method_44_code k_Mo_turnsThen_0 = true := by decide +kernel
set_option maxRecDepth 100000 in
theorem dk_Mo_turnsThen_1 : ckD prog_14_method_44_code k_Mo_turnsThen_1 = true := by decide +kernel
theorem dk_Mo_turnsThen : ckD prog_14_method_44_code k_Mo_turnsThen = true := ckD_app dk_Mo_turnsThen_0 (dk_Mo_turnsThen_1)
set_option maxRecDepth 100000 in
theorem dk_Room_hasTenant : ckD prog_8_method_6_code k_Room_hasTenant = true := by decide +kernel
set_option maxRecDepth 100000 in
theorem dk_Stp_isGoing_0 : ckD prog_10_method_7_code k_Stp_isGoing_0 = true := by decide +kernel
set_option maxRecDepth 100000 in
theorem dk_Stp_isGoing_1 : ckD prog_10_method_7_code k_Stp_isGoing_1 = true := by decide +kernel
set_option maxRecDepth 100000 in
theorem dk_Stp_isGoing_2 : ckD prog_10_method_7_code k_Stp_isGoing_2 = true := by decide +kernel
theorem dk_Stp_isGoing : ckD prog_10_method_7_code k_Stp_isGoing = true := ckD_app dk_Stp_isGoing_0 (ckD_app dk_Stp_isGoing_1 (dk_Stp_isGoing_2))
set_option maxRecDepth 100000 in
theorem dk_Mo_isTenant : ckD prog_14_method_37_code k_Mo_isTenant = true := by decide +kernel
set_option maxRecDepth 100000 in
theorem dk_Mo_goesBy_0 : ckD prog_14_method_45_code k_Mo_goesBy_0 = true := by decide +kernel
set_option maxRecDepth 100000 in
theorem dk_Mo_goesBy_1 : ckD prog_14_method_45_code k_Mo_goesBy_1 = true := by decide +kernel
theorem dk_Mo_goesBy : ckD prog_14_method_45_code k_Mo_goesBy = true := ckD_app dk_Mo_goesBy_0 (dk_Mo_goesBy_1)
set_option maxRecDepth 100000 in
theorem dk_RW_doneAlone : ckD prog_1_method_20_code k_RW_doneAlone = true := by decide +kernel
set_option maxRecDepth 100000 in
theorem dk_Mo_isBlind : ckD prog_14_method_39_code k_Mo_isBlind = true := by decide +kernel
set_option maxRecDepth 100000 in
theorem dk_Mo_keeps : ckD prog_14_method_52_code k_Mo_keeps = true := by decide +kernel
set_option maxRecDepth 100000 in
theorem dk_Mo_goesNight : ckD prog_14_method_55_code k_Mo_goesNight = true := by decide +kernel
set_option maxRecDepth 100000 in
theorem dk_Mo_notes_0 : ckD prog_14_method_54_code k_Mo_notes_0 = true := by decide +kernel
set_option maxRecDepth 100000 in
theorem dk_Mo_notes_1 : ckD prog_14_method_54_code k_Mo_notes_1 = true := by decide +kernel
theorem dk_Mo_notes : ckD prog_14_method_54_code k_Mo_notes = true := ckD_app dk_Mo_notes_0 (dk_Mo_notes_1)
set_option maxRecDepth 100000 in
theorem dk_RW_isBlind : ckD prog_1_method_25_code k_RW_isBlind = true := by decide +kernel
set_option maxRecDepth 100000 in
theorem dk_Past_keep : ckD prog_6_method_3_code k_Past_keep = true := by decide +kernel
set_option maxRecDepth 100000 in
theorem dk_RW_passNight : ckD prog_1_method_24_code k_RW_passNight = true := by decide +kernel
set_option maxRecDepth 100000 in
theorem dk_Mo_whyLet : ckD prog_14_method_56_code k_Mo_whyLet = true := by decide +kernel
set_option maxRecDepth 100000 in
theorem dk_Mo_bitsOf : ckD prog_14_method_40_code k_Mo_bitsOf = true := by decide +kernel
set_option maxRecDepth 100000 in
theorem dk_Past_bringBack : ckD prog_6_method_4_code k_Past_bringBack = true := by decide +kernel
set_option maxRecDepth 100000 in
theorem dk_RW_isTray : ckD prog_1_method_65_code k_RW_isTray = true := by decide +kernel
set_option maxRecDepth 100000 in
theorem dk_Mom_copy : ckD prog_5_method_3_code k_Mom_copy = true := by decide +kernel
set_option maxRecDepth 100000 in
theorem dk_RW_doTray : ckD prog_1_method_21_code k_RW_doTray = true := by decide +kernel
set_option maxRecDepth 100000 in
theorem dk_Tray_at : ckD prog_12_method_4_code k_Tray_at = true := by decide +kernel
set_option maxRecDepth 100000 in
theorem dk_RW_doDeed : ckD prog_1_method_22_code k_RW_doDeed = true := by decide +kernel
set_option maxRecDepth 100000 in
theorem dk_Mo_noTray : ckD prog_14_method_66_code k_Mo_noTray = true := by decide +kernel
set_option maxRecDepth 100000 in
theorem dk_Mo_tells : ckD prog_14_method_65_code k_Mo_tells = true := by decide +kernel
set_option maxRecDepth 100000 in
theorem dk_Mo_isAgain : ckD prog_14_method_53_code k_Mo_isAgain = true := by decide +kernel
set_option maxRecDepth 100000 in
theorem dk_Mo_toldWho : ckD prog_14_method_67_code k_Mo_toldWho = true := by decide +kernel
set_option maxRecDepth 100000 in
theorem dk_RW_drawn : ckD prog_1_method_18_code k_RW_drawn = true := by decide +kernel
set_option maxRecDepth 100000 in
theorem dk_RW_seasonDeed : ckD prog_1_method_19_code k_RW_seasonDeed = true := by decide +kernel
set_option maxRecDepth 100000 in
theorem dk_Mo_drawn : ckD prog_14_method_71_code k_Mo_drawn = true := by decide +kernel
set_option maxRecDepth 100000 in
theorem dk_Mo_whyNot : ckD prog_14_method_63_code k_Mo_whyNot = true := by decide +kernel
set_option maxRecDepth 100000 in
theorem dk_Mo_does : ckD prog_14_method_64_code k_Mo_does = true := by decide +kernel
set_option maxRecDepth 100000 in
theorem dk_RW_here : ckD prog_1_method_28_code k_RW_here = true := by decide +kernel
set_option maxRecDepth 100000 in
theorem dk_Rch_walk : ckD prog_7_method_8_code k_Rch_walk = true := by decide +kernel
set_option maxRecDepth 100000 in
theorem dk_Rch_placeBehind : ckD prog_7_method_9_code k_Rch_placeBehind = true := by decide +kernel
set_option maxRecDepth 100000 in
theorem dk_Mo_laysRound : ckD prog_14_method_73_code k_Mo_laysRound = true := by decide +kernel
set_option maxRecDepth 100000 in
theorem dk_Rch_mostTurned : ckD prog_7_method_10_code k_Rch_mostTurned = true := by decide +kernel
set_option maxRecDepth 100000 in
theorem dk_Rch_firstEmpty : ckD prog_7_method_11_code k_Rch_firstEmpty = true := by decide +kernel
set_option maxRecDepth 100000 in
theorem dk_Rch_explore_0 : ckD prog_7_method_4_code k_Rch_explore_0 = true := by decide +kernel
set_option maxRecDepth 100000 in
theorem dk_Rch_explore_1 : ckD prog_7_method_4_code k_Rch_explore_1 = true := by decide +kernel
theorem dk_Rch_explore : ckD prog_7_method_4_code k_Rch_explore = true := ckD_app dk_Rch_explore_0 (dk_Rch_explore_1)
set_option maxRecDepth 100000 in
theorem dk_Con_settle_0 : ckD prog_2_method_3_code k_Con_settle_0 = true := by decide +kernel
set_option maxRecDepth 100000 in
theorem dk_Con_settle_1 : ckD prog_2_method_3_code k_Con_settle_1 = true := by decide +kernel
theorem dk_Con_settle : ckD prog_2_method_3_code k_Con_settle = true := ckD_app dk_Con_settle_0 (dk_Con_settle_1)
set_option maxRecDepth 100000 in
theorem dk_Con_level : ckD prog_2_method_2_code k_Con_level = true := by decide +kernel
set_option maxRecDepth 100000 in
theorem dk_Mo_laysStays_0 : ckD prog_14_method_78_code k_Mo_laysStays_0 = true := by decide +kernel
set_option maxRecDepth 100000 in
theorem dk_Mo_laysStays_1 : ckD prog_14_method_78_code k_Mo_laysStays_1 = true := by decide +kernel
theorem dk_Mo_laysStays : ckD prog_14_method_78_code k_Mo_laysStays = true := ckD_app dk_Mo_laysStays_0 (dk_Mo_laysStays_1)
set_option maxRecDepth 100000 in
theorem dk_Con_stayBlind_0 : ckD prog_2_method_7_code k_Con_stayBlind_0 = true := by decide +kernel
set_option maxRecDepth 100000 in
theorem dk_Con_stayBlind_1 : ckD prog_2_method_7_code k_Con_stayBlind_1 = true := by decide +kernel
theorem dk_Con_stayBlind : ckD prog_2_method_7_code k_Con_stayBlind = true := ckD_app dk_Con_stayBlind_0 (dk_Con_stayBlind_1)
set_option maxRecDepth 100000 in
theorem dk_Mo_standNow : ckD prog_14_method_49_code k_Mo_standNow = true := by decide +kernel
set_option maxRecDepth 100000 in
theorem dk_Rch_depth : ckD prog_7_method_6_code k_Rch_depth = true := by decide +kernel
set_option maxRecDepth 100000 in
theorem dk_Mo_laysFar_0 : ckD prog_14_method_83_code k_Mo_laysFar_0 = true := by decide +kernel
set_option maxRecDepth 100000 in
theorem dk_Mo_laysFar_1 : ckD prog_14_method_83_code k_Mo_laysFar_1 = true := by decide +kernel
theorem dk_Mo_laysFar : ckD prog_14_method_83_code k_Mo_laysFar = true := ckD_app dk_Mo_laysFar_0 (dk_Mo_laysFar_1)
set_option maxRecDepth 100000 in
theorem dk_Mo_toldFar : ckD prog_14_method_84_code k_Mo_toldFar = true := by decide +kernel
set_option maxRecDepth 100000 in
theorem dk_Rch_blindTo : ckD prog_7_method_7_code k_Rch_blindTo = true := by decide +kernel
set_option maxRecDepth 100000 in
theorem dk_Mo_blindAt : ckD prog_14_method_85_code k_Mo_blindAt = true := by decide +kernel
set_option maxRecDepth 100000 in
theorem dk_Mo_laysForced_0 : ckD prog_14_method_90_code k_Mo_laysForced_0 = true := by decide +kernel
set_option maxRecDepth 100000 in
theorem dk_Mo_laysForced_1 : ckD prog_14_method_90_code k_Mo_laysForced_1 = true := by decide +kernel
theorem dk_Mo_laysForced : ckD prog_14_method_90_code k_Mo_laysForced = true := ckD_app dk_Mo_laysForced_0 (dk_Mo_laysForced_1)
set_option maxRecDepth 100000 in
theorem dk_Con_forcingBlind : ckD prog_2_method_8_code k_Con_forcingBlind = true := by decide +kernel
set_option maxRecDepth 100000 in
theorem dk_Room_hasWall : ckD prog_8_method_8_code k_Room_hasWall = true := by decide +kernel
set_option maxRecDepth 100000 in
theorem dk_Mo_isWall : ckD prog_14_method_38_code k_Mo_isWall = true := by decide +kernel
set_option maxRecDepth 100000 in
theorem dk_Rch_differentWalls : ckD prog_7_method_12_code k_Rch_differentWalls = true := by decide +kernel
set_option maxRecDepth 100000 in
theorem dk_Mo_beginsMany : ckD prog_14_method_96_code k_Mo_beginsMany = true := by decide +kernel
set_option maxRecDepth 100000 in
theorem dk_Mo_standOf : ckD prog_14_method_47_code k_Mo_standOf = true := by decide +kernel
set_option maxRecDepth 100000 in
theorem dk_Stp_tune : ckD prog_10_method_3_code k_Stp_tune = true := by decide +kernel
set_option maxRecDepth 100000 in
theorem dk_Stp_comingTo : ckD prog_10_method_8_code k_Stp_comingTo = true := by decide +kernel
set_option maxRecDepth 100000 in
theorem dk_Mo_laysFrom : ckD prog_14_method_100_code k_Mo_laysFrom = true := by decide +kernel
set_option maxRecDepth 100000 in
theorem dk_Stp_comingOfNone : ckD prog_10_method_9_code k_Stp_comingOfNone = true := by decide +kernel
set_option maxRecDepth 100000 in
theorem dk_Mo_noSo : ckD prog_14_method_99_code k_Mo_noSo = true := by decide +kernel
set_option maxRecDepth 100000 in
theorem dk_Mo_roses : ckD prog_14_method_35_code k_Mo_roses = true := by decide +kernel
set_option maxRecDepth 100000 in
theorem dk_Stp_stayingSame : ckD prog_10_method_10_code k_Stp_stayingSame = true := by decide +kernel
set_option maxRecDepth 100000 in
theorem dk_Mo_wallThen : ckD prog_14_method_46_code k_Mo_wallThen = true := by decide +kernel
set_option maxRecDepth 100000 in
theorem dk_Rch_rowsTo : ckD prog_7_method_13_code k_Rch_rowsTo = true := by decide +kernel
set_option maxRecDepth 100000 in
theorem dk_Mo_goesMany_0 : ckD prog_14_method_97_code k_Mo_goesMany_0 = true := by decide +kernel
set_option maxRecDepth 100000 in
theorem dk_Mo_goesMany_1 : ckD prog_14_method_97_code k_Mo_goesMany_1 = true := by decide +kernel
theorem dk_Mo_goesMany : ckD prog_14_method_97_code k_Mo_goesMany = true := ckD_app dk_Mo_goesMany_0 (dk_Mo_goesMany_1)
set_option maxRecDepth 100000 in
theorem dk_RW_refusedSeen_0 : ckD prog_1_method_49_code k_RW_refusedSeen_0 = true := by decide +kernel
set_option maxRecDepth 100000 in
theorem dk_RW_refusedSeen_1 : ckD prog_1_method_49_code k_RW_refusedSeen_1 = true := by decide +kernel
theorem dk_RW_refusedSeen : ckD prog_1_method_49_code k_RW_refusedSeen = true := ckD_app dk_RW_refusedSeen_0 (dk_RW_refusedSeen_1)
set_option maxRecDepth 100000 in
theorem dk_RW_rowsSeen : ckD prog_1_method_51_code k_RW_rowsSeen = true := by decide +kernel
set_option maxRecDepth 100000 in
theorem dk_Mo_noSeen : ckD prog_14_method_105_code k_Mo_noSeen = true := by decide +kernel
set_option maxRecDepth 100000 in
theorem dk_Mo_laysThen : ckD prog_14_method_76_code k_Mo_laysThen = true := by decide +kernel
set_option maxRecDepth 100000 in
theorem dk_Mo_isRow : ckD prog_14_method_108_code k_Mo_isRow = true := by decide +kernel
set_option maxRecDepth 100000 in
theorem dk_RW_isFirstBlind : ckD prog_1_method_45_code k_RW_isFirstBlind = true := by decide +kernel
set_option maxRecDepth 100000 in
theorem dk_Stp_next : ckD prog_10_method_4_code k_Stp_next = true := by decide +kernel
set_option maxRecDepth 100000 in
theorem dk_Mo_blindIn : ckD prog_14_method_107_code k_Mo_blindIn = true := by decide +kernel
set_option maxRecDepth 100000 in
theorem dk_RW_placeOf : ckD prog_1_method_69_code k_RW_placeOf = true := by decide +kernel
set_option maxRecDepth 100000 in
theorem dk_RW_refusedTempers : ckD prog_1_method_50_code k_RW_refusedTempers = true := by decide +kernel
set_option maxRecDepth 100000 in
theorem dk_RW_tempersSeen : ckD prog_1_method_52_code k_RW_tempersSeen = true := by decide +kernel
set_option maxRecDepth 100000 in
theorem dk_Mo_noBlinds : ckD prog_14_method_112_code k_Mo_noBlinds = true := by decide +kernel
set_option maxRecDepth 100000 in
theorem dk_Mo_tempersOf_0 : ckD prog_14_method_113_code k_Mo_tempersOf_0 = true := by decide +kernel
set_option maxRecDepth 100000 in
theorem dk_Mo_tempersOf_1 : ckD prog_14_method_113_code k_Mo_tempersOf_1 = true := by decide +kernel
theorem dk_Mo_tempersOf : ckD prog_14_method_113_code k_Mo_tempersOf = true := ckD_app dk_Mo_tempersOf_0 (dk_Mo_tempersOf_1)
set_option maxRecDepth 100000 in
theorem dk_RW_mostAlike : ckD prog_1_method_54_code k_RW_mostAlike = true := by decide +kernel
set_option maxRecDepth 100000 in
theorem dk_Mo_mostAlike_0 : ckD prog_14_method_115_code k_Mo_mostAlike_0 = true := by decide +kernel
set_option maxRecDepth 100000 in
theorem dk_Mo_mostAlike_1 : ckD prog_14_method_115_code k_Mo_mostAlike_1 = true := by decide +kernel
theorem dk_Mo_mostAlike : ckD prog_14_method_115_code k_Mo_mostAlike = true := ckD_app dk_Mo_mostAlike_0 (dk_Mo_mostAlike_1)
set_option maxRecDepth 100000 in
theorem dk_RW_share_0 : ckD prog_1_method_59_code k_RW_share_0 = true := by decide +kernel
set_option maxRecDepth 100000 in
theorem dk_RW_share_1 : ckD prog_1_method_59_code k_RW_share_1 = true := by decide +kernel
theorem dk_RW_share : ckD prog_1_method_59_code k_RW_share = true := ckD_app dk_RW_share_0 (dk_RW_share_1)
set_option maxRecDepth 100000 in
theorem dk_RW_powerOfTen : ckD prog_1_method_60_code k_RW_powerOfTen = true := by decide +kernel
set_option maxRecDepth 100000 in
theorem dk_RW_commonDivisor : ckD prog_1_method_61_code k_RW_commonDivisor = true := by decide +kernel
set_option maxRecDepth 100000 in
theorem dk_Mo_chanceOf : ckD prog_14_method_118_code k_Mo_chanceOf = true := by decide +kernel
set_option maxRecDepth 100000 in
theorem dk_Mo_wholeOf : ckD prog_14_method_117_code k_Mo_wholeOf = true := by decide +kernel
set_option maxRecDepth 100000 in
theorem dk_Mo_common : ckD prog_14_method_119_code k_Mo_common = true := by decide +kernel
set_option maxRecDepth 100000 in
theorem dk_Tray_begin : ckD prog_12_method_2_code k_Tray_begin = true := by decide +kernel
set_option maxRecDepth 100000 in
theorem dk_Tray_put : ckD prog_12_method_3_code k_Tray_put = true := by decide +kernel
set_option maxRecDepth 100000 in
theorem dk_Mo_cut : ckD prog_14_method_123_code k_Mo_cut = true := by decide +kernel
set_option maxRecDepth 100000 in
theorem dk_Mo_standThen : ckD prog_14_method_48_code k_Mo_standThen = true := by decide +kernel
set_option maxRecDepth 100000 in
theorem dk_LR_init : ckD prog_4_method_1_code k_LR_init = true := by decide +kernel
set_option maxRecDepth 100000 in
theorem dk_Lw_init : ckD prog_3_method_1_code k_Lw_init = true := by decide +kernel
set_option maxRecDepth 100000 in
theorem dk_Room_clear : ckD prog_8_method_2_code k_Room_clear = true := by decide +kernel
set_option maxRecDepth 100000 in
theorem dk_Arr_fillJ : ckD prog_21_method_101_code k_Arr_fillJ = true := by decide +kernel
set_option maxRecDepth 100000 in
theorem dk_Mat_min : ckD prog_17_method_69_code k_Mat_min = true := by decide +kernel
set_option maxRecDepth 100000 in
theorem dk_Mat_max : ckD prog_17_method_65_code k_Mat_max = true := by decide +kernel
set_option maxRecDepth 100000 in
theorem dk_Tok_splitNext_0 : ckD prog_11_method_4_code k_Tok_splitNext_0 = true := by decide +kernel
set_option maxRecDepth 100000 in
theorem dk_Tok_splitNext_1 : ckD prog_11_method_4_code k_Tok_splitNext_1 = true := by decide +kernel
set_option maxRecDepth 100000 in
theorem dk_Tok_splitNext_2 : ckD prog_11_method_4_code k_Tok_splitNext_2 = true := by decide +kernel
theorem dk_Tok_splitNext : ckD prog_11_method_4_code k_Tok_splitNext = true := ckD_app dk_Tok_splitNext_0 (ckD_app dk_Tok_splitNext_1 (dk_Tok_splitNext_2))
set_option maxRecDepth 100000 in
theorem dk_Tok_readNumber : ckD prog_11_method_5_code k_Tok_readNumber = true := by decide +kernel
set_option maxRecDepth 100000 in
theorem dk_Tok_advance : ckD prog_11_method_3_code k_Tok_advance = true := by decide +kernel
set_option maxRecDepth 100000 in
theorem dk_RR_readWall : ckD prog_9_method_3_code k_RR_readWall = true := by decide +kernel
set_option maxRecDepth 100000 in
theorem dk_RR_readLine_0 : ckD prog_9_method_4_code k_RR_readLine_0 = true := by decide +kernel
set_option maxRecDepth 100000 in
theorem dk_RR_readLine_1 : ckD prog_9_method_4_code k_RR_readLine_1 = true := by decide +kernel
theorem dk_RR_readLine : ckD prog_9_method_4_code k_RR_readLine = true := ckD_app dk_RR_readLine_0 (dk_RR_readLine_1)
set_option maxRecDepth 100000 in
theorem dk_Tok_pass : ckD prog_11_method_11_code k_Tok_pass = true := by decide +kernel
set_option maxRecDepth 100000 in
theorem dk_Mo_see : ckD prog_14_method_6_code k_Mo_see = true := by decide +kernel
set_option maxRecDepth 100000 in
theorem dk_Mo_isSmall : ckD prog_14_method_7_code k_Mo_isSmall = true := by decide +kernel
set_option maxRecDepth 100000 in
theorem dk_Mo_keyAt_0 : ckD prog_14_method_9_code k_Mo_keyAt_0 = true := by decide +kernel
set_option maxRecDepth 100000 in
theorem dk_Mo_keyAt_1 : ckD prog_14_method_9_code k_Mo_keyAt_1 = true := by decide +kernel
theorem dk_Mo_keyAt : ckD prog_14_method_9_code k_Mo_keyAt = true := ckD_app dk_Mo_keyAt_0 (dk_Mo_keyAt_1)
set_option maxRecDepth 100000 in
theorem dk_Mo_isDigit : ckD prog_14_method_8_code k_Mo_isDigit = true := by decide +kernel
set_option maxRecDepth 100000 in
theorem dk_Str_length : ckD prog_18_method_54_code k_Str_length = true := by decide +kernel
set_option maxRecDepth 100000 in
theorem dk_Str_charAt : ckD prog_18_method_56_code k_Str_charAt = true := by decide +kernel
set_option maxRecDepth 100000 in
theorem dk_Mo_is : ckD prog_14_method_12_code k_Mo_is = true := by decide +kernel
set_option maxRecDepth 100000 in
theorem dk_Mo_readRow : ckD prog_14_method_26_code k_Mo_readRow = true := by decide +kernel
set_option maxRecDepth 100000 in
theorem dk_Mo_readTenant : ckD prog_14_method_27_code k_Mo_readTenant = true := by decide +kernel
set_option maxRecDepth 100000 in
theorem dk_Mo_readRose : ckD prog_14_method_28_code k_Mo_readRose = true := by decide +kernel
set_option maxRecDepth 100000 in
theorem dk_Mo_readFace : ckD prog_14_method_29_code k_Mo_readFace = true := by decide +kernel
set_option maxRecDepth 100000 in
theorem dk_Mo_readLaw : ckD prog_14_method_30_code k_Mo_readLaw = true := by decide +kernel
set_option maxRecDepth 100000 in
theorem dk_Stp_learnTurning_0 : ckD prog_10_method_6_code k_Stp_learnTurning_0 = true := by decide +kernel
set_option maxRecDepth 100000 in
theorem dk_Stp_learnTurning_1 : ckD prog_10_method_6_code k_Stp_learnTurning_1 = true := by decide +kernel
set_option maxRecDepth 100000 in
theorem dk_Stp_learnTurning_2 : ckD prog_10_method_6_code k_Stp_learnTurning_2 = true := by decide +kernel
theorem dk_Stp_learnTurning : ckD prog_10_method_6_code k_Stp_learnTurning = true := ckD_app dk_Stp_learnTurning_0 (ckD_app dk_Stp_learnTurning_1 (dk_Stp_learnTurning_2))
set_option maxRecDepth 100000 in
theorem dk_Mo_isIn : ckD prog_14_method_15_code k_Mo_isIn = true := by decide +kernel
set_option maxRecDepth 100000 in
theorem dk_Mo_reckons_0 : ckD prog_14_method_43_code k_Mo_reckons_0 = true := by decide +kernel
set_option maxRecDepth 100000 in
theorem dk_Mo_reckons_1 : ckD prog_14_method_43_code k_Mo_reckons_1 = true := by decide +kernel
theorem dk_Mo_reckons : ckD prog_14_method_43_code k_Mo_reckons = true := ckD_app dk_Mo_reckons_0 (dk_Mo_reckons_1)
set_option maxRecDepth 100000 in
theorem dk_Lw_isTold : ckD prog_3_method_4_code k_Lw_isTold = true := by decide +kernel
set_option maxRecDepth 100000 in
theorem dk_Lw_holds_0 : ckD prog_3_method_5_code k_Lw_holds_0 = true := by decide +kernel
set_option maxRecDepth 100000 in
theorem dk_Lw_holds_1 : ckD prog_3_method_5_code k_Lw_holds_1 = true := by decide +kernel
theorem dk_Lw_holds : ckD prog_3_method_5_code k_Lw_holds = true := ckD_app dk_Lw_holds_0 (dk_Lw_holds_1)
set_option maxRecDepth 100000 in
theorem dk_Mom_goTo : ckD prog_5_method_5_code k_Mom_goTo = true := by decide +kernel
set_option maxRecDepth 100000 in
theorem dk_Mat_floorMod : ckD prog_17_method_50_code k_Mat_floorMod = true := by decide +kernel
set_option maxRecDepth 100000 in
theorem dk_RW_doLet : ckD prog_1_method_23_code k_RW_doLet = true := by decide +kernel
set_option maxRecDepth 100000 in
theorem dk_Mo_draw : ckD prog_14_method_70_code k_Mo_draw = true := by decide +kernel
set_option maxRecDepth 100000 in
theorem dk_Rch_nodeOf : ckD prog_7_method_2_code k_Rch_nodeOf = true := by decide +kernel
set_option maxRecDepth 100000 in
theorem dk_Rch_add : ckD prog_7_method_3_code k_Rch_add = true := by decide +kernel
set_option maxRecDepth 100000 in
theorem dk_Rch_isGoal : ckD prog_7_method_5_code k_Rch_isGoal = true := by decide +kernel
set_option maxRecDepth 100000 in
theorem dk_Con_begin_0 : ckD prog_2_method_4_code k_Con_begin_0 = true := by decide +kernel
set_option maxRecDepth 100000 in
theorem dk_Con_begin_1 : ckD prog_2_method_4_code k_Con_begin_1 = true := by decide +kernel
theorem dk_Con_begin : ckD prog_2_method_4_code k_Con_begin = true := ckD_app dk_Con_begin_0 (dk_Con_begin_1)
set_option maxRecDepth 100000 in
theorem dk_Con_leadOut : ckD prog_2_method_6_code k_Con_leadOut = true := by decide +kernel
set_option maxRecDepth 100000 in
theorem dk_Mo_isGone : ckD prog_14_method_77_code k_Mo_isGone = true := by decide +kernel
set_option maxRecDepth 100000 in
theorem dk_Mo_isSought : ckD prog_14_method_81_code k_Mo_isSought = true := by decide +kernel
set_option maxRecDepth 100000 in
theorem dk_Mo_leastBy : ckD prog_14_method_82_code k_Mo_leastBy = true := by decide +kernel
set_option maxRecDepth 100000 in
theorem dk_Mo_herBy : ckD prog_14_method_89_code k_Mo_herBy = true := by decide +kernel
set_option maxRecDepth 100000 in
theorem dk_Mo_mostBy : ckD prog_14_method_88_code k_Mo_mostBy = true := by decide +kernel
set_option maxRecDepth 100000 in
theorem dk_Room_fullWall : ckD prog_8_method_7_code k_Room_fullWall = true := by decide +kernel
set_option maxRecDepth 100000 in
theorem dk_Arr_fillI : ckD prog_21_method_103_code k_Arr_fillI = true := by decide +kernel
set_option maxRecDepth 100000 in
theorem dk_Rch_spreadWays : ckD prog_7_method_14_code k_Rch_spreadWays = true := by decide +kernel
set_option maxRecDepth 100000 in
theorem dk_Tray_fits : ckD prog_12_method_5_code k_Tray_fits = true := by decide +kernel
set_option maxRecDepth 100000 in
theorem dk_Mo_isSeen : ckD prog_14_method_106_code k_Mo_isSeen = true := by decide +kernel
set_option maxRecDepth 100000 in
theorem dk_RW_isTemperSeen : ckD prog_1_method_53_code k_RW_isTemperSeen = true := by decide +kernel
set_option maxRecDepth 100000 in
theorem dk_RW_alike : ckD prog_1_method_55_code k_RW_alike = true := by decide +kernel
set_option maxRecDepth 100000 in
theorem dk_Lw_clear : ckD prog_3_method_2_code k_Lw_clear = true := by decide +kernel
set_option maxRecDepth 100000 in
theorem dk_Room_shape : ckD prog_8_method_3_code k_Room_shape = true := by decide +kernel
set_option maxRecDepth 100000 in
theorem dk_Tok_isDigit : ckD prog_11_method_9_code k_Tok_isDigit = true := by decide +kernel
set_option maxRecDepth 100000 in
theorem dk_Tok_isLetter : ckD prog_11_method_10_code k_Tok_isLetter = true := by decide +kernel
set_option maxRecDepth 100000 in
theorem dk_Tok_kindOfWord_0 : ckD prog_11_method_6_code k_Tok_kindOfWord_0 = true := by decide +kernel
set_option maxRecDepth 100000 in
theorem dk_Tok_kindOfWord_1 : ckD prog_11_method_6_code k_Tok_kindOfWord_1 = true := by decide +kernel
theorem dk_Tok_kindOfWord : ckD prog_11_method_6_code k_Tok_kindOfWord = true := ckD_app dk_Tok_kindOfWord_0 (dk_Tok_kindOfWord_1)
set_option maxRecDepth 100000 in
theorem dk_Str_indexOf : ckD prog_18_method_79_code k_Str_indexOf = true := by decide +kernel
set_option maxRecDepth 100000 in
theorem dk_Tok_passNumber : ckD prog_11_method_12_code k_Tok_passNumber = true := by decide +kernel
set_option maxRecDepth 100000 in
theorem dk_Tok_refuse : ckD prog_11_method_13_code k_Tok_refuse = true := by decide +kernel
set_option maxRecDepth 100000 in
theorem dk_RR_isLine : ckD prog_9_method_5_code k_RR_isLine = true := by decide +kernel
set_option maxRecDepth 100000 in
theorem dk_RR_readKinds : ckD prog_9_method_6_code k_RR_readKinds = true := by decide +kernel
set_option maxRecDepth 100000 in
theorem dk_RR_readTenant : ckD prog_9_method_7_code k_RR_readTenant = true := by decide +kernel
set_option maxRecDepth 100000 in
theorem dk_RR_readFace : ckD prog_9_method_8_code k_RR_readFace = true := by decide +kernel
set_option maxRecDepth 100000 in
theorem dk_LR_readLaw : ckD prog_4_method_2_code k_LR_readLaw = true := by decide +kernel
set_option maxRecDepth 100000 in
theorem dk_RR_readOne : ckD prog_9_method_9_code k_RR_readOne = true := by decide +kernel
set_option maxRecDepth 100000 in
theorem dk_Str_coder : ckD prog_18_method_152_code k_Str_coder = true := by decide +kernel
set_option maxRecDepth 100000 in
theorem dk_Str_isLatin1 : ckD prog_18_method_154_code k_Str_isLatin1 = true := by decide +kernel
set_option maxRecDepth 100000 in
theorem dk_Lat_charAt : ckD prog_19_method_2_code k_Lat_charAt = true := by decide +kernel
set_option maxRecDepth 100000 in
theorem dk_Mo_readTruth : ckD prog_14_method_25_code k_Mo_readTruth = true := by decide +kernel
set_option maxRecDepth 100000 in
theorem dk_Mo_between_0 : ckD prog_14_method_42_code k_Mo_between_0 = true := by decide +kernel
set_option maxRecDepth 100000 in
theorem dk_Mo_between_1 : ckD prog_14_method_42_code k_Mo_between_1 = true := by decide +kernel
theorem dk_Mo_between : ckD prog_14_method_42_code k_Mo_between = true := ckD_app dk_Mo_between_0 (dk_Mo_between_1)
set_option maxRecDepth 100000 in
theorem dk_Lw_joined_0 : ckD prog_3_method_6_code k_Lw_joined_0 = true := by decide +kernel
set_option maxRecDepth 100000 in
theorem dk_Lw_joined_1 : ckD prog_3_method_6_code k_Lw_joined_1 = true := by decide +kernel
theorem dk_Lw_joined : ckD prog_3_method_6_code k_Lw_joined = true := ckD_app dk_Lw_joined_0 (dk_Lw_joined_1)
set_option maxRecDepth 100000 in
theorem dk_Con_addEdge : ckD prog_2_method_5_code k_Con_addEdge = true := by decide +kernel
set_option maxRecDepth 100000 in
theorem dk_Room_neighbours : ckD prog_8_method_4_code k_Room_neighbours = true := by decide +kernel
set_option maxRecDepth 100000 in
theorem dk_Tok_isWord : ckD prog_11_method_8_code k_Tok_isWord = true := by decide +kernel
set_option maxRecDepth 100000 in
theorem dk_Tok_kindOfFour_0 : ckD prog_11_method_7_code k_Tok_kindOfFour_0 = true := by decide +kernel
set_option maxRecDepth 100000 in
theorem dk_Tok_kindOfFour_1 : ckD prog_11_method_7_code k_Tok_kindOfFour_1 = true := by decide +kernel
theorem dk_Tok_kindOfFour : ckD prog_11_method_7_code k_Tok_kindOfFour = true := ckD_app dk_Tok_kindOfFour_0 (dk_Tok_kindOfFour_1)
set_option maxRecDepth 100000 in
theorem dk_Str_indexOf2 : ckD prog_18_method_80_code k_Str_indexOf2 = true := by decide +kernel
set_option maxRecDepth 100000 in
theorem dk_LR_readTruth : ckD prog_4_method_3_code k_LR_readTruth = true := by decide +kernel
set_option maxRecDepth 100000 in
theorem dk_RR_highest : ckD prog_9_method_10_code k_RR_highest = true := by decide +kernel
set_option maxRecDepth 100000 in
theorem dk_Str_checkIndex : ckD prog_18_method_155_code k_Str_checkIndex = true := by decide +kernel
set_option maxRecDepth 100000 in
theorem dk_Mo_readBoth : ckD prog_14_method_24_code k_Mo_readBoth = true := by decide +kernel
set_option maxRecDepth 100000 in
theorem dk_Mo_codes : ckD prog_14_method_18_code k_Mo_codes = true := by decide +kernel
set_option maxRecDepth 100000 in
theorem dk_Mat_abs : ckD prog_17_method_59_code k_Mat_abs = true := by decide +kernel
set_option maxRecDepth 100000 in
theorem dk_Lat_indexOf : ckD prog_19_method_22_code k_Lat_indexOf = true := by decide +kernel
set_option maxRecDepth 100000 in
theorem dk_LR_readBoth : ckD prog_4_method_4_code k_LR_readBoth = true := by decide +kernel
set_option maxRecDepth 100000 in
theorem dk_Lw_add : ckD prog_3_method_3_code k_Lw_add = true := by decide +kernel
set_option maxRecDepth 100000 in
theorem dk_Pre_checkIndex : ckD prog_22_method_11_code k_Pre_checkIndex = true := by decide +kernel
set_option maxRecDepth 100000 in
theorem dk_Mo_readUnit_0 : ckD prog_14_method_23_code k_Mo_readUnit_0 = true := by decide +kernel
set_option maxRecDepth 100000 in
theorem dk_Mo_readUnit_1 : ckD prog_14_method_23_code k_Mo_readUnit_1 = true := by decide +kernel
theorem dk_Mo_readUnit : ckD prog_14_method_23_code k_Mo_readUnit = true := ckD_app dk_Mo_readUnit_0 (dk_Mo_readUnit_1)
set_option maxRecDepth 100000 in
theorem dk_Lat_canEncode : ckD prog_19_method_4_code k_Lat_canEncode = true := by decide +kernel
set_option maxRecDepth 100000 in
theorem dk_Lat_indexOfChar : ckD prog_19_method_23_code k_Lat_indexOfChar = true := by decide +kernel
set_option maxRecDepth 100000 in
theorem dk_LR_readUnit_0 : ckD prog_4_method_5_code k_LR_readUnit_0 = true := by decide +kernel
set_option maxRecDepth 100000 in
theorem dk_LR_readUnit_1 : ckD prog_4_method_5_code k_LR_readUnit_1 = true := by decide +kernel
theorem dk_LR_readUnit : ckD prog_4_method_5_code k_LR_readUnit = true := ckD_app dk_LR_readUnit_0 (dk_LR_readUnit_1)
set_option maxRecDepth 100000 in
theorem dk_Mo_goesIn : ckD prog_14_method_19_code k_Mo_goesIn = true := by decide +kernel
set_option maxRecDepth 100000 in
theorem dk_Mo_readSum : ckD prog_14_method_22_code k_Mo_readSum = true := by decide +kernel
set_option maxRecDepth 100000 in
theorem dk_LR_enter : ckD prog_4_method_6_code k_LR_enter = true := by decide +kernel
set_option maxRecDepth 100000 in
theorem dk_LR_readSum : ckD prog_4_method_7_code k_LR_readSum = true := by decide +kernel
set_option maxRecDepth 100000 in
theorem dk_Mo_readTerm : ckD prog_14_method_21_code k_Mo_readTerm = true := by decide +kernel
set_option maxRecDepth 100000 in
theorem dk_LR_readTerm : ckD prog_4_method_8_code k_LR_readTerm = true := by decide +kernel
set_option maxRecDepth 100000 in
theorem dk_Mo_readAtom : ckD prog_14_method_20_code k_Mo_readAtom = true := by decide +kernel
set_option maxRecDepth 100000 in
theorem dk_LR_readAtom : ckD prog_4_method_9_code k_LR_readAtom = true := by decide +kernel
set_option maxRecDepth 100000 in
theorem dk_Mo_wordOf : ckD prog_14_method_17_code k_Mo_wordOf = true := by decide +kernel
set_option maxRecDepth 100000 in
theorem dk_LR_isValue : ckD prog_4_method_10_code k_LR_isValue = true := by decide +kernel
set_option maxRecDepth 100000 in
theorem dk_Mo_turnsWord : ckD prog_14_method_16_code k_Mo_turnsWord = true := by decide +kernel
theorem dks_0 : ∀ me ∈ mds_0, ckD (byt me) me.2.2.1 = true := List.forall_mem_cons.mpr ⟨dk_law, (fun _ h => absurd h List.not_mem_nil)⟩
theorem dks_1 : ∀ me ∈ mds_1, ckD (byt me) me.2.2.1 = true := List.forall_mem_cons.mpr ⟨dk_RW_init, List.forall_mem_cons.mpr ⟨dk_Mo_init, List.forall_mem_cons.mpr ⟨dk_RW_feed, List.forall_mem_cons.mpr ⟨dk_Mo_feed, List.forall_mem_cons.mpr ⟨dk_RW_room, List.forall_mem_cons.mpr ⟨dk_Mo_room, List.forall_mem_cons.mpr ⟨dk_RW_fault, List.forall_mem_cons.mpr ⟨dk_Mo_fault, List.forall_mem_cons.mpr ⟨dk_RW_rose, List.forall_mem_cons.mpr ⟨dk_Mo_rose, (fun _ h => absurd h List.not_mem_nil)⟩⟩⟩⟩⟩⟩⟩⟩⟩⟩
theorem dks_2 : ∀ me ∈ mds_2, ckD (byt me) me.2.2.1 = true := List.forall_mem_cons.mpr ⟨dk_RW_tenant, List.forall_mem_cons.mpr ⟨dk_Mo_tenant, List.forall_mem_cons.mpr ⟨dk_RW_night, List.forall_mem_cons.mpr ⟨dk_Mo_night, List.forall_mem_cons.mpr ⟨dk_RW_nights, List.forall_mem_cons.mpr ⟨dk_Mo_nights, List.forall_mem_cons.mpr ⟨dk_RW_let, List.forall_mem_cons.mpr ⟨dk_Mo_let, List.forall_mem_cons.mpr ⟨dk_RW_turn, List.forall_mem_cons.mpr ⟨dk_Mo_turn, (fun _ h => absurd h List.not_mem_nil)⟩⟩⟩⟩⟩⟩⟩⟩⟩⟩
theorem dks_3 : ∀ me ∈ mds_3, ckD (byt me) me.2.2.1 = true := List.forall_mem_cons.mpr ⟨dk_RW_temper, List.forall_mem_cons.mpr ⟨dk_Mo_temper, List.forall_mem_cons.mpr ⟨dk_RW_undo, List.forall_mem_cons.mpr ⟨dk_Mo_undo, List.forall_mem_cons.mpr ⟨dk_RW_judge, List.forall_mem_cons.mpr ⟨dk_Mo_judge, List.forall_mem_cons.mpr ⟨dk_RW_perform, List.forall_mem_cons.mpr ⟨dk_Mo_perform, List.forall_mem_cons.mpr ⟨dk_RW_season, List.forall_mem_cons.mpr ⟨dk_Mo_season, (fun _ h => absurd h List.not_mem_nil)⟩⟩⟩⟩⟩⟩⟩⟩⟩⟩
theorem dks_4 : ∀ me ∈ mds_4, ckD (byt me) me.2.2.1 = true := List.forall_mem_cons.mpr ⟨dk_RW_lies, List.forall_mem_cons.mpr ⟨dk_Mo_lies, List.forall_mem_cons.mpr ⟨dk_RW_round, List.forall_mem_cons.mpr ⟨dk_Mo_round, List.forall_mem_cons.mpr ⟨dk_RW_stays, List.forall_mem_cons.mpr ⟨dk_Mo_stays, List.forall_mem_cons.mpr ⟨dk_RW_stayBy, List.forall_mem_cons.mpr ⟨dk_Mo_stayBy, List.forall_mem_cons.mpr ⟨dk_RW_out, List.forall_mem_cons.mpr ⟨dk_Mo_out, (fun _ h => absurd h List.not_mem_nil)⟩⟩⟩⟩⟩⟩⟩⟩⟩⟩
theorem dks_5 : ∀ me ∈ mds_5, ckD (byt me) me.2.2.1 = true := List.forall_mem_cons.mpr ⟨dk_RW_outBy, List.forall_mem_cons.mpr ⟨dk_Mo_outBy, List.forall_mem_cons.mpr ⟨dk_RW_forces, List.forall_mem_cons.mpr ⟨dk_Mo_forces, List.forall_mem_cons.mpr ⟨dk_RW_minds, List.forall_mem_cons.mpr ⟨dk_Mo_minds, List.forall_mem_cons.mpr ⟨dk_RW_soonest, List.forall_mem_cons.mpr ⟨dk_Mo_soonest, List.forall_mem_cons.mpr ⟨dk_RW_way, List.forall_mem_cons.mpr ⟨dk_Mo_way, (fun _ h => absurd h List.not_mem_nil)⟩⟩⟩⟩⟩⟩⟩⟩⟩⟩
theorem dks_6 : ∀ me ∈ mds_6, ckD (byt me) me.2.2.1 = true := List.forall_mem_cons.mpr ⟨dk_RW_toFace, List.forall_mem_cons.mpr ⟨dk_Mo_toFace, List.forall_mem_cons.mpr ⟨dk_RW_walls, List.forall_mem_cons.mpr ⟨dk_Mo_walls, List.forall_mem_cons.mpr ⟨dk_RW_parents, List.forall_mem_cons.mpr ⟨dk_Mo_parents, List.forall_mem_cons.mpr ⟨dk_RW_orphans, List.forall_mem_cons.mpr ⟨dk_Mo_orphans, List.forall_mem_cons.mpr ⟨dk_RW_still, List.forall_mem_cons.mpr ⟨dk_Mo_still, (fun _ h => absurd h List.not_mem_nil)⟩⟩⟩⟩⟩⟩⟩⟩⟩⟩
theorem dks_7 : ∀ me ∈ mds_7, ckD (byt me) me.2.2.1 = true := List.forall_mem_cons.mpr ⟨dk_RW_rows, List.forall_mem_cons.mpr ⟨dk_Mo_rows, List.forall_mem_cons.mpr ⟨dk_RW_seen, List.forall_mem_cons.mpr ⟨dk_Mo_seen, List.forall_mem_cons.mpr ⟨dk_RW_seenBy, List.forall_mem_cons.mpr ⟨dk_Mo_seenBy, List.forall_mem_cons.mpr ⟨dk_RW_whose, List.forall_mem_cons.mpr ⟨dk_Mo_whose, List.forall_mem_cons.mpr ⟨dk_RW_tempers, List.forall_mem_cons.mpr ⟨dk_Mo_tempers, (fun _ h => absurd h List.not_mem_nil)⟩⟩⟩⟩⟩⟩⟩⟩⟩⟩
theorem dks_8 : ∀ me ∈ mds_8, ckD (byt me) me.2.2.1 = true := List.forall_mem_cons.mpr ⟨dk_RW_attempt, List.forall_mem_cons.mpr ⟨dk_Mo_attempt, List.forall_mem_cons.mpr ⟨dk_RW_chance, List.forall_mem_cons.mpr ⟨dk_Mo_chance, List.forall_mem_cons.mpr ⟨dk_RW_gone, List.forall_mem_cons.mpr ⟨dk_Mo_gone, List.forall_mem_cons.mpr ⟨dk_RW_best, List.forall_mem_cons.mpr ⟨dk_Mo_best, List.forall_mem_cons.mpr ⟨dk_RW_numbers, List.forall_mem_cons.mpr ⟨dk_Mo_numbers, (fun _ h => absurd h List.not_mem_nil)⟩⟩⟩⟩⟩⟩⟩⟩⟩⟩
theorem dks_9 : ∀ me ∈ mds_9, ckD (byt me) me.2.2.1 = true := List.forall_mem_cons.mpr ⟨dk_RW_write, List.forall_mem_cons.mpr ⟨dk_Mo_write, List.forall_mem_cons.mpr ⟨dk_RW_lists, List.forall_mem_cons.mpr ⟨dk_Mo_lists, List.forall_mem_cons.mpr ⟨dk_RW_image, List.forall_mem_cons.mpr ⟨dk_Mo_image, List.forall_mem_cons.mpr ⟨dk_RW_restore, List.forall_mem_cons.mpr ⟨dk_Mo_restore, List.forall_mem_cons.mpr ⟨dk_RW_count, List.forall_mem_cons.mpr ⟨dk_Mo_count, (fun _ h => absurd h List.not_mem_nil)⟩⟩⟩⟩⟩⟩⟩⟩⟩⟩
theorem dks_10 : ∀ me ∈ mds_10, ckD (byt me) me.2.2.1 = true := List.forall_mem_cons.mpr ⟨dk_Tok_init, List.forall_mem_cons.mpr ⟨dk_RR_init, List.forall_mem_cons.mpr ⟨dk_Mom_init, List.forall_mem_cons.mpr ⟨dk_Past_init, List.forall_mem_cons.mpr ⟨dk_Stp_init, List.forall_mem_cons.mpr ⟨dk_Rch_init, List.forall_mem_cons.mpr ⟨dk_Con_init, List.forall_mem_cons.mpr ⟨dk_Room_init, List.forall_mem_cons.mpr ⟨dk_Tray_init, List.forall_mem_cons.mpr ⟨dk_Mom_begin, (fun _ h => absurd h List.not_mem_nil)⟩⟩⟩⟩⟩⟩⟩⟩⟩⟩
theorem dks_11 : ∀ me ∈ mds_11, ckD (byt me) me.2.2.1 = true := List.forall_mem_cons.mpr ⟨dk_Stp_take, List.forall_mem_cons.mpr ⟨dk_Mo_plain, List.forall_mem_cons.mpr ⟨dk_RW_tapeFour, List.forall_mem_cons.mpr ⟨dk_RW_spareRoom, List.forall_mem_cons.mpr ⟨dk_Tok_begin, List.forall_mem_cons.mpr ⟨dk_RR_readRoom, List.forall_mem_cons.mpr ⟨dk_Past_clear, List.forall_mem_cons.mpr ⟨dk_Mo_within, List.forall_mem_cons.mpr ⟨dk_Mo_next, List.forall_mem_cons.mpr ⟨dk_Mo_eats, (fun _ h => absurd h List.not_mem_nil)⟩⟩⟩⟩⟩⟩⟩⟩⟩⟩
theorem dks_12 : ∀ me ∈ mds_12, ckD (byt me) me.2.2.1 = true := List.forall_mem_cons.mpr ⟨dk_Mo_fails, List.forall_mem_cons.mpr ⟨dk_Mo_takes, List.forall_mem_cons.mpr ⟨dk_Mo_ends, List.forall_mem_cons.mpr ⟨dk_Mo_readLine, List.forall_mem_cons.mpr ⟨dk_Room_hasRose, List.forall_mem_cons.mpr ⟨dk_Int_bitCount, List.forall_mem_cons.mpr ⟨dk_Mom_place, List.forall_mem_cons.mpr ⟨dk_Stp_pass, List.forall_mem_cons.mpr ⟨dk_Mo_isRose, List.forall_mem_cons.mpr ⟨dk_Mo_nearOf, (fun _ h => absurd h List.not_mem_nil)⟩⟩⟩⟩⟩⟩⟩⟩⟩⟩
theorem dks_13 : ∀ me ∈ mds_13, ckD (byt me) me.2.2.1 = true := List.forall_mem_cons.mpr ⟨dk_Mo_turnsThen, List.forall_mem_cons.mpr ⟨dk_Room_hasTenant, List.forall_mem_cons.mpr ⟨dk_Stp_isGoing, List.forall_mem_cons.mpr ⟨dk_Mo_isTenant, List.forall_mem_cons.mpr ⟨dk_Mo_goesBy, List.forall_mem_cons.mpr ⟨dk_RW_doneAlone, List.forall_mem_cons.mpr ⟨dk_Mo_isBlind, List.forall_mem_cons.mpr ⟨dk_Mo_keeps, List.forall_mem_cons.mpr ⟨dk_Mo_goesNight, List.forall_mem_cons.mpr ⟨dk_Mo_notes, (fun _ h => absurd h List.not_mem_nil)⟩⟩⟩⟩⟩⟩⟩⟩⟩⟩
theorem dks_14 : ∀ me ∈ mds_14, ckD (byt me) me.2.2.1 = true := List.forall_mem_cons.mpr ⟨dk_RW_isBlind, List.forall_mem_cons.mpr ⟨dk_Past_keep, List.forall_mem_cons.mpr ⟨dk_RW_passNight, List.forall_mem_cons.mpr ⟨dk_Mo_whyLet, List.forall_mem_cons.mpr ⟨dk_Mo_bitsOf, List.forall_mem_cons.mpr ⟨dk_Past_bringBack, List.forall_mem_cons.mpr ⟨dk_RW_isTray, List.forall_mem_cons.mpr ⟨dk_Mom_copy, List.forall_mem_cons.mpr ⟨dk_RW_doTray, List.forall_mem_cons.mpr ⟨dk_Tray_at, (fun _ h => absurd h List.not_mem_nil)⟩⟩⟩⟩⟩⟩⟩⟩⟩⟩
theorem dks_15 : ∀ me ∈ mds_15, ckD (byt me) me.2.2.1 = true := List.forall_mem_cons.mpr ⟨dk_RW_doDeed, List.forall_mem_cons.mpr ⟨dk_Mo_noTray, List.forall_mem_cons.mpr ⟨dk_Mo_tells, List.forall_mem_cons.mpr ⟨dk_Mo_isAgain, List.forall_mem_cons.mpr ⟨dk_Mo_toldWho, List.forall_mem_cons.mpr ⟨dk_RW_drawn, List.forall_mem_cons.mpr ⟨dk_RW_seasonDeed, List.forall_mem_cons.mpr ⟨dk_Mo_drawn, List.forall_mem_cons.mpr ⟨dk_Mo_whyNot, List.forall_mem_cons.mpr ⟨dk_Mo_does, (fun _ h => absurd h List.not_mem_nil)⟩⟩⟩⟩⟩⟩⟩⟩⟩⟩
theorem dks_16 : ∀ me ∈ mds_16, ckD (byt me) me.2.2.1 = true := List.forall_mem_cons.mpr ⟨dk_RW_here, List.forall_mem_cons.mpr ⟨dk_Rch_walk, List.forall_mem_cons.mpr ⟨dk_Rch_placeBehind, List.forall_mem_cons.mpr ⟨dk_Mo_laysRound, List.forall_mem_cons.mpr ⟨dk_Rch_mostTurned, List.forall_mem_cons.mpr ⟨dk_Rch_firstEmpty, List.forall_mem_cons.mpr ⟨dk_Rch_explore, List.forall_mem_cons.mpr ⟨dk_Con_settle, List.forall_mem_cons.mpr ⟨dk_Con_level, List.forall_mem_cons.mpr ⟨dk_Mo_laysStays, (fun _ h => absurd h List.not_mem_nil)⟩⟩⟩⟩⟩⟩⟩⟩⟩⟩
theorem dks_17 : ∀ me ∈ mds_17, ckD (byt me) me.2.2.1 = true := List.forall_mem_cons.mpr ⟨dk_Con_stayBlind, List.forall_mem_cons.mpr ⟨dk_Mo_standNow, List.forall_mem_cons.mpr ⟨dk_Rch_depth, List.forall_mem_cons.mpr ⟨dk_Mo_laysFar, List.forall_mem_cons.mpr ⟨dk_Mo_toldFar, List.forall_mem_cons.mpr ⟨dk_Rch_blindTo, List.forall_mem_cons.mpr ⟨dk_Mo_blindAt, List.forall_mem_cons.mpr ⟨dk_Mo_laysForced, List.forall_mem_cons.mpr ⟨dk_Con_forcingBlind, List.forall_mem_cons.mpr ⟨dk_Room_hasWall, (fun _ h => absurd h List.not_mem_nil)⟩⟩⟩⟩⟩⟩⟩⟩⟩⟩
theorem dks_18 : ∀ me ∈ mds_18, ckD (byt me) me.2.2.1 = true := List.forall_mem_cons.mpr ⟨dk_Mo_isWall, List.forall_mem_cons.mpr ⟨dk_Rch_differentWalls, List.forall_mem_cons.mpr ⟨dk_Mo_beginsMany, List.forall_mem_cons.mpr ⟨dk_Mo_standOf, List.forall_mem_cons.mpr ⟨dk_Stp_tune, List.forall_mem_cons.mpr ⟨dk_Stp_comingTo, List.forall_mem_cons.mpr ⟨dk_Mo_laysFrom, List.forall_mem_cons.mpr ⟨dk_Stp_comingOfNone, List.forall_mem_cons.mpr ⟨dk_Mo_noSo, List.forall_mem_cons.mpr ⟨dk_Mo_roses, (fun _ h => absurd h List.not_mem_nil)⟩⟩⟩⟩⟩⟩⟩⟩⟩⟩
theorem dks_19 : ∀ me ∈ mds_19, ckD (byt me) me.2.2.1 = true := List.forall_mem_cons.mpr ⟨dk_Stp_stayingSame, List.forall_mem_cons.mpr ⟨dk_Mo_wallThen, List.forall_mem_cons.mpr ⟨dk_Rch_rowsTo, List.forall_mem_cons.mpr ⟨dk_Mo_goesMany, List.forall_mem_cons.mpr ⟨dk_RW_refusedSeen, List.forall_mem_cons.mpr ⟨dk_RW_rowsSeen, List.forall_mem_cons.mpr ⟨dk_Mo_noSeen, List.forall_mem_cons.mpr ⟨dk_Mo_laysThen, List.forall_mem_cons.mpr ⟨dk_Mo_isRow, List.forall_mem_cons.mpr ⟨dk_RW_isFirstBlind, (fun _ h => absurd h List.not_mem_nil)⟩⟩⟩⟩⟩⟩⟩⟩⟩⟩
theorem dks_20 : ∀ me ∈ mds_20, ckD (byt me) me.2.2.1 = true := List.forall_mem_cons.mpr ⟨dk_Stp_next, List.forall_mem_cons.mpr ⟨dk_Mo_blindIn, List.forall_mem_cons.mpr ⟨dk_RW_placeOf, List.forall_mem_cons.mpr ⟨dk_RW_refusedTempers, List.forall_mem_cons.mpr ⟨dk_RW_tempersSeen, List.forall_mem_cons.mpr ⟨dk_Mo_noBlinds, List.forall_mem_cons.mpr ⟨dk_Mo_tempersOf, List.forall_mem_cons.mpr ⟨dk_RW_mostAlike, List.forall_mem_cons.mpr ⟨dk_Mo_mostAlike, List.forall_mem_cons.mpr ⟨dk_RW_share, (fun _ h => absurd h List.not_mem_nil)⟩⟩⟩⟩⟩⟩⟩⟩⟩⟩
theorem dks_21 : ∀ me ∈ mds_21, ckD (byt me) me.2.2.1 = true := List.forall_mem_cons.mpr ⟨dk_RW_powerOfTen, List.forall_mem_cons.mpr ⟨dk_RW_commonDivisor, List.forall_mem_cons.mpr ⟨dk_Mo_chanceOf, List.forall_mem_cons.mpr ⟨dk_Mo_wholeOf, List.forall_mem_cons.mpr ⟨dk_Mo_common, List.forall_mem_cons.mpr ⟨dk_Tray_begin, List.forall_mem_cons.mpr ⟨dk_Tray_put, List.forall_mem_cons.mpr ⟨dk_Mo_cut, List.forall_mem_cons.mpr ⟨dk_Mo_standThen, List.forall_mem_cons.mpr ⟨dk_LR_init, (fun _ h => absurd h List.not_mem_nil)⟩⟩⟩⟩⟩⟩⟩⟩⟩⟩
theorem dks_22 : ∀ me ∈ mds_22, ckD (byt me) me.2.2.1 = true := List.forall_mem_cons.mpr ⟨dk_Lw_init, List.forall_mem_cons.mpr ⟨dk_Room_clear, List.forall_mem_cons.mpr ⟨dk_Arr_fillJ, List.forall_mem_cons.mpr ⟨dk_Mat_min, List.forall_mem_cons.mpr ⟨dk_Mat_max, List.forall_mem_cons.mpr ⟨dk_Tok_splitNext, List.forall_mem_cons.mpr ⟨dk_Tok_readNumber, List.forall_mem_cons.mpr ⟨dk_Tok_advance, List.forall_mem_cons.mpr ⟨dk_RR_readWall, List.forall_mem_cons.mpr ⟨dk_RR_readLine, (fun _ h => absurd h List.not_mem_nil)⟩⟩⟩⟩⟩⟩⟩⟩⟩⟩
theorem dks_23 : ∀ me ∈ mds_23, ckD (byt me) me.2.2.1 = true := List.forall_mem_cons.mpr ⟨dk_Tok_pass, List.forall_mem_cons.mpr ⟨dk_Mo_see, List.forall_mem_cons.mpr ⟨dk_Mo_isSmall, List.forall_mem_cons.mpr ⟨dk_Mo_keyAt, List.forall_mem_cons.mpr ⟨dk_Mo_isDigit, List.forall_mem_cons.mpr ⟨dk_Str_length, List.forall_mem_cons.mpr ⟨dk_Str_charAt, List.forall_mem_cons.mpr ⟨dk_Mo_is, List.forall_mem_cons.mpr ⟨dk_Mo_readRow, List.forall_mem_cons.mpr ⟨dk_Mo_readTenant, (fun _ h => absurd h List.not_mem_nil)⟩⟩⟩⟩⟩⟩⟩⟩⟩⟩
theorem dks_24 : ∀ me ∈ mds_24, ckD (byt me) me.2.2.1 = true := List.forall_mem_cons.mpr ⟨dk_Mo_readRose, List.forall_mem_cons.mpr ⟨dk_Mo_readFace, List.forall_mem_cons.mpr ⟨dk_Mo_readLaw, List.forall_mem_cons.mpr ⟨dk_Stp_learnTurning, List.forall_mem_cons.mpr ⟨dk_Mo_isIn, List.forall_mem_cons.mpr ⟨dk_Mo_reckons, List.forall_mem_cons.mpr ⟨dk_Lw_isTold, List.forall_mem_cons.mpr ⟨dk_Lw_holds, List.forall_mem_cons.mpr ⟨dk_Mom_goTo, List.forall_mem_cons.mpr ⟨dk_Mat_floorMod, (fun _ h => absurd h List.not_mem_nil)⟩⟩⟩⟩⟩⟩⟩⟩⟩⟩
theorem dks_25 : ∀ me ∈ mds_25, ckD (byt me) me.2.2.1 = true := List.forall_mem_cons.mpr ⟨dk_RW_doLet, List.forall_mem_cons.mpr ⟨dk_Mo_draw, List.forall_mem_cons.mpr ⟨dk_Rch_nodeOf, List.forall_mem_cons.mpr ⟨dk_Rch_add, List.forall_mem_cons.mpr ⟨dk_Rch_isGoal, List.forall_mem_cons.mpr ⟨dk_Con_begin, List.forall_mem_cons.mpr ⟨dk_Con_leadOut, List.forall_mem_cons.mpr ⟨dk_Mo_isGone, List.forall_mem_cons.mpr ⟨dk_Mo_isSought, List.forall_mem_cons.mpr ⟨dk_Mo_leastBy, (fun _ h => absurd h List.not_mem_nil)⟩⟩⟩⟩⟩⟩⟩⟩⟩⟩
theorem dks_26 : ∀ me ∈ mds_26, ckD (byt me) me.2.2.1 = true := List.forall_mem_cons.mpr ⟨dk_Mo_herBy, List.forall_mem_cons.mpr ⟨dk_Mo_mostBy, List.forall_mem_cons.mpr ⟨dk_Room_fullWall, List.forall_mem_cons.mpr ⟨dk_Arr_fillI, List.forall_mem_cons.mpr ⟨dk_Rch_spreadWays, List.forall_mem_cons.mpr ⟨dk_Tray_fits, List.forall_mem_cons.mpr ⟨dk_Mo_isSeen, List.forall_mem_cons.mpr ⟨dk_RW_isTemperSeen, List.forall_mem_cons.mpr ⟨dk_RW_alike, List.forall_mem_cons.mpr ⟨dk_Lw_clear, (fun _ h => absurd h List.not_mem_nil)⟩⟩⟩⟩⟩⟩⟩⟩⟩⟩
theorem dks_27 : ∀ me ∈ mds_27, ckD (byt me) me.2.2.1 = true := List.forall_mem_cons.mpr ⟨dk_Room_shape, List.forall_mem_cons.mpr ⟨dk_Tok_isDigit, List.forall_mem_cons.mpr ⟨dk_Tok_isLetter, List.forall_mem_cons.mpr ⟨dk_Tok_kindOfWord, List.forall_mem_cons.mpr ⟨dk_Str_indexOf, List.forall_mem_cons.mpr ⟨dk_Tok_passNumber, List.forall_mem_cons.mpr ⟨dk_Tok_refuse, List.forall_mem_cons.mpr ⟨dk_RR_isLine, List.forall_mem_cons.mpr ⟨dk_RR_readKinds, List.forall_mem_cons.mpr ⟨dk_RR_readTenant, (fun _ h => absurd h List.not_mem_nil)⟩⟩⟩⟩⟩⟩⟩⟩⟩⟩
theorem dks_28 : ∀ me ∈ mds_28, ckD (byt me) me.2.2.1 = true := List.forall_mem_cons.mpr ⟨dk_RR_readFace, List.forall_mem_cons.mpr ⟨dk_LR_readLaw, List.forall_mem_cons.mpr ⟨dk_RR_readOne, List.forall_mem_cons.mpr ⟨dk_Str_coder, List.forall_mem_cons.mpr ⟨dk_Str_isLatin1, List.forall_mem_cons.mpr ⟨dk_Lat_charAt, List.forall_mem_cons.mpr ⟨dk_Mo_readTruth, List.forall_mem_cons.mpr ⟨dk_Mo_between, List.forall_mem_cons.mpr ⟨dk_Lw_joined, List.forall_mem_cons.mpr ⟨dk_Con_addEdge, (fun _ h => absurd h List.not_mem_nil)⟩⟩⟩⟩⟩⟩⟩⟩⟩⟩
theorem dks_29 : ∀ me ∈ mds_29, ckD (byt me) me.2.2.1 = true := List.forall_mem_cons.mpr ⟨dk_Room_neighbours, List.forall_mem_cons.mpr ⟨dk_Tok_isWord, List.forall_mem_cons.mpr ⟨dk_Tok_kindOfFour, List.forall_mem_cons.mpr ⟨dk_Str_indexOf2, List.forall_mem_cons.mpr ⟨dk_LR_readTruth, List.forall_mem_cons.mpr ⟨dk_RR_highest, List.forall_mem_cons.mpr ⟨dk_Str_checkIndex, List.forall_mem_cons.mpr ⟨dk_Mo_readBoth, List.forall_mem_cons.mpr ⟨dk_Mo_codes, List.forall_mem_cons.mpr ⟨dk_Mat_abs, (fun _ h => absurd h List.not_mem_nil)⟩⟩⟩⟩⟩⟩⟩⟩⟩⟩
theorem dks_30 : ∀ me ∈ mds_30, ckD (byt me) me.2.2.1 = true := List.forall_mem_cons.mpr ⟨dk_Lat_indexOf, List.forall_mem_cons.mpr ⟨dk_LR_readBoth, List.forall_mem_cons.mpr ⟨dk_Lw_add, List.forall_mem_cons.mpr ⟨dk_Pre_checkIndex, List.forall_mem_cons.mpr ⟨dk_Mo_readUnit, List.forall_mem_cons.mpr ⟨dk_Lat_canEncode, List.forall_mem_cons.mpr ⟨dk_Lat_indexOfChar, List.forall_mem_cons.mpr ⟨dk_LR_readUnit, List.forall_mem_cons.mpr ⟨dk_Mo_goesIn, List.forall_mem_cons.mpr ⟨dk_Mo_readSum, (fun _ h => absurd h List.not_mem_nil)⟩⟩⟩⟩⟩⟩⟩⟩⟩⟩
theorem dks_31 : ∀ me ∈ mds_31, ckD (byt me) me.2.2.1 = true := List.forall_mem_cons.mpr ⟨dk_LR_enter, List.forall_mem_cons.mpr ⟨dk_LR_readSum, List.forall_mem_cons.mpr ⟨dk_Mo_readTerm, List.forall_mem_cons.mpr ⟨dk_LR_readTerm, List.forall_mem_cons.mpr ⟨dk_Mo_readAtom, List.forall_mem_cons.mpr ⟨dk_LR_readAtom, List.forall_mem_cons.mpr ⟨dk_Mo_wordOf, List.forall_mem_cons.mpr ⟨dk_LR_isValue, List.forall_mem_cons.mpr ⟨dk_Mo_turnsWord, (fun _ h => absurd h List.not_mem_nil)⟩⟩⟩⟩⟩⟩⟩⟩⟩
theorem dk_all : ∀ me ∈ mds, ckD (byt me) me.2.2.1 = true := List.forall_mem_append.mpr ⟨dks_0, List.forall_mem_append.mpr ⟨dks_1, List.forall_mem_append.mpr ⟨dks_2, List.forall_mem_append.mpr ⟨dks_3, List.forall_mem_append.mpr ⟨dks_4, List.forall_mem_append.mpr ⟨dks_5, List.forall_mem_append.mpr ⟨dks_6, List.forall_mem_append.mpr ⟨dks_7, List.forall_mem_append.mpr ⟨dks_8, List.forall_mem_append.mpr ⟨dks_9, List.forall_mem_append.mpr ⟨dks_10, List.forall_mem_append.mpr ⟨dks_11, List.forall_mem_append.mpr ⟨dks_12, List.forall_mem_append.mpr ⟨dks_13, List.forall_mem_append.mpr ⟨dks_14, List.forall_mem_append.mpr ⟨dks_15, List.forall_mem_append.mpr ⟨dks_16, List.forall_mem_append.mpr ⟨dks_17, List.forall_mem_append.mpr ⟨dks_18, List.forall_mem_append.mpr ⟨dks_19, List.forall_mem_append.mpr ⟨dks_20, List.forall_mem_append.mpr ⟨dks_21, List.forall_mem_append.mpr ⟨dks_22, List.forall_mem_append.mpr ⟨dks_23, List.forall_mem_append.mpr ⟨dks_24, List.forall_mem_append.mpr ⟨dks_25, List.forall_mem_append.mpr ⟨dks_26, List.forall_mem_append.mpr ⟨dks_27, List.forall_mem_append.mpr ⟨dks_28, List.forall_mem_append.mpr ⟨dks_29, List.forall_mem_append.mpr ⟨dks_30, dks_31⟩⟩⟩⟩⟩⟩⟩⟩⟩⟩⟩⟩⟩⟩⟩⟩⟩⟩⟩⟩⟩⟩⟩⟩⟩⟩⟩⟩⟩⟩⟩
end
section
/-! THE INTERPRETER: one instruction, in continuation form, over any memory; then runs, depth, unfolding. -/
def uns : Value := .retAddr 0
def mk2 : Value := .retAddr 1
def iI (z : Int) : Int32 := Int32.ofInt z
def lI (z : Int) : Int64 := Int64.ofInt z
def ix (i : Int32) : Nat := i.toNatClampNeg
def inb (i : Int32) (n : Nat) : Bool := !(decide (i < 0)) && Nat.blt (ix i) n
def irm (x y : Int32) : Int32 := x - x / y * y
def gb {α : Type} (b : Bool) (x : Option α) : Option α := match b with
  | true => x
  | false => none
def fres (own n : Nat) : Option (Nat × Nat × Nat × Bool × Nat) := lkN (fresT.getD own []) n
def mrow (own n : Nat) : Option (Nat × Nat × Nat × Nat × Nat) := lkN (mresT.getD own []) n
def mres (own n : Nat) : Option (MD × Nat × Nat) := match mrow own n with
  | some q => some (mds.getD q.1 m_law, q.2.1, q.2.2.1)
  | none => none
def oini (own n : Nat) : Bool := (oiniT.getD own []).any (fun k => Nat.beq k.1 n)
def cres (own n : Nat) : Option (Nat × Nat × Nat × Nat × Nat) := lkN (cresT.getD own []) n
def ares (own n : Nat) : Option (Nat × Nat × Nat) := lkN (anewT.getD own []) n
def kint (own n : Nat) : Option (Int × Nat) := lkN (kintT.getD own []) n
def klong (own n : Nat) : Option (Int × Nat) := lkN (klongT.getD own []) n
def kstr (own n : Nat) : Option (Nat × Nat) := lkN (kstrT.getD own []) n
def gst (own n : Nat) : Option (Nat × Nat) := lkN (gstT.getD own []) n
def sh0 (a : Nat) : Nat × Nat := match Nat.ble 100 a with
  | true => shT.getD (a - 100) (0, 0)
  | false => match Nat.beq a 1 with
    | true => (1, 0)
    | false => match Nat.blt 9 a && Nat.blt a 54 with
      | true => match Nat.beq (a % 2) 0 with
        | true => (2, 0)
        | false => (3, (txtT.getD ((a - 11) / 2) []).length)
      | false => (0, 0)
def txt (a k : Nat) : Int32 := iI ((txtT.getD ((a - 11) / 2) []).getD k 0)
/-- the memory's operations: shape, reads (int, long, reference), writes, a new cell -/
abbrev Ops (μ : Type) : Type := (μ → Nat → Nat × Nat) × (μ → Nat → Nat → Int32) × (μ → Nat → Nat → Int64) × (μ → Nat → Nat → Nat) × (μ → Nat → Nat → Int32 → μ) × (μ → Nat → Nat → Int64 → μ) × (μ → Nat → Nat → Nat → Option μ) × (μ → Nat × Nat → Nat → Option (Nat × μ))
abbrev Rs (μ : Type) : Type := Option (Value × μ)
section Core
variable {μ : Type}
def oS (O : Ops μ) : μ → Nat → Nat × Nat := O.1
def oI (O : Ops μ) : μ → Nat → Nat → Int32 := O.2.1
def oL (O : Ops μ) : μ → Nat → Nat → Int64 := O.2.2.1
def oR (O : Ops μ) : μ → Nat → Nat → Nat := O.2.2.2.1
def pI (O : Ops μ) : μ → Nat → Nat → Int32 → μ := O.2.2.2.2.1
def pL (O : Ops μ) : μ → Nat → Nat → Int64 → μ := O.2.2.2.2.2.1
def pR (O : Ops μ) : μ → Nat → Nat → Nat → Option μ := O.2.2.2.2.2.2.1
def oN (O : Ops μ) : μ → Nat × Nat → Nat → Option (Nat × μ) := O.2.2.2.2.2.2.2
def ldI (ls : List Value) (k : Nat) (f : Int32 → Rs μ) : Rs μ := match ls[k]? with
  | some (.int x) => f x
  | _ => none
def ldA (ls : List Value) (k : Nat) (f : Nat → Rs μ) : Rs μ := match ls[k]? with
  | some (.ref x) => f x
  | _ => none
def ldL (ls : List Value) (k : Nat) (f : Int64 → Rs μ) : Rs μ := match ls[k]? with
  | some (.long x) => match ls[k + 1]? with
    | some (.retAddr 1) => f x
    | _ => none
  | _ => none
def u1 (st : List Value) (f : Int32 → List Value → Rs μ) : Rs μ := match st with
  | .int x :: r => f x r
  | _ => none
def b2 (st : List Value) (f : Int32 → Int32 → List Value → Rs μ) : Rs μ := match st with
  | .int y :: .int x :: r => f x y r
  | _ => none
def ul (st : List Value) (f : Int64 → List Value → Rs μ) : Rs μ := match st with
  | .long x :: r => f x r
  | _ => none
def bl (st : List Value) (f : Int64 → Int64 → List Value → Rs μ) : Rs μ := match st with
  | .long y :: .long x :: r => f x y r
  | _ => none
def li (st : List Value) (f : Int64 → Int32 → List Value → Rs μ) : Rs μ := match st with
  | .int y :: .long x :: r => f x y r
  | _ => none
def ua (st : List Value) (f : Nat → List Value → Rs μ) : Rs μ := match st with
  | .ref a :: r => f a r
  | _ => none
def ba (st : List Value) (f : Nat → Nat → List Value → Rs μ) : Rs μ := match st with
  | .ref b :: .ref a :: r => f a b r
  | _ => none
def ai (st : List Value) (f : Nat → Int32 → List Value → Rs μ) : Rs μ := match st with
  | .int i :: .ref a :: r => f a i r
  | _ => none
def aii (st : List Value) (f : Nat → Int32 → Int32 → List Value → Rs μ) : Rs μ := match st with
  | .int v :: .int i :: .ref a :: r => f a i v r
  | _ => none
def ail (st : List Value) (f : Nat → Int32 → Int64 → List Value → Rs μ) : Rs μ := match st with
  | .long v :: .int i :: .ref a :: r => f a i v r
  | _ => none
def aia (st : List Value) (f : Nat → Int32 → Nat → List Value → Rs μ) : Rs μ := match st with
  | .ref v :: .int i :: .ref a :: r => f a i v r
  | _ => none
def ia (st : List Value) (f : Nat → Int32 → List Value → Rs μ) : Rs μ := match st with
  | .int v :: .ref a :: r => f a v r
  | _ => none
def la (st : List Value) (f : Nat → Int64 → List Value → Rs μ) : Rs μ := match st with
  | .long v :: .ref a :: r => f a v r
  | _ => none
def bb {α : Type} (b : Bool) (x y : α) : α := match b with
  | true => x
  | false => y
def oE {α β : Type} (o : Option α) (f : α → β) (g : β) : β := match o with
  | some q => f q
  | none => g
/-- a value of one word -/
def w1 : Value → Bool
  | .int _ => true
  | .ref _ => true
  | _ => false
def v1 (st : List Value) (f : Value → List Value → Rs μ) : Rs μ := match st with
  | v :: r => gb (w1 v) (f v r)
  | _ => none
def v2 (st : List Value) (f : Value → Value → List Value → Rs μ) : Rs μ := match st with
  | v :: u :: r => gb (w1 v && w1 u) (f v u r)
  | _ => none
/-- null, or a cell of ours -/
def rOk (x : Nat) : Bool := Nat.beq x 0 || Nat.ble 100 x
def bra (c : Jvm.ClassFile.ACond) (x y : Nat) (a b : Rs μ) : Rs μ := match c with
  | .eq => if x = y then a else b
  | .ne => if x = y then b else a
def br (c : Jvm.ClassFile.Cond) (x y : Int32) (a b : Rs μ) : Rs μ := match c with
  | .eq => if x = y then a else b
  | .ne => if x = y then b else a
  | .lt => if x < y then a else b
  | .ge => if x < y then b else a
  | .gt => if y < x then a else b
  | .le => if y < x then b else a
def tg (pc : Nat) (off : Int) : Nat := ((pc : Int) + off).toNat
def swt (x : Int32) (f : Int → Rs μ) (d : Rs μ) : Int → List Int → Rs μ
  | _, [] => d
  | k, o :: l => if x = iI k then f o else swt x f d (k + 1) l
def swl (x : Int32) (f : Int → Rs μ) (d : Rs μ) : List (Int × Int) → Rs μ
  | [] => d
  | (k, o) :: l => if x = iI k then f o else swl x f d l
def bI (o : Rs μ) (f : Int32 → μ → Rs μ) : Rs μ := match o with
  | some (.int r, m) => f r m
  | _ => none
def bL (o : Rs μ) (f : Int64 → μ → Rs μ) : Rs μ := match o with
  | some (.long r, m) => f r m
  | _ => none
def bR (o : Rs μ) (f : Nat → μ → Rs μ) : Rs μ := match o with
  | some (.ref r, m) => f r m
  | _ => none
def bV (o : Rs μ) (f : μ → Rs μ) : Rs μ := match o with
  | some (.null, m) => f m
  | _ => none
def catS (st : List Value) : Nat := (st.map fun v => v.category).sum
def ivk (K : MD → List Value → μ → Rs μ) (C : Nat → List Value → List Value → μ → Rs μ) (me : MD) (nx : Nat) (ls args rest : List Value) (m : μ) : Rs μ := match me.2.2.2.2.1 with
  | 0 => bV (K me args m) fun m => C nx ls rest m
  | 6 => bL (K me args m) fun r m => C nx ls (.long r :: rest) m
  | 7 => bR (K me args m) fun r m => C nx ls (.ref r :: rest) m
  | _ => bI (K me args m) fun r m => C nx ls (.int r :: rest) m
def oB (o : Option μ) (f : μ → Rs μ) : Rs μ := match o with
  | some m => f m
  | none => none
def oP (o : Option (Nat × μ)) (f : Nat → μ → Rs μ) : Rs μ := match o with
  | some q => f q.1 q.2
  | none => none
def oX {α : Type} (o : Option α) (f : α → Rs μ) : Rs μ := match o with
  | some q => f q
  | none => none
def sto (C : Nat → List Value → List Value → μ → Rs μ) (nx : Nat) (ls : List Value) (i : Nat) (v : Value) (r : List Value) (m : μ) : Rs μ := gb (Nat.blt i ls.length) (C nx (ls.set i v) r m)
def sto2 (C : Nat → List Value → List Value → μ → Rs μ) (nx : Nat) (ls : List Value) (i : Nat) (v : Int64) (r : List Value) (m : μ) : Rs μ := gb (Nat.blt (i + 1) ls.length) (C nx ((ls.set i (.long v)).set (i + 1) mk2) r m)
def isK (O : Ops μ) (m : μ) (a k : Nat) : Bool := Nat.beq (oS O m a).1 k
def at_ (O : Ops μ) (m : μ) (a k : Nat) (i : Int32) : Bool := Nat.beq (oS O m a).1 k && inb i (oS O m a).2
def nslots (k : Nat) : Nat := match k with
  | 44 => 16
  | 45 => 13
  | 46 => 20
  | _ => 0
def arrK (t : Jvm.ClassFile.ArrayType) : Nat := match t with
  | .int => 40
  | .byte => 41
  | .boolean => 42
  | .long => 43
  | _ => 0
def newA (O : Ops μ) (C : Nat → List Value → List Value → μ → Rs μ) (nx : Nat) (ls r : List Value) (m : μ) (k : Nat) (n : Int32) : Rs μ := gb (!(decide (n < 0)) && (Nat.ble (ix n) 100000 && !(Nat.beq k 0))) (oP (oN O m (k, ix n) (ix n)) fun a m => C nx ls (.ref a :: r) m)
def getF (O : Ops μ) (C : Nat → List Value → List Value → μ → Rs μ) (nx : Nat) (ls r : List Value) (m : μ) (a : Nat) (f : Nat × Nat × Nat × Bool × Nat) : Rs μ := gb (isK O m a f.1) (match f.2.2.1 with
  | 0 => C nx ls (.int (oI O m a f.2.1) :: r) m
  | 1 => C nx ls (.long (oL O m a f.2.1) :: r) m
  | 2 => C nx ls (.ref (oR O m a f.2.1) :: r) m
  | 3 => C nx ls (.int (oI O m a f.2.1) :: r) m
  | 4 => C nx ls (.int (iI 0) :: r) m
  | _ => C nx ls (.ref (a + 1) :: r) m)
def okFin (me : MD) (f : Nat × Nat × Nat × Bool × Nat) : Bool := match f.2.2.2.1 with
  | false => true
  | true => me.2.2.2.2.2 && Nat.beq f.1 (10 + me.2.1)
def putF (O : Ops μ) (C : Nat → List Value → List Value → μ → Rs μ) (me : MD) (nx : Nat) (ls st : List Value) (m : μ) (f : Nat × Nat × Nat × Bool × Nat) : Rs μ := gb (okFin me f) (match f.2.2.1 with
  | 0 => ia st fun a v r => gb (isK O m a f.1) (C nx ls r (pI O m a f.2.1 v))
  | 1 => la st fun a v r => gb (isK O m a f.1) (C nx ls r (pL O m a f.2.1 v))
  | 2 => ba st fun a v r => gb (isK O m a f.1) (oB (pR O m a f.2.1 v) fun m => C nx ls r m)
  | 3 => ia st fun a v r => gb (isK O m a f.1) (gb (decide (v = 0) || decide (v = 1)) (C nx ls r (pI O m a f.2.1 v)))
  | _ => none)
def ret1 (me : MD) (st : List Value) (m : μ) : Rs μ := match st with
  | [.int v] => match me.2.2.2.2.1 with
    | 1 => some (.int v, m)
    | 2 => gb (decide (v &&& 1 = v)) (some (.int v, m))
    | 3 => gb (decide (v.toInt8.toInt32 = v)) (some (.int v, m))
    | 4 => gb (decide (v.toUInt32.toUInt16.toUInt32.toInt32 = v)) (some (.int v, m))
    | _ => none
  | _ => none
def ins (O : Ops μ) (K : MD → List Value → μ → Rs μ) (C : Nat → List Value → List Value → μ → Rs μ) (me : MD) (pc nx : Nat) (ls st : List Value) (m : μ) (i : Jvm.ClassFile.Instr) : Rs μ := match i with
  | .iload_n k => ldI ls k.val fun x => C nx ls (.int x :: st) m
  | .iload k => ldI ls k fun x => C nx ls (.int x :: st) m
  | .aload_n k => ldA ls k.val fun x => C nx ls (.ref x :: st) m
  | .aload k => ldA ls k fun x => C nx ls (.ref x :: st) m
  | .lload_n k => ldL ls k.val fun x => C nx ls (.long x :: st) m
  | .lload k => ldL ls k fun x => C nx ls (.long x :: st) m
  | .istore_n k => u1 st fun x r => sto C nx ls k.val (.int x) r m
  | .istore k => u1 st fun x r => sto C nx ls k (.int x) r m
  | .astore_n k => ua st fun x r => sto C nx ls k.val (.ref x) r m
  | .astore k => ua st fun x r => sto C nx ls k (.ref x) r m
  | .lstore_n k => ul st fun x r => sto2 C nx ls k.val x r m
  | .lstore k => ul st fun x r => sto2 C nx ls k x r m
  | .iinc k n => ldI ls k fun x => sto C nx ls k (.int (x + iI n)) st m
  | .iconst n => C nx ls (.int (iI n) :: st) m
  | .bipush n => C nx ls (.int (iI n) :: st) m
  | .sipush n => C nx ls (.int (iI n) :: st) m
  | .lconst n => C nx ls (.long (lI n.val) :: st) m
  | .ldc k => oE (kint me.2.1 k) (fun z => C nx ls (.int (iI z.1) :: st) m) (oX (kstr me.2.1 k) fun a => C nx ls (.ref a.1 :: st) m)
  | .ldc_w k => oX (kint me.2.1 k) fun z => C nx ls (.int (iI z.1) :: st) m
  | .ldc2_w k => oX (klong me.2.1 k) fun z => C nx ls (.long (lI z.1) :: st) m
  | .iadd => b2 st fun x y r => C nx ls (.int (x + y) :: r) m
  | .isub => b2 st fun x y r => C nx ls (.int (x - y) :: r) m
  | .imul => b2 st fun x y r => C nx ls (.int (x * y) :: r) m
  | .idiv => b2 st fun x y r => gb (!(decide (y = 0))) (C nx ls (.int (x / y) :: r) m)
  | .irem => b2 st fun x y r => gb (!(decide (y = 0))) (C nx ls (.int (irm x y) :: r) m)
  | .ineg => u1 st fun x r => C nx ls (.int (-x) :: r) m
  | .iand => b2 st fun x y r => C nx ls (.int (x &&& y) :: r) m
  | .ior => b2 st fun x y r => C nx ls (.int (x ||| y) :: r) m
  | .ixor => b2 st fun x y r => C nx ls (.int (x ^^^ y) :: r) m
  | .ishl => b2 st fun x y r => C nx ls (.int (x <<< (y &&& 31)) :: r) m
  | .ishr => b2 st fun x y r => C nx ls (.int (x >>> (y &&& 31)) :: r) m
  | .iushr => b2 st fun x y r => C nx ls (.int ((x.toUInt32 >>> (y.toUInt32 &&& Int32.toUInt32 31)).toInt32) :: r) m
  | .ladd => bl st fun x y r => C nx ls (.long (x + y) :: r) m
  | .lsub => bl st fun x y r => C nx ls (.long (x - y) :: r) m
  | .lmul => bl st fun x y r => C nx ls (.long (x * y) :: r) m
  | .land => bl st fun x y r => C nx ls (.long (x &&& y) :: r) m
  | .lor => bl st fun x y r => C nx ls (.long (x ||| y) :: r) m
  | .lshl => li st fun x y r => C nx ls (.long (x <<< (y.toInt64 &&& 63)) :: r) m
  | .lshr => li st fun x y r => C nx ls (.long (x >>> (y.toInt64 &&& 63)) :: r) m
  | .lcmp => bl st fun x y r => C nx ls (.int (lg_cmp x y) :: r) m
  | .i2l => u1 st fun x r => C nx ls (.long x.toInt64 :: r) m
  | .l2i => ul st fun x r => C nx ls (.int x.toInt32 :: r) m
  | .i2b => u1 st fun x r => C nx ls (.int x.toInt8.toInt32 :: r) m
  | .i2s => u1 st fun x r => C nx ls (.int x.toInt16.toInt32 :: r) m
  | .i2c => u1 st fun x r => C nx ls (.int (x.toUInt32 % 65536).toInt32 :: r) m
  | .dup => v1 st fun v r => C nx ls (v :: v :: r) m
  | .pop => v1 st fun _ r => C nx ls r m
  | .dup_x1 => v2 st fun v u r => C nx ls (v :: u :: v :: r) m
  | .dup2 => v2 st fun v u r => C nx ls (v :: u :: v :: u :: r) m
  | .ifCond c off => u1 st fun x r => br c x 0 (C (tg pc off) ls r m) (C nx ls r m)
  | .if_icmp c off => b2 st fun x y r => br c x y (C (tg pc off) ls r m) (C nx ls r m)
  | .if_acmp c off => ba st fun x y r => gb (rOk x && rOk y) (bra c x y (C (tg pc off) ls r m) (C nx ls r m))
  | .ifnull off => ua st fun x r => gb (rOk x) (if x = 0 then C (tg pc off) ls r m else C nx ls r m)
  | .ifnonnull off => ua st fun x r => gb (rOk x) (if x = 0 then C nx ls r m else C (tg pc off) ls r m)
  | .goto off => C (tg pc off) ls st m
  | .tableswitch d lo _ offs => u1 st fun x r => swt x (fun o => C (tg pc o) ls r m) (C (tg pc d) ls r m) lo offs.toList
  | .lookupswitch d ps => u1 st fun x r => swl x (fun o => C (tg pc o) ls r m) (C (tg pc d) ls r m) ps.toList
  | .getfield k => oX (fres me.2.1 k) fun f => ua st fun a r => getF O C nx ls r m a f
  | .putfield k => oX (fres me.2.1 k) fun f => putF O C me nx ls st m f
  | .getstatic k => oX (gst me.2.1 k) fun q => bb (Nat.beq q.1 1) (C nx ls (.int (iI 1) :: st) m) (C nx ls (.ref 2 :: st) m)
  | .iaload => ai st fun a i r => bb (isK O m a 1) (gb (inb i (ix (oI O m 0 0))) (C nx ls (.int (oI O m a (ix i)) :: r) m)) (gb (at_ O m a 40 i) (C nx ls (.int (oI O m a (ix i)) :: r) m))
  | .baload => ai st fun a i r => bb (isK O m a 3) (gb (inb i (oS O m a).2) (C nx ls (.int (txt a (ix i)) :: r) m)) (gb (at_ O m a 41 i || at_ O m a 42 i) (C nx ls (.int (oI O m a (ix i)) :: r) m))
  | .laload => ai st fun a i r => gb (at_ O m a 43 i) (C nx ls (.long (oL O m a (ix i)) :: r) m)
  | .aaload => ai st fun a i r => gb (at_ O m a 44 i || at_ O m a 45 i || at_ O m a 46 i) (C nx ls (.ref (oR O m a (ix i)) :: r) m)
  | .iastore => aii st fun a i v r => gb (at_ O m a 40 i) (C nx ls r (pI O m a (ix i) v))
  | .bastore => aii st fun a i v r => bb (isK O m a 41) (gb (at_ O m a 41 i) (C nx ls r (pI O m a (ix i) v.toInt8.toInt32))) (gb (at_ O m a 42 i) (C nx ls r (pI O m a (ix i) (v &&& 1))))
  | .lastore => ail st fun a i v r => gb (at_ O m a 43 i) (C nx ls r (pL O m a (ix i) v))
  | .aastore => aia st fun a i v r => gb ((at_ O m a 44 i || at_ O m a 45 i || at_ O m a 46 i) && isK O m v (nslots (oS O m a).1)) (oB (pR O m a (ix i) v) fun m => C nx ls r m)
  | .arraylength => ua st fun a r => bb (isK O m a 1) (C nx ls (.int (oI O m 0 0) :: r) m) (gb (isK O m a 3 || isK O m a 40 || isK O m a 41 || isK O m a 42 || isK O m a 43 || isK O m a 44 || isK O m a 45 || isK O m a 46) (C nx ls (.int (iI (oS O m a).2) :: r) m))
  | .new k => oX (cres me.2.1 k) fun c => oP (oN O m (10 + c.1, 0) c.2.1) fun a m => C nx ls (.ref a :: st) m
  | .newarray t => u1 st fun n r => newA O C nx ls r m (arrK t) n
  | .anewarray k => oX (ares me.2.1 k) fun t => u1 st fun n r => newA O C nx ls r m t.1 n
  | .invokevirtual k => oX (mres me.2.1 k) fun q => gb (Nat.ble (catS (st.drop (q.2.1 + 1))) 8) (ua (st.drop q.2.1) fun b rest => gb (isK O m b q.2.2 && !(Nat.beq q.2.2 0)) (ivk K C q.1 nx ls (.ref b :: (st.take q.2.1).reverse) rest m))
  | .invokestatic k => oX (mres me.2.1 k) fun q => gb (Nat.ble (catS (st.drop q.2.1)) 8 && (Nat.ble q.2.1 st.length && Nat.beq q.2.2 0)) (ivk K C q.1 nx ls (st.take q.2.1).reverse (st.drop q.2.1) m)
  | .invokespecial k => bb (oini me.2.1 k) (ua st fun a r => gb (Nat.ble (catS r) 8 && Nat.ble 100 a) (C nx ls r m)) (oX (mres me.2.1 k) fun q => gb (Nat.ble (catS (st.drop (q.2.1 + 1))) 8) (ua (st.drop q.2.1) fun b rest => gb (isK O m b q.2.2 && (!(Nat.beq q.2.2 0) && q.1.2.2.2.2.2)) (ivk K C q.1 nx ls (.ref b :: (st.take q.2.1).reverse) rest m)))
  | .ireturn => ret1 me st m
  | .lreturn => match st with
    | [.long v] => match me.2.2.2.2.1 with
      | 6 => some (.long v, m)
      | _ => none
    | _ => none
  | .areturn => match st with
    | [.ref v] => match me.2.2.2.2.1 with
      | 7 => some (.ref v, m)
      | _ => none
    | _ => none
  | .return_ => match st with
    | [] => match me.2.2.2.2.1 with
      | 0 => some (.null, m)
      | _ => none
    | _ => none
  | _ => none
def stp (O : Ops μ) (K : MD → List Value → μ → Rs μ) (me : MD) (C : Nat → List Value → List Value → μ → Rs μ) (pc : Nat) (ls st : List Value) (m : μ) : Rs μ := match lkN me.2.2.1 pc with
  | some (i, l) => ins O K C me pc (pc + l) ls st m i
  | none => none
def run (O : Ops μ) (K : MD → List Value → μ → Rs μ) (me : MD) : Nat → Nat → List Value → List Value → μ → Rs μ
  | 0 => fun _ _ _ _ => none
  | n + 1 => stp O K me (run O K me n)
end Core
end
section
/-! RUNS: a run's limit, calls by depth, unfolding. -/
section Runs
variable {μ : Type} {O : Ops μ} {K : MD → List Value → μ → Rs μ} {me : MD}
def Cont (μ : Type) : Type := Nat → List Value → List Value → μ → Rs μ
/-- one instruction goes on at one place, or is at an end -/
def One (f : Cont μ → Rs μ) : Prop := (∃ (pc : Nat) (ls st : List Value) (m : μ), ∀ C : Cont μ, f C = C pc ls st m) ∨ ∃ r : Rs μ, ∀ C : Cont μ, f C = r
theorem on_go (pc : Nat) (ls st : List Value) (m : μ) : One (fun C : Cont μ => C pc ls st m) := Or.inl ⟨pc, ls, st, m, fun _ => rfl⟩
theorem on_no (r : Rs μ) : One (fun _ : Cont μ => r) := Or.inr ⟨r, fun _ => rfl⟩
theorem on_gb {b : Bool} {f : Cont μ → Rs μ} (h : One f) : One (fun C => gb b (f C)) := by
  cases b
  · exact on_no none
  · exact h
theorem on_ite {P : Prop} [Decidable P] {f g : Cont μ → Rs μ} (hf : One f) (hg : One g) : One (fun C => if P then f C else g C) := by
  by_cases h : P
  · simp only [h, if_true]; exact hf
  · simp only [h, if_false]; exact hg
theorem on_oX {α : Type} {o : Option α} {f : α → Cont μ → Rs μ} (h : ∀ q, One (f q)) : One (fun C => oX o (fun q => f q C)) := by
  cases o with
  | none => exact on_no none
  | some q => exact h q
theorem on_oB {o : Option μ} {f : μ → Cont μ → Rs μ} (h : ∀ q, One (f q)) : One (fun C => oB o (fun q => f q C)) := by
  cases o with
  | none => exact on_no none
  | some q => exact h q
theorem on_oP {o : Option (Nat × μ)} {f : Nat → μ → Cont μ → Rs μ} (h : ∀ a q, One (f a q)) : One (fun C => oP o (fun a q => f a q C)) := by
  cases o with
  | none => exact on_no none
  | some q => exact h q.1 q.2
theorem on_bI {o : Rs μ} {f : Int32 → μ → Cont μ → Rs μ} (h : ∀ a q, One (f a q)) : One (fun C => bI o (fun a q => f a q C)) := by
  match o with
  | some (.int r, m) => exact h r m
  | none => exact on_no none
  | some (.long r, m) => exact on_no none
  | some (.float r, m) => exact on_no none
  | some (.double r, m) => exact on_no none
  | some (.null, m) => exact on_no none
  | some (.ref r, m) => exact on_no none
  | some (.retAddr r, m) => exact on_no none
theorem on_bL {o : Rs μ} {f : Int64 → μ → Cont μ → Rs μ} (h : ∀ a q, One (f a q)) : One (fun C => bL o (fun a q => f a q C)) := by
  match o with
  | some (.int r, m) => exact on_no none
  | none => exact on_no none
  | some (.long r, m) => exact h r m
  | some (.float r, m) => exact on_no none
  | some (.double r, m) => exact on_no none
  | some (.null, m) => exact on_no none
  | some (.ref r, m) => exact on_no none
  | some (.retAddr r, m) => exact on_no none
theorem on_bR {o : Rs μ} {f : Nat → μ → Cont μ → Rs μ} (h : ∀ a q, One (f a q)) : One (fun C => bR o (fun a q => f a q C)) := by
  match o with
  | some (.int r, m) => exact on_no none
  | none => exact on_no none
  | some (.long r, m) => exact on_no none
  | some (.float r, m) => exact on_no none
  | some (.double r, m) => exact on_no none
  | some (.null, m) => exact on_no none
  | some (.ref r, m) => exact h r m
  | some (.retAddr r, m) => exact on_no none
theorem on_bV {o : Rs μ} {f : μ → Cont μ → Rs μ} (h : ∀ q, One (f q)) : One (fun C => bV o (fun q => f q C)) := by
  match o with
  | some (.int r, m) => exact on_no none
  | none => exact on_no none
  | some (.long r, m) => exact on_no none
  | some (.float r, m) => exact on_no none
  | some (.double r, m) => exact on_no none
  | some (.null, m) => exact h m
  | some (.ref r, m) => exact on_no none
  | some (.retAddr r, m) => exact on_no none
theorem on_ivk {me : MD} {nx : Nat} {ls args rest : List Value} {m : μ} : One (fun C : Cont μ => ivk K C me nx ls args rest m) := by
  unfold ivk
  split
  · exact on_bV (fun q => on_go _ _ _ _)
  · exact on_bL (fun a q => on_go _ _ _ _)
  · exact on_bR (fun a q => on_go _ _ _ _)
  · exact on_bI (fun a q => on_go _ _ _ _)
theorem on_swt {x : Int32} {f : Int → Cont μ → Rs μ} {d : Cont μ → Rs μ} (hf : ∀ o, One (f o)) (hd : One d) : ∀ (l : List Int) (k : Int), One (fun C => swt x (fun o => f o C) (d C) k l)
  | [], k => hd
  | o :: l, k => on_ite (hf o) (on_swt hf hd l (k + 1))
theorem on_swl {x : Int32} {f : Int → Cont μ → Rs μ} {d : Cont μ → Rs μ} (hf : ∀ o, One (f o)) (hd : One d) : ∀ (l : List (Int × Int)), One (fun C => swl x (fun o => f o C) (d C) l)
  | [] => hd
  | (k, o) :: l => on_ite (hf o) (on_swl hf hd l)
theorem on_br {c : Jvm.ClassFile.Cond} {x y : Int32} {f g : Cont μ → Rs μ} (hf : One f) (hg : One g) : One (fun C => br c x y (f C) (g C)) := by
  cases c
  · exact on_ite hf hg
  · exact on_ite hg hf
  · exact on_ite hf hg
  · exact on_ite hg hf
  · exact on_ite hf hg
  · exact on_ite hg hf
theorem on_sto {nx : Nat} {ls : List Value} {i : Nat} {v : Value} {r : List Value} {m : μ} : One (fun C : Cont μ => sto C nx ls i v r m) := on_gb (on_go _ _ _ _)
theorem on_sto2 {nx : Nat} {ls : List Value} {i : Nat} {v : Int64} {r : List Value} {m : μ} : One (fun C : Cont μ => sto2 C nx ls i v r m) := on_gb (on_go _ _ _ _)
theorem on_newA {nx : Nat} {ls r : List Value} {m : μ} {k : Nat} {n : Int32} : One (fun C : Cont μ => newA O C nx ls r m k n) := on_gb (on_oP (fun _ _ => on_go _ _ _ _))
theorem on_ldI {ls : List Value} {k : Nat} {f : Int32 → Cont μ → Rs μ} (h : ∀ x0, One (f x0)) : One (fun C => ldI ls k (fun x0 => f x0 C)) := by
  unfold ldI
  repeat' split
  all_goals first | exact h _ | exact h _ _ | exact h _ _ _ | exact h _ _ _ _ | exact on_gb (h _ _) | exact on_gb (h _ _ _) | exact on_no none
theorem on_ldA {ls : List Value} {k : Nat} {f : Nat → Cont μ → Rs μ} (h : ∀ x0, One (f x0)) : One (fun C => ldA ls k (fun x0 => f x0 C)) := by
  unfold ldA
  repeat' split
  all_goals first | exact h _ | exact h _ _ | exact h _ _ _ | exact h _ _ _ _ | exact on_gb (h _ _) | exact on_gb (h _ _ _) | exact on_no none
theorem on_ldL {ls : List Value} {k : Nat} {f : Int64 → Cont μ → Rs μ} (h : ∀ x0, One (f x0)) : One (fun C => ldL ls k (fun x0 => f x0 C)) := by
  unfold ldL
  repeat' split
  all_goals first | exact h _ | exact h _ _ | exact h _ _ _ | exact h _ _ _ _ | exact on_gb (h _ _) | exact on_gb (h _ _ _) | exact on_no none
theorem on_u1 {st : List Value} {f : Int32 → List Value → Cont μ → Rs μ} (h : ∀ x0 x1, One (f x0 x1)) : One (fun C => u1 st (fun x0 x1 => f x0 x1 C)) := by
  unfold u1
  repeat' split
  all_goals first | exact h _ | exact h _ _ | exact h _ _ _ | exact h _ _ _ _ | exact on_gb (h _ _) | exact on_gb (h _ _ _) | exact on_no none
theorem on_b2 {st : List Value} {f : Int32 → Int32 → List Value → Cont μ → Rs μ} (h : ∀ x0 x1 x2, One (f x0 x1 x2)) : One (fun C => b2 st (fun x0 x1 x2 => f x0 x1 x2 C)) := by
  unfold b2
  repeat' split
  all_goals first | exact h _ | exact h _ _ | exact h _ _ _ | exact h _ _ _ _ | exact on_gb (h _ _) | exact on_gb (h _ _ _) | exact on_no none
theorem on_ul {st : List Value} {f : Int64 → List Value → Cont μ → Rs μ} (h : ∀ x0 x1, One (f x0 x1)) : One (fun C => ul st (fun x0 x1 => f x0 x1 C)) := by
  unfold ul
  repeat' split
  all_goals first | exact h _ | exact h _ _ | exact h _ _ _ | exact h _ _ _ _ | exact on_gb (h _ _) | exact on_gb (h _ _ _) | exact on_no none
theorem on_bl {st : List Value} {f : Int64 → Int64 → List Value → Cont μ → Rs μ} (h : ∀ x0 x1 x2, One (f x0 x1 x2)) : One (fun C => bl st (fun x0 x1 x2 => f x0 x1 x2 C)) := by
  unfold bl
  repeat' split
  all_goals first | exact h _ | exact h _ _ | exact h _ _ _ | exact h _ _ _ _ | exact on_gb (h _ _) | exact on_gb (h _ _ _) | exact on_no none
theorem on_li {st : List Value} {f : Int64 → Int32 → List Value → Cont μ → Rs μ} (h : ∀ x0 x1 x2, One (f x0 x1 x2)) : One (fun C => li st (fun x0 x1 x2 => f x0 x1 x2 C)) := by
  unfold li
  repeat' split
  all_goals first | exact h _ | exact h _ _ | exact h _ _ _ | exact h _ _ _ _ | exact on_gb (h _ _) | exact on_gb (h _ _ _) | exact on_no none
theorem on_ua {st : List Value} {f : Nat → List Value → Cont μ → Rs μ} (h : ∀ x0 x1, One (f x0 x1)) : One (fun C => ua st (fun x0 x1 => f x0 x1 C)) := by
  unfold ua
  repeat' split
  all_goals first | exact h _ | exact h _ _ | exact h _ _ _ | exact h _ _ _ _ | exact on_gb (h _ _) | exact on_gb (h _ _ _) | exact on_no none
theorem on_ba {st : List Value} {f : Nat → Nat → List Value → Cont μ → Rs μ} (h : ∀ x0 x1 x2, One (f x0 x1 x2)) : One (fun C => ba st (fun x0 x1 x2 => f x0 x1 x2 C)) := by
  unfold ba
  repeat' split
  all_goals first | exact h _ | exact h _ _ | exact h _ _ _ | exact h _ _ _ _ | exact on_gb (h _ _) | exact on_gb (h _ _ _) | exact on_no none
theorem on_ai {st : List Value} {f : Nat → Int32 → List Value → Cont μ → Rs μ} (h : ∀ x0 x1 x2, One (f x0 x1 x2)) : One (fun C => ai st (fun x0 x1 x2 => f x0 x1 x2 C)) := by
  unfold ai
  repeat' split
  all_goals first | exact h _ | exact h _ _ | exact h _ _ _ | exact h _ _ _ _ | exact on_gb (h _ _) | exact on_gb (h _ _ _) | exact on_no none
theorem on_aii {st : List Value} {f : Nat → Int32 → Int32 → List Value → Cont μ → Rs μ} (h : ∀ x0 x1 x2 x3, One (f x0 x1 x2 x3)) : One (fun C => aii st (fun x0 x1 x2 x3 => f x0 x1 x2 x3 C)) := by
  unfold aii
  repeat' split
  all_goals first | exact h _ | exact h _ _ | exact h _ _ _ | exact h _ _ _ _ | exact on_gb (h _ _) | exact on_gb (h _ _ _) | exact on_no none
theorem on_ail {st : List Value} {f : Nat → Int32 → Int64 → List Value → Cont μ → Rs μ} (h : ∀ x0 x1 x2 x3, One (f x0 x1 x2 x3)) : One (fun C => ail st (fun x0 x1 x2 x3 => f x0 x1 x2 x3 C)) := by
  unfold ail
  repeat' split
  all_goals first | exact h _ | exact h _ _ | exact h _ _ _ | exact h _ _ _ _ | exact on_gb (h _ _) | exact on_gb (h _ _ _) | exact on_no none
theorem on_aia {st : List Value} {f : Nat → Int32 → Nat → List Value → Cont μ → Rs μ} (h : ∀ x0 x1 x2 x3, One (f x0 x1 x2 x3)) : One (fun C => aia st (fun x0 x1 x2 x3 => f x0 x1 x2 x3 C)) := by
  unfold aia
  repeat' split
  all_goals first | exact h _ | exact h _ _ | exact h _ _ _ | exact h _ _ _ _ | exact on_gb (h _ _) | exact on_gb (h _ _ _) | exact on_no none
theorem on_ia {st : List Value} {f : Nat → Int32 → List Value → Cont μ → Rs μ} (h : ∀ x0 x1 x2, One (f x0 x1 x2)) : One (fun C => ia st (fun x0 x1 x2 => f x0 x1 x2 C)) := by
  unfold ia
  repeat' split
  all_goals first | exact h _ | exact h _ _ | exact h _ _ _ | exact h _ _ _ _ | exact on_gb (h _ _) | exact on_gb (h _ _ _) | exact on_no none
theorem on_la {st : List Value} {f : Nat → Int64 → List Value → Cont μ → Rs μ} (h : ∀ x0 x1 x2, One (f x0 x1 x2)) : One (fun C => la st (fun x0 x1 x2 => f x0 x1 x2 C)) := by
  unfold la
  repeat' split
  all_goals first | exact h _ | exact h _ _ | exact h _ _ _ | exact h _ _ _ _ | exact on_gb (h _ _) | exact on_gb (h _ _ _) | exact on_no none
theorem on_v1 {st : List Value} {f : Value → List Value → Cont μ → Rs μ} (h : ∀ x0 x1, One (f x0 x1)) : One (fun C => v1 st (fun x0 x1 => f x0 x1 C)) := by
  unfold v1
  repeat' split
  all_goals first | exact h _ | exact h _ _ | exact h _ _ _ | exact h _ _ _ _ | exact on_gb (h _ _) | exact on_gb (h _ _ _) | exact on_no none
theorem on_v2 {st : List Value} {f : Value → Value → List Value → Cont μ → Rs μ} (h : ∀ x0 x1 x2, One (f x0 x1 x2)) : One (fun C => v2 st (fun x0 x1 x2 => f x0 x1 x2 C)) := by
  unfold v2
  repeat' split
  all_goals first | exact h _ | exact h _ _ | exact h _ _ _ | exact h _ _ _ _ | exact on_gb (h _ _) | exact on_gb (h _ _ _) | exact on_no none
theorem on_bb {b : Bool} {f g : Cont μ → Rs μ} (hf : One f) (hg : One g) : One (fun C => bb b (f C) (g C)) := by
  cases b
  · exact hg
  · exact hf
theorem on_oE {α : Type} {o : Option α} {f : α → Cont μ → Rs μ} {g : Cont μ → Rs μ} (h : ∀ q, One (f q)) (hg : One g) : One (fun C => oE o (fun q => f q C) (g C)) := by
  cases o with
  | none => exact hg
  | some q => exact h q
theorem on_bra {c : Jvm.ClassFile.ACond} {x y : Nat} {f g : Cont μ → Rs μ} (hf : One f) (hg : One g) : One (fun C => bra c x y (f C) (g C)) := by
  cases c
  · exact on_ite hf hg
  · exact on_ite hg hf
theorem on_getF {nx : Nat} {ls r : List Value} {m : μ} {a : Nat} {f : Nat × Nat × Nat × Bool × Nat} : One (fun C : Cont μ => getF O C nx ls r m a f) := by
  unfold getF
  refine on_gb ?_
  split <;> exact on_go _ _ _ _
theorem on_putF {nx : Nat} {ls st : List Value} {m : μ} {f : Nat × Nat × Nat × Bool × Nat} : One (fun C : Cont μ => putF O C me nx ls st m f) := by
  unfold putF
  refine on_gb ?_
  split
  · exact on_ia (fun _ _ _ => on_gb (on_go _ _ _ _))
  · exact on_la (fun _ _ _ => on_gb (on_go _ _ _ _))
  · exact on_ba (fun _ _ _ => on_gb (on_oB (fun _ => on_go _ _ _ _)))
  · exact on_ia (fun _ _ _ => on_gb (on_gb (on_go _ _ _ _)))
  · exact on_no none
set_option maxHeartbeats 4000000 in
theorem one_ins (pc nx : Nat) (ls st : List Value) (m : μ) (i : Jvm.ClassFile.Instr) : One (fun C : Cont μ => ins O K C me pc nx ls st m i) := by
  cases i
  case iload_n => exact on_ldI (fun _ => on_go _ _ _ _)
  case iload => exact on_ldI (fun _ => on_go _ _ _ _)
  case aload_n => exact on_ldA (fun _ => on_go _ _ _ _)
  case aload => exact on_ldA (fun _ => on_go _ _ _ _)
  case lload_n => exact on_ldL (fun _ => on_go _ _ _ _)
  case lload => exact on_ldL (fun _ => on_go _ _ _ _)
  case istore_n => exact on_u1 (fun _ _ => on_sto)
  case istore => exact on_u1 (fun _ _ => on_sto)
  case astore_n => exact on_ua (fun _ _ => on_sto)
  case astore => exact on_ua (fun _ _ => on_sto)
  case lstore_n => exact on_ul (fun _ _ => on_sto2)
  case lstore => exact on_ul (fun _ _ => on_sto2)
  case iinc => exact on_ldI (fun _ => on_sto)
  case iconst => exact on_go _ _ _ _
  case bipush => exact on_go _ _ _ _
  case sipush => exact on_go _ _ _ _
  case lconst => exact on_go _ _ _ _
  case ldc => exact on_oE (fun _ => on_go _ _ _ _) (on_oX (fun _ => on_go _ _ _ _))
  case ldc_w => exact on_oX (fun _ => on_go _ _ _ _)
  case ldc2_w => exact on_oX (fun _ => on_go _ _ _ _)
  case idiv => exact on_b2 (fun _ _ _ => on_gb (on_go _ _ _ _))
  case irem => exact on_b2 (fun _ _ _ => on_gb (on_go _ _ _ _))
  case dup => exact on_v1 (fun _ _ => on_go _ _ _ _)
  case pop => exact on_v1 (fun _ _ => on_go _ _ _ _)
  case dup_x1 => exact on_v2 (fun _ _ _ => on_go _ _ _ _)
  case dup2 => exact on_v2 (fun _ _ _ => on_go _ _ _ _)
  case ifCond => exact on_u1 (fun _ _ => on_br (on_go _ _ _ _) (on_go _ _ _ _))
  case if_icmp => exact on_b2 (fun _ _ _ => on_br (on_go _ _ _ _) (on_go _ _ _ _))
  case if_acmp => exact on_ba (fun _ _ _ => on_gb (on_bra (on_go _ _ _ _) (on_go _ _ _ _)))
  case ifnull => exact on_ua (fun _ _ => on_gb (on_ite (on_go _ _ _ _) (on_go _ _ _ _)))
  case ifnonnull => exact on_ua (fun _ _ => on_gb (on_ite (on_go _ _ _ _) (on_go _ _ _ _)))
  case goto => exact on_go _ _ _ _
  case tableswitch => exact on_u1 (fun _ _ => on_swt (fun _ => on_go _ _ _ _) (on_go _ _ _ _) _ _)
  case lookupswitch => exact on_u1 (fun _ _ => on_swl (fun _ => on_go _ _ _ _) (on_go _ _ _ _) _)
  case getfield => exact on_oX (fun _ => on_ua (fun _ _ => on_getF))
  case putfield => exact on_oX (fun _ => on_putF)
  case getstatic => exact on_oX (fun _ => on_bb (on_go _ _ _ _) (on_go _ _ _ _))
  case iaload => exact on_ai (fun _ _ _ => on_bb (on_gb (on_go _ _ _ _)) (on_gb (on_go _ _ _ _)))
  case baload => exact on_ai (fun _ _ _ => on_bb (on_gb (on_go _ _ _ _)) (on_gb (on_go _ _ _ _)))
  case laload => exact on_ai (fun _ _ _ => on_gb (on_go _ _ _ _))
  case aaload => exact on_ai (fun _ _ _ => on_gb (on_go _ _ _ _))
  case iastore => exact on_aii (fun _ _ _ _ => on_gb (on_go _ _ _ _))
  case bastore => exact on_aii (fun _ _ _ _ => on_bb (on_gb (on_go _ _ _ _)) (on_gb (on_go _ _ _ _)))
  case lastore => exact on_ail (fun _ _ _ _ => on_gb (on_go _ _ _ _))
  case aastore => exact on_aia (fun _ _ _ _ => on_gb (on_oB (fun _ => on_go _ _ _ _)))
  case arraylength => exact on_ua (fun _ _ => on_bb (on_go _ _ _ _) (on_gb (on_go _ _ _ _)))
  case new => exact on_oX (fun _ => on_oP (fun _ _ => on_go _ _ _ _))
  case newarray => exact on_u1 (fun _ _ => on_newA)
  case anewarray => exact on_oX (fun _ => on_u1 (fun _ _ => on_newA))
  case invokevirtual => exact on_oX (fun _ => on_gb (on_ua (fun _ _ => on_gb on_ivk)))
  case invokestatic => exact on_oX (fun _ => on_gb on_ivk)
  case invokespecial => exact on_bb (on_ua (fun _ _ => on_gb (on_go _ _ _ _))) (on_oX (fun _ => on_gb (on_ua (fun _ _ => on_gb on_ivk))))
  all_goals first
    | exact on_b2 (fun _ _ _ => on_go _ _ _ _)
    | exact on_bl (fun _ _ _ => on_go _ _ _ _)
    | exact on_li (fun _ _ _ => on_go _ _ _ _)
    | exact on_u1 (fun _ _ => on_go _ _ _ _)
    | exact on_ul (fun _ _ => on_go _ _ _ _)
    | exact on_no _
theorem one_stp (pc : Nat) (ls st : List Value) (m : μ) : One (fun C : Cont μ => stp O K me C pc ls st m) := by
  unfold stp
  split
  · exact one_ins _ _ _ _ _ _
  · exact on_no none
theorem run_mono : ∀ (n pc : Nat) (ls st : List Value) (m : μ) (r : Value × μ), run O K me n pc ls st m = some r → run O K me (n + 1) pc ls st m = some r
  | 0, pc, ls, st, m, r, h => by cases h
  | n + 1, pc, ls, st, m, r, h => by
    rcases one_stp (O := O) (K := K) (me := me) pc ls st m with ⟨pc', ls', st', m', hC⟩ | ⟨q, hq⟩
    · have h1 : run O K me (n + 1) pc ls st m = run O K me n pc' ls' st' m' := hC _
      have h2 : run O K me (n + 1 + 1) pc ls st m = run O K me (n + 1) pc' ls' st' m' := hC _
      rw [h2]
      rw [h1] at h
      exact run_mono n _ _ _ _ _ h
    · have h1 : run O K me (n + 1) pc ls st m = q := hq _
      have h2 : run O K me (n + 1 + 1) pc ls st m = q := hq _
      rw [h2, ← h1]
      exact h
theorem run_le {n k : Nat} (hk : n ≤ k) {pc : Nat} {ls st : List Value} {m : μ} {r : Value × μ} (h : run O K me n pc ls st m = some r) : run O K me k pc ls st m = some r := by
  induction hk with
  | refl => exact h
  | step _ ih => exact run_mono _ _ _ _ _ _ ih
theorem run_det {n k pc : Nat} {ls st : List Value} {m : μ} {r q : Value × μ} (h : run O K me n pc ls st m = some r) (h2 : run O K me k pc ls st m = some q) : r = q := by
  have a := run_le (Nat.le_max_left n k) h
  have b := run_le (Nat.le_max_right n k) h2
  rw [a] at b
  exact Option.some.inj b
noncomputable def lim (O : Ops μ) (K : MD → List Value → μ → Rs μ) (me : MD) : Cont μ := fun pc ls st m =>
  @dite _ (∃ (r : Value × μ) (n : Nat), run O K me n pc ls st m = some r) (Classical.propDecidable _) (fun h => some (Classical.choose h)) (fun _ => none)
theorem lim_some {pc : Nat} {ls st : List Value} {m : μ} {r : Value × μ} : lim O K me pc ls st m = some r ↔ ∃ n, run O K me n pc ls st m = some r := by
  unfold lim
  by_cases h : ∃ (r : Value × μ) (n : Nat), run O K me n pc ls st m = some r
  · rw [dif_pos h]
    obtain ⟨n, hn⟩ := Classical.choose_spec h
    constructor
    · intro e
      exact ⟨n, by rw [hn]; exact e⟩
    · intro ⟨k, hk⟩
      exact congrArg some (run_det hn hk)
  · rw [dif_neg h]
    constructor
    · intro e; cases e
    · intro ⟨n, hn⟩; exact absurd ⟨r, n, hn⟩ h
theorem lim_eq (pc : Nat) (ls st : List Value) (m : μ) : lim O K me pc ls st m = stp O K me (lim O K me) pc ls st m := by
  refine Option.ext (fun r => ?_)
  rw [lim_some]
  rcases one_stp (O := O) (K := K) (me := me) pc ls st m with ⟨pc', ls', st', m', hC⟩ | ⟨q, hq⟩
  · have e1 : stp O K me (lim O K me) pc ls st m = lim O K me pc' ls' st' m' := hC _
    rw [e1, lim_some]
    constructor
    · intro ⟨n, hn⟩
      cases n with
      | zero => cases hn
      | succ n => exact ⟨n, by have h1 : run O K me (n + 1) pc ls st m = run O K me n pc' ls' st' m' := hC _; rw [← h1]; exact hn⟩
    · intro ⟨n, hn⟩
      exact ⟨n + 1, by have h1 : run O K me (n + 1) pc ls st m = run O K me n pc' ls' st' m' := hC _; rw [h1]; exact hn⟩
  · have e1 : stp O K me (lim O K me) pc ls st m = q := hq _
    rw [e1]
    constructor
    · intro ⟨n, hn⟩
      cases n with
      | zero => cases hn
      | succ n => have h1 : run O K me (n + 1) pc ls st m = q := hq _; rw [← h1]; exact hn
    · intro e
      exact ⟨1, by have h1 : run O K me (0 + 1) pc ls st m = q := hq _; rw [h1]; exact e⟩
end Runs
def entA : List Value → List Value
  | [] => []
  | .long x :: r => .long x :: mk2 :: entA r
  | v :: r => v :: entA r
def padL (l : List Value) (n : Nat) : List Value := l ++ List.replicate (n - l.length) uns
def ent (n : Nat) (args : List Value) : List Value := padL (entA args) n
def aV1 : Value → Bool
  | .int _ => true
  | .ref _ => true
  | .long _ => true
  | _ => false
def aOk (n : Nat) (as : List Value) : Bool := as.all aV1 && Nat.ble (entA as).length n
section Depth
variable {μ : Type}
/-- a call, by how deep calls may stand -/
noncomputable def cl (O : Ops μ) : Nat → MD → List Value → μ → Rs μ
  | 0 => fun _ _ _ => none
  | d + 1 => fun me args m => gb (aOk me.2.2.2.1 args) (lim O (cl O d) me 0 (ent me.2.2.2.1 args) [] m)
noncomputable def XX (O : Ops μ) (d : Nat) (me : MD) : Cont μ := lim O (cl O d) me
theorem XX_eq (O : Ops μ) (d : Nat) (me : MD) (pc : Nat) (ls st : List Value) (m : μ) : XX O d me pc ls st m = stp O (cl O d) me (XX O d me) pc ls st m := lim_eq pc ls st m
theorem cl_succ (O : Ops μ) (d : Nat) (me : MD) (args : List Value) (m : μ) : cl O (d + 1) me args m = gb (aOk me.2.2.2.1 args) (XX O d me 0 (ent me.2.2.2.1 args) [] m) := rfl
/-- unfolded n instructions far, up to the cuts -/
noncomputable def sx (O : Ops μ) (d : Nat) (me : MD) (cuts : List Nat) : Nat → Cont μ
  | 0 => XX O d me
  | n + 1 => stp O (cl O d) me (fun pc ls st m => bb (cuts.any (fun k => Nat.beq k pc)) (XX O d me pc ls st m) (sx O d me cuts n pc ls st m))
theorem sx_eq (O : Ops μ) (d : Nat) (me : MD) (cuts : List Nat) : ∀ (n pc : Nat) (ls st : List Value) (m : μ), XX O d me pc ls st m = sx O d me cuts n pc ls st m
  | 0, _, _, _, _ => rfl
  | n + 1, pc, ls, st, m => by
    rw [XX_eq]
    have e : (fun pc ls st m => bb (cuts.any (fun k => Nat.beq k pc)) (XX O d me pc ls st m) (sx O d me cuts n pc ls st m)) = XX O d me := by
      funext pc ls st m
      rw [← sx_eq O d me cuts n pc ls st m]
      cases cuts.any (fun k => Nat.beq k pc) <;> rfl
    show stp O (cl O d) me (XX O d me) pc ls st m = stp O (cl O d) me (fun pc ls st m => bb (cuts.any (fun k => Nat.beq k pc)) (XX O d me pc ls st m) (sx O d me cuts n pc ls st m)) pc ls st m
    rw [e]
end Depth
end
section
/-! THE MEMORY once all is made: ints, longs, references that change; shapes and the other references stand in tables. -/
abbrev Mem : Type := (Nat → Nat → Int32) × (Nat → Nat → Int64) × (Nat → Nat → Nat)
def up2 {α : Type} (f : Nat → Nat → α) (a k : Nat) (v : α) : Nat → Nat → α := fun a' k' => if a' = a then (if k' = k then v else f a' k') else f a' k'
def sR (a k : Nat) : Nat := bb (Nat.ble 100 a) ((srT.getD (a - 100) []).getD k 0) 0
def gI (m : Mem) (a k : Nat) : Int32 := m.1 a k
def gL (m : Mem) (a k : Nat) : Int64 := m.2.1 a k
def gR (m : Mem) (a k : Nat) : Nat := bb (Nat.beq (sR a k) 0) (m.2.2 a k) (sR a k)
def wI (m : Mem) (a k : Nat) (v : Int32) : Mem := (up2 m.1 a k v, m.2)
def wL (m : Mem) (a k : Nat) (v : Int64) : Mem := (m.1, up2 m.2.1 a k v, m.2.2)
def wR (m : Mem) (a k : Nat) (v : Nat) : Mem := (m.1, m.2.1, up2 m.2.2 a k v)
def wR2 (m : Mem) (a k : Nat) (v : Nat) : Option Mem := bb (Nat.beq (sR a k) 0) (some (wR m a k v)) none
def O2 : Ops Mem := (fun _ a => sh0 a, gI, gL, gR, wI, wL, wR2, fun _ _ _ => none)
noncomputable abbrev X2 (d : Nat) (me : MD) : Nat → List Value → List Value → Mem → Rs Mem := XX O2 d me
noncomputable abbrev c2 (d : Nat) : MD → List Value → Mem → Rs Mem := cl O2 d
end
section
/-! THE WORLD: how the interpreter's memory stands in the machine's heap. -/
abbrev Wd : Type := va_G × (Nat → ClassId) × Nat × (Nat → Option Nat) × Nat × (Nat → Int32)
def adr (G : Wd) (n : Nat) : Option Nat := if n = 0 then none else if n < 100 then G.2.2.2.1 n else some (G.2.2.1 + (n - 100))
def cv (G : Wd) : Value → Value
  | .ref n => va_rf (adr G n)
  | v => v
def rv (G : Wd) : Value → Option Value
  | .null => none
  | v => some (cv G v)
/-- how many cells, how many slots are made; ints, longs, references -/
abbrev M1 : Type := Nat × Nat × (Nat → Nat → Int32) × (Nat → Nat → Int64) × (Nat → Nat → Nat)
def row0 {α : Type} (f : Nat → Nat → α) (a : Nat) (z : α) : Nat → Nat → α := fun a' => if a' = a then (fun _ => z) else f a'
def s1 (m : M1) (a : Nat) : Nat × Nat := bb (Nat.blt a (100 + m.1)) (sh0 a) (0, 0)
def n1 (m : M1) (sh : Nat × Nat) (w : Nat) : Option (Nat × M1) := bb (decide (sh0 (100 + m.1) = sh)) (some (100 + m.1, (m.1 + 1, m.2.1 + w, row0 m.2.2.1 (100 + m.1) 0, row0 m.2.2.2.1 (100 + m.1) 0, row0 m.2.2.2.2 (100 + m.1) 0))) none
def i1 (m : M1) (a k : Nat) (v : Int32) : M1 := (m.1, m.2.1, up2 m.2.2.1 a k v, m.2.2.2)
def l1 (m : M1) (a k : Nat) (v : Int64) : M1 := (m.1, m.2.1, m.2.2.1, up2 m.2.2.2.1 a k v, m.2.2.2.2)
def r1 (m : M1) (a k : Nat) (v : Nat) : M1 := (m.1, m.2.1, m.2.2.1, m.2.2.2.1, up2 m.2.2.2.2 a k v)
def O1 : Ops M1 := (s1, fun m a k => m.2.2.1 a k, fun m a k => m.2.2.2.1 a k, fun m a k => m.2.2.2.2 a k, i1, l1, fun m a k v => some (r1 m a k v), n1)
def nF (ci : Nat) : Nat := (ftyT.getD ci []).length
def fV (G : Wd) (m : M1) (id ci k : Nat) : Value := match (ftyT.getD ci []).getD k 0 with
  | 1 => .long (m.2.2.2.1 id k)
  | 2 => va_rf (adr G (m.2.2.2.2 id k))
  | _ => .int (m.2.2.1 id k)
def aV (G : Wd) (m : M1) (id kd j : Nat) : Value := if kd = 43 then .long (m.2.2.2.1 id j) else if 44 ≤ kd then va_rf (adr G (m.2.2.2.2 id j)) else .int (m.2.2.1 id j)
def ad (G : Wd) (id : Nat) : Nat := G.2.2.1 + (id - 100)
def RepC (G : Wd) (m : M1) (H : Heap) (id : Nat) : Prop := if (sh0 id).1 < 40 then t_OB (ad G id) (G.1.1 ((sh0 id).1 - 10)) (nF ((sh0 id).1 - 10)) (G.1.2 ((sh0 id).1 - 10)) H (fV G m id ((sh0 id).1 - 10)) else H[ad G id]? = some (arrV (G.2.1 (sh0 id).1) (sh0 id).2 (aV G m id (sh0 id).1))
def RepH (G : Wd) (m : M1) (H : Heap) : Prop := H.size = G.2.2.1 + m.1 ∧ (∀ id, 100 ≤ id → id < 100 + m.1 → RepC G m H id) ∧ (∀ j, j < G.2.2.2.2.1 → m.2.2.1 1 j = G.2.2.2.2.2 j) ∧ m.2.2.1 0 0 = Int32.ofNat G.2.2.2.2.1 ∧ G.2.2.2.2.1 ≤ 3072
def AA (G : Wd) : Nat → Prop := fun q => G.2.2.1 ≤ q
def TYS (G : Wd) : List (ClassId × FieldType) := [(G.2.1 40, .int), (G.2.1 41, .byte), (G.2.1 42, .boolean), (G.2.1 43, .long), (G.2.1 44, .object "RoseWall$Room"), (G.2.1 45, .object "RoseWall$Moment"), (G.2.1 46, .object "RoseWall$Tray")]
def KX (G : Wd) (U : State) : Prop := va_K G.1 vwCl (TYS G) U
def StrX (G : Wd) (U : State) (H : Heap) (i : Nat) : Prop := ∃ k v : Nat, G.2.2.2.1 (10 + 2 * i) = some k ∧ G.2.2.2.1 (11 + 2 * i) = some v ∧ va_O "java/lang/String" k (AA G) U H ∧ va_OF "java/lang/String" "coder" "B" (.int 0) k (AA G) U H ∧ va_OF "java/lang/String" "value" "[B" (.ref v) k (AA G) U H ∧ va_T .byte v (txtT.getD i []).length (fun j => .int (txt (11 + 2 * i) j)) (AA G) U H
def Ext (G : Wd) (U : State) (H : Heap) : Prop :=
  (∃ b : Nat, G.2.2.2.1 1 = some b ∧ va_T .int b G.2.2.2.2.1 (fun j => .int (G.2.2.2.2.2 j)) (AA G) U H) ∧
  (∀ i, i < 22 → StrX G U H i) ∧
  (∀ own n q, kstr own n = some q → ∃ tx k, G.2.2.2.1 q.1 = some k ∧ vk_R (ownN own) n tx k U) ∧
  va_Z "java/lang/String" "COMPACT_STRINGS" "Z" (.int 1) (AA G) U H ∧
  va_Z "jdk/internal/util/Preconditions" "SIOOBE_FORMATTER" "Ljava/util/function/BiFunction;" (va_rf (G.2.2.2.1 2)) (AA G) U H ∧
  (va_AO "RoseWall$Room" U ∧ va_AO "RoseWall$Moment" U ∧ va_AO "RoseWall$Tray" U) ∧
  (∀ own n q, mrow own n = some q → q.2.2.2.2 ≠ 0 → va_Nw (.methodLinkNest (ownN own) n (nmT.getD q.1 ⟨"", "", ""⟩) "RoseWall") U)
theorem Ext.go {G : Wd} {u U : State} {H H1 : Heap} (hA : u.vm.Alike U.vm) (hR : ∀ own k tx a, vk_R own k tx a u → vk_R own k tx a U) (hN : ∀ own n y, va_Nw (.methodLinkNest own n y "RoseWall") u → va_Nw (.methodLinkNest own n y "RoseWall") U) (hq : ∀ a : Nat, a < H.size → ¬ AA G a → H1[a]? = H[a]?) (h : Ext G u H) : Ext G U H1 := by
  obtain ⟨⟨b, hb, hT⟩, hS, hK, hZ1, hZ2, ⟨a1, a2, a3⟩, hM⟩ := h
  refine ⟨⟨b, hb, (hT.moved hA).kept hq⟩, fun i hi => ?_, fun own n q h => ?_, (hZ1.moved hA).kept hq, (hZ2.moved hA).kept hq, ⟨a1.moved hA, a2.moved hA, a3.moved hA⟩, fun own n q h1 h2 => hN _ _ _ (hM own n q h1 h2)⟩
  · obtain ⟨k, v, e1, e2, q1, q2, q3, q4⟩ := hS i hi
    exact ⟨k, v, e1, e2, (q1.moved hA).kept hq, (q2.moved hA).kept hq, (q3.moved hA).kept hq, (q4.moved hA).kept hq⟩
  · obtain ⟨tx, k, e1, e2⟩ := hK own n q h
    exact ⟨tx, k, e1, hR _ _ _ _ e2⟩
theorem Ext.warm {G : Wd} {u U : State} {H H1 : Heap} (hW : u.WarmedH U.vm) (hq : ∀ a : Nat, a < H.size → ¬ AA G a → H1[a]? = H[a]?) (h : Ext G u H) : Ext G U H1 :=
  Ext.go hW.alike (fun _ _ _ _ h => vk_R.warm hW h) (fun _ _ _ h => va_Nw.warmM hW h) hq h
theorem Ext.same {G : Wd} {u U : State} {H : Heap} (hv : U.vm = u.vm) (h : Ext G u H) : Ext G U H :=
  Ext.go (by rw [hv]; exact Vm.Alike.refl u.vm) (fun _ _ _ _ h => vk_R.same hv h) (fun _ _ _ h => va_Nw.same rfl hv.symm h) (fun _ _ _ => rfl) h
theorem blt_lt {a b : Nat} (h : Nat.blt a b = true) : a < b := Nat.le_of_ble_eq_true h
theorem lt_blt {a b : Nat} (h : a < b) : Nat.blt a b = true := Nat.ble_eq_true_of_le h
/-! locals -/
def okL (l : List Value) (i : Nat) (v : Value) : Prop := match v with
  | .int _ => True
  | .ref _ => True
  | .long _ => l[i + 1]? = some mk2
  | _ => False
def LH (G : Wd) (sl : Array Slot) (nL : Nat) (l : List Value) : Prop := sl.size = nL ∧ l.length = nL ∧ lv_wf sl ∧ ∀ i v, l[i]? = some v → okL l i v → sl[i]? = some (.val (cv G v))
noncomputable def prs (G : Wd) (l : List Value) : List (Nat × Value) := (List.range l.length).filterMap (fun i => match l[i]? with
  | some v => @ite _ (okL l i v) (Classical.propDecidable _) (some (i, cv G v)) none
  | none => none)
theorem prs_mem {G : Wd} {l : List Value} {q : Nat × Value} : q ∈ prs G l ↔ ∃ v, l[q.1]? = some v ∧ okL l q.1 v ∧ q.2 = cv G v := by
  unfold prs
  rw [List.mem_filterMap]
  constructor
  · rintro ⟨i, -, h⟩
    split at h
    · rename_i v hv
      by_cases ho : okL l i v
      · rw [if_pos ho] at h
        cases h
        exact ⟨v, hv, ho, rfl⟩
      · rw [if_neg ho] at h
        cases h
    · cases h
  · rintro ⟨v, hv, ho, e⟩
    refine ⟨q.1, List.mem_range.mpr (List.getElem?_eq_some_iff.mp hv).1, ?_⟩
    rw [hv]
    show @ite _ (okL l q.1 v) (Classical.propDecidable _) (some (q.1, cv G v)) none = some q
    rw [if_pos ho, ← e]
theorem LH.has {G : Wd} {sl : Array Slot} {nL : Nat} {l : List Value} (h : LH G sl nL l) : lv_has sl nL (prs G l) := by
  refine ⟨h.1, h.2.2.1, fun q hq => ?_⟩
  obtain ⟨v, hv, ho, e⟩ := prs_mem.mp hq
  rw [e]
  exact h.2.2.2 _ _ hv ho
theorem cat_rf (r : Option Nat) : (va_rf r).category = 1 := by cases r <;> rfl
theorem cat_cv1 {G : Wd} {v : Value} (h : ¬ ∃ x, v = .long x) (hd : ∀ x, v ≠ .double x) : (cv G v).category = 1 := by
  cases v with
  | ref n => exact cat_rf _
  | long x => exact absurd ⟨x, rfl⟩ h
  | double x => exact absurd rfl (hd x)
  | _ => rfl
theorem LH.set1 {G : Wd} {sl sl' : Array Slot} {nL : Nat} {l : List Value} {i : Nat} {v : Value} (h : LH G sl nL l) (hi : i < nL) (hv1 : (∃ x, v = .int x) ∨ ∃ x, v = .ref x) (h' : lv_has sl' nL ((i, cv G v) :: (prs G l).filter (fun q => !(q.1 == i) && !(q.1 + 1 == i && q.2.category == 2)))) : LH G sl' nL (l.set i v) := by
  refine ⟨h'.1, by rw [List.length_set]; exact h.2.1, h'.2.1, fun j w hj ho => ?_⟩
  by_cases hji : j = i
  · subst hji
    rw [List.getElem?_set_self (by rw [h.2.1]; exact hi)] at hj
    cases hj
    exact h'.2.2 (j, cv G v) List.mem_cons_self
  · rw [List.getElem?_set_ne (Ne.symm hji)] at hj
    have ho2 : okL l j w ∧ (∀ x, w = .long x → j + 1 ≠ i) := by
      cases w with
      | long x =>
        have ho3 : (l.set i v)[j + 1]? = some mk2 := ho
        by_cases hi1 : j + 1 = i
        · rw [hi1, List.getElem?_set_self (by rw [h.2.1]; exact hi)] at ho3
          rcases hv1 with ⟨x, rfl⟩ | ⟨x, rfl⟩ <;> simp [mk2] at ho3
        · rw [List.getElem?_set_ne (Ne.symm hi1)] at ho3
          exact ⟨ho3, fun _ _ => hi1⟩
      | int x => exact ⟨trivial, fun x e => by cases e⟩
      | ref x => exact ⟨trivial, fun x e => by cases e⟩
      | _ => exact absurd ho (by simp [okL])
    refine h'.2.2 (j, cv G w) (List.mem_cons_of_mem _ (List.mem_filter.mpr ⟨prs_mem.mpr ⟨w, hj, ho2.1, rfl⟩, ?_⟩))
    have e1 : (j == i) = false := by simp [hji]
    have e2 : (j + 1 == i && (cv G w).category == 2) = false := by
      cases w with
      | long x => simp [ho2.2 x rfl]
      | ref x => simp [cv, cat_rf]
      | int x => simp [cv, Value.category]
      | _ => exact absurd ho2.1 (by simp [okL])
    show (!(j == i) && !(j + 1 == i && (cv G w).category == 2)) = true
    rw [e1, e2]; rfl
theorem LH.set2 {G : Wd} {sl sl' : Array Slot} {nL : Nat} {l : List Value} {i : Nat} {x : Int64} (h : LH G sl nL l) (hi : i + 1 < nL) (h' : lv_has sl' nL ((i, Value.long x) :: (prs G l).filter (fun q => !(q.1 == i) && (!(q.1 == i + 1) && !(q.1 + 1 == i && q.2.category == 2))))) : LH G sl' nL ((l.set i (.long x)).set (i + 1) mk2) := by
  have hl := h.2.1
  refine ⟨h'.1, by rw [List.length_set, List.length_set]; exact h.2.1, h'.2.1, fun j w hj ho => ?_⟩
  by_cases hj2 : j = i + 1
  · subst hj2
    rw [List.getElem?_set_self (by rw [List.length_set, hl]; exact hi)] at hj
    cases hj
    exact absurd ho (by simp [okL, mk2])
  · rw [List.getElem?_set_ne (Ne.symm hj2)] at hj
    by_cases hji : j = i
    · subst hji
      rw [List.getElem?_set_self (by rw [hl]; omega)] at hj
      cases hj
      exact h'.2.2 (j, .long x) List.mem_cons_self
    · rw [List.getElem?_set_ne (Ne.symm hji)] at hj
      have ho2 : okL l j w ∧ (∀ x, w = .long x → j + 1 ≠ i) := by
        cases w with
        | long y =>
          have ho3 : ((l.set i (.long x)).set (i + 1) mk2)[j + 1]? = some mk2 := ho
          rw [List.getElem?_set_ne (by omega)] at ho3
          by_cases hi1 : j + 1 = i
          · rw [hi1, List.getElem?_set_self (by rw [hl]; omega)] at ho3
            simp [mk2] at ho3
          · rw [List.getElem?_set_ne (Ne.symm hi1)] at ho3
            exact ⟨ho3, fun _ _ => hi1⟩
        | int y => exact ⟨trivial, fun x e => by cases e⟩
        | ref y => exact ⟨trivial, fun x e => by cases e⟩
        | _ => exact absurd ho (by simp [okL])
      refine h'.2.2 (j, cv G w) (List.mem_cons_of_mem _ (List.mem_filter.mpr ⟨prs_mem.mpr ⟨w, hj, ho2.1, rfl⟩, ?_⟩))
      have e1 : (j == i) = false := by simp [hji]
      have e3 : (j == i + 1) = false := by simp [hj2]
      have e2 : (j + 1 == i && (cv G w).category == 2) = false := by
        cases w with
        | long y => simp [ho2.2 y rfl]
        | ref y => simp [cv, cat_rf]
        | int y => simp [cv, Value.category]
        | _ => exact absurd ho2.1 (by simp [okL])
      show (!(j == i) && (!(j == i + 1) && !(j + 1 == i && (cv G w).category == 2))) = true
      rw [e1, e2, e3]; rfl
/-! memory and heap -/
theorem ad_inj {G : Wd} {a b : Nat} (ha : 100 ≤ a) (hb : 100 ≤ b) (h : ad G a = ad G b) : a = b := by
  unfold ad at h; omega
theorem RepC.kept {G : Wd} {m m' : M1} {H H' : Heap} {id : Nat} (h : RepC G m H id) (e : H'[ad G id]? = H[ad G id]?) (h1 : m'.2.2.1 id = m.2.2.1 id) (h2 : m'.2.2.2.1 id = m.2.2.2.1 id) (h3 : m'.2.2.2.2 id = m.2.2.2.2 id) : RepC G m' H' id := by
  have ea : aV G m' id (sh0 id).1 = aV G m id (sh0 id).1 := by funext j; unfold aV; rw [h1, h2, h3]
  have ef : fV G m' id ((sh0 id).1 - 10) = fV G m id ((sh0 id).1 - 10) := by funext j; unfold fV; rw [h1, h2, h3]
  unfold RepC at *
  by_cases hk : (sh0 id).1 < 40
  · rw [if_pos hk] at *
    rw [ef]
    exact h.kept e
  · rw [if_neg hk] at *
    rw [ea, e]
    exact h
/-- a cell is written: the rest stays -/
theorem RepH.put {G : Wd} {m m' : M1} {H H' : Heap} {id : Nat} (h : RepH G m H) (hid : 100 ≤ id) (hn : m'.1 = m.1) (hz : H'.size = H.size) (ho : ∀ q, q ≠ ad G id → H'[q]? = H[q]?) (hr : ∀ a, a ≠ id → m'.2.2.1 a = m.2.2.1 a ∧ m'.2.2.2.1 a = m.2.2.2.1 a ∧ m'.2.2.2.2 a = m.2.2.2.2 a) (hc : RepC G m' H' id) : RepH G m' H' := by
  obtain ⟨g1, g2, g3, g4, g5⟩ := h
  refine ⟨by rw [hz, hn]; exact g1, fun a h1 h2 => ?_, fun j hj => ?_, ?_, g5⟩
  · by_cases ha : a = id
    · rw [ha]; exact hc
    · rw [hn] at h2
      exact (g2 a h1 h2).kept (ho _ (fun e => ha (ad_inj h1 hid e))) (hr a ha).1 (hr a ha).2.1 (hr a ha).2.2
  · rw [(hr 1 (by omega)).1]; exact g3 j hj
  · rw [(hr 0 (by omega)).1]; exact g4
/-- a cell is made -/
def mNew (m : M1) (w : Nat) : M1 := (m.1 + 1, m.2.1 + w, row0 m.2.2.1 (100 + m.1) 0, row0 m.2.2.2.1 (100 + m.1) 0, row0 m.2.2.2.2 (100 + m.1) 0)
theorem RepH.push {G : Wd} {m : M1} {H H' : Heap} {w : Nat} (h : RepH G m H) (hz : H'.size = H.size + 1) (ho : ∀ q, q < H.size → H'[q]? = H[q]?) (hc : RepC G (mNew m w) H' (100 + m.1)) : RepH G (mNew m w) H' := by
  obtain ⟨g1, g2, g3, g4, g5⟩ := h
  refine ⟨by rw [hz, g1]; rfl, fun a h1 h2 => ?_, fun j hj => ?_, ?_, g5⟩
  · by_cases ha : a = 100 + m.1
    · rw [ha]; exact hc
    · have h2' : a < 100 + m.1 := by have : a < 100 + (m.1 + 1) := h2; omega
      refine (g2 a h1 h2').kept (ho _ ?_) (by simp [mNew, row0, ha]) (by simp [mNew, row0, ha]) (by simp [mNew, row0, ha])
      unfold ad; rw [g1]; omega
  · show row0 m.2.2.1 (100 + m.1) 0 1 j = _
    rw [show row0 m.2.2.1 (100 + m.1) 0 1 = m.2.2.1 1 by unfold row0; rw [if_neg (by omega)]]
    exact g3 j hj
  · show row0 m.2.2.1 (100 + m.1) 0 0 0 = _
    rw [show row0 m.2.2.1 (100 + m.1) 0 0 = m.2.2.1 0 by unfold row0; rw [if_neg (by omega)]]
    exact g4
theorem s1_kind {m : M1} {a k : Nat} (h : isK O1 m a k = true) (hk : k ≠ 0) : (sh0 a).1 = k ∧ a < 100 + m.1 := by
  have h1 : Nat.beq (s1 m a).1 k = true := h
  have h2 := Nat.eq_of_beq_eq_true h1
  unfold s1 at h2
  cases hb : Nat.blt a (100 + m.1) with
  | true =>
    rw [hb] at h2
    exact ⟨h2, blt_lt hb⟩
  | false =>
    rw [hb] at h2
    exact absurd h2.symm hk
theorem sh0_low {a : Nat} (h : a < 100) : (sh0 a).1 < 4 := by
  unfold sh0
  rw [show Nat.ble 100 a = false from Bool.eq_false_iff.mpr (fun q => by have := Nat.le_of_ble_eq_true q; omega)]
  dsimp only
  split
  · decide
  · split
    · split
      · show 2 < 4; decide
      · show 3 < 4; decide
    · decide
theorem kind_ge {a : Nat} (h : 4 ≤ (sh0 a).1) : 100 ≤ a := by
  rcases Nat.lt_or_ge a 100 with q | q
  · have := sh0_low q; omega
  · exact q
theorem adr_ge {G : Wd} {a : Nat} (h : 100 ≤ a) : adr G a = some (ad G a) := by
  unfold adr ad
  rw [if_neg (by omega), if_neg (by omega)]
theorem inb_in {i : Int32} {n : Nat} (h : inb i n = true) : vp_in i n := by
  unfold inb at h
  rw [Bool.and_eq_true] at h
  have h1 : ¬ i < 0 := by simpa using h.1
  have h2 : ix i < n := blt_lt h.2
  rintro (q | q)
  · exact h1 q
  · exact absurd q (Nat.not_le.mpr h2)
theorem gb_some {α : Type} {b : Bool} {x : Option α} {r : α} (h : gb b x = some r) : b = true ∧ x = some r := by
  cases b
  · cases h
  · exact ⟨rfl, h⟩
end
section
/-! EACH INSTRUCTION of the interpreter is a step of the machine. -/
def Ctx (p : Program) (R : Room) (s : State) (m : MethodId) (args : Array Value) (meth : Method) (c : Code) (G : Wd) (me : MD) (d : Nat) : Prop :=
  p.tables.exec = Jvm.exec ∧ c.code = byt me ∧ c.maxLocals = me.2.2.2.1 ∧ s.vm.findClass (ownN me.2.1) = some m.cls ∧ (∀ w ∈ TB, w.before args s = true) ∧ KX G s ∧ Ext G s s.heap ∧ (me.2.2.2.2.2 = true → meth.name = "<init>") ∧ d + 1 ≤ R.frames ∧ 60 * (d + 1) ≤ R.locals ∧ ckD (byt me) me.2.2.1 = true ∧ G.2.2.1 ≤ s.heap.size
def WW (p : Program) (l : Launch) (e : Env) (R : Room) (s : State) (m : MethodId) (args : Array Value) (below : List Frame) (meth : Method) (c : Code) (G : Wd) (me : MD) (Q : State → Prop) (n0 w0 : Nat) (pc : Nat) (ls st : List Value) (M : M1) : Prop :=
  ∀ (H : Heap) (locs : List Loc) (sl : Array Slot), LH G sl me.2.2.2.1 ls → RepH G M H → va_S (AA G) s.heap H locs → W p l e R s m args below meth c H locs (M.1 - n0) (M.2.1 - w0) Q (F0 m pc sl (st.map (cv G)))
section Steps1
variable {p : Program} {l : Launch} {e : Env} {R : Room} {s : State} {m : MethodId} {args : Array Value} {below : List Frame} {meth : Method} {c : Code} {G : Wd} {me : MD} {Q : State → Prop} {n0 w0 d : Nat} {pc : Nat} {ls st : List Value} {M : M1}

theorem w_iload_n {k : Fin 4} {x : Int32} (X : Ctx p R s m args meth c G me d) (hd : decode (byt me) pc = .ok (.iload_n k, 1)) (hl : ls[k.val]? = some (.int x)) (kk : WW p l e R s m args below meth c G me Q n0 w0 (pc + 1) ls (.int x :: st) M) : WW p l e R s m args below meth c G me Q n0 w0 pc ls st M :=
  fun H locs sl hL hR hS => lv_iload_n X.1 X.2.1 hd rfl (hL.2.2.2 _ (.int x) hl trivial) (kk H locs sl hL hR hS)
theorem w_iload {k : Nat} {x : Int32} (X : Ctx p R s m args meth c G me d) (hd : decode (byt me) pc = .ok (.iload k, 2)) (hl : ls[k]? = some (.int x)) (kk : WW p l e R s m args below meth c G me Q n0 w0 (pc + 2) ls (.int x :: st) M) : WW p l e R s m args below meth c G me Q n0 w0 pc ls st M :=
  fun H locs sl hL hR hS => lv_iload X.1 X.2.1 hd (hL.2.2.2 _ (.int x) hl trivial) (kk H locs sl hL hR hS)
theorem w_lload_n {k : Fin 4} {x : Int64} (X : Ctx p R s m args meth c G me d) (hd : decode (byt me) pc = .ok (.lload_n k, 1)) (hl : ls[k.val]? = some (.long x)) (h2 : ls[k.val + 1]? = some mk2) (kk : WW p l e R s m args below meth c G me Q n0 w0 (pc + 1) ls (.long x :: st) M) : WW p l e R s m args below meth c G me Q n0 w0 pc ls st M :=
  fun H locs sl hL hR hS => lv_lload_n X.1 X.2.1 hd rfl (hL.2.2.2 _ (.long x) hl h2) (kk H locs sl hL hR hS)
theorem w_lload {k : Nat} {x : Int64} (X : Ctx p R s m args meth c G me d) (hd : decode (byt me) pc = .ok (.lload k, 2)) (hl : ls[k]? = some (.long x)) (h2 : ls[k + 1]? = some mk2) (kk : WW p l e R s m args below meth c G me Q n0 w0 (pc + 2) ls (.long x :: st) M) : WW p l e R s m args below meth c G me Q n0 w0 pc ls st M :=
  fun H locs sl hL hR hS => lv_lload X.1 X.2.1 hd (hL.2.2.2 _ (.long x) hl h2) (kk H locs sl hL hR hS)
theorem w_aload_n {k : Fin 4} {x : Nat} (X : Ctx p R s m args meth c G me d) (hd : decode (byt me) pc = .ok (.aload_n k, 1)) (hl : ls[k.val]? = some (.ref x)) (kk : WW p l e R s m args below meth c G me Q n0 w0 (pc + 1) ls (.ref x :: st) M) : WW p l e R s m args below meth c G me Q n0 w0 pc ls st M := by
  intro H locs sl hL hR hS
  have h := hL.2.2.2 _ (.ref x) hl trivial
  have k1 := kk H locs sl hL hR hS
  rw [List.map_cons] at k1
  change sl[k.val]? = some (.val (va_rf (adr G x))) at h
  change W _ _ _ _ _ _ _ _ _ _ _ _ _ _ _ (F0 m (pc + 1) sl (va_rf (adr G x) :: st.map (cv G))) at k1
  cases hx : adr G x with
  | none => rw [hx] at h k1; exact lv_aload_nN X.1 X.2.1 hd rfl h k1
  | some a => rw [hx] at h k1; exact lv_aload_n X.1 X.2.1 hd rfl h k1
theorem w_aload {k : Nat} {x : Nat} (X : Ctx p R s m args meth c G me d) (hd : decode (byt me) pc = .ok (.aload k, 2)) (hl : ls[k]? = some (.ref x)) (kk : WW p l e R s m args below meth c G me Q n0 w0 (pc + 2) ls (.ref x :: st) M) : WW p l e R s m args below meth c G me Q n0 w0 pc ls st M := by
  intro H locs sl hL hR hS
  have h := hL.2.2.2 _ (.ref x) hl trivial
  have k1 := kk H locs sl hL hR hS
  rw [List.map_cons] at k1
  change sl[k]? = some (.val (va_rf (adr G x))) at h
  change W _ _ _ _ _ _ _ _ _ _ _ _ _ _ _ (F0 m (pc + 2) sl (va_rf (adr G x) :: st.map (cv G))) at k1
  cases hx : adr G x with
  | none => rw [hx] at h k1; exact lv_aloadN X.1 X.2.1 hd  h k1
  | some a => rw [hx] at h k1; exact lv_aload X.1 X.2.1 hd  h k1
theorem w_istore_n {k : Fin 4} {x : Int32} (X : Ctx p R s m args meth c G me d) (hd : decode (byt me) pc = .ok (.istore_n k, 1)) (hi : k.val < ls.length) (kk : WW p l e R s m args below meth c G me Q n0 w0 (pc + 1) (ls.set k.val (.int x)) st M) : WW p l e R s m args below meth c G me Q n0 w0 pc ls (.int x :: st) M := by
  intro H locs sl hL hR hS
  have hi2 : k.val < me.2.2.2.1 := by rw [← hL.2.1]; exact hi
  exact lv_istore_n X.1 X.2.1 hd rfl hL.has hi2 rfl (fun sl' h' => kk H locs sl' (hL.set1 (v := .int x) hi2 (Or.inl ⟨x, rfl⟩) h') hR hS)
theorem w_istore {k : Nat} {x : Int32} (X : Ctx p R s m args meth c G me d) (hd : decode (byt me) pc = .ok (.istore k, 2)) (hi : k < ls.length) (kk : WW p l e R s m args below meth c G me Q n0 w0 (pc + 2) (ls.set k (.int x)) st M) : WW p l e R s m args below meth c G me Q n0 w0 pc ls (.int x :: st) M := by
  intro H locs sl hL hR hS
  have hi2 : k < me.2.2.2.1 := by rw [← hL.2.1]; exact hi
  exact lv_istore X.1 X.2.1 hd  hL.has hi2 rfl (fun sl' h' => kk H locs sl' (hL.set1 (v := .int x) hi2 (Or.inl ⟨x, rfl⟩) h') hR hS)
theorem w_lstore_n {k : Fin 4} {x : Int64} (X : Ctx p R s m args meth c G me d) (hd : decode (byt me) pc = .ok (.lstore_n k, 1)) (hi : k.val + 1 < ls.length) (kk : WW p l e R s m args below meth c G me Q n0 w0 (pc + 1) ((ls.set k.val (.long x)).set (k.val + 1) mk2) st M) : WW p l e R s m args below meth c G me Q n0 w0 pc ls (.long x :: st) M := by
  intro H locs sl hL hR hS
  have hi2 : k.val + 1 < me.2.2.2.1 := by rw [← hL.2.1]; exact hi
  exact lv_lstore_n X.1 X.2.1 hd rfl hL.has hi2 rfl (fun sl' h' => kk H locs sl' (hL.set2 hi2 h') hR hS)
theorem w_lstore {k : Nat} {x : Int64} (X : Ctx p R s m args meth c G me d) (hd : decode (byt me) pc = .ok (.lstore k, 2)) (hi : k + 1 < ls.length) (kk : WW p l e R s m args below meth c G me Q n0 w0 (pc + 2) ((ls.set k (.long x)).set (k + 1) mk2) st M) : WW p l e R s m args below meth c G me Q n0 w0 pc ls (.long x :: st) M := by
  intro H locs sl hL hR hS
  have hi2 : k + 1 < me.2.2.2.1 := by rw [← hL.2.1]; exact hi
  exact lv_lstore X.1 X.2.1 hd  hL.has hi2 rfl (fun sl' h' => kk H locs sl' (hL.set2 hi2 h') hR hS)
theorem w_astore_n {k : Fin 4} {x : Nat} (X : Ctx p R s m args meth c G me d) (hd : decode (byt me) pc = .ok (.astore_n k, 1)) (hi : k.val < ls.length) (kk : WW p l e R s m args below meth c G me Q n0 w0 (pc + 1) (ls.set k.val (.ref x)) st M) : WW p l e R s m args below meth c G me Q n0 w0 pc ls (.ref x :: st) M := by
  intro H locs sl hL hR hS
  have hi2 : k.val < me.2.2.2.1 := by rw [← hL.2.1]; exact hi
  have hh := fun (sl' : Array Slot) h' => kk H locs sl' (hL.set1 (v := .ref x) hi2 (Or.inr ⟨x, rfl⟩) h') hR hS
  rw [List.map_cons]
  change W _ _ _ _ _ _ _ _ _ _ _ _ _ _ _ (F0 m pc sl (va_rf (adr G x) :: st.map (cv G)))
  change ∀ (sl' : Array Slot), lv_has sl' me.2.2.2.1 ((k.val, va_rf (adr G x)) :: _) → _ at hh
  cases hx : adr G x with
  | none => rw [hx] at hh; exact lv_astore_nN X.1 X.2.1 hd rfl hL.has hi2 rfl hh
  | some a => rw [hx] at hh; exact lv_astore_n X.1 X.2.1 hd rfl hL.has hi2 rfl hh
theorem w_astore {k : Nat} {x : Nat} (X : Ctx p R s m args meth c G me d) (hd : decode (byt me) pc = .ok (.astore k, 2)) (hi : k < ls.length) (kk : WW p l e R s m args below meth c G me Q n0 w0 (pc + 2) (ls.set k (.ref x)) st M) : WW p l e R s m args below meth c G me Q n0 w0 pc ls (.ref x :: st) M := by
  intro H locs sl hL hR hS
  have hi2 : k < me.2.2.2.1 := by rw [← hL.2.1]; exact hi
  have hh := fun (sl' : Array Slot) h' => kk H locs sl' (hL.set1 (v := .ref x) hi2 (Or.inr ⟨x, rfl⟩) h') hR hS
  rw [List.map_cons]
  change W _ _ _ _ _ _ _ _ _ _ _ _ _ _ _ (F0 m pc sl (va_rf (adr G x) :: st.map (cv G)))
  change ∀ (sl' : Array Slot), lv_has sl' me.2.2.2.1 ((k, va_rf (adr G x)) :: _) → _ at hh
  cases hx : adr G x with
  | none => rw [hx] at hh; exact lv_astoreN X.1 X.2.1 hd  hL.has hi2 rfl hh
  | some a => rw [hx] at hh; exact lv_astore X.1 X.2.1 hd  hL.has hi2 rfl hh
theorem w_iinc {k : Nat} {n : Int} {x : Int32} (X : Ctx p R s m args meth c G me d) (hd : decode (byt me) pc = .ok (.iinc k n, 3)) (hl : ls[k]? = some (.int x)) (hi : k < ls.length) (kk : WW p l e R s m args below meth c G me Q n0 w0 (pc + 3) (ls.set k (.int (x + iI n))) st M) : WW p l e R s m args below meth c G me Q n0 w0 pc ls st M := by
  intro H locs sl hL hR hS
  have hi2 : k < me.2.2.2.1 := by rw [← hL.2.1]; exact hi
  have hm : (k, Value.int x) ∈ prs G ls := prs_mem.mpr ⟨.int x, hl, trivial, rfl⟩
  obtain ⟨j, hj⟩ := List.getElem?_of_mem hm
  exact lv_iinc X.1 X.2.1 hd hL.has hj rfl hi2 rfl (fun sl' h' => kk H locs sl' (hL.set1 (v := .int (x + iI n)) hi2 (Or.inl ⟨_, rfl⟩) h') hR hS)
theorem w_iconst {n : Int} (X : Ctx p R s m args meth c G me d) (hd : decode (byt me) pc = .ok (.iconst n, 1)) (kk : WW p l e R s m args below meth c G me Q n0 w0 (pc + 1) ls (.int (iI n) :: st) M) : WW p l e R s m args below meth c G me Q n0 w0 pc ls st M :=
  fun H locs sl hL hR hS => lv_iconst X.1 X.2.1 hd rfl (kk H locs sl hL hR hS)
theorem w_bipush {n : Int} (X : Ctx p R s m args meth c G me d) (hd : decode (byt me) pc = .ok (.bipush n, 2)) (hn : (Int8.ofInt n).toInt32 = Int32.ofInt n) (kk : WW p l e R s m args below meth c G me Q n0 w0 (pc + 2) ls (.int (iI n) :: st) M) : WW p l e R s m args below meth c G me Q n0 w0 pc ls st M :=
  fun H locs sl hL hR hS => lv_bipush X.1 X.2.1 hd hn (kk H locs sl hL hR hS)
theorem w_sipush {n : Int} (X : Ctx p R s m args meth c G me d) (hd : decode (byt me) pc = .ok (.sipush n, 3)) (hn : (Int16.ofInt n).toInt32 = Int32.ofInt n) (kk : WW p l e R s m args below meth c G me Q n0 w0 (pc + 3) ls (.int (iI n) :: st) M) : WW p l e R s m args below meth c G me Q n0 w0 pc ls st M :=
  fun H locs sl hL hR hS => lv_sipush X.1 X.2.1 hd hn (kk H locs sl hL hR hS)
theorem w_lconst {n : Fin 2} (X : Ctx p R s m args meth c G me d) (hd : decode (byt me) pc = .ok (.lconst n, 1)) (kk : WW p l e R s m args below meth c G me Q n0 w0 (pc + 1) ls (.long (lI n.val) :: st) M) : WW p l e R s m args below meth c G me Q n0 w0 pc ls st M :=
  fun H locs sl hL hR hS => lv_lconst X.1 X.2.1 hd rfl (kk H locs sl hL hR hS)
theorem w_iadd {x y : Int32} (X : Ctx p R s m args meth c G me d) (hd : decode (byt me) pc = .ok (.iadd, 1)) (kk : WW p l e R s m args below meth c G me Q n0 w0 (pc + 1) ls (.int (x + y) :: st) M) : WW p l e R s m args below meth c G me Q n0 w0 pc ls (.int y :: .int x :: st) M :=
  fun H locs sl hL hR hS => lv_iadd X.1 X.2.1 hd (kk H locs sl hL hR hS)
theorem w_isub {x y : Int32} (X : Ctx p R s m args meth c G me d) (hd : decode (byt me) pc = .ok (.isub, 1)) (kk : WW p l e R s m args below meth c G me Q n0 w0 (pc + 1) ls (.int (x - y) :: st) M) : WW p l e R s m args below meth c G me Q n0 w0 pc ls (.int y :: .int x :: st) M :=
  fun H locs sl hL hR hS => lv_isub X.1 X.2.1 hd (kk H locs sl hL hR hS)
theorem w_imul {x y : Int32} (X : Ctx p R s m args meth c G me d) (hd : decode (byt me) pc = .ok (.imul, 1)) (kk : WW p l e R s m args below meth c G me Q n0 w0 (pc + 1) ls (.int (x * y) :: st) M) : WW p l e R s m args below meth c G me Q n0 w0 pc ls (.int y :: .int x :: st) M :=
  fun H locs sl hL hR hS => lv_imul X.1 X.2.1 hd (kk H locs sl hL hR hS)
theorem w_iand {x y : Int32} (X : Ctx p R s m args meth c G me d) (hd : decode (byt me) pc = .ok (.iand, 1)) (kk : WW p l e R s m args below meth c G me Q n0 w0 (pc + 1) ls (.int (x &&& y) :: st) M) : WW p l e R s m args below meth c G me Q n0 w0 pc ls (.int y :: .int x :: st) M :=
  fun H locs sl hL hR hS => lv_iand X.1 X.2.1 hd (kk H locs sl hL hR hS)
theorem w_ior {x y : Int32} (X : Ctx p R s m args meth c G me d) (hd : decode (byt me) pc = .ok (.ior, 1)) (kk : WW p l e R s m args below meth c G me Q n0 w0 (pc + 1) ls (.int (x ||| y) :: st) M) : WW p l e R s m args below meth c G me Q n0 w0 pc ls (.int y :: .int x :: st) M :=
  fun H locs sl hL hR hS => lv_ior X.1 X.2.1 hd (kk H locs sl hL hR hS)
theorem w_ixor {x y : Int32} (X : Ctx p R s m args meth c G me d) (hd : decode (byt me) pc = .ok (.ixor, 1)) (kk : WW p l e R s m args below meth c G me Q n0 w0 (pc + 1) ls (.int (x ^^^ y) :: st) M) : WW p l e R s m args below meth c G me Q n0 w0 pc ls (.int y :: .int x :: st) M :=
  fun H locs sl hL hR hS => lv_ixor X.1 X.2.1 hd (kk H locs sl hL hR hS)
theorem w_ishl {x y : Int32} (X : Ctx p R s m args meth c G me d) (hd : decode (byt me) pc = .ok (.ishl, 1)) (kk : WW p l e R s m args below meth c G me Q n0 w0 (pc + 1) ls (.int (x <<< (y &&& 31)) :: st) M) : WW p l e R s m args below meth c G me Q n0 w0 pc ls (.int y :: .int x :: st) M :=
  fun H locs sl hL hR hS => lv_ishl X.1 X.2.1 hd (kk H locs sl hL hR hS)
theorem w_ishr {x y : Int32} (X : Ctx p R s m args meth c G me d) (hd : decode (byt me) pc = .ok (.ishr, 1)) (kk : WW p l e R s m args below meth c G me Q n0 w0 (pc + 1) ls (.int (x >>> (y &&& 31)) :: st) M) : WW p l e R s m args below meth c G me Q n0 w0 pc ls (.int y :: .int x :: st) M :=
  fun H locs sl hL hR hS => lv_ishr X.1 X.2.1 hd (kk H locs sl hL hR hS)
theorem w_idiv {x y : Int32} (X : Ctx p R s m args meth c G me d) (hd : decode (byt me) pc = .ok (.idiv, 1)) (hy : ¬ y = 0) (kk : WW p l e R s m args below meth c G me Q n0 w0 (pc + 1) ls (.int (x / y) :: st) M) : WW p l e R s m args below meth c G me Q n0 w0 pc ls (.int y :: .int x :: st) M :=
  fun H locs sl hL hR hS => lv_idiv X.1 X.2.1 hd hy (kk H locs sl hL hR hS)
theorem w_irem {x y : Int32} (X : Ctx p R s m args meth c G me d) (hd : decode (byt me) pc = .ok (.irem, 1)) (hy : ¬ y = 0) (kk : WW p l e R s m args below meth c G me Q n0 w0 (pc + 1) ls (.int (irm x y) :: st) M) : WW p l e R s m args below meth c G me Q n0 w0 pc ls (.int y :: .int x :: st) M :=
  fun H locs sl hL hR hS => lv_irem X.1 X.2.1 hd hy (kk H locs sl hL hR hS)
theorem w_iushr {x y : Int32} (X : Ctx p R s m args meth c G me d) (hd : decode (byt me) pc = .ok (.iushr, 1)) (kk : WW p l e R s m args below meth c G me Q n0 w0 (pc + 1) ls (.int ((x.toUInt32 >>> (y.toUInt32 &&& Int32.toUInt32 31)).toInt32) :: st) M) : WW p l e R s m args below meth c G me Q n0 w0 pc ls (.int y :: .int x :: st) M :=
  fun H locs sl hL hR hS => lv_iushr X.1 X.2.1 hd rfl (kk H locs sl hL hR hS)
theorem w_ineg {x : Int32} (X : Ctx p R s m args meth c G me d) (hd : decode (byt me) pc = .ok (.ineg, 1)) (kk : WW p l e R s m args below meth c G me Q n0 w0 (pc + 1) ls (.int (-x) :: st) M) : WW p l e R s m args below meth c G me Q n0 w0 pc ls (.int x :: st) M :=
  fun H locs sl hL hR hS => lv_ineg X.1 X.2.1 hd (kk H locs sl hL hR hS)
theorem w_ladd {x y : Int64} (X : Ctx p R s m args meth c G me d) (hd : decode (byt me) pc = .ok (.ladd, 1)) (kk : WW p l e R s m args below meth c G me Q n0 w0 (pc + 1) ls (.long (x + y) :: st) M) : WW p l e R s m args below meth c G me Q n0 w0 pc ls (.long y :: .long x :: st) M :=
  fun H locs sl hL hR hS => lv_ladd X.1 X.2.1 hd (kk H locs sl hL hR hS)
theorem w_lsub {x y : Int64} (X : Ctx p R s m args meth c G me d) (hd : decode (byt me) pc = .ok (.lsub, 1)) (kk : WW p l e R s m args below meth c G me Q n0 w0 (pc + 1) ls (.long (x - y) :: st) M) : WW p l e R s m args below meth c G me Q n0 w0 pc ls (.long y :: .long x :: st) M :=
  fun H locs sl hL hR hS => lv_lsub X.1 X.2.1 hd (kk H locs sl hL hR hS)
theorem w_lmul {x y : Int64} (X : Ctx p R s m args meth c G me d) (hd : decode (byt me) pc = .ok (.lmul, 1)) (kk : WW p l e R s m args below meth c G me Q n0 w0 (pc + 1) ls (.long (x * y) :: st) M) : WW p l e R s m args below meth c G me Q n0 w0 pc ls (.long y :: .long x :: st) M :=
  fun H locs sl hL hR hS => lv_lmul X.1 X.2.1 hd (kk H locs sl hL hR hS)
theorem w_land {x y : Int64} (X : Ctx p R s m args meth c G me d) (hd : decode (byt me) pc = .ok (.land, 1)) (kk : WW p l e R s m args below meth c G me Q n0 w0 (pc + 1) ls (.long (x &&& y) :: st) M) : WW p l e R s m args below meth c G me Q n0 w0 pc ls (.long y :: .long x :: st) M :=
  fun H locs sl hL hR hS => lv_land X.1 X.2.1 hd (kk H locs sl hL hR hS)
theorem w_lor {x y : Int64} (X : Ctx p R s m args meth c G me d) (hd : decode (byt me) pc = .ok (.lor, 1)) (kk : WW p l e R s m args below meth c G me Q n0 w0 (pc + 1) ls (.long (x ||| y) :: st) M) : WW p l e R s m args below meth c G me Q n0 w0 pc ls (.long y :: .long x :: st) M :=
  fun H locs sl hL hR hS => lv_lor X.1 X.2.1 hd (kk H locs sl hL hR hS)
theorem w_lshl {x : Int64} {y : Int32} (X : Ctx p R s m args meth c G me d) (hd : decode (byt me) pc = .ok (.lshl, 1)) (kk : WW p l e R s m args below meth c G me Q n0 w0 (pc + 1) ls (.long (x <<< (y.toInt64 &&& 63)) :: st) M) : WW p l e R s m args below meth c G me Q n0 w0 pc ls (.int y :: .long x :: st) M :=
  fun H locs sl hL hR hS => lv_lshl X.1 X.2.1 hd rfl (kk H locs sl hL hR hS)
theorem w_lshr {x : Int64} {y : Int32} (X : Ctx p R s m args meth c G me d) (hd : decode (byt me) pc = .ok (.lshr, 1)) (kk : WW p l e R s m args below meth c G me Q n0 w0 (pc + 1) ls (.long (x >>> (y.toInt64 &&& 63)) :: st) M) : WW p l e R s m args below meth c G me Q n0 w0 pc ls (.int y :: .long x :: st) M :=
  fun H locs sl hL hR hS => lv_lshr X.1 X.2.1 hd rfl (kk H locs sl hL hR hS)
theorem w_lcmp {x y : Int64} (X : Ctx p R s m args meth c G me d) (hd : decode (byt me) pc = .ok (.lcmp, 1)) (kk : WW p l e R s m args below meth c G me Q n0 w0 (pc + 1) ls (.int (lg_cmp x y) :: st) M) : WW p l e R s m args below meth c G me Q n0 w0 pc ls (.long y :: .long x :: st) M :=
  fun H locs sl hL hR hS => W.lcmp X.1 X.2.1 hd (kk H locs sl hL hR hS)
theorem w_i2l {x : Int32} (X : Ctx p R s m args meth c G me d) (hd : decode (byt me) pc = .ok (.i2l, 1)) (kk : WW p l e R s m args below meth c G me Q n0 w0 (pc + 1) ls (.long x.toInt64 :: st) M) : WW p l e R s m args below meth c G me Q n0 w0 pc ls (.int x :: st) M :=
  fun H locs sl hL hR hS => lv_i2l X.1 X.2.1 hd rfl (kk H locs sl hL hR hS)
theorem w_l2i {x : Int64} (X : Ctx p R s m args meth c G me d) (hd : decode (byt me) pc = .ok (.l2i, 1)) (kk : WW p l e R s m args below meth c G me Q n0 w0 (pc + 1) ls (.int x.toInt32 :: st) M) : WW p l e R s m args below meth c G me Q n0 w0 pc ls (.long x :: st) M :=
  fun H locs sl hL hR hS => lv_l2i X.1 X.2.1 hd rfl (kk H locs sl hL hR hS)
theorem w_i2b {x : Int32} (X : Ctx p R s m args meth c G me d) (hd : decode (byt me) pc = .ok (.i2b, 1)) (kk : WW p l e R s m args below meth c G me Q n0 w0 (pc + 1) ls (.int x.toInt8.toInt32 :: st) M) : WW p l e R s m args below meth c G me Q n0 w0 pc ls (.int x :: st) M :=
  fun H locs sl hL hR hS => lv_i2b X.1 X.2.1 hd rfl (kk H locs sl hL hR hS)
theorem w_i2s {x : Int32} (X : Ctx p R s m args meth c G me d) (hd : decode (byt me) pc = .ok (.i2s, 1)) (kk : WW p l e R s m args below meth c G me Q n0 w0 (pc + 1) ls (.int x.toInt16.toInt32 :: st) M) : WW p l e R s m args below meth c G me Q n0 w0 pc ls (.int x :: st) M :=
  fun H locs sl hL hR hS => lv_i2s X.1 X.2.1 hd rfl (kk H locs sl hL hR hS)
theorem w_i2c {x : Int32} (X : Ctx p R s m args meth c G me d) (hd : decode (byt me) pc = .ok (.i2c, 1)) (kk : WW p l e R s m args below meth c G me Q n0 w0 (pc + 1) ls (.int (x.toUInt32 % 65536).toInt32 :: st) M) : WW p l e R s m args below meth c G me Q n0 w0 pc ls (.int x :: st) M :=
  fun H locs sl hL hR hS => lv_i2c X.1 X.2.1 hd rfl (kk H locs sl hL hR hS)
theorem w1_cat {G : Wd} {v : Value} (h : w1 v = true) : (cv G v).category = 1 := by
  cases v with
  | int x => rfl
  | ref n => exact cat_rf _
  | _ => cases h
theorem w_dup {v : Value} (X : Ctx p R s m args meth c G me d) (hd : decode (byt me) pc = .ok (.dup, 1)) (hv : w1 v = true) (kk : WW p l e R s m args below meth c G me Q n0 w0 (pc + 1) ls (v :: v :: st) M) : WW p l e R s m args below meth c G me Q n0 w0 pc ls (v :: st) M :=
  fun H locs sl hL hR hS => lv_dup X.1 X.2.1 hd (w1_cat hv) (kk H locs sl hL hR hS)
theorem w_pop {v : Value} (X : Ctx p R s m args meth c G me d) (hd : decode (byt me) pc = .ok (.pop, 1)) (hv : w1 v = true) (kk : WW p l e R s m args below meth c G me Q n0 w0 (pc + 1) ls st M) : WW p l e R s m args below meth c G me Q n0 w0 pc ls (v :: st) M :=
  fun H locs sl hL hR hS => lv_pop X.1 X.2.1 hd (w1_cat hv) (kk H locs sl hL hR hS)
theorem w_dup_x1 {v u : Value} (X : Ctx p R s m args meth c G me d) (hd : decode (byt me) pc = .ok (.dup_x1, 1)) (hv : w1 v = true) (hu : w1 u = true) (kk : WW p l e R s m args below meth c G me Q n0 w0 (pc + 1) ls (v :: u :: v :: st) M) : WW p l e R s m args below meth c G me Q n0 w0 pc ls (v :: u :: st) M :=
  fun H locs sl hL hR hS => lv_dup_x1 X.1 X.2.1 hd (w1_cat hv) (w1_cat hu) (kk H locs sl hL hR hS)
theorem w_dup2 {v u : Value} (X : Ctx p R s m args meth c G me d) (hd : decode (byt me) pc = .ok (.dup2, 1)) (hv : w1 v = true) (hu : w1 u = true) (kk : WW p l e R s m args below meth c G me Q n0 w0 (pc + 1) ls (v :: u :: v :: u :: st) M) : WW p l e R s m args below meth c G me Q n0 w0 pc ls (v :: u :: st) M :=
  fun H locs sl hL hR hS => lv_dup2_11 X.1 X.2.1 hd (w1_cat hv) (w1_cat hu) (kk H locs sl hL hR hS)
theorem w_goto {off : Int} {t : Nat} (X : Ctx p R s m args meth c G me d) (hd : decode (byt me) pc = .ok (.goto off, 3)) (ht : (pc : Int) + off = (t : Int)) (kk : WW p l e R s m args below meth c G me Q n0 w0 t ls st M) : WW p l e R s m args below meth c G me Q n0 w0 pc ls st M :=
  fun H locs sl hL hR hS => lv_goto X.1 X.2.1 hd ht (kk H locs sl hL hR hS)
theorem le_of_nlt {x y : Int32} (h : ¬ x < y) : y ≤ x := Int32.not_lt.mp h
theorem nlt_of_le {x y : Int32} (h : y ≤ x) : ¬ x < y := Int32.not_lt.mpr h
theorem w_ifc {cd : Jvm.ClassFile.Cond} {x : Int32} {off : Int} {t : Nat} {A B : Rs M1} {r : Value × M1} (X : Ctx p R s m args meth c G me d) (hd : decode (byt me) pc = .ok (.ifCond cd off, 3)) (ht : (pc : Int) + off = (t : Int)) (h : br cd x 0 A B = some r) (kA : A = some r → WW p l e R s m args below meth c G me Q n0 w0 t ls st M) (kB : B = some r → WW p l e R s m args below meth c G me Q n0 w0 (pc + 3) ls st M) : WW p l e R s m args below meth c G me Q n0 w0 pc ls (.int x :: st) M := by
  intro H locs sl hL hR hS
  cases cd with
  | eq => exact lv_if_eq X.1 X.2.1 hd ht (fun hc => kA (by have h1 : (if x = 0 then A else B) = some r := h; rwa [if_pos hc] at h1) H locs sl hL hR hS) (fun hc => kB (by have h1 : (if x = 0 then A else B) = some r := h; rwa [if_neg hc] at h1) H locs sl hL hR hS)
  | ne => exact lv_if_ne X.1 X.2.1 hd ht (fun hc => kA (by have h1 : (if x = 0 then B else A) = some r := h; rwa [if_neg hc] at h1) H locs sl hL hR hS) (fun hc => kB (by have h1 : (if x = 0 then B else A) = some r := h; rwa [if_pos hc] at h1) H locs sl hL hR hS)
  | lt => exact lv_if_lt X.1 X.2.1 hd ht (fun hc => kA (by have h1 : (if x < 0 then A else B) = some r := h; rwa [if_pos hc] at h1) H locs sl hL hR hS) (fun hc => kB (by have h1 : (if x < 0 then A else B) = some r := h; rwa [if_neg hc] at h1) H locs sl hL hR hS)
  | ge => exact lv_if_ge X.1 X.2.1 hd ht (fun hc => kA (by have h1 : (if x < 0 then B else A) = some r := h; rwa [if_neg (nlt_of_le hc)] at h1) H locs sl hL hR hS) (fun hc => kB (by have h1 : (if x < 0 then B else A) = some r := h; rwa [if_pos (Int32.not_le.mp hc)] at h1) H locs sl hL hR hS)
  | gt => exact lv_if_gt X.1 X.2.1 hd ht (fun hc => kA (by have h1 : (if 0 < x then A else B) = some r := h; rwa [if_pos hc] at h1) H locs sl hL hR hS) (fun hc => kB (by have h1 : (if 0 < x then A else B) = some r := h; rwa [if_neg hc] at h1) H locs sl hL hR hS)
  | le => exact lv_if_le X.1 X.2.1 hd ht (fun hc => kA (by have h1 : (if 0 < x then B else A) = some r := h; rwa [if_neg (nlt_of_le hc)] at h1) H locs sl hL hR hS) (fun hc => kB (by have h1 : (if 0 < x then B else A) = some r := h; rwa [if_pos (Int32.not_le.mp hc)] at h1) H locs sl hL hR hS)
theorem w_icmp {cd : Jvm.ClassFile.Cond} {x y : Int32} {off : Int} {t : Nat} {A B : Rs M1} {r : Value × M1} (X : Ctx p R s m args meth c G me d) (hd : decode (byt me) pc = .ok (.if_icmp cd off, 3)) (ht : (pc : Int) + off = (t : Int)) (h : br cd x y A B = some r) (kA : A = some r → WW p l e R s m args below meth c G me Q n0 w0 t ls st M) (kB : B = some r → WW p l e R s m args below meth c G me Q n0 w0 (pc + 3) ls st M) : WW p l e R s m args below meth c G me Q n0 w0 pc ls (.int y :: .int x :: st) M := by
  intro H locs sl hL hR hS
  cases cd with
  | eq => exact lv_icmp_eq X.1 X.2.1 hd ht (fun hc => kA (by have h1 : (if x = y then A else B) = some r := h; rwa [if_pos hc] at h1) H locs sl hL hR hS) (fun hc => kB (by have h1 : (if x = y then A else B) = some r := h; rwa [if_neg hc] at h1) H locs sl hL hR hS)
  | ne => exact lv_icmp_ne X.1 X.2.1 hd ht (fun hc => kA (by have h1 : (if x = y then B else A) = some r := h; rwa [if_neg hc] at h1) H locs sl hL hR hS) (fun hc => kB (by have h1 : (if x = y then B else A) = some r := h; rwa [if_pos hc] at h1) H locs sl hL hR hS)
  | lt => exact lv_icmp_lt X.1 X.2.1 hd ht (fun hc => kA (by have h1 : (if x < y then A else B) = some r := h; rwa [if_pos hc] at h1) H locs sl hL hR hS) (fun hc => kB (by have h1 : (if x < y then A else B) = some r := h; rwa [if_neg hc] at h1) H locs sl hL hR hS)
  | ge => exact lv_icmp_ge X.1 X.2.1 hd ht (fun hc => kA (by have h1 : (if x < y then B else A) = some r := h; rwa [if_neg (nlt_of_le hc)] at h1) H locs sl hL hR hS) (fun hc => kB (by have h1 : (if x < y then B else A) = some r := h; rwa [if_pos (Int32.not_le.mp hc)] at h1) H locs sl hL hR hS)
  | gt => exact lv_icmp_gt X.1 X.2.1 hd ht (fun hc => kA (by have h1 : (if y < x then A else B) = some r := h; rwa [if_pos hc] at h1) H locs sl hL hR hS) (fun hc => kB (by have h1 : (if y < x then A else B) = some r := h; rwa [if_neg hc] at h1) H locs sl hL hR hS)
  | le => exact lv_icmp_le X.1 X.2.1 hd ht (fun hc => kA (by have h1 : (if y < x then B else A) = some r := h; rwa [if_neg (nlt_of_le hc)] at h1) H locs sl hL hR hS) (fun hc => kB (by have h1 : (if y < x then B else A) = some r := h; rwa [if_pos (Int32.not_le.mp hc)] at h1) H locs sl hL hR hS)
end Steps1
end
section
/-! INSTRUCTIONS on objects, arrays, constants. -/
theorem vw_all : ∀ ci, ci < 13 → ∃ r, vwCl[ci]? = some r ∧ nF ci = r.2.2 ∧ ownN ci = r.1 ∧ (∀ w ∈ u_ws r.1 r.2.1 r.2.2, w ∈ TB) ∧ (∃ ty : Nat → FieldType, (∀ k, k < r.2.2 → parseFieldDescriptor (r.2.1 k).2.2.1 = some (ty k)) ∧ ∀ k, k < r.2.2 → defaultValue (ty k) = (match (ftyT.getD ci []).getD k 0 with
  | 1 => .long 0
  | 2 => .null
  | _ => .int 0)) ∧ ∀ a, a < r.2.2 → ∀ b, b < r.2.2 → a ≠ b → (r.2.1 a).2.1 ≠ (r.2.1 b).2.1 := by
  have hL : ∀ ci, ci < 13 → ∀ w ∈ lays ci, w ∈ TB := fun ci h w hw => by
    have h1 := List.all_eq_true.mp ckL_all ci (List.mem_range.mpr h)
    have h2 := List.all_eq_true.mp h1 w hw
    rw [Bool.and_eq_true] at h2
    exact List.mem_filter.mpr ⟨of_decide_eq_true h2.1, h2.2⟩
  intro ci h
  match ci, h with
  | 0, h => exact ⟨_, rfl, rfl, rfl, hL 0 h, ⟨tyX0, tyX0_ok, by decide +kernel⟩, nmX0⟩
  | 1, h => exact ⟨_, rfl, rfl, rfl, hL 1 h, ⟨tyX1, tyX1_ok, by decide +kernel⟩, nmX1⟩
  | 2, h => exact ⟨_, rfl, rfl, rfl, hL 2 h, ⟨tyX2, tyX2_ok, by decide +kernel⟩, nmX2⟩
  | 3, h => exact ⟨_, rfl, rfl, rfl, hL 3 h, ⟨tyX3, tyX3_ok, by decide +kernel⟩, nmX3⟩
  | 4, h => exact ⟨_, rfl, rfl, rfl, hL 4 h, ⟨tyX4, tyX4_ok, by decide +kernel⟩, nmX4⟩
  | 5, h => exact ⟨_, rfl, rfl, rfl, hL 5 h, ⟨tyX5, tyX5_ok, by decide +kernel⟩, nmX5⟩
  | 6, h => exact ⟨_, rfl, rfl, rfl, hL 6 h, ⟨tyX6, tyX6_ok, by decide +kernel⟩, nmX6⟩
  | 7, h => exact ⟨_, rfl, rfl, rfl, hL 7 h, ⟨tyX7, tyX7_ok, by decide +kernel⟩, nmX7⟩
  | 8, h => exact ⟨_, rfl, rfl, rfl, hL 8 h, ⟨tyX8, tyX8_ok, by decide +kernel⟩, nmX8⟩
  | 9, h => exact ⟨_, rfl, rfl, rfl, hL 9 h, ⟨tyX9, tyX9_ok, by decide +kernel⟩, nmX9⟩
  | 10, h => exact ⟨_, rfl, rfl, rfl, hL 10 h, ⟨tyX10, tyX10_ok, by decide +kernel⟩, nmX10⟩
  | 11, h => exact ⟨_, rfl, rfl, rfl, hL 11 h, ⟨tyX11, tyX11_ok, by decide +kernel⟩, nmX11⟩
  | 12, h => exact ⟨_, rfl, rfl, rfl, hL 12 h, ⟨tyX12, tyX12_ok, by decide +kernel⟩, nmX12⟩
  | k + 13, h => exact absurd h (by omega)
theorem vw_lt {ci : Nat} {r : vw_C} (h : vwCl[ci]? = some r) : ci < 13 := (List.getElem?_eq_some_iff.mp h).1
theorem fres_spec {own n : Nat} {f : Nat × Nat × Nat × Bool × Nat} (hf : fres own n = some f) (h2 : f.1 ≠ 2) : ∃ r, vwCl[f.1 - 10]? = some r ∧ 10 ≤ f.1 ∧ f.1 < 40 ∧ f.2.1 < r.2.2 ∧ (r.2.1 f.2.1).1 = r.1 ∧ Cond.fieldLink (ownN own) n r.1 (r.2.1 f.2.1).2.1 (r.2.1 f.2.1).2.2.1 ∈ TB ∧ (r.2.1 f.2.1).2.2.2 = f.2.2.2.1 ∧ ckTy (r.2.1 f.2.1).2.2.1 f.2.2.1 = true ∧ (ftyT.getD (f.1 - 10) []).getD f.2.1 0 = f.2.2.1 := by
  have h := ckRows_spec ckF_all hf
  unfold ckF at h
  rw [show Nat.beq f.1 2 = false from Bool.eq_false_iff.mpr (fun q => h2 (Nat.eq_of_beq_eq_true q))] at h
  dsimp only at h
  cases hv : vwCl[f.1 - 10]? with
  | none => rw [hv] at h; cases h
  | some r =>
    rw [hv] at h
    simp only [Bool.and_eq_true] at h
    obtain ⟨h1, h2, h3, h4, h5, h6, h7, h8⟩ := h
    exact ⟨r, rfl, Nat.le_of_ble_eq_true h1, blt_lt h2, blt_lt h3, of_decide_eq_true h4, inTB (of_decide_eq_true h5) rfl, of_decide_eq_true h6, h7, Nat.eq_of_beq_eq_true h8⟩
def ckTyP (ty : FieldType) (cat : Nat) : Prop := (ty = .int ∧ cat = 0) ∨ (ty = .long ∧ cat = 1) ∨ (ty = .boolean ∧ cat = 3) ∨ ((∃ n, ty = .object n) ∧ cat = 2) ∨ ((∃ t, ty = .array t) ∧ cat = 2)
theorem ckTy_spec {d : String} {cat : Nat} (h : ckTy d cat = true) : ∃ ty, parseFieldDescriptor d = some ty ∧ ckTyP ty cat := by
  unfold ckTy at h
  split at h
  · rename_i e; exact ⟨_, e, Or.inl ⟨rfl, Nat.eq_of_beq_eq_true h⟩⟩
  · rename_i e; exact ⟨_, e, Or.inr (Or.inl ⟨rfl, Nat.eq_of_beq_eq_true h⟩)⟩
  · rename_i e; exact ⟨_, e, Or.inr (Or.inr (Or.inl ⟨rfl, Nat.eq_of_beq_eq_true h⟩))⟩
  · rename_i e; exact ⟨_, e, Or.inr (Or.inr (Or.inr (Or.inl ⟨⟨_, rfl⟩, Nat.eq_of_beq_eq_true h⟩)))⟩
  · rename_i e; exact ⟨_, e, Or.inr (Or.inr (Or.inr (Or.inr ⟨⟨_, rfl⟩, Nat.eq_of_beq_eq_true h⟩)))⟩
  · cases h
section Steps2
variable {p : Program} {l : Launch} {e : Env} {R : Room} {s : State} {m : MethodId} {args : Array Value} {below : List Frame} {meth : Method} {c : Code} {G : Wd} {me : MD} {Q : State → Prop} {n0 w0 d : Nat} {pc : Nat} {ls st : List Value} {M : M1}
theorem cv_ref {G : Wd} {a : Nat} (h : 100 ≤ a) : cv G (.ref a) = .ref (ad G a) := by
  show va_rf (adr G a) = _
  rw [adr_ge h]; rfl
theorem RepH.obj {H : Heap} {a : Nat} (hR : RepH G M H) (hk : (sh0 a).1 < 40) (h100 : 100 ≤ a) (hlt : a < 100 + M.1) : t_OB (ad G a) (G.1.1 ((sh0 a).1 - 10)) (nF ((sh0 a).1 - 10)) (G.1.2 ((sh0 a).1 - 10)) H (fV G M a ((sh0 a).1 - 10)) := by
  have h := hR.2.1 a h100 hlt
  unfold RepC at h
  rwa [if_pos hk] at h
theorem RepH.arr {H : Heap} {a : Nat} (hR : RepH G M H) (hk : 40 ≤ (sh0 a).1) (h100 : 100 ≤ a) (hlt : a < 100 + M.1) : H[ad G a]? = some (arrV (G.2.1 (sh0 a).1) (sh0 a).2 (aV G M a (sh0 a).1)) := by
  have h := hR.2.1 a h100 hlt
  unfold RepC at h
  rwa [if_neg (by omega)] at h
theorem w_get {n a : Nat} {f : Nat × Nat × Nat × Bool × Nat} {v : Value} (X : Ctx p R s m args meth c G me d) (hd : decode (byt me) pc = .ok (.getfield n, 3)) (hf : fres me.2.1 n = some f) (h2 : f.1 ≠ 2) (hk : isK O1 M a f.1 = true) (hv : cv G v = fV G M a (f.1 - 10) f.2.1) (kk : WW p l e R s m args below meth c G me Q n0 w0 (pc + 3) ls (v :: st) M) : WW p l e R s m args below meth c G me Q n0 w0 pc ls (.ref a :: st) M := by
  intro H locs sl hL hR hS
  obtain ⟨r, q1, q2, q3, q4, q5, q6, q7, q8, q9⟩ := fres_spec hf h2
  obtain ⟨hkd, hlt⟩ := s1_kind hk (by omega)
  have h100 : 100 ≤ a := kind_ge (by omega)
  have ho := hR.obj (a := a) (by omega) h100 hlt
  rw [hkd] at ho
  obtain ⟨r', e1, e2, e3, e4, -, -⟩ := vw_all _ (vw_lt q1)
  cases q1.symm.trans e1
  rw [e2] at ho
  have hP : va_P G.1 vwCl [(ad G a, .inr (f.1 - 10, (List.range r.2.2).map (fV G M a (f.1 - 10))))] H := by
    intro k q hq
    match k, hq with
    | 0, hq =>
      cases hq
      refine ⟨r, q1, ho.to (fun j hj => ?_)⟩
      show _ = ((List.range r.2.2).map (fV G M a (f.1 - 10))).getD j .null
      rw [List.getD_eq_getElem?_getD, List.getElem?_map, List.getElem?_range hj]
      rfl
    | k + 1, hq => cases hq
  have hkk := kk H locs sl hL hR hS
  rw [List.map_cons] at hkk ⊢
  rw [cv_ref h100]
  rw [hv] at hkk
  refine va_get (D := G.1) (ci := f.1 - 10) (v := fV G M a (f.1 - 10) f.2.1) (C := r.1) (T := r.2.1) (N := r.2.2) X.1 X.2.1 X.2.2.2.2.1 e4 X.2.2.2.1 X.2.2.2.2.2.1 hP 0 rfl q1 f.2.1 q4 (X.2.2.2.2.1 _ q6) (fun x hx => by rw [← q5]; exact hx) ?_ hd hkk
  rw [List.getElem?_map, List.getElem?_range q4]
  rfl
theorem w_put {n a : Nat} {f : Nat × Nat × Nat × Bool × Nat} {v : Value} {M' : M1} (X : Ctx p R s m args meth c G me d) (hd : decode (byt me) pc = .ok (.putfield n, 3)) (hf : fres me.2.1 n = some f) (h2 : f.1 ≠ 2) (hk : isK O1 M a f.1 = true) (hfin : okFin me f = true)
    (hty : ∀ ty, ckTyP ty f.2.2.1 → narrow ty (cv G v) = cv G v ∧ fits ty (cv G v) = true) (hM1 : M'.1 = M.1) (hM2 : M'.2.1 = M.2.1) (hrow : ∀ b, b ≠ a → M'.2.2.1 b = M.2.2.1 b ∧ M'.2.2.2.1 b = M.2.2.2.1 b ∧ M'.2.2.2.2 b = M.2.2.2.2 b) (hV : ∀ k, fV G M' a (f.1 - 10) k = updV (fV G M a (f.1 - 10)) f.2.1 (cv G v) k)
    (kk : WW p l e R s m args below meth c G me Q n0 w0 (pc + 3) ls st M') : WW p l e R s m args below meth c G me Q n0 w0 pc ls (v :: .ref a :: st) M := by
  intro H locs sl hL hR hS
  obtain ⟨r, q1, q2, q3, q4, q5, q6, q7, q8, q9⟩ := fres_spec hf h2
  obtain ⟨hkd, hlt⟩ := s1_kind hk (by omega)
  have h100 : 100 ≤ a := kind_ge (by omega)
  have ho := hR.obj (a := a) (by omega) h100 hlt
  rw [hkd] at ho
  obtain ⟨r', e1, e2, e3, e4, ⟨ty0, e5, -⟩, e6⟩ := vw_all _ (vw_lt q1)
  cases q1.symm.trans e1
  rw [e2] at ho
  obtain ⟨ty, hd1, hd2⟩ := ckTy_spec q8
  obtain ⟨hn, hfit⟩ := hty ty hd2
  have hts := X.2.2.2.2.1
  have hK := X.2.2.2.2.2.1
  have hap := va_apart (own := ownN me.2.1) hts e4 ty0 e5 e6 hK q1
  obtain ⟨cell, g1, g2, g3, g4⟩ := ho
  obtain ⟨hSl, hfc, kC, hkC, hkind⟩ := hK.1 (f.1 - 10) _ q1
  obtain ⟨cf, kf, fi, fd, hi, hsl⟩ := hSl f.2.1 q4
  have hst := (u_facts hfc hkC (u_lays hts e4 q4) hi).1
  have hlink := hts _ q6
  have hgo : ∀ H' : Heap, H'[ad G a]? = some (cell.setSlot fd.slot (cv G v)) → H'.size = H.size → (∀ q, q ≠ ad G a → H'[q]? = H[q]?) → W p l e R s m args below meth c H' (locs ++ [⟨ad G a, fd.slot⟩]) (M.1 - n0) (M.2.1 - w0) Q (F0 m (pc + 3) sl (st.map (cv G))) := by
    intro H' z1 z2 z3
    have hRC : RepC G M' H' a := by
      unfold RepC
      rw [if_pos (by omega), hkd, e2]
      refine t_OB.to (V := updV (fV G M a (f.1 - 10)) f.2.1 (cv G v)) ⟨_, z1, g2, g3, ?_⟩ (fun k _ => (hV k).symm)
      rw [hsl]
      exact t_set g4 hap q4 (cv G v)
    have := kk H' (locs ++ [⟨ad G a, fd.slot⟩]) sl hL (hR.put h100 hM1 z2 z3 hrow hRC) (hS.put z2 z3 (by show G.2.2.1 ≤ ad G a; unfold ad; omega))
    rw [hM1, hM2] at this
    exact this
  have hlay := hts _ (e4 _ (u_in_lay q4))
  unfold u_lay at hlay
  rw [List.map_cons, List.map_cons, cv_ref h100]
  cases hfb : f.2.2.2.1 with
  | false =>
    rw [if_neg (by rw [q7, hfb]; decide)] at hlay
    have h6 := u_store hfc hkC hkind hlay hi hd1 hn hfit
    exact W.putK X.1 X.2.1 (f := fd) ⟨X.2.2.2.1, hlink, ⟨_, _, _, by rw [← q5]; exact hi⟩, hst⟩ (by rw [g2]; exact h6) g1 g3 (by rw [hsl]; exact k2_hasslot (g4 _ q4)) rfl rfl hd hgo
  | true =>
    rw [if_pos (by rw [q7, hfb])] at hlay
    unfold okFin at hfin
    rw [hfb] at hfin
    dsimp only at hfin
    rw [Bool.and_eq_true] at hfin
    have hcls : f.1 = 10 + me.2.1 := Nat.eq_of_beq_eq_true hfin.2
    have hcf : m.cls = cf := by
      obtain ⟨_, _, c', _, _, _, -, -, hf', -, -, -, hown2, -⟩ := Cond.laysFinal_spec hlay
      have ec : c' = cf := by have := hi.symm.trans hf'; simp at this; exact this.1.symm
      rw [q5] at hown2
      rw [show f.1 - 10 = me.2.1 by omega] at e3
      rw [← ec, ← e3] at *
      exact Option.some.inj (X.2.2.2.1.symm.trans hown2)
    have h6 := u_fits hfc hkC hkind (Or.inr hlay) hi hd1 hn hfit
    exact W.putFinK X.1 X.2.1 X.2.2.2.1 hlink (by rw [← q5]; exact hi) hst hcf (X.2.2.2.2.2.2.2.1 hfin.1) (by rw [g2]; exact h6) g1 g3 (by rw [hsl]; exact k2_hasslot (g4 _ q4)) rfl rfl hd hgo
end Steps2
end
section
/-! INSTRUCTIONS on arrays, new cells, constants, statics. -/
section Steps3
variable {p : Program} {l : Launch} {e : Env} {R : Room} {s : State} {m : MethodId} {args : Array Value} {below : List Frame} {meth : Method} {c : Code} {G : Wd} {me : MD} {Q : State → Prop} {n0 w0 d : Nat} {pc : Nat} {ls st : List Value} {M : M1}
theorem va_P1 {D : va_G} {cl : List vw_C} {q : Nat × va_E} {H : Heap} (h : va_at D cl q H) : va_P D cl [q] H := by
  intro k x hx
  match k, hx with
  | 0, hx => cases hx; exact h
  | k + 1, hx => cases hx
theorem at_spec {a k : Nat} {i : Int32} (h : at_ O1 M a k i = true) (hk : k ≠ 0) : (sh0 a).1 = k ∧ a < 100 + M.1 ∧ inb i (sh0 a).2 = true := by
  unfold at_ at h
  rw [Bool.and_eq_true] at h
  obtain ⟨h1, h2⟩ := s1_kind (m := M) h.1 hk
  refine ⟨h1, h2, ?_⟩
  have e : oS O1 M a = sh0 a := by
    show bb (Nat.blt a (100 + M.1)) (sh0 a) (0, 0) = sh0 a
    rw [lt_blt h2]
    rfl
  have h3 := h.2
  rw [e] at h3
  exact h3
theorem aV_int {a kd : Nat} (h : kd < 43) : aV G M a kd = fun j => .int (M.2.2.1 a j) := by
  funext j; unfold aV; rw [if_neg (by omega), if_neg (by omega)]
theorem aV_long {a : Nat} : aV G M a 43 = fun j => .long (M.2.2.2.1 a j) := by
  funext j; unfold aV; rw [if_pos rfl]
theorem aV_ref {a kd : Nat} (h : 44 ≤ kd) : aV G M a kd = fun j => va_rf (adr G (M.2.2.2.2 a j)) := by
  funext j; unfold aV; rw [if_neg (by omega), if_pos h]
theorem w_iald {a : Nat} {i : Int32} (X : Ctx p R s m args meth c G me d) (hd : decode (byt me) pc = .ok (.iaload, 1)) (hk : at_ O1 M a 40 i = true) (kk : WW p l e R s m args below meth c G me Q n0 w0 (pc + 1) ls (.int (M.2.2.1 a (ix i)) :: st) M) : WW p l e R s m args below meth c G me Q n0 w0 pc ls (.int i :: .ref a :: st) M := by
  intro H locs sl hL hR hS
  obtain ⟨h1, h2, h3⟩ := at_spec hk (by decide)
  have h100 : 100 ≤ a := kind_ge (by omega)
  have hc := hR.arr (a := a) (by omega) h100 h2
  rw [h1, aV_int (by decide)] at hc
  have hkk := kk H locs sl hL hR hS
  rw [List.map_cons] at hkk
  rw [List.map_cons, List.map_cons, cv_ref h100]
  exact va_iald (ws := [(ad G a, .inl (G.2.1 40, (sh0 a).2, .inl (M.2.2.1 a)))]) X.1 X.2.1 X.2.2.2.2.2.1 (va_P1 hc) 0 0 rfl rfl (inb_in h3) hd hkk
theorem w_bald {a : Nat} {i : Int32} (X : Ctx p R s m args meth c G me d) (hd : decode (byt me) pc = .ok (.baload, 1)) (hk : (at_ O1 M a 41 i || at_ O1 M a 42 i) = true) (kk : WW p l e R s m args below meth c G me Q n0 w0 (pc + 1) ls (.int (M.2.2.1 a (ix i)) :: st) M) : WW p l e R s m args below meth c G me Q n0 w0 pc ls (.int i :: .ref a :: st) M := by
  intro H locs sl hL hR hS
  have hkk := kk H locs sl hL hR hS
  rw [List.map_cons] at hkk
  rw [List.map_cons, List.map_cons]
  rcases Bool.or_eq_true_iff.mp hk with hk | hk
  · obtain ⟨h1, h2, h3⟩ := at_spec hk (by decide)
    have h100 : 100 ≤ a := kind_ge (by omega)
    have hc := hR.arr (a := a) (by omega) h100 h2
    rw [h1, aV_int (by decide)] at hc
    rw [cv_ref h100]
    exact va_bald (ws := [(ad G a, .inl (G.2.1 41, (sh0 a).2, .inl (M.2.2.1 a)))]) X.1 X.2.1 X.2.2.2.2.2.1 (va_P1 hc) 0 1 rfl rfl (inb_in h3) hd hkk
  · obtain ⟨h1, h2, h3⟩ := at_spec hk (by decide)
    have h100 : 100 ≤ a := kind_ge (by omega)
    have hc := hR.arr (a := a) (by omega) h100 h2
    rw [h1, aV_int (by decide)] at hc
    rw [cv_ref h100]
    exact va_zald (ws := [(ad G a, .inl (G.2.1 42, (sh0 a).2, .inl (M.2.2.1 a)))]) X.1 X.2.1 X.2.2.2.2.2.1 (va_P1 hc) 0 2 rfl rfl (inb_in h3) hd hkk
theorem w_lald {a : Nat} {i : Int32} (X : Ctx p R s m args meth c G me d) (hd : decode (byt me) pc = .ok (.laload, 1)) (hk : at_ O1 M a 43 i = true) (kk : WW p l e R s m args below meth c G me Q n0 w0 (pc + 1) ls (.long (M.2.2.2.1 a (ix i)) :: st) M) : WW p l e R s m args below meth c G me Q n0 w0 pc ls (.int i :: .ref a :: st) M := by
  intro H locs sl hL hR hS
  obtain ⟨h1, h2, h3⟩ := at_spec hk (by decide)
  have h100 : 100 ≤ a := kind_ge (by omega)
  have hc := hR.arr (a := a) (by omega) h100 h2
  rw [h1, aV_long] at hc
  have hkk := kk H locs sl hL hR hS
  rw [List.map_cons] at hkk
  rw [List.map_cons, List.map_cons, cv_ref h100]
  exact va_lald (ws := [(ad G a, .inl (G.2.1 43, (sh0 a).2, .inr (.inl (M.2.2.2.1 a))))]) X.1 X.2.1 X.2.2.2.2.2.1 (va_P1 hc) 0 3 rfl rfl (inb_in h3) hd hkk
theorem or3 {a b c : Bool} (h : (a || b || c) = true) : a = true ∨ b = true ∨ c = true := by cases a <;> cases b <;> cases c <;> simp_all
theorem w_aald {a : Nat} {i : Int32} (X : Ctx p R s m args meth c G me d) (hd : decode (byt me) pc = .ok (.aaload, 1)) (hk : (at_ O1 M a 44 i || at_ O1 M a 45 i || at_ O1 M a 46 i) = true) (kk : WW p l e R s m args below meth c G me Q n0 w0 (pc + 1) ls (.ref (M.2.2.2.2 a (ix i)) :: st) M) : WW p l e R s m args below meth c G me Q n0 w0 pc ls (.int i :: .ref a :: st) M := by
  intro H locs sl hL hR hS
  have hkk := kk H locs sl hL hR hS
  rw [List.map_cons] at hkk
  rw [List.map_cons, List.map_cons]
  have go : ∀ (k t0 : Nat) (C : String), 44 ≤ k → (TYS G)[t0]? = some (G.2.1 k, .object C) → at_ O1 M a k i = true → W p l e R s m args below meth c H locs (M.1 - n0) (M.2.1 - w0) Q (F0 m pc sl (cv G (.int i) :: cv G (.ref a) :: st.map (cv G))) := by
    intro k t0 C hk44 ht hk
    obtain ⟨h1, h2, h3⟩ := at_spec hk (by omega)
    have h100 : 100 ≤ a := kind_ge (by omega)
    have hc := hR.arr (a := a) (by omega) h100 h2
    rw [h1, aV_ref hk44] at hc
    rw [cv_ref h100]
    exact va_aldq (ws := [(ad G a, .inl (G.2.1 k, (sh0 a).2, .inr (.inr (.inr (.inr (fun j => adr G (M.2.2.2.2 a j)))))))]) X.1 X.2.1 X.2.2.2.2.2.1 (va_P1 hc) 0 t0 rfl ht (inb_in h3) hd hkk
  rcases or3 hk with hk | hk | hk
  · exact go 44 4 _ (by decide) rfl hk
  · exact go 45 5 _ (by decide) rfl hk
  · exact go 46 6 _ (by decide) rfl hk
/-- an array's cell is written -/
theorem RepH.ast {M' : M1} {H H' : Heap} {a k kd : Nat} {x : Value} (hR : RepH G M H) (hkd : (sh0 a).1 = kd) (h40 : 40 ≤ kd) (hM1 : M'.1 = M.1) (hrow : ∀ b, b ≠ a → M'.2.2.1 b = M.2.2.1 b ∧ M'.2.2.2.1 b = M.2.2.2.1 b ∧ M'.2.2.2.2 b = M.2.2.2.2 b) (hV : ∀ j, aV G M' a kd j = updV (aV G M a kd) k x j) (e : H'[ad G a]? = some ((arrV (G.2.1 kd) (sh0 a).2 (aV G M a kd)).setSlot k x)) (z : H'.size = H.size) (oq : ∀ q, q ≠ ad G a → H'[q]? = H[q]?) : RepH G M' H' := by
  refine hR.put (kind_ge (by omega)) hM1 z oq hrow ?_
  unfold RepC
  rw [if_neg (by omega), hkd, e, arrV_store]
  congr 2
  funext j
  exact (hV j).symm
theorem i1_row {a k : Nat} {v : Int32} : ∀ b, b ≠ a → (i1 M a k v).2.2.1 b = M.2.2.1 b ∧ (i1 M a k v).2.2.2.1 b = M.2.2.2.1 b ∧ (i1 M a k v).2.2.2.2 b = M.2.2.2.2 b := fun b hb => ⟨by funext j; show up2 _ _ _ _ b j = _; unfold up2; rw [if_neg hb], rfl, rfl⟩
theorem l1_row {a k : Nat} {v : Int64} : ∀ b, b ≠ a → (l1 M a k v).2.2.1 b = M.2.2.1 b ∧ (l1 M a k v).2.2.2.1 b = M.2.2.2.1 b ∧ (l1 M a k v).2.2.2.2 b = M.2.2.2.2 b := fun b hb => ⟨rfl, by funext j; show up2 _ _ _ _ b j = _; unfold up2; rw [if_neg hb], rfl⟩
theorem r1_row {a k v : Nat} : ∀ b, b ≠ a → (r1 M a k v).2.2.1 b = M.2.2.1 b ∧ (r1 M a k v).2.2.2.1 b = M.2.2.2.1 b ∧ (r1 M a k v).2.2.2.2 b = M.2.2.2.2 b := fun b hb => ⟨rfl, rfl, by funext j; show up2 _ _ _ _ b j = _; unfold up2; rw [if_neg hb]⟩
theorem up2_self {α : Type} {f : Nat → Nat → α} {a k j : Nat} {v : α} : up2 f a k v a j = if j = k then v else f a j := by unfold up2; rw [if_pos rfl]
theorem arr_in {a : Nat} {i : Int32} {cA : ClassId} {f : Nat → Value} (h : inb i (sh0 a).2 = true) : ¬ (i < 0 ∨ (arrV cA (sh0 a).2 f).slots.size ≤ i.toNatClampNeg) := by
  rw [arrV_size]; exact inb_in h
theorem w_iast {a : Nat} {i v : Int32} (X : Ctx p R s m args meth c G me d) (hd : decode (byt me) pc = .ok (.iastore, 1)) (hk : at_ O1 M a 40 i = true) (kk : WW p l e R s m args below meth c G me Q n0 w0 (pc + 1) ls st (i1 M a (ix i) v)) : WW p l e R s m args below meth c G me Q n0 w0 pc ls (.int v :: .int i :: .ref a :: st) M := by
  intro H locs sl hL hR hS
  obtain ⟨h1, h2, h3⟩ := at_spec hk (by decide)
  have h100 : 100 ≤ a := kind_ge (by omega)
  have hc := hR.arr (a := a) (by omega) h100 h2
  rw [h1] at hc
  rw [List.map_cons, List.map_cons, List.map_cons, cv_ref h100]
  refine W.iast X.1 X.2.1 hc ((X.2.2.2.2.2.1.2 0 _ rfl).1 _ _) (fun q => by cases q) (arr_in h3) rfl rfl hd (fun H' e z oq => ?_)
  exact kk H' _ sl hL (hR.ast (x := .int v) h1 (by decide) rfl i1_row (fun j => by
    rw [aV_int (by decide), aV_int (by decide)]
    show Value.int (up2 _ _ _ _ a j) = _
    rw [up2_self]
    show _ = if j = ix i then _ else _
    by_cases hj : j = ix i
    · rw [if_pos hj, if_pos hj]
    · rw [if_neg hj, if_neg hj]) e z oq) (hS.put z oq (by show G.2.2.1 ≤ ad G a; unfold ad; omega))
theorem w_bast {a : Nat} {i v : Int32} (X : Ctx p R s m args meth c G me d) (hd : decode (byt me) pc = .ok (.bastore, 1)) (hk : at_ O1 M a 41 i = true) (kk : WW p l e R s m args below meth c G me Q n0 w0 (pc + 1) ls st (i1 M a (ix i) v.toInt8.toInt32)) : WW p l e R s m args below meth c G me Q n0 w0 pc ls (.int v :: .int i :: .ref a :: st) M := by
  intro H locs sl hL hR hS
  obtain ⟨h1, h2, h3⟩ := at_spec hk (by decide)
  have h100 : 100 ≤ a := kind_ge (by omega)
  have hc := hR.arr (a := a) (by omega) h100 h2
  rw [h1] at hc
  rw [List.map_cons, List.map_cons, List.map_cons, cv_ref h100]
  refine W.bast X.1 X.2.1 hc ((X.2.2.2.2.2.1.2 1 _ rfl).1 _ _) (fun q => by cases q) (arr_in h3) rfl rfl hd (fun H' e z oq => ?_)
  exact kk H' _ sl hL (hR.ast (x := .int v.toInt8.toInt32) h1 (by decide) rfl i1_row (fun j => by
    rw [aV_int (by decide), aV_int (by decide)]
    show Value.int (up2 _ _ _ _ a j) = _
    rw [up2_self]
    show _ = if j = ix i then _ else _
    by_cases hj : j = ix i
    · rw [if_pos hj, if_pos hj]
    · rw [if_neg hj, if_neg hj]) e z oq) (hS.put z oq (by show G.2.2.1 ≤ ad G a; unfold ad; omega))
theorem w_zast {a : Nat} {i v : Int32} (X : Ctx p R s m args meth c G me d) (hd : decode (byt me) pc = .ok (.bastore, 1)) (hk : at_ O1 M a 42 i = true) (kk : WW p l e R s m args below meth c G me Q n0 w0 (pc + 1) ls st (i1 M a (ix i) (v &&& 1))) : WW p l e R s m args below meth c G me Q n0 w0 pc ls (.int v :: .int i :: .ref a :: st) M := by
  intro H locs sl hL hR hS
  obtain ⟨h1, h2, h3⟩ := at_spec hk (by decide)
  have h100 : 100 ≤ a := kind_ge (by omega)
  have hc := hR.arr (a := a) (by omega) h100 h2
  rw [h1] at hc
  rw [List.map_cons, List.map_cons, List.map_cons, cv_ref h100]
  refine W.zast X.1 X.2.1 hc ((X.2.2.2.2.2.1.2 2 _ rfl).1 _ _) (fun q => by cases q) (arr_in h3) rfl rfl hd (fun H' e z oq => ?_)
  exact kk H' _ sl hL (hR.ast (x := .int (v &&& 1)) h1 (by decide) rfl i1_row (fun j => by
    rw [aV_int (by decide), aV_int (by decide)]
    show Value.int (up2 _ _ _ _ a j) = _
    rw [up2_self]
    show _ = if j = ix i then _ else _
    by_cases hj : j = ix i
    · rw [if_pos hj, if_pos hj]
    · rw [if_neg hj, if_neg hj]) e z oq) (hS.put z oq (by show G.2.2.1 ≤ ad G a; unfold ad; omega))
theorem w_last {a : Nat} {i : Int32} {v : Int64} (X : Ctx p R s m args meth c G me d) (hd : decode (byt me) pc = .ok (.lastore, 1)) (hk : at_ O1 M a 43 i = true) (kk : WW p l e R s m args below meth c G me Q n0 w0 (pc + 1) ls st (l1 M a (ix i) v)) : WW p l e R s m args below meth c G me Q n0 w0 pc ls (.long v :: .int i :: .ref a :: st) M := by
  intro H locs sl hL hR hS
  obtain ⟨h1, h2, h3⟩ := at_spec hk (by decide)
  have h100 : 100 ≤ a := kind_ge (by omega)
  have hc := hR.arr (a := a) (by omega) h100 h2
  rw [h1] at hc
  rw [List.map_cons, List.map_cons, List.map_cons, cv_ref h100]
  refine W.last X.1 X.2.1 hc ((X.2.2.2.2.2.1.2 3 _ rfl).1 _ _) (fun q => by cases q) (arr_in h3) rfl rfl hd (fun H' e z oq => ?_)
  exact kk H' _ sl hL (hR.ast (x := .long v) h1 (by decide) rfl l1_row (fun j => by
    rw [aV_long, aV_long]
    show Value.long (up2 _ _ _ _ a j) = _
    rw [up2_self]
    show _ = if j = ix i then _ else _
    by_cases hj : j = ix i
    · rw [if_pos hj, if_pos hj]
    · rw [if_neg hj, if_neg hj]) e z oq) (hS.put z oq (by show G.2.2.1 ≤ ad G a; unfold ad; omega))
theorem w_aast {a v : Nat} {i : Int32} (X : Ctx p R s m args meth c G me d) (hd : decode (byt me) pc = .ok (.aastore, 1)) (hk : (at_ O1 M a 44 i || at_ O1 M a 45 i || at_ O1 M a 46 i) = true) (hkv : isK O1 M v (nslots (oS O1 M a).1) = true) (kk : WW p l e R s m args below meth c G me Q n0 w0 (pc + 1) ls st (r1 M a (ix i) v)) : WW p l e R s m args below meth c G me Q n0 w0 pc ls (.ref v :: .int i :: .ref a :: st) M := by
  intro H locs sl hL hR hS
  have go : ∀ (k t0 ci : Nat) (C : String) (r : vw_C), 44 ≤ k → nslots k = 10 + ci → ci < 30 → (TYS G)[t0]? = some (G.2.1 k, .object C) → vwCl[ci]? = some r → r.1 = C → at_ O1 M a k i = true → W p l e R s m args below meth c H locs (M.1 - n0) (M.2.1 - w0) Q (F0 m pc sl ((.ref v :: .int i :: .ref a :: st).map (cv G))) := by
    intro k t0 ci C r hk44 hns hci ht hc0 hrC hk
    obtain ⟨h1, h2, h3⟩ := at_spec hk (by omega)
    have h100 : 100 ≤ a := kind_ge (by omega)
    have hc := hR.arr (a := a) (by omega) h100 h2
    rw [h1] at hc
    have e0 : oS O1 M a = sh0 a := by
      show bb (Nat.blt a (100 + M.1)) (sh0 a) (0, 0) = sh0 a
      rw [lt_blt h2]
      rfl
    rw [e0, h1, hns] at hkv
    obtain ⟨v1, v2⟩ := s1_kind hkv (by omega)
    have hv100 : 100 ≤ v := kind_ge (by omega)
    obtain ⟨cellV, g1, g2, g3, -⟩ := hR.obj (a := v) (by omega) hv100 v2
    rw [v1, show 10 + ci - 10 = ci by omega] at g2
    have hK := X.2.2.2.2.2.1
    have hcls := (hK.1 ci r hc0).2
    obtain ⟨kA, comp, k1, k2, k3, -⟩ := (hK.2 t0 _ ht).2
    have hcomp : comp = G.1.1 ci := Option.some.inj (k3.symm.trans (by rw [← hrC]; exact hcls.1))
    subst hcomp
    obtain ⟨kC, hkC, -⟩ := hcls.2
    have hin : ¬ i < 0 ∧ i.toNatClampNeg < (arrV (G.2.1 k) (sh0 a).2 (aV G M a k)).slots.size := by
      have := arr_in (cA := G.2.1 k) (f := aV G M a k) h3
      exact ⟨fun q => this (Or.inl q), Nat.not_le.mp fun q => this (Or.inr q)⟩
    rw [List.map_cons, List.map_cons, List.map_cons, cv_ref h100, cv_ref hv100]
    refine W.aast X.1 X.2.1 hc (fun q h => by cases h) (fun h => by cases h) k1 k2 rfl hkC hin g1 (fun q h => by rw [g3] at h; cases h) (by rw [g2]; exact hkC) (by rw [g2]; exact va_assign hcls) rfl rfl hd (fun H' e z oq => ?_)
    exact kk H' _ sl hL (hR.ast (x := .ref (ad G v)) h1 (by omega) rfl r1_row (fun j => by
    rw [aV_ref hk44, aV_ref hk44]
    show va_rf (adr G (up2 _ _ _ _ a j)) = _
    rw [up2_self]
    show _ = if j = ix i then _ else _
    by_cases hj : j = ix i
    · rw [if_pos hj, if_pos hj, adr_ge hv100]; rfl
    · rw [if_neg hj, if_neg hj]) e z oq) (hS.put z oq (by show G.2.2.1 ≤ ad G a; unfold ad; omega))
  rcases or3 hk with hk | hk | hk
  · exact go 44 4 6 "RoseWall$Room" _ (by decide) rfl (by decide) rfl rfl rfl hk
  · exact go 45 5 3 "RoseWall$Moment" _ (by decide) rfl (by decide) rfl rfl rfl hk
  · exact go 46 6 10 "RoseWall$Tray" _ (by decide) rfl (by decide) rfl rfl rfl hk
theorem iI_nat (n : Nat) : Int32.ofNat n = iI n := Int32.ofInt_eq_ofNat.symm
end Steps3
end
section
/-! NEW CELLS, constants, statics, strings, switches. -/
theorem n1_spec {M : M1} {sh : Nat × Nat} {w a : Nat} {M' : M1} (h : n1 M sh w = some (a, M')) : sh0 (100 + M.1) = sh ∧ a = 100 + M.1 ∧ M' = mNew M w := by
  unfold n1 at h
  cases hb : decide (sh0 (100 + M.1) = sh) with
  | false => rw [hb] at h; cases h
  | true =>
    rw [hb] at h
    cases h
    exact ⟨of_decide_eq_true hb, rfl, rfl⟩
def ckAr (i : Nat) (ty : FieldType) : Bool := decide (lw_tbl[i]? = some (.arrayClass ty))
section Steps4
variable {p : Program} {l : Launch} {e : Env} {R : Room} {s : State} {m : MethodId} {args : Array Value} {below : List Frame} {meth : Method} {c : Code} {G : Wd} {me : MD} {Q : State → Prop} {n0 w0 d : Nat} {pc : Nat} {ls st : List Value} {M : M1}
theorem ad_new {H : Heap} (hR : RepH G M H) : ad G (100 + M.1) = H.size := by unfold ad; rw [hR.1]; omega
theorem va_S.grow {H H' : Heap} {locs : List Loc} {A : Nat → Prop} {H0 : Heap} (hS : va_S A H0 H locs) (hz : H'.size = H.size + 1) (ho : ∀ q, q < H.size → H'[q]? = H[q]?) : va_S A H0 H' locs :=
  ⟨by rw [hz]; exact Nat.le_succ_of_le hS.1, fun q h1 h2 => by rw [ho q (Nat.lt_of_lt_of_le h1 hS.1)]; exact hS.2.1 q h1 h2, hS.2.2⟩
theorem w_new {n : Nat} {q : Nat × Nat × Nat × Nat × Nat} {a : Nat} {M' : M1} (X : Ctx p R s m args meth c G me d) (hd : decode (byt me) pc = .ok (.new n, 3)) (hq : cres me.2.1 n = some q) (hn : n1 M (10 + q.1, 0) q.2.1 = some (a, M')) (h0 : n0 ≤ M.1) (h1 : w0 ≤ M.2.1) (hc : M'.1 - n0 ≤ R.cells) (hs : M'.2.1 - w0 ≤ R.slots)
    (kk : WW p l e R s m args below meth c G me Q n0 w0 (pc + 3) ls (.ref a :: st) M') : WW p l e R s m args below meth c G me Q n0 w0 pc ls st M := by
  intro H locs sl hL hR hS
  obtain ⟨e1, rfl, rfl⟩ := n1_spec hn
  have hk := ckRows_spec ckC_all hq
  cases hv : vwCl[q.1]? with
  | none => rw [hv] at hk; cases hk
  | some r =>
    rw [hv] at hk
    simp only [Bool.and_eq_true] at hk
    obtain ⟨k1, k2, k3, k4⟩ := hk
    have hts := X.2.2.2.2.1
    have hK := X.2.2.2.2.2.1
    obtain ⟨r', e1', e2, e3, e4, ⟨ty0, e5, e6⟩, -⟩ := vw_all _ (vw_lt hv)
    cases hv.symm.trans e1'
    have hKn := hK.1 q.1 _ hv
    have hN : r.2.2 = q.2.1 := Nat.eq_of_beq_eq_true k1
    refine W.newcK X.1 X.2.1 X.2.2.2.1 (hts _ (inTB (of_decide_eq_true k2) rfl)) (hts _ (inTB (of_decide_eq_true k3) rfl)) (hts _ (inTB (of_decide_eq_true k4) rfl)) rfl hd (by have : M.1 + 1 - n0 ≤ R.cells := hc; omega) (by have : M.2.1 + q.2.1 - w0 ≤ R.slots := hs; omega) hKn.2.1 rfl fun H1 kC hkC z1 z2 z3 => ?_
    have hRC : RepC G (mNew M q.2.1) H1 (100 + M.1) := by
      unfold RepC
      have hci := vw_lt hv
      rw [e1]
      show if 10 + q.1 < 40 then _ else _
      rw [if_pos (by omega), show 10 + q.1 - 10 = q.1 by omega, ad_new hR, e2]
      refine (u_born ty0 hts e4 hKn hkC z1 e5).to (fun j hj => ?_)
      rw [e6 j hj]
      unfold fV
      have r1 : (mNew M q.2.1).2.2.1 (100 + M.1) j = 0 := by show row0 _ _ _ _ _ = _; unfold row0; rw [if_pos rfl]
      have r2 : (mNew M q.2.1).2.2.2.1 (100 + M.1) j = 0 := by show row0 _ _ _ _ _ = _; unfold row0; rw [if_pos rfl]
      have r3 : (mNew M q.2.1).2.2.2.2 (100 + M.1) j = 0 := by show row0 _ _ _ _ _ = _; unfold row0; rw [if_pos rfl]
      rw [r1, r2, r3]
      generalize (ftyT.getD q.1 []).getD j 0 = z
      match z with
      | 0 => rfl
      | 1 => rfl
      | 2 => rfl
      | z + 3 => rfl
    have := kk H1 locs sl hL (hR.push z2 z3 hRC) (hS.grow z2 z3)
    rw [List.map_cons, cv_ref (by omega), ad_new hR] at this
    rw [show M.1 - n0 + 1 = (mNew M q.2.1).1 - n0 by show _ = M.1 + 1 - n0; omega, show M.2.1 - w0 + r.2.2 = (mNew M q.2.1).2.1 - w0 by show _ = M.2.1 + q.2.1 - w0; omega]
    exact this
theorem w_newa {t : Jvm.ClassFile.ArrayType} {kd t0 : Nat} {ty : FieldType} {n : Int32} {a : Nat} {M' : M1} (X : Ctx p R s m args meth c G me d) (hd : decode (byt me) pc = .ok (.newarray t, 2)) (hty : newarray.typeOf t = ty) (harr : Cond.arrayClass ty ∈ TB) (ht : (TYS G)[t0]? = some (G.2.1 kd, ty)) (h40 : 40 ≤ kd) (hRA : ∀ cA, va_RA s cA ty → s.vm.findClass ("[" ++ ty.toString) = some cA) (hdef : defaultValue ty = aV G (mNew M 0) (100 + M.1) kd 0) (hbt : componentBytes ty ≤ 8) (hn0 : ¬ n < 0) (hb : ix n ≤ 100000) (hn : n1 M (kd, ix n) (ix n) = some (a, M')) (h0 : n0 ≤ M.1) (h1 : w0 ≤ M.2.1) (hc : M'.1 - n0 ≤ R.cells) (hs : M'.2.1 - w0 ≤ R.slots)
    (kk : WW p l e R s m args below meth c G me Q n0 w0 (pc + 2) ls (.ref a :: st) M') : WW p l e R s m args below meth c G me Q n0 w0 pc ls (.int n :: st) M := by
  intro H locs sl hL hR hS
  obtain ⟨e1, rfl, rfl⟩ := n1_spec hn
  subst hty
  have hts := X.2.2.2.2.1
  have hK := X.2.2.2.2.2.1
  refine va_newaK X.1 X.2.1 (hts _ harr) rfl hd rfl hn0 (N := ix n) rfl (by have : ix n * componentBytes (newarray.typeOf t) ≤ 100000 * 8 := Nat.mul_le_mul hb hbt; omega) (by have : M.1 + 1 - n0 ≤ R.cells := hc; omega) (by have : M.2.1 + ix n - w0 ≤ R.slots := hs; omega) rfl (fun H1 cA z1 z2 z3 hAr hNm => ?_)
  have hcA : cA = G.2.1 kd := Option.some.inj (hNm.symm.trans (hRA _ (hK.2 t0 _ ht).2))
  subst hcA
  have hz : ∀ j, aV G (mNew M (ix n)) (100 + M.1) kd j = aV G (mNew M 0) (100 + M.1) kd 0 := by
    intro j
    unfold aV mNew row0
    simp
  have hRC : RepC G (mNew M (ix n)) H1 (100 + M.1) := by
    unfold RepC
    rw [e1]
    show if kd < 40 then _ else _
    rw [if_neg (by omega), ad_new hR, z1]
    congr 2
    funext j
    rw [hz j, hdef]
  have := kk H1 locs sl hL (hR.push z2 z3 hRC) (hS.grow z2 z3)
  rw [List.map_cons, cv_ref (by omega), ad_new hR] at this
  rw [show M.1 - n0 + 1 = (mNew M (ix n)).1 - n0 by show _ = M.1 + 1 - n0; omega, show M.2.1 - w0 + ix n = (mNew M (ix n)).2.1 - w0 by show _ = M.2.1 + ix n - w0; omega]
  exact this
theorem w_anew {k : Nat} {q : Nat × Nat × Nat} {n : Int32} {a : Nat} {M' : M1} (X : Ctx p R s m args meth c G me d) (hd : decode (byt me) pc = .ok (.anewarray k, 3)) (hq : ares me.2.1 k = some q) (hn0 : ¬ n < 0) (hb : ix n ≤ 100000) (hn : n1 M (q.1, ix n) (ix n) = some (a, M')) (h0 : n0 ≤ M.1) (h1 : w0 ≤ M.2.1) (hc : M'.1 - n0 ≤ R.cells) (hs : M'.2.1 - w0 ≤ R.slots)
    (kk : WW p l e R s m args below meth c G me Q n0 w0 (pc + 3) ls (.ref a :: st) M') : WW p l e R s m args below meth c G me Q n0 w0 pc ls (.int n :: st) M := by
  intro H locs sl hL hR hS
  obtain ⟨e1, rfl, rfl⟩ := n1_spec hn
  have hk := ckRows_spec ckA_all hq
  simp only [Bool.and_eq_true] at hk
  obtain ⟨k1, k2, k3, k4⟩ := hk
  have hk1 : 44 ≤ q.1 := Nat.le_of_ble_eq_true k1
  have hk2 : q.1 ≤ 46 := Nat.le_of_ble_eq_true k2
  have hts := X.2.2.2.2.1
  have hK := X.2.2.2.2.2.1
  have hAO := X.2.2.2.2.2.2.1.2.2.2.2.2.1
  have hover : (Cond.arrayOver (FieldType.object (arrN q.1))).before args s = true ∧ ∃ t0 : Nat, (TYS G)[t0]? = some (G.2.1 q.1, FieldType.object (arrN q.1)) := by
    rcases (show q.1 = 44 ∨ q.1 = 45 ∨ q.1 = 46 by omega) with h | h | h
    · rw [h]; exact ⟨hAO.1.use, 4, rfl⟩
    · rw [h]; exact ⟨hAO.2.1.use, 5, rfl⟩
    · rw [h]; exact ⟨hAO.2.2.use, 6, rfl⟩
  obtain ⟨hov, t0, ht⟩ := hover
  refine W.anew X.1 X.2.1 X.2.2.2.1 (hts _ (inTB (of_decide_eq_true k3) rfl)) hov rfl hd rfl hn0 (by have : ix n * 4 ≤ 100000 * 4 := Nat.mul_le_mul hb (Nat.le_refl 4); show ix n * 4 ≤ _; omega) (by have : M.1 + 1 - n0 ≤ R.cells := hc; omega) (by have : M.2.1 + ix n - w0 ≤ R.slots := hs; show M.2.1 - w0 + ix n ≤ _; omega) (fun cA kA comp f1 f2 f3 f4 => ?_)
  generalize hH1 : H.push ({ cls := cA, slots := Array.replicate n.toNatClampNeg .null, vm := .none } : Cell) = H1
  have z2 : H1.size = H.size + 1 := by rw [← hH1, Array.size_push]
  have z1 : H1[H.size]? = some (arrV cA (ix n) (fun _ => .null)) := by rw [← hH1, Array.getElem?_push_size, ← arrV_new]; rfl
  have z3 : ∀ q : Nat, q < H.size → H1[q]? = H[q]? := fun q hq => by rw [← hH1, Array.getElem?_push, if_neg (Nat.ne_of_lt hq)]
  obtain ⟨kA', comp', g1, g2, g3, g4⟩ := (hK.2 t0 _ ht).2
  have hcA : cA = G.2.1 q.1 := Option.some.inj (f1.symm.trans g4)
  subst hcA
  have hRC : RepC G (mNew M (ix n)) H1 (100 + M.1) := by
    unfold RepC
    rw [e1]
    show if q.1 < 40 then _ else _
    rw [if_neg (by omega), ad_new hR, z1]
    congr 2
    funext j
    rw [aV_ref (show 44 ≤ (q.1, ix n).1 from hk1)]
    have r3 : (mNew M (ix n)).2.2.2.2 (100 + M.1) j = 0 := by show row0 _ _ _ _ _ = _; unfold row0; rw [if_pos rfl]
    show Value.null = va_rf (adr G ((mNew M (ix n)).2.2.2.2 (100 + M.1) j))
    rw [r3]
    rfl
  have := kk H1 locs sl hL (hR.push z2 z3 hRC) (hS.grow z2 z3)
  rw [List.map_cons, cv_ref (by omega), ad_new hR] at this
  rw [show M.1 - n0 + 1 = (mNew M (ix n)).1 - n0 by show _ = M.1 + 1 - n0; omega, show M.2.1 - w0 + n.toNatClampNeg = (mNew M (ix n)).2.1 - w0 by show _ = M.2.1 + ix n - w0; show M.2.1 - w0 + ix n = _; omega]
  exact this
theorem w_ldc {k : Nat} {z : Int × Nat} (X : Ctx p R s m args meth c G me d) (hd : decode (byt me) pc = .ok (.ldc k, 2)) (hk : kint me.2.1 k = some z) (kk : WW p l e R s m args below meth c G me Q n0 w0 (pc + 2) ls (.int (iI z.1) :: st) M) : WW p l e R s m args below meth c G me Q n0 w0 pc ls st M := fun H locs sl hL hR hS =>
  lv_ldc X.1 X.2.1 X.2.2.2.1 (X.2.2.2.2.1 _ (inTB (of_decide_eq_true (ckRows_spec ckKI_all hk)) rfl)) hd (kk H locs sl hL hR hS)
theorem w_ldcw {k : Nat} {z : Int × Nat} (X : Ctx p R s m args meth c G me d) (hd : decode (byt me) pc = .ok (.ldc_w k, 3)) (hk : kint me.2.1 k = some z) (kk : WW p l e R s m args below meth c G me Q n0 w0 (pc + 3) ls (.int (iI z.1) :: st) M) : WW p l e R s m args below meth c G me Q n0 w0 pc ls st M := fun H locs sl hL hR hS =>
  lv_ldcw X.1 X.2.1 X.2.2.2.1 (X.2.2.2.2.1 _ (inTB (of_decide_eq_true (ckRows_spec ckKI_all hk)) rfl)) hd (kk H locs sl hL hR hS)
theorem w_ldc2 {k : Nat} {z : Int × Nat} (X : Ctx p R s m args meth c G me d) (hd : decode (byt me) pc = .ok (.ldc2_w k, 3)) (hk : klong me.2.1 k = some z) (kk : WW p l e R s m args below meth c G me Q n0 w0 (pc + 3) ls (.long (lI z.1) :: st) M) : WW p l e R s m args below meth c G me Q n0 w0 pc ls st M := fun H locs sl hL hR hS =>
  lv_ldc2 X.1 X.2.1 X.2.2.2.1 (X.2.2.2.2.1 _ (inTB (of_decide_eq_true (ckRows_spec ckKL_all hk)) rfl)) hd (kk H locs sl hL hR hS)
theorem kstr_range {own n : Nat} {q : Nat × Nat} (h : kstr own n = some q) : q.1 ≠ 0 ∧ q.1 < 100 := by
  have hk : ckRows kstrT (fun _ _ q => !(Nat.beq q.1 0) && Nat.blt q.1 100) = true := by decide +kernel
  have h1 := ckRows_spec hk h
  simp only [Bool.and_eq_true] at h1
  refine ⟨fun e => ?_, blt_lt h1.2⟩
  rw [e] at h1
  exact absurd h1.1 (by decide)
theorem w_ldcS {k : Nat} {q : Nat × Nat} (X : Ctx p R s m args meth c G me d) (hd : decode (byt me) pc = .ok (.ldc k, 2)) (hk : kstr me.2.1 k = some q) (kk : WW p l e R s m args below meth c G me Q n0 w0 (pc + 2) ls (.ref q.1 :: st) M) : WW p l e R s m args below meth c G me Q n0 w0 pc ls st M := by
  intro H locs sl hL hR hS
  obtain ⟨tx, a, e1, e2⟩ := X.2.2.2.2.2.2.1.2.2.1 _ _ _ hk
  have h := kk H locs sl hL hR hS
  obtain ⟨k0, k1⟩ := kstr_range hk
  rw [List.map_cons, show cv G (.ref q.1) = .ref a by show va_rf (adr G q.1) = _; unfold adr; rw [if_neg k0, if_pos k1, e1]; rfl] at h
  exact va_ldcS X.1 X.2.1 X.2.2.2.1 e2 hd h
theorem w_gst {k : Nat} {q : Nat × Nat} {v : Value} (X : Ctx p R s m args meth c G me d) (hd : decode (byt me) pc = .ok (.getstatic k, 3)) (hk : gst me.2.1 k = some q) (hv : v = bb (Nat.beq q.1 1) (.int (iI 1)) (.ref 2)) (kk : WW p l e R s m args below meth c G me Q n0 w0 (pc + 3) ls (v :: st) M) : WW p l e R s m args below meth c G me Q n0 w0 pc ls st M := by
  intro H locs sl hL hR hS
  have h := kk H locs sl hL hR hS
  have hc := ckRows_spec ckG_all hk
  rw [List.map_cons] at h
  cases hb : Nat.beq q.1 1 with
  | true =>
    rw [hb] at hc hv
    subst hv
    exact va_gets X.1 X.2.1 X.2.2.2.2.2.2.1.2.2.2.1 hS X.2.2.2.1 (X.2.2.2.2.1 _ (inTB (of_decide_eq_true hc) rfl)) (fun _ h => h) hd h
  | false =>
    rw [hb] at hc hv
    subst hv
    exact va_gets X.1 X.2.1 X.2.2.2.2.2.2.1.2.2.2.2.1 hS X.2.2.2.1 (X.2.2.2.2.1 _ (inTB (of_decide_eq_true hc) rfl)) (fun _ h => h) hd h
/-! the script, the texts -/
theorem isK_low {a k : Nat} (hk : isK O1 M a k = true) (h0 : k ≠ 0) (h4 : k < 4) : (sh0 a).1 = k ∧ a < 100 := by
  obtain ⟨h1, h2⟩ := s1_kind hk h0
  refine ⟨h1, ?_⟩
  rcases Nat.lt_or_ge a 100 with q | q
  · exact q
  · have hk2 : ∀ j, j < 116 → 4 ≤ (shT.getD j (0, 0)).1 := by decide +kernel
    rcases Nat.lt_or_ge (a - 100) 116 with z | z
    · have := hk2 _ z
      unfold sh0 at h1
      rw [show Nat.ble 100 a = true from Nat.ble_eq_true_of_le q] at h1
      dsimp only at h1
      omega
    · unfold sh0 at h1
      rw [show Nat.ble 100 a = true from Nat.ble_eq_true_of_le q] at h1
      dsimp only at h1
      have hl : shT.length = 116 := by decide +kernel
      rw [List.getD_eq_getElem?_getD, List.getElem?_eq_none (by rw [hl]; exact z)] at h1
      exact absurd h1.symm h0
theorem sh_script {a : Nat} (h : (sh0 a).1 = 1) (h100 : a < 100) : a = 1 := by
  have hk : ∀ j, j < 100 → (sh0 j).1 = 1 → j = 1 := by decide +kernel
  exact hk a h100 h
theorem sh_str {a : Nat} (h : (sh0 a).1 = 2) (h100 : a < 100) : ∃ i, i < 22 ∧ a = 10 + 2 * i := by
  have hk : ∀ j, j < 100 → (sh0 j).1 = 2 → (j - 10) / 2 < 22 ∧ j = 10 + 2 * ((j - 10) / 2) := by decide +kernel
  exact ⟨_, hk a h100 h⟩
theorem sh_txt {a : Nat} (h : (sh0 a).1 = 3) (h100 : a < 100) : ∃ i, i < 22 ∧ a = 11 + 2 * i ∧ (sh0 a).2 = (txtT.getD i []).length := by
  have hk : ∀ j, j < 100 → (sh0 j).1 = 3 → (j - 11) / 2 < 22 ∧ j = 11 + 2 * ((j - 11) / 2) ∧ (sh0 j).2 = (txtT.getD ((j - 11) / 2) []).length := by decide +kernel
  exact ⟨_, hk a h100 h⟩
theorem cv_low {a q : Nat} (h0 : a ≠ 0) (h : a < 100) (hq : G.2.2.2.1 a = some q) : cv G (.ref a) = .ref q := by
  show va_rf (adr G a) = _
  unfold adr; rw [if_neg h0, if_pos h, hq]; rfl
theorem w_sld {a : Nat} {i : Int32} (X : Ctx p R s m args meth c G me d) (hd : decode (byt me) pc = .ok (.iaload, 1)) (hk : isK O1 M a 1 = true) (hi : inb i (ix (M.2.2.1 0 0)) = true) (kk : WW p l e R s m args below meth c G me Q n0 w0 (pc + 1) ls (.int (M.2.2.1 a (ix i)) :: st) M) : WW p l e R s m args below meth c G me Q n0 w0 pc ls (.int i :: .ref a :: st) M := by
  intro H locs sl hL hR hS
  obtain ⟨h1, h2⟩ := isK_low hk (by decide) (by decide)
  have ha := sh_script h1 h2
  subst ha
  obtain ⟨b, hb, hT⟩ := X.2.2.2.2.2.2.1.1
  have hh := kk H locs sl hL hR hS
  rw [List.map_cons] at hh
  rw [List.map_cons, List.map_cons, cv_low (by decide) (by decide) hb]
  have hlen : ix (M.2.2.1 0 0) = G.2.2.2.2.1 := by
    rw [hR.2.2.2.1]
    exact Int32.toNatClampNeg_ofNat_of_lt (by have := hR.2.2.2.2; omega)
  rw [hlen] at hi
  have hin := inb_in hi
  refine va_ti X.1 X.2.1 hT hS hin ?_ hd hh
  show Value.int (G.2.2.2.2.2 (ix i)) = .int (M.2.2.1 1 (ix i))
  rw [hR.2.2.1 (ix i) (Nat.not_le.mp fun q => hin (Or.inr q))]
theorem w_slen {a : Nat} (X : Ctx p R s m args meth c G me d) (hd : decode (byt me) pc = .ok (.arraylength, 1)) (hk : isK O1 M a 1 = true) (kk : WW p l e R s m args below meth c G me Q n0 w0 (pc + 1) ls (.int (M.2.2.1 0 0) :: st) M) : WW p l e R s m args below meth c G me Q n0 w0 pc ls (.ref a :: st) M := by
  intro H locs sl hL hR hS
  obtain ⟨h1, h2⟩ := isK_low hk (by decide) (by decide)
  have ha := sh_script h1 h2
  subst ha
  obtain ⟨b, hb, hT⟩ := X.2.2.2.2.2.2.1.1
  have hh := kk H locs sl hL hR hS
  rw [List.map_cons] at hh
  rw [List.map_cons, cv_low (by decide) (by decide) hb]
  exact va_tlen X.1 X.2.1 hT hS hR.2.2.2.1.symm hd hh
theorem w_tb {a : Nat} {i : Int32} (X : Ctx p R s m args meth c G me d) (hd : decode (byt me) pc = .ok (.baload, 1)) (hk : isK O1 M a 3 = true) (hi : inb i (oS O1 M a).2 = true) (kk : WW p l e R s m args below meth c G me Q n0 w0 (pc + 1) ls (.int (txt a (ix i)) :: st) M) : WW p l e R s m args below meth c G me Q n0 w0 pc ls (.int i :: .ref a :: st) M := by
  intro H locs sl hL hR hS
  obtain ⟨h1, h2⟩ := isK_low hk (by decide) (by decide)
  obtain ⟨j, hj, ha, hlen⟩ := sh_txt h1 h2
  obtain ⟨k, v, q1, q2, -, -, -, hT⟩ := X.2.2.2.2.2.2.1.2.1 j hj
  have hh := kk H locs sl hL hR hS
  rw [List.map_cons] at hh
  have e0 : oS O1 M a = sh0 a := by
    show bb (Nat.blt a (100 + M.1)) (sh0 a) (0, 0) = sh0 a
    rw [lt_blt (show a < 100 + M.1 by omega)]
    rfl
  rw [e0, hlen] at hi
  rw [List.map_cons, List.map_cons, cv_low (by omega) h2 (by rw [ha]; exact q2)]
  refine va_tb X.1 X.2.1 hT hS (inb_in hi) ?_ hd hh
  rw [ha]
  rfl
theorem w_tlen {a : Nat} (X : Ctx p R s m args meth c G me d) (hd : decode (byt me) pc = .ok (.arraylength, 1)) (hk : isK O1 M a 3 = true) (kk : WW p l e R s m args below meth c G me Q n0 w0 (pc + 1) ls (.int (iI (oS O1 M a).2) :: st) M) : WW p l e R s m args below meth c G me Q n0 w0 pc ls (.ref a :: st) M := by
  intro H locs sl hL hR hS
  obtain ⟨h1, h2⟩ := isK_low hk (by decide) (by decide)
  obtain ⟨j, hj, ha, hlen⟩ := sh_txt h1 h2
  obtain ⟨k, v, q1, q2, -, -, -, hT⟩ := X.2.2.2.2.2.2.1.2.1 j hj
  have hh := kk H locs sl hL hR hS
  rw [List.map_cons] at hh
  have e0 : oS O1 M a = sh0 a := by
    show bb (Nat.blt a (100 + M.1)) (sh0 a) (0, 0) = sh0 a
    rw [lt_blt (show a < 100 + M.1 by omega)]
    rfl
  rw [List.map_cons, cv_low (by omega) h2 (by rw [ha]; exact q2)]
  exact va_tlen X.1 X.2.1 hT hS (by rw [e0, hlen]; exact iI_nat _) hd hh
theorem w_alen {a k t0 : Nat} {ty : FieldType} (X : Ctx p R s m args meth c G me d) (hd : decode (byt me) pc = .ok (.arraylength, 1)) (hk : isK O1 M a k = true) (h40 : 40 ≤ k) (ht : (TYS G)[t0]? = some (G.2.1 k, ty)) (kk : WW p l e R s m args below meth c G me Q n0 w0 (pc + 1) ls (.int (iI (oS O1 M a).2) :: st) M) : WW p l e R s m args below meth c G me Q n0 w0 pc ls (.ref a :: st) M := by
  intro H locs sl hL hR hS
  obtain ⟨h1, h2⟩ := s1_kind hk (by omega)
  have h100 : 100 ≤ a := kind_ge (by omega)
  have hc := hR.arr (a := a) (by omega) h100 h2
  rw [h1] at hc
  have hh := kk H locs sl hL hR hS
  rw [List.map_cons] at hh
  have e0 : oS O1 M a = sh0 a := by
    show bb (Nat.blt a (100 + M.1)) (sh0 a) (0, 0) = sh0 a
    rw [lt_blt h2]
    rfl
  rw [List.map_cons, cv_ref h100]
  refine W.alen (n := iI (oS O1 M a).2) X.1 X.2.1 hc ((X.2.2.2.2.2.1.2 t0 _ ht).1 _ _) ?_ rfl rfl hd hh
  rw [arrV_size, e0]
  exact iI_nat _
theorem w_getS {n a : Nat} {f : Nat × Nat × Nat × Bool × Nat} (X : Ctx p R s m args meth c G me d) (hd : decode (byt me) pc = .ok (.getfield n, 3)) (hf : fres me.2.1 n = some f) (h2 : f.1 = 2) (hk : isK O1 M a 2 = true) (kk : (f.2.2.1 = 4 → WW p l e R s m args below meth c G me Q n0 w0 (pc + 3) ls (.int (iI 0) :: st) M) ∧ (f.2.2.1 = 5 → WW p l e R s m args below meth c G me Q n0 w0 (pc + 3) ls (.ref (a + 1) :: st) M)) : WW p l e R s m args below meth c G me Q n0 w0 pc ls (.ref a :: st) M := by
  intro H locs sl hL hR hS
  obtain ⟨h1, h3⟩ := isK_low hk (by decide) (by decide)
  obtain ⟨j, hj, ha⟩ := sh_str h1 h3
  obtain ⟨k, v, q1, q2, -, hC, hV, -⟩ := X.2.2.2.2.2.2.1.2.1 j hj
  have hc := ckRows_spec ckF_all hf
  unfold ckF at hc
  rw [h2, show Nat.beq 2 2 = true from rfl] at hc
  dsimp only at hc
  rw [List.map_cons, cv_low (by omega) h3 (by rw [ha]; exact q1)]
  cases hb : Nat.beq f.2.1 0 with
  | true =>
    rw [hb] at hc
    simp only [Bool.and_eq_true] at hc
    have hh := kk.2 (Nat.eq_of_beq_eq_true hc.1) H locs sl hL hR hS
    rw [List.map_cons, cv_low (q := v) (by omega) (by omega) (by rw [ha, show 10 + 2 * j + 1 = 11 + 2 * j by omega]; exact q2)] at hh
    exact vk_getf X.1 X.2.1 hV hS X.2.2.2.1 (X.2.2.2.2.1 _ (inTB (of_decide_eq_true hc.2) rfl)) (fun _ h => h) hd hh
  | false =>
    rw [hb] at hc
    simp only [Bool.and_eq_true] at hc
    have hh := kk.1 (Nat.eq_of_beq_eq_true hc.1) H locs sl hL hR hS
    exact vk_getf X.1 X.2.1 hC hS X.2.2.2.1 (X.2.2.2.2.1 _ (inTB (of_decide_eq_true hc.2) rfl)) (fun _ h => h) hd hh
end Steps4
end
section
/-! CALLS: a call of the interpreter is a call of the machine. -/
def Kt (G : Wd) (M : M1) (as : List Value) : Array Value → State → Prop := va_Pc (as.map (cv G)) (fun U => RepH G M U.heap ∧ KX G U ∧ Ext G U U.heap)
def Kq (G : Wd) (r : Value) (M' : M1) : Array Value → State → Outcome → State → Prop := fun _ st o t => o = .returned (rv G r) ∧ RepH G M' t.heap ∧ va_F (AA G) st t
def wsM (me : MD) : List Cond := .code (yOf me) (byt me) me.2.2.2.1 (rty me) :: TB
def rmM (d : Nat) (M M' : M1) : Room := { frames := d, cells := M'.1 - M.1, slots := M'.2.1 - M.2.1, locals := 60 * d }
def MetD (l : Launch) (G : Wd) (d : Nat) (me : MD) (as : List Value) (M : M1) (r : Value) (M' : M1) : Prop := M.1 ≤ M'.1 ∧ M.2.1 ≤ M'.2.1 ∧ Met l (yOf me) (wsM me) (rmM d M M') (Kt G M as) (Kq G r M') (M'.1 - M.1) (M'.2.1 - M.2.1) (AA G)
def AllMet (l : Launch) (G : Wd) (d : Nat) : Prop := ∀ me ∈ mds, me.1 ≠ 0 → ∀ as M r M', cl O1 d me as M = some (r, M') → MetD l G d me as M r M'
def rst (r : Value) : List Value := match r with
  | .null => []
  | v => [v]
theorem rst_map {G : Wd} (r : Value) : (rst r).map (cv G) = (rv G r).toList := by cases r <;> rfl
theorem cat_cv {G : Wd} (v : Value) : (cv G v).category = v.category := by
  cases v with
  | ref n => exact cat_rf _
  | _ => rfl
theorem catS_cv {G : Wd} (st : List Value) : ((st.map (cv G)).map fun v => v.category).sum = catS st := by
  unfold catS
  rw [List.map_map]
  congr 1
  apply List.map_congr_left
  intro v _
  exact cat_cv v
theorem mds_id : ∀ i, i < 310 → (mds.getD i m_law).1 = i := by
  have h : (List.range 310).all (fun i => Nat.beq (mds.getD i m_law).1 i) = true := by decide +kernel
  intro i hi
  exact Nat.eq_of_beq_eq_true (List.all_eq_true.mp h i (List.mem_range.mpr hi))
theorem mds_len : mds.length = 310 := by decide +kernel
theorem mds_mem {i : Nat} (h : i < 310) : mds.getD i m_law ∈ mds := by
  rw [List.getD_eq_getElem?_getD, List.getElem?_eq_getElem (by rw [mds_len]; exact h)]
  exact List.getElem_mem _
theorem ckM_spec {me : MD} (hm : me ∈ mds) (h0 : me.1 ≠ 0) : Cond.code (yOf me) (byt me) me.2.2.2.1 (rty me) ∈ TB ∧ plainFor (yOf me) = true ∧ ownN me.2.1 = (yOf me).cls ∧ me.2.2.2.1 ≤ 41 ∧ (me.2.2.2.2.2 = true → (yOf me).name = "<init>") ∧ Cond.initialized (yOf me).cls ∈ TB ∧ ((yOf me).cls ≠ "java/lang/invoke/MethodHandle" ∧ (yOf me).cls ≠ "java/lang/invoke/VarHandle") ∧ (match rty me with
  | none => Nat.beq me.2.2.2.2.1 0
  | some .int => Nat.beq me.2.2.2.2.1 1
  | some .boolean => Nat.beq me.2.2.2.2.1 2
  | some .byte => Nat.beq me.2.2.2.2.1 3
  | some .char => Nat.beq me.2.2.2.2.1 4
  | some .long => Nat.beq me.2.2.2.2.1 6
  | some (.object _) => Nat.beq me.2.2.2.2.1 7
  | _ => false) = true := by
  have h := ckM_all me hm h0
  unfold ckM at h
  simp only [Bool.and_eq_true] at h
  obtain ⟨h1, h2, h3, h4, h5, h6, h7, h8⟩ := h
  exact ⟨inTB (of_decide_eq_true h1) rfl, h2, of_decide_eq_true h3, Nat.le_of_ble_eq_true h4, of_decide_eq_true h5, inTB (of_decide_eq_true h6) rfl, of_decide_eq_true h7, h8⟩
theorem wsM_good {me : MD} (hm : me ∈ mds) (h0 : me.1 ≠ 0) : GoodIn TB (wsM me) := by
  intro w hw
  rcases List.mem_cons.mp hw with rfl | h
  · exact TB_good _ (ckM_spec hm h0).1
  · exact TB_good _ h
theorem goodC {ws : List Cond} {w : Cond} (hw : w ∈ TB) (h : GoodIn TB ws) : GoodIn TB (w :: ws) := by
  intro x hx
  rcases List.mem_cons.mp hx with rfl | hx
  · exact TB_good _ hw
  · exact h x hx
theorem Kt_blind {G : Wd} {M : M1} {as : List Value} : FrameBlind (Kt G M as) := by
  intro a U g mk h
  obtain ⟨h1, h2, h3, h4⟩ := h
  exact ⟨h1, h2, va_K.moved (u := U) (U := U.calling g mk a) (Vm.Alike.refl U.vm) h3, Ext.same (u := U) (U := U.calling g mk a) rfl h4⟩
section Calls1
variable {p : Program} {l : Launch} {e : Env} {R : Room} {s : State} {m : MethodId} {args : Array Value} {below : List Frame} {meth : Method} {c : Code} {G : Wd} {me : MD} {Q : State → Prop} {n0 w0 d : Nat} {pc : Nat} {ls st : List Value} {M : M1}
theorem go_run {H : Heap} {locs : List Loc} {cells slots mc ms : Nat} {sl : Array Slot} {st0 rest : List Value} {r : Value} {M' : M1} {a : Array Value} (hr : va_Run p l e R s m args below meth c H locs cells slots mc ms (F0 m pc sl st0) rest (Kq G r M' a) (AA G)) (hS : va_S (AA G) s.heap H locs)
    (kk : ∀ (H1 : Heap) (locs1 : List Loc), RepH G M' H1 → va_S (AA G) s.heap H1 locs1 → W p l e R s m args below meth c H1 locs1 (cells + mc) (slots + ms) Q (F0 m (pc + 3) sl ((rv G r).toList ++ rest))) : W p l e R s m args below meth c H locs cells slots Q (F0 m pc sl st0) := by
  intro T hT X
  obtain ⟨v, st₀, t, T', L, h0, X', hL, e1, e2, ⟨hv, hrep, hz, hk⟩, st⟩ := hr T hT X
  cases hv
  rw [h0] at hz hk
  obtain ⟨t2, a1, b1⟩ := kk T'.heap (locs ++ L) (by rw [e1]; exact hrep)
    ⟨Nat.le_trans hS.1 (by rw [e1]; exact hz), fun q h1 h2 => by rw [e1, hk q (Nat.lt_of_lt_of_le h1 hS.1) h2]; exact hS.2.1 q h1 h2, fun q hq => by
      rcases List.mem_append.mp hq with h | h
      · exact hS.2.2 q h
      · exact hL q h⟩ T' rfl X'
  exact ⟨t2, st t2 a1, b1⟩
theorem pre_call {H : Heap} {locs : List Loc} {as : List Value} (X : Ctx p R s m args meth c G me d) (hR : RepH G M H) (hS : va_S (AA G) s.heap H locs) : ∀ U : State, U.heap = H → s.WarmedH U.vm → Kt G M as (as.map (cv G)).toArray U := by
  intro U hU hW
  refine ⟨rfl, by rw [hU]; exact hR, va_K.moved hW.alike X.2.2.2.2.2.1, ?_⟩
  rw [hU]
  exact Ext.warm hW hS.2.1 X.2.2.2.2.2.2.1
theorem room_ok {M' : M1} {d : Nat} {me' : MD} (hm : me'.2.2.2.1 ≤ 41) (h1 : d + 1 ≤ R.frames) (h2 : 60 * (d + 1) ≤ R.locals) : (rmM d M M').frames + 1 ≤ R.frames ∧ 8 + (me'.2.2.2.1 + 11) + (rmM d M M').locals ≤ R.locals := by
  refine ⟨h1, ?_⟩
  show 8 + (me'.2.2.2.1 + 11) + 60 * d ≤ R.locals
  omega
theorem mrow_spec {own n : Nat} {q : Nat × Nat × Nat × Nat × Nat} (h : mrow own n = some q) : q.1 ≠ 0 ∧ q.1 < 310 ∧ (parseMethodDescriptor (yOf (mds.getD q.1 m_law)).desc).map (fun d => d.parameters.length) = some q.2.1 ∧ (q.2.2.2.2 = 0 → Cond.methodLink (ownN own) n (yOf (mds.getD q.1 m_law)) ∈ TB) ∧ (q.2.2.1 = 0 → Cond.static (yOf (mds.getD q.1 m_law)) ∈ TB) ∧ (q.2.2.1 ≠ 0 → Cond.instanceMethod (yOf (mds.getD q.1 m_law)) ∈ TB ∧ ((q.2.2.1 = 2 ∧ (yOf (mds.getD q.1 m_law)).cls = "java/lang/String") ∨ (q.2.2.1 ≠ 2 ∧ 10 ≤ q.2.2.1 ∧ q.2.2.1 < 40 ∧ ∃ r, vwCl[q.2.2.1 - 10]? = some r ∧ r.1 = (yOf (mds.getD q.1 m_law)).cls)) ∧ ((yOf (mds.getD q.1 m_law)).name = "<init>" ∨ Cond.selects (yOf (mds.getD q.1 m_law)).cls (yOf (mds.getD q.1 m_law)) (yOf (mds.getD q.1 m_law)) ∈ TB)) := by
  have hc := ckRows_spec ckR_all h
  unfold ckR at hc
  simp only [Bool.and_eq_true] at hc
  obtain ⟨h1, h2, h3, h4, h5⟩ := hc
  have hlt : q.1 < 310 := blt_lt h2
  have ey : yOf (mds.getD q.1 m_law) = nmT.getD q.1 ⟨"", "", ""⟩ := by unfold yOf; rw [mds_id _ hlt]
  rw [ey]
  refine ⟨?_, hlt, of_decide_eq_true h3, fun hz => ?_, fun hz => ?_, fun hz => ?_⟩
  · have : 0 < q.1 := blt_lt h1
    omega
  · rw [hz] at h4
    exact inTB (of_decide_eq_true h4) rfl
  · rw [hz] at h5
    exact inTB (of_decide_eq_true h5) rfl
  · rw [show Nat.beq q.2.2.1 0 = false from Bool.eq_false_iff.mpr (fun e => hz (Nat.eq_of_beq_eq_true e))] at h5
    simp only [Bool.and_eq_true, Bool.or_eq_true] at h5
    obtain ⟨g1, g2, g3⟩ := h5
    refine ⟨inTB (of_decide_eq_true g1) rfl, ?_, ?_⟩
    · cases hb : Nat.beq q.2.2.1 2 with
      | true => rw [hb] at g2; exact Or.inl ⟨Nat.eq_of_beq_eq_true hb, of_decide_eq_true g2⟩
      | false =>
        rw [hb] at g2
        dsimp only at g2
        cases hv : vwCl[q.2.2.1 - 10]? with
        | none => rw [hv] at g2; cases g2
        | some r =>
          rw [hv] at g2
          simp only [Bool.and_eq_true] at g2
          exact Or.inr ⟨fun e => (Bool.eq_false_iff.mp hb) (by rw [e]; rfl), Nat.le_of_ble_eq_true g2.1, blt_lt g2.2.1, r, rfl, of_decide_eq_true g2.2.2⟩
    · rcases g3 with g | g
      · exact Or.inl (of_decide_eq_true g)
      · exact Or.inr (inTB (of_decide_eq_true g) rfl)
/-- the receiver's cell -/
theorem recv_ok {H : Heap} {locs : List Loc} {q : Nat × Nat × Nat × Nat × Nat} {n b : Nat} (X : Ctx p R s m args meth c G me d) (hq : mrow me.2.1 n = some q) (hrk : q.2.2.1 ≠ 0) (hk : isK O1 M b q.2.2.1 = true) (hR : RepH G M H) (hS : va_S (AA G) s.heap H locs) : ∃ a, cv G (.ref b) = .ref a ∧ ∃ cellB : Cell, H[a]? = some cellB ∧ cellB.vm.isStatics = false ∧ s.vm.findClass (yOf (mds.getD q.1 m_law)).cls = some cellB.cls := by
  obtain ⟨-, -, -, -, -, h6⟩ := mrow_spec hq
  obtain ⟨-, h7, -⟩ := h6 hrk
  rcases h7 with ⟨e2, ec⟩ | ⟨h2, h10, h40, r, hr, hrc⟩
  · rw [e2] at hk
    obtain ⟨g1, g2⟩ := isK_low hk (by decide) (by decide)
    obtain ⟨j, hj, ha⟩ := sh_str g1 g2
    obtain ⟨k, v, q1, -, hO, -⟩ := X.2.2.2.2.2.2.1.2.1 j hj
    obtain ⟨cell, z1, z2, z3, -⟩ := hO.kept hS.2.1
    exact ⟨k, cv_low (by omega) g2 (by rw [ha]; exact q1), cell, z1, z2, by rw [ec]; exact z3⟩
  · obtain ⟨g1, g2⟩ := s1_kind hk hrk
    have h100 : 100 ≤ b := kind_ge (by omega)
    obtain ⟨cell, z1, z2, z3, -⟩ := hR.obj (a := b) (by omega) h100 g2
    refine ⟨ad G b, cv_ref h100, cell, z1, by rw [z3]; rfl, ?_⟩
    rw [z2, g1, ← hrc]
    exact (X.2.2.2.2.2.1.1 _ _ hr).2.1
theorem w_callV {k : Nat} {q : Nat × Nat × Nat × Nat × Nat} {b : Nat} {As rest : List Value} {r : Value} {M' : M1} (X : Ctx p R s m args meth c G me d) (hA : AllMet l G d) (hd : decode (byt me) pc = .ok (.invokevirtual k, 3)) (hq : mrow me.2.1 k = some q) (hrk : q.2.2.1 ≠ 0) (hk : isK O1 M b q.2.2.1 = true) (hnest : q.2.2.2.2 = 0) (hni : (yOf (mds.getD q.1 m_law)).name ≠ "<init>") (hcl : cl O1 d (mds.getD q.1 m_law) (.ref b :: As) M = some (r, M')) (hlen : As.length = q.2.1) (hcat : catS rest ≤ 8) (h0 : n0 ≤ M.1) (h1 : w0 ≤ M.2.1) (hc : M'.1 - n0 ≤ R.cells) (hs : M'.2.1 - w0 ≤ R.slots)
    (kk : WW p l e R s m args below meth c G me Q n0 w0 (pc + 3) ls (rst r ++ rest) M') : WW p l e R s m args below meth c G me Q n0 w0 pc ls (As.reverse ++ .ref b :: rest) M := by
  intro H locs sl hL hR hS
  obtain ⟨y0, y1, y2, y3, -, y5⟩ := mrow_spec hq
  obtain ⟨y6, -, y7⟩ := y5 hrk
  have hid := mds_id _ y1
  obtain ⟨g1, g2, hM⟩ := hA _ (mds_mem y1) (by rw [hid]; exact y0) _ _ _ _ hcl
  obtain ⟨c1, c2, c3, c4, c5, c6, c7, -⟩ := ckM_spec (mds_mem y1) (by rw [hid]; exact y0)
  obtain ⟨a, ea, hcell⟩ := recv_ok X hq hrk hk hR hS
  have hsel := y7.resolve_left hni
  have hpre := pre_call (as := .ref b :: As) X hR hS
  rw [List.map_cons, ea] at hpre
  have hMet := hM
  rw [List.map_append, List.map_reverse, List.map_cons, ea]
  refine go_run (mc := M'.1 - M.1) (ms := M'.2.1 - M.2.1) (va_runV (Ts := TB) (own := ownN me.2.1) (C := (yOf (mds.getD q.1 m_law)).cls) (As := As.map (cv G)) (rest := rest.map (cv G)) ⟨X.1, X.2.1, X.2.2.1, X.2.2.2.1, X.2.2.2.2.1⟩ hMet (cwV (ws' := TB) q.2.1 X.2.2.2.2.1 (goodC (y3 hnest) (goodC y6 (goodC hsel (goodC c6 (wsM_good (mds_mem y1) (by rw [hid]; exact y0)))))) rfl rfl rfl ⟨rfl, c7.1, c7.2, y2⟩ (room_ok c4 X.2.2.2.2.2.2.2.2.1 X.2.2.2.2.2.2.2.2.2.1)) ⟨Kt_blind, hcell, hpre⟩ rfl (by rw [List.length_map]; exact hlen) hL.1 rfl (lv_room (by rw [catS_cv]; exact hcat)) hd ⟨by omega, by omega⟩) hS (fun H1 locs1 hR1 hS1 => ?_)
  have := kk H1 locs1 sl hL hR1 hS1
  rw [List.map_append, rst_map] at this
  rw [show M.1 - n0 + (M'.1 - M.1) = M'.1 - n0 by omega, show M.2.1 - w0 + (M'.2.1 - M.2.1) = M'.2.1 - w0 by omega]
  exact this
theorem w_callS {k : Nat} {q : Nat × Nat × Nat × Nat × Nat} {As rest : List Value} {r : Value} {M' : M1} (X : Ctx p R s m args meth c G me d) (hA : AllMet l G d) (hd : decode (byt me) pc = .ok (.invokestatic k, 3)) (hq : mrow me.2.1 k = some q) (hrk : q.2.2.1 = 0) (hcl : cl O1 d (mds.getD q.1 m_law) As M = some (r, M')) (hlen : As.length = q.2.1) (hcat : catS rest ≤ 8) (h0 : n0 ≤ M.1) (h1 : w0 ≤ M.2.1) (hc : M'.1 - n0 ≤ R.cells) (hs : M'.2.1 - w0 ≤ R.slots)
    (kk : WW p l e R s m args below meth c G me Q n0 w0 (pc + 3) ls (rst r ++ rest) M') : WW p l e R s m args below meth c G me Q n0 w0 pc ls (As.reverse ++ rest) M := by
  intro H locs sl hL hR hS
  obtain ⟨y0, y1, y2, y3, y4, -⟩ := mrow_spec hq
  have hid := mds_id _ y1
  obtain ⟨g1, g2, hM⟩ := hA _ (mds_mem y1) (by rw [hid]; exact y0) _ _ _ _ hcl
  obtain ⟨c1, c2, c3, c4, c5, c6, c7, -⟩ := ckM_spec (mds_mem y1) (by rw [hid]; exact y0)
  have hpre := pre_call (as := As) X hR hS
  rw [List.map_append, List.map_reverse]
  have hrun : va_Run p l e R s m args below meth c H locs (M.1 - n0) (M.2.1 - w0) (M'.1 - M.1) (M'.2.1 - M.2.1) (F0 m pc sl ((As.map (cv G)).reverse ++ rest.map (cv G))) (rest.map (cv G)) (Kq G r M' (As.map (cv G)).toArray) (AA G) := by
    by_cases hnest : q.2.2.2.2 = 0
    · exact va_runS (Ts := TB) (own := ownN me.2.1) (As := As.map (cv G)) (rest := rest.map (cv G)) ⟨X.1, X.2.1, X.2.2.1, X.2.2.2.1, X.2.2.2.2.1⟩ hM (va_cwS (ws' := TB) q.2.1 X.2.2.2.2.1 (goodC (y3 hnest) (goodC (y4 hrk) (goodC c6 (wsM_good (mds_mem y1) (by rw [hid]; exact y0))))) rfl rfl rfl ⟨c7.1, c7.2, y2⟩ (room_ok c4 X.2.2.2.2.2.2.2.2.1 X.2.2.2.2.2.2.2.2.2.1)) ⟨Kt_blind, hpre⟩ rfl (by rw [List.length_map]; exact hlen) hL.1 rfl (lv_room (by rw [catS_cv]; exact hcat)) hd ⟨by omega, by omega⟩
    · have hN := X.2.2.2.2.2.2.1.2.2.2.2.2.2 _ _ _ hq hnest
      have ey : nmT.getD q.1 ⟨"", "", ""⟩ = yOf (mds.getD q.1 m_law) := by unfold yOf; rw [hid]
      rw [ey] at hN
      exact va_runSN (Ts := TB) (own := ownN me.2.1) (host := "RoseWall") (As := As.map (cv G)) (rest := rest.map (cv G)) ⟨X.1, X.2.1, X.2.2.1, X.2.2.2.1, X.2.2.2.2.1⟩ hM ⟨va_cnB (ws' := TB) q.2.1 X.2.2.2.2.1 (wsM_good (mds_mem y1) (by rw [hid]; exact y0)) rfl rfl rfl hN (X.2.2.2.2.1 _ c6) ⟨c7.1, c7.2, y2⟩ (room_ok c4 X.2.2.2.2.2.2.2.2.1 X.2.2.2.2.2.2.2.2.2.1), X.2.2.2.2.1 _ (y4 hrk), trivial⟩ ⟨Kt_blind, hpre⟩ rfl (by rw [List.length_map]; exact hlen) hL.1 rfl (lv_room (by rw [catS_cv]; exact hcat)) hd ⟨by omega, by omega⟩
  refine go_run hrun hS (fun H1 locs1 hR1 hS1 => ?_)
  have := kk H1 locs1 sl hL hR1 hS1
  rw [List.map_append, rst_map] at this
  rw [show M.1 - n0 + (M'.1 - M.1) = M'.1 - n0 by omega, show M.2.1 - w0 + (M'.2.1 - M.2.1) = M'.2.1 - w0 by omega]
  exact this
theorem w_callI {k : Nat} {q : Nat × Nat × Nat × Nat × Nat} {b : Nat} {As rest : List Value} {r : Value} {M' : M1} (X : Ctx p R s m args meth c G me d) (hA : AllMet l G d) (hd : decode (byt me) pc = .ok (.invokespecial k, 3)) (hq : mrow me.2.1 k = some q) (hrk : q.2.2.1 ≠ 0) (hk : isK O1 M b q.2.2.1 = true) (hini : (mds.getD q.1 m_law).2.2.2.2.2 = true) (hcl : cl O1 d (mds.getD q.1 m_law) (.ref b :: As) M = some (r, M')) (hlen : As.length = q.2.1) (hcat : catS rest ≤ 8) (h0 : n0 ≤ M.1) (h1 : w0 ≤ M.2.1) (hc : M'.1 - n0 ≤ R.cells) (hs : M'.2.1 - w0 ≤ R.slots) (hrt : rty (mds.getD q.1 m_law) = none)
    (kk : WW p l e R s m args below meth c G me Q n0 w0 (pc + 3) ls (rst r ++ rest) M') : WW p l e R s m args below meth c G me Q n0 w0 pc ls (As.reverse ++ .ref b :: rest) M := by
  intro H locs sl hL hR hS
  obtain ⟨y0, y1, y2, y3, -, y5⟩ := mrow_spec hq
  obtain ⟨y6, -, -⟩ := y5 hrk
  have hid := mds_id _ y1
  obtain ⟨g1, g2, hM⟩ := hA _ (mds_mem y1) (by rw [hid]; exact y0) _ _ _ _ hcl
  obtain ⟨c1, c2, c3, c4, c5, c6, c7, -⟩ := ckM_spec (mds_mem y1) (by rw [hid]; exact y0)
  obtain ⟨a, ea, -⟩ := recv_ok X hq hrk hk hR hS
  have hpre := pre_call (as := .ref b :: As) X hR hS
  rw [List.map_cons, ea] at hpre
  rw [List.map_append, List.map_reverse, List.map_cons, ea]
  have hw : wsM (mds.getD q.1 m_law) = Cond.code (yOf (mds.getD q.1 m_law)) (byt (mds.getD q.1 m_law)) (mds.getD q.1 m_law).2.2.2.1 none :: TB := by unfold wsM; rw [hrt]
  have hrun : va_Run p l e R s m args below meth c H locs (M.1 - n0) (M.2.1 - w0) (M'.1 - M.1) (M'.2.1 - M.2.1) (F0 m pc sl ((As.map (cv G)).reverse ++ .ref a :: rest.map (cv G))) (rest.map (cv G)) (Kq G r M' (Value.ref a :: As.map (cv G)).toArray) (AA G) := by
    by_cases hnest : q.2.2.2.2 = 0
    · exact va_runI (Ts := TB) (own := ownN me.2.1) (As := As.map (cv G)) (rest := rest.map (cv G)) ⟨X.1, X.2.1, X.2.2.1, X.2.2.2.1, X.2.2.2.2.1⟩ hM (cwI (ws' := TB) q.2.1 X.2.2.2.2.1 (wsM_good (mds_mem y1) (by rw [hid]; exact y0)) hw rfl rfl (X.2.2.2.2.1 _ c6) (X.2.2.2.2.1 _ (y3 hnest)) (X.2.2.2.2.1 _ y6) (c5 hini) ⟨c7.1, c7.2, y2⟩ (room_ok c4 X.2.2.2.2.2.2.2.2.1 X.2.2.2.2.2.2.2.2.2.1)) ⟨Kt_blind, hpre⟩ rfl (by rw [List.length_map]; exact hlen) hL.1 rfl (lv_room (by rw [catS_cv]; exact hcat)) hd ⟨by omega, by omega⟩
    · have hN := X.2.2.2.2.2.2.1.2.2.2.2.2.2 _ _ _ hq hnest
      have ey : nmT.getD q.1 ⟨"", "", ""⟩ = yOf (mds.getD q.1 m_law) := by unfold yOf; rw [hid]
      rw [ey] at hN
      exact va_runIN (Ts := TB) (own := ownN me.2.1) (host := "RoseWall") (As := As.map (cv G)) (rest := rest.map (cv G)) ⟨X.1, X.2.1, X.2.2.1, X.2.2.2.1, X.2.2.2.2.1⟩ hM ⟨va_cnB (ws' := TB) q.2.1 X.2.2.2.2.1 (wsM_good (mds_mem y1) (by rw [hid]; exact y0)) hw rfl rfl hN (X.2.2.2.2.1 _ c6) ⟨c7.1, c7.2, y2⟩ (room_ok c4 X.2.2.2.2.2.2.2.2.1 X.2.2.2.2.2.2.2.2.2.1), c5 hini, X.2.2.2.2.1 _ y6⟩ ⟨Kt_blind, hpre⟩ rfl (by rw [List.length_map]; exact hlen) hL.1 rfl (lv_room (by rw [catS_cv]; exact hcat)) hd ⟨by omega, by omega⟩
  refine go_run hrun hS (fun H1 locs1 hR1 hS1 => ?_)
  have := kk H1 locs1 sl hL hR1 hS1
  rw [List.map_append, rst_map] at this
  rw [show M.1 - n0 + (M'.1 - M.1) = M'.1 - n0 by omega, show M.2.1 - w0 + (M'.2.1 - M.2.1) = M'.2.1 - w0 by omega]
  exact this
end Calls1
end
section
/-! A RUN of the interpreter is a run of the machine. -/
theorem inv_u1 {μ : Type} {st : List Value} {f : Int32 → List Value → Rs μ} {r : Value × μ} (h : u1 st f = some r) : ∃ x : Int32, ∃ rest : List Value, st = .int x :: rest ∧ f x rest = some r := by
  unfold u1 at h
  repeat' split at h
  all_goals first | cases h; done | (first | exact ⟨_, rfl, h⟩ | exact ⟨_, _, rfl, h⟩ | exact ⟨_, _, _, rfl, h⟩ | exact ⟨_, _, _, _, rfl, h⟩)
theorem inv_ul {μ : Type} {st : List Value} {f : Int64 → List Value → Rs μ} {r : Value × μ} (h : ul st f = some r) : ∃ x : Int64, ∃ rest : List Value, st = .long x :: rest ∧ f x rest = some r := by
  unfold ul at h
  repeat' split at h
  all_goals first | cases h; done | (first | exact ⟨_, rfl, h⟩ | exact ⟨_, _, rfl, h⟩ | exact ⟨_, _, _, rfl, h⟩ | exact ⟨_, _, _, _, rfl, h⟩)
theorem inv_ua {μ : Type} {st : List Value} {f : Nat → List Value → Rs μ} {r : Value × μ} (h : ua st f = some r) : ∃ x : Nat, ∃ rest : List Value, st = .ref x :: rest ∧ f x rest = some r := by
  unfold ua at h
  repeat' split at h
  all_goals first | cases h; done | (first | exact ⟨_, rfl, h⟩ | exact ⟨_, _, rfl, h⟩ | exact ⟨_, _, _, rfl, h⟩ | exact ⟨_, _, _, _, rfl, h⟩)
theorem inv_b2 {μ : Type} {st : List Value} {f : Int32 → Int32 → List Value → Rs μ} {r : Value × μ} (h : b2 st f = some r) : ∃ x : Int32, ∃ y : Int32, ∃ rest : List Value, st = .int y :: .int x :: rest ∧ f x y rest = some r := by
  unfold b2 at h
  repeat' split at h
  all_goals first | cases h; done | (first | exact ⟨_, rfl, h⟩ | exact ⟨_, _, rfl, h⟩ | exact ⟨_, _, _, rfl, h⟩ | exact ⟨_, _, _, _, rfl, h⟩)
theorem inv_bl {μ : Type} {st : List Value} {f : Int64 → Int64 → List Value → Rs μ} {r : Value × μ} (h : bl st f = some r) : ∃ x : Int64, ∃ y : Int64, ∃ rest : List Value, st = .long y :: .long x :: rest ∧ f x y rest = some r := by
  unfold bl at h
  repeat' split at h
  all_goals first | cases h; done | (first | exact ⟨_, rfl, h⟩ | exact ⟨_, _, rfl, h⟩ | exact ⟨_, _, _, rfl, h⟩ | exact ⟨_, _, _, _, rfl, h⟩)
theorem inv_ba {μ : Type} {st : List Value} {f : Nat → Nat → List Value → Rs μ} {r : Value × μ} (h : ba st f = some r) : ∃ x : Nat, ∃ y : Nat, ∃ rest : List Value, st = .ref y :: .ref x :: rest ∧ f x y rest = some r := by
  unfold ba at h
  repeat' split at h
  all_goals first | cases h; done | (first | exact ⟨_, rfl, h⟩ | exact ⟨_, _, rfl, h⟩ | exact ⟨_, _, _, rfl, h⟩ | exact ⟨_, _, _, _, rfl, h⟩)
theorem inv_li {μ : Type} {st : List Value} {f : Int64 → Int32 → List Value → Rs μ} {r : Value × μ} (h : li st f = some r) : ∃ x : Int64, ∃ y : Int32, ∃ rest : List Value, st = .int y :: .long x :: rest ∧ f x y rest = some r := by
  unfold li at h
  repeat' split at h
  all_goals first | cases h; done | (first | exact ⟨_, rfl, h⟩ | exact ⟨_, _, rfl, h⟩ | exact ⟨_, _, _, rfl, h⟩ | exact ⟨_, _, _, _, rfl, h⟩)
theorem inv_ai {μ : Type} {st : List Value} {f : Nat → Int32 → List Value → Rs μ} {r : Value × μ} (h : ai st f = some r) : ∃ a : Nat, ∃ i : Int32, ∃ rest : List Value, st = .int i :: .ref a :: rest ∧ f a i rest = some r := by
  unfold ai at h
  repeat' split at h
  all_goals first | cases h; done | (first | exact ⟨_, rfl, h⟩ | exact ⟨_, _, rfl, h⟩ | exact ⟨_, _, _, rfl, h⟩ | exact ⟨_, _, _, _, rfl, h⟩)
theorem inv_ia {μ : Type} {st : List Value} {f : Nat → Int32 → List Value → Rs μ} {r : Value × μ} (h : ia st f = some r) : ∃ a : Nat, ∃ v : Int32, ∃ rest : List Value, st = .int v :: .ref a :: rest ∧ f a v rest = some r := by
  unfold ia at h
  repeat' split at h
  all_goals first | cases h; done | (first | exact ⟨_, rfl, h⟩ | exact ⟨_, _, rfl, h⟩ | exact ⟨_, _, _, rfl, h⟩ | exact ⟨_, _, _, _, rfl, h⟩)
theorem inv_la {μ : Type} {st : List Value} {f : Nat → Int64 → List Value → Rs μ} {r : Value × μ} (h : la st f = some r) : ∃ a : Nat, ∃ v : Int64, ∃ rest : List Value, st = .long v :: .ref a :: rest ∧ f a v rest = some r := by
  unfold la at h
  repeat' split at h
  all_goals first | cases h; done | (first | exact ⟨_, rfl, h⟩ | exact ⟨_, _, rfl, h⟩ | exact ⟨_, _, _, rfl, h⟩ | exact ⟨_, _, _, _, rfl, h⟩)
theorem inv_aii {μ : Type} {st : List Value} {f : Nat → Int32 → Int32 → List Value → Rs μ} {r : Value × μ} (h : aii st f = some r) : ∃ a : Nat, ∃ i : Int32, ∃ v : Int32, ∃ rest : List Value, st = .int v :: .int i :: .ref a :: rest ∧ f a i v rest = some r := by
  unfold aii at h
  repeat' split at h
  all_goals first | cases h; done | (first | exact ⟨_, rfl, h⟩ | exact ⟨_, _, rfl, h⟩ | exact ⟨_, _, _, rfl, h⟩ | exact ⟨_, _, _, _, rfl, h⟩)
theorem inv_ail {μ : Type} {st : List Value} {f : Nat → Int32 → Int64 → List Value → Rs μ} {r : Value × μ} (h : ail st f = some r) : ∃ a : Nat, ∃ i : Int32, ∃ v : Int64, ∃ rest : List Value, st = .long v :: .int i :: .ref a :: rest ∧ f a i v rest = some r := by
  unfold ail at h
  repeat' split at h
  all_goals first | cases h; done | (first | exact ⟨_, rfl, h⟩ | exact ⟨_, _, rfl, h⟩ | exact ⟨_, _, _, rfl, h⟩ | exact ⟨_, _, _, _, rfl, h⟩)
theorem inv_aia {μ : Type} {st : List Value} {f : Nat → Int32 → Nat → List Value → Rs μ} {r : Value × μ} (h : aia st f = some r) : ∃ a : Nat, ∃ i : Int32, ∃ v : Nat, ∃ rest : List Value, st = .ref v :: .int i :: .ref a :: rest ∧ f a i v rest = some r := by
  unfold aia at h
  repeat' split at h
  all_goals first | cases h; done | (first | exact ⟨_, rfl, h⟩ | exact ⟨_, _, rfl, h⟩ | exact ⟨_, _, _, rfl, h⟩ | exact ⟨_, _, _, _, rfl, h⟩)
theorem inv_ldI {μ : Type} {ls : List Value} {k : Nat} {f : Int32 → Rs μ} {r : Value × μ} (h : ldI ls k f = some r) : ∃ x, ls[k]? = some (.int x) ∧ f x = some r := by
  unfold ldI at h
  split at h
  · rename_i x hx; exact ⟨x, hx, h⟩
  · cases h
theorem inv_ldA {μ : Type} {ls : List Value} {k : Nat} {f : Nat → Rs μ} {r : Value × μ} (h : ldA ls k f = some r) : ∃ x, ls[k]? = some (.ref x) ∧ f x = some r := by
  unfold ldA at h
  split at h
  · rename_i x hx; exact ⟨x, hx, h⟩
  · cases h
theorem inv_ldL {μ : Type} {ls : List Value} {k : Nat} {f : Int64 → Rs μ} {r : Value × μ} (h : ldL ls k f = some r) : ∃ x, ls[k]? = some (.long x) ∧ ls[k + 1]? = some mk2 ∧ f x = some r := by
  unfold ldL at h
  split at h
  · rename_i x hx
    split at h
    · rename_i hy; exact ⟨x, hx, hy, h⟩
    · cases h
  · cases h
theorem inv_v1 {μ : Type} {st : List Value} {f : Value → List Value → Rs μ} {r : Value × μ} (h : v1 st f = some r) : ∃ v rest, st = v :: rest ∧ w1 v = true ∧ f v rest = some r := by
  unfold v1 at h
  split at h
  · obtain ⟨h1, h2⟩ := gb_some h; exact ⟨_, _, rfl, h1, h2⟩
  · cases h
theorem inv_v2 {μ : Type} {st : List Value} {f : Value → Value → List Value → Rs μ} {r : Value × μ} (h : v2 st f = some r) : ∃ v u rest, st = v :: u :: rest ∧ w1 v = true ∧ w1 u = true ∧ f v u rest = some r := by
  unfold v2 at h
  split at h
  · obtain ⟨h1, h2⟩ := gb_some h
    rw [Bool.and_eq_true] at h1
    exact ⟨_, _, _, rfl, h1.1, h1.2, h2⟩
  · cases h
theorem inv_oX {α μ : Type} {o : Option α} {f : α → Rs μ} {r : Value × μ} (h : oX o f = some r) : ∃ q, o = some q ∧ f q = some r := by
  cases o with
  | none => cases h
  | some q => exact ⟨q, rfl, h⟩
theorem inv_oB {μ : Type} {o : Option μ} {f : μ → Rs μ} {r : Value × μ} (h : oB o f = some r) : ∃ q, o = some q ∧ f q = some r := by
  cases o with
  | none => cases h
  | some q => exact ⟨q, rfl, h⟩
theorem inv_oP {μ : Type} {o : Option (Nat × μ)} {f : Nat → μ → Rs μ} {r : Value × μ} (h : oP o f = some r) : ∃ a q, o = some (a, q) ∧ f a q = some r := by
  cases o with
  | none => cases h
  | some q => exact ⟨q.1, q.2, rfl, h⟩
theorem inv_mres {own n : Nat} {Q : MD × Nat × Nat} (h : mres own n = some Q) : ∃ q, mrow own n = some q ∧ Q = (mds.getD q.1 m_law, q.2.1, q.2.2.1) := by
  unfold mres at h
  split at h
  · rename_i q hq; cases h; exact ⟨q, hq, rfl⟩
  · cases h
theorem inv_ivk {μ : Type} {K : MD → List Value → μ → Rs μ} {C : Nat → List Value → List Value → μ → Rs μ} {me : MD} {nx : Nat} {ls as rest : List Value} {m : μ} {R : Value × μ} (h : ivk K C me nx ls as rest m = some R) : ∃ r m', K me as m = some (r, m') ∧ C nx ls (rst r ++ rest) m' = some R := by
  unfold ivk at h
  split at h
  · unfold bV at h
    split at h
    · rename_i m' hK; exact ⟨.null, m', hK, h⟩
    · cases h
  · unfold bL at h
    split at h
    · rename_i r m' hK; exact ⟨.long r, m', hK, h⟩
    · cases h
  · unfold bR at h
    split at h
    · rename_i r m' hK; exact ⟨.ref r, m', hK, h⟩
    · cases h
  · unfold bI at h
    split at h
    · rename_i r m' hK; exact ⟨.int r, m', hK, h⟩
    · cases h
theorem inv_pop {st rest : List Value} {n b : Nat} (h : st.drop n = .ref b :: rest) : ((st.take n).reverse).length = n ∧ st = ((st.take n).reverse).reverse ++ .ref b :: rest := by
  have hl : n < st.length := by
    rcases Nat.lt_or_ge n st.length with q | q
    · exact q
    · rw [List.drop_eq_nil_of_le q] at h; cases h
  refine ⟨by rw [List.length_reverse, List.length_take]; omega, ?_⟩
  rw [List.reverse_reverse, ← h, List.take_append_drop]
/-- of the rows that call: what the tables keep apart -/
def ckV (me : MD) : Bool := me.2.2.1.all (fun q => match q.2.1 with
  | .invokevirtual k => match mrow me.2.1 k with
    | some z => Nat.beq z.2.2.2.2 0 && !(mds.getD z.1 m_law).2.2.2.2.2
    | none => true
  | _ => true)

set_option maxRecDepth 100000 in
theorem ckVs_0 : mds_0.all ckV = true := by decide +kernel
set_option maxRecDepth 100000 in
theorem ckVs_1 : mds_1.all ckV = true := by decide +kernel
set_option maxRecDepth 100000 in
theorem ckVs_2 : mds_2.all ckV = true := by decide +kernel
set_option maxRecDepth 100000 in
theorem ckVs_3 : mds_3.all ckV = true := by decide +kernel
set_option maxRecDepth 100000 in
theorem ckVs_4 : mds_4.all ckV = true := by decide +kernel
set_option maxRecDepth 100000 in
theorem ckVs_5 : mds_5.all ckV = true := by decide +kernel
set_option maxRecDepth 100000 in
theorem ckVs_6 : mds_6.all ckV = true := by decide +kernel
set_option maxRecDepth 100000 in
theorem ckVs_7 : mds_7.all ckV = true := by decide +kernel
set_option maxRecDepth 100000 in
theorem ckVs_8 : mds_8.all ckV = true := by decide +kernel
set_option maxRecDepth 100000 in
theorem ckVs_9 : mds_9.all ckV = true := by decide +kernel
set_option maxRecDepth 100000 in
theorem ckVs_10 : mds_10.all ckV = true := by decide +kernel
set_option maxRecDepth 100000 in
theorem ckVs_11 : mds_11.all ckV = true := by decide +kernel
set_option maxRecDepth 100000 in
theorem ckVs_12 : mds_12.all ckV = true := by decide +kernel
set_option maxRecDepth 100000 in
theorem ckVs_13 : mds_13.all ckV = true := by decide +kernel
set_option maxRecDepth 100000 in
theorem ckVs_14 : mds_14.all ckV = true := by decide +kernel
set_option maxRecDepth 100000 in
theorem ckVs_15 : mds_15.all ckV = true := by decide +kernel
set_option maxRecDepth 100000 in
theorem ckVs_16 : mds_16.all ckV = true := by decide +kernel
set_option maxRecDepth 100000 in
theorem ckVs_17 : mds_17.all ckV = true := by decide +kernel
set_option maxRecDepth 100000 in
theorem ckVs_18 : mds_18.all ckV = true := by decide +kernel
set_option maxRecDepth 100000 in
theorem ckVs_19 : mds_19.all ckV = true := by decide +kernel
set_option maxRecDepth 100000 in
theorem ckVs_20 : mds_20.all ckV = true := by decide +kernel
set_option maxRecDepth 100000 in
theorem ckVs_21 : mds_21.all ckV = true := by decide +kernel
set_option maxRecDepth 100000 in
theorem ckVs_22 : mds_22.all ckV = true := by decide +kernel
set_option maxRecDepth 100000 in
theorem ckVs_23 : mds_23.all ckV = true := by decide +kernel
set_option maxRecDepth 100000 in
theorem ckVs_24 : mds_24.all ckV = true := by decide +kernel
set_option maxRecDepth 100000 in
theorem ckVs_25 : mds_25.all ckV = true := by decide +kernel
set_option maxRecDepth 100000 in
theorem ckVs_26 : mds_26.all ckV = true := by decide +kernel
set_option maxRecDepth 100000 in
theorem ckVs_27 : mds_27.all ckV = true := by decide +kernel
set_option maxRecDepth 100000 in
theorem ckVs_28 : mds_28.all ckV = true := by decide +kernel
set_option maxRecDepth 100000 in
theorem ckVs_29 : mds_29.all ckV = true := by decide +kernel
set_option maxRecDepth 100000 in
theorem ckVs_30 : mds_30.all ckV = true := by decide +kernel
set_option maxRecDepth 100000 in
theorem ckVs_31 : mds_31.all ckV = true := by decide +kernel
theorem ckV_all : ∀ me ∈ mds, ckV me = true := List.forall_mem_append.mpr ⟨List.all_eq_true.mp ckVs_0, List.forall_mem_append.mpr ⟨List.all_eq_true.mp ckVs_1, List.forall_mem_append.mpr ⟨List.all_eq_true.mp ckVs_2, List.forall_mem_append.mpr ⟨List.all_eq_true.mp ckVs_3, List.forall_mem_append.mpr ⟨List.all_eq_true.mp ckVs_4, List.forall_mem_append.mpr ⟨List.all_eq_true.mp ckVs_5, List.forall_mem_append.mpr ⟨List.all_eq_true.mp ckVs_6, List.forall_mem_append.mpr ⟨List.all_eq_true.mp ckVs_7, List.forall_mem_append.mpr ⟨List.all_eq_true.mp ckVs_8, List.forall_mem_append.mpr ⟨List.all_eq_true.mp ckVs_9, List.forall_mem_append.mpr ⟨List.all_eq_true.mp ckVs_10, List.forall_mem_append.mpr ⟨List.all_eq_true.mp ckVs_11, List.forall_mem_append.mpr ⟨List.all_eq_true.mp ckVs_12, List.forall_mem_append.mpr ⟨List.all_eq_true.mp ckVs_13, List.forall_mem_append.mpr ⟨List.all_eq_true.mp ckVs_14, List.forall_mem_append.mpr ⟨List.all_eq_true.mp ckVs_15, List.forall_mem_append.mpr ⟨List.all_eq_true.mp ckVs_16, List.forall_mem_append.mpr ⟨List.all_eq_true.mp ckVs_17, List.forall_mem_append.mpr ⟨List.all_eq_true.mp ckVs_18, List.forall_mem_append.mpr ⟨List.all_eq_true.mp ckVs_19, List.forall_mem_append.mpr ⟨List.all_eq_true.mp ckVs_20, List.forall_mem_append.mpr ⟨List.all_eq_true.mp ckVs_21, List.forall_mem_append.mpr ⟨List.all_eq_true.mp ckVs_22, List.forall_mem_append.mpr ⟨List.all_eq_true.mp ckVs_23, List.forall_mem_append.mpr ⟨List.all_eq_true.mp ckVs_24, List.forall_mem_append.mpr ⟨List.all_eq_true.mp ckVs_25, List.forall_mem_append.mpr ⟨List.all_eq_true.mp ckVs_26, List.forall_mem_append.mpr ⟨List.all_eq_true.mp ckVs_27, List.forall_mem_append.mpr ⟨List.all_eq_true.mp ckVs_28, List.forall_mem_append.mpr ⟨List.all_eq_true.mp ckVs_29, List.forall_mem_append.mpr ⟨List.all_eq_true.mp ckVs_30, List.all_eq_true.mp ckVs_31⟩⟩⟩⟩⟩⟩⟩⟩⟩⟩⟩⟩⟩⟩⟩⟩⟩⟩⟩⟩⟩⟩⟩⟩⟩⟩⟩⟩⟩⟩⟩
set_option maxRecDepth 100000 in
theorem init_all : mds.all (fun me => !me.2.2.2.2.2 || ((rty me).isNone && decide ((yOf me).name = "<init>"))) = true := by decide +kernel
set_option maxRecDepth 100000 in
theorem ninit_all : mds.all (fun me => me.2.2.2.2.2 || decide ((yOf me).name ≠ "<init>")) = true := by decide +kernel
theorem ckV_spec {me : MD} (hm : me ∈ mds) {pc k len : Nat} {q : Nat × Nat × Nat × Nat × Nat} (hl : lkN me.2.2.1 pc = some (.invokevirtual k, len)) (hq : mrow me.2.1 k = some q) : q.2.2.2.2 = 0 ∧ (yOf (mds.getD q.1 m_law)).name ≠ "<init>" := by
  have h := List.all_eq_true.mp (ckV_all me hm) _ (lkN_mem hl)
  dsimp only at h
  rw [hq] at h
  dsimp only at h
  rw [Bool.and_eq_true] at h
  refine ⟨Nat.eq_of_beq_eq_true h.1, ?_⟩
  have h2 := List.all_eq_true.mp ninit_all _ (mds_mem (mrow_spec hq).2.1)
  rw [Bool.or_eq_true] at h2
  rcases h2 with h2 | h2
  · rw [h2] at h; exact absurd h.2 (by decide)
  · exact of_decide_eq_true h2
theorem init_spec {me : MD} (hm : me ∈ mds) (h : me.2.2.2.2.2 = true) : rty me = none := by
  have h2 := List.all_eq_true.mp init_all _ hm
  rw [h] at h2
  simp only [Bool.not_true, Bool.false_or, Bool.and_eq_true] at h2
  cases hr : rty me with
  | none => rfl
  | some x => rw [hr] at h2; exact absurd h2.1 (by simp)
theorem tg_eq {pc : Nat} {o : Int} (h : 0 ≤ (pc : Int) + o) : (pc : Int) + o = (tg pc o : Int) := by unfold tg; omega
theorem iI_of {k : Int} (h : i32 k = true) : (iI k).toInt = k := by
  unfold i32 at h
  rw [Bool.and_eq_true] at h
  have h1 : -2147483648 ≤ k := of_decide_eq_true h.1
  have h2 : k ≤ 2147483647 := of_decide_eq_true h.2
  exact Int32.toInt_ofInt_of_le (by omega) (by omega)
theorem i32_of {k : Int} (h1 : -2147483648 ≤ k) (h2 : k ≤ 2147483647) : i32 k = true := by
  unfold i32; rw [Bool.and_eq_true]; exact ⟨decide_eq_true h1, decide_eq_true h2⟩
theorem swt_in {μ : Type} {x : Int32} {f : Int → Rs μ} {D : Rs μ} : ∀ (l : List Int) (k : Int), i32 k = true → k + l.length ≤ 2147483648 → k ≤ x.toInt → x.toInt < k + l.length → ∃ o, l[(x.toInt - k).toNat]? = some o ∧ swt x f D k l = f o
  | [], k, _, _, h1, h2 => by simp at h2; omega
  | o :: l, k, hk, hb, h1, h2 => by
    by_cases hx : x = iI k
    · refine ⟨o, ?_, ?_⟩
      · rw [hx, iI_of hk]; simp
      · show (if x = iI k then f o else _) = _
        rw [if_pos hx]
    · have hne : x.toInt ≠ k := fun e => hx (Int32.toInt_inj.mp (by rw [iI_of hk]; exact e))
      have hk1 : -2147483648 ≤ k := by unfold i32 at hk; rw [Bool.and_eq_true] at hk; exact of_decide_eq_true hk.1
      have hx2 := x.toInt_lt
      simp only [List.length_cons] at hb h2
      obtain ⟨o', e1, e2⟩ := swt_in (x := x) (f := f) (D := D) l (k + 1) (i32_of (by omega) (by omega)) (by omega) (by omega) (by omega)
      refine ⟨o', ?_, ?_⟩
      · rw [show (x.toInt - k).toNat = (x.toInt - (k + 1)).toNat + 1 by omega]
        exact e1
      · show (if x = iI k then f o else swt x f D (k + 1) l) = _
        rw [if_neg hx]; exact e2
theorem swt_out {μ : Type} {x : Int32} {f : Int → Rs μ} {D : Rs μ} : ∀ (l : List Int) (k : Int), -2147483648 ≤ k → k + l.length ≤ 2147483648 → (x.toInt < k ∨ k + l.length ≤ x.toInt) → swt x f D k l = D
  | [], _, _, _, _ => rfl
  | o :: l, k, hk, hb, h => by
    simp only [List.length_cons] at hb h
    have hx : x ≠ iI k := fun e => by
      have : x.toInt = k := by rw [e]; exact iI_of (i32_of hk (by omega))
      omega
    show (if x = iI k then f o else swt x f D (k + 1) l) = D
    rw [if_neg hx]
    exact swt_out l (k + 1) (by omega) (by omega) (by omega)
theorem swl_eq {μ : Type} {x : Int32} {f : Int → Rs μ} {d : Int} : ∀ (l : List (Int × Int)), (l.all (fun q => i32 q.1) = true) → swl x f (f d) l = f (Op.lookupswitch.offset l d x.toInt)
  | [], _ => rfl
  | (k, o) :: l, h => by
    simp only [List.all_cons, Bool.and_eq_true] at h
    show (if x = iI k then f o else swl x f (f d) l) = _
    by_cases hx : x = iI k
    · rw [if_pos hx]
      have : x.toInt = k := by rw [hx]; exact iI_of h.1
      simp [Op.lookupswitch.offset, this]
    · rw [if_neg hx, swl_eq l h.2]
      have : ¬ x.toInt = k := fun e => hx (Int32.toInt_inj.mp (by rw [iI_of h.1]; exact e))
      simp [Op.lookupswitch.offset, this, Ne.symm this, fun q => this (Eq.symm q)]
theorem swl_off {l : List (Int × Int)} {d x : Int} {P : Int → Prop} (hd : P d) (hl : ∀ q ∈ l, P q.2) : P (Op.lookupswitch.offset l d x) := by
  induction l with
  | nil => exact hd
  | cons q l ih =>
    obtain ⟨k, o⟩ := q
    simp only [Op.lookupswitch.offset]
    split
    · exact hl (k, o) List.mem_cons_self
    · exact ih (fun q hq => hl q (List.mem_cons_of_mem _ hq))
end
section
/-! THE INDUCTION over a run. -/
theorem arrTB_int : Cond.arrayClass .int ∈ TB := inTB (i := 194) (by decide +kernel) rfl
theorem arrTB_byte : Cond.arrayClass .byte ∈ TB := inTB (i := 193) (by decide +kernel) rfl
theorem arrTB_boolean : Cond.arrayClass .boolean ∈ TB := inTB (i := 1432) (by decide +kernel) rfl
theorem arrTB_long : Cond.arrayClass .long ∈ TB := inTB (i := 305) (by decide +kernel) rfl
section Snd
variable {p : Program} {l : Launch} {e : Env} {R : Room} {s : State} {m : MethodId} {args : Array Value} {below : List Frame} {meth : Method} {c : Code} {G : Wd} {me : MD} {Q : State → Prop} {n0 w0 d : Nat} {pc : Nat} {ls st : List Value} {M : M1}
def isRet : Jvm.ClassFile.Instr → Bool
  | .ireturn => true
  | .lreturn => true
  | .areturn => true
  | .return_ => true
  | _ => false
def Gw (M Mf : M1) : Prop := M.1 ≤ Mf.1 ∧ M.2.1 ≤ Mf.2.1
theorem w_acmp {cd : Jvm.ClassFile.ACond} {x y : Nat} {off : Int} {t : Nat} {A B : Rs M1} {r : Value × M1} (X : Ctx p R s m args meth c G me d) (hinj : adr G x = adr G y ↔ x = y) (hd : decode (byt me) pc = .ok (.if_acmp cd off, 3)) (ht : (pc : Int) + off = (t : Int)) (h : bra cd x y A B = some r) (kA : A = some r → WW p l e R s m args below meth c G me Q n0 w0 t ls st M) (kB : B = some r → WW p l e R s m args below meth c G me Q n0 w0 (pc + 3) ls st M) : WW p l e R s m args below meth c G me Q n0 w0 pc ls (.ref y :: .ref x :: st) M := by
  intro H locs sl hL hR hS
  rw [List.map_cons, List.map_cons]
  cases cd with
  | eq => exact lv_acmp_eq X.1 X.2.1 hd ht (fun hc => kA (by have h1 : (if x = y then A else B) = some r := h; rwa [if_pos (hinj.mp hc)] at h1) H locs sl hL hR hS) (fun hc => kB (by have h1 : (if x = y then A else B) = some r := h; rwa [if_neg (fun q => hc (hinj.mpr q))] at h1) H locs sl hL hR hS)
  | ne => exact lv_acmp_ne X.1 X.2.1 hd ht (fun hc => kA (by have h1 : (if x = y then B else A) = some r := h; rwa [if_neg (fun q => hc (hinj.mpr q))] at h1) H locs sl hL hR hS) (fun hc => kB (by have h1 : (if x = y then B else A) = some r := h; rwa [if_pos (hinj.mp (by simpa using hc))] at h1) H locs sl hL hR hS)
theorem adr_inj {x y : Nat} (hx : x = 0 ∨ 100 ≤ x) (hy : y = 0 ∨ 100 ≤ y) : adr G x = adr G y ↔ x = y := by
  constructor
  · intro h
    rcases hx with hx | hx <;> rcases hy with hy | hy
    · rw [hx, hy]
    · rw [hx, adr_ge hy] at h; exact absurd h (by simp [adr])
    · rw [hy, adr_ge hx] at h; exact absurd h (by simp [adr])
    · rw [adr_ge hx, adr_ge hy] at h
      exact ad_inj hx hy (Option.some.inj h)
  · intro h; rw [h]
theorem w_ifnull {x : Nat} {off : Int} {t : Nat} {A B : Rs M1} {r : Value × M1} (X : Ctx p R s m args meth c G me d) (hz : adr G x = none ↔ x = 0) (hd : decode (byt me) pc = .ok (.ifnull off, 3)) (ht : (pc : Int) + off = (t : Int)) (h : (if x = 0 then A else B) = some r) (kA : A = some r → WW p l e R s m args below meth c G me Q n0 w0 t ls st M) (kB : B = some r → WW p l e R s m args below meth c G me Q n0 w0 (pc + 3) ls st M) : WW p l e R s m args below meth c G me Q n0 w0 pc ls (.ref x :: st) M := by
  intro H locs sl hL hR hS
  rw [List.map_cons]
  show W _ _ _ _ _ _ _ _ _ _ _ _ _ _ _ (F0 m pc sl (va_rf (adr G x) :: st.map (cv G)))
  cases hx : adr G x with
  | none =>
    rw [if_pos (hz.mp hx)] at h
    exact lv_ifnullN X.1 X.2.1 hd ht (kA h H locs sl hL hR hS)
  | some a =>
    rw [if_neg (fun q => by rw [hz.mpr q] at hx; cases hx)] at h
    exact lv_ifnull X.1 X.2.1 hd (kB h H locs sl hL hR hS)
theorem w_ifnonnull {x : Nat} {off : Int} {t : Nat} {A B : Rs M1} {r : Value × M1} (X : Ctx p R s m args meth c G me d) (hz : adr G x = none ↔ x = 0) (hd : decode (byt me) pc = .ok (.ifnonnull off, 3)) (ht : (pc : Int) + off = (t : Int)) (h : (if x = 0 then B else A) = some r) (kA : A = some r → WW p l e R s m args below meth c G me Q n0 w0 t ls st M) (kB : B = some r → WW p l e R s m args below meth c G me Q n0 w0 (pc + 3) ls st M) : WW p l e R s m args below meth c G me Q n0 w0 pc ls (.ref x :: st) M := by
  intro H locs sl hL hR hS
  rw [List.map_cons]
  show W _ _ _ _ _ _ _ _ _ _ _ _ _ _ _ (F0 m pc sl (va_rf (adr G x) :: st.map (cv G)))
  cases hx : adr G x with
  | none =>
    rw [if_pos (hz.mp hx)] at h
    exact lv_ifnonnullN X.1 X.2.1 hd (kB h H locs sl hL hR hS)
  | some a =>
    rw [if_neg (fun q => by rw [hz.mpr q] at hx; cases hx)] at h
    exact lv_ifnonnull X.1 X.2.1 hd ht (kA h H locs sl hL hR hS)
theorem w_objI {k : Nat} {a : Nat} (X : Ctx p R s m args meth c G me d) (hd : decode (byt me) pc = .ok (.invokespecial k, 3)) (ho : oini me.2.1 k = true) (h100 : adr G a ≠ none) (hcat : catS st ≤ 8) (kk : WW p l e R s m args below meth c G me Q n0 w0 (pc + 3) ls st M) : WW p l e R s m args below meth c G me Q n0 w0 pc ls (.ref a :: st) M := by
  intro H locs sl hL hR hS
  have hts := X.2.2.2.2.1
  unfold oini at ho
  obtain ⟨q, hq1, hq2⟩ := List.any_eq_true.mp ho
  have hk : q.1 = k := Nat.eq_of_beq_eq_true hq2
  have hrow : (fun own n w => decide (lw_tbl[w]? = some (.methodLink (ownN own) n Lib.objectInit))) me.2.1 q.1 q.2 = true := by
    by_cases hl : me.2.1 < oiniT.length
    · exact List.all_eq_true.mp (List.all_eq_true.mp ckO_all _ (List.mem_range.mpr hl)) _ hq1
    · rw [List.getD_eq_getElem?_getD, List.getElem?_eq_none (Nat.le_of_not_lt hl)] at hq1
      cases hq1
  have hlink := of_decide_eq_true hrow
  rw [hk] at hlink
  have hoi : Cond.instanceMethod Lib.objectInit ∈ TB ∧ Cond.code Lib.objectInit ⟨#[0xb1]⟩ 1 none ∈ TB := ⟨inTB (i := 140) (by decide +kernel) rfl, inTB (i := 141) (by decide +kernel) rfl⟩
  rw [List.map_cons]
  show W _ _ _ _ _ _ _ _ _ _ _ _ _ _ _ (F0 m pc sl (va_rf (adr G a) :: st.map (cv G)))
  cases hx : adr G a with
  | none => exact absurd hx h100
  | some b =>
    exact W.objInit X.1 X.2.1 X.2.2.2.1 (hts _ (inTB hlink rfl)) (hts _ hoi.1) (hts _ hoi.2) rfl (by rw [X.2.2.1]; exact hL.1) rfl hd (by have := X.2.2.2.2.2.2.2.2.1; omega) (by
      have h1 := lv_room (m := m) (pc := pc) (ls := sl) (rest := []) (st := st.map (cv G)) (by rw [catS_cv]; exact hcat)
      have h2 := X.2.2.2.2.2.2.2.2.2.1
      have h3 : 2 * (F0 m pc sl (va_rf (some b) :: st.map (cv G))).monitorRoom = 2 * (F0 m pc sl ([] : List Value)).monitorRoom := rfl
      omega) (kk H locs sl hL hR hS)

theorem fres_cat2 {own n : Nat} {f : Nat × Nat × Nat × Bool × Nat} (hf : fres own n = some f) (h2 : f.1 = 2) : f.2.2.1 = 4 ∨ f.2.2.1 = 5 := by
  have hc := ckRows_spec ckF_all hf
  unfold ckF at hc
  rw [h2, show Nat.beq 2 2 = true from rfl] at hc
  dsimp only at hc
  cases hb : Nat.beq f.2.1 0 with
  | true => rw [hb] at hc; simp only [Bool.and_eq_true] at hc; exact Or.inr (Nat.eq_of_beq_eq_true hc.1)
  | false => rw [hb] at hc; simp only [Bool.and_eq_true] at hc; exact Or.inl (Nat.eq_of_beq_eq_true hc.1)
theorem cat_lt {own n : Nat} {f : Nat × Nat × Nat × Bool × Nat} (hf : fres own n = some f) (h2 : f.1 ≠ 2) : f.2.2.1 < 4 := by
  obtain ⟨r, -, -, -, -, -, -, -, q8, -⟩ := fres_spec hf h2
  obtain ⟨ty, -, h⟩ := ckTy_spec q8
  rcases h with ⟨-, h⟩ | ⟨-, h⟩ | ⟨-, h⟩ | ⟨-, h⟩ | ⟨-, h⟩ <;> omega
theorem hV_i {a ci j cat : Nat} {v : Int32} (hc : (ftyT.getD ci []).getD j 0 = cat) (h1 : cat ≠ 1) (h2 : cat ≠ 2) : ∀ k, fV G (i1 M a j v) a ci k = updV (fV G M a ci) j (.int v) k := by
  intro k
  unfold updV
  by_cases hk : k = j
  · rw [if_pos hk, hk]
    unfold fV
    rw [hc]
    split
    · exact absurd rfl h1
    · exact absurd rfl h2
    · show Value.int (up2 _ a j v a j) = _
      rw [up2_self, if_pos rfl]
  · rw [if_neg hk]
    unfold fV
    have e : (i1 M a j v).2.2.1 a k = M.2.2.1 a k := by show up2 _ _ _ _ a k = _; rw [up2_self, if_neg hk]
    rw [e]
    rfl
theorem hV_l {a ci j : Nat} {v : Int64} (hc : (ftyT.getD ci []).getD j 0 = 1) : ∀ k, fV G (l1 M a j v) a ci k = updV (fV G M a ci) j (.long v) k := by
  intro k
  unfold updV
  by_cases hk : k = j
  · rw [if_pos hk, hk]
    unfold fV
    rw [hc]
    show Value.long (up2 _ a j v a j) = _
    rw [up2_self, if_pos rfl]
  · rw [if_neg hk]
    unfold fV
    have e : (l1 M a j v).2.2.2.1 a k = M.2.2.2.1 a k := by show up2 _ _ _ _ a k = _; rw [up2_self, if_neg hk]
    rw [e]
    rfl
theorem hV_r {a ci j v : Nat} (hc : (ftyT.getD ci []).getD j 0 = 2) : ∀ k, fV G (r1 M a j v) a ci k = updV (fV G M a ci) j (cv G (.ref v)) k := by
  intro k
  unfold updV
  by_cases hk : k = j
  · rw [if_pos hk, hk]
    unfold fV
    rw [hc]
    show va_rf (adr G (up2 _ a j v a j)) = _
    rw [up2_self, if_pos rfl]
    rfl
  · rw [if_neg hk]
    unfold fV
    have e : (r1 M a j v).2.2.2.2 a k = M.2.2.2.2 a k := by show up2 _ _ _ _ a k = _; rw [up2_self, if_neg hk]
    rw [e]
    rfl
theorem ret1_mem {st : List Value} {M Mf : M1} {r : Value} (h : ret1 me st M = some (r, Mf)) : Mf = M := by
  unfold ret1 at h
  repeat' split at h
  all_goals first | (cases h; rfl) | (obtain ⟨-, h⟩ := gb_some h; cases h; rfl) | cases h
set_option maxHeartbeats 4000000 in
theorem snd_ins {r : Value} {Mf : M1} (X : Ctx p R s m args meth c G me d) (hm : me ∈ mds) (hA : AllMet l G d) (hRc : Mf.1 - n0 ≤ R.cells) (hRs : Mf.2.1 - w0 ≤ R.slots)
    (hret : ∀ (pc : Nat) (ls st : List Value) (i : Jvm.ClassFile.Instr), decode (byt me) pc = .ok (i, 1) → isRet i = true → (∀ C : Cont M1, ins O1 (cl O1 d) C me pc (pc + 1) ls st Mf i = some (r, Mf)) → WW p l e R s m args below meth c G me Q n0 w0 pc ls st Mf)
    {C : Cont M1} (IH : ∀ (pc : Nat) (ls st : List Value) (M : M1), n0 ≤ M.1 → w0 ≤ M.2.1 → C pc ls st M = some (r, Mf) → Gw M Mf ∧ WW p l e R s m args below meth c G me Q n0 w0 pc ls st M)
    {pc : Nat} {ls st : List Value} {M : M1} (h0 : n0 ≤ M.1) (h1 : w0 ≤ M.2.1) {i : Jvm.ClassFile.Instr} {len : Nat} (hl : lkN me.2.2.1 pc = some (i, len)) (hd : decode (byt me) pc = .ok (i, len)) (hwf : wfI pc i len = true) (h : ins O1 (cl O1 d) C me pc (pc + len) ls st M i = some (r, Mf)) : Gw M Mf ∧ WW p l e R s m args below meth c G me Q n0 w0 pc ls st M := by
  cases i
  case iload_n kk =>
    have hlen : len = 1 := Nat.eq_of_beq_eq_true hwf
    subst hlen
    obtain ⟨x, hx, h⟩ := inv_ldI h
    obtain ⟨g, k⟩ := IH _ _ _ _ h0 h1 h
    exact ⟨g, w_iload_n X hd hx k⟩
  case iload kk =>
    have hlen : len = 2 := Nat.eq_of_beq_eq_true hwf
    subst hlen
    obtain ⟨x, hx, h⟩ := inv_ldI h
    obtain ⟨g, k⟩ := IH _ _ _ _ h0 h1 h
    exact ⟨g, w_iload X hd hx k⟩
  case aload_n kk =>
    have hlen : len = 1 := Nat.eq_of_beq_eq_true hwf
    subst hlen
    obtain ⟨x, hx, h⟩ := inv_ldA h
    obtain ⟨g, k⟩ := IH _ _ _ _ h0 h1 h
    exact ⟨g, w_aload_n X hd hx k⟩
  case aload kk =>
    have hlen : len = 2 := Nat.eq_of_beq_eq_true hwf
    subst hlen
    obtain ⟨x, hx, h⟩ := inv_ldA h
    obtain ⟨g, k⟩ := IH _ _ _ _ h0 h1 h
    exact ⟨g, w_aload X hd hx k⟩
  case lload_n kk =>
    have hlen : len = 1 := Nat.eq_of_beq_eq_true hwf
    subst hlen
    obtain ⟨x, hx, hx2, h⟩ := inv_ldL h
    obtain ⟨g, k⟩ := IH _ _ _ _ h0 h1 h
    exact ⟨g, w_lload_n X hd hx hx2 k⟩
  case lload kk =>
    have hlen : len = 2 := Nat.eq_of_beq_eq_true hwf
    subst hlen
    obtain ⟨x, hx, hx2, h⟩ := inv_ldL h
    obtain ⟨g, k⟩ := IH _ _ _ _ h0 h1 h
    exact ⟨g, w_lload X hd hx hx2 k⟩
  case istore_n kk =>
    have hlen : len = 1 := Nat.eq_of_beq_eq_true hwf
    subst hlen
    obtain ⟨x, rest, eq0, hh⟩ := inv_u1 h
    clear h
    subst eq0
    have h := hh
    clear hh
    obtain ⟨hb, h⟩ := gb_some h
    obtain ⟨g, k⟩ := IH _ _ _ _ h0 h1 h
    exact ⟨g, w_istore_n X hd (blt_lt hb) k⟩
  case istore kk =>
    have hlen : len = 2 := Nat.eq_of_beq_eq_true hwf
    subst hlen
    obtain ⟨x, rest, eq0, hh⟩ := inv_u1 h
    clear h
    subst eq0
    have h := hh
    clear hh
    obtain ⟨hb, h⟩ := gb_some h
    obtain ⟨g, k⟩ := IH _ _ _ _ h0 h1 h
    exact ⟨g, w_istore X hd (blt_lt hb) k⟩
  case astore_n kk =>
    have hlen : len = 1 := Nat.eq_of_beq_eq_true hwf
    subst hlen
    obtain ⟨x, rest, eq0, hh⟩ := inv_ua h
    clear h
    subst eq0
    have h := hh
    clear hh
    obtain ⟨hb, h⟩ := gb_some h
    obtain ⟨g, k⟩ := IH _ _ _ _ h0 h1 h
    exact ⟨g, w_astore_n X hd (blt_lt hb) k⟩
  case astore kk =>
    have hlen : len = 2 := Nat.eq_of_beq_eq_true hwf
    subst hlen
    obtain ⟨x, rest, eq0, hh⟩ := inv_ua h
    clear h
    subst eq0
    have h := hh
    clear hh
    obtain ⟨hb, h⟩ := gb_some h
    obtain ⟨g, k⟩ := IH _ _ _ _ h0 h1 h
    exact ⟨g, w_astore X hd (blt_lt hb) k⟩
  case lstore_n kk =>
    have hlen : len = 1 := Nat.eq_of_beq_eq_true hwf
    subst hlen
    obtain ⟨x, rest, eq0, hh⟩ := inv_ul h
    clear h
    subst eq0
    have h := hh
    clear hh
    obtain ⟨hb, h⟩ := gb_some h
    obtain ⟨g, k⟩ := IH _ _ _ _ h0 h1 h
    exact ⟨g, w_lstore_n X hd (blt_lt hb) k⟩
  case lstore kk =>
    have hlen : len = 2 := Nat.eq_of_beq_eq_true hwf
    subst hlen
    obtain ⟨x, rest, eq0, hh⟩ := inv_ul h
    clear h
    subst eq0
    have h := hh
    clear hh
    obtain ⟨hb, h⟩ := gb_some h
    obtain ⟨g, k⟩ := IH _ _ _ _ h0 h1 h
    exact ⟨g, w_lstore X hd (blt_lt hb) k⟩
  case iinc kk n =>
    have hlen : len = 3 := Nat.eq_of_beq_eq_true hwf
    subst hlen
    obtain ⟨x, hx, h⟩ := inv_ldI h
    obtain ⟨hb, h⟩ := gb_some h
    obtain ⟨g, k⟩ := IH _ _ _ _ h0 h1 h
    exact ⟨g, w_iinc X hd hx (blt_lt hb) k⟩
  case iconst n =>
    have hlen : len = 1 := Nat.eq_of_beq_eq_true hwf
    subst hlen
    obtain ⟨g, k⟩ := IH _ _ _ _ h0 h1 h
    exact ⟨g, w_iconst X hd k⟩
  case lconst n =>
    have hlen : len = 1 := Nat.eq_of_beq_eq_true hwf
    subst hlen
    obtain ⟨g, k⟩ := IH _ _ _ _ h0 h1 h
    exact ⟨g, w_lconst X hd k⟩
  case bipush n =>
    obtain ⟨q1, q2⟩ := Bool.and_eq_true_iff.mp hwf
    have hlen : len = 2 := Nat.eq_of_beq_eq_true q1
    subst hlen
    obtain ⟨g, k⟩ := IH _ _ _ _ h0 h1 h
    exact ⟨g, w_bipush X hd (of_decide_eq_true q2) k⟩
  case sipush n =>
    obtain ⟨q1, q2⟩ := Bool.and_eq_true_iff.mp hwf
    have hlen : len = 3 := Nat.eq_of_beq_eq_true q1
    subst hlen
    obtain ⟨g, k⟩ := IH _ _ _ _ h0 h1 h
    exact ⟨g, w_sipush X hd (of_decide_eq_true q2) k⟩
  case iadd =>
    have hlen : len = 1 := Nat.eq_of_beq_eq_true hwf
    subst hlen
    obtain ⟨x, y, rest, eq0, hh⟩ := inv_b2 h
    clear h
    subst eq0
    have h := hh
    clear hh
    obtain ⟨g, k⟩ := IH _ _ _ _ h0 h1 h
    exact ⟨g, w_iadd X hd k⟩
  case isub =>
    have hlen : len = 1 := Nat.eq_of_beq_eq_true hwf
    subst hlen
    obtain ⟨x, y, rest, eq0, hh⟩ := inv_b2 h
    clear h
    subst eq0
    have h := hh
    clear hh
    obtain ⟨g, k⟩ := IH _ _ _ _ h0 h1 h
    exact ⟨g, w_isub X hd k⟩
  case imul =>
    have hlen : len = 1 := Nat.eq_of_beq_eq_true hwf
    subst hlen
    obtain ⟨x, y, rest, eq0, hh⟩ := inv_b2 h
    clear h
    subst eq0
    have h := hh
    clear hh
    obtain ⟨g, k⟩ := IH _ _ _ _ h0 h1 h
    exact ⟨g, w_imul X hd k⟩
  case iand =>
    have hlen : len = 1 := Nat.eq_of_beq_eq_true hwf
    subst hlen
    obtain ⟨x, y, rest, eq0, hh⟩ := inv_b2 h
    clear h
    subst eq0
    have h := hh
    clear hh
    obtain ⟨g, k⟩ := IH _ _ _ _ h0 h1 h
    exact ⟨g, w_iand X hd k⟩
  case ior =>
    have hlen : len = 1 := Nat.eq_of_beq_eq_true hwf
    subst hlen
    obtain ⟨x, y, rest, eq0, hh⟩ := inv_b2 h
    clear h
    subst eq0
    have h := hh
    clear hh
    obtain ⟨g, k⟩ := IH _ _ _ _ h0 h1 h
    exact ⟨g, w_ior X hd k⟩
  case ixor =>
    have hlen : len = 1 := Nat.eq_of_beq_eq_true hwf
    subst hlen
    obtain ⟨x, y, rest, eq0, hh⟩ := inv_b2 h
    clear h
    subst eq0
    have h := hh
    clear hh
    obtain ⟨g, k⟩ := IH _ _ _ _ h0 h1 h
    exact ⟨g, w_ixor X hd k⟩
  case ishl =>
    have hlen : len = 1 := Nat.eq_of_beq_eq_true hwf
    subst hlen
    obtain ⟨x, y, rest, eq0, hh⟩ := inv_b2 h
    clear h
    subst eq0
    have h := hh
    clear hh
    obtain ⟨g, k⟩ := IH _ _ _ _ h0 h1 h
    exact ⟨g, w_ishl X hd k⟩
  case ishr =>
    have hlen : len = 1 := Nat.eq_of_beq_eq_true hwf
    subst hlen
    obtain ⟨x, y, rest, eq0, hh⟩ := inv_b2 h
    clear h
    subst eq0
    have h := hh
    clear hh
    obtain ⟨g, k⟩ := IH _ _ _ _ h0 h1 h
    exact ⟨g, w_ishr X hd k⟩
  case iushr =>
    have hlen : len = 1 := Nat.eq_of_beq_eq_true hwf
    subst hlen
    obtain ⟨x, y, rest, eq0, hh⟩ := inv_b2 h
    clear h
    subst eq0
    have h := hh
    clear hh
    obtain ⟨g, k⟩ := IH _ _ _ _ h0 h1 h
    exact ⟨g, w_iushr X hd k⟩
  case idiv =>
    have hlen : len = 1 := Nat.eq_of_beq_eq_true hwf
    subst hlen
    obtain ⟨x, y, rest, eq0, hh⟩ := inv_b2 h
    clear h
    subst eq0
    have h := hh
    clear hh
    obtain ⟨hb, h⟩ := gb_some h
    obtain ⟨g, k⟩ := IH _ _ _ _ h0 h1 h
    exact ⟨g, w_idiv X hd (by simpa using hb) k⟩
  case irem =>
    have hlen : len = 1 := Nat.eq_of_beq_eq_true hwf
    subst hlen
    obtain ⟨x, y, rest, eq0, hh⟩ := inv_b2 h
    clear h
    subst eq0
    have h := hh
    clear hh
    obtain ⟨hb, h⟩ := gb_some h
    obtain ⟨g, k⟩ := IH _ _ _ _ h0 h1 h
    exact ⟨g, w_irem X hd (by simpa using hb) k⟩
  case ladd =>
    have hlen : len = 1 := Nat.eq_of_beq_eq_true hwf
    subst hlen
    obtain ⟨x, y, rest, eq0, hh⟩ := inv_bl h
    clear h
    subst eq0
    have h := hh
    clear hh
    obtain ⟨g, k⟩ := IH _ _ _ _ h0 h1 h
    exact ⟨g, w_ladd X hd k⟩
  case lsub =>
    have hlen : len = 1 := Nat.eq_of_beq_eq_true hwf
    subst hlen
    obtain ⟨x, y, rest, eq0, hh⟩ := inv_bl h
    clear h
    subst eq0
    have h := hh
    clear hh
    obtain ⟨g, k⟩ := IH _ _ _ _ h0 h1 h
    exact ⟨g, w_lsub X hd k⟩
  case lmul =>
    have hlen : len = 1 := Nat.eq_of_beq_eq_true hwf
    subst hlen
    obtain ⟨x, y, rest, eq0, hh⟩ := inv_bl h
    clear h
    subst eq0
    have h := hh
    clear hh
    obtain ⟨g, k⟩ := IH _ _ _ _ h0 h1 h
    exact ⟨g, w_lmul X hd k⟩
  case land =>
    have hlen : len = 1 := Nat.eq_of_beq_eq_true hwf
    subst hlen
    obtain ⟨x, y, rest, eq0, hh⟩ := inv_bl h
    clear h
    subst eq0
    have h := hh
    clear hh
    obtain ⟨g, k⟩ := IH _ _ _ _ h0 h1 h
    exact ⟨g, w_land X hd k⟩
  case lor =>
    have hlen : len = 1 := Nat.eq_of_beq_eq_true hwf
    subst hlen
    obtain ⟨x, y, rest, eq0, hh⟩ := inv_bl h
    clear h
    subst eq0
    have h := hh
    clear hh
    obtain ⟨g, k⟩ := IH _ _ _ _ h0 h1 h
    exact ⟨g, w_lor X hd k⟩
  case lcmp =>
    have hlen : len = 1 := Nat.eq_of_beq_eq_true hwf
    subst hlen
    obtain ⟨x, y, rest, eq0, hh⟩ := inv_bl h
    clear h
    subst eq0
    have h := hh
    clear hh
    obtain ⟨g, k⟩ := IH _ _ _ _ h0 h1 h
    exact ⟨g, w_lcmp X hd k⟩
  case lshl =>
    have hlen : len = 1 := Nat.eq_of_beq_eq_true hwf
    subst hlen
    obtain ⟨x, y, rest, eq0, hh⟩ := inv_li h
    clear h
    subst eq0
    have h := hh
    clear hh
    obtain ⟨g, k⟩ := IH _ _ _ _ h0 h1 h
    exact ⟨g, w_lshl X hd k⟩
  case lshr =>
    have hlen : len = 1 := Nat.eq_of_beq_eq_true hwf
    subst hlen
    obtain ⟨x, y, rest, eq0, hh⟩ := inv_li h
    clear h
    subst eq0
    have h := hh
    clear hh
    obtain ⟨g, k⟩ := IH _ _ _ _ h0 h1 h
    exact ⟨g, w_lshr X hd k⟩
  case ineg =>
    have hlen : len = 1 := Nat.eq_of_beq_eq_true hwf
    subst hlen
    obtain ⟨x, rest, eq0, hh⟩ := inv_u1 h
    clear h
    subst eq0
    have h := hh
    clear hh
    obtain ⟨g, k⟩ := IH _ _ _ _ h0 h1 h
    exact ⟨g, w_ineg X hd k⟩
  case i2l =>
    have hlen : len = 1 := Nat.eq_of_beq_eq_true hwf
    subst hlen
    obtain ⟨x, rest, eq0, hh⟩ := inv_u1 h
    clear h
    subst eq0
    have h := hh
    clear hh
    obtain ⟨g, k⟩ := IH _ _ _ _ h0 h1 h
    exact ⟨g, w_i2l X hd k⟩
  case i2b =>
    have hlen : len = 1 := Nat.eq_of_beq_eq_true hwf
    subst hlen
    obtain ⟨x, rest, eq0, hh⟩ := inv_u1 h
    clear h
    subst eq0
    have h := hh
    clear hh
    obtain ⟨g, k⟩ := IH _ _ _ _ h0 h1 h
    exact ⟨g, w_i2b X hd k⟩
  case i2s =>
    have hlen : len = 1 := Nat.eq_of_beq_eq_true hwf
    subst hlen
    obtain ⟨x, rest, eq0, hh⟩ := inv_u1 h
    clear h
    subst eq0
    have h := hh
    clear hh
    obtain ⟨g, k⟩ := IH _ _ _ _ h0 h1 h
    exact ⟨g, w_i2s X hd k⟩
  case i2c =>
    have hlen : len = 1 := Nat.eq_of_beq_eq_true hwf
    subst hlen
    obtain ⟨x, rest, eq0, hh⟩ := inv_u1 h
    clear h
    subst eq0
    have h := hh
    clear hh
    obtain ⟨g, k⟩ := IH _ _ _ _ h0 h1 h
    exact ⟨g, w_i2c X hd k⟩
  case l2i =>
    have hlen : len = 1 := Nat.eq_of_beq_eq_true hwf
    subst hlen
    obtain ⟨x, rest, eq0, hh⟩ := inv_ul h
    clear h
    subst eq0
    have h := hh
    clear hh
    obtain ⟨g, k⟩ := IH _ _ _ _ h0 h1 h
    exact ⟨g, w_l2i X hd k⟩
  case dup =>
    have hlen : len = 1 := Nat.eq_of_beq_eq_true hwf
    subst hlen
    obtain ⟨v, rest, eq0, hv, hh⟩ := inv_v1 h
    clear h
    subst eq0
    have h := hh
    clear hh
    obtain ⟨g, k⟩ := IH _ _ _ _ h0 h1 h
    exact ⟨g, w_dup X hd hv k⟩
  case pop =>
    have hlen : len = 1 := Nat.eq_of_beq_eq_true hwf
    subst hlen
    obtain ⟨v, rest, eq0, hv, hh⟩ := inv_v1 h
    clear h
    subst eq0
    have h := hh
    clear hh
    obtain ⟨g, k⟩ := IH _ _ _ _ h0 h1 h
    exact ⟨g, w_pop X hd hv k⟩
  case dup_x1 =>
    have hlen : len = 1 := Nat.eq_of_beq_eq_true hwf
    subst hlen
    obtain ⟨v, u, rest, eq0, hv, hu, hh⟩ := inv_v2 h
    clear h
    subst eq0
    have h := hh
    clear hh
    obtain ⟨g, k⟩ := IH _ _ _ _ h0 h1 h
    exact ⟨g, w_dup_x1 X hd hv hu k⟩
  case dup2 =>
    have hlen : len = 1 := Nat.eq_of_beq_eq_true hwf
    subst hlen
    obtain ⟨v, u, rest, eq0, hv, hu, hh⟩ := inv_v2 h
    clear h
    subst eq0
    have h := hh
    clear hh
    obtain ⟨g, k⟩ := IH _ _ _ _ h0 h1 h
    exact ⟨g, w_dup2 X hd hv hu k⟩
  case goto off =>
    obtain ⟨q1, q2⟩ := Bool.and_eq_true_iff.mp hwf
    have hlen : len = 3 := Nat.eq_of_beq_eq_true q1
    subst hlen
    have ht := tg_eq (of_decide_eq_true q2)
    obtain ⟨g, k⟩ := IH _ _ _ _ h0 h1 h
    exact ⟨g, w_goto X hd ht k⟩
  case ifCond cd off =>
    obtain ⟨q1, q2⟩ := Bool.and_eq_true_iff.mp hwf
    have hlen : len = 3 := Nat.eq_of_beq_eq_true q1
    subst hlen
    have ht := tg_eq (of_decide_eq_true q2)
    obtain ⟨x, rest, eq0, hh⟩ := inv_u1 h
    clear h
    subst eq0
    have h := hh
    clear hh
    refine ⟨?_, w_ifc X hd ht h (fun ha => (IH _ _ _ _ h0 h1 ha).2) (fun hb => (IH _ _ _ _ h0 h1 hb).2)⟩
    by_cases hcc : C (tg pc off) ls rest M = some (r, Mf)
    · exact (IH _ _ _ _ h0 h1 hcc).1
    · exact (IH (pc + 3) _ _ _ h0 h1 (by
        have hx := h
        unfold br at hx
        repeat' split at hx
        all_goals first | exact hx | exact absurd hx hcc)).1
  case if_icmp cd off =>
    obtain ⟨q1, q2⟩ := Bool.and_eq_true_iff.mp hwf
    have hlen : len = 3 := Nat.eq_of_beq_eq_true q1
    subst hlen
    have ht := tg_eq (of_decide_eq_true q2)
    obtain ⟨x, y, rest, eq0, hh⟩ := inv_b2 h
    clear h
    subst eq0
    have h := hh
    clear hh
    refine ⟨?_, w_icmp X hd ht h (fun ha => (IH _ _ _ _ h0 h1 ha).2) (fun hb => (IH _ _ _ _ h0 h1 hb).2)⟩
    by_cases hcc : C (tg pc off) ls rest M = some (r, Mf)
    · exact (IH _ _ _ _ h0 h1 hcc).1
    · exact (IH (pc + 3) _ _ _ h0 h1 (by
        have hx := h
        unfold br at hx
        repeat' split at hx
        all_goals first | exact hx | exact absurd hx hcc)).1
  case if_acmp cd off =>
    obtain ⟨q1, q2⟩ := Bool.and_eq_true_iff.mp hwf
    have hlen : len = 3 := Nat.eq_of_beq_eq_true q1
    subst hlen
    have ht := tg_eq (of_decide_eq_true q2)
    have ok : ∀ z, rOk z = true → z = 0 ∨ 100 ≤ z := fun z hz => (Bool.or_eq_true_iff.mp hz).imp Nat.eq_of_beq_eq_true Nat.le_of_ble_eq_true
    obtain ⟨x, y, rest, eq0, hh⟩ := inv_ba h
    clear h
    subst eq0
    have h := hh
    clear hh
    obtain ⟨hb, h⟩ := gb_some h
    rw [Bool.and_eq_true] at hb
    refine ⟨?_, w_acmp X (adr_inj (ok _ hb.1) (ok _ hb.2)) hd ht h (fun ha => (IH _ _ _ _ h0 h1 ha).2) (fun hb => (IH _ _ _ _ h0 h1 hb).2)⟩
    by_cases hcc : C (tg pc off) ls rest M = some (r, Mf)
    · exact (IH _ _ _ _ h0 h1 hcc).1
    · exact (IH (pc + 3) _ _ _ h0 h1 (by
        have hx := h
        unfold bra at hx
        repeat' split at hx
        all_goals first | exact hx | exact absurd hx hcc)).1
  case ifnull off =>
    obtain ⟨q1, q2⟩ := Bool.and_eq_true_iff.mp hwf
    have hlen : len = 3 := Nat.eq_of_beq_eq_true q1
    subst hlen
    have ht := tg_eq (of_decide_eq_true q2)
    have ok : ∀ z, rOk z = true → z = 0 ∨ 100 ≤ z := fun z hz => (Bool.or_eq_true_iff.mp hz).imp Nat.eq_of_beq_eq_true Nat.le_of_ble_eq_true
    obtain ⟨x, rest, eq0, hh⟩ := inv_ua h
    clear h
    subst eq0
    have h := hh
    clear hh
    obtain ⟨hb, h⟩ := gb_some h
    have hz : adr G x = none ↔ x = 0 := by
      have := adr_inj (G := G) (ok _ hb) (Or.inl rfl : (0 : Nat) = 0 ∨ 100 ≤ 0)
      rwa [show adr G 0 = none from rfl] at this
    refine ⟨?_, w_ifnull X hz hd ht h (fun ha => (IH _ _ _ _ h0 h1 ha).2) (fun hb => (IH _ _ _ _ h0 h1 hb).2)⟩
    by_cases hcc : C (tg pc off) ls rest M = some (r, Mf)
    · exact (IH _ _ _ _ h0 h1 hcc).1
    · exact (IH (pc + 3) _ _ _ h0 h1 (by
        have hx := h
        split at hx
        all_goals first | exact hx | exact absurd hx hcc)).1
  case ifnonnull off =>
    obtain ⟨q1, q2⟩ := Bool.and_eq_true_iff.mp hwf
    have hlen : len = 3 := Nat.eq_of_beq_eq_true q1
    subst hlen
    have ht := tg_eq (of_decide_eq_true q2)
    have ok : ∀ z, rOk z = true → z = 0 ∨ 100 ≤ z := fun z hz => (Bool.or_eq_true_iff.mp hz).imp Nat.eq_of_beq_eq_true Nat.le_of_ble_eq_true
    obtain ⟨x, rest, eq0, hh⟩ := inv_ua h
    clear h
    subst eq0
    have h := hh
    clear hh
    obtain ⟨hb, h⟩ := gb_some h
    have hz : adr G x = none ↔ x = 0 := by
      have := adr_inj (G := G) (ok _ hb) (Or.inl rfl : (0 : Nat) = 0 ∨ 100 ≤ 0)
      rwa [show adr G 0 = none from rfl] at this
    refine ⟨?_, w_ifnonnull X hz hd ht h (fun ha => (IH _ _ _ _ h0 h1 ha).2) (fun hb => (IH _ _ _ _ h0 h1 hb).2)⟩
    by_cases hcc : C (tg pc off) ls rest M = some (r, Mf)
    · exact (IH _ _ _ _ h0 h1 hcc).1
    · exact (IH (pc + 3) _ _ _ h0 h1 (by
        have hx := h
        split at hx
        all_goals first | exact hx | exact absurd hx hcc)).1
  case tableswitch df lo hi offs =>
    unfold wfI at hwf
    simp only [Bool.and_eq_true] at hwf
    obtain ⟨q1, q2, q3, q4, q5⟩ := hwf
    have e5 := of_decide_eq_true q5
    have hi2 : hi ≤ 2147483647 := by unfold i32 at q4; rw [Bool.and_eq_true] at q4; exact of_decide_eq_true q4.2
    have hlo : -2147483648 ≤ lo := by unfold i32 at q3; rw [Bool.and_eq_true] at q3; exact of_decide_eq_true q3.1
    obtain ⟨x, rest, eq0, hh⟩ := inv_u1 h
    clear h
    subst eq0
    have h := hh
    clear hh
    by_cases hx : x.toInt < lo ∨ hi < x.toInt
    · rw [swt_out _ _ hlo (by omega) (by omega)] at h
      obtain ⟨g, k⟩ := IH _ _ _ _ h0 h1 h
      exact ⟨g, fun H locs sl hL hR hS => lv_tableOut X.1 X.2.1 hd hx (tg_eq (of_decide_eq_true q1)) (k H locs sl hL hR hS)⟩
    · obtain ⟨o, e1, e2⟩ := swt_in (x := x) (f := fun o => C (tg pc o) ls rest M) (D := C (tg pc df) ls rest M) offs.toList lo q3 (by omega) (by omega) (by omega)
      rw [e2] at h
      obtain ⟨g, k⟩ := IH _ _ _ _ h0 h1 h
      have ho := of_decide_eq_true (List.all_eq_true.mp q2 o (List.mem_of_getElem? e1))
      exact ⟨g, fun H locs sl hL hR hS => lv_tableIn X.1 X.2.1 hd (fun q => hx (Or.inl q)) (fun q => hx (Or.inr q)) (by rw [← Array.getElem?_toList]; exact e1) (tg_eq ho) (k H locs sl hL hR hS)⟩
  case lookupswitch df ps =>
    unfold wfI at hwf
    simp only [Bool.and_eq_true] at hwf
    obtain ⟨q1, q2, q3⟩ := hwf
    obtain ⟨x, rest, eq0, hh⟩ := inv_u1 h
    clear h
    subst eq0
    have h := hh
    clear hh
    have hall : ps.toList.all (fun q => i32 q.1) = true := List.all_eq_true.mpr (fun q hq => (Bool.and_eq_true_iff.mp (List.all_eq_true.mp q2 q hq)).1)
    have e := swl_eq (x := x) (f := fun o => C (tg pc o) ls rest M) (d := df) ps.toList hall
    have h : swl x (fun o => C (tg pc o) ls rest M) (C (tg pc df) ls rest M) ps.toList = some (r, Mf) := h
    rw [e] at h
    obtain ⟨g, k⟩ := IH _ _ _ _ h0 h1 h
    have ho : 0 ≤ (pc : Int) + Op.lookupswitch.offset ps.toList df x.toInt := swl_off (P := fun o => 0 ≤ (pc : Int) + o) (of_decide_eq_true q1) (fun q hq => of_decide_eq_true (Bool.and_eq_true_iff.mp (List.all_eq_true.mp q2 q hq)).2)
    exact ⟨g, fun H locs sl hL hR hS => lv_lookup X.1 X.2.1 hd q3 rfl (tg_eq ho) (k H locs sl hL hR hS)⟩
  case ldc kk =>
    have hlen : len = 2 := Nat.eq_of_beq_eq_true hwf
    subst hlen
    cases hk : kint me.2.1 kk with
    | some z =>
      have h : C (pc + 2) ls (.int (iI z.1) :: st) M = some (r, Mf) := by
        have hx := h
        change oE (kint me.2.1 kk) _ _ = _ at hx
        rw [hk] at hx
        exact hx
      obtain ⟨g, k⟩ := IH _ _ _ _ h0 h1 h
      exact ⟨g, w_ldc X hd hk k⟩
    | none =>
      have h : oX (kstr me.2.1 kk) (fun a => C (pc + 2) ls (.ref a.1 :: st) M) = some (r, Mf) := by
        have hx := h
        change oE (kint me.2.1 kk) _ _ = _ at hx
        rw [hk] at hx
        exact hx
      obtain ⟨q, hq, h⟩ := inv_oX h
      obtain ⟨g, k⟩ := IH _ _ _ _ h0 h1 h
      exact ⟨g, w_ldcS X hd hq k⟩
  case ldc_w kk =>
    have hlen : len = 3 := Nat.eq_of_beq_eq_true hwf
    subst hlen
    obtain ⟨z, hz, h⟩ := inv_oX h
    obtain ⟨g, k⟩ := IH _ _ _ _ h0 h1 h
    exact ⟨g, w_ldcw X hd hz k⟩
  case ldc2_w kk =>
    have hlen : len = 3 := Nat.eq_of_beq_eq_true hwf
    subst hlen
    obtain ⟨z, hz, h⟩ := inv_oX h
    obtain ⟨g, k⟩ := IH _ _ _ _ h0 h1 h
    exact ⟨g, w_ldc2 X hd hz k⟩
  case getstatic kk =>
    have hlen : len = 3 := Nat.eq_of_beq_eq_true hwf
    subst hlen
    obtain ⟨q, hq, h⟩ := inv_oX h
    have h : C (pc + 3) ls ((bb (Nat.beq q.1 1) (.int (iI 1)) (.ref 2) : Value) :: st) M = some (r, Mf) := by
      cases hb : Nat.beq q.1 1 with
      | true => rw [hb] at h; exact h
      | false => rw [hb] at h; exact h
    obtain ⟨g, k⟩ := IH _ _ _ _ h0 h1 h
    exact ⟨g, w_gst X hd hq rfl k⟩
  case getfield n =>
    have hlen : len = 3 := Nat.eq_of_beq_eq_true hwf
    subst hlen
    obtain ⟨f, hf, h⟩ := inv_oX h
    obtain ⟨a, rest, eq0, hh⟩ := inv_ua h
    clear h
    subst eq0
    have h := hh
    clear hh
    obtain ⟨hk, h⟩ := gb_some h
    by_cases h2 : f.1 = 2
    · rcases fres_cat2 hf h2 with hc | hc
      · rw [hc] at h
        obtain ⟨g, k⟩ := IH _ _ _ _ h0 h1 h
        exact ⟨g, w_getS X hd hf h2 (by rw [h2] at hk; exact hk) ⟨fun _ => k, fun e => by omega⟩⟩
      · rw [hc] at h
        obtain ⟨g, k⟩ := IH _ _ _ _ h0 h1 h
        exact ⟨g, w_getS X hd hf h2 (by rw [h2] at hk; exact hk) ⟨fun e => by omega, fun _ => k⟩⟩
    · obtain ⟨r', -, -, -, -, -, -, -, -, q9⟩ := fres_spec hf h2
      have hlt := cat_lt hf h2
      rcases (show f.2.2.1 = 0 ∨ f.2.2.1 = 1 ∨ f.2.2.1 = 2 ∨ f.2.2.1 = 3 by omega) with hc | hc | hc | hc
      · rw [hc] at h
        obtain ⟨g, k⟩ := IH _ _ _ _ h0 h1 h
        exact ⟨g, w_get X hd hf h2 hk (by unfold fV; rw [q9, hc]; rfl) k⟩
      · rw [hc] at h
        obtain ⟨g, k⟩ := IH _ _ _ _ h0 h1 h
        exact ⟨g, w_get X hd hf h2 hk (by unfold fV; rw [q9, hc]; rfl) k⟩
      · rw [hc] at h
        obtain ⟨g, k⟩ := IH _ _ _ _ h0 h1 h
        exact ⟨g, w_get X hd hf h2 hk (by unfold fV; rw [q9, hc]; rfl) k⟩
      · rw [hc] at h
        obtain ⟨g, k⟩ := IH _ _ _ _ h0 h1 h
        exact ⟨g, w_get X hd hf h2 hk (by unfold fV; rw [q9, hc]; rfl) k⟩
  case putfield n =>
    have hlen : len = 3 := Nat.eq_of_beq_eq_true hwf
    subst hlen
    obtain ⟨f, hf, h⟩ := inv_oX h
    obtain ⟨hfin, h⟩ := gb_some h
    by_cases h2 : f.1 = 2
    · rcases fres_cat2 hf h2 with hc | hc <;> (rw [hc] at h; cases h)
    · obtain ⟨r', -, -, -, -, -, -, -, -, q9⟩ := fres_spec hf h2
      have hlt := cat_lt hf h2
      rcases (show f.2.2.1 = 0 ∨ f.2.2.1 = 1 ∨ f.2.2.1 = 2 ∨ f.2.2.1 = 3 by omega) with hc | hc | hc | hc
      · rw [hc] at h
        obtain ⟨a, v, rest, eq0, hh⟩ := inv_ia h
        clear h
        subst eq0
        have h := hh
        clear hh
        obtain ⟨hk, h⟩ := gb_some h
        obtain ⟨g, k⟩ := IH _ _ _ (i1 M a f.2.1 v) h0 h1 h
        refine ⟨g, w_put (v := .int v) (M' := i1 M a f.2.1 v) X hd hf h2 hk hfin (fun ty hty => ?_) rfl rfl i1_row (hV_i q9 (by omega) (by omega)) k⟩
        rcases hty with ⟨rfl, -⟩ | ⟨-, e⟩ | ⟨-, e⟩ | ⟨-, e⟩ | ⟨-, e⟩
        · exact ⟨rfl, rfl⟩
        all_goals omega
      · rw [hc] at h
        obtain ⟨a, v, rest, eq0, hh⟩ := inv_la h
        clear h
        subst eq0
        have h := hh
        clear hh
        obtain ⟨hk, h⟩ := gb_some h
        obtain ⟨g, k⟩ := IH _ _ _ (l1 M a f.2.1 v) h0 h1 h
        refine ⟨g, w_put (v := .long v) (M' := l1 M a f.2.1 v) X hd hf h2 hk hfin (fun ty hty => ?_) rfl rfl l1_row (hV_l (by rw [q9, hc])) k⟩
        rcases hty with ⟨-, e⟩ | ⟨rfl, -⟩ | ⟨-, e⟩ | ⟨-, e⟩ | ⟨-, e⟩
        · omega
        · exact ⟨rfl, rfl⟩
        all_goals omega
      · rw [hc] at h
        obtain ⟨a, v, rest, eq0, hh⟩ := inv_ba h
        clear h
        subst eq0
        have h := hh
        clear hh
        obtain ⟨hk, h⟩ := gb_some h
        obtain ⟨M', hM', h⟩ := inv_oB h
        cases hM'
        obtain ⟨g, k⟩ := IH _ _ _ (r1 M a f.2.1 v) h0 h1 h
        refine ⟨g, w_put (v := .ref v) (M' := r1 M a f.2.1 v) X hd hf h2 hk hfin (fun ty hty => ?_) rfl rfl r1_row (hV_r (by rw [q9, hc])) k⟩
        rcases hty with ⟨-, e⟩ | ⟨-, e⟩ | ⟨-, e⟩ | ⟨⟨n, rfl⟩, -⟩ | ⟨⟨n, rfl⟩, -⟩
        · omega
        · omega
        · omega
        · show narrow _ (va_rf (adr G v)) = va_rf (adr G v) ∧ fits _ (va_rf (adr G v)) = true
          cases adr G v <;> exact ⟨rfl, rfl⟩
        · show narrow _ (va_rf (adr G v)) = va_rf (adr G v) ∧ fits _ (va_rf (adr G v)) = true
          cases adr G v <;> exact ⟨rfl, rfl⟩
      · rw [hc] at h
        obtain ⟨a, v, rest, eq0, hh⟩ := inv_ia h
        clear h
        subst eq0
        have h := hh
        clear hh
        obtain ⟨hk, h⟩ := gb_some h
        obtain ⟨hv, h⟩ := gb_some h
        obtain ⟨g, k⟩ := IH _ _ _ (i1 M a f.2.1 v) h0 h1 h
        refine ⟨g, w_put (v := .int v) (M' := i1 M a f.2.1 v) X hd hf h2 hk hfin (fun ty hty => ?_) rfl rfl i1_row (hV_i q9 (by omega) (by omega)) k⟩
        rcases hty with ⟨-, e⟩ | ⟨-, e⟩ | ⟨rfl, -⟩ | ⟨-, e⟩ | ⟨-, e⟩
        · omega
        · omega
        · rcases Bool.or_eq_true_iff.mp hv with hv | hv
          · rw [of_decide_eq_true hv]; exact ⟨rfl, rfl⟩
          · rw [of_decide_eq_true hv]; exact ⟨rfl, rfl⟩
        · omega
        · omega
  case iaload =>
    have hlen : len = 1 := Nat.eq_of_beq_eq_true hwf
    subst hlen
    obtain ⟨a, i, rest, eq0, hh⟩ := inv_ai h
    clear h
    subst eq0
    have h := hh
    clear hh
    cases hb : isK O1 M a 1 with
    | true =>
      rw [hb] at h
      obtain ⟨hi, h⟩ := gb_some h
      obtain ⟨g, k⟩ := IH _ _ _ _ h0 h1 h
      exact ⟨g, w_sld X hd hb hi k⟩
    | false =>
      rw [hb] at h
      obtain ⟨hi, h⟩ := gb_some h
      obtain ⟨g, k⟩ := IH _ _ _ _ h0 h1 h
      exact ⟨g, w_iald X hd hi k⟩
  case baload =>
    have hlen : len = 1 := Nat.eq_of_beq_eq_true hwf
    subst hlen
    obtain ⟨a, i, rest, eq0, hh⟩ := inv_ai h
    clear h
    subst eq0
    have h := hh
    clear hh
    cases hb : isK O1 M a 3 with
    | true =>
      rw [hb] at h
      obtain ⟨hi, h⟩ := gb_some h
      obtain ⟨g, k⟩ := IH _ _ _ _ h0 h1 h
      exact ⟨g, w_tb X hd hb hi k⟩
    | false =>
      rw [hb] at h
      obtain ⟨hi, h⟩ := gb_some h
      obtain ⟨g, k⟩ := IH _ _ _ _ h0 h1 h
      exact ⟨g, w_bald X hd hi k⟩
  case laload =>
    have hlen : len = 1 := Nat.eq_of_beq_eq_true hwf
    subst hlen
    obtain ⟨a, i, rest, eq0, hh⟩ := inv_ai h
    clear h
    subst eq0
    have h := hh
    clear hh
    obtain ⟨hi, h⟩ := gb_some h
    obtain ⟨g, k⟩ := IH _ _ _ _ h0 h1 h
    exact ⟨g, w_lald X hd hi k⟩
  case aaload =>
    have hlen : len = 1 := Nat.eq_of_beq_eq_true hwf
    subst hlen
    obtain ⟨a, i, rest, eq0, hh⟩ := inv_ai h
    clear h
    subst eq0
    have h := hh
    clear hh
    obtain ⟨hi, h⟩ := gb_some h
    obtain ⟨g, k⟩ := IH _ _ _ _ h0 h1 h
    exact ⟨g, w_aald X hd hi k⟩
  case iastore =>
    have hlen : len = 1 := Nat.eq_of_beq_eq_true hwf
    subst hlen
    obtain ⟨a, i, v, rest, eq0, hh⟩ := inv_aii h
    clear h
    subst eq0
    have h := hh
    clear hh
    obtain ⟨hi, h⟩ := gb_some h
    obtain ⟨g, k⟩ := IH _ _ _ (i1 M a (ix i) v) h0 h1 h
    exact ⟨g, w_iast X hd hi k⟩
  case bastore =>
    have hlen : len = 1 := Nat.eq_of_beq_eq_true hwf
    subst hlen
    obtain ⟨a, i, v, rest, eq0, hh⟩ := inv_aii h
    clear h
    subst eq0
    have h := hh
    clear hh
    cases hb : isK O1 M a 41 with
    | true =>
      rw [hb] at h
      obtain ⟨hi, h⟩ := gb_some h
      obtain ⟨g, k⟩ := IH _ _ _ (i1 M a (ix i) v.toInt8.toInt32) h0 h1 h
      exact ⟨g, w_bast X hd hi k⟩
    | false =>
      rw [hb] at h
      obtain ⟨hi, h⟩ := gb_some h
      obtain ⟨g, k⟩ := IH _ _ _ (i1 M a (ix i) (v &&& 1)) h0 h1 h
      exact ⟨g, w_zast X hd hi k⟩
  case lastore =>
    have hlen : len = 1 := Nat.eq_of_beq_eq_true hwf
    subst hlen
    obtain ⟨a, i, v, rest, eq0, hh⟩ := inv_ail h
    clear h
    subst eq0
    have h := hh
    clear hh
    obtain ⟨hi, h⟩ := gb_some h
    obtain ⟨g, k⟩ := IH _ _ _ (l1 M a (ix i) v) h0 h1 h
    exact ⟨g, w_last X hd hi k⟩
  case aastore =>
    have hlen : len = 1 := Nat.eq_of_beq_eq_true hwf
    subst hlen
    obtain ⟨a, i, v, rest, eq0, hh⟩ := inv_aia h
    clear h
    subst eq0
    have h := hh
    clear hh
    obtain ⟨hi, h⟩ := gb_some h
    rw [Bool.and_eq_true] at hi
    obtain ⟨M', hM', h⟩ := inv_oB h
    cases hM'
    obtain ⟨g, k⟩ := IH _ _ _ (r1 M a (ix i) v) h0 h1 h
    exact ⟨g, w_aast X hd hi.1 hi.2 k⟩
  case arraylength =>
    have hlen : len = 1 := Nat.eq_of_beq_eq_true hwf
    subst hlen
    obtain ⟨a, rest, eq0, hh⟩ := inv_ua h
    clear h
    subst eq0
    have h := hh
    clear hh
    cases hb : isK O1 M a 1 with
    | true =>
      rw [hb] at h
      obtain ⟨g, k⟩ := IH _ _ _ _ h0 h1 h
      exact ⟨g, w_slen X hd hb k⟩
    | false =>
      rw [hb] at h
      obtain ⟨hi, h⟩ := gb_some h
      obtain ⟨g, k⟩ := IH _ _ _ _ h0 h1 h
      simp only [Bool.or_eq_true] at hi
      rcases hi with ((((((hi | hi) | hi) | hi) | hi) | hi) | hi) | hi
      · exact ⟨g, w_tlen X hd hi k⟩
      · exact ⟨g, w_alen (t0 := 0) X hd hi (by decide) rfl k⟩
      · exact ⟨g, w_alen (t0 := 1) X hd hi (by decide) rfl k⟩
      · exact ⟨g, w_alen (t0 := 2) X hd hi (by decide) rfl k⟩
      · exact ⟨g, w_alen (t0 := 3) X hd hi (by decide) rfl k⟩
      · exact ⟨g, w_alen (t0 := 4) X hd hi (by decide) rfl k⟩
      · exact ⟨g, w_alen (t0 := 5) X hd hi (by decide) rfl k⟩
      · exact ⟨g, w_alen (t0 := 6) X hd hi (by decide) rfl k⟩
  case new n =>
    have hlen : len = 3 := Nat.eq_of_beq_eq_true hwf
    subst hlen
    obtain ⟨q, hq, h⟩ := inv_oX h
    obtain ⟨a, M', hn, h⟩ := inv_oP h
    have hn : n1 M (10 + q.1, 0) q.2.1 = some (a, M') := hn
    obtain ⟨-, -, eM⟩ := n1_spec hn
    have g1 : M.1 ≤ M'.1 ∧ M.2.1 ≤ M'.2.1 := by rw [eM]; exact ⟨Nat.le_succ _, Nat.le_add_right _ _⟩
    obtain ⟨g, k⟩ := IH _ _ _ _ (by omega) (by omega) h
    obtain ⟨g3, g4⟩ := id g
    exact ⟨⟨by omega, by omega⟩, w_new X hd hq hn h0 h1 (by omega) (by omega) k⟩
  case anewarray n =>
    have hlen : len = 3 := Nat.eq_of_beq_eq_true hwf
    subst hlen
    obtain ⟨q, hq, h⟩ := inv_oX h
    obtain ⟨x, rest, eq0, hh⟩ := inv_u1 h
    clear h
    subst eq0
    have h := hh
    clear hh
    obtain ⟨hb, h⟩ := gb_some h
    simp only [Bool.and_eq_true] at hb
    obtain ⟨a, M', hn, h⟩ := inv_oP h
    have hn : n1 M (q.1, ix x) (ix x) = some (a, M') := hn
    obtain ⟨-, -, eM⟩ := n1_spec hn
    have g1 : M.1 ≤ M'.1 ∧ M.2.1 ≤ M'.2.1 := by rw [eM]; exact ⟨Nat.le_succ _, Nat.le_add_right _ _⟩
    obtain ⟨g, k⟩ := IH _ _ _ _ (by omega) (by omega) h
    obtain ⟨g3, g4⟩ := id g
    exact ⟨⟨by omega, by omega⟩, w_anew X hd hq (by simpa using hb.1) (Nat.le_of_ble_eq_true hb.2.1) hn h0 h1 (by omega) (by omega) k⟩
  case newarray t =>
    have hlen : len = 2 := Nat.eq_of_beq_eq_true hwf
    subst hlen
    obtain ⟨x, rest, eq0, hh⟩ := inv_u1 h
    clear h
    subst eq0
    have h := hh
    clear hh
    obtain ⟨hb, h⟩ := gb_some h
    simp only [Bool.and_eq_true] at hb
    obtain ⟨a, M', hn, h⟩ := inv_oP h
    have hn : n1 M (arrK t, ix x) (ix x) = some (a, M') := hn
    obtain ⟨-, -, eM⟩ := n1_spec hn
    have g1 : M.1 ≤ M'.1 ∧ M.2.1 ≤ M'.2.1 := by rw [eM]; exact ⟨Nat.le_succ _, Nat.le_add_right _ _⟩
    obtain ⟨g, k⟩ := IH _ _ _ _ (by omega) (by omega) h
    obtain ⟨g3, g4⟩ := id g
    refine ⟨⟨by omega, by omega⟩, ?_⟩
    have hn0 : ¬ x < 0 := by simpa using hb.1
    have hbb := Nat.le_of_ble_eq_true hb.2.1
    cases t with
    | int => exact w_newa (t0 := 0) (kd := 40) (ty := .int) X hd rfl arrTB_int rfl (by decide) (fun _ h => h) (by rw [aV_int (by decide)]; show _ = Value.int (row0 _ (100 + M.1) 0 (100 + M.1) 0); unfold row0; rw [if_pos rfl]; rfl) (by decide) hn0 hbb hn h0 h1 (by omega) (by omega) k
    | byte => exact w_newa (t0 := 1) (kd := 41) (ty := .byte) X hd rfl arrTB_byte rfl (by decide) (fun _ h => h) (by rw [aV_int (by decide)]; show _ = Value.int (row0 _ (100 + M.1) 0 (100 + M.1) 0); unfold row0; rw [if_pos rfl]; rfl) (by decide) hn0 hbb hn h0 h1 (by omega) (by omega) k
    | boolean => exact w_newa (t0 := 2) (kd := 42) (ty := .boolean) X hd rfl arrTB_boolean rfl (by decide) (fun _ h => h) (by rw [aV_int (by decide)]; show _ = Value.int (row0 _ (100 + M.1) 0 (100 + M.1) 0); unfold row0; rw [if_pos rfl]; rfl) (by decide) hn0 hbb hn h0 h1 (by omega) (by omega) k
    | long => exact w_newa (t0 := 3) (kd := 43) (ty := .long) X hd rfl arrTB_long rfl (by decide) (fun _ h => h) (by rw [aV_long]; show _ = Value.long (row0 _ (100 + M.1) 0 (100 + M.1) 0); unfold row0; rw [if_pos rfl]; rfl) (by decide) hn0 hbb hn h0 h1 (by omega) (by omega) k
    | char => exact absurd hb.2.2 (by decide)
    | float => exact absurd hb.2.2 (by decide)
    | double => exact absurd hb.2.2 (by decide)
    | short => exact absurd hb.2.2 (by decide)
  case invokevirtual n =>
    have hlen : len = 3 := Nat.eq_of_beq_eq_true hwf
    subst hlen
    obtain ⟨q0, hq0, h⟩ := inv_oX h
    obtain ⟨q, hq, rfl⟩ := inv_mres hq0
    obtain ⟨hcat, h⟩ := gb_some h
    obtain ⟨b, rest, hst, h⟩ := inv_ua h
    obtain ⟨hk, h⟩ := gb_some h
    rw [Bool.and_eq_true] at hk
    obtain ⟨v, M', hK, h⟩ := inv_ivk h
    obtain ⟨p1, p2⟩ := inv_pop hst
    have hz : Nat.beq q.2.2.1 0 = false := by have := hk.2; rwa [Bool.not_eq_true'] at this
    have hrk : q.2.2.1 ≠ 0 := fun e => by rw [e] at hz; exact absurd hz (by decide)
    obtain ⟨s1, s2⟩ := ckV_spec hm hl hq
    have y := mrow_spec hq
    have g1 := hA _ (mds_mem y.2.1) (by rw [mds_id _ y.2.1]; exact y.1) _ _ _ _ hK
    have g11 := g1.1
    have g12 := g1.2.1
    obtain ⟨g, k⟩ := IH _ _ _ _ (by omega) (by omega) h
    obtain ⟨g3, g4⟩ := id g
    have hcat2 : catS rest ≤ 8 := by
      have e1 : st.drop (q.2.1 + 1) = rest := by rw [← List.drop_drop, hst]; rfl
      rw [← e1]; exact Nat.le_of_ble_eq_true hcat
    refine ⟨⟨by omega, by omega⟩, ?_⟩
    rw [p2]
    exact w_callV X hA hd hq hrk hk.1 s1 s2 hK p1 hcat2 h0 h1 (by omega) (by omega) k
  case invokestatic n =>
    have hlen : len = 3 := Nat.eq_of_beq_eq_true hwf
    subst hlen
    obtain ⟨q0, hq0, h⟩ := inv_oX h
    obtain ⟨q, hq, rfl⟩ := inv_mres hq0
    obtain ⟨hcat, h⟩ := gb_some h
    simp only [Bool.and_eq_true] at hcat
    obtain ⟨hc1, hc2, hc3⟩ := hcat
    obtain ⟨v, M', hK, h⟩ := inv_ivk h
    have y := mrow_spec hq
    have g1 := hA _ (mds_mem y.2.1) (by rw [mds_id _ y.2.1]; exact y.1) _ _ _ _ hK
    have g11 := g1.1
    have g12 := g1.2.1
    obtain ⟨g, k⟩ := IH _ _ _ _ (by omega) (by omega) h
    obtain ⟨g3, g4⟩ := id g
    refine ⟨⟨by omega, by omega⟩, ?_⟩
    have e : st = ((st.take q.2.1).reverse).reverse ++ st.drop q.2.1 := by rw [List.reverse_reverse, List.take_append_drop]
    have hlen2 : ((st.take q.2.1).reverse).length = q.2.1 := by rw [List.length_reverse, List.length_take]; exact Nat.min_eq_left (Nat.le_of_ble_eq_true hc2)
    have kk := w_callS X hA hd hq (Nat.eq_of_beq_eq_true hc3) hK hlen2 (Nat.le_of_ble_eq_true hc1) h0 h1 (by omega) (by omega) k
    rw [← e] at kk
    exact kk
  case invokespecial n =>
    have hlen : len = 3 := Nat.eq_of_beq_eq_true hwf
    subst hlen
    cases ho : oini me.2.1 n with
    | true =>
      have h : ua st (fun a rr => gb (Nat.ble (catS rr) 8 && Nat.ble 100 a) (C (pc + 3) ls rr M)) = some (r, Mf) := by
        have hx := h
        change bb (oini me.2.1 n) _ _ = _ at hx
        rw [ho] at hx
        exact hx
      obtain ⟨a, rest, eq0, hh⟩ := inv_ua h
      clear h
      subst eq0
      have h := hh
      clear hh
      obtain ⟨hcat, h⟩ := gb_some h
      rw [Bool.and_eq_true] at hcat
      obtain ⟨g, k⟩ := IH _ _ _ _ h0 h1 h
      exact ⟨g, w_objI X hd ho (by rw [adr_ge (Nat.le_of_ble_eq_true hcat.2)]; exact fun q => by cases q) (Nat.le_of_ble_eq_true hcat.1) k⟩
    | false =>
      have h : oX (mres me.2.1 n) (fun q => gb (Nat.ble (catS (st.drop (q.2.1 + 1))) 8) (ua (st.drop q.2.1) fun b rest => gb (isK O1 M b q.2.2 && (!(Nat.beq q.2.2 0) && q.1.2.2.2.2.2)) (ivk (cl O1 d) C q.1 (pc + 3) ls (.ref b :: (st.take q.2.1).reverse) rest M))) = some (r, Mf) := by
        have hx := h
        change bb (oini me.2.1 n) _ _ = _ at hx
        rw [ho] at hx
        exact hx
      obtain ⟨q0, hq0, h⟩ := inv_oX h
      obtain ⟨q, hq, rfl⟩ := inv_mres hq0
      obtain ⟨hcat, h⟩ := gb_some h
      obtain ⟨b, rest, hst, h⟩ := inv_ua h
      obtain ⟨hk, h⟩ := gb_some h
      simp only [Bool.and_eq_true] at hk
      obtain ⟨v, M', hK, h⟩ := inv_ivk h
      obtain ⟨p1, p2⟩ := inv_pop hst
      have hz : Nat.beq q.2.2.1 0 = false := by have := hk.2.1; rwa [Bool.not_eq_true'] at this
      have hrk : q.2.2.1 ≠ 0 := fun e => by rw [e] at hz; exact absurd hz (by decide)
      have y := mrow_spec hq
      have g1 := hA _ (mds_mem y.2.1) (by rw [mds_id _ y.2.1]; exact y.1) _ _ _ _ hK
      have g11 := g1.1
      have g12 := g1.2.1
      obtain ⟨g, k⟩ := IH _ _ _ _ (by omega) (by omega) h
      obtain ⟨g3, g4⟩ := id g
      have hcat2 : catS rest ≤ 8 := by
        have e1 : st.drop (q.2.1 + 1) = rest := by rw [← List.drop_drop, hst]; rfl
        rw [← e1]; exact Nat.le_of_ble_eq_true hcat
      refine ⟨⟨by omega, by omega⟩, ?_⟩
      rw [p2]
      exact w_callI X hA hd hq hrk hk.1 hk.2.2 hK p1 hcat2 h0 h1 (by omega) (by omega) (init_spec (mds_mem y.2.1) hk.2.2) k
  case ireturn =>
    have hlen : len = 1 := Nat.eq_of_beq_eq_true hwf
    subst hlen
    have h : ret1 me st M = some (r, Mf) := h
    have e := ret1_mem h
    subst e
    exact ⟨⟨Nat.le_refl _, Nat.le_refl _⟩, hret pc ls st .ireturn hd rfl (fun _ => h)⟩
  case lreturn =>
    have hlen : len = 1 := Nat.eq_of_beq_eq_true hwf
    subst hlen
    have hM : Mf = M := by
      have hx : ((match (generalizing := false) st with | [.long v] => (match (generalizing := false) me.2.2.2.2.1 with | 6 => some (.long v, M) | _ => none) | _ => none) : Rs M1) = some (r, Mf) := h
      repeat' split at hx
      all_goals first | (cases hx; rfl) | cases hx
    subst hM
    exact ⟨⟨Nat.le_refl _, Nat.le_refl _⟩, hret pc ls st .lreturn hd rfl (fun _ => h)⟩
  case areturn =>
    have hlen : len = 1 := Nat.eq_of_beq_eq_true hwf
    subst hlen
    have hM : Mf = M := by
      have hx : ((match (generalizing := false) st with | [.ref v] => (match (generalizing := false) me.2.2.2.2.1 with | 7 => some (.ref v, M) | _ => none) | _ => none) : Rs M1) = some (r, Mf) := h
      repeat' split at hx
      all_goals first | (cases hx; rfl) | cases hx
    subst hM
    exact ⟨⟨Nat.le_refl _, Nat.le_refl _⟩, hret pc ls st .areturn hd rfl (fun _ => h)⟩
  case return_ =>
    have hlen : len = 1 := Nat.eq_of_beq_eq_true hwf
    subst hlen
    have hM : Mf = M := by
      have hx : ((match (generalizing := false) st with | [] => (match (generalizing := false) me.2.2.2.2.1 with | 0 => some (.null, M) | _ => none) | _ => none) : Rs M1) = some (r, Mf) := h
      repeat' split at hx
      all_goals first | (cases hx; rfl) | cases hx
    subst hM
    exact ⟨⟨Nat.le_refl _, Nat.le_refl _⟩, hret pc ls st .return_ hd rfl (fun _ => h)⟩
  all_goals exact absurd (show (none : Rs M1) = some (r, Mf) from h) (by simp)
theorem snd_run {r : Value} {Mf : M1} (X : Ctx p R s m args meth c G me d) (hm : me ∈ mds) (hA : AllMet l G d) (hRc : Mf.1 - n0 ≤ R.cells) (hRs : Mf.2.1 - w0 ≤ R.slots)
    (hret : ∀ (pc : Nat) (ls st : List Value) (i : Jvm.ClassFile.Instr), decode (byt me) pc = .ok (i, 1) → isRet i = true → (∀ C : Cont M1, ins O1 (cl O1 d) C me pc (pc + 1) ls st Mf i = some (r, Mf)) → WW p l e R s m args below meth c G me Q n0 w0 pc ls st Mf) :
    ∀ (n pc : Nat) (ls st : List Value) (M : M1), n0 ≤ M.1 → w0 ≤ M.2.1 → run O1 (cl O1 d) me n pc ls st M = some (r, Mf) → Gw M Mf ∧ WW p l e R s m args below meth c G me Q n0 w0 pc ls st M := by
  intro n
  induction n with
  | zero => intro pc ls st M h0 h1 h; cases h
  | succ n IH =>
    intro pc ls st M h0 h1 h
    have h : stp O1 (cl O1 d) me (run O1 (cl O1 d) me n) pc ls st M = some (r, Mf) := h
    unfold stp at h
    cases hl : lkN me.2.2.1 pc with
    | none => rw [hl] at h; cases h
    | some q =>
      obtain ⟨i, len⟩ := q
      rw [hl] at h
      obtain ⟨hd, hwf⟩ := ckD_spec X.2.2.2.2.2.2.2.2.2.2.1 hl
      exact snd_ins X hm hA hRc hRs hret IH h0 h1 hl hd hwf h
end Snd
end
section
/-! GROWTH: no cell goes; then every method meets its contract. -/
section Grow
variable {K : MD → List Value → M1 → Rs M1} {me : MD} {M : M1}
def GR (M : M1) (f : Cont M1 → Rs M1) : Prop := ∀ (C : Cont M1) (r : Value) (Mf : M1), f C = some (r, Mf) → Gw M Mf ∨ ∃ (pc : Nat) (ls st : List Value) (m : M1), Gw M m ∧ C pc ls st m = some (r, Mf)
theorem gw_r : Gw M M := ⟨Nat.le_refl _, Nat.le_refl _⟩
theorem gr_go {pc : Nat} {ls st : List Value} {m : M1} (h : Gw M m) : GR M (fun C => C pc ls st m) := fun _ _ _ e => Or.inr ⟨_, _, _, _, h, e⟩
theorem gr_none : GR M (fun _ => none) := fun _ _ _ e => by cases e
theorem gr_gb {b : Bool} {f : Cont M1 → Rs M1} (h : GR M f) : GR M (fun C => gb b (f C)) := fun C r Mf e => h C r Mf (gb_some e).2
theorem gr_ite {P : Prop} [Decidable P] {f g : Cont M1 → Rs M1} (hf : GR M f) (hg : GR M g) : GR M (fun C => if P then f C else g C) := fun C r Mf e => by
  dsimp only at e
  split at e
  · exact hf C r Mf e
  · exact hg C r Mf e
theorem gr_bb {b : Bool} {f g : Cont M1 → Rs M1} (hf : GR M f) (hg : GR M g) : GR M (fun C => bb b (f C) (g C)) := by
  cases b
  · exact hg
  · exact hf
theorem gr_oE {α : Type} {q : Option α} {f : α → Cont M1 → Rs M1} {g : Cont M1 → Rs M1} (h : ∀ x, GR M (f x)) (hg : GR M g) : GR M (fun C => oE q (fun x => f x C) (g C)) := by
  cases q with
  | none => exact hg
  | some x => exact h x
theorem gr_oX {α : Type} {q : Option α} {f : α → Cont M1 → Rs M1} (h : ∀ x, GR M (f x)) : GR M (fun C => oX q (fun x => f x C)) := by
  cases q with
  | none => exact gr_none
  | some x => exact h x
theorem gr_oB {q : Option M1} {f : M1 → Cont M1 → Rs M1} (h : ∀ x, q = some x → GR M (f x)) : GR M (fun C => oB q (fun x => f x C)) := by
  cases q with
  | none => exact gr_none
  | some x => exact h x rfl
theorem gr_oP {q : Option (Nat × M1)} {f : Nat → M1 → Cont M1 → Rs M1} (h : ∀ a x, q = some (a, x) → GR M (f a x)) : GR M (fun C => oP q (fun a x => f a x C)) := by
  cases q with
  | none => exact gr_none
  | some x => exact h x.1 x.2 rfl
theorem gr_br {cd : Jvm.ClassFile.Cond} {x y : Int32} {f g : Cont M1 → Rs M1} (hf : GR M f) (hg : GR M g) : GR M (fun C => br cd x y (f C) (g C)) := by
  cases cd
  · exact gr_ite hf hg
  · exact gr_ite hg hf
  · exact gr_ite hf hg
  · exact gr_ite hg hf
  · exact gr_ite hf hg
  · exact gr_ite hg hf
theorem gr_bra {cd : Jvm.ClassFile.ACond} {x y : Nat} {f g : Cont M1 → Rs M1} (hf : GR M f) (hg : GR M g) : GR M (fun C => bra cd x y (f C) (g C)) := by
  cases cd
  · exact gr_ite hf hg
  · exact gr_ite hg hf
theorem gr_swt {x : Int32} {f : Int → Cont M1 → Rs M1} {d : Cont M1 → Rs M1} (hf : ∀ q, GR M (f q)) (hd : GR M d) : ∀ (l : List Int) (k : Int), GR M (fun C => swt x (fun q => f q C) (d C) k l)
  | [], _ => hd
  | q :: l, k => gr_ite (hf q) (gr_swt hf hd l (k + 1))
theorem gr_swl {x : Int32} {f : Int → Cont M1 → Rs M1} {d : Cont M1 → Rs M1} (hf : ∀ q, GR M (f q)) (hd : GR M d) : ∀ (l : List (Int × Int)), GR M (fun C => swl x (fun q => f q C) (d C) l)
  | [] => hd
  | (_, q) :: l => gr_ite (hf q) (gr_swl hf hd l)
theorem gr_ivk (hK : ∀ me as M r M', K me as M = some (r, M') → Gw M M') {me : MD} {nx : Nat} {ls as rest : List Value} : GR M (fun C => ivk K C me nx ls as rest M) := fun C r Mf e => by
  obtain ⟨v, m', h1, h2⟩ := inv_ivk e
  exact Or.inr ⟨_, _, _, _, hK _ _ _ _ _ h1, h2⟩
theorem gr_n1 {sh : Nat × Nat} {w a : Nat} {m : M1} (h : n1 M sh w = some (a, m)) : Gw M m := by
  obtain ⟨-, -, e⟩ := n1_spec h
  rw [e]
  exact ⟨Nat.le_succ _, Nat.le_add_right _ _⟩
theorem gr_u1 {st : List Value} {f : Int32 → List Value → Cont M1 → Rs M1} (h : ∀ x0 x1, GR M (f x0 x1)) : GR M (fun C => u1 st (fun x0 x1 => f x0 x1 C)) := fun C r Mf e => by
  obtain ⟨y0, y1, -, e⟩ := inv_u1 e
  exact h _ _ C r Mf e
theorem gr_b2 {st : List Value} {f : Int32 → Int32 → List Value → Cont M1 → Rs M1} (h : ∀ x0 x1 x2, GR M (f x0 x1 x2)) : GR M (fun C => b2 st (fun x0 x1 x2 => f x0 x1 x2 C)) := fun C r Mf e => by
  obtain ⟨y0, y1, y2, -, e⟩ := inv_b2 e
  exact h _ _ _ C r Mf e
theorem gr_ul {st : List Value} {f : Int64 → List Value → Cont M1 → Rs M1} (h : ∀ x0 x1, GR M (f x0 x1)) : GR M (fun C => ul st (fun x0 x1 => f x0 x1 C)) := fun C r Mf e => by
  obtain ⟨y0, y1, -, e⟩ := inv_ul e
  exact h _ _ C r Mf e
theorem gr_bl {st : List Value} {f : Int64 → Int64 → List Value → Cont M1 → Rs M1} (h : ∀ x0 x1 x2, GR M (f x0 x1 x2)) : GR M (fun C => bl st (fun x0 x1 x2 => f x0 x1 x2 C)) := fun C r Mf e => by
  obtain ⟨y0, y1, y2, -, e⟩ := inv_bl e
  exact h _ _ _ C r Mf e
theorem gr_li {st : List Value} {f : Int64 → Int32 → List Value → Cont M1 → Rs M1} (h : ∀ x0 x1 x2, GR M (f x0 x1 x2)) : GR M (fun C => li st (fun x0 x1 x2 => f x0 x1 x2 C)) := fun C r Mf e => by
  obtain ⟨y0, y1, y2, -, e⟩ := inv_li e
  exact h _ _ _ C r Mf e
theorem gr_ua {st : List Value} {f : Nat → List Value → Cont M1 → Rs M1} (h : ∀ x0 x1, GR M (f x0 x1)) : GR M (fun C => ua st (fun x0 x1 => f x0 x1 C)) := fun C r Mf e => by
  obtain ⟨y0, y1, -, e⟩ := inv_ua e
  exact h _ _ C r Mf e
theorem gr_ba {st : List Value} {f : Nat → Nat → List Value → Cont M1 → Rs M1} (h : ∀ x0 x1 x2, GR M (f x0 x1 x2)) : GR M (fun C => ba st (fun x0 x1 x2 => f x0 x1 x2 C)) := fun C r Mf e => by
  obtain ⟨y0, y1, y2, -, e⟩ := inv_ba e
  exact h _ _ _ C r Mf e
theorem gr_ai {st : List Value} {f : Nat → Int32 → List Value → Cont M1 → Rs M1} (h : ∀ x0 x1 x2, GR M (f x0 x1 x2)) : GR M (fun C => ai st (fun x0 x1 x2 => f x0 x1 x2 C)) := fun C r Mf e => by
  obtain ⟨y0, y1, y2, -, e⟩ := inv_ai e
  exact h _ _ _ C r Mf e
theorem gr_aii {st : List Value} {f : Nat → Int32 → Int32 → List Value → Cont M1 → Rs M1} (h : ∀ x0 x1 x2 x3, GR M (f x0 x1 x2 x3)) : GR M (fun C => aii st (fun x0 x1 x2 x3 => f x0 x1 x2 x3 C)) := fun C r Mf e => by
  obtain ⟨y0, y1, y2, y3, -, e⟩ := inv_aii e
  exact h _ _ _ _ C r Mf e
theorem gr_ail {st : List Value} {f : Nat → Int32 → Int64 → List Value → Cont M1 → Rs M1} (h : ∀ x0 x1 x2 x3, GR M (f x0 x1 x2 x3)) : GR M (fun C => ail st (fun x0 x1 x2 x3 => f x0 x1 x2 x3 C)) := fun C r Mf e => by
  obtain ⟨y0, y1, y2, y3, -, e⟩ := inv_ail e
  exact h _ _ _ _ C r Mf e
theorem gr_aia {st : List Value} {f : Nat → Int32 → Nat → List Value → Cont M1 → Rs M1} (h : ∀ x0 x1 x2 x3, GR M (f x0 x1 x2 x3)) : GR M (fun C => aia st (fun x0 x1 x2 x3 => f x0 x1 x2 x3 C)) := fun C r Mf e => by
  obtain ⟨y0, y1, y2, y3, -, e⟩ := inv_aia e
  exact h _ _ _ _ C r Mf e
theorem gr_ia {st : List Value} {f : Nat → Int32 → List Value → Cont M1 → Rs M1} (h : ∀ x0 x1 x2, GR M (f x0 x1 x2)) : GR M (fun C => ia st (fun x0 x1 x2 => f x0 x1 x2 C)) := fun C r Mf e => by
  obtain ⟨y0, y1, y2, -, e⟩ := inv_ia e
  exact h _ _ _ C r Mf e
theorem gr_la {st : List Value} {f : Nat → Int64 → List Value → Cont M1 → Rs M1} (h : ∀ x0 x1 x2, GR M (f x0 x1 x2)) : GR M (fun C => la st (fun x0 x1 x2 => f x0 x1 x2 C)) := fun C r Mf e => by
  obtain ⟨y0, y1, y2, -, e⟩ := inv_la e
  exact h _ _ _ C r Mf e
theorem gr_v1 {st : List Value} {f : Value → List Value → Cont M1 → Rs M1} (h : ∀ x0 x1, GR M (f x0 x1)) : GR M (fun C => v1 st (fun x0 x1 => f x0 x1 C)) := fun C r Mf e => by
  obtain ⟨y0, y1, -, -, e⟩ := inv_v1 e
  exact h _ _ C r Mf e
theorem gr_v2 {st : List Value} {f : Value → Value → List Value → Cont M1 → Rs M1} (h : ∀ x0 x1 x2, GR M (f x0 x1 x2)) : GR M (fun C => v2 st (fun x0 x1 x2 => f x0 x1 x2 C)) := fun C r Mf e => by
  obtain ⟨y0, y1, y2, -, -, -, e⟩ := inv_v2 e
  exact h _ _ _ C r Mf e
theorem gr_ldI {ls : List Value} {k : Nat} {f : Int32 → Cont M1 → Rs M1} (h : ∀ x, GR M (f x)) : GR M (fun C => ldI ls k (fun x => f x C)) := fun C r Mf e => by
  obtain ⟨x, -, e⟩ := inv_ldI e
  exact h _ C r Mf e
theorem gr_ldA {ls : List Value} {k : Nat} {f : Nat → Cont M1 → Rs M1} (h : ∀ x, GR M (f x)) : GR M (fun C => ldA ls k (fun x => f x C)) := fun C r Mf e => by
  obtain ⟨x, -, e⟩ := inv_ldA e
  exact h _ C r Mf e
theorem gr_ldL {ls : List Value} {k : Nat} {f : Int64 → Cont M1 → Rs M1} (h : ∀ x, GR M (f x)) : GR M (fun C => ldL ls k (fun x => f x C)) := fun C r Mf e => by
  obtain ⟨x, -, -, e⟩ := inv_ldL e
  exact h _ C r Mf e
theorem gr_getF {nx : Nat} {ls rest : List Value} {a : Nat} {f : Nat × Nat × Nat × Bool × Nat} : GR M (fun C => getF O1 C nx ls rest M a f) := by
  unfold getF
  refine gr_gb ?_
  split <;> exact gr_go gw_r
theorem gr_putF {nx : Nat} {ls st : List Value} {f : Nat × Nat × Nat × Bool × Nat} : GR M (fun C => putF O1 C me nx ls st M f) := by
  unfold putF
  refine gr_gb ?_
  split
  · exact gr_ia (fun _ _ _ => gr_gb (gr_go ⟨Nat.le_refl _, Nat.le_refl _⟩))
  · exact gr_la (fun _ _ _ => gr_gb (gr_go ⟨Nat.le_refl _, Nat.le_refl _⟩))
  · exact gr_ba (fun _ _ _ => gr_gb (gr_oB (fun _ e => by cases e; exact gr_go ⟨Nat.le_refl _, Nat.le_refl _⟩)))
  · exact gr_ia (fun _ _ _ => gr_gb (gr_gb (gr_go ⟨Nat.le_refl _, Nat.le_refl _⟩)))
  · exact gr_none
theorem gr_sto {nx : Nat} {ls : List Value} {i : Nat} {v : Value} {rest : List Value} : GR M (fun C => sto C nx ls i v rest M) := gr_gb (gr_go gw_r)
theorem gr_sto2 {nx : Nat} {ls : List Value} {i : Nat} {v : Int64} {rest : List Value} : GR M (fun C => sto2 C nx ls i v rest M) := gr_gb (gr_go gw_r)
theorem gr_newA {nx : Nat} {ls rest : List Value} {k : Nat} {n : Int32} : GR M (fun C => newA O1 C nx ls rest M k n) := gr_gb (gr_oP (fun _ _ e => gr_go (gr_n1 e)))
set_option maxHeartbeats 4000000 in
theorem gr_ins (hK : ∀ me as M r M', K me as M = some (r, M') → Gw M M') (pc nx : Nat) (ls st : List Value) (i : Jvm.ClassFile.Instr) : GR M (fun C => ins O1 K C me pc nx ls st M i) := by
  cases i
  case iload_n => exact gr_ldI (fun _ => gr_go gw_r)
  case iload => exact gr_ldI (fun _ => gr_go gw_r)
  case aload_n => exact gr_ldA (fun _ => gr_go gw_r)
  case aload => exact gr_ldA (fun _ => gr_go gw_r)
  case lload_n => exact gr_ldL (fun _ => gr_go gw_r)
  case lload => exact gr_ldL (fun _ => gr_go gw_r)
  case istore_n => exact gr_u1 (fun _ _ => gr_sto)
  case istore => exact gr_u1 (fun _ _ => gr_sto)
  case astore_n => exact gr_ua (fun _ _ => gr_sto)
  case astore => exact gr_ua (fun _ _ => gr_sto)
  case lstore_n => exact gr_ul (fun _ _ => gr_sto2)
  case lstore => exact gr_ul (fun _ _ => gr_sto2)
  case iinc => exact gr_ldI (fun _ => gr_sto)
  case iconst => exact gr_go gw_r
  case bipush => exact gr_go gw_r
  case sipush => exact gr_go gw_r
  case lconst => exact gr_go gw_r
  case ldc => exact gr_oE (fun _ => gr_go gw_r) (gr_oX (fun _ => gr_go gw_r))
  case ldc_w => exact gr_oX (fun _ => gr_go gw_r)
  case ldc2_w => exact gr_oX (fun _ => gr_go gw_r)
  case idiv => exact gr_b2 (fun _ _ _ => gr_gb (gr_go gw_r))
  case irem => exact gr_b2 (fun _ _ _ => gr_gb (gr_go gw_r))
  case dup => exact gr_v1 (fun _ _ => gr_go gw_r)
  case pop => exact gr_v1 (fun _ _ => gr_go gw_r)
  case dup_x1 => exact gr_v2 (fun _ _ _ => gr_go gw_r)
  case dup2 => exact gr_v2 (fun _ _ _ => gr_go gw_r)
  case ifCond => exact gr_u1 (fun _ _ => gr_br (gr_go gw_r) (gr_go gw_r))
  case if_icmp => exact gr_b2 (fun _ _ _ => gr_br (gr_go gw_r) (gr_go gw_r))
  case if_acmp => exact gr_ba (fun _ _ _ => gr_gb (gr_bra (gr_go gw_r) (gr_go gw_r)))
  case ifnull => exact gr_ua (fun _ _ => gr_gb (gr_ite (gr_go gw_r) (gr_go gw_r)))
  case ifnonnull => exact gr_ua (fun _ _ => gr_gb (gr_ite (gr_go gw_r) (gr_go gw_r)))
  case goto => exact gr_go gw_r
  case tableswitch => exact gr_u1 (fun _ _ => gr_swt (fun _ => gr_go gw_r) (gr_go gw_r) _ _)
  case lookupswitch => exact gr_u1 (fun _ _ => gr_swl (fun _ => gr_go gw_r) (gr_go gw_r) _)
  case getfield => exact gr_oX (fun _ => gr_ua (fun _ _ => gr_getF))
  case putfield => exact gr_oX (fun _ => gr_putF)
  case getstatic => exact gr_oX (fun _ => gr_bb (gr_go gw_r) (gr_go gw_r))
  case iaload => exact gr_ai (fun _ _ _ => gr_bb (gr_gb (gr_go gw_r)) (gr_gb (gr_go gw_r)))
  case baload => exact gr_ai (fun _ _ _ => gr_bb (gr_gb (gr_go gw_r)) (gr_gb (gr_go gw_r)))
  case laload => exact gr_ai (fun _ _ _ => gr_gb (gr_go gw_r))
  case aaload => exact gr_ai (fun _ _ _ => gr_gb (gr_go gw_r))
  case iastore => exact gr_aii (fun _ _ _ _ => gr_gb (gr_go ⟨Nat.le_refl _, Nat.le_refl _⟩))
  case bastore => exact gr_aii (fun _ _ _ _ => gr_bb (gr_gb (gr_go ⟨Nat.le_refl _, Nat.le_refl _⟩)) (gr_gb (gr_go ⟨Nat.le_refl _, Nat.le_refl _⟩)))
  case lastore => exact gr_ail (fun _ _ _ _ => gr_gb (gr_go ⟨Nat.le_refl _, Nat.le_refl _⟩))
  case aastore => exact gr_aia (fun _ _ _ _ => gr_gb (gr_oB (fun _ e => by cases e; exact gr_go ⟨Nat.le_refl _, Nat.le_refl _⟩)))
  case arraylength => exact gr_ua (fun _ _ => gr_bb (gr_go gw_r) (gr_gb (gr_go gw_r)))
  case new => exact gr_oX (fun _ => gr_oP (fun _ _ e => gr_go (gr_n1 e)))
  case newarray => exact gr_u1 (fun _ _ => gr_newA)
  case anewarray => exact gr_oX (fun _ => gr_u1 (fun _ _ => gr_newA))
  case invokevirtual => exact gr_oX (fun _ => gr_gb (gr_ua (fun _ _ => gr_gb (gr_ivk hK))))
  case invokestatic => exact gr_oX (fun _ => gr_gb (gr_ivk hK))
  case invokespecial => exact gr_bb (gr_ua (fun _ _ => gr_gb (gr_go gw_r))) (gr_oX (fun _ => gr_gb (gr_ua (fun _ _ => gr_gb (gr_ivk hK)))))
  case ireturn => exact fun C r Mf e => Or.inl (by rw [ret1_mem e]; exact gw_r)
  case lreturn => exact fun C r Mf e => Or.inl (by
    have e : ((match (generalizing := false) st with | [.long v] => (match (generalizing := false) me.2.2.2.2.1 with | 6 => some (.long v, M) | _ => none) | _ => none) : Rs M1) = some (r, Mf) := e
    repeat' split at e
    all_goals first | (cases e; exact gw_r) | cases e)
  case areturn => exact fun C r Mf e => Or.inl (by
    have e : ((match (generalizing := false) st with | [.ref v] => (match (generalizing := false) me.2.2.2.2.1 with | 7 => some (.ref v, M) | _ => none) | _ => none) : Rs M1) = some (r, Mf) := e
    repeat' split at e
    all_goals first | (cases e; exact gw_r) | cases e)
  case return_ => exact fun C r Mf e => Or.inl (by
    have e : ((match (generalizing := false) st with | [] => (match (generalizing := false) me.2.2.2.2.1 with | 0 => some (.null, M) | _ => none) | _ => none) : Rs M1) = some (r, Mf) := e
    repeat' split at e
    all_goals first | (cases e; exact gw_r) | cases e)
  all_goals first
    | exact gr_b2 (fun _ _ _ => gr_go gw_r)
    | exact gr_bl (fun _ _ _ => gr_go gw_r)
    | exact gr_li (fun _ _ _ => gr_go gw_r)
    | exact gr_u1 (fun _ _ => gr_go gw_r)
    | exact gr_ul (fun _ _ => gr_go gw_r)
    | exact gr_none
theorem gr_run (hK : ∀ me as M r M', K me as M = some (r, M') → Gw M M') : ∀ (n pc : Nat) (ls st : List Value) (M : M1) (r : Value) (Mf : M1), run O1 K me n pc ls st M = some (r, Mf) → Gw M Mf
  | 0, _, _, _, _, _, _, h => by cases h
  | n + 1, pc, ls, st, M, r, Mf, h => by
    have h : stp O1 K me (run O1 K me n) pc ls st M = some (r, Mf) := h
    unfold stp at h
    split at h
    · rcases gr_ins hK _ _ _ _ _ _ _ _ h with h | ⟨pc', ls', st', m', g, h⟩
      · exact h
      · have g2 := gr_run hK n _ _ _ _ _ _ h
        exact ⟨Nat.le_trans g.1 g2.1, Nat.le_trans g.2 g2.2⟩
    · cases h
theorem gr_cl : ∀ (d : Nat) (me : MD) (as : List Value) (M : M1) (r : Value) (M' : M1), cl O1 d me as M = some (r, M') → Gw M M'
  | 0, _, _, _, _, _, h => by cases h
  | d + 1, me, as, M, r, M', h => by
    obtain ⟨n, hn⟩ := lim_some.mp (gb_some (show gb (aOk me.2.2.2.1 as) (lim O1 (cl O1 d) me 0 (ent me.2.2.2.1 as) [] M) = some (r, M') from h)).2
    exact gr_run (gr_cl d) n _ _ _ _ _ _ hn
end Grow
theorem cv_long {G : Wd} {v : Value} {x : Int64} (h : cv G v = .long x) : v = .long x := by
  cases v with
  | ref n => exact absurd h (by show va_rf _ ≠ _; cases adr G n <;> simp [va_rf])
  | long y => exact h
  | _ => cases h
/-- the locals at a method's entry -/
theorem ent_LH {G : Wd} {n : Nat} {as : List Value} (hok : ∀ v ∈ as, (∃ x, v = .int x) ∨ (∃ x, v = .ref x) ∨ ∃ x, v = .long x) (hn : (entA as).length ≤ n) : LH G ((lg_sl (as.map (cv G)) ++ List.replicate (n - (lg_sl (as.map (cv G))).length) Slot.unset).toArray) n (ent n as) := by
  have hlen : ∀ as : List Value, (∀ v ∈ as, (∃ x, v = .int x) ∨ (∃ x, v = .ref x) ∨ ∃ x, v = .long x) → (lg_sl (as.map (cv G))).length = (entA as).length ∧ ∀ i v, (entA as)[i]? = some v → okL (entA as) i v → (lg_sl (as.map (cv G)))[i]? = some (.val (cv G v)) := by
    intro as
    induction as with
    | nil => intro _; exact ⟨rfl, fun i v h => by simp [entA] at h⟩
    | cons a as ih =>
      intro hok
      have ih := ih (fun v hv => hok v (List.mem_cons_of_mem _ hv))
      rcases hok a List.mem_cons_self with ⟨x, rfl⟩ | ⟨x, rfl⟩ | ⟨x, rfl⟩
      · have e1 : lg_sl ((Value.int x :: as).map (cv G)) = Slot.val (.int x) :: lg_sl (as.map (cv G)) := rfl
        refine ⟨by rw [e1]; simp [entA, ih.1], fun i v h ho => ?_⟩
        rw [e1]
        cases i with
        | zero => simp [entA] at h; subst h; rfl
        | succ i => exact ih.2 i v h (by cases v <;> first | exact ho | exact trivial)
      · have e1 : lg_sl ((Value.ref x :: as).map (cv G)) = Slot.val (va_rf (adr G x)) :: lg_sl (as.map (cv G)) := by
          show lg_sl (va_rf (adr G x) :: as.map (cv G)) = _
          cases adr G x <;> rfl
        refine ⟨by rw [e1]; simp [entA, ih.1], fun i v h ho => ?_⟩
        rw [e1]
        cases i with
        | zero => simp [entA] at h; subst h; rfl
        | succ i => exact ih.2 i v h (by cases v <;> first | exact ho | exact trivial)
      · have e1 : lg_sl ((Value.long x :: as).map (cv G)) = Slot.val (.long x) :: Slot.second :: lg_sl (as.map (cv G)) := rfl
        refine ⟨by rw [e1]; simp [entA, ih.1], fun i v h ho => ?_⟩
        rw [e1]
        match i with
        | 0 => simp [entA] at h; subst h; rfl
        | 1 => simp [entA] at h; subst h; exact absurd ho (by simp [okL, mk2])
        | i + 2 => exact ih.2 i v h (by cases v <;> first | exact ho | exact trivial)
  obtain ⟨h1, h2⟩ := hlen as hok
  have hh := lv_entry (as.map (cv G)) (n := n) (by rw [h1]; exact hn)
  refine ⟨hh.1, ?_, hh.2.1, fun i v hi ho => ?_⟩
  · unfold ent padL
    rw [List.length_append, List.length_replicate]
    omega
  · unfold ent padL at hi ho
    by_cases hlt : i < (entA as).length
    · rw [List.getElem?_append_left hlt] at hi
      have ho2 : okL (entA as) i v := by
        cases v with
        | long x =>
          have ho3 : (entA as ++ List.replicate (n - (entA as).length) uns)[i + 1]? = some mk2 := ho
          by_cases hl2 : i + 1 < (entA as).length
          · rw [List.getElem?_append_left hl2] at ho3; exact ho3
          · rw [List.getElem?_append_right (by omega), List.getElem?_replicate] at ho3
            split at ho3
            · exact absurd ho3 (by simp [uns, mk2])
            · cases ho3
        | _ => exact ho
      have := h2 i v hi ho2
      rw [← Array.getElem?_toList]
      show (lg_sl (as.map (cv G)) ++ _)[i]? = _
      rw [List.getElem?_append_left (by rw [h1]; exact hlt)]
      exact this
    · rw [List.getElem?_append_right (by omega), List.getElem?_replicate] at hi
      split at hi
      · cases hi; exact absurd ho (by simp [okL, uns])
      · cases hi
theorem aOk_spec {n : Nat} {as : List Value} (h : aOk n as = true) : (∀ v ∈ as, (∃ x, v = .int x) ∨ (∃ x, v = .ref x) ∨ ∃ x, v = .long x) ∧ (entA as).length ≤ n := by
  unfold aOk at h
  rw [Bool.and_eq_true] at h
  refine ⟨fun v hv => ?_, Nat.le_of_ble_eq_true h.2⟩
  have := List.all_eq_true.mp h.1 v hv
  cases v <;> first | exact Or.inl ⟨_, rfl⟩ | exact Or.inr (Or.inl ⟨_, rfl⟩) | exact Or.inr (Or.inr ⟨_, rfl⟩) | cases this
theorem ret_ty {me : MD} {k : Nat} (h : (match rty me with
  | none => Nat.beq me.2.2.2.2.1 0
  | some .int => Nat.beq me.2.2.2.2.1 1
  | some .boolean => Nat.beq me.2.2.2.2.1 2
  | some .byte => Nat.beq me.2.2.2.2.1 3
  | some .char => Nat.beq me.2.2.2.2.1 4
  | some .long => Nat.beq me.2.2.2.2.1 6
  | some (.object _) => Nat.beq me.2.2.2.2.1 7
  | _ => false) = true) (hk : me.2.2.2.2.1 = k) : (k = 0 → rty me = none) ∧ (k = 1 → rty me = some .int) ∧ (k = 2 → rty me = some .boolean) ∧ (k = 3 → rty me = some .byte) ∧ (k = 4 → rty me = some .char) ∧ (k = 6 → rty me = some .long) ∧ (k = 7 → ∃ n, rty me = some (.object n)) := by
  rw [hk] at h
  cases hr : rty me with
  | none => rw [hr] at h; have := Nat.eq_of_beq_eq_true h; subst this; simp
  | some t =>
    rw [hr] at h
    cases t <;> first | (dsimp only at h; have := Nat.eq_of_beq_eq_true h; subst this; simp; done) | cases h
theorem inv_aret {μ : Type} {st : List Value} {m m' : μ} {r : Value} {k : Nat} (h : (match st with | [.ref v] => (match k with | 7 => some (.ref v, m) | _ => none) | _ => none : Rs μ) = some (r, m')) : ∃ v, st = [.ref v] ∧ k = 7 ∧ r = .ref v := by
  split at h
  · split at h
    · cases h; exact ⟨_, rfl, rfl, rfl⟩
    · cases h
  · cases h
theorem inv_lret {μ : Type} {st : List Value} {m m' : μ} {r : Value} {k : Nat} (h : (match st with | [.long v] => (match k with | 6 => some (.long v, m) | _ => none) | _ => none : Rs μ) = some (r, m')) : ∃ v, st = [.long v] ∧ k = 6 ∧ r = .long v := by
  split at h
  · split at h
    · cases h; exact ⟨_, rfl, rfl, rfl⟩
    · cases h
  · cases h
theorem inv_vret {μ : Type} {st : List Value} {m m' : μ} {r : Value} {k : Nat} (h : (match st with | [] => (match k with | 0 => some (.null, m) | _ => none) | _ => none : Rs μ) = some (r, m')) : st = [] ∧ k = 0 ∧ r = .null := by
  split at h
  · split at h
    · cases h; exact ⟨rfl, rfl, rfl⟩
    · cases h
  · cases h
theorem inv_iret {μ : Type} {me : MD} {st : List Value} {m m' : μ} {r : Value} (h : ret1 me st m = some (r, m')) : ∃ v, st = [.int v] ∧ r = .int v ∧ ((me.2.2.2.2.1 = 1) ∨ (me.2.2.2.2.1 = 2 ∧ v &&& 1 = v) ∨ (me.2.2.2.2.1 = 3 ∧ v.toInt8.toInt32 = v) ∨ (me.2.2.2.2.1 = 4 ∧ v.toUInt32.toUInt16.toUInt32.toInt32 = v)) := by
  unfold ret1 at h
  split at h
  · generalize hk : me.2.2.2.2.1 = k at h
    split at h
    · cases h; exact ⟨_, rfl, rfl, Or.inl rfl⟩
    · obtain ⟨hb, h⟩ := gb_some h; cases h; exact ⟨_, rfl, rfl, Or.inr (Or.inl ⟨rfl, of_decide_eq_true hb⟩)⟩
    · obtain ⟨hb, h⟩ := gb_some h; cases h; exact ⟨_, rfl, rfl, Or.inr (Or.inr (Or.inl ⟨rfl, of_decide_eq_true hb⟩))⟩
    · obtain ⟨hb, h⟩ := gb_some h; cases h; exact ⟨_, rfl, rfl, Or.inr (Or.inr (Or.inr ⟨rfl, of_decide_eq_true hb⟩))⟩
    · cases h
  · cases h
set_option maxHeartbeats 4000000 in
/-- every method, at every depth, meets what the interpreter answers -/
theorem all_met (l : Launch) (G : Wd) : ∀ d, AllMet l G d
  | 0 => fun me _ _ as M r M' h => by cases h
  | d + 1 => by
    intro me hm h0 as M r M' h
    have hg := gr_cl _ _ _ _ _ _ h
    obtain ⟨haok, hlim⟩ := gb_some (show gb (aOk me.2.2.2.1 as) (lim O1 (cl O1 d) me 0 (ent me.2.2.2.1 as) [] M) = some (r, M') from h)
    obtain ⟨n, hn⟩ := lim_some.mp hlim
    obtain ⟨hao1, hao2⟩ := aOk_spec haok
    obtain ⟨c1, c2, c3, c4, c5, c6, c7, c8⟩ := ckM_spec hm h0
    have ih := all_met l G d
    refine ⟨hg.1, hg.2, ?_⟩
    refine va_MetF (cc := byt me) (maxL := me.2.2.2.1) (ret := rty me) c2 rfl ?_
    intro p e s m args below meth c s₁ B hml hv
    obtain ⟨rfl, hR, hK, hE⟩ := hv
    have hts := atoms_spec (ws := wsM me) B.pre
    have hown : s.vm.findClass (ownN me.2.1) = some m.cls := by rw [c3]; exact findClass_of_methodNamed B.named
    have hlocks := B.notSynchronized
    have hr := B.returns
    have X : Ctx p (headSpec (wsM me) (rmM (d + 1) M M')).room s m (as.map (cv G)).toArray meth c G me d :=
      ⟨B.exec, B.bytes, hml, hown, fun w hw => hts w (List.mem_cons_of_mem _ hw), hK, hE, fun hi => by rw [(name_of_methodNamed B.named B.method).1]; exact c5 hi, Nat.le_refl _, Nat.le_refl _, dk_all me hm, by rw [hR.1]; omega⟩
    have hret : ∀ (pc : Nat) (ls st : List Value) (i : Jvm.ClassFile.Instr), decode (byt me) pc = .ok (i, 1) → isRet i = true → (∀ C : Cont M1, ins O1 (cl O1 d) C me pc (pc + 1) ls st M' i = some (r, M')) → WW p l e (headSpec (wsM me) (rmM (d + 1) M M')).room s m (as.map (cv G)).toArray below meth c G me (MQ below (Kq G r M') (as.map (cv G)).toArray s (M'.1 - M.1) (M'.2.1 - M.2.1) (AA G)) M.1 M.2.1 pc ls st M' := by
      intro pc ls st i hd hi hC H locs sl hL hR' hS
      have h1 := hC (fun _ _ _ _ => none)
      have hpost : ∀ t : State, t.heap = H → RepH G M' t.heap ∧ va_F (AA G) s t := fun t ht => ⟨by rw [ht]; exact hR', hS.F ht⟩
      cases i <;> first | cases hi; done | skip
      case areturn =>
        obtain ⟨v, rfl, hcode, rfl⟩ := inv_aret (st := st) (m := M') (k := me.2.2.2.2.1) h1
        obtain ⟨nm, hty⟩ := (ret_ty c8 hcode).2.2.2.2.2.2 rfl
        refine W.aret (v := va_rf (adr G v)) B.exec B.bytes (hr.trans hty) (Or.inl ⟨nm, rfl⟩) (by cases adr G v with | none => exact Or.inl rfl | some a => exact Or.inr ⟨a, rfl⟩) (fun t ht hW => ⟨?_, hpost t ht⟩) hS.2.2 hd
        rfl
      case ireturn =>
        obtain ⟨v, rfl, rfl, hcode⟩ := inv_iret (me := me) (st := st) (m := M') h1
        rcases hcode with hcode | ⟨hcode, hb⟩ | ⟨hcode, hb⟩ | ⟨hcode, hb⟩
        · exact W.iret B.exec B.bytes (hr.trans ((ret_ty c8 hcode).2.1 rfl)) (fun t ht hW => ⟨rfl, hpost t ht⟩) hS.2.2 hd
        · exact W.zret B.exec B.bytes (hr.trans ((ret_ty c8 hcode).2.2.1 rfl)) (by show Value.int (v &&& 1) = .int v; rw [hb]) (fun t ht hW => ⟨rfl, hpost t ht⟩) hS.2.2 hd
        · exact W.zret B.exec B.bytes (hr.trans ((ret_ty c8 hcode).2.2.2.1 rfl)) (by show Value.int v.toInt8.toInt32 = .int v; rw [hb]) (fun t ht hW => ⟨rfl, hpost t ht⟩) hS.2.2 hd
        · exact W.zret B.exec B.bytes (hr.trans ((ret_ty c8 hcode).2.2.2.2.1 rfl)) (by show Value.int v.toUInt32.toUInt16.toUInt32.toInt32 = .int v; rw [hb]) (fun t ht hW => ⟨rfl, hpost t ht⟩) hS.2.2 hd
      case lreturn =>
        obtain ⟨v, rfl, hcode, rfl⟩ := inv_lret (st := st) (m := M') (k := me.2.2.2.2.1) h1
        exact W.lret B.exec B.bytes (hr.trans ((ret_ty c8 hcode).2.2.2.2.2.1 rfl)) (fun t ht hW => ⟨rfl, hpost t ht⟩) hS.2.2 hd
      case return_ =>
        obtain ⟨rfl, hcode, rfl⟩ := inv_vret (st := st) (m := M') (k := me.2.2.2.2.1) h1
        exact W.vret B.exec B.bytes (hr.trans ((ret_ty c8 hcode).1 rfl)) (fun t ht hW => ⟨rfl, hpost t ht⟩) hS.2.2 hd
    have hW := (snd_run (n0 := M.1) (w0 := M.2.1) X hm ih (Nat.le_refl _) (Nat.le_refl _) hret n _ _ _ _ (Nat.le_refl _) (Nat.le_refl _) hn).2
    have := hW s.heap [] _ (ent_LH (G := G) hao1 hao2) hR va_S.rf
    rw [Nat.sub_self, Nat.sub_self] at this
    rw [lg_entry_eq]
    exact this
end
section
/-! SIMULATION: a run over one memory is one over another one into which it goes. -/
def Hom {μ ν : Type} (O : Ops μ) (O' : Ops ν) (f : μ → ν) : Prop :=
  (∀ m a, (oS O m a).1 ≠ 0 → oS O' (f m) a = oS O m a) ∧
  (∀ m a k, (oS O m a).1 ≠ 0 → oI O' (f m) a k = oI O m a k) ∧
  (∀ m a k, (oS O m a).1 ≠ 0 → oL O' (f m) a k = oL O m a k) ∧
  (∀ m a k, (oS O m a).1 ≠ 0 → oR O' (f m) a k = oR O m a k) ∧
  (∀ m a k v, (oS O m a).1 ≠ 0 → pI O' (f m) a k v = f (pI O m a k v)) ∧
  (∀ m a k v, (oS O m a).1 ≠ 0 → pL O' (f m) a k v = f (pL O m a k v)) ∧
  (∀ m a k v m', (oS O m a).1 ≠ 0 → pR O m a k v = some m' → pR O' (f m) a k v = some (f m')) ∧
  (∀ m sh w a m', oN O m sh w = some (a, m') → oN O' (f m) sh w = some (a, f m')) ∧
  (∀ m a, (oS O m a).1 = 1 → oI O' (f m) 0 0 = oI O m 0 0)
section Sim
variable {μ ν : Type} {O : Ops μ} {O' : Ops ν} {f : μ → ν} {K : MD → List Value → μ → Rs μ} {K' : MD → List Value → ν → Rs ν} {me : MD}
theorem f_ldI {μ : Type} {ls : List Value} {k : Nat} {x : Int32} {g : Int32 → Rs μ} (h : ls[k]? = some (.int x)) : ldI ls k g = g x := by unfold ldI; rw [h]
theorem f_ldA {μ : Type} {ls : List Value} {k x : Nat} {g : Nat → Rs μ} (h : ls[k]? = some (.ref x)) : ldA ls k g = g x := by unfold ldA; rw [h]
theorem f_ldL {μ : Type} {ls : List Value} {k : Nat} {x : Int64} {g : Int64 → Rs μ} (h : ls[k]? = some (.long x)) (h2 : ls[k + 1]? = some mk2) : ldL ls k g = g x := by unfold ldL; rw [h]; dsimp only; rw [h2]; rfl
theorem f_gb {α : Type} {b : Bool} {x : Option α} (h : b = true) : gb b x = x := by rw [h]; rfl
theorem f_oX {α μ : Type} {q : Option α} {x : α} {g : α → Rs μ} (h : q = some x) : oX q g = g x := by rw [h]; rfl
theorem f_oB {μ : Type} {q : Option μ} {x : μ} {g : μ → Rs μ} (h : q = some x) : oB q g = g x := by rw [h]; rfl
theorem f_oP {μ : Type} {q : Option (Nat × μ)} {a : Nat} {x : μ} {g : Nat → μ → Rs μ} (h : q = some (a, x)) : oP q g = g a x := by rw [h]; rfl
theorem f_ua {μ : Type} {st rest : List Value} {b : Nat} {g : Nat → List Value → Rs μ} (h : st = .ref b :: rest) : ua st g = g b rest := by rw [h]; rfl
theorem isK_sim (H : Hom O O' f) {m : μ} {a k : Nat} (hk : k ≠ 0) (h : isK O m a k = true) : isK O' (f m) a k = true ∧ (oS O m a).1 = k := by
  have h1 : (oS O m a).1 = k := Nat.eq_of_beq_eq_true h
  refine ⟨?_, h1⟩
  unfold isK
  rw [H.1 m a (by rw [h1]; exact hk)]
  exact h
theorem isK_sim0 (H : Hom O O' f) {m : μ} {a k : Nat} (hz : (oS O m a).1 ≠ 0) : isK O' (f m) a k = isK O m a k := by
  unfold isK; rw [H.1 m a hz]
theorem at_sim (H : Hom O O' f) {m : μ} {a k : Nat} {i : Int32} (hk : k ≠ 0) (h : at_ O m a k i = true) : at_ O' (f m) a k i = true ∧ (oS O m a).1 = k := by
  have h0 := h
  unfold at_ at h
  rw [Bool.and_eq_true] at h
  have h1 : (oS O m a).1 = k := Nat.eq_of_beq_eq_true h.1
  refine ⟨?_, h1⟩
  unfold at_
  rw [H.1 m a (by rw [h1]; exact hk)]
  exact h0
theorem at_sim0 (H : Hom O O' f) {m : μ} {a k : Nat} {i : Int32} (hz : (oS O m a).1 ≠ 0) : at_ O' (f m) a k i = at_ O m a k i := by
  unfold at_; rw [H.1 m a hz]
theorem ivk_sim {C : Cont μ} {C' : Cont ν} (hC : ∀ pc ls st m r m', C pc ls st m = some (r, m') → C' pc ls st (f m) = some (r, f m')) (hK : ∀ me as m r m', K me as m = some (r, m') → K' me as (f m) = some (r, f m')) {q : MD} {nx : Nat} {ls as rest : List Value} {m m' : μ} {r : Value} (h : ivk K C q nx ls as rest m = some (r, m')) : ivk K' C' q nx ls as rest (f m) = some (r, f m') := by
  unfold ivk at h ⊢
  split at h
  · unfold bV at h
    split at h
    · rename_i m1 e1; rw [hK _ _ _ _ _ e1]; exact hC _ _ _ _ _ _ h
    · cases h
  · unfold bL at h
    split at h
    · rename_i r1 m1 e1; rw [hK _ _ _ _ _ e1]; exact hC _ _ _ _ _ _ h
    · cases h
  · unfold bR at h
    split at h
    · rename_i r1 m1 e1; rw [hK _ _ _ _ _ e1]; exact hC _ _ _ _ _ _ h
    · cases h
  · unfold bI at h
    split at h
    · rename_i r1 m1 e1; rw [hK _ _ _ _ _ e1]; exact hC _ _ _ _ _ _ h
    · cases h
theorem newA_sim (H : Hom O O' f) {C : Cont μ} {C' : Cont ν} (hC : ∀ pc ls st m r m', C pc ls st m = some (r, m') → C' pc ls st (f m) = some (r, f m')) {nx : Nat} {ls rest : List Value} {m m' : μ} {r : Value} {k : Nat} {n : Int32} (h : newA O C nx ls rest m k n = some (r, m')) : newA O' C' nx ls rest (f m) k n = some (r, f m') := by
  unfold newA at h ⊢
  obtain ⟨hb, h⟩ := gb_some h
  obtain ⟨a, m1, hn, h⟩ := inv_oP h
  rw [f_gb hb, f_oP (H.2.2.2.2.2.2.2.1 _ _ _ _ _ hn)]
  exact hC _ _ _ _ _ _ h
theorem getF_sim (H : Hom O O' f) {C : Cont μ} {C' : Cont ν} (hC : ∀ pc ls st m r m', C pc ls st m = some (r, m') → C' pc ls st (f m) = some (r, f m')) {nx : Nat} {ls rest : List Value} {m m' : μ} {r : Value} {a : Nat} {q : Nat × Nat × Nat × Bool × Nat} (hq : q.1 ≠ 0) (h : getF O C nx ls rest m a q = some (r, m')) : getF O' C' nx ls rest (f m) a q = some (r, f m') := by
  unfold getF at h ⊢
  obtain ⟨hb, h⟩ := gb_some h
  obtain ⟨g1, g2⟩ := isK_sim H hq hb
  have hz : (oS O m a).1 ≠ 0 := by rw [g2]; exact hq
  rw [f_gb g1, H.2.1 m a _ hz, H.2.2.1 m a _ hz, H.2.2.2.1 m a _ hz]
  split at h <;> exact hC _ _ _ _ _ _ h
theorem putF_sim (H : Hom O O' f) {C : Cont μ} {C' : Cont ν} (hC : ∀ pc ls st m r m', C pc ls st m = some (r, m') → C' pc ls st (f m) = some (r, f m')) {nx : Nat} {ls st : List Value} {m m' : μ} {r : Value} {q : Nat × Nat × Nat × Bool × Nat} (hq : q.1 ≠ 0) (h : putF O C me nx ls st m q = some (r, m')) : putF O' C' me nx ls st (f m) q = some (r, f m') := by
  unfold putF at h ⊢
  obtain ⟨hb, h⟩ := gb_some h
  rw [f_gb hb]
  split at h
  · obtain ⟨a, v, rest, rfl, h⟩ := inv_ia h
    obtain ⟨hk, h⟩ := gb_some h
    obtain ⟨g1, g2⟩ := isK_sim H hq hk
    show gb _ _ = _
    rw [f_gb g1, H.2.2.2.2.1 m a _ _ (by rw [g2]; exact hq)]
    exact hC _ _ _ _ _ _ h
  · obtain ⟨a, v, rest, rfl, h⟩ := inv_la h
    obtain ⟨hk, h⟩ := gb_some h
    obtain ⟨g1, g2⟩ := isK_sim H hq hk
    show gb _ _ = _
    rw [f_gb g1, H.2.2.2.2.2.1 m a _ _ (by rw [g2]; exact hq)]
    exact hC _ _ _ _ _ _ h
  · obtain ⟨a, v, rest, rfl, h⟩ := inv_ba h
    obtain ⟨hk, h⟩ := gb_some h
    obtain ⟨m1, hm1, h⟩ := inv_oB h
    obtain ⟨g1, g2⟩ := isK_sim H hq hk
    show gb _ _ = _
    rw [f_gb g1, f_oB (H.2.2.2.2.2.2.1 m a _ _ _ (by rw [g2]; exact hq) hm1)]
    exact hC _ _ _ _ _ _ h
  · obtain ⟨a, v, rest, rfl, h⟩ := inv_ia h
    obtain ⟨hk, h⟩ := gb_some h
    obtain ⟨hv, h⟩ := gb_some h
    obtain ⟨g1, g2⟩ := isK_sim H hq hk
    show gb _ _ = _
    rw [f_gb g1, f_gb hv, H.2.2.2.2.1 m a _ _ (by rw [g2]; exact hq)]
    exact hC _ _ _ _ _ _ h
  · cases h
theorem fres_ne {own n : Nat} {q : Nat × Nat × Nat × Bool × Nat} (h : fres own n = some q) : q.1 ≠ 0 := by
  by_cases h2 : q.1 = 2
  · omega
  · obtain ⟨r, -, h10, -⟩ := fres_spec h h2
    omega
theorem swt_sim {C : Cont μ} {C' : Cont ν} {r : Value} {m' : μ} {x : Int32} {g : Int → Rs μ} {g' : Int → Rs ν} {D : Rs μ} {D' : Rs ν} (hg : ∀ q, g q = some (r, m') → g' q = some (r, f m')) (hD : D = some (r, m') → D' = some (r, f m')) : ∀ (l : List Int) (k : Int), swt x g D k l = some (r, m') → swt x g' D' k l = some (r, f m')
  | [], _, h => hD h
  | q :: l, k, h => by
    have h : (if x = iI k then g q else swt x g D (k + 1) l) = some (r, m') := h
    show (if x = iI k then g' q else swt x g' D' (k + 1) l) = some (r, f m')
    by_cases hx : x = iI k
    · rw [if_pos hx] at h ⊢; exact hg q h
    · rw [if_neg hx] at h ⊢; exact swt_sim (C := C) (C' := C') hg hD l (k + 1) h
theorem swl_sim {C : Cont μ} {C' : Cont ν} {r : Value} {m' : μ} {x : Int32} {g : Int → Rs μ} {g' : Int → Rs ν} {D : Rs μ} {D' : Rs ν} (hg : ∀ q, g q = some (r, m') → g' q = some (r, f m')) (hD : D = some (r, m') → D' = some (r, f m')) : ∀ (l : List (Int × Int)), swl x g D l = some (r, m') → swl x g' D' l = some (r, f m')
  | [], h => hD h
  | (k, q) :: l, h => by
    have h : (if x = iI k then g q else swl x g D l) = some (r, m') := h
    show (if x = iI k then g' q else swl x g' D' l) = some (r, f m')
    by_cases hx : x = iI k
    · rw [if_pos hx] at h ⊢; exact hg q h
    · rw [if_neg hx] at h ⊢; exact swl_sim (C := C) (C' := C') hg hD l h
theorem ite_sim {P : Prop} [Decidable P] {r : Value} {m' : μ} {A B : Rs μ} {A' B' : Rs ν} (hA : A = some (r, m') → A' = some (r, f m')) (hB : B = some (r, m') → B' = some (r, f m')) (h : (if P then A else B) = some (r, m')) : (if P then A' else B') = some (r, f m') := by
  split at h
  · rename_i hp; rw [if_pos hp]; exact hA h
  · rename_i hp; rw [if_neg hp]; exact hB h
theorem br_sim {cd : Jvm.ClassFile.Cond} {x y : Int32} {r : Value} {m' : μ} {A B : Rs μ} {A' B' : Rs ν} (hA : A = some (r, m') → A' = some (r, f m')) (hB : B = some (r, m') → B' = some (r, f m')) (h : br cd x y A B = some (r, m')) : br cd x y A' B' = some (r, f m') := by
  cases cd
  · exact ite_sim hA hB h
  · exact ite_sim hB hA h
  · exact ite_sim hA hB h
  · exact ite_sim hB hA h
  · exact ite_sim hA hB h
  · exact ite_sim hB hA h
theorem bra_sim {cd : Jvm.ClassFile.ACond} {x y : Nat} {r : Value} {m' : μ} {A B : Rs μ} {A' B' : Rs ν} (hA : A = some (r, m') → A' = some (r, f m')) (hB : B = some (r, m') → B' = some (r, f m')) (h : bra cd x y A B = some (r, m')) : bra cd x y A' B' = some (r, f m') := by
  cases cd
  · exact ite_sim hA hB h
  · exact ite_sim hB hA h
set_option maxHeartbeats 4000000 in
theorem ins_sim (H : Hom O O' f) (hK : ∀ me as m r m', K me as m = some (r, m') → K' me as (f m) = some (r, f m')) {C : Cont μ} {C' : Cont ν} (hC : ∀ pc ls st m r m', C pc ls st m = some (r, m') → C' pc ls st (f m) = some (r, f m')) (pc nx : Nat) (ls st : List Value) (m : μ) (i : Jvm.ClassFile.Instr) (r : Value) (m' : μ) (h : ins O K C me pc nx ls st m i = some (r, m')) : ins O' K' C' me pc nx ls st (f m) i = some (r, f m') := by
  cases i
  case iload_n kk =>
    obtain ⟨x, hx, h⟩ := inv_ldI h
    exact (f_ldI hx).trans (hC _ _ _ _ _ _ h)
  case iload kk =>
    obtain ⟨x, hx, h⟩ := inv_ldI h
    exact (f_ldI hx).trans (hC _ _ _ _ _ _ h)
  case aload_n kk =>
    obtain ⟨x, hx, h⟩ := inv_ldA h
    exact (f_ldA hx).trans (hC _ _ _ _ _ _ h)
  case aload kk =>
    obtain ⟨x, hx, h⟩ := inv_ldA h
    exact (f_ldA hx).trans (hC _ _ _ _ _ _ h)
  case lload_n kk =>
    obtain ⟨x, hx, hx2, h⟩ := inv_ldL h
    exact (f_ldL hx hx2).trans (hC _ _ _ _ _ _ h)
  case lload kk =>
    obtain ⟨x, hx, hx2, h⟩ := inv_ldL h
    exact (f_ldL hx hx2).trans (hC _ _ _ _ _ _ h)
  case istore_n kk =>
    obtain ⟨x, rest, eq0, hh⟩ := inv_u1 h
    clear h
    subst eq0
    have h := hh
    clear hh
    obtain ⟨hb, h⟩ := gb_some h
    exact (f_gb hb).trans (hC _ _ _ _ _ _ h)
  case istore kk =>
    obtain ⟨x, rest, eq0, hh⟩ := inv_u1 h
    clear h
    subst eq0
    have h := hh
    clear hh
    obtain ⟨hb, h⟩ := gb_some h
    exact (f_gb hb).trans (hC _ _ _ _ _ _ h)
  case astore_n kk =>
    obtain ⟨x, rest, eq0, hh⟩ := inv_ua h
    clear h
    subst eq0
    have h := hh
    clear hh
    obtain ⟨hb, h⟩ := gb_some h
    exact (f_gb hb).trans (hC _ _ _ _ _ _ h)
  case astore kk =>
    obtain ⟨x, rest, eq0, hh⟩ := inv_ua h
    clear h
    subst eq0
    have h := hh
    clear hh
    obtain ⟨hb, h⟩ := gb_some h
    exact (f_gb hb).trans (hC _ _ _ _ _ _ h)
  case lstore_n kk =>
    obtain ⟨x, rest, eq0, hh⟩ := inv_ul h
    clear h
    subst eq0
    have h := hh
    clear hh
    obtain ⟨hb, h⟩ := gb_some h
    exact (f_gb hb).trans (hC _ _ _ _ _ _ h)
  case lstore kk =>
    obtain ⟨x, rest, eq0, hh⟩ := inv_ul h
    clear h
    subst eq0
    have h := hh
    clear hh
    obtain ⟨hb, h⟩ := gb_some h
    exact (f_gb hb).trans (hC _ _ _ _ _ _ h)
  case iinc kk n =>
    obtain ⟨x, hx, h⟩ := inv_ldI h
    obtain ⟨hb, h⟩ := gb_some h
    exact (f_ldI hx).trans ((f_gb hb).trans (hC _ _ _ _ _ _ h))
  case iconst n =>
    exact hC _ _ _ _ _ _ h
  case bipush n =>
    exact hC _ _ _ _ _ _ h
  case sipush n =>
    exact hC _ _ _ _ _ _ h
  case lconst n =>
    exact hC _ _ _ _ _ _ h
  case ldc kk =>
    have h : oE (kint me.2.1 kk) (fun z => C nx ls (.int (iI z.1) :: st) m) (oX (kstr me.2.1 kk) fun a => C nx ls (.ref a.1 :: st) m) = some (r, m') := h
    show oE (kint me.2.1 kk) (fun z => C' nx ls (.int (iI z.1) :: st) (f m)) (oX (kstr me.2.1 kk) fun a => C' nx ls (.ref a.1 :: st) (f m)) = _
    cases hk : kint me.2.1 kk with
    | some z => rw [hk] at h; exact hC _ _ _ _ _ _ h
    | none =>
      rw [hk] at h
      obtain ⟨q, hq, h⟩ := inv_oX (show oX (kstr me.2.1 kk) (fun a => C nx ls (.ref a.1 :: st) m) = some (r, m') from h)
      exact (f_oX hq).trans (hC _ _ _ _ _ _ h)
  case ldc_w kk =>
    obtain ⟨z, hz, h⟩ := inv_oX h
    exact (f_oX hz).trans (hC _ _ _ _ _ _ h)
  case ldc2_w kk =>
    obtain ⟨z, hz, h⟩ := inv_oX h
    exact (f_oX hz).trans (hC _ _ _ _ _ _ h)
  case idiv =>
    obtain ⟨x, y, rest, eq0, hh⟩ := inv_b2 h
    clear h
    subst eq0
    have h := hh
    clear hh
    obtain ⟨hb, h⟩ := gb_some h
    exact (f_gb hb).trans (hC _ _ _ _ _ _ h)
  case irem =>
    obtain ⟨x, y, rest, eq0, hh⟩ := inv_b2 h
    clear h
    subst eq0
    have h := hh
    clear hh
    obtain ⟨hb, h⟩ := gb_some h
    exact (f_gb hb).trans (hC _ _ _ _ _ _ h)
  case iadd =>
    obtain ⟨x, y, rest, eq0, hh⟩ := inv_b2 h
    clear h
    subst eq0
    have h := hh
    clear hh
    exact hC _ _ _ _ _ _ h
  case isub =>
    obtain ⟨x, y, rest, eq0, hh⟩ := inv_b2 h
    clear h
    subst eq0
    have h := hh
    clear hh
    exact hC _ _ _ _ _ _ h
  case imul =>
    obtain ⟨x, y, rest, eq0, hh⟩ := inv_b2 h
    clear h
    subst eq0
    have h := hh
    clear hh
    exact hC _ _ _ _ _ _ h
  case iand =>
    obtain ⟨x, y, rest, eq0, hh⟩ := inv_b2 h
    clear h
    subst eq0
    have h := hh
    clear hh
    exact hC _ _ _ _ _ _ h
  case ior =>
    obtain ⟨x, y, rest, eq0, hh⟩ := inv_b2 h
    clear h
    subst eq0
    have h := hh
    clear hh
    exact hC _ _ _ _ _ _ h
  case ixor =>
    obtain ⟨x, y, rest, eq0, hh⟩ := inv_b2 h
    clear h
    subst eq0
    have h := hh
    clear hh
    exact hC _ _ _ _ _ _ h
  case ishl =>
    obtain ⟨x, y, rest, eq0, hh⟩ := inv_b2 h
    clear h
    subst eq0
    have h := hh
    clear hh
    exact hC _ _ _ _ _ _ h
  case ishr =>
    obtain ⟨x, y, rest, eq0, hh⟩ := inv_b2 h
    clear h
    subst eq0
    have h := hh
    clear hh
    exact hC _ _ _ _ _ _ h
  case iushr =>
    obtain ⟨x, y, rest, eq0, hh⟩ := inv_b2 h
    clear h
    subst eq0
    have h := hh
    clear hh
    exact hC _ _ _ _ _ _ h
  case ladd =>
    obtain ⟨x, y, rest, eq0, hh⟩ := inv_bl h
    clear h
    subst eq0
    have h := hh
    clear hh
    exact hC _ _ _ _ _ _ h
  case lsub =>
    obtain ⟨x, y, rest, eq0, hh⟩ := inv_bl h
    clear h
    subst eq0
    have h := hh
    clear hh
    exact hC _ _ _ _ _ _ h
  case lmul =>
    obtain ⟨x, y, rest, eq0, hh⟩ := inv_bl h
    clear h
    subst eq0
    have h := hh
    clear hh
    exact hC _ _ _ _ _ _ h
  case land =>
    obtain ⟨x, y, rest, eq0, hh⟩ := inv_bl h
    clear h
    subst eq0
    have h := hh
    clear hh
    exact hC _ _ _ _ _ _ h
  case lor =>
    obtain ⟨x, y, rest, eq0, hh⟩ := inv_bl h
    clear h
    subst eq0
    have h := hh
    clear hh
    exact hC _ _ _ _ _ _ h
  case lcmp =>
    obtain ⟨x, y, rest, eq0, hh⟩ := inv_bl h
    clear h
    subst eq0
    have h := hh
    clear hh
    exact hC _ _ _ _ _ _ h
  case lshl =>
    obtain ⟨x, y, rest, eq0, hh⟩ := inv_li h
    clear h
    subst eq0
    have h := hh
    clear hh
    exact hC _ _ _ _ _ _ h
  case lshr =>
    obtain ⟨x, y, rest, eq0, hh⟩ := inv_li h
    clear h
    subst eq0
    have h := hh
    clear hh
    exact hC _ _ _ _ _ _ h
  case ineg =>
    obtain ⟨x, rest, eq0, hh⟩ := inv_u1 h
    clear h
    subst eq0
    have h := hh
    clear hh
    exact hC _ _ _ _ _ _ h
  case i2l =>
    obtain ⟨x, rest, eq0, hh⟩ := inv_u1 h
    clear h
    subst eq0
    have h := hh
    clear hh
    exact hC _ _ _ _ _ _ h
  case i2b =>
    obtain ⟨x, rest, eq0, hh⟩ := inv_u1 h
    clear h
    subst eq0
    have h := hh
    clear hh
    exact hC _ _ _ _ _ _ h
  case i2s =>
    obtain ⟨x, rest, eq0, hh⟩ := inv_u1 h
    clear h
    subst eq0
    have h := hh
    clear hh
    exact hC _ _ _ _ _ _ h
  case i2c =>
    obtain ⟨x, rest, eq0, hh⟩ := inv_u1 h
    clear h
    subst eq0
    have h := hh
    clear hh
    exact hC _ _ _ _ _ _ h
  case l2i =>
    obtain ⟨x, rest, eq0, hh⟩ := inv_ul h
    clear h
    subst eq0
    have h := hh
    clear hh
    exact hC _ _ _ _ _ _ h
  case dup =>
    obtain ⟨v, rest, eq0, hv, hh⟩ := inv_v1 h
    clear h
    subst eq0
    have h := hh
    clear hh
    exact (f_gb hv).trans (hC _ _ _ _ _ _ h)
  case pop =>
    obtain ⟨v, rest, eq0, hv, hh⟩ := inv_v1 h
    clear h
    subst eq0
    have h := hh
    clear hh
    exact (f_gb hv).trans (hC _ _ _ _ _ _ h)
  case dup_x1 =>
    obtain ⟨v, u, rest, eq0, hv, hu, hh⟩ := inv_v2 h
    clear h
    subst eq0
    have h := hh
    clear hh
    exact (f_gb (by rw [hv, hu]; rfl)).trans (hC _ _ _ _ _ _ h)
  case dup2 =>
    obtain ⟨v, u, rest, eq0, hv, hu, hh⟩ := inv_v2 h
    clear h
    subst eq0
    have h := hh
    clear hh
    exact (f_gb (by rw [hv, hu]; rfl)).trans (hC _ _ _ _ _ _ h)
  case goto off =>
    exact hC _ _ _ _ _ _ h
  case ifCond cd off =>
    obtain ⟨x, rest, eq0, hh⟩ := inv_u1 h
    clear h
    subst eq0
    have h := hh
    clear hh
    exact br_sim (hC _ _ _ _ _ _) (hC _ _ _ _ _ _) h
  case if_icmp cd off =>
    obtain ⟨x, y, rest, eq0, hh⟩ := inv_b2 h
    clear h
    subst eq0
    have h := hh
    clear hh
    exact br_sim (hC _ _ _ _ _ _) (hC _ _ _ _ _ _) h
  case if_acmp cd off =>
    obtain ⟨x, y, rest, eq0, hh⟩ := inv_ba h
    clear h
    subst eq0
    have h := hh
    clear hh
    obtain ⟨hb, h⟩ := gb_some h
    exact (f_gb hb).trans (bra_sim (hC _ _ _ _ _ _) (hC _ _ _ _ _ _) h)
  case ifnull off =>
    obtain ⟨x, rest, eq0, hh⟩ := inv_ua h
    clear h
    subst eq0
    have h := hh
    clear hh
    obtain ⟨hb, h⟩ := gb_some h
    exact (f_gb hb).trans (ite_sim (hC _ _ _ _ _ _) (hC _ _ _ _ _ _) h)
  case ifnonnull off =>
    obtain ⟨x, rest, eq0, hh⟩ := inv_ua h
    clear h
    subst eq0
    have h := hh
    clear hh
    obtain ⟨hb, h⟩ := gb_some h
    exact (f_gb hb).trans (ite_sim (hC _ _ _ _ _ _) (hC _ _ _ _ _ _) h)
  case tableswitch df lo hi offs =>
    obtain ⟨x, rest, eq0, hh⟩ := inv_u1 h
    clear h
    subst eq0
    have h := hh
    clear hh
    exact swt_sim (C := C) (C' := C') (fun _ => hC _ _ _ _ _ _) (hC _ _ _ _ _ _) _ _ h
  case lookupswitch df ps =>
    obtain ⟨x, rest, eq0, hh⟩ := inv_u1 h
    clear h
    subst eq0
    have h := hh
    clear hh
    exact swl_sim (C := C) (C' := C') (fun _ => hC _ _ _ _ _ _) (hC _ _ _ _ _ _) _ h
  case getfield n =>
    obtain ⟨q, hq, h⟩ := inv_oX h
    obtain ⟨a, rest, eq0, hh⟩ := inv_ua h
    clear h
    subst eq0
    have h := hh
    clear hh
    exact (f_oX hq).trans (getF_sim H hC (fres_ne hq) h)
  case putfield n =>
    obtain ⟨q, hq, h⟩ := inv_oX h
    exact (f_oX hq).trans (putF_sim H hC (fres_ne hq) h)
  case getstatic n =>
    obtain ⟨q, hq, h⟩ := inv_oX h
    refine (f_oX hq).trans ?_
    cases hb : Nat.beq q.1 1 with
    | true => rw [hb] at h; exact hC _ _ _ _ _ _ h
    | false => rw [hb] at h; exact hC _ _ _ _ _ _ h
  case iaload =>
    obtain ⟨a, i, rest, eq0, hh⟩ := inv_ai h
    clear h
    subst eq0
    have h := hh
    clear hh
    show bb (isK O' (f m) a 1) _ _ = _
    cases hb : isK O m a 1 with
    | true =>
      rw [hb] at h
      obtain ⟨hi, h⟩ := gb_some h
      obtain ⟨g1, g2⟩ := isK_sim H (by decide) hb
      rw [g1]
      show gb _ _ = _
      rw [H.2.2.2.2.2.2.2.2 m a g2, f_gb hi, H.2.1 m a _ (by rw [g2]; decide)]
      exact hC _ _ _ _ _ _ h
    | false =>
      rw [hb] at h
      obtain ⟨hi, h⟩ := gb_some h
      obtain ⟨g1, g2⟩ := at_sim H (by decide) hi
      have hz : (oS O m a).1 ≠ 0 := by rw [g2]; decide
      rw [isK_sim0 H hz, hb]
      show gb _ _ = _
      rw [f_gb g1, H.2.1 m a _ hz]
      exact hC _ _ _ _ _ _ h
  case baload =>
    obtain ⟨a, i, rest, eq0, hh⟩ := inv_ai h
    clear h
    subst eq0
    have h := hh
    clear hh
    show bb (isK O' (f m) a 3) _ _ = _
    cases hb : isK O m a 3 with
    | true =>
      rw [hb] at h
      obtain ⟨hi, h⟩ := gb_some h
      obtain ⟨g1, g2⟩ := isK_sim H (by decide) hb
      rw [g1]
      show gb _ _ = _
      rw [H.1 m a (by rw [g2]; decide), f_gb hi]
      exact hC _ _ _ _ _ _ h
    | false =>
      rw [hb] at h
      obtain ⟨hi, h⟩ := gb_some h
      have hz : (oS O m a).1 ≠ 0 := by
        rcases Bool.or_eq_true_iff.mp hi with q | q
        · rw [(at_sim H (by decide) q).2]; decide
        · rw [(at_sim H (by decide) q).2]; decide
      rw [isK_sim0 H hz, hb]
      show gb _ _ = _
      rw [at_sim0 H hz, at_sim0 H hz, f_gb hi, H.2.1 m a _ hz]
      exact hC _ _ _ _ _ _ h
  case laload =>
    obtain ⟨a, i, rest, eq0, hh⟩ := inv_ai h
    clear h
    subst eq0
    have h := hh
    clear hh
    obtain ⟨hi, h⟩ := gb_some h
    obtain ⟨g1, g2⟩ := at_sim H (by decide) hi
    show gb _ _ = _
    rw [f_gb g1, H.2.2.1 m a _ (by rw [g2]; decide)]
    exact hC _ _ _ _ _ _ h
  case aaload =>
    obtain ⟨a, i, rest, eq0, hh⟩ := inv_ai h
    clear h
    subst eq0
    have h := hh
    clear hh
    obtain ⟨hi, h⟩ := gb_some h
    have hz : (oS O m a).1 ≠ 0 := by
      rcases or3 hi with q | q | q
      · rw [(at_sim H (by decide) q).2]; decide
      · rw [(at_sim H (by decide) q).2]; decide
      · rw [(at_sim H (by decide) q).2]; decide
    show gb _ _ = _
    rw [at_sim0 H hz, at_sim0 H hz, at_sim0 H hz, f_gb hi, H.2.2.2.1 m a _ hz]
    exact hC _ _ _ _ _ _ h
  case iastore =>
    obtain ⟨a, i, v, rest, eq0, hh⟩ := inv_aii h
    clear h
    subst eq0
    have h := hh
    clear hh
    obtain ⟨hi, h⟩ := gb_some h
    obtain ⟨g1, g2⟩ := at_sim H (by decide) hi
    show gb _ _ = _
    rw [f_gb g1, H.2.2.2.2.1 m a _ _ (by rw [g2]; decide)]
    exact hC _ _ _ _ _ _ h
  case bastore =>
    obtain ⟨a, i, v, rest, eq0, hh⟩ := inv_aii h
    clear h
    subst eq0
    have h := hh
    clear hh
    show bb (isK O' (f m) a 41) _ _ = _
    cases hb : isK O m a 41 with
    | true =>
      rw [hb] at h
      obtain ⟨hi, h⟩ := gb_some h
      obtain ⟨g1, g2⟩ := at_sim H (by decide) hi
      have hz : (oS O m a).1 ≠ 0 := by rw [g2]; decide
      rw [isK_sim0 H hz, hb]
      show gb _ _ = _
      rw [f_gb g1, H.2.2.2.2.1 m a _ _ hz]
      exact hC _ _ _ _ _ _ h
    | false =>
      rw [hb] at h
      obtain ⟨hi, h⟩ := gb_some h
      obtain ⟨g1, g2⟩ := at_sim H (by decide) hi
      have hz : (oS O m a).1 ≠ 0 := by rw [g2]; decide
      rw [isK_sim0 H hz, hb]
      show gb _ _ = _
      rw [f_gb g1, H.2.2.2.2.1 m a _ _ hz]
      exact hC _ _ _ _ _ _ h
  case lastore =>
    obtain ⟨a, i, v, rest, eq0, hh⟩ := inv_ail h
    clear h
    subst eq0
    have h := hh
    clear hh
    obtain ⟨hi, h⟩ := gb_some h
    obtain ⟨g1, g2⟩ := at_sim H (by decide) hi
    show gb _ _ = _
    rw [f_gb g1, H.2.2.2.2.2.1 m a _ _ (by rw [g2]; decide)]
    exact hC _ _ _ _ _ _ h
  case aastore =>
    obtain ⟨a, i, v, rest, eq0, hh⟩ := inv_aia h
    clear h
    subst eq0
    have h := hh
    clear hh
    obtain ⟨hi, h⟩ := gb_some h
    rw [Bool.and_eq_true] at hi
    obtain ⟨m1, hm1, h⟩ := inv_oB h
    have hz : (oS O m a).1 ≠ 0 := by
      rcases or3 hi.1 with q | q | q
      · rw [(at_sim H (by decide) q).2]; decide
      · rw [(at_sim H (by decide) q).2]; decide
      · rw [(at_sim H (by decide) q).2]; decide
    have hk0 : nslots (oS O m a).1 ≠ 0 := by
      rcases or3 hi.1 with q | q | q
      · rw [(at_sim H (by decide) q).2]; decide
      · rw [(at_sim H (by decide) q).2]; decide
      · rw [(at_sim H (by decide) q).2]; decide
    show gb _ _ = _
    rw [at_sim0 H hz, at_sim0 H hz, at_sim0 H hz, H.1 m a hz, f_gb (by rw [hi.1, (isK_sim H hk0 hi.2).1]; rfl), f_oB (H.2.2.2.2.2.2.1 m a _ _ _ hz hm1)]
    exact hC _ _ _ _ _ _ h
  case arraylength =>
    obtain ⟨a, rest, eq0, hh⟩ := inv_ua h
    clear h
    subst eq0
    have h := hh
    clear hh
    show bb (isK O' (f m) a 1) _ _ = _
    cases hb : isK O m a 1 with
    | true =>
      rw [hb] at h
      obtain ⟨g1, g2⟩ := isK_sim H (by decide) hb
      rw [g1, H.2.2.2.2.2.2.2.2 m a g2]
      exact hC _ _ _ _ _ _ h
    | false =>
      rw [hb] at h
      obtain ⟨hi, h⟩ := gb_some h
      have hz : (oS O m a).1 ≠ 0 := by
        have hi2 := hi
        simp only [Bool.or_eq_true] at hi2
        rcases hi2 with ((((((q | q) | q) | q) | q) | q) | q) | q <;> (rw [(isK_sim H (by decide) q).2]; decide)
      rw [isK_sim0 H hz, hb]
      show gb _ _ = _
      rw [isK_sim0 H hz, isK_sim0 H hz, isK_sim0 H hz, isK_sim0 H hz, isK_sim0 H hz, isK_sim0 H hz, isK_sim0 H hz, isK_sim0 H hz, f_gb hi, H.1 m a hz]
      exact hC _ _ _ _ _ _ h
  case new n =>
    obtain ⟨q, hq, h⟩ := inv_oX h
    obtain ⟨a, m1, hn, h⟩ := inv_oP h
    exact (f_oX hq).trans ((f_oP (H.2.2.2.2.2.2.2.1 _ _ _ _ _ hn)).trans (hC _ _ _ _ _ _ h))
  case newarray t =>
    obtain ⟨x, rest, eq0, hh⟩ := inv_u1 h
    clear h
    subst eq0
    have h := hh
    clear hh
    exact newA_sim H hC h
  case anewarray n =>
    obtain ⟨q, hq, h⟩ := inv_oX h
    obtain ⟨x, rest, eq0, hh⟩ := inv_u1 h
    clear h
    subst eq0
    have h := hh
    clear hh
    exact (f_oX hq).trans (newA_sim H hC h)
  case invokevirtual n =>
    obtain ⟨q, hq, h⟩ := inv_oX h
    obtain ⟨hcat, h⟩ := gb_some h
    obtain ⟨b, rest, hst, h⟩ := inv_ua h
    obtain ⟨hk, h⟩ := gb_some h
    rw [Bool.and_eq_true] at hk
    have hz : Nat.beq q.2.2 0 = false := by have := hk.2; rwa [Bool.not_eq_true'] at this
    have hne : q.2.2 ≠ 0 := fun e => by rw [e] at hz; exact absurd hz (by decide)
    exact (f_oX hq).trans ((f_gb hcat).trans ((f_ua hst).trans ((f_gb (by rw [(isK_sim H hne hk.1).1, hk.2]; rfl)).trans (ivk_sim hC hK h))))
  case invokestatic n =>
    obtain ⟨q, hq, h⟩ := inv_oX h
    obtain ⟨hcat, h⟩ := gb_some h
    exact (f_oX hq).trans ((f_gb hcat).trans (ivk_sim hC hK h))
  case invokespecial n =>
    have h : bb (oini me.2.1 n) (ua st fun a r => gb (Nat.ble (catS r) 8 && Nat.ble 100 a) (C nx ls r m)) (oX (mres me.2.1 n) fun q => gb (Nat.ble (catS (st.drop (q.2.1 + 1))) 8) (ua (st.drop q.2.1) fun b rest => gb (isK O m b q.2.2 && (!(Nat.beq q.2.2 0) && q.1.2.2.2.2.2)) (ivk K C q.1 nx ls (.ref b :: (st.take q.2.1).reverse) rest m))) = some (r, m') := h
    show bb (oini me.2.1 n) _ _ = _
    cases ho : oini me.2.1 n with
    | true =>
      rw [ho] at h
      obtain ⟨a, rest, eq0, hh⟩ := inv_ua (show ua st (fun a r => gb (Nat.ble (catS r) 8 && Nat.ble 100 a) (C nx ls r m)) = some (r, m') from h)
      clear h
      subst eq0
      have h := hh
      clear hh
      obtain ⟨hcat, h⟩ := gb_some h
      exact (f_gb hcat).trans (hC _ _ _ _ _ _ h)
    | false =>
      rw [ho] at h
      obtain ⟨q, hq, h⟩ := inv_oX (show oX (mres me.2.1 n) _ = some (r, m') from h)
      obtain ⟨hcat, h⟩ := gb_some h
      obtain ⟨b, rest, hst, h⟩ := inv_ua h
      obtain ⟨hk, h⟩ := gb_some h
      rw [Bool.and_eq_true] at hk
      have hz : Nat.beq q.2.2 0 = false := by have := hk.2; rw [Bool.and_eq_true] at this; rw [Bool.not_eq_true'] at this; exact this.1
      have hne : q.2.2 ≠ 0 := fun e => by rw [e] at hz; exact absurd hz (by decide)
      exact (f_oX hq).trans ((f_gb hcat).trans ((f_ua hst).trans ((f_gb (by rw [(isK_sim H hne hk.1).1, hk.2]; rfl)).trans (ivk_sim hC hK h))))
  case ireturn =>
    have h : ret1 me st m = some (r, m') := h
    show ret1 me st (f m) = some (r, f m')
    unfold ret1 at h ⊢
    repeat' split at h
    all_goals first | (cases h; rfl) | (obtain ⟨hb, h⟩ := gb_some h; rw [f_gb hb]; cases h; rfl) | cases h
  case lreturn =>
    have h : ((match (generalizing := false) st with | [.long v] => (match (generalizing := false) me.2.2.2.2.1 with | 6 => some (.long v, m) | _ => none) | _ => none) : Rs μ) = some (r, m') := h
    show ((match (generalizing := false) st with | [.long v] => (match (generalizing := false) me.2.2.2.2.1 with | 6 => some (.long v, (f m)) | _ => none) | _ => none) : Rs ν) = some (r, f m')
    repeat' split at h
    all_goals first | (cases h; rfl) | cases h
  case areturn =>
    have h : ((match (generalizing := false) st with | [.ref v] => (match (generalizing := false) me.2.2.2.2.1 with | 7 => some (.ref v, m) | _ => none) | _ => none) : Rs μ) = some (r, m') := h
    show ((match (generalizing := false) st with | [.ref v] => (match (generalizing := false) me.2.2.2.2.1 with | 7 => some (.ref v, (f m)) | _ => none) | _ => none) : Rs ν) = some (r, f m')
    repeat' split at h
    all_goals first | (cases h; rfl) | cases h
  case return_ =>
    have h : ((match (generalizing := false) st with | [] => (match (generalizing := false) me.2.2.2.2.1 with | 0 => some (.null, m) | _ => none) | _ => none) : Rs μ) = some (r, m') := h
    show ((match (generalizing := false) st with | [] => (match (generalizing := false) me.2.2.2.2.1 with | 0 => some (.null, (f m)) | _ => none) | _ => none) : Rs ν) = some (r, f m')
    repeat' split at h
    all_goals first | (cases h; rfl) | cases h
  all_goals exact absurd (show (none : Rs μ) = some (r, m') from h) (by simp)
theorem run_sim (H : Hom O O' f) (hK : ∀ me as m r m', K me as m = some (r, m') → K' me as (f m) = some (r, f m')) : ∀ (n pc : Nat) (ls st : List Value) (m : μ) (r : Value) (m' : μ), run O K me n pc ls st m = some (r, m') → run O' K' me n pc ls st (f m) = some (r, f m')
  | 0, _, _, _, _, _, _, h => by cases h
  | n + 1, pc, ls, st, m, r, m', h => by
    have h : stp O K me (run O K me n) pc ls st m = some (r, m') := h
    show stp O' K' me (run O' K' me n) pc ls st (f m) = some (r, f m')
    unfold stp at h ⊢
    split at h
    · exact ins_sim H hK (run_sim H hK n) _ _ _ _ _ _ _ _ h
    · cases h
end Sim
theorem cl_sim {μ ν : Type} {O : Ops μ} {O' : Ops ν} {f : μ → ν} (H : Hom O O' f) : ∀ (d : Nat) (me : MD) (as : List Value) (m : μ) (r : Value) (m' : μ), cl O d me as m = some (r, m') → cl O' d me as (f m) = some (r, f m')
  | 0, _, _, _, _, _, h => by cases h
  | d + 1, me, as, m, r, m', h => by
    obtain ⟨haok, hlim⟩ := gb_some (show gb (aOk me.2.2.2.1 as) (lim O (cl O d) me 0 (ent me.2.2.2.1 as) [] m) = some (r, m') from h)
    obtain ⟨n, hn⟩ := lim_some.mp hlim
    show gb (aOk me.2.2.2.1 as) (lim O' (cl O' d) me 0 (ent me.2.2.2.1 as) [] (f m)) = some (r, f m')
    rw [f_gb haok]
    exact lim_some.mpr ⟨n, run_sim H (cl_sim H d) n _ _ _ _ _ _ hn⟩
theorem XX_sim {μ ν : Type} {O : Ops μ} {O' : Ops ν} {f : μ → ν} (H : Hom O O' f) {d : Nat} {me : MD} {pc : Nat} {ls st : List Value} {m : μ} {r : Value} {m' : μ} (h : XX O d me pc ls st m = some (r, m')) : XX O' d me pc ls st (f m) = some (r, f m') := by
  obtain ⟨n, hn⟩ := lim_some.mp (show lim O (cl O d) me pc ls st m = some (r, m') from h)
  exact lim_some.mpr ⟨n, run_sim H (cl_sim H d) n _ _ _ _ _ _ hn⟩
/-- the memory once all is made, as the first one sees it -/
def emb (w : Nat) (m : Mem) : M1 := (116, w, m.1, m.2.1, fun a k => gR m a k)
theorem sh0_hi {a : Nat} (h : 216 ≤ a) : sh0 a = (0, 0) := by
  unfold sh0
  rw [show Nat.ble 100 a = true from Nat.ble_eq_true_of_le (by omega)]
  have hl : shT.length = 116 := by decide +kernel
  show shT.getD (a - 100) (0, 0) = _
  rw [List.getD_eq_getElem?_getD, List.getElem?_eq_none (by rw [hl]; omega)]
  rfl
theorem emb_hom (w : Nat) : Hom O2 O1 (emb w) := by
  have hS : ∀ m a, oS O1 (emb w m) a = oS O2 m a := by
    intro m a
    show bb (Nat.blt a (100 + 116)) (sh0 a) (0, 0) = sh0 a
    rcases Nat.lt_or_ge a 216 with h | h
    · rw [lt_blt (show a < 100 + 116 by omega)]; rfl
    · rw [sh0_hi h]; cases Nat.blt a (100 + 116) <;> rfl
  refine ⟨fun m a _ => hS m a, fun _ _ _ _ => rfl, fun _ _ _ _ => rfl, fun _ _ _ _ => rfl, fun _ _ _ _ _ => rfl, fun _ _ _ _ _ => rfl, fun m a k v m' _ h => ?_, fun m sh w a m' h => by cases h, fun _ _ _ => rfl⟩
  have h : wR2 m a k v = some m' := h
  unfold wR2 at h
  cases hb : Nat.beq (sR a k) 0 with
  | false => rw [hb] at h; cases h
  | true =>
    rw [hb] at h
    cases h
    show some (r1 (emb w m) a k v) = some (emb w (wR m a k v))
    congr 1
    show ((116, w, m.1, m.2.1, up2 (fun a k => gR m a k) a k v) : M1) = (116, w, m.1, m.2.1, fun a' k' => gR (wR m a k v) a' k')
    congr 4
    funext a' k'
    show up2 (fun a k => gR m a k) a k v a' k' = bb (Nat.beq (sR a' k') 0) (up2 m.2.2 a k v a' k') (sR a' k')
    unfold up2
    by_cases ha : a' = a
    · rw [if_pos ha, if_pos ha]
      by_cases hk : k' = k
      · rw [if_pos hk, if_pos hk, ha, hk, hb]; rfl
      · rw [if_neg hk, if_neg hk]; rfl
    · rw [if_neg ha, if_neg ha]; rfl
end
