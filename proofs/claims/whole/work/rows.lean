section
-- ===== PART A: goes FIRST, ahead of the names: the tables' words, and 'selects' of the private methods out of them =====
/-- a private method of a class that the tables say can be made, by its rows of tables_1 -/
def lw_okq (q : MethodName × Nat) : Prop := (q.1.cls ≠ "java/lang/invoke/MethodHandle" ∧ q.1.cls ≠ "java/lang/invoke/VarHandle") ∧ Cond.instantiable q.1.cls q.2 ∈ tables_1 ∧ Cond.privateMethod q.1 ∈ tables_1 ∧ Cond.instanceMethod q.1 ∈ tables_1
theorem lw_p0 : lw_okq (⟨"EveryHand$TownText", "step", "()V"⟩, 4) := ⟨⟨by decide +kernel, by decide +kernel⟩, List.mem_of_getElem? (i := 77) (by decide +kernel), List.mem_of_getElem? (i := 221) (by decide +kernel), List.mem_of_getElem? (i := 222) (by decide +kernel)⟩
theorem lw_p1 : lw_okq (⟨"EveryHand$TownText", "isLetter", "(I)Z"⟩, 4) := ⟨⟨by decide +kernel, by decide +kernel⟩, List.mem_of_getElem? (i := 77) (by decide +kernel), List.mem_of_getElem? (i := 228) (by decide +kernel), List.mem_of_getElem? (i := 229) (by decide +kernel)⟩
theorem lw_p2 : lw_okq (⟨"EveryHand$TownText", "isDigit", "(I)Z"⟩, 4) := ⟨⟨by decide +kernel, by decide +kernel⟩, List.mem_of_getElem? (i := 77) (by decide +kernel), List.mem_of_getElem? (i := 232) (by decide +kernel), List.mem_of_getElem? (i := 233) (by decide +kernel)⟩
theorem lw_p3 : lw_okq (⟨"EveryHand$TownText", "readStatement", "(LEveryHand$Town;)Z"⟩, 4) := ⟨⟨by decide +kernel, by decide +kernel⟩, List.mem_of_getElem? (i := 77) (by decide +kernel), List.mem_of_getElem? (i := 236) (by decide +kernel), List.mem_of_getElem? (i := 237) (by decide +kernel)⟩
theorem lw_p4 : lw_okq (⟨"EveryHand$TownText", "reads", "(Ljava/lang/String;)Z"⟩, 4) := ⟨⟨by decide +kernel, by decide +kernel⟩, List.mem_of_getElem? (i := 77) (by decide +kernel), List.mem_of_getElem? (i := 241) (by decide +kernel), List.mem_of_getElem? (i := 242) (by decide +kernel)⟩
theorem lw_p5 : lw_okq (⟨"EveryHand$TownText", "readPerson", "(LEveryHand$Town;)Z"⟩, 4) := ⟨⟨by decide +kernel, by decide +kernel⟩, List.mem_of_getElem? (i := 77) (by decide +kernel), List.mem_of_getElem? (i := 293) (by decide +kernel), List.mem_of_getElem? (i := 294) (by decide +kernel)⟩
theorem lw_p6 : lw_okq (⟨"EveryHand$TownText", "readNumber", "(II)I"⟩, 4) := ⟨⟨by decide +kernel, by decide +kernel⟩, List.mem_of_getElem? (i := 77) (by decide +kernel), List.mem_of_getElem? (i := 297) (by decide +kernel), List.mem_of_getElem? (i := 298) (by decide +kernel)⟩
theorem lw_p7 : lw_okq (⟨"EveryHand$TownText", "readEnd", "()Z"⟩, 4) := ⟨⟨by decide +kernel, by decide +kernel⟩, List.mem_of_getElem? (i := 77) (by decide +kernel), List.mem_of_getElem? (i := 305) (by decide +kernel), List.mem_of_getElem? (i := 306) (by decide +kernel)⟩
theorem lw_p8 : lw_okq (⟨"EveryHand$TownText", "readKnow", "(LEveryHand$Town;)Z"⟩, 4) := ⟨⟨by decide +kernel, by decide +kernel⟩, List.mem_of_getElem? (i := 77) (by decide +kernel), List.mem_of_getElem? (i := 311) (by decide +kernel), List.mem_of_getElem? (i := 312) (by decide +kernel)⟩
theorem lw_p9 : lw_okq (⟨"EveryHand$TownText", "kindRead", "()I"⟩, 4) := ⟨⟨by decide +kernel, by decide +kernel⟩, List.mem_of_getElem? (i := 77) (by decide +kernel), List.mem_of_getElem? (i := 319) (by decide +kernel), List.mem_of_getElem? (i := 320) (by decide +kernel)⟩
theorem lw_p10 : lw_okq (⟨"EveryHand$TownText", "readCoin", "(LEveryHand$Town;I)Z"⟩, 4) := ⟨⟨by decide +kernel, by decide +kernel⟩, List.mem_of_getElem? (i := 77) (by decide +kernel), List.mem_of_getElem? (i := 329) (by decide +kernel), List.mem_of_getElem? (i := 330) (by decide +kernel)⟩
theorem lw_p11 : lw_okq (⟨"EveryHand$TownText", "readHad", "(LEveryHand$Town;I)Z"⟩, 4) := ⟨⟨by decide +kernel, by decide +kernel⟩, List.mem_of_getElem? (i := 77) (by decide +kernel), List.mem_of_getElem? (i := 339) (by decide +kernel), List.mem_of_getElem? (i := 340) (by decide +kernel)⟩
theorem lw_p12 : lw_okq (⟨"EveryHand", "leastCoinToGive", "()I"⟩, 10) := ⟨⟨by decide +kernel, by decide +kernel⟩, List.mem_of_getElem? (i := 16) (by decide +kernel), List.mem_of_getElem? (i := 471) (by decide +kernel), List.mem_of_getElem? (i := 472) (by decide +kernel)⟩
theorem lw_p13 : lw_okq (⟨"EveryHand", "look", "(II)I"⟩, 10) := ⟨⟨by decide +kernel, by decide +kernel⟩, List.mem_of_getElem? (i := 16) (by decide +kernel), List.mem_of_getElem? (i := 484) (by decide +kernel), List.mem_of_getElem? (i := 485) (by decide +kernel)⟩
theorem lw_p14 : lw_okq (⟨"EveryHand$Walks", "fill", "(II)V"⟩, 3) := ⟨⟨by decide +kernel, by decide +kernel⟩, List.mem_of_getElem? (i := 98) (by decide +kernel), List.mem_of_getElem? (i := 493) (by decide +kernel), List.mem_of_getElem? (i := 494) (by decide +kernel)⟩
theorem lw_p15 : lw_okq (⟨"EveryHand$Walks", "value", "(III)I"⟩, 3) := ⟨⟨by decide +kernel, by decide +kernel⟩, List.mem_of_getElem? (i := 98) (by decide +kernel), List.mem_of_getElem? (i := 498) (by decide +kernel), List.mem_of_getElem? (i := 499) (by decide +kernel)⟩
def lw_privs_1 : List (MethodName × Nat) := [(⟨"EveryHand$TownText", "step", "()V"⟩, 4), (⟨"EveryHand$TownText", "isLetter", "(I)Z"⟩, 4), (⟨"EveryHand$TownText", "isDigit", "(I)Z"⟩, 4), (⟨"EveryHand$TownText", "readStatement", "(LEveryHand$Town;)Z"⟩, 4), (⟨"EveryHand$TownText", "reads", "(Ljava/lang/String;)Z"⟩, 4), (⟨"EveryHand$TownText", "readPerson", "(LEveryHand$Town;)Z"⟩, 4), (⟨"EveryHand$TownText", "readNumber", "(II)I"⟩, 4), (⟨"EveryHand$TownText", "readEnd", "()Z"⟩, 4), (⟨"EveryHand$TownText", "readKnow", "(LEveryHand$Town;)Z"⟩, 4), (⟨"EveryHand$TownText", "kindRead", "()I"⟩, 4), (⟨"EveryHand$TownText", "readCoin", "(LEveryHand$Town;I)Z"⟩, 4), (⟨"EveryHand$TownText", "readHad", "(LEveryHand$Town;I)Z"⟩, 4), (⟨"EveryHand", "leastCoinToGive", "()I"⟩, 10), (⟨"EveryHand", "look", "(II)I"⟩, 10), (⟨"EveryHand$Walks", "fill", "(II)V"⟩, 3), (⟨"EveryHand$Walks", "value", "(III)I"⟩, 3)]
theorem lw_r1 : ∀ q ∈ lw_privs_1, lw_okq q := List.forall_mem_cons.mpr ⟨lw_p0, List.forall_mem_cons.mpr ⟨lw_p1, List.forall_mem_cons.mpr ⟨lw_p2, List.forall_mem_cons.mpr ⟨lw_p3, List.forall_mem_cons.mpr ⟨lw_p4, List.forall_mem_cons.mpr ⟨lw_p5, List.forall_mem_cons.mpr ⟨lw_p6, List.forall_mem_cons.mpr ⟨lw_p7, List.forall_mem_cons.mpr ⟨lw_p8, List.forall_mem_cons.mpr ⟨lw_p9, List.forall_mem_cons.mpr ⟨lw_p10, List.forall_mem_cons.mpr ⟨lw_p11, List.forall_mem_cons.mpr ⟨lw_p12, List.forall_mem_cons.mpr ⟨lw_p13, List.forall_mem_cons.mpr ⟨lw_p14, List.forall_mem_cons.mpr ⟨lw_p15, fun _ h => absurd h List.not_mem_nil⟩⟩⟩⟩⟩⟩⟩⟩⟩⟩⟩⟩⟩⟩⟩⟩
theorem lw_p16 : lw_okq (⟨"EveryHand", "leftIfAcquainted", "(III)I"⟩, 10) := ⟨⟨by decide +kernel, by decide +kernel⟩, List.mem_of_getElem? (i := 16) (by decide +kernel), List.mem_of_getElem? (i := 556) (by decide +kernel), List.mem_of_getElem? (i := 557) (by decide +kernel)⟩
theorem lw_p17 : lw_okq (⟨"EveryHand", "leftOfAll", "()I"⟩, 10) := ⟨⟨by decide +kernel, by decide +kernel⟩, List.mem_of_getElem? (i := 16) (by decide +kernel), List.mem_of_getElem? (i := 580) (by decide +kernel), List.mem_of_getElem? (i := 581) (by decide +kernel)⟩
theorem lw_p18 : lw_okq (⟨"EveryHand", "isRowPart", "(II)Z"⟩, 10) := ⟨⟨by decide +kernel, by decide +kernel⟩, List.mem_of_getElem? (i := 16) (by decide +kernel), List.mem_of_getElem? (i := 596) (by decide +kernel), List.mem_of_getElem? (i := 597) (by decide +kernel)⟩
theorem lw_p19 : lw_okq (⟨"EveryHand", "coinOnShelf", "(I)I"⟩, 10) := ⟨⟨by decide +kernel, by decide +kernel⟩, List.mem_of_getElem? (i := 16) (by decide +kernel), List.mem_of_getElem? (i := 663) (by decide +kernel), List.mem_of_getElem? (i := 664) (by decide +kernel)⟩
theorem lw_p20 : lw_okq (⟨"EveryHand$Acts", "perform", "(IIII)I"⟩, 6) := ⟨⟨by decide +kernel, by decide +kernel⟩, List.mem_of_getElem? (i := 114) (by decide +kernel), List.mem_of_getElem? (i := 680) (by decide +kernel), List.mem_of_getElem? (i := 681) (by decide +kernel)⟩
theorem lw_p21 : lw_okq (⟨"EveryHand$Acts", "note", "(I)V"⟩, 6) := ⟨⟨by decide +kernel, by decide +kernel⟩, List.mem_of_getElem? (i := 114) (by decide +kernel), List.mem_of_getElem? (i := 690) (by decide +kernel), List.mem_of_getElem? (i := 691) (by decide +kernel)⟩
theorem lw_p22 : lw_okq (⟨"EveryHand$Acts", "share", "(I)I"⟩, 6) := ⟨⟨by decide +kernel, by decide +kernel⟩, List.mem_of_getElem? (i := 114) (by decide +kernel), List.mem_of_getElem? (i := 694) (by decide +kernel), List.mem_of_getElem? (i := 695) (by decide +kernel)⟩
theorem lw_p23 : lw_okq (⟨"EveryHandModel", "advance", "()V"⟩, 43) := ⟨⟨by decide +kernel, by decide +kernel⟩, List.mem_of_getElem? (i := 721) (by decide +kernel), List.mem_of_getElem? (i := 870) (by decide +kernel), List.mem_of_getElem? (i := 871) (by decide +kernel)⟩
theorem lw_p24 : lw_okq (⟨"EveryHandModel", "byteAt", "(I)I"⟩, 43) := ⟨⟨by decide +kernel, by decide +kernel⟩, List.mem_of_getElem? (i := 721) (by decide +kernel), List.mem_of_getElem? (i := 874) (by decide +kernel), List.mem_of_getElem? (i := 875) (by decide +kernel)⟩
theorem lw_p25 : lw_okq (⟨"EveryHandModel", "isWord", "(J)Z"⟩, 43) := ⟨⟨by decide +kernel, by decide +kernel⟩, List.mem_of_getElem? (i := 721) (by decide +kernel), List.mem_of_getElem? (i := 888) (by decide +kernel), List.mem_of_getElem? (i := 889) (by decide +kernel)⟩
theorem lw_p26 : lw_okq (⟨"EveryHandModel", "wantPerson", "()V"⟩, 43) := ⟨⟨by decide +kernel, by decide +kernel⟩, List.mem_of_getElem? (i := 721) (by decide +kernel), List.mem_of_getElem? (i := 892) (by decide +kernel), List.mem_of_getElem? (i := 893) (by decide +kernel)⟩
theorem lw_p27 : lw_okq (⟨"EveryHandModel", "wantNumber", "(II)I"⟩, 43) := ⟨⟨by decide +kernel, by decide +kernel⟩, List.mem_of_getElem? (i := 721) (by decide +kernel), List.mem_of_getElem? (i := 896) (by decide +kernel), List.mem_of_getElem? (i := 897) (by decide +kernel)⟩
theorem lw_p28 : lw_okq (⟨"EveryHandModel", "wantEnd", "()V"⟩, 43) := ⟨⟨by decide +kernel, by decide +kernel⟩, List.mem_of_getElem? (i := 721) (by decide +kernel), List.mem_of_getElem? (i := 900) (by decide +kernel), List.mem_of_getElem? (i := 901) (by decide +kernel)⟩
theorem lw_p29 : lw_okq (⟨"EveryHandModel", "isMark", "(I)Z"⟩, 43) := ⟨⟨by decide +kernel, by decide +kernel⟩, List.mem_of_getElem? (i := 721) (by decide +kernel), List.mem_of_getElem? (i := 904) (by decide +kernel), List.mem_of_getElem? (i := 905) (by decide +kernel)⟩
theorem lw_p30 : lw_okq (⟨"EveryHandModel", "wantKnow", "()V"⟩, 43) := ⟨⟨by decide +kernel, by decide +kernel⟩, List.mem_of_getElem? (i := 721) (by decide +kernel), List.mem_of_getElem? (i := 909) (by decide +kernel), List.mem_of_getElem? (i := 910) (by decide +kernel)⟩
theorem lw_p31 : lw_okq (⟨"EveryHandModel", "kindHere", "()I"⟩, 43) := ⟨⟨by decide +kernel, by decide +kernel⟩, List.mem_of_getElem? (i := 721) (by decide +kernel), List.mem_of_getElem? (i := 913) (by decide +kernel), List.mem_of_getElem? (i := 914) (by decide +kernel)⟩
def lw_privs_2 : List (MethodName × Nat) := [(⟨"EveryHand", "leftIfAcquainted", "(III)I"⟩, 10), (⟨"EveryHand", "leftOfAll", "()I"⟩, 10), (⟨"EveryHand", "isRowPart", "(II)Z"⟩, 10), (⟨"EveryHand", "coinOnShelf", "(I)I"⟩, 10), (⟨"EveryHand$Acts", "perform", "(IIII)I"⟩, 6), (⟨"EveryHand$Acts", "note", "(I)V"⟩, 6), (⟨"EveryHand$Acts", "share", "(I)I"⟩, 6), (⟨"EveryHandModel", "advance", "()V"⟩, 43), (⟨"EveryHandModel", "byteAt", "(I)I"⟩, 43), (⟨"EveryHandModel", "isWord", "(J)Z"⟩, 43), (⟨"EveryHandModel", "wantPerson", "()V"⟩, 43), (⟨"EveryHandModel", "wantNumber", "(II)I"⟩, 43), (⟨"EveryHandModel", "wantEnd", "()V"⟩, 43), (⟨"EveryHandModel", "isMark", "(I)Z"⟩, 43), (⟨"EveryHandModel", "wantKnow", "()V"⟩, 43), (⟨"EveryHandModel", "kindHere", "()I"⟩, 43)]
theorem lw_r2 : ∀ q ∈ lw_privs_2, lw_okq q := List.forall_mem_cons.mpr ⟨lw_p16, List.forall_mem_cons.mpr ⟨lw_p17, List.forall_mem_cons.mpr ⟨lw_p18, List.forall_mem_cons.mpr ⟨lw_p19, List.forall_mem_cons.mpr ⟨lw_p20, List.forall_mem_cons.mpr ⟨lw_p21, List.forall_mem_cons.mpr ⟨lw_p22, List.forall_mem_cons.mpr ⟨lw_p23, List.forall_mem_cons.mpr ⟨lw_p24, List.forall_mem_cons.mpr ⟨lw_p25, List.forall_mem_cons.mpr ⟨lw_p26, List.forall_mem_cons.mpr ⟨lw_p27, List.forall_mem_cons.mpr ⟨lw_p28, List.forall_mem_cons.mpr ⟨lw_p29, List.forall_mem_cons.mpr ⟨lw_p30, List.forall_mem_cons.mpr ⟨lw_p31, fun _ h => absurd h List.not_mem_nil⟩⟩⟩⟩⟩⟩⟩⟩⟩⟩⟩⟩⟩⟩⟩⟩
theorem lw_p32 : lw_okq (⟨"EveryHandModel", "wantCoin", "(I)V"⟩, 43) := ⟨⟨by decide +kernel, by decide +kernel⟩, List.mem_of_getElem? (i := 721) (by decide +kernel), List.mem_of_getElem? (i := 923) (by decide +kernel), List.mem_of_getElem? (i := 924) (by decide +kernel)⟩
theorem lw_p33 : lw_okq (⟨"EveryHandModel", "isPerson", "(I)Z"⟩, 43) := ⟨⟨by decide +kernel, by decide +kernel⟩, List.mem_of_getElem? (i := 721) (by decide +kernel), List.mem_of_getElem? (i := 937) (by decide +kernel), List.mem_of_getElem? (i := 938) (by decide +kernel)⟩
theorem lw_p34 : lw_okq (⟨"EveryHandModel", "heldBy", "(I)I"⟩, 43) := ⟨⟨by decide +kernel, by decide +kernel⟩, List.mem_of_getElem? (i := 721) (by decide +kernel), List.mem_of_getElem? (i := 941) (by decide +kernel), List.mem_of_getElem? (i := 942) (by decide +kernel)⟩
theorem lw_p35 : lw_okq (⟨"EveryHandModel", "its", "(II)I"⟩, 43) := ⟨⟨by decide +kernel, by decide +kernel⟩, List.mem_of_getElem? (i := 721) (by decide +kernel), List.mem_of_getElem? (i := 945) (by decide +kernel), List.mem_of_getElem? (i := 946) (by decide +kernel)⟩
theorem lw_p36 : lw_okq (⟨"EveryHandModel", "worthOf", "(I)I"⟩, 43) := ⟨⟨by decide +kernel, by decide +kernel⟩, List.mem_of_getElem? (i := 721) (by decide +kernel), List.mem_of_getElem? (i := 949) (by decide +kernel), List.mem_of_getElem? (i := 950) (by decide +kernel)⟩
theorem lw_p37 : lw_okq (⟨"EveryHandModel", "worth", "(I)I"⟩, 43) := ⟨⟨by decide +kernel, by decide +kernel⟩, List.mem_of_getElem? (i := 721) (by decide +kernel), List.mem_of_getElem? (i := 956) (by decide +kernel), List.mem_of_getElem? (i := 957) (by decide +kernel)⟩
theorem lw_p38 : lw_okq (⟨"EveryHandModel", "swapsKnow", "(II)V"⟩, 43) := ⟨⟨by decide +kernel, by decide +kernel⟩, List.mem_of_getElem? (i := 721) (by decide +kernel), List.mem_of_getElem? (i := 968) (by decide +kernel), List.mem_of_getElem? (i := 969) (by decide +kernel)⟩
theorem lw_p39 : lw_okq (⟨"EveryHandModel", "isCoin", "(I)Z"⟩, 43) := ⟨⟨by decide +kernel, by decide +kernel⟩, List.mem_of_getElem? (i := 721) (by decide +kernel), List.mem_of_getElem? (i := 980) (by decide +kernel), List.mem_of_getElem? (i := 981) (by decide +kernel)⟩
theorem lw_p40 : lw_okq (⟨"EveryHandModel", "mayAll", "(I)I"⟩, 43) := ⟨⟨by decide +kernel, by decide +kernel⟩, List.mem_of_getElem? (i := 721) (by decide +kernel), List.mem_of_getElem? (i := 984) (by decide +kernel), List.mem_of_getElem? (i := 985) (by decide +kernel)⟩
theorem lw_p41 : lw_okq (⟨"EveryHandModel", "mayNow", "(II)Z"⟩, 43) := ⟨⟨by decide +kernel, by decide +kernel⟩, List.mem_of_getElem? (i := 721) (by decide +kernel), List.mem_of_getElem? (i := 988) (by decide +kernel), List.mem_of_getElem? (i := 989) (by decide +kernel)⟩
theorem lw_p42 : lw_okq (⟨"EveryHandModel", "mayBe", "(IIII)Z"⟩, 43) := ⟨⟨by decide +kernel, by decide +kernel⟩, List.mem_of_getElem? (i := 721) (by decide +kernel), List.mem_of_getElem? (i := 992) (by decide +kernel), List.mem_of_getElem? (i := 993) (by decide +kernel)⟩
theorem lw_p43 : lw_okq (⟨"EveryHandModel", "gives", "(II)Z"⟩, 43) := ⟨⟨by decide +kernel, by decide +kernel⟩, List.mem_of_getElem? (i := 721) (by decide +kernel), List.mem_of_getElem? (i := 1015) (by decide +kernel), List.mem_of_getElem? (i := 1016) (by decide +kernel)⟩
theorem lw_p44 : lw_okq (⟨"EveryHandModel", "everybody", "()I"⟩, 43) := ⟨⟨by decide +kernel, by decide +kernel⟩, List.mem_of_getElem? (i := 721) (by decide +kernel), List.mem_of_getElem? (i := 1019) (by decide +kernel), List.mem_of_getElem? (i := 1020) (by decide +kernel)⟩
theorem lw_p45 : lw_okq (⟨"EveryHandModel", "goes", "(I)V"⟩, 43) := ⟨⟨by decide +kernel, by decide +kernel⟩, List.mem_of_getElem? (i := 721) (by decide +kernel), List.mem_of_getElem? (i := 1023) (by decide +kernel), List.mem_of_getElem? (i := 1024) (by decide +kernel)⟩
theorem lw_p46 : lw_okq (⟨"EveryHandModel", "firstFree", "()I"⟩, 43) := ⟨⟨by decide +kernel, by decide +kernel⟩, List.mem_of_getElem? (i := 721) (by decide +kernel), List.mem_of_getElem? (i := 1036) (by decide +kernel), List.mem_of_getElem? (i := 1037) (by decide +kernel)⟩
theorem lw_p47 : lw_okq (⟨"EveryHandModel", "leftOf", "(I)I"⟩, 43) := ⟨⟨by decide +kernel, by decide +kernel⟩, List.mem_of_getElem? (i := 721) (by decide +kernel), List.mem_of_getElem? (i := 1049) (by decide +kernel), List.mem_of_getElem? (i := 1050) (by decide +kernel)⟩
def lw_privs_3 : List (MethodName × Nat) := [(⟨"EveryHandModel", "wantCoin", "(I)V"⟩, 43), (⟨"EveryHandModel", "isPerson", "(I)Z"⟩, 43), (⟨"EveryHandModel", "heldBy", "(I)I"⟩, 43), (⟨"EveryHandModel", "its", "(II)I"⟩, 43), (⟨"EveryHandModel", "worthOf", "(I)I"⟩, 43), (⟨"EveryHandModel", "worth", "(I)I"⟩, 43), (⟨"EveryHandModel", "swapsKnow", "(II)V"⟩, 43), (⟨"EveryHandModel", "isCoin", "(I)Z"⟩, 43), (⟨"EveryHandModel", "mayAll", "(I)I"⟩, 43), (⟨"EveryHandModel", "mayNow", "(II)Z"⟩, 43), (⟨"EveryHandModel", "mayBe", "(IIII)Z"⟩, 43), (⟨"EveryHandModel", "gives", "(II)Z"⟩, 43), (⟨"EveryHandModel", "everybody", "()I"⟩, 43), (⟨"EveryHandModel", "goes", "(I)V"⟩, 43), (⟨"EveryHandModel", "firstFree", "()I"⟩, 43), (⟨"EveryHandModel", "leftOf", "(I)I"⟩, 43)]
theorem lw_r3 : ∀ q ∈ lw_privs_3, lw_okq q := List.forall_mem_cons.mpr ⟨lw_p32, List.forall_mem_cons.mpr ⟨lw_p33, List.forall_mem_cons.mpr ⟨lw_p34, List.forall_mem_cons.mpr ⟨lw_p35, List.forall_mem_cons.mpr ⟨lw_p36, List.forall_mem_cons.mpr ⟨lw_p37, List.forall_mem_cons.mpr ⟨lw_p38, List.forall_mem_cons.mpr ⟨lw_p39, List.forall_mem_cons.mpr ⟨lw_p40, List.forall_mem_cons.mpr ⟨lw_p41, List.forall_mem_cons.mpr ⟨lw_p42, List.forall_mem_cons.mpr ⟨lw_p43, List.forall_mem_cons.mpr ⟨lw_p44, List.forall_mem_cons.mpr ⟨lw_p45, List.forall_mem_cons.mpr ⟨lw_p46, List.forall_mem_cons.mpr ⟨lw_p47, fun _ h => absurd h List.not_mem_nil⟩⟩⟩⟩⟩⟩⟩⟩⟩⟩⟩⟩⟩⟩⟩⟩
theorem lw_p48 : lw_okq (⟨"EveryHandModel", "findAll", "(I)V"⟩, 43) := ⟨⟨by decide +kernel, by decide +kernel⟩, List.mem_of_getElem? (i := 721) (by decide +kernel), List.mem_of_getElem? (i := 1053) (by decide +kernel), List.mem_of_getElem? (i := 1054) (by decide +kernel)⟩
theorem lw_p49 : lw_okq (⟨"EveryHandModel", "findOne", "(III)V"⟩, 43) := ⟨⟨by decide +kernel, by decide +kernel⟩, List.mem_of_getElem? (i := 721) (by decide +kernel), List.mem_of_getElem? (i := 1057) (by decide +kernel), List.mem_of_getElem? (i := 1058) (by decide +kernel)⟩
theorem lw_p50 : lw_okq (⟨"EveryHandModel", "placeOf", "(I)I"⟩, 43) := ⟨⟨by decide +kernel, by decide +kernel⟩, List.mem_of_getElem? (i := 721) (by decide +kernel), List.mem_of_getElem? (i := 1061) (by decide +kernel), List.mem_of_getElem? (i := 1062) (by decide +kernel)⟩
theorem lw_p51 : lw_okq (⟨"EveryHandModel", "findRow", "(I)V"⟩, 43) := ⟨⟨by decide +kernel, by decide +kernel⟩, List.mem_of_getElem? (i := 721) (by decide +kernel), List.mem_of_getElem? (i := 1081) (by decide +kernel), List.mem_of_getElem? (i := 1082) (by decide +kernel)⟩
theorem lw_p52 : lw_okq (⟨"EveryHandModel", "given", "(II)I"⟩, 43) := ⟨⟨by decide +kernel, by decide +kernel⟩, List.mem_of_getElem? (i := 721) (by decide +kernel), List.mem_of_getElem? (i := 1097) (by decide +kernel), List.mem_of_getElem? (i := 1098) (by decide +kernel)⟩
theorem lw_p53 : lw_okq (⟨"EveryHandModel", "isRow", "(II)Z"⟩, 43) := ⟨⟨by decide +kernel, by decide +kernel⟩, List.mem_of_getElem? (i := 721) (by decide +kernel), List.mem_of_getElem? (i := 1132) (by decide +kernel), List.mem_of_getElem? (i := 1133) (by decide +kernel)⟩
theorem lw_p54 : lw_okq (⟨"EveryHandModel", "lacksSort", "(II)I"⟩, 43) := ⟨⟨by decide +kernel, by decide +kernel⟩, List.mem_of_getElem? (i := 721) (by decide +kernel), List.mem_of_getElem? (i := 1151) (by decide +kernel), List.mem_of_getElem? (i := 1152) (by decide +kernel)⟩
theorem lw_p55 : lw_okq (⟨"EveryHandModel", "isHeld", "(II)Z"⟩, 43) := ⟨⟨by decide +kernel, by decide +kernel⟩, List.mem_of_getElem? (i := 721) (by decide +kernel), List.mem_of_getElem? (i := 1172) (by decide +kernel), List.mem_of_getElem? (i := 1173) (by decide +kernel)⟩
theorem lw_p56 : lw_okq (⟨"EveryHandModel", "kindOn", "(I)I"⟩, 43) := ⟨⟨by decide +kernel, by decide +kernel⟩, List.mem_of_getElem? (i := 721) (by decide +kernel), List.mem_of_getElem? (i := 1180) (by decide +kernel), List.mem_of_getElem? (i := 1181) (by decide +kernel)⟩
theorem lw_p57 : lw_okq (⟨"EveryHandModel", "ringsIt", "(I)I"⟩, 43) := ⟨⟨by decide +kernel, by decide +kernel⟩, List.mem_of_getElem? (i := 721) (by decide +kernel), List.mem_of_getElem? (i := 1191) (by decide +kernel), List.mem_of_getElem? (i := 1192) (by decide +kernel)⟩
theorem lw_p58 : lw_okq (⟨"EveryHandModel", "crownRings", "(I)I"⟩, 43) := ⟨⟨by decide +kernel, by decide +kernel⟩, List.mem_of_getElem? (i := 721) (by decide +kernel), List.mem_of_getElem? (i := 1195) (by decide +kernel), List.mem_of_getElem? (i := 1196) (by decide +kernel)⟩
theorem lw_p59 : lw_okq (⟨"EveryHandModel", "ran", "(I)V"⟩, 43) := ⟨⟨by decide +kernel, by decide +kernel⟩, List.mem_of_getElem? (i := 721) (by decide +kernel), List.mem_of_getElem? (i := 1199) (by decide +kernel), List.mem_of_getElem? (i := 1200) (by decide +kernel)⟩
theorem lw_p60 : lw_okq (⟨"EveryHandModel", "plainRings", "(I)I"⟩, 43) := ⟨⟨by decide +kernel, by decide +kernel⟩, List.mem_of_getElem? (i := 721) (by decide +kernel), List.mem_of_getElem? (i := 1203) (by decide +kernel), List.mem_of_getElem? (i := 1204) (by decide +kernel)⟩
theorem lw_p61 : lw_okq (⟨"EveryHandModel", "weighsIt", "(I)I"⟩, 43) := ⟨⟨by decide +kernel, by decide +kernel⟩, List.mem_of_getElem? (i := 721) (by decide +kernel), List.mem_of_getElem? (i := 1207) (by decide +kernel), List.mem_of_getElem? (i := 1208) (by decide +kernel)⟩
theorem lw_p62 : lw_okq (⟨"EveryHandModel", "plainWeighs", "(I)I"⟩, 43) := ⟨⟨by decide +kernel, by decide +kernel⟩, List.mem_of_getElem? (i := 721) (by decide +kernel), List.mem_of_getElem? (i := 1211) (by decide +kernel), List.mem_of_getElem? (i := 1212) (by decide +kernel)⟩
theorem lw_p63 : lw_okq (⟨"EveryHandModel", "sharesIt", "(I)I"⟩, 43) := ⟨⟨by decide +kernel, by decide +kernel⟩, List.mem_of_getElem? (i := 721) (by decide +kernel), List.mem_of_getElem? (i := 1215) (by decide +kernel), List.mem_of_getElem? (i := 1216) (by decide +kernel)⟩
def lw_privs_4 : List (MethodName × Nat) := [(⟨"EveryHandModel", "findAll", "(I)V"⟩, 43), (⟨"EveryHandModel", "findOne", "(III)V"⟩, 43), (⟨"EveryHandModel", "placeOf", "(I)I"⟩, 43), (⟨"EveryHandModel", "findRow", "(I)V"⟩, 43), (⟨"EveryHandModel", "given", "(II)I"⟩, 43), (⟨"EveryHandModel", "isRow", "(II)Z"⟩, 43), (⟨"EveryHandModel", "lacksSort", "(II)I"⟩, 43), (⟨"EveryHandModel", "isHeld", "(II)Z"⟩, 43), (⟨"EveryHandModel", "kindOn", "(I)I"⟩, 43), (⟨"EveryHandModel", "ringsIt", "(I)I"⟩, 43), (⟨"EveryHandModel", "crownRings", "(I)I"⟩, 43), (⟨"EveryHandModel", "ran", "(I)V"⟩, 43), (⟨"EveryHandModel", "plainRings", "(I)I"⟩, 43), (⟨"EveryHandModel", "weighsIt", "(I)I"⟩, 43), (⟨"EveryHandModel", "plainWeighs", "(I)I"⟩, 43), (⟨"EveryHandModel", "sharesIt", "(I)I"⟩, 43)]
theorem lw_r4 : ∀ q ∈ lw_privs_4, lw_okq q := List.forall_mem_cons.mpr ⟨lw_p48, List.forall_mem_cons.mpr ⟨lw_p49, List.forall_mem_cons.mpr ⟨lw_p50, List.forall_mem_cons.mpr ⟨lw_p51, List.forall_mem_cons.mpr ⟨lw_p52, List.forall_mem_cons.mpr ⟨lw_p53, List.forall_mem_cons.mpr ⟨lw_p54, List.forall_mem_cons.mpr ⟨lw_p55, List.forall_mem_cons.mpr ⟨lw_p56, List.forall_mem_cons.mpr ⟨lw_p57, List.forall_mem_cons.mpr ⟨lw_p58, List.forall_mem_cons.mpr ⟨lw_p59, List.forall_mem_cons.mpr ⟨lw_p60, List.forall_mem_cons.mpr ⟨lw_p61, List.forall_mem_cons.mpr ⟨lw_p62, List.forall_mem_cons.mpr ⟨lw_p63, fun _ h => absurd h List.not_mem_nil⟩⟩⟩⟩⟩⟩⟩⟩⟩⟩⟩⟩⟩⟩⟩⟩
theorem lw_p64 : lw_okq (⟨"EveryHandModel", "plainShares", "(I)I"⟩, 43) := ⟨⟨by decide +kernel, by decide +kernel⟩, List.mem_of_getElem? (i := 721) (by decide +kernel), List.mem_of_getElem? (i := 1219) (by decide +kernel), List.mem_of_getElem? (i := 1220) (by decide +kernel)⟩
theorem lw_p65 : lw_okq (⟨"EveryHandModel", "tellsIt", "(I)I"⟩, 43) := ⟨⟨by decide +kernel, by decide +kernel⟩, List.mem_of_getElem? (i := 721) (by decide +kernel), List.mem_of_getElem? (i := 1223) (by decide +kernel), List.mem_of_getElem? (i := 1224) (by decide +kernel)⟩
theorem lw_p66 : lw_okq (⟨"EveryHandModel", "plainTells", "(I)I"⟩, 43) := ⟨⟨by decide +kernel, by decide +kernel⟩, List.mem_of_getElem? (i := 721) (by decide +kernel), List.mem_of_getElem? (i := 1227) (by decide +kernel), List.mem_of_getElem? (i := 1228) (by decide +kernel)⟩
theorem lw_p67 : lw_okq (⟨"EveryHandModel", "moveAll", "(Z)V"⟩, 43) := ⟨⟨by decide +kernel, by decide +kernel⟩, List.mem_of_getElem? (i := 721) (by decide +kernel), List.mem_of_getElem? (i := 1243) (by decide +kernel), List.mem_of_getElem? (i := 1244) (by decide +kernel)⟩
theorem lw_p68 : lw_okq (⟨"EveryHandModel", "moveRow", "([IIZ)V"⟩, 43) := ⟨⟨by decide +kernel, by decide +kernel⟩, List.mem_of_getElem? (i := 721) (by decide +kernel), List.mem_of_getElem? (i := 1247) (by decide +kernel), List.mem_of_getElem? (i := 1248) (by decide +kernel)⟩
def lw_privs_5 : List (MethodName × Nat) := [(⟨"EveryHandModel", "plainShares", "(I)I"⟩, 43), (⟨"EveryHandModel", "tellsIt", "(I)I"⟩, 43), (⟨"EveryHandModel", "plainTells", "(I)I"⟩, 43), (⟨"EveryHandModel", "moveAll", "(Z)V"⟩, 43), (⟨"EveryHandModel", "moveRow", "([IIZ)V"⟩, 43)]
theorem lw_r5 : ∀ q ∈ lw_privs_5, lw_okq q := List.forall_mem_cons.mpr ⟨lw_p64, List.forall_mem_cons.mpr ⟨lw_p65, List.forall_mem_cons.mpr ⟨lw_p66, List.forall_mem_cons.mpr ⟨lw_p67, List.forall_mem_cons.mpr ⟨lw_p68, fun _ h => absurd h List.not_mem_nil⟩⟩⟩⟩⟩
def lw_privs : List (MethodName × Nat) := lw_privs_1 ++ (lw_privs_2 ++ (lw_privs_3 ++ (lw_privs_4 ++ (lw_privs_5))))
def lw_tbl : List Cond := k2_sels lw_privs ++ tables_1
theorem lw_privs_ok : ∀ q ∈ lw_privs, lw_okq q := by
  show ∀ q ∈ lw_privs_1 ++ (lw_privs_2 ++ (lw_privs_3 ++ (lw_privs_4 ++ (lw_privs_5)))), lw_okq q
  exact List.forall_mem_append.mpr ⟨lw_r1, List.forall_mem_append.mpr ⟨lw_r2, List.forall_mem_append.mpr ⟨lw_r3, List.forall_mem_append.mpr ⟨lw_r4, lw_r5⟩⟩⟩⟩
end
section
/-! names: classes, their fields, the numbering of the cells, the methods; printed by wip/tools/gen_names.py -/
abbrev MI : Type := ByteArray × Nat × Option FieldType × MethodName × Room
def rm (d : Nat) : Room := { frames := d, cells := 0, slots := 0, locals := 40 * d }
def GW : List Cond := lw_tbl.filter goodWord
theorem gw {w : Cond} (i : Nat) (h : lw_tbl[i]? = some w) (g : goodWord w = true) : w ∈ GW := List.mem_filter.mpr ⟨List.mem_of_getElem? h, g⟩
def cT0 : u_T := fun k => match k with
  | 0 => ("EveryHand$Acts", "trace", "[I", true)
  | 1 => ("EveryHand$Acts", "traced", "I", false)
  | 2 => ("EveryHand$Acts", "kind", "I", false)
  | 3 => ("EveryHand$Acts", "n", "I", false)
  | 4 => ("EveryHand$Acts", "a", "I", false)
  | _ => ("EveryHand$Acts", "parted", "Z", false)
def cY0 : Nat → FieldType := fun k => match k with
  | 0 => .array .int
  | 1 => .int
  | 2 => .int
  | 3 => .int
  | 4 => .int
  | _ => .boolean
def cT1 : u_T := fun k => match k with
  | 0 => ("EveryHand$Host", "sort", "[I", true)
  | 1 => ("EveryHand$Host", "size", "[I", true)
  | 2 => ("EveryHand$Host", "items", "[[I", true)
  | 3 => ("EveryHand$Host", "holds", "[I", true)
  | 4 => ("EveryHand$Host", "number", "[I", true)
  | _ => ("EveryHand$Host", "rowSort", "[I", true)
def cY1 : Nat → FieldType := fun k => match k with
  | 0 => .array .int
  | 1 => .array .int
  | 2 => .array (.array .int)
  | 3 => .array .int
  | 4 => .array .int
  | _ => .array .int
def cT2 : u_T := fun k => match k with
  | 0 => ("EveryHand$Town", "people", "I", false)
  | 1 => ("EveryHand$Town", "coins", "I", false)
  | 2 => ("EveryHand$Town", "z", "I", false)
  | 3 => ("EveryHand$Town", "rank", "[I", true)
  | 4 => ("EveryHand$Town", "silver", "[I", true)
  | 5 => ("EveryHand$Town", "known", "[I", true)
  | 6 => ("EveryHand$Town", "kind", "[I", true)
  | 7 => ("EveryHand$Town", "a", "[I", true)
  | 8 => ("EveryHand$Town", "holder", "[I", true)
  | _ => ("EveryHand$Town", "had", "[I", true)
def cY2 : Nat → FieldType := fun k => match k with
  | 0 => .int
  | 1 => .int
  | 2 => .int
  | 3 => .array .int
  | 4 => .array .int
  | 5 => .array .int
  | 6 => .array .int
  | 7 => .array .int
  | 8 => .array .int
  | _ => .array .int
def cT3 : u_T := fun k => match k with
  | 0 => ("EveryHand$TownText", "bytes", "[I", true)
  | 1 => ("EveryHand$TownText", "size", "I", false)
  | 2 => ("EveryHand$TownText", "from", "I", false)
  | _ => ("EveryHand$TownText", "end", "I", false)
def cY3 : Nat → FieldType := fun k => match k with
  | 0 => .array .int
  | 1 => .int
  | 2 => .int
  | _ => .int
def cT4 : u_T := fun k => match k with
  | 0 => ("EveryHand$Walks", "reach", "[I", true)
  | 1 => ("EveryHand$Walks", "table", "[I", true)
  | _ => ("EveryHand$Walks", "people", "I", false)
def cY4 : Nat → FieldType := fun k => match k with
  | 0 => .array .int
  | 1 => .array .int
  | _ => .int
def cT5 : u_T := fun k => match k with
  | 0 => ("EveryHand", "town", "LEveryHand$Town;", false)
  | 1 => ("EveryHand", "draft", "LEveryHand$Town;", false)
  | 2 => ("EveryHand", "kept", "LEveryHand$Town;", true)
  | 3 => ("EveryHand", "isKept", "Z", false)
  | 4 => ("EveryHand", "text", "LEveryHand$TownText;", true)
  | 5 => ("EveryHand", "walks", "LEveryHand$Walks;", true)
  | 6 => ("EveryHand", "rows", "[I", true)
  | 7 => ("EveryHand", "rowCount", "I", false)
  | 8 => ("EveryHand", "acts", "LEveryHand$Acts;", true)
  | _ => ("EveryHand", "host", "LEveryHand$Host;", true)
def cY5 : Nat → FieldType := fun k => match k with
  | 0 => .object "EveryHand$Town"
  | 1 => .object "EveryHand$Town"
  | 2 => .object "EveryHand$Town"
  | 3 => .boolean
  | 4 => .object "EveryHand$TownText"
  | 5 => .object "EveryHand$Walks"
  | 6 => .array .int
  | 7 => .int
  | 8 => .object "EveryHand$Acts"
  | _ => .object "EveryHand$Host"
def cT6 : u_T := fun k => match k with
  | 0 => ("EveryHandModel", "people", "I", false)
  | 1 => ("EveryHandModel", "ranks", "[I", true)
  | 2 => ("EveryHandModel", "silver", "[I", true)
  | 3 => ("EveryHandModel", "known", "[I", true)
  | 4 => ("EveryHandModel", "coins", "I", false)
  | 5 => ("EveryHandModel", "coin", "[I", true)
  | 6 => ("EveryHandModel", "z", "I", false)
  | 7 => ("EveryHandModel", "tape", "[I", true)
  | 8 => ("EveryHandModel", "tapeMany", "I", false)
  | 9 => ("EveryHandModel", "sort", "I", false)
  | 10 => ("EveryHandModel", "begins", "I", false)
  | 11 => ("EveryHandModel", "tokenEnds", "I", false)
  | 12 => ("EveryHandModel", "word", "J", false)
  | 13 => ("EveryHandModel", "value", "I", false)
  | 14 => ("EveryHandModel", "good", "Z", false)
  | 15 => ("EveryHandModel", "freshPeople", "I", false)
  | 16 => ("EveryHandModel", "freshCoins", "I", false)
  | 17 => ("EveryHandModel", "freshRanks", "[I", true)
  | 18 => ("EveryHandModel", "freshKnown", "[I", true)
  | 19 => ("EveryHandModel", "freshCoin", "[I", true)
  | 20 => ("EveryHandModel", "lefts", "[I", true)
  | 21 => ("EveryHandModel", "ways", "[I", true)
  | 22 => ("EveryHandModel", "lastOnes", "[I", true)
  | 23 => ("EveryHandModel", "must", "[I", true)
  | 24 => ("EveryHandModel", "mustMany", "I", false)
  | 25 => ("EveryHandModel", "rows", "[I", true)
  | 26 => ("EveryHandModel", "rowMany", "I", false)
  | 27 => ("EveryHandModel", "sorts", "[I", true)
  | 28 => ("EveryHandModel", "sizes", "[I", true)
  | 29 => ("EveryHandModel", "sheets", "[J", true)
  | 30 => ("EveryHandModel", "held", "[I", true)
  | 31 => ("EveryHandModel", "heldNumber", "[I", true)
  | 32 => ("EveryHandModel", "heldSize", "[I", true)
  | 33 => ("EveryHandModel", "kind", "I", false)
  | 34 => ("EveryHandModel", "number", "I", false)
  | 35 => ("EveryHandModel", "own", "I", false)
  | 36 => ("EveryHandModel", "traced", "[I", true)
  | 37 => ("EveryHandModel", "bodies", "I", false)
  | 38 => ("EveryHandModel", "isParted", "Z", false)
  | 39 => ("EveryHandModel", "isKept", "Z", false)
  | 40 => ("EveryHandModel", "keptRow", "[I", true)
  | 41 => ("EveryHandModel", "movedTo", "I", false)
  | _ => ("EveryHandModel", "single", "[I", true)
def cY6 : Nat → FieldType := fun k => match k with
  | 0 => .int
  | 1 => .array .int
  | 2 => .array .int
  | 3 => .array .int
  | 4 => .int
  | 5 => .array .int
  | 6 => .int
  | 7 => .array .int
  | 8 => .int
  | 9 => .int
  | 10 => .int
  | 11 => .int
  | 12 => .long
  | 13 => .int
  | 14 => .boolean
  | 15 => .int
  | 16 => .int
  | 17 => .array .int
  | 18 => .array .int
  | 19 => .array .int
  | 20 => .array .int
  | 21 => .array .int
  | 22 => .array .int
  | 23 => .array .int
  | 24 => .int
  | 25 => .array .int
  | 26 => .int
  | 27 => .array .int
  | 28 => .array .int
  | 29 => .array .long
  | 30 => .array .int
  | 31 => .array .int
  | 32 => .array .int
  | 33 => .int
  | 34 => .int
  | 35 => .int
  | 36 => .array .int
  | 37 => .int
  | 38 => .boolean
  | 39 => .boolean
  | 40 => .array .int
  | 41 => .int
  | _ => .array .int
abbrev cls : List vw_C := [("EveryHand$Acts", cT0, 6), ("EveryHand$Host", cT1, 6), ("EveryHand$Town", cT2, 10), ("EveryHand$TownText", cT3, 4), ("EveryHand$Walks", cT4, 3), ("EveryHand", cT5, 10), ("EveryHandModel", cT6, 43)]
theorem cN0 : ∀ a, a < 6 → ∀ b, b < 6 → a ≠ b → (cT0 a).2.1 ≠ (cT0 b).2.1 := by decide +kernel
theorem cO0 : ∀ k, k < 6 → parseFieldDescriptor (cT0 k).2.2.1 = some (cY0 k) := by decide +kernel
theorem cW0 : ∀ k, k < 6 → ∃ i : Nat, lw_tbl[i]? = some (u_lay "EveryHand$Acts" cT0 k) ∧ goodWord (u_lay "EveryHand$Acts" cT0 k) = true := by
  intro k hk
  have h : ∀ k, k < 6 → lw_tbl[([196, 198, 200, 202, 204, 206] : List Nat).getD k 0]? = some (u_lay "EveryHand$Acts" cT0 k) ∧ goodWord (u_lay "EveryHand$Acts" cT0 k) = true := by decide +kernel
  exact ⟨_, h k hk⟩
theorem cI0 : ∀ w ∈ u_ws "EveryHand$Acts" cT0 6, w ∈ GW := by
  intro w hw
  obtain ⟨k, hk, rfl⟩ := List.mem_map.mp hw
  obtain ⟨i, h1, h2⟩ := cW0 k (List.mem_range.mp hk)
  exact gw i h1 h2
theorem cN1 : ∀ a, a < 6 → ∀ b, b < 6 → a ≠ b → (cT1 a).2.1 ≠ (cT1 b).2.1 := by decide +kernel
theorem cO1 : ∀ k, k < 6 → parseFieldDescriptor (cT1 k).2.2.1 = some (cY1 k) := by decide +kernel
theorem cW1 : ∀ k, k < 6 → ∃ i : Nat, lw_tbl[i]? = some (u_lay "EveryHand$Host" cT1 k) ∧ goodWord (u_lay "EveryHand$Host" cT1 k) = true := by
  intro k hk
  have h : ∀ k, k < 6 → lw_tbl[([229, 231, 233, 235, 237, 239] : List Nat).getD k 0]? = some (u_lay "EveryHand$Host" cT1 k) ∧ goodWord (u_lay "EveryHand$Host" cT1 k) = true := by decide +kernel
  exact ⟨_, h k hk⟩
theorem cI1 : ∀ w ∈ u_ws "EveryHand$Host" cT1 6, w ∈ GW := by
  intro w hw
  obtain ⟨k, hk, rfl⟩ := List.mem_map.mp hw
  obtain ⟨i, h1, h2⟩ := cW1 k (List.mem_range.mp hk)
  exact gw i h1 h2
theorem cN2 : ∀ a, a < 10 → ∀ b, b < 10 → a ≠ b → (cT2 a).2.1 ≠ (cT2 b).2.1 := by decide +kernel
theorem cO2 : ∀ k, k < 10 → parseFieldDescriptor (cT2 k).2.2.1 = some (cY2 k) := by decide +kernel
theorem cW2 : ∀ k, k < 10 → ∃ i : Nat, lw_tbl[i]? = some (u_lay "EveryHand$Town" cT2 k) ∧ goodWord (u_lay "EveryHand$Town" cT2 k) = true := by
  intro k hk
  have h : ∀ k, k < 10 → lw_tbl[([123, 125, 127, 129, 131, 133, 135, 137, 139, 141] : List Nat).getD k 0]? = some (u_lay "EveryHand$Town" cT2 k) ∧ goodWord (u_lay "EveryHand$Town" cT2 k) = true := by decide +kernel
  exact ⟨_, h k hk⟩
theorem cI2 : ∀ w ∈ u_ws "EveryHand$Town" cT2 10, w ∈ GW := by
  intro w hw
  obtain ⟨k, hk, rfl⟩ := List.mem_map.mp hw
  obtain ⟨i, h1, h2⟩ := cW2 k (List.mem_range.mp hk)
  exact gw i h1 h2
theorem cN3 : ∀ a, a < 4 → ∀ b, b < 4 → a ≠ b → (cT3 a).2.1 ≠ (cT3 b).2.1 := by decide +kernel
theorem cO3 : ∀ k, k < 4 → parseFieldDescriptor (cT3 k).2.2.1 = some (cY3 k) := by decide +kernel
theorem cW3 : ∀ k, k < 4 → ∃ i : Nat, lw_tbl[i]? = some (u_lay "EveryHand$TownText" cT3 k) ∧ goodWord (u_lay "EveryHand$TownText" cT3 k) = true := by
  intro k hk
  have h : ∀ k, k < 4 → lw_tbl[([157, 159, 161, 163] : List Nat).getD k 0]? = some (u_lay "EveryHand$TownText" cT3 k) ∧ goodWord (u_lay "EveryHand$TownText" cT3 k) = true := by decide +kernel
  exact ⟨_, h k hk⟩
theorem cI3 : ∀ w ∈ u_ws "EveryHand$TownText" cT3 4, w ∈ GW := by
  intro w hw
  obtain ⟨k, hk, rfl⟩ := List.mem_map.mp hw
  obtain ⟨i, h1, h2⟩ := cW3 k (List.mem_range.mp hk)
  exact gw i h1 h2
theorem cN4 : ∀ a, a < 3 → ∀ b, b < 3 → a ≠ b → (cT4 a).2.1 ≠ (cT4 b).2.1 := by decide +kernel
theorem cO4 : ∀ k, k < 3 → parseFieldDescriptor (cT4 k).2.2.1 = some (cY4 k) := by decide +kernel
theorem cW4 : ∀ k, k < 3 → ∃ i : Nat, lw_tbl[i]? = some (u_lay "EveryHand$Walks" cT4 k) ∧ goodWord (u_lay "EveryHand$Walks" cT4 k) = true := by
  intro k hk
  have h : ∀ k, k < 3 → lw_tbl[([175, 177, 179] : List Nat).getD k 0]? = some (u_lay "EveryHand$Walks" cT4 k) ∧ goodWord (u_lay "EveryHand$Walks" cT4 k) = true := by decide +kernel
  exact ⟨_, h k hk⟩
theorem cI4 : ∀ w ∈ u_ws "EveryHand$Walks" cT4 3, w ∈ GW := by
  intro w hw
  obtain ⟨k, hk, rfl⟩ := List.mem_map.mp hw
  obtain ⟨i, h1, h2⟩ := cW4 k (List.mem_range.mp hk)
  exact gw i h1 h2
theorem cN5 : ∀ a, a < 10 → ∀ b, b < 10 → a ≠ b → (cT5 a).2.1 ≠ (cT5 b).2.1 := by decide +kernel
theorem cO5 : ∀ k, k < 10 → parseFieldDescriptor (cT5 k).2.2.1 = some (cY5 k) := by decide +kernel
theorem cW5 : ∀ k, k < 10 → ∃ i : Nat, lw_tbl[i]? = some (u_lay "EveryHand" cT5 k) ∧ goodWord (u_lay "EveryHand" cT5 k) = true := by
  intro k hk
  have h : ∀ k, k < 10 → lw_tbl[([252, 254, 256, 258, 260, 262, 264, 266, 268, 270] : List Nat).getD k 0]? = some (u_lay "EveryHand" cT5 k) ∧ goodWord (u_lay "EveryHand" cT5 k) = true := by decide +kernel
  exact ⟨_, h k hk⟩
theorem cI5 : ∀ w ∈ u_ws "EveryHand" cT5 10, w ∈ GW := by
  intro w hw
  obtain ⟨k, hk, rfl⟩ := List.mem_map.mp hw
  obtain ⟨i, h1, h2⟩ := cW5 k (List.mem_range.mp hk)
  exact gw i h1 h2
theorem cN6 : ∀ a, a < 43 → ∀ b, b < 43 → a ≠ b → (cT6 a).2.1 ≠ (cT6 b).2.1 := by decide +kernel
theorem cO6 : ∀ k, k < 43 → parseFieldDescriptor (cT6 k).2.2.1 = some (cY6 k) := by decide +kernel
theorem cW6 : ∀ k, k < 43 → ∃ i : Nat, lw_tbl[i]? = some (u_lay "EveryHandModel" cT6 k) ∧ goodWord (u_lay "EveryHandModel" cT6 k) = true := by
  intro k hk
  have h : ∀ k, k < 43 → lw_tbl[([838, 840, 842, 844, 846, 848, 850, 852, 854, 856, 858, 860, 862, 864, 866, 868, 870, 872, 874, 876, 878, 880, 882, 884, 886, 888, 890, 892, 894, 896, 898, 900, 902, 904, 906, 908, 910, 912, 914, 916, 918, 920, 922] : List Nat).getD k 0]? = some (u_lay "EveryHandModel" cT6 k) ∧ goodWord (u_lay "EveryHandModel" cT6 k) = true := by decide +kernel
  exact ⟨_, h k hk⟩
theorem cI6 : ∀ w ∈ u_ws "EveryHandModel" cT6 43, w ∈ GW := by
  intro w hw
  obtain ⟨k, hk, rfl⟩ := List.mem_map.mp hw
  obtain ⟨i, h1, h2⟩ := cW6 k (List.mem_range.mp hk)
  exact gw i h1 h2
/-- what every class of the worlds has -/
theorem cAll : ∀ (ci : Nat) (q : vw_C), cls[ci]? = some q → (∀ w ∈ u_ws q.1 q.2.1 q.2.2, w ∈ GW) ∧ ∃ ty0 : Nat → FieldType, (∀ k, k < q.2.2 → parseFieldDescriptor (q.2.1 k).2.2.1 = some (ty0 k)) ∧ (∀ a, a < q.2.2 → ∀ b, b < q.2.2 → a ≠ b → (q.2.1 a).2.1 ≠ (q.2.1 b).2.1) := by
  intro ci q h
  match ci, h with
  | 0, h => cases h; exact ⟨cI0, cY0, cO0, cN0⟩
  | 1, h => cases h; exact ⟨cI1, cY1, cO1, cN1⟩
  | 2, h => cases h; exact ⟨cI2, cY2, cO2, cN2⟩
  | 3, h => cases h; exact ⟨cI3, cY3, cO3, cN3⟩
  | 4, h => cases h; exact ⟨cI4, cY4, cO4, cN4⟩
  | 5, h => cases h; exact ⟨cI5, cY5, cO5, cN5⟩
  | 6, h => cases h; exact ⟨cI6, cY6, cO6, cN6⟩
  | _ + 7, h => simp [cls] at h
/-- the cells by number: (class, 0), (7, n) an int array, (8, n) a long array, (9, n) an array of int arrays -/
def kdL : List (Nat × Nat) := [(5, 0), (2, 0), (7, 7), (7, 7), (7, 7), (7, 6), (7, 6), (7, 6), (7, 6), (2, 0), (7, 7), (7, 7), (7, 7), (7, 6), (7, 6), (7, 6), (7, 6), (2, 0), (7, 7), (7, 7), (7, 7), (7, 6), (7, 6), (7, 6), (7, 6), (3, 0), (7, 200), (4, 0), (7, 7), (7, 1024), (7, 21), (0, 0), (7, 30), (1, 0), (7, 4), (7, 4), (9, 4), (7, 40), (7, 40), (7, 40), (7, 40), (7, 4), (7, 4), (7, 4), (6, 0), (7, 7), (7, 7), (7, 7), (7, 24), (7, 200), (7, 7), (7, 7), (7, 24), (7, 896), (7, 896), (7, 896), (7, 21), (7, 21), (7, 4), (7, 4), (8, 160), (7, 4), (7, 4), (7, 4), (7, 30), (7, 60), (7, 3)]
def kd (k : Nat) : Nat × Nat := kdL.getD k (99, 0)
/-- what the fields of a class are: 0 an int, 1 a long, 2 a reference that changes, n + 3 the cell n places on -/
def fcL : List (List Nat) := [[4, 0, 0, 0, 0, 0], [4, 5, 6, 11, 12, 13], [0, 0, 0, 4, 5, 6, 7, 8, 9, 10], [4, 0, 0, 0], [4, 5, 0], [2, 2, 20, 0, 28, 30, 33, 0, 34, 36], [0, 4, 5, 6, 0, 7, 0, 8, 0, 0, 0, 0, 1, 0, 0, 0, 0, 9, 10, 11, 12, 13, 14, 15, 0, 16, 0, 17, 18, 19, 20, 21, 22, 0, 0, 0, 23, 0, 0, 0, 24, 0, 25]]
def fc (ci : Nat) : List Nat := fcL.getD ci []
theorem kd_lt {k : Nat} {q : Nat × Nat} (h : kd k = q) (hq : q.1 < 99) : k < 67 := by
  rcases Nat.lt_or_ge k 67 with g | g
  · exact g
  · exfalso
    have e : kd k = (99, 0) := by
      unfold kd
      rw [List.getD_eq_getElem?_getD, List.getElem?_eq_none (show kdL.length ≤ k from g)]
      rfl
    rw [e] at h
    rw [← h] at hq
    exact absurd hq (by decide)
end
section
/-! the state of all cells, the worlds that hold it, and the judgement V: the machine at a place of a method, over a state -/
abbrev St : Type := (Nat → Nat → Int32) × (Nat → Nat → Int64) × (Nat → Nat)
def gI (σ : St) (k j : Nat) : Int32 := σ.1 k j
def gL (σ : St) (k j : Nat) : Int64 := σ.2.1 k j
def gR (σ : St) (j : Nat) : Nat := σ.2.2 j
def sI (σ : St) (k j : Nat) (v : Int32) : St := (fun a b => if a = k ∧ b = j then v else σ.1 a b, σ.2)
def sL (σ : St) (k j : Nat) (v : Int64) : St := (σ.1, fun a b => if a = k ∧ b = j then v else σ.2.1 a b, σ.2.2)
def sR (σ : St) (j : Nat) (v : Nat) : St := (σ.1, σ.2.1, fun b => if b = j then v else σ.2.2 b)
/-- the first n ints of cell a become those of cell b -/
def cpI (σ : St) (a b n : Nat) : St := (fun x j => if x = b ∧ j < n then σ.1 a j else σ.1 x j, σ.2)
/-- addresses by number; classes; the classes of int[], long[], int[][] -/
abbrev Ev : Type := (Nat → Nat) × va_G × ClassId × ClassId × ClassId
def cv (E : Ev) (v : Value) : Value := match v with
  | .ref k => .ref (E.1 k)
  | w => w
def cvp (E : Ev) (q : Nat × Value) : Nat × Value := (q.1, cv E q.2)
def fval (E : Ev) (σ : St) (k j c : Nat) : Value := match c with
  | 0 => .int (gI σ k j)
  | 1 => .long (gL σ k j)
  | 2 => .ref (E.1 (gR σ j))
  | n + 3 => .ref (E.1 (k + n))
def flds (E : Ev) (σ : St) (k ci : Nat) : List Value := (List.range (fc ci).length).map (fun j => fval E σ k j ((fc ci).getD j 0))
def cel (E : Ev) (σ : St) (k : Nat) : va_E := match kd k with
  | (7, n) => .inl (E.2.2.1, n, .inl (σ.1 k))
  | (8, n) => .inl (E.2.2.2.1, n, .inr (.inl (σ.2.1 k)))
  | (9, n) => .inl (E.2.2.2.2, n, .inr (.inr (.inr (.inr (fun i => if i < n then some (E.1 (k + 1 + i)) else none)))))
  | (ci, _) => .inr (ci, flds E σ k ci)
def wsO (E : Ev) (σ : St) : va_W := (List.range 67).map (fun k => (E.1 k, cel E σ k))
def AA (E : Ev) : Nat → Prop := fun q => ∃ k, k < 67 ∧ q = E.1 k
theorem wsO_at {E : Ev} {σ : St} {k : Nat} (h : k < 67) : (wsO E σ)[k]? = some (E.1 k, cel E σ k) := by
  unfold wsO
  rw [List.getElem?_map, List.getElem?_range h]
  rfl
theorem wsO_len (E : Ev) (σ : St) : (wsO E σ).length = 67 := by simp [wsO]
theorem wsO_set {E : Ev} {σ σ' : St} {k : Nat} {e : va_E} (h : k < 67) (he : cel E σ' k = e) (ho : ∀ j, j ≠ k → cel E σ' j = cel E σ j) : (wsO E σ).set k (E.1 k, e) = wsO E σ' := by
  apply List.ext_getElem?
  intro i
  rw [List.getElem?_set]
  by_cases hi : k = i
  · subst hi
    rw [if_pos rfl, if_pos (by rw [wsO_len]; exact h), wsO_at h, he]
  · rw [if_neg hi]
    by_cases hl : i < 67
    · rw [wsO_at hl, wsO_at hl, ho i (fun z => hi z.symm)]
    · rw [List.getElem?_eq_none (by rw [wsO_len]; omega), List.getElem?_eq_none (by rw [wsO_len]; omega)]
/-- the addresses of the cells are apart -/
def Inj (E : Ev) : Prop := ∀ i j, i < 67 → j < 67 → E.1 i = E.1 j → i = j
theorem wsO_D {E : Ev} {σ : St} (h : Inj E) : va_D (AA E) (wsO E σ) := by
  refine ⟨fun i j p q hp hq e => ?_, fun k q hq => ?_⟩
  · have hi : i < 67 := by have := (List.getElem?_eq_some_iff.mp hp).1; rwa [wsO_len] at this
    have hj : j < 67 := by have := (List.getElem?_eq_some_iff.mp hq).1; rwa [wsO_len] at this
    rw [wsO_at hi] at hp
    rw [wsO_at hj] at hq
    cases hp
    cases hq
    exact h i j hi hj e
  · have hk : k < 67 := by have := (List.getElem?_eq_some_iff.mp hq).1; rwa [wsO_len] at this
    rw [wsO_at hk] at hq
    cases hq
    exact ⟨k, hk, rfl⟩
/-- the tables of the class: UNDER (cell 300), OWN (cell 301) -/
def tUN : List Int32 := [-1, 0, 0, 1, 2, 0]
def tOW : List Int32 := [10, 11, 12, 13, 0, 20, 0, 0, 30, 0, 0, 31, 51, 0, 50, 0, 40, 41, 0, 0, 0, 0, 61, 60]
/-- the texts: cells 100 + i, their bytes in cells 150 + i -/
def tTX : List (Nat × String) := [(37, "person"), (92, ";"), (46, "know"), (102, "coin"), (104, "half"), (106, "crown"), (108, "false"), (110, "blessed"), (112, "worn"), (81, "of"), (87, "had"), (96, ",")]
def tBY : List (List Int32) := [[112, 101, 114, 115, 111, 110], [59], [107, 110, 111, 119], [99, 111, 105, 110], [104, 97, 108, 102], [99, 114, 111, 119, 110], [102, 97, 108, 115, 101], [98, 108, 101, 115, 115, 101, 100], [119, 111, 114, 110], [111, 102], [104, 97, 100], [44]]
def tLN : List Nat := [6, 1, 4, 4, 4, 5, 5, 7, 4, 2, 3, 1]
def nF1 : Cond := .fieldLinkNest "EveryHand$Acts" 51 "EveryHand" "UNDER" "[I" "EveryHand"
def nM1 : Cond := .methodLinkNest "EveryHand$Town" 49 ⟨"EveryHand", "holds", "(II)Z"⟩ "EveryHand"
def nM2 : Cond := .methodLinkNest "EveryHand$Walks" 35 ⟨"EveryHand", "holds", "(II)Z"⟩ "EveryHand"
/-- what doesn't change: classes, tables, texts -/
def EN (E : Ev) (U : State) : Prop :=
  Inj E ∧ va_K E.2.1 cls [(E.2.2.1, .int), (E.2.2.2.1, .long), (E.2.2.2.2, .array .int)] U ∧
  (va_Z "EveryHand" "UNDER" "[I" (.ref (E.1 300)) (AA E) U U.heap ∧ va_T .int (E.1 300) 6 (fun j => .int (tUN.getD j 0)) (AA E) U U.heap) ∧
  (va_Z "EveryHand$Acts" "OWN" "[I" (.ref (E.1 301)) (AA E) U U.heap ∧ va_T .int (E.1 301) 24 (fun j => .int (tOW.getD j 0)) (AA E) U U.heap) ∧
  va_Z "java/lang/String" "COMPACT_STRINGS" "Z" (.int 1) (AA E) U U.heap ∧
  vk_S 12 tLN tBY (fun i => E.1 (100 + i)) (fun i => E.1 (150 + i)) (AA E) U U.heap ∧
  (∀ i, i < 12 → vk_R "EveryHand$TownText" (tTX.getD i (0, "")).1 (tTX.getD i (0, "")).2 (E.1 (100 + i)) U) ∧
  va_Nw nF1 U ∧ va_Nw nM1 U ∧ va_Nw nM2 U
theorem EN.go {E : Ev} {s U : State} {locs : List Loc} (h : EN E s) (hW : s.WarmedH U.vm) (hS : va_S (AA E) s.heap U.heap locs) : EN E U := by
  obtain ⟨h1, h2, ⟨h3, h4⟩, ⟨h5, h6⟩, h7, h8, h9, h10, h11, h12⟩ := h
  have ha := hW.alike
  exact ⟨h1, va_K.moved ha h2, ⟨(va_Z.moved ha h3).kept hS.2.1, (va_T.moved ha h4).kept hS.2.1⟩, ⟨(va_Z.moved ha h5).kept hS.2.1, (va_T.moved ha h6).kept hS.2.1⟩, (va_Z.moved ha h7).kept hS.2.1, (vk_S.moved ha h8).kept hS.2.1, fun i hi => (h9 i hi).warm hW, va_Nw.warmF hW h10, va_Nw.warmM hW h11, va_Nw.warmM hW h12⟩
theorem EN.blind {E : Ev} {U : State} {g : JFrame} {mk : MethodId} {a : Array Value} (h : EN E U) : EN E (U.calling g mk a) := by
  obtain ⟨h1, h2, ⟨h3, h4⟩, ⟨h5, h6⟩, h7, h8, h9, h10, h11, h12⟩ := h
  have ha : U.vm.Alike (U.calling g mk a).vm := Vm.Alike.refl U.vm
  exact ⟨h1, va_K.moved ha h2, ⟨va_Z.moved ha h3, va_T.moved ha h4⟩, ⟨va_Z.moved ha h5, va_T.moved ha h6⟩, va_Z.moved ha h7, vk_S.moved ha h8, fun i hi => (h9 i hi).same rfl, va_Nw.same rfl rfl h10, va_Nw.same rfl rfl h11, va_Nw.same rfl rfl h12⟩
/-- a method's start: the world of σ; its end: an answer, the world of the state behind it, nothing else changed -/
def Pw (E : Ev) (σ : St) (U : State) : Prop := va_P E.2.1 cls (wsO E σ) U.heap ∧ EN E U
def QZ (E : Ev) (z : Option Value × St) : Array Value → State → Outcome → State → Prop := fun _ st oc t => oc = .returned z.1 ∧ va_P E.2.1 cls (wsO E z.2) t.heap ∧ va_F (AA E) st t
/-- the contract of a method -/
def Ct (M : MI) (E : Ev) (As : List Value) (σ : St) (z : Option Value × St) : Prop :=
  ∀ l : Launch, Met l M.2.2.2.1 (Cond.code M.2.2.2.1 M.1 M.2.1 M.2.2.1 :: GW) M.2.2.2.2 (va_Pc (As.map (cv E)) (Pw E σ)) (QZ E z) 0 0 (AA E)
/-- how a walk ends, the cells and slots used ahead of it, what else is known of its start -/
abbrev VF : Type := (List Frame → Array Value → State → State → Prop) × Nat × Nat × (State → Prop)
def FM (E : Ev) (z : Option Value × St) : VF := (fun below args s => MQ below (QZ E z) args s 0 0 (AA E), 0, 0, fun _ => True)
def Cx (E : Ev) (M : MI) (F : VF) (p : Program) (s : State) (m : MethodId) (args : Array Value) (meth : Method) (c : Code) : Prop :=
  p.tables.exec = Jvm.exec ∧ c.code = M.1 ∧ c.maxLocals = M.2.1 ∧ meth.sig.returnType = M.2.2.1 ∧ meth.locks = false ∧ s.vm.findClass M.2.2.2.1.cls = some m.cls ∧ (∀ w ∈ GW, w.before args s = true) ∧ EN E s ∧ F.2.2.2 s
def V (E : Ev) (M : MI) (F : VF) (pc : Nat) (ls : List (Nat × Value)) (st : List Value) (σ : St) : Prop :=
  ∀ (p : Program) (l : Launch) (e : Env) (s : State) (m : MethodId) (args : Array Value) (below : List Frame) (meth : Method) (c : Code), Cx E M F p s m args meth c →
    ∀ (H : Heap) (locs : List Loc) (la : Array Slot), va_P E.2.1 cls (wsO E σ) H → va_S (AA E) s.heap H locs → lv_has la M.2.1 (ls.map (cvp E)) →
      W p l e M.2.2.2.2 s m args below meth c H locs F.2.1 F.2.2.1 (F.1 below args s) (F0 m pc la (st.map (cv E)))
theorem cv_cat (E : Ev) (v : Value) : (cv E v).category = v.category := by cases v <;> rfl
theorem lv_args_cv (E : Ev) : ∀ (As : List Value) (i : Nat), lv_args i (As.map (cv E)) = (lv_args i As).map (cvp E)
  | [], _ => rfl
  | v :: vs, i => by
    show (i, cv E v) :: lv_args (if (cv E v).category = 2 then i + 2 else i + 1) (vs.map (cv E)) = _
    rw [cv_cat, lv_args_cv E vs]
    rfl
theorem lg_sl_cv (E : Ev) (As : List Value) : (lg_sl (As.map (cv E))).length = (lg_sl As).length := by
  unfold lg_sl
  induction As with
  | nil => rfl
  | cons v vs ih =>
    rw [List.map_cons, List.flatMap_cons, List.flatMap_cons, List.length_append, List.length_append, ih, cv_cat]
    split <;> rfl
/-- a contract out of a walk -/
theorem Ct.of {M : MI} {E : Ev} {As : List Value} {σ : St} {z : Option Value × St} (hy : plainName M.2.2.2.1.cls = true) (hn : (lg_sl As).length ≤ M.2.1) (h : V E M (FM E z) 0 (lv_args 0 As) [] σ) : Ct M E As σ z := by
  intro l
  refine Met.ofW (cc := M.1) (maxL := M.2.1) (ret := M.2.2.1) hy rfl ?_
  intro p e s m args below meth c s₁ B hml hv
  obtain ⟨rfl, hP, hE⟩ := hv
  have hts := atoms_spec (ws := Cond.code M.2.2.2.1 M.1 M.2.1 M.2.2.1 :: GW) B.pre
  have hl := lv_entry (As.map (cv E)) (n := M.2.1) (by rw [lg_sl_cv]; exact hn)
  rw [lv_args_cv] at hl
  rw [lg_entry_eq]
  exact h p l e s m _ below meth c ⟨B.exec, B.bytes, hml, B.returns, B.notSynchronized, findClass_of_methodNamed B.named, fun w hw => hts w (List.mem_cons_of_mem _ hw), hE, trivial⟩ s.heap [] _ hP va_S.rf hl
end
section
/-! a row an instruction, over V -/
section RW
variable {E : Ev} {M : MI} {F : VF} {pc n : Nat} {ls : List (Nat × Value)} {st : List Value} {σ : St}
theorem V.eqn {pc' : Nat} {ls' : List (Nat × Value)} {st' : List Value} {σ' : St} (k : V E M F pc' ls' st' σ') (h1 : pc = pc') (h2 : ls = ls') (h3 : st = st') (h4 : σ = σ') : V E M F pc ls st σ := by
  subst h1; subst h2; subst h3; subst h4; exact k
/-- fewer locals, in another order -/
theorem V.sub (ks : List Nat) {ls' : List (Nat × Value)} (h : lv_pick ls ks = ls') (k : V E M F pc ls' st σ) : V E M F pc ls st σ := by
  intro p l e s m args below meth c C H locs la hP hS hl
  refine k p l e s m args below meth c C H locs la hP hS ?_
  refine lv_sub hl ks ?_
  rw [← h]
  unfold lv_pick
  clear h
  induction ks with
  | nil => rfl
  | cons a as ih =>
    rw [List.filterMap_cons, List.filterMap_cons, List.getElem?_map]
    cases ls[a]? with
    | none => exact ih
    | some q => exact congrArg (fun x => cvp E q :: x) ih
theorem la_at {la : Array Slot} {nL : Nat} (hl : lv_has la nL (ls.map (cvp E))) (k : Nat) {i : Nat} {v : Value} (h : ls[k]? = some (i, v)) : la[i]? = some (.val (cv E v)) :=
  lv_at hl k (by rw [List.getElem?_map, h]; rfl)
theorem V.iconst {j : Int} (v : Int32) (hd : decode M.1 pc = .ok (.iconst j, 1)) (hv : Int32.ofInt j = v) (hn : pc + 1 = n) (k : V E M F n ls (.int v :: st) σ) : V E M F pc ls st σ := by
  subst hn; intro p l e s m args below meth c C H locs la hP hS hl
  exact lv_iconst C.1 C.2.1 hd hv (k p l e s m args below meth c C H locs la hP hS hl)
theorem V.bipush {j : Int} (v : Int32) (hd : decode M.1 pc = .ok (.bipush j, 2)) (hv : (Int8.ofInt j).toInt32 = v) (hn : pc + 2 = n) (k : V E M F n ls (.int v :: st) σ) : V E M F pc ls st σ := by
  subst hn; intro p l e s m args below meth c C H locs la hP hS hl
  exact lv_bipush C.1 C.2.1 hd hv (k p l e s m args below meth c C H locs la hP hS hl)
theorem V.sipush {j : Int} (v : Int32) (hd : decode M.1 pc = .ok (.sipush j, 3)) (hv : (Int16.ofInt j).toInt32 = v) (hn : pc + 3 = n) (k : V E M F n ls (.int v :: st) σ) : V E M F pc ls st σ := by
  subst hn; intro p l e s m args below meth c C H locs la hP hS hl
  exact lv_sipush C.1 C.2.1 hd hv (k p l e s m args below meth c C H locs la hP hS hl)
theorem V.lconst {j : Fin 2} (v : Int64) (hd : decode M.1 pc = .ok (.lconst j, 1)) (hv : Int64.ofNat j.val = v) (hn : pc + 1 = n) (k : V E M F n ls (.long v :: st) σ) : V E M F pc ls st σ := by
  subst hn; intro p l e s m args below meth c C H locs la hP hS hl
  exact lv_lconst C.1 C.2.1 hd hv (k p l e s m args below meth c C H locs la hP hS hl)
theorem V.ldc {ix : Nat} (v : Int32) (hd : decode M.1 pc = .ok (.ldc ix, 2)) (hw : Cond.constant M.2.2.2.1.cls ix v ∈ GW) (hn : pc + 2 = n) (k : V E M F n ls (.int v :: st) σ) : V E M F pc ls st σ := by
  subst hn; intro p l e s m args below meth c C H locs la hP hS hl
  exact lv_ldc C.1 C.2.1 C.2.2.2.2.2.1 (C.2.2.2.2.2.2.1 _ hw) hd (k p l e s m args below meth c C H locs la hP hS hl)
theorem V.ldcw {ix : Nat} (v : Int32) (hd : decode M.1 pc = .ok (.ldc_w ix, 3)) (hw : Cond.constant M.2.2.2.1.cls ix v ∈ GW) (hn : pc + 3 = n) (k : V E M F n ls (.int v :: st) σ) : V E M F pc ls st σ := by
  subst hn; intro p l e s m args below meth c C H locs la hP hS hl
  exact lv_ldcw C.1 C.2.1 C.2.2.2.2.2.1 (C.2.2.2.2.2.2.1 _ hw) hd (k p l e s m args below meth c C H locs la hP hS hl)
theorem V.ldc2 {ix : Nat} (v : Int64) (hd : decode M.1 pc = .ok (.ldc2_w ix, 3)) (hw : Cond.constantLong M.2.2.2.1.cls ix v ∈ GW) (hn : pc + 3 = n) (k : V E M F n ls (.long v :: st) σ) : V E M F pc ls st σ := by
  subst hn; intro p l e s m args below meth c C H locs la hP hS hl
  exact lv_ldc2 C.1 C.2.1 C.2.2.2.2.2.1 (C.2.2.2.2.2.2.1 _ hw) hd (k p l e s m args below meth c C H locs la hP hS hl)
theorem V.ldcS {ix : Nat} (i : Nat) {tx : String} (hi : i < 12) (hx : tTX.getD i (0, "") = (ix, tx)) (ho : M.2.2.2.1.cls = "EveryHand$TownText") (hd : decode M.1 pc = .ok (.ldc ix, 2)) (hn : pc + 2 = n) (k : V E M F n ls (.ref (100 + i) :: st) σ) : V E M F pc ls st σ := by
  subst hn; intro p l e s m args below meth c C H locs la hP hS hl
  have h := C.2.2.2.2.2.2.2.1.2.2.2.2.2.2.1 i hi
  rw [hx] at h
  exact va_ldcS C.1 C.2.1 (own := "EveryHand$TownText") (by rw [← ho]; exact C.2.2.2.2.2.1) h hd (k p l e s m args below meth c C H locs la hP hS hl)
theorem V.iloadn (q : Nat) {i : Fin 4} {x : Int32} (hd : decode M.1 pc = .ok (.iload_n i, 1)) (hq : ls[q]? = some (i.val, .int x)) (hn : pc + 1 = n) (k : V E M F n ls (.int x :: st) σ) : V E M F pc ls st σ := by
  subst hn; intro p l e s m args below meth c C H locs la hP hS hl
  exact lv_iload_n C.1 C.2.1 hd rfl (la_at hl q hq) (k p l e s m args below meth c C H locs la hP hS hl)
theorem V.iload (q : Nat) {i : Nat} {x : Int32} (hd : decode M.1 pc = .ok (.iload i, 2)) (hq : ls[q]? = some (i, .int x)) (hn : pc + 2 = n) (k : V E M F n ls (.int x :: st) σ) : V E M F pc ls st σ := by
  subst hn; intro p l e s m args below meth c C H locs la hP hS hl
  exact lv_iload C.1 C.2.1 hd (la_at hl q hq) (k p l e s m args below meth c C H locs la hP hS hl)
theorem V.lloadn (q : Nat) {i : Fin 4} {x : Int64} (hd : decode M.1 pc = .ok (.lload_n i, 1)) (hq : ls[q]? = some (i.val, .long x)) (hn : pc + 1 = n) (k : V E M F n ls (.long x :: st) σ) : V E M F pc ls st σ := by
  subst hn; intro p l e s m args below meth c C H locs la hP hS hl
  exact lv_lload_n C.1 C.2.1 hd rfl (la_at hl q hq) (k p l e s m args below meth c C H locs la hP hS hl)
theorem V.lload (q : Nat) {i : Nat} {x : Int64} (hd : decode M.1 pc = .ok (.lload i, 2)) (hq : ls[q]? = some (i, .long x)) (hn : pc + 2 = n) (k : V E M F n ls (.long x :: st) σ) : V E M F pc ls st σ := by
  subst hn; intro p l e s m args below meth c C H locs la hP hS hl
  exact lv_lload C.1 C.2.1 hd (la_at hl q hq) (k p l e s m args below meth c C H locs la hP hS hl)
theorem V.aloadn (q : Nat) {i : Fin 4} {x : Nat} (hd : decode M.1 pc = .ok (.aload_n i, 1)) (hq : ls[q]? = some (i.val, .ref x)) (hn : pc + 1 = n) (k : V E M F n ls (.ref x :: st) σ) : V E M F pc ls st σ := by
  subst hn; intro p l e s m args below meth c C H locs la hP hS hl
  exact lv_aload_n C.1 C.2.1 hd rfl (la_at hl q hq) (k p l e s m args below meth c C H locs la hP hS hl)
theorem V.aload (q : Nat) {i : Nat} {x : Nat} (hd : decode M.1 pc = .ok (.aload i, 2)) (hq : ls[q]? = some (i, .ref x)) (hn : pc + 2 = n) (k : V E M F n ls (.ref x :: st) σ) : V E M F pc ls st σ := by
  subst hn; intro p l e s m args below meth c C H locs la hP hS hl
  exact lv_aload C.1 C.2.1 hd (la_at hl q hq) (k p l e s m args below meth c C H locs la hP hS hl)
theorem fl_cv1 (i : Nat) : ((ls.map (cvp E)).filter (fun q => !(q.1 == i) && !(q.1 + 1 == i && q.2.category == 2))) = (ls.filter (fun q => !(q.1 == i) && !(q.1 + 1 == i && q.2.category == 2))).map (cvp E) := by
  rw [List.filter_map]
  congr 1
  apply List.filter_congr
  intro q _
  show (!(q.1 == i) && !(q.1 + 1 == i && (cv E q.2).category == 2)) = _
  rw [cv_cat]
theorem fl_cv2 (i : Nat) : ((ls.map (cvp E)).filter (fun q => !(q.1 == i) && (!(q.1 == i + 1) && !(q.1 + 1 == i && q.2.category == 2)))) = (ls.filter (fun q => !(q.1 == i) && (!(q.1 == i + 1) && !(q.1 + 1 == i && q.2.category == 2)))).map (cvp E) := by
  rw [List.filter_map]
  congr 1
  apply List.filter_congr
  intro q _
  show (!(q.1 == i) && (!(q.1 == i + 1) && !(q.1 + 1 == i && (cv E q.2).category == 2))) = _
  rw [cv_cat]
theorem V.istoren {i : Fin 4} {x : Int32} (ls' : List (Nat × Value)) (hd : decode M.1 pc = .ok (.istore_n i, 1)) (hi : i.val < M.2.1) (hf : (i.val, Value.int x) :: ls.filter (fun q => !(q.1 == i.val) && !(q.1 + 1 == i.val && q.2.category == 2)) = ls') (hn : pc + 1 = n) (k : V E M F n ls' st σ) : V E M F pc ls (.int x :: st) σ := by
  subst hn; intro p l e s m args below meth c C H locs la hP hS hl
  exact lv_istore_n C.1 C.2.1 hd rfl hl hi (by rw [fl_cv1, ← hf]; rfl) (fun la' hl' => k p l e s m args below meth c C H locs la' hP hS hl')
theorem V.istore {i : Nat} {x : Int32} (ls' : List (Nat × Value)) (hd : decode M.1 pc = .ok (.istore i, 2)) (hi : i < M.2.1) (hf : (i, Value.int x) :: ls.filter (fun q => !(q.1 == i) && !(q.1 + 1 == i && q.2.category == 2)) = ls') (hn : pc + 2 = n) (k : V E M F n ls' st σ) : V E M F pc ls (.int x :: st) σ := by
  subst hn; intro p l e s m args below meth c C H locs la hP hS hl
  exact lv_istore C.1 C.2.1 hd hl hi (by rw [fl_cv1, ← hf]; rfl) (fun la' hl' => k p l e s m args below meth c C H locs la' hP hS hl')
theorem V.lstoren {i : Fin 4} {x : Int64} (ls' : List (Nat × Value)) (hd : decode M.1 pc = .ok (.lstore_n i, 1)) (hi : i.val + 1 < M.2.1) (hf : (i.val, Value.long x) :: ls.filter (fun q => !(q.1 == i.val) && (!(q.1 == i.val + 1) && !(q.1 + 1 == i.val && q.2.category == 2))) = ls') (hn : pc + 1 = n) (k : V E M F n ls' st σ) : V E M F pc ls (.long x :: st) σ := by
  subst hn; intro p l e s m args below meth c C H locs la hP hS hl
  exact lv_lstore_n C.1 C.2.1 hd rfl hl hi (by rw [fl_cv2, ← hf]; rfl) (fun la' hl' => k p l e s m args below meth c C H locs la' hP hS hl')
theorem V.lstore {i : Nat} {x : Int64} (ls' : List (Nat × Value)) (hd : decode M.1 pc = .ok (.lstore i, 2)) (hi : i + 1 < M.2.1) (hf : (i, Value.long x) :: ls.filter (fun q => !(q.1 == i) && (!(q.1 == i + 1) && !(q.1 + 1 == i && q.2.category == 2))) = ls') (hn : pc + 2 = n) (k : V E M F n ls' st σ) : V E M F pc ls (.long x :: st) σ := by
  subst hn; intro p l e s m args below meth c C H locs la hP hS hl
  exact lv_lstore C.1 C.2.1 hd hl hi (by rw [fl_cv2, ← hf]; rfl) (fun la' hl' => k p l e s m args below meth c C H locs la' hP hS hl')
theorem V.astoren {i : Fin 4} {x : Nat} (ls' : List (Nat × Value)) (hd : decode M.1 pc = .ok (.astore_n i, 1)) (hi : i.val < M.2.1) (hf : (i.val, Value.ref x) :: ls.filter (fun q => !(q.1 == i.val) && !(q.1 + 1 == i.val && q.2.category == 2)) = ls') (hn : pc + 1 = n) (k : V E M F n ls' st σ) : V E M F pc ls (.ref x :: st) σ := by
  subst hn; intro p l e s m args below meth c C H locs la hP hS hl
  exact lv_astore_n C.1 C.2.1 hd rfl hl hi (by rw [fl_cv1, ← hf]; rfl) (fun la' hl' => k p l e s m args below meth c C H locs la' hP hS hl')
theorem V.iinc (q : Nat) {i : Nat} {j : Int} {x v : Int32} (ls' : List (Nat × Value)) (hd : decode M.1 pc = .ok (.iinc i j, 3)) (hq : ls[q]? = some (i, .int x)) (hv : x + Int32.ofInt j = v) (hi : i < M.2.1) (hf : (i, Value.int v) :: ls.filter (fun q => !(q.1 == i) && !(q.1 + 1 == i && q.2.category == 2)) = ls') (hn : pc + 3 = n) (k : V E M F n ls' st σ) : V E M F pc ls st σ := by
  subst hn; intro p l e s m args below meth c C H locs la hP hS hl
  exact lv_iinc C.1 C.2.1 hd hl (k := q) (x := x) (by rw [List.getElem?_map, hq]; rfl) hv hi (by rw [fl_cv1, ← hf]; rfl) (fun la' hl' => k p l e s m args below meth c C H locs la' hP hS hl')
theorem V.iadd {x y : Int32} (hd : decode M.1 pc = .ok (.iadd, 1)) (hn : pc + 1 = n) (k : V E M F n ls (.int (x + y) :: st) σ) : V E M F pc ls (.int y :: .int x :: st) σ := by
  subst hn; intro p l e s m args below meth c C H locs la hP hS hl
  exact lv_iadd C.1 C.2.1 hd (k p l e s m args below meth c C H locs la hP hS hl)
theorem V.isub {x y : Int32} (hd : decode M.1 pc = .ok (.isub, 1)) (hn : pc + 1 = n) (k : V E M F n ls (.int (x - y) :: st) σ) : V E M F pc ls (.int y :: .int x :: st) σ := by
  subst hn; intro p l e s m args below meth c C H locs la hP hS hl
  exact lv_isub C.1 C.2.1 hd (k p l e s m args below meth c C H locs la hP hS hl)
theorem V.imul {x y : Int32} (hd : decode M.1 pc = .ok (.imul, 1)) (hn : pc + 1 = n) (k : V E M F n ls (.int (x * y) :: st) σ) : V E M F pc ls (.int y :: .int x :: st) σ := by
  subst hn; intro p l e s m args below meth c C H locs la hP hS hl
  exact lv_imul C.1 C.2.1 hd (k p l e s m args below meth c C H locs la hP hS hl)
theorem V.iand {x y : Int32} (hd : decode M.1 pc = .ok (.iand, 1)) (hn : pc + 1 = n) (k : V E M F n ls (.int (x &&& y) :: st) σ) : V E M F pc ls (.int y :: .int x :: st) σ := by
  subst hn; intro p l e s m args below meth c C H locs la hP hS hl
  exact lv_iand C.1 C.2.1 hd (k p l e s m args below meth c C H locs la hP hS hl)
theorem V.ior {x y : Int32} (hd : decode M.1 pc = .ok (.ior, 1)) (hn : pc + 1 = n) (k : V E M F n ls (.int (x ||| y) :: st) σ) : V E M F pc ls (.int y :: .int x :: st) σ := by
  subst hn; intro p l e s m args below meth c C H locs la hP hS hl
  exact lv_ior C.1 C.2.1 hd (k p l e s m args below meth c C H locs la hP hS hl)
theorem V.ixor {x y : Int32} (hd : decode M.1 pc = .ok (.ixor, 1)) (hn : pc + 1 = n) (k : V E M F n ls (.int (x ^^^ y) :: st) σ) : V E M F pc ls (.int y :: .int x :: st) σ := by
  subst hn; intro p l e s m args below meth c C H locs la hP hS hl
  exact lv_ixor C.1 C.2.1 hd (k p l e s m args below meth c C H locs la hP hS hl)
theorem V.ishl {x y : Int32} (hd : decode M.1 pc = .ok (.ishl, 1)) (hn : pc + 1 = n) (k : V E M F n ls (.int (x <<< (y &&& 31)) :: st) σ) : V E M F pc ls (.int y :: .int x :: st) σ := by
  subst hn; intro p l e s m args below meth c C H locs la hP hS hl
  exact lv_ishl C.1 C.2.1 hd (k p l e s m args below meth c C H locs la hP hS hl)
theorem V.ishr {x y : Int32} (hd : decode M.1 pc = .ok (.ishr, 1)) (hn : pc + 1 = n) (k : V E M F n ls (.int (x >>> (y &&& 31)) :: st) σ) : V E M F pc ls (.int y :: .int x :: st) σ := by
  subst hn; intro p l e s m args below meth c C H locs la hP hS hl
  exact lv_ishr C.1 C.2.1 hd (k p l e s m args below meth c C H locs la hP hS hl)
/-- the unsigned shift -/
def ush (x y : Int32) : Int32 := (x.toUInt32 >>> (y.toUInt32 &&& Int32.toUInt32 31)).toInt32
def ushL (x : Int64) (y : Int32) : Int64 := (x.toUInt64 >>> (y.toInt64.toUInt64 &&& Int64.toUInt64 63)).toInt64
theorem V.iushr {x y : Int32} (hd : decode M.1 pc = .ok (.iushr, 1)) (hn : pc + 1 = n) (k : V E M F n ls (.int (ush x y) :: st) σ) : V E M F pc ls (.int y :: .int x :: st) σ := by
  subst hn; intro p l e s m args below meth c C H locs la hP hS hl
  exact lv_iushr C.1 C.2.1 hd rfl (k p l e s m args below meth c C H locs la hP hS hl)
theorem V.idiv {x y : Int32} (hd : decode M.1 pc = .ok (.idiv, 1)) (hy : ¬ y = 0) (hn : pc + 1 = n) (k : V E M F n ls (.int (x / y) :: st) σ) : V E M F pc ls (.int y :: .int x :: st) σ := by
  subst hn; intro p l e s m args below meth c C H locs la hP hS hl
  exact lv_idiv C.1 C.2.1 hd hy (k p l e s m args below meth c C H locs la hP hS hl)
theorem V.irem {x y : Int32} (hd : decode M.1 pc = .ok (.irem, 1)) (hy : ¬ y = 0) (hn : pc + 1 = n) (k : V E M F n ls (.int (x - x / y * y) :: st) σ) : V E M F pc ls (.int y :: .int x :: st) σ := by
  subst hn; intro p l e s m args below meth c C H locs la hP hS hl
  exact lv_irem C.1 C.2.1 hd hy (k p l e s m args below meth c C H locs la hP hS hl)
theorem V.ladd {x y : Int64} (hd : decode M.1 pc = .ok (.ladd, 1)) (hn : pc + 1 = n) (k : V E M F n ls (.long (x + y) :: st) σ) : V E M F pc ls (.long y :: .long x :: st) σ := by
  subst hn; intro p l e s m args below meth c C H locs la hP hS hl
  exact lv_ladd C.1 C.2.1 hd (k p l e s m args below meth c C H locs la hP hS hl)
theorem V.lsub {x y : Int64} (hd : decode M.1 pc = .ok (.lsub, 1)) (hn : pc + 1 = n) (k : V E M F n ls (.long (x - y) :: st) σ) : V E M F pc ls (.long y :: .long x :: st) σ := by
  subst hn; intro p l e s m args below meth c C H locs la hP hS hl
  exact lv_lsub C.1 C.2.1 hd (k p l e s m args below meth c C H locs la hP hS hl)
theorem V.lmul {x y : Int64} (hd : decode M.1 pc = .ok (.lmul, 1)) (hn : pc + 1 = n) (k : V E M F n ls (.long (x * y) :: st) σ) : V E M F pc ls (.long y :: .long x :: st) σ := by
  subst hn; intro p l e s m args below meth c C H locs la hP hS hl
  exact lv_lmul C.1 C.2.1 hd (k p l e s m args below meth c C H locs la hP hS hl)
theorem V.land {x y : Int64} (hd : decode M.1 pc = .ok (.land, 1)) (hn : pc + 1 = n) (k : V E M F n ls (.long (x &&& y) :: st) σ) : V E M F pc ls (.long y :: .long x :: st) σ := by
  subst hn; intro p l e s m args below meth c C H locs la hP hS hl
  exact lv_land C.1 C.2.1 hd (k p l e s m args below meth c C H locs la hP hS hl)
theorem V.lor {x y : Int64} (hd : decode M.1 pc = .ok (.lor, 1)) (hn : pc + 1 = n) (k : V E M F n ls (.long (x ||| y) :: st) σ) : V E M F pc ls (.long y :: .long x :: st) σ := by
  subst hn; intro p l e s m args below meth c C H locs la hP hS hl
  exact lv_lor C.1 C.2.1 hd (k p l e s m args below meth c C H locs la hP hS hl)
theorem V.lushr {x : Int64} {y : Int32} (hd : decode M.1 pc = .ok (.lushr, 1)) (hn : pc + 1 = n) (k : V E M F n ls (.long (ushL x y) :: st) σ) : V E M F pc ls (.int y :: .long x :: st) σ := by
  subst hn; intro p l e s m args below meth c C H locs la hP hS hl
  exact lv_lushr C.1 C.2.1 hd rfl (k p l e s m args below meth c C H locs la hP hS hl)
theorem V.lshl {x : Int64} {y : Int32} (hd : decode M.1 pc = .ok (.lshl, 1)) (hn : pc + 1 = n) (k : V E M F n ls (.long (x <<< (y.toInt64 &&& 63)) :: st) σ) : V E M F pc ls (.int y :: .long x :: st) σ := by
  subst hn; intro p l e s m args below meth c C H locs la hP hS hl
  exact lv_lshl C.1 C.2.1 hd rfl (k p l e s m args below meth c C H locs la hP hS hl)
theorem V.lshr {x : Int64} {y : Int32} (hd : decode M.1 pc = .ok (.lshr, 1)) (hn : pc + 1 = n) (k : V E M F n ls (.long (x >>> (y.toInt64 &&& 63)) :: st) σ) : V E M F pc ls (.int y :: .long x :: st) σ := by
  subst hn; intro p l e s m args below meth c C H locs la hP hS hl
  exact lv_lshr C.1 C.2.1 hd rfl (k p l e s m args below meth c C H locs la hP hS hl)
theorem V.i2l {x : Int32} (hd : decode M.1 pc = .ok (.i2l, 1)) (hn : pc + 1 = n) (k : V E M F n ls (.long x.toInt64 :: st) σ) : V E M F pc ls (.int x :: st) σ := by
  subst hn; intro p l e s m args below meth c C H locs la hP hS hl
  exact lv_i2l C.1 C.2.1 hd rfl (k p l e s m args below meth c C H locs la hP hS hl)
theorem V.l2i {x : Int64} (hd : decode M.1 pc = .ok (.l2i, 1)) (hn : pc + 1 = n) (k : V E M F n ls (.int x.toInt32 :: st) σ) : V E M F pc ls (.long x :: st) σ := by
  subst hn; intro p l e s m args below meth c C H locs la hP hS hl
  exact lv_l2i C.1 C.2.1 hd rfl (k p l e s m args below meth c C H locs la hP hS hl)
theorem V.i2b {x : Int32} (hd : decode M.1 pc = .ok (.i2b, 1)) (hn : pc + 1 = n) (k : V E M F n ls (.int x.toInt8.toInt32 :: st) σ) : V E M F pc ls (.int x :: st) σ := by
  subst hn; intro p l e s m args below meth c C H locs la hP hS hl
  exact lv_i2b C.1 C.2.1 hd rfl (k p l e s m args below meth c C H locs la hP hS hl)
theorem V.i2s {x : Int32} (hd : decode M.1 pc = .ok (.i2s, 1)) (hn : pc + 1 = n) (k : V E M F n ls (.int x.toInt16.toInt32 :: st) σ) : V E M F pc ls (.int x :: st) σ := by
  subst hn; intro p l e s m args below meth c C H locs la hP hS hl
  exact lv_i2s C.1 C.2.1 hd rfl (k p l e s m args below meth c C H locs la hP hS hl)
theorem V.i2c {x : Int32} (hd : decode M.1 pc = .ok (.i2c, 1)) (hn : pc + 1 = n) (k : V E M F n ls (.int (x.toUInt32 % 65536).toInt32 :: st) σ) : V E M F pc ls (.int x :: st) σ := by
  subst hn; intro p l e s m args below meth c C H locs la hP hS hl
  exact lv_i2c C.1 C.2.1 hd rfl (k p l e s m args below meth c C H locs la hP hS hl)
theorem V.lcmp {x y : Int64} (hd : decode M.1 pc = .ok (.lcmp, 1)) (hn : pc + 1 = n) (k : V E M F n ls (.int (lg_cmp x y) :: st) σ) : V E M F pc ls (.long y :: .long x :: st) σ := by
  subst hn; intro p l e s m args below meth c C H locs la hP hS hl
  exact W.lcmp C.1 C.2.1 hd (k p l e s m args below meth c C H locs la hP hS hl)
theorem V.dup {v : Value} (hd : decode M.1 pc = .ok (.dup, 1)) (hv : v.category = 1) (hn : pc + 1 = n) (k : V E M F n ls (v :: v :: st) σ) : V E M F pc ls (v :: st) σ := by
  subst hn; intro p l e s m args below meth c C H locs la hP hS hl
  exact lv_dup C.1 C.2.1 hd (by rw [cv_cat]; exact hv) (k p l e s m args below meth c C H locs la hP hS hl)
theorem V.dup2 {v w : Value} (hd : decode M.1 pc = .ok (.dup2, 1)) (hv : v.category = 1) (hw : w.category = 1) (hn : pc + 1 = n) (k : V E M F n ls (v :: w :: v :: w :: st) σ) : V E M F pc ls (v :: w :: st) σ := by
  subst hn; intro p l e s m args below meth c C H locs la hP hS hl
  exact lv_dup2_11 C.1 C.2.1 hd (by rw [cv_cat]; exact hv) (by rw [cv_cat]; exact hw) (k p l e s m args below meth c C H locs la hP hS hl)
theorem V.pop {v : Value} (hd : decode M.1 pc = .ok (.pop, 1)) (hv : v.category = 1) (hn : pc + 1 = n) (k : V E M F n ls st σ) : V E M F pc ls (v :: st) σ := by
  subst hn; intro p l e s m args below meth c C H locs la hP hS hl
  exact lv_pop C.1 C.2.1 hd (by rw [cv_cat]; exact hv) (k p l e s m args below meth c C H locs la hP hS hl)
theorem V.goto {off : Int} (tgt : Nat) (hd : decode M.1 pc = .ok (.goto off, 3)) (ht : (pc : Int) + off = (tgt : Int)) (k : V E M F tgt ls st σ) : V E M F pc ls st σ := by
  intro p l e s m args below meth c C H locs la hP hS hl
  exact lv_goto C.1 C.2.1 hd ht (k p l e s m args below meth c C H locs la hP hS hl)
theorem V.ifeq {off : Int} {x : Int32} (tgt : Nat) (hd : decode M.1 pc = .ok (.ifCond .eq off, 3)) (ht : (pc : Int) + off = (tgt : Int)) (hn : pc + 3 = n) (kt : x = 0 → V E M F tgt ls st σ) (kf : ¬ x = 0 → V E M F n ls st σ) : V E M F pc ls (.int x :: st) σ := by
  subst hn; intro p l e s m args below meth c C H locs la hP hS hl
  exact lv_if_eq C.1 C.2.1 hd ht (fun h => kt h p l e s m args below meth c C H locs la hP hS hl) (fun h => kf h p l e s m args below meth c C H locs la hP hS hl)
theorem V.ifne {off : Int} {x : Int32} (tgt : Nat) (hd : decode M.1 pc = .ok (.ifCond .ne off, 3)) (ht : (pc : Int) + off = (tgt : Int)) (hn : pc + 3 = n) (kt : ¬ x = 0 → V E M F tgt ls st σ) (kf : x = 0 → V E M F n ls st σ) : V E M F pc ls (.int x :: st) σ := by
  subst hn; intro p l e s m args below meth c C H locs la hP hS hl
  exact lv_if_ne C.1 C.2.1 hd ht (fun h => kt h p l e s m args below meth c C H locs la hP hS hl) (fun h => kf (by first | exact h | exact Decidable.not_not.mp h) p l e s m args below meth c C H locs la hP hS hl)
theorem V.iflt {off : Int} {x : Int32} (tgt : Nat) (hd : decode M.1 pc = .ok (.ifCond .lt off, 3)) (ht : (pc : Int) + off = (tgt : Int)) (hn : pc + 3 = n) (kt : x < 0 → V E M F tgt ls st σ) (kf : ¬ x < 0 → V E M F n ls st σ) : V E M F pc ls (.int x :: st) σ := by
  subst hn; intro p l e s m args below meth c C H locs la hP hS hl
  exact lv_if_lt C.1 C.2.1 hd ht (fun h => kt h p l e s m args below meth c C H locs la hP hS hl) (fun h => kf h p l e s m args below meth c C H locs la hP hS hl)
theorem V.ifge {off : Int} {x : Int32} (tgt : Nat) (hd : decode M.1 pc = .ok (.ifCond .ge off, 3)) (ht : (pc : Int) + off = (tgt : Int)) (hn : pc + 3 = n) (kt : 0 ≤ x → V E M F tgt ls st σ) (kf : ¬ 0 ≤ x → V E M F n ls st σ) : V E M F pc ls (.int x :: st) σ := by
  subst hn; intro p l e s m args below meth c C H locs la hP hS hl
  exact lv_if_ge C.1 C.2.1 hd ht (fun h => kt h p l e s m args below meth c C H locs la hP hS hl) (fun h => kf h p l e s m args below meth c C H locs la hP hS hl)
theorem V.ifgt {off : Int} {x : Int32} (tgt : Nat) (hd : decode M.1 pc = .ok (.ifCond .gt off, 3)) (ht : (pc : Int) + off = (tgt : Int)) (hn : pc + 3 = n) (kt : 0 < x → V E M F tgt ls st σ) (kf : ¬ 0 < x → V E M F n ls st σ) : V E M F pc ls (.int x :: st) σ := by
  subst hn; intro p l e s m args below meth c C H locs la hP hS hl
  exact lv_if_gt C.1 C.2.1 hd ht (fun h => kt h p l e s m args below meth c C H locs la hP hS hl) (fun h => kf h p l e s m args below meth c C H locs la hP hS hl)
theorem V.ifle {off : Int} {x : Int32} (tgt : Nat) (hd : decode M.1 pc = .ok (.ifCond .le off, 3)) (ht : (pc : Int) + off = (tgt : Int)) (hn : pc + 3 = n) (kt : x ≤ 0 → V E M F tgt ls st σ) (kf : ¬ x ≤ 0 → V E M F n ls st σ) : V E M F pc ls (.int x :: st) σ := by
  subst hn; intro p l e s m args below meth c C H locs la hP hS hl
  exact lv_if_le C.1 C.2.1 hd ht (fun h => kt h p l e s m args below meth c C H locs la hP hS hl) (fun h => kf h p l e s m args below meth c C H locs la hP hS hl)
theorem V.icmpeq {off : Int} {x y : Int32} (tgt : Nat) (hd : decode M.1 pc = .ok (.if_icmp .eq off, 3)) (ht : (pc : Int) + off = (tgt : Int)) (hn : pc + 3 = n) (kt : x = y → V E M F tgt ls st σ) (kf : ¬ x = y → V E M F n ls st σ) : V E M F pc ls (.int y :: .int x :: st) σ := by
  subst hn; intro p l e s m args below meth c C H locs la hP hS hl
  exact lv_icmp_eq C.1 C.2.1 hd ht (fun h => kt h p l e s m args below meth c C H locs la hP hS hl) (fun h => kf h p l e s m args below meth c C H locs la hP hS hl)
theorem V.icmpne {off : Int} {x y : Int32} (tgt : Nat) (hd : decode M.1 pc = .ok (.if_icmp .ne off, 3)) (ht : (pc : Int) + off = (tgt : Int)) (hn : pc + 3 = n) (kt : ¬ x = y → V E M F tgt ls st σ) (kf : x = y → V E M F n ls st σ) : V E M F pc ls (.int y :: .int x :: st) σ := by
  subst hn; intro p l e s m args below meth c C H locs la hP hS hl
  exact lv_icmp_ne C.1 C.2.1 hd ht (fun h => kt h p l e s m args below meth c C H locs la hP hS hl) (fun h => kf (by first | exact h | exact Decidable.not_not.mp h) p l e s m args below meth c C H locs la hP hS hl)
theorem V.icmplt {off : Int} {x y : Int32} (tgt : Nat) (hd : decode M.1 pc = .ok (.if_icmp .lt off, 3)) (ht : (pc : Int) + off = (tgt : Int)) (hn : pc + 3 = n) (kt : x < y → V E M F tgt ls st σ) (kf : ¬ x < y → V E M F n ls st σ) : V E M F pc ls (.int y :: .int x :: st) σ := by
  subst hn; intro p l e s m args below meth c C H locs la hP hS hl
  exact lv_icmp_lt C.1 C.2.1 hd ht (fun h => kt h p l e s m args below meth c C H locs la hP hS hl) (fun h => kf h p l e s m args below meth c C H locs la hP hS hl)
theorem V.icmpge {off : Int} {x y : Int32} (tgt : Nat) (hd : decode M.1 pc = .ok (.if_icmp .ge off, 3)) (ht : (pc : Int) + off = (tgt : Int)) (hn : pc + 3 = n) (kt : y ≤ x → V E M F tgt ls st σ) (kf : ¬ y ≤ x → V E M F n ls st σ) : V E M F pc ls (.int y :: .int x :: st) σ := by
  subst hn; intro p l e s m args below meth c C H locs la hP hS hl
  exact lv_icmp_ge C.1 C.2.1 hd ht (fun h => kt h p l e s m args below meth c C H locs la hP hS hl) (fun h => kf h p l e s m args below meth c C H locs la hP hS hl)
theorem V.icmpgt {off : Int} {x y : Int32} (tgt : Nat) (hd : decode M.1 pc = .ok (.if_icmp .gt off, 3)) (ht : (pc : Int) + off = (tgt : Int)) (hn : pc + 3 = n) (kt : y < x → V E M F tgt ls st σ) (kf : ¬ y < x → V E M F n ls st σ) : V E M F pc ls (.int y :: .int x :: st) σ := by
  subst hn; intro p l e s m args below meth c C H locs la hP hS hl
  exact lv_icmp_gt C.1 C.2.1 hd ht (fun h => kt h p l e s m args below meth c C H locs la hP hS hl) (fun h => kf h p l e s m args below meth c C H locs la hP hS hl)
theorem V.icmple {off : Int} {x y : Int32} (tgt : Nat) (hd : decode M.1 pc = .ok (.if_icmp .le off, 3)) (ht : (pc : Int) + off = (tgt : Int)) (hn : pc + 3 = n) (kt : x ≤ y → V E M F tgt ls st σ) (kf : ¬ x ≤ y → V E M F n ls st σ) : V E M F pc ls (.int y :: .int x :: st) σ := by
  subst hn; intro p l e s m args below meth c C H locs la hP hS hl
  exact lv_icmp_le C.1 C.2.1 hd ht (fun h => kt h p l e s m args below meth c C H locs la hP hS hl) (fun h => kf h p l e s m args below meth c C H locs la hP hS hl)
theorem V.tabOut {dflt lo hi : Int} {offs : Array Int} {len : Nat} {x : Int32} (tgt : Nat) (hd : decode M.1 pc = .ok (.tableswitch dflt lo hi offs, len)) (h : x.toInt < lo ∨ hi < x.toInt) (ht : (pc : Int) + dflt = (tgt : Int)) (k : V E M F tgt ls st σ) : V E M F pc ls (.int x :: st) σ := by
  intro p l e s m args below meth c C H locs la hP hS hl
  exact lv_tableOut C.1 C.2.1 hd h ht (k p l e s m args below meth c C H locs la hP hS hl)
theorem V.tabIn {dflt lo hi : Int} {offs : Array Int} {len : Nat} {x : Int32} {off : Int} (tgt : Nat) (hd : decode M.1 pc = .ok (.tableswitch dflt lo hi offs, len)) (h1 : ¬ x.toInt < lo) (h2 : ¬ hi < x.toInt) (ho : offs[(x.toInt - lo).toNat]? = some off) (ht : (pc : Int) + off = (tgt : Int)) (k : V E M F tgt ls st σ) : V E M F pc ls (.int x :: st) σ := by
  intro p l e s m args below meth c C H locs la hP hS hl
  exact lv_tableIn C.1 C.2.1 hd h1 h2 ho ht (k p l e s m args below meth c C H locs la hP hS hl)
end RW
end
section
/-! rows over the cells: fields, arrays, tables, texts, calls, ends -/
section HP
variable {E : Ev} {M : MI} {F : VF} {pc n : Nat} {ls : List (Nat × Value)} {st : List Value} {σ : St}
/-- field j of class ci, by entry ix of the pool of own -/
def FL (own : String) (ix ci j c : Nat) : Prop := ∃ q : vw_C, cls[ci]? = some q ∧ j < q.2.2 ∧ q.2.2 = (fc ci).length ∧ (fc ci)[j]? = some c ∧ (q.2.1 j).1 = q.1 ∧ ci < 7 ∧ Cond.fieldLink own ix q.1 (q.2.1 j).2.1 (q.2.1 j).2.2.1 ∈ GW
theorem cel_obj {E : Ev} {σ : St} {k ci x : Nat} (h : kd k = (ci, x)) (hc : ci < 7) : cel E σ k = .inr (ci, flds E σ k ci) := by
  unfold cel
  rw [h]
  match ci, hc with
  | 0, _ => rfl
  | 1, _ => rfl
  | 2, _ => rfl
  | 3, _ => rfl
  | 4, _ => rfl
  | 5, _ => rfl
  | 6, _ => rfl
theorem cel_int {E : Ev} {σ : St} {k x : Nat} (h : kd k = (7, x)) : cel E σ k = .inl (E.2.2.1, x, .inl (σ.1 k)) := by
  unfold cel
  rw [h]
  rfl
theorem cel_lng {E : Ev} {σ : St} {k x : Nat} (h : kd k = (8, x)) : cel E σ k = .inl (E.2.2.2.1, x, .inr (.inl (σ.2.1 k))) := by
  unfold cel
  rw [h]
  rfl
theorem cel_row {E : Ev} {σ : St} {k x : Nat} (h : kd k = (9, x)) : cel E σ k = .inl (E.2.2.2.2, x, .inr (.inr (.inr (.inr (fun i => if i < x then some (E.1 (k + 1 + i)) else none))))) := by
  unfold cel
  rw [h]
  rfl
theorem flds_at {E : Ev} {σ : St} {k ci j c : Nat} (h : (fc ci)[j]? = some c) : (flds E σ k ci)[j]? = some (fval E σ k j c) := by
  have hj : j < (fc ci).length := (List.getElem?_eq_some_iff.mp h).1
  unfold flds
  rw [List.getElem?_map, List.getElem?_range hj, Option.map_some, List.getD_eq_getElem?_getD, h]
  rfl
theorem flds_len {E : Ev} {σ : St} {k ci : Nat} : (flds E σ k ci).length = (fc ci).length := by simp [flds]
theorem flds_set {E : Ev} {σ σ' : St} {k ci j c : Nat} {v : Value} (h : (fc ci)[j]? = some c) (hv : fval E σ' k j c = v) (ho : ∀ i d, i ≠ j → (fc ci)[i]? = some d → fval E σ' k i d = fval E σ k i d) : (flds E σ k ci).set j v = flds E σ' k ci := by
  have hj : j < (fc ci).length := (List.getElem?_eq_some_iff.mp h).1
  apply List.ext_getElem?
  intro i
  rw [List.getElem?_set]
  by_cases e : j = i
  · subst e
    rw [if_pos rfl, if_pos (by rw [flds_len]; exact hj), flds_at h, hv]
  · rw [if_neg e]
    cases hi : (fc ci)[i]? with
    | none =>
      have hl : (fc ci).length ≤ i := List.getElem?_eq_none_iff.mp hi
      rw [List.getElem?_eq_none (by rw [flds_len]; exact hl), List.getElem?_eq_none (by rw [flds_len]; exact hl)]
    | some d => rw [flds_at hi, flds_at hi, ho i d (fun z => e z.symm) hi]
theorem fval_sI {E : Ev} {σ : St} {k j a b c : Nat} {v : Int32} (h : ¬ (a = k ∧ b = j)) : fval E (sI σ k j v) a b c = fval E σ a b c := by
  match c with
  | 0 => show Value.int (if a = k ∧ b = j then v else σ.1 a b) = _; rw [if_neg h]; rfl
  | 1 => rfl
  | 2 => rfl
  | _ + 3 => rfl
theorem fval_sL {E : Ev} {σ : St} {k j a b c : Nat} {v : Int64} (h : ¬ (a = k ∧ b = j)) : fval E (sL σ k j v) a b c = fval E σ a b c := by
  match c with
  | 0 => rfl
  | 1 => show Value.long (if a = k ∧ b = j then v else σ.2.1 a b) = _; rw [if_neg h]; rfl
  | 2 => rfl
  | _ + 3 => rfl
theorem flds_sI {E : Ev} {σ : St} {k j a ci : Nat} {v : Int32} (h : a ≠ k) : flds E (sI σ k j v) a ci = flds E σ a ci := by
  unfold flds
  exact List.map_congr_left fun i _ => fval_sI (fun z => h z.1)
theorem flds_sL {E : Ev} {σ : St} {k j a ci : Nat} {v : Int64} (h : a ≠ k) : flds E (sL σ k j v) a ci = flds E σ a ci := by
  unfold flds
  exact List.map_congr_left fun i _ => fval_sL (fun z => h z.1)
theorem row_sI {σ : St} {k j a : Nat} {v : Int32} (h : a ≠ k) : (sI σ k j v).1 a = σ.1 a := by
  funext b
  show (if a = k ∧ b = j then v else σ.1 a b) = _
  rw [if_neg (fun z => h z.1)]
theorem row_sL {σ : St} {k j a : Nat} {v : Int64} (h : a ≠ k) : (sL σ k j v).2.1 a = σ.2.1 a := by
  funext b
  show (if a = k ∧ b = j then v else σ.2.1 a b) = _
  rw [if_neg (fun z => h z.1)]
theorem cel_sI {E : Ev} {σ : St} {k j a : Nat} {v : Int32} (h : a ≠ k) : cel E (sI σ k j v) a = cel E σ a := by
  unfold cel
  rw [row_sI h]
  split
  · rfl
  · rfl
  · rfl
  · rw [flds_sI h]
theorem cel_sL {E : Ev} {σ : St} {k j a : Nat} {v : Int64} (h : a ≠ k) : cel E (sL σ k j v) a = cel E σ a := by
  unfold cel
  rw [row_sL h]
  split
  · rfl
  · rfl
  · rfl
  · rw [flds_sL h]
theorem V.geti (k : Nat) {ix ci j x : Nat} (hd : decode M.1 pc = .ok (.getfield ix, 3)) (hf : FL M.2.2.2.1.cls ix ci j 0) (hk : kd k = (ci, x)) (hn : pc + 3 = n) (kk : V E M F n ls (.int (gI σ k j) :: st) σ) : V E M F pc ls (.ref k :: st) σ := by
  subst hn; intro p l e s m args below meth c C H locs la hP hS hl
  obtain ⟨⟨cn, T, N⟩, h1, h2, h3, h4, h5, h6, h7⟩ := hf
  have hlt : k < 67 := kd_lt hk (by show ci < 99; omega)
  exact va_get C.1 C.2.1 C.2.2.2.2.2.2.1 (cAll ci _ h1).1 C.2.2.2.2.2.1 C.2.2.2.2.2.2.2.1.2.1 hP k (fs := flds E σ k ci) (by rw [wsO_at hlt, cel_obj hk h6]) h1 j h2 (C.2.2.2.2.2.2.1 _ h7) (fun x h => by rw [← h, h5]) (v := .int (gI σ k j)) (flds_at h4) hd (kk p l e s m args below meth c C H locs la hP hS hl)
theorem V.getl (k : Nat) {ix ci j x : Nat} (hd : decode M.1 pc = .ok (.getfield ix, 3)) (hf : FL M.2.2.2.1.cls ix ci j 1) (hk : kd k = (ci, x)) (hn : pc + 3 = n) (kk : V E M F n ls (.long (gL σ k j) :: st) σ) : V E M F pc ls (.ref k :: st) σ := by
  subst hn; intro p l e s m args below meth c C H locs la hP hS hl
  obtain ⟨⟨cn, T, N⟩, h1, h2, h3, h4, h5, h6, h7⟩ := hf
  have hlt : k < 67 := kd_lt hk (by show ci < 99; omega)
  exact va_get C.1 C.2.1 C.2.2.2.2.2.2.1 (cAll ci _ h1).1 C.2.2.2.2.2.1 C.2.2.2.2.2.2.2.1.2.1 hP k (fs := flds E σ k ci) (by rw [wsO_at hlt, cel_obj hk h6]) h1 j h2 (C.2.2.2.2.2.2.1 _ h7) (fun x h => by rw [← h, h5]) (v := .long (gL σ k j)) (flds_at h4) hd (kk p l e s m args below meth c C H locs la hP hS hl)
theorem V.getd (k : Nat) {ix ci j x : Nat} (hd : decode M.1 pc = .ok (.getfield ix, 3)) (hf : FL M.2.2.2.1.cls ix ci j 2) (hk : kd k = (ci, x)) (hn : pc + 3 = n) (kk : V E M F n ls (.ref (gR σ j) :: st) σ) : V E M F pc ls (.ref k :: st) σ := by
  subst hn; intro p l e s m args below meth c C H locs la hP hS hl
  obtain ⟨⟨cn, T, N⟩, h1, h2, h3, h4, h5, h6, h7⟩ := hf
  have hlt : k < 67 := kd_lt hk (by show ci < 99; omega)
  exact va_get C.1 C.2.1 C.2.2.2.2.2.2.1 (cAll ci _ h1).1 C.2.2.2.2.2.1 C.2.2.2.2.2.2.2.1.2.1 hP k (fs := flds E σ k ci) (by rw [wsO_at hlt, cel_obj hk h6]) h1 j h2 (C.2.2.2.2.2.2.1 _ h7) (fun x h => by rw [← h, h5]) (v := .ref (E.1 (gR σ j))) (flds_at h4) hd (kk p l e s m args below meth c C H locs la hP hS hl)
theorem V.getr (k k' : Nat) {ix ci j x o : Nat} (hd : decode M.1 pc = .ok (.getfield ix, 3)) (hf : FL M.2.2.2.1.cls ix ci j (o + 3)) (hk : kd k = (ci, x)) (hk' : k + o = k') (hn : pc + 3 = n) (kk : V E M F n ls (.ref k' :: st) σ) : V E M F pc ls (.ref k :: st) σ := by
  subst hn; subst hk'; intro p l e s m args below meth c C H locs la hP hS hl
  obtain ⟨⟨cn, T, N⟩, h1, h2, h3, h4, h5, h6, h7⟩ := hf
  have hlt : k < 67 := kd_lt hk (by show ci < 99; omega)
  exact va_get C.1 C.2.1 C.2.2.2.2.2.2.1 (cAll ci _ h1).1 C.2.2.2.2.2.1 C.2.2.2.2.2.2.2.1.2.1 hP k (fs := flds E σ k ci) (by rw [wsO_at hlt, cel_obj hk h6]) h1 j h2 (C.2.2.2.2.2.2.1 _ h7) (fun x h => by rw [← h, h5]) (v := .ref (E.1 (k + o))) (flds_at h4) hd (kk p l e s m args below meth c C H locs la hP hS hl)
/-- a field that may be written: its type -/
def FW (ci j : Nat) (ty : FieldType) : Prop := ∀ q : vw_C, cls[ci]? = some q → (q.2.1 j).2.2.2 = false ∧ parseFieldDescriptor (q.2.1 j).2.2.1 = some ty
theorem V.puti (k : Nat) {ix ci j x : Nat} {v : Int32} (ty : FieldType) (hd : decode M.1 pc = .ok (.putfield ix, 3)) (hf : FL M.2.2.2.1.cls ix ci j 0) (hw : FW ci j ty) (hk : kd k = (ci, x)) (hv : narrow ty (.int v) = .int v ∧ fits ty (.int v) = true) (hn : pc + 3 = n) (kk : V E M F n ls st (sI σ k j v)) : V E M F pc ls (.int v :: .ref k :: st) σ := by
  subst hn; intro p l e s m args below meth c C H locs la hP hS hl
  obtain ⟨⟨cn, T, N⟩, h1, h2, h3, h4, h5, h6, h7⟩ := hf
  have hlt : k < 67 := kd_lt hk (by show ci < 99; omega)
  obtain ⟨g1, ty0, g2, g3⟩ := cAll ci _ h1
  obtain ⟨w1, w2⟩ := hw _ h1
  refine va_put C.1 C.2.1 C.2.2.2.2.2.2.1 g1 ty0 g2 g3 C.2.2.2.2.2.1 C.2.2.2.2.2.2.2.1.2.1 hP (wsO_D C.2.2.2.2.2.2.2.1.1) hS k (fs := flds E σ k ci) (by rw [wsO_at hlt, cel_obj hk h6]) h1 j h2 (C.2.2.2.2.2.2.1 _ h7) (fun x h => by rw [← h, h5]) w1 (ty := ty) (v := .int v) w2 hv.1 hv.2 (by rw [flds_len]; exact (List.getElem?_eq_some_iff.mp h4).1) hd (fun H1 locs1 hP1 hD1 hS1 => ?_)
  rw [wsO_set (σ' := sI σ k j v) hlt (by rw [cel_obj hk h6]; exact congrArg (fun y => Sum.inr (ci, y)) (flds_set h4 (by show Value.int (if k = k ∧ j = j then v else σ.1 k j) = _; rw [if_pos ⟨rfl, rfl⟩]) (fun i d hi _ => fval_sI (fun z => hi z.2))).symm) (fun a ha => cel_sI ha)] at hP1
  exact kk p l e s m args below meth c C H1 locs1 la hP1 hS1 hl
theorem V.putl (k : Nat) {ix ci j x : Nat} {v : Int64} (hd : decode M.1 pc = .ok (.putfield ix, 3)) (hf : FL M.2.2.2.1.cls ix ci j 1) (hw : FW ci j .long) (hk : kd k = (ci, x)) (hn : pc + 3 = n) (kk : V E M F n ls st (sL σ k j v)) : V E M F pc ls (.long v :: .ref k :: st) σ := by
  subst hn; intro p l e s m args below meth c C H locs la hP hS hl
  obtain ⟨⟨cn, T, N⟩, h1, h2, h3, h4, h5, h6, h7⟩ := hf
  have hlt : k < 67 := kd_lt hk (by show ci < 99; omega)
  obtain ⟨g1, ty0, g2, g3⟩ := cAll ci _ h1
  obtain ⟨w1, w2⟩ := hw _ h1
  refine va_put C.1 C.2.1 C.2.2.2.2.2.2.1 g1 ty0 g2 g3 C.2.2.2.2.2.1 C.2.2.2.2.2.2.2.1.2.1 hP (wsO_D C.2.2.2.2.2.2.2.1.1) hS k (fs := flds E σ k ci) (by rw [wsO_at hlt, cel_obj hk h6]) h1 j h2 (C.2.2.2.2.2.2.1 _ h7) (fun x h => by rw [← h, h5]) w1 (ty := .long) (v := .long v) w2 rfl rfl (by rw [flds_len]; exact (List.getElem?_eq_some_iff.mp h4).1) hd (fun H1 locs1 hP1 hD1 hS1 => ?_)
  rw [wsO_set (σ' := sL σ k j v) hlt (by rw [cel_obj hk h6]; exact congrArg (fun y => Sum.inr (ci, y)) (flds_set h4 (by show Value.long (if k = k ∧ j = j then v else σ.2.1 k j) = _; rw [if_pos ⟨rfl, rfl⟩]) (fun i d hi _ => fval_sL (fun z => hi z.2))).symm) (fun a ha => cel_sL ha)] at hP1
  exact kk p l e s m args below meth c C H1 locs1 la hP1 hS1 hl
theorem fval_sR {E : Ev} {σ : St} {j a b c v : Nat} (h : c = 2 → b ≠ j) : fval E (sR σ j v) a b c = fval E σ a b c := by
  match c, h with
  | 0, _ => rfl
  | 1, _ => rfl
  | 2, h => show Value.ref (E.1 (if b = j then v else σ.2.2 b)) = _; rw [if_neg (h rfl)]; rfl
  | _ + 3, _ => rfl
/-- no class but EveryHand's (cell 0) has a reference that changes -/
theorem fc_no2 : ∀ ci, ci ≠ 5 → ∀ j, (fc ci).getD j 0 ≠ 2 := by
  intro ci h j
  rcases Nat.lt_or_ge ci 7 with g | g
  · have key : ∀ ci, ci < 7 → ci ≠ 5 → ∀ c ∈ fc ci, c ≠ 2 := by decide +kernel
    rw [List.getD_eq_getElem?_getD]
    cases hj : (fc ci)[j]? with
    | none => exact (by decide : (0 : Nat) ≠ 2)
    | some c => exact key ci g h c (List.mem_of_getElem? hj)
  · have e : fc ci = [] := by
      unfold fc
      rw [List.getD_eq_getElem?_getD, List.getElem?_eq_none (show fcL.length ≤ ci from g)]
      rfl
    rw [e]
    exact (by decide : (0 : Nat) ≠ 2)
theorem kd_5 : ∀ k x, kd k = (5, x) → k = 0 := by
  intro k x h
  have hlt := kd_lt h (show (5 : Nat) < 99 by decide)
  have key : ∀ k, k < 67 → (kd k).1 = 5 → k = 0 := by decide +kernel
  exact key k hlt (by rw [h])
theorem cel_sR {E : Ev} {σ : St} {j a v : Nat} (h : a ≠ 0) : cel E (sR σ j v) a = cel E σ a := by
  unfold cel
  have e1 : (sR σ j v).1 = σ.1 := rfl
  have e2 : (sR σ j v).2.1 = σ.2.1 := rfl
  rw [e1, e2]
  split
  · rfl
  · rfl
  · rfl
  · rename_i ci y _ _ _ he
    have h5 : ci ≠ 5 := fun z => h (kd_5 a y (by rw [he, z]))
    refine congrArg (fun y => Sum.inr (ci, y)) ?_
    unfold flds
    exact List.map_congr_left fun i _ => fval_sR (fun z => absurd z (fc_no2 ci h5 i))
theorem V.putd {ix j x v : Nat} (C1 : String) (hd : decode M.1 pc = .ok (.putfield ix, 3)) (hf : FL M.2.2.2.1.cls ix 5 j 2) (hw : FW 5 j (.object C1)) (hk : kd 0 = (5, x)) (hn : pc + 3 = n) (kk : V E M F n ls st (sR σ j v)) : V E M F pc ls (.ref v :: .ref 0 :: st) σ := by
  subst hn; intro p l e s m args below meth c C H locs la hP hS hl
  obtain ⟨⟨cn, T, N⟩, h1, h2, h3, h4, h5, h6, h7⟩ := hf
  have hlt : 0 < 67 := by decide
  obtain ⟨g1, ty0, g2, g3⟩ := cAll 5 _ h1
  obtain ⟨w1, w2⟩ := hw _ h1
  refine va_put C.1 C.2.1 C.2.2.2.2.2.2.1 g1 ty0 g2 g3 C.2.2.2.2.2.1 C.2.2.2.2.2.2.2.1.2.1 hP (wsO_D C.2.2.2.2.2.2.2.1.1) hS 0 (fs := flds E σ 0 5) (by rw [wsO_at hlt, cel_obj hk h6]) h1 j h2 (C.2.2.2.2.2.2.1 _ h7) (fun x h => by rw [← h, h5]) w1 (ty := .object C1) (v := .ref (E.1 v)) w2 rfl rfl (by rw [flds_len]; exact (List.getElem?_eq_some_iff.mp h4).1) hd (fun H1 locs1 hP1 hD1 hS1 => ?_)
  rw [wsO_set (σ' := sR σ j v) hlt (by rw [cel_obj hk h6]; exact congrArg (fun y => Sum.inr (5, y)) (flds_set h4 (by show Value.ref (E.1 (if j = j then v else σ.2.2 j)) = _; rw [if_pos rfl]) (fun i d hi _ => fval_sR (fun _ => hi))).symm) (fun a ha => cel_sR ha)] at hP1
  exact kk p l e s m args below meth c C H1 locs1 la hP1 hS1 hl
/-- an index within -/
def ib (i : Int32) (n : Nat) : Bool := decide (¬ (i < 0 ∨ n ≤ i.toNatClampNeg))
theorem ib_in {i : Int32} {n : Nat} : ib i n = true ↔ vp_in i n := by
  unfold ib vp_in
  exact decide_eq_true_iff
/-- where an index points -/
def ix (i : Int32) : Nat := i.toNatClampNeg
theorem V.iald (k : Nat) {x : Nat} {i : Int32} (hd : decode M.1 pc = .ok (.iaload, 1)) (hk : kd k = (7, x)) (hi : ib i x = true) (hn : pc + 1 = n) (kk : V E M F n ls (.int (gI σ k (ix i)) :: st) σ) : V E M F pc ls (.int i :: .ref k :: st) σ := by
  subst hn; intro p l e s m args below meth c C H locs la hP hS hl
  have hlt : k < 67 := kd_lt hk (Nat.lt_of_lt_of_le (show _ < 10 from by dsimp only; decide) (by decide))
  exact va_iald C.1 C.2.1 C.2.2.2.2.2.2.2.1.2.1 hP k 0 (f := σ.1 k) (by rw [wsO_at hlt, cel_int hk]) rfl (ib_in.mp hi) hd (kk p l e s m args below meth c C H locs la hP hS hl)
theorem V.lald (k : Nat) {x : Nat} {i : Int32} (hd : decode M.1 pc = .ok (.laload, 1)) (hk : kd k = (8, x)) (hi : ib i x = true) (hn : pc + 1 = n) (kk : V E M F n ls (.long (gL σ k (ix i)) :: st) σ) : V E M F pc ls (.int i :: .ref k :: st) σ := by
  subst hn; intro p l e s m args below meth c C H locs la hP hS hl
  have hlt : k < 67 := kd_lt hk (Nat.lt_of_lt_of_le (show _ < 10 from by dsimp only; decide) (by decide))
  exact va_lald C.1 C.2.1 C.2.2.2.2.2.2.2.1.2.1 hP k 1 (f := σ.2.1 k) (by rw [wsO_at hlt, cel_lng hk]) rfl (ib_in.mp hi) hd (kk p l e s m args below meth c C H locs la hP hS hl)
theorem V.iast (k : Nat) {x : Nat} {i v : Int32} (hd : decode M.1 pc = .ok (.iastore, 1)) (hk : kd k = (7, x)) (hi : ib i x = true) (hn : pc + 1 = n) (kk : V E M F n ls st (sI σ k (ix i) v)) : V E M F pc ls (.int v :: .int i :: .ref k :: st) σ := by
  subst hn; intro p l e s m args below meth c C H locs la hP hS hl
  have hlt : k < 67 := kd_lt hk (Nat.lt_of_lt_of_le (show _ < 10 from by dsimp only; decide) (by decide))
  refine va_iast C.1 C.2.1 C.2.2.2.2.2.2.2.1.2.1 hP (wsO_D C.2.2.2.2.2.2.2.1.1) hS k 0 (by rw [wsO_at hlt, cel_int hk]) rfl (ib_in.mp hi) hd (fun H1 locs1 hP1 hD1 hS1 => ?_)
  rw [wsO_set (σ' := sI σ k (ix i) v) hlt (by
    rw [cel_int hk]
    refine congrArg (fun y => Sum.inl (E.2.2.1, x, Sum.inl y)) ?_
    funext b
    show (if k = k ∧ b = ix i then v else σ.1 k b) = if b = ix i then v else σ.1 k b
    by_cases h : b = ix i
    · rw [if_pos ⟨rfl, h⟩, if_pos h]
    · rw [if_neg (fun z => h z.2), if_neg h]) (fun a ha => cel_sI ha)] at hP1
  exact kk p l e s m args below meth c C H1 locs1 la hP1 hS1 hl
theorem V.last (k : Nat) {x : Nat} {i : Int32} {v : Int64} (hd : decode M.1 pc = .ok (.lastore, 1)) (hk : kd k = (8, x)) (hi : ib i x = true) (hn : pc + 1 = n) (kk : V E M F n ls st (sL σ k (ix i) v)) : V E M F pc ls (.long v :: .int i :: .ref k :: st) σ := by
  subst hn; intro p l e s m args below meth c C H locs la hP hS hl
  have hlt : k < 67 := kd_lt hk (Nat.lt_of_lt_of_le (show _ < 10 from by dsimp only; decide) (by decide))
  refine va_last C.1 C.2.1 C.2.2.2.2.2.2.2.1.2.1 hP (wsO_D C.2.2.2.2.2.2.2.1.1) hS k 1 (by rw [wsO_at hlt, cel_lng hk]) rfl (ib_in.mp hi) hd (fun H1 locs1 hP1 hD1 hS1 => ?_)
  rw [wsO_set (σ' := sL σ k (ix i) v) hlt (by
    rw [cel_lng hk]
    refine congrArg (fun y => Sum.inl (E.2.2.2.1, x, Sum.inr (Sum.inl y))) ?_
    funext b
    show (if k = k ∧ b = ix i then v else σ.2.1 k b) = if b = ix i then v else σ.2.1 k b
    by_cases h : b = ix i
    · rw [if_pos ⟨rfl, h⟩, if_pos h]
    · rw [if_neg (fun z => h z.2), if_neg h]) (fun a ha => cel_sL ha)] at hP1
  exact kk p l e s m args below meth c C H1 locs1 la hP1 hS1 hl
theorem V.aald (k : Nat) {x : Nat} {i : Int32} (hd : decode M.1 pc = .ok (.aaload, 1)) (hk : kd k = (9, x)) (hi : ib i x = true) (hn : pc + 1 = n) (kk : V E M F n ls (.ref (k + 1 + ix i) :: st) σ) : V E M F pc ls (.int i :: .ref k :: st) σ := by
  subst hn; intro p l e s m args below meth c C H locs la hP hS hl
  have hlt : k < 67 := kd_lt hk (Nat.lt_of_lt_of_le (show _ < 10 from by dsimp only; decide) (by decide))
  have hin := ib_in.mp hi
  have hx : i.toNatClampNeg < x := Nat.not_le.mp fun q => hin (Or.inr q)
  have hc := hP k _ (wsO_at hlt)
  rw [cel_row hk] at hc
  have key := kk p l e s m args below meth c C H locs la hP hS hl
  exact W.aald (v := .ref (E.1 (k + 1 + i.toNatClampNeg))) (ty := .array .int) C.1 C.2.1 hc ((C.2.2.2.2.2.2.2.1.2.1.2 2 _ rfl).1 x _) rfl (fun q => by cases q) (by show ¬ (i < 0 ∨ (arrV _ _ _).slots.size ≤ _); rw [arrV_size]; exact hin) (by show (arrV _ _ _).slots[_]? = _; rw [arrV_read _ _ hx]; simp [va_rf, hx]) rfl rfl hd key
/-- the tables UNDER and OWN -/
def tab (k : Nat) (j : Nat) : Int32 := if k = 300 then tUN.getD j 0 else tOW.getD j 0
def tabN (k : Nat) : Nat := if k = 300 then 6 else 24
theorem V.getsU {ix : Nat} (hd : decode M.1 pc = .ok (.getstatic ix, 3)) (hw : Cond.fieldLink M.2.2.2.1.cls ix "EveryHand" "UNDER" "[I" ∈ GW) (hn : pc + 3 = n) (kk : V E M F n ls (.ref 300 :: st) σ) : V E M F pc ls st σ := by
  subst hn; intro p l e s m args below meth c C H locs la hP hS hl
  exact va_gets C.1 C.2.1 C.2.2.2.2.2.2.2.1.2.2.1.1 hS C.2.2.2.2.2.1 (C.2.2.2.2.2.2.1 _ hw) (fun x h => h) hd (kk p l e s m args below meth c C H locs la hP hS hl)
theorem V.getsUN (ho : M.2.2.2.1.cls = "EveryHand$Acts") (hd : decode M.1 pc = .ok (.getstatic 51, 3)) (hn : pc + 3 = n) (kk : V E M F n ls (.ref 300 :: st) σ) : V E M F pc ls st σ := by
  subst hn; intro p l e s m args below meth c C H locs la hP hS hl
  exact va_getsN C.1 C.2.1 C.2.2.2.2.2.2.2.1.2.2.1.1 hS (own := "EveryHand$Acts") (by rw [← ho]; exact C.2.2.2.2.2.1) (ref := "EveryHand") (host := "EveryHand") C.2.2.2.2.2.2.2.1.2.2.2.2.2.2.2.1 (fun x h => h) hd (kk p l e s m args below meth c C H locs la hP hS hl)
theorem V.getsO {ix : Nat} (hd : decode M.1 pc = .ok (.getstatic ix, 3)) (hw : Cond.fieldLink M.2.2.2.1.cls ix "EveryHand$Acts" "OWN" "[I" ∈ GW) (hn : pc + 3 = n) (kk : V E M F n ls (.ref 301 :: st) σ) : V E M F pc ls st σ := by
  subst hn; intro p l e s m args below meth c C H locs la hP hS hl
  exact va_gets C.1 C.2.1 C.2.2.2.2.2.2.2.1.2.2.2.1.1 hS C.2.2.2.2.2.1 (C.2.2.2.2.2.2.1 _ hw) (fun x h => h) hd (kk p l e s m args below meth c C H locs la hP hS hl)
theorem V.getsC {ix : Nat} (hd : decode M.1 pc = .ok (.getstatic ix, 3)) (hw : Cond.fieldLink M.2.2.2.1.cls ix "java/lang/String" "COMPACT_STRINGS" "Z" ∈ GW) (hn : pc + 3 = n) (kk : V E M F n ls (.int 1 :: st) σ) : V E M F pc ls st σ := by
  subst hn; intro p l e s m args below meth c C H locs la hP hS hl
  exact va_gets C.1 C.2.1 C.2.2.2.2.2.2.2.1.2.2.2.2.1 hS C.2.2.2.2.2.1 (C.2.2.2.2.2.2.1 _ hw) (fun x h => h) hd (kk p l e s m args below meth c C H locs la hP hS hl)
theorem V.taldU {i : Int32} (hd : decode M.1 pc = .ok (.iaload, 1)) (hi : ib i 6 = true) (hn : pc + 1 = n) (kk : V E M F n ls (.int (tUN.getD (ix i) 0) :: st) σ) : V E M F pc ls (.int i :: .ref 300 :: st) σ := by
  subst hn; intro p l e s m args below meth c C H locs la hP hS hl
  exact va_ti C.1 C.2.1 C.2.2.2.2.2.2.2.1.2.2.1.2 hS (ib_in.mp hi) rfl hd (kk p l e s m args below meth c C H locs la hP hS hl)
theorem V.taldO {i : Int32} (hd : decode M.1 pc = .ok (.iaload, 1)) (hi : ib i 24 = true) (hn : pc + 1 = n) (kk : V E M F n ls (.int (tOW.getD (ix i) 0) :: st) σ) : V E M F pc ls (.int i :: .ref 301 :: st) σ := by
  subst hn; intro p l e s m args below meth c C H locs la hP hS hl
  exact va_ti C.1 C.2.1 C.2.2.2.2.2.2.2.1.2.2.2.1.2 hS (ib_in.mp hi) rfl hd (kk p l e s m args below meth c C H locs la hP hS hl)
end HP
end
section
/-! rows of calls and ends -/
section CL
variable {E : Ev} {M : MI} {F : VF} {pc n : Nat} {ls : List (Nat × Value)} {st : List Value} {σ : St}
/-- what the tables say of a method: an instance method that can be called on its class; a static one -/
def MYV (M' : MI) : Prop := Cond.instanceMethod M'.2.2.2.1 ∈ GW ∧ Cond.selects M'.2.2.2.1.cls M'.2.2.2.1 M'.2.2.2.1 ∈ GW ∧ Cond.initialized M'.2.2.2.1.cls ∈ GW ∧ Cond.code M'.2.2.2.1 M'.1 M'.2.1 M'.2.2.1 ∈ GW
def MYS (M' : MI) : Prop := Cond.static M'.2.2.2.1 ∈ GW ∧ Cond.initialized M'.2.2.2.1.cls ∈ GW ∧ Cond.code M'.2.2.2.1 M'.1 M'.2.1 M'.2.2.1 ∈ GW
def MN (M' : MI) (k : Nat) : Prop := M'.2.2.2.1.cls ≠ "java/lang/invoke/MethodHandle" ∧ M'.2.2.2.1.cls ≠ "java/lang/invoke/VarHandle" ∧ (parseMethodDescriptor M'.2.2.2.1.desc).map (fun d => d.parameters.length) = some k
/-- the callee's room in the caller's -/
def RM (M M' : MI) : Prop := M'.2.2.2.2.cells = 0 ∧ M'.2.2.2.2.slots = 0 ∧ M'.2.2.2.2.frames + 1 ≤ M.2.2.2.2.frames ∧ 8 + (M'.2.1 + 11) + M'.2.2.2.2.locals ≤ M.2.2.2.2.locals
theorem gw_good : GoodIn GW GW := fun _ hw => ⟨hw, good_of_word (List.mem_filter.mp hw).2⟩
theorem gw_code {M' : MI} (h : Cond.code M'.2.2.2.1 M'.1 M'.2.1 M'.2.2.1 ∈ GW) : GoodIn GW (Cond.code M'.2.2.2.1 M'.1 M'.2.1 M'.2.2.1 :: GW) := fun w hw => by
  rcases List.mem_cons.mp hw with e | e
  · rw [e]; exact gw_good _ h
  · exact gw_good _ e
/-- behind a call -/
theorem call_on {p : Program} {l : Launch} {e : Env} {R : Room} {s : State} {m : MethodId} {args : Array Value} {below : List Frame} {meth : Method} {c : Code} {H : Heap} {locs : List Loc} {cs ss : Nat} {Q : State → Prop} {la : Array Slot} {st0 rest : List Value} {a : Array Value} {z : Option Value × St}
    (hr : va_Run p l e R s m args below meth c H locs cs ss 0 0 (F0 m pc la st0) rest (QZ E z a) (AA E)) (hS : va_S (AA E) s.heap H locs)
    (kk : ∀ (H1 : Heap) (locs1 : List Loc), va_P E.2.1 cls (wsO E z.2) H1 → va_S (AA E) s.heap H1 locs1 → W p l e R s m args below meth c H1 locs1 cs ss Q (F0 m (pc + 3) la (z.1.toList ++ rest))) : W p l e R s m args below meth c H locs cs ss Q (F0 m pc la st0) := by
  intro T hT X
  obtain ⟨v, st₀, t, T', L, h0, X', hL, e1, e2, ⟨hv, hp, hz, hk⟩, stp⟩ := hr T hT X
  have hv' : v = z.1 := by cases hv; rfl
  subst hv'
  rw [h0] at hz hk
  obtain ⟨t2, a1, b1⟩ := kk T'.heap (locs ++ L) (by rw [e1]; exact hp)
    ⟨Nat.le_trans hS.1 (by rw [e1]; exact hz), fun q h1 h2 => by rw [e1, hk q (Nat.lt_of_lt_of_le h1 hS.1) h2]; exact hS.2.1 q h1 h2, fun q hq => by
      rcases List.mem_append.mp hq with h | h
      · exact hS.2.2 q h
      · exact hL q h⟩ T' rfl X'
  exact ⟨t2, stp t2 a1, b1⟩
theorem pw_blind {av : List Value} : FrameBlind (va_Pc av (Pw E σ)) := fun a U g mk q => ⟨q.1, q.2.1, q.2.2.blind⟩
theorem cat_cv (l : List Value) : ((l.map (cv E)).map fun v => v.category).sum = (l.map fun v => v.category).sum := by
  rw [List.map_map]
  congr 1
  exact List.map_congr_left fun v _ => cv_cat E v
theorem z_cv {z : Option Value × St} {v : Option Int32} (h : z.1 = v.map Value.int) : z.1.toList.map (cv E) = z.1.toList := by
  rw [h]; cases v <;> rfl
theorem V.callv (k : Nat) (As : List Value) {stk : List Value} {M' : MI} {z : Option Value × St} {idx ci x : Nat} {v : Option Int32} (hd : decode M.1 pc = .ok (.invokevirtual idx, 3)) (hC : Ct M' E (.ref k :: As) σ z) (hz : z.1 = v.map Value.int) (hw : Cond.methodLink M.2.2.2.1.cls idx M'.2.2.2.1 ∈ GW) (hy : MYV M') (hm : MN M' As.length) (hr : RM M M') (hk : kd k = (ci, x)) (hci : ci < 7 ∧ (cls[ci]?.map (fun q => q.1)) = some M'.2.2.2.1.cls) (hst : stk = As.reverse ++ .ref k :: st) (hcat : (st.map fun v => v.category).sum ≤ 8) (hf : F.2.1 ≤ M.2.2.2.2.cells ∧ F.2.2.1 ≤ M.2.2.2.2.slots) (hn : pc + 3 = n) (kk : V E M F n ls (z.1.toList ++ st) z.2) : V E M F pc ls stk σ := by
  subst hn; subst hst; intro p l e s m args below meth c C H locs la hP hS hl
  obtain ⟨y1, y2, y3, y4⟩ := hy
  obtain ⟨r1, r2, r3, r4⟩ := hr
  have hts := C.2.2.2.2.2.2.1
  have hlt : k < 67 := kd_lt hk (by show ci < 99; omega)
  obtain ⟨q, hq, hq1⟩ : ∃ q : vw_C, cls[ci]? = some q ∧ q.1 = M'.2.2.2.1.cls := by
    cases h : cls[ci]? with
    | none => rw [h] at hci; cases hci.2
    | some q => rw [h] at hci; exact ⟨q, rfl, Option.some.inj hci.2⟩
  have hrc := va_recv C.2.2.2.2.2.2.2.1.2.1 hP hq (q0 := k) (a := E.1 k) (fs := flds E σ k ci) (by rw [wsO_at hlt, cel_obj hk hci.1])
  rw [hq1] at hrc
  have cw : CallW M.2.2.2.2 s args M.2.2.2.1.cls M'.2.2.2.1.cls idx M'.2.2.2.1 M'.1 M'.2.1 M'.2.2.1 (Cond.code M'.2.2.2.1 M'.1 M'.2.1 M'.2.2.1 :: GW) M'.2.2.2.2 0 0 As.length :=
    ⟨callB_of As.length hts (gw_code y4) rfl r1 r2 (hts _ y3) (hts _ hw) hm ⟨r3, r4⟩, hts _ y1, hts _ y2⟩
  refine call_on (z := z) (rest := st.map (cv E)) (va_runV (As := As.map (cv E)) (b := E.1 k) ⟨C.1, C.2.1, C.2.2.1, C.2.2.2.2.2.1, hts⟩ (hC l) cw ⟨pw_blind, hrc, fun U hU hW => ⟨rfl, by rw [hU]; exact hP, C.2.2.2.2.2.2.2.1.go hW (by rw [hU]; exact hS)⟩⟩ rfl (by simp) hl.1 ?_ (lv_room (by rw [cat_cv]; exact hcat)) hd hf) hS (fun H1 locs1 hP1 hS1 => ?_)
  · show (As.reverse ++ .ref k :: st).map (cv E) = _
    rw [List.map_append, List.map_reverse]
    rfl
  · have h := kk p l e s m args below meth c C H1 locs1 la hP1 hS1 hl
    rw [List.map_append, z_cv hz] at h
    exact h
theorem V.calls (As : List Value) {stk : List Value} {M' : MI} {z : Option Value × St} {idx : Nat} {v : Option Int32} (hd : decode M.1 pc = .ok (.invokestatic idx, 3)) (hC : Ct M' E As σ z) (hz : z.1 = v.map Value.int) (hw : Cond.methodLink M.2.2.2.1.cls idx M'.2.2.2.1 ∈ GW) (hy : MYS M') (hm : MN M' As.length) (hr : RM M M') (hst : stk = As.reverse ++ st) (hcat : (st.map fun v => v.category).sum ≤ 8) (hf : F.2.1 ≤ M.2.2.2.2.cells ∧ F.2.2.1 ≤ M.2.2.2.2.slots) (hn : pc + 3 = n) (kk : V E M F n ls (z.1.toList ++ st) z.2) : V E M F pc ls stk σ := by
  subst hn; subst hst; intro p l e s m args below meth c C H locs la hP hS hl
  obtain ⟨y1, y3, y4⟩ := hy
  obtain ⟨r1, r2, r3, r4⟩ := hr
  have hts := C.2.2.2.2.2.2.1
  have cw : CallB M.2.2.2.2 s args M.2.2.2.1.cls idx M'.2.2.2.1 M'.1 M'.2.1 M'.2.2.1 (Cond.code M'.2.2.2.1 M'.1 M'.2.1 M'.2.2.1 :: GW) M'.2.2.2.2 0 0 As.length :=
    callB_of As.length hts (gw_code y4) rfl r1 r2 (hts _ y3) (hts _ hw) hm ⟨r3, r4⟩
  refine call_on (z := z) (rest := st.map (cv E)) (va_runS (As := As.map (cv E)) ⟨C.1, C.2.1, C.2.2.1, C.2.2.2.2.2.1, hts⟩ (hC l) ⟨cw, hts _ y1⟩ ⟨pw_blind, fun U hU hW => ⟨rfl, by rw [hU]; exact hP, C.2.2.2.2.2.2.2.1.go hW (by rw [hU]; exact hS)⟩⟩ rfl (by simp) hl.1 ?_ (lv_room (by rw [cat_cv]; exact hcat)) hd hf) hS (fun H1 locs1 hP1 hS1 => ?_)
  · show (As.reverse ++ st).map (cv E) = _
    rw [List.map_append, List.map_reverse]
  · have h := kk p l e s m args below meth c C H1 locs1 la hP1 hS1 hl
    rw [List.map_append, z_cv hz] at h
    exact h
/-- a private static method of the class around -/
theorem V.callN (As : List Value) {stk : List Value} {M' : MI} {z : Option Value × St} {idx : Nat} {v : Option Int32} (hd : decode M.1 pc = .ok (.invokestatic idx, 3)) (hC : Ct M' E As σ z) (hz : z.1 = v.map Value.int) (hw : ∀ U, EN E U → va_Nw (.methodLinkNest M.2.2.2.1.cls idx M'.2.2.2.1 "EveryHand") U) (hy : MYS M') (hm : MN M' As.length) (hr : RM M M') (hst : stk = As.reverse ++ st) (hcat : (st.map fun v => v.category).sum ≤ 8) (hf : F.2.1 ≤ M.2.2.2.2.cells ∧ F.2.2.1 ≤ M.2.2.2.2.slots) (hn : pc + 3 = n) (kk : V E M F n ls (z.1.toList ++ st) z.2) : V E M F pc ls stk σ := by
  subst hn; subst hst; intro p l e s m args below meth c C H locs la hP hS hl
  obtain ⟨y1, y3, y4⟩ := hy
  obtain ⟨r1, r2, r3, r4⟩ := hr
  have hts := C.2.2.2.2.2.2.1
  have cw : va_CN M.2.2.2.2 s args M.2.2.2.1.cls idx M'.2.2.2.1 "EveryHand" M'.1 M'.2.1 M'.2.2.1 (Cond.code M'.2.2.2.1 M'.1 M'.2.1 M'.2.2.1 :: GW) M'.2.2.2.2 0 0 As.length :=
    va_cnB As.length hts (gw_code y4) rfl r1 r2 (hw s C.2.2.2.2.2.2.2.1) (hts _ y3) hm ⟨r3, r4⟩
  refine call_on (z := z) (rest := st.map (cv E)) (va_runSN (As := As.map (cv E)) ⟨C.1, C.2.1, C.2.2.1, C.2.2.2.2.2.1, hts⟩ (hC l) ⟨cw, hts _ y1, trivial⟩ ⟨pw_blind, fun U hU hW => ⟨rfl, by rw [hU]; exact hP, C.2.2.2.2.2.2.2.1.go hW (by rw [hU]; exact hS)⟩⟩ rfl (by simp) hl.1 ?_ (lv_room (by rw [cat_cv]; exact hcat)) hd hf) hS (fun H1 locs1 hP1 hS1 => ?_)
  · show (As.reverse ++ st).map (cv E) = _
    rw [List.map_append, List.map_reverse]
  · have h := kk p l e s m args below meth c C H1 locs1 la hP1 hS1 hl
    rw [List.map_append, z_cv hz] at h
    exact h
theorem qz_end {z : Option Value × St} {args : Array Value} {s : State} {H : Heap} {locs : List Loc} {σ : St} {o : Option Value} (hz : z = (o, σ)) (hP : va_P E.2.1 cls (wsO E σ) H) (hS : va_S (AA E) s.heap H locs) : ∀ t : State, t.heap = H → s.WarmedH t.vm → QZ E z args s (.returned o) t := by
  subst hz
  intro t ht _
  exact ⟨rfl, by rw [ht]; exact hP, hS.F ht⟩
theorem V.iret {x : Int32} {z : Option Value × St} (hd : decode M.1 pc = .ok (.ireturn, 1)) (hr : M.2.2.1 = some .int) (hz : z = (some (.int x), σ)) : V E M (FM E z) pc ls [.int x] σ := by
  intro p l e s m args below meth c C H locs la hP hS hl
  exact W.iret C.1 C.2.1 (by rw [C.2.2.2.1, hr]) (qz_end hz hP hS) hS.2.2 hd C.2.2.2.2.1
theorem V.zret {x : Int32} {z : Option Value × St} (ty : FieldType) (hd : decode M.1 pc = .ok (.ireturn, 1)) (hr : M.2.2.1 = some ty) (hx : narrow ty (.int x) = .int x) (hz : z = (some (.int x), σ)) : V E M (FM E z) pc ls [.int x] σ := by
  intro p l e s m args below meth c C H locs la hP hS hl
  exact W.zret C.1 C.2.1 (ty := ty) (by rw [C.2.2.2.1, hr]) hx (qz_end hz hP hS) hS.2.2 hd C.2.2.2.2.1
theorem V.vret {z : Option Value × St} (hd : decode M.1 pc = .ok (.return_, 1)) (hr : M.2.2.1 = none) (hz : z = (none, σ)) : V E M (FM E z) pc ls [] σ := by
  intro p l e s m args below meth c C H locs la hP hS hl
  exact W.vret C.1 C.2.1 (by rw [C.2.2.2.1, hr]) (qz_end hz hP hS) hS.2.2 hd C.2.2.2.2.1
theorem row_cp {σ : St} {a b n x : Nat} (h : x ≠ b) : (cpI σ a b n).1 x = σ.1 x := by
  funext j
  show (if x = b ∧ j < n then σ.1 a j else σ.1 x j) = _
  rw [if_neg (fun z => h z.1)]
theorem cel_cp {E : Ev} {σ : St} {a b n x : Nat} (h : x ≠ b) : cel E (cpI σ a b n) x = cel E σ x := by
  unfold cel
  have e2 : (cpI σ a b n).2.1 = σ.2.1 := rfl
  rw [row_cp h, e2]
  split
  · rfl
  · rfl
  · rfl
  · rename_i ci y _ _ _ he
    refine congrArg (fun y => Sum.inr (ci, y)) ?_
    unfold flds
    refine List.map_congr_left fun i _ => ?_
    cases (fc ci).getD i 0 with
    | zero => show Value.int ((cpI σ a b n).1 x i) = Value.int (σ.1 x i); rw [row_cp h]
    | succ c => match c with
      | 0 => rfl
      | 1 => rfl
      | _ + 2 => rfl
/-- System.arraycopy of n ints from place 0 to place 0 -/
theorem V.acopy (a b : Nat) {x y : Nat} {v : Int32} {idx : Nat} (hd : decode M.1 pc = .ok (.invokestatic idx, 3)) (hw : Cond.methodLink M.2.2.2.1.cls idx arraycopyName ∈ GW ∧ Cond.native arraycopyName ∈ GW ∧ Cond.static arraycopyName ∈ GW ∧ Cond.initialized "java/lang/System" ∈ GW) (ha : kd a = (7, x)) (hb : kd b = (7, y)) (hv : ¬ v < 0) (hx : v.toNatClampNeg ≤ x) (hy : v.toNatClampNeg ≤ y) (hr : 1 ≤ M.2.2.2.2.frames ∧ (st.map fun v => v.category).sum + (nativeFrameWords "java/lang/System" "arraycopy" 5 + 11) ≤ M.2.2.2.2.locals) (hn : pc + 3 = n) (kk : V E M F n ls st (cpI σ a b v.toNatClampNeg)) : V E M F pc ls (.int v :: .int 0 :: .ref b :: .int 0 :: .ref a :: st) σ := by
  subst hn; intro p l e s m args below meth c C H locs la hP hS hl
  have hla : a < 67 := kd_lt ha (show (7 : Nat) < 99 by decide)
  have hlb : b < 67 := kd_lt hb (show (7 : Nat) < 99 by decide)
  have hts := C.2.2.2.2.2.2.1
  refine va_copyi C.1 C.2.1 (C.2.2.1.trans hl.1.symm) C.2.2.2.2.2.1 (hts _ hw.1) (hts _ hw.2.1) (hts _ hw.2.2.1) (hts _ hw.2.2.2) C.2.2.2.2.2.2.2.1.2.1 hP (wsO_D C.2.2.2.2.2.2.2.1.1) hS a b 0 0 (f := σ.1 a) (g := σ.1 b) (by rw [wsO_at hla, cel_int ha]) (by rw [wsO_at hlb, cel_int hb]) rfl rfl rfl (by decide) (by decide) hv (by show 0 + _ ≤ x; omega) (by show 0 + _ ≤ y; omega) (fun i _ => rfl) hr.1 (by rw [cat_cv]; exact hr.2) hd (fun H1 locs1 hP1 hD1 hS1 => ?_)
  rw [wsO_set (σ' := cpI σ a b v.toNatClampNeg) hlb (by
    rw [cel_int hb]
    refine congrArg (fun y => Sum.inl (E.2.2.1, _, Sum.inl y)) ?_
    funext j
    show (if b = b ∧ j < v.toNatClampNeg then σ.1 a j else σ.1 b j) = va_cpy (σ.1 a) (σ.1 b) 0 0 v.toNatClampNeg j
    unfold va_cpy
    by_cases h : j < v.toNatClampNeg
    · rw [if_pos ⟨rfl, h⟩, if_pos ⟨Nat.zero_le _, by omega⟩, Nat.zero_add, Nat.sub_zero]
    · rw [if_neg (fun z => h z.2), if_neg (fun z => h (by omega))]) (fun a ha => cel_cp ha)] at hP1
  exact kk p l e s m args below meth c C H1 locs1 la hP1 hS1 hl
end CL
/-! what a walk takes out of an answer -/
theorem ob {α : Type} {c : Prop} [Decidable c] {x : Option α} {z : α} (h : (if c then x else none) = some z) : c ∧ x = some z := by
  by_cases hc : c
  · rw [if_pos hc] at h; exact ⟨hc, h⟩
  · rw [if_neg hc] at h; cases h
theorem bd {α β : Type} {x : Option α} {f : α → Option β} {z : β} (h : x.bind f = some z) : ∃ y, x = some y ∧ f y = some z := by
  cases x with
  | none => cases h
  | some y => exact ⟨y, rfl, h⟩
theorem ip {α : Sort _} {c : Prop} [Decidable c] {a b z : α} (h : (if c then a else b) = z) (hc : c) : a = z := by rw [if_pos hc] at h; exact h
theorem im {α : Sort _} {c : Prop} [Decidable c] {a b z : α} (h : (if c then a else b) = z) (hc : ¬ c) : b = z := by rw [if_neg hc] at h; exact h
end
