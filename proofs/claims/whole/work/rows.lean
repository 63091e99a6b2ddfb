section
-- ===== PART A: goes FIRST, ahead of the names: the tables' words, and 'selects' of the private methods out of them =====
/-- a private method of a class that the tables say can be made, by its rows of tables_1 -/
def lw_okq (q : MethodName × Nat) : Prop := (q.1.cls ≠ "java/lang/invoke/MethodHandle" ∧ q.1.cls ≠ "java/lang/invoke/VarHandle") ∧ Cond.instantiable q.1.cls q.2 ∈ tables_1 ∧ Cond.privateMethod q.1 ∈ tables_1 ∧ Cond.instanceMethod q.1 ∈ tables_1
theorem lw_p0 : lw_okq (⟨"EveryHand$TownText", "step", "()V"⟩, 4) := ⟨⟨by decide +kernel, by decide +kernel⟩, List.mem_of_getElem? (i := 77) (by decide +kernel), List.mem_of_getElem? (i := 221) (by decide +kernel), List.mem_of_getElem? (i := 222) (by decide +kernel)⟩
theorem lw_p1 : lw_okq (⟨"EveryHand$TownText", "isLetter", "(I)Z"⟩, 4) := ⟨⟨by decide +kernel, by decide +kernel⟩, List.mem_of_getElem? (i := 77) (by decide +kernel), List.mem_of_getElem? (i := 228) (by decide +kernel), List.mem_of_getElem? (i := 229) (by decide +kernel)⟩
theorem lw_p2 : lw_okq (⟨"EveryHand$TownText", "isDigit", "(I)Z"⟩, 4) := ⟨⟨by decide +kernel, by decide +kernel⟩, List.mem_of_getElem? (i := 77) (by decide +kernel), List.mem_of_getElem? (i := 232) (by decide +kernel), List.mem_of_getElem? (i := 233) (by decide +kernel)⟩
theorem lw_p3 : lw_okq (⟨"EveryHand$TownText", "readStatement", "(LEveryHand$Town;)Z"⟩, 4) := ⟨⟨by decide +kernel, by decide +kernel⟩, List.mem_of_getElem? (i := 77) (by decide +kernel), List.mem_of_getElem? (i := 236) (by decide +kernel), List.mem_of_getElem? (i := 237) (by decide +kernel)⟩
theorem lw_p4 : lw_okq (⟨"EveryHand$TownText", "reads", "(Ljava/lang/String;)Z"⟩, 4) := ⟨⟨by decide +kernel, by decide +kernel⟩, List.mem_of_getElem? (i := 77) (by decide +kernel), List.mem_of_getElem? (i := 241) (by decide +kernel), List.mem_of_getElem? (i := 242) (by decide +kernel)⟩
theorem lw_p5 : lw_okq (⟨"EveryHand$TownText", "readPerson", "(LEveryHand$Town;)Z"⟩, 4) := ⟨⟨by decide +kernel, by decide +kernel⟩, List.mem_of_getElem? (i := 77) (by decide +kernel), List.mem_of_getElem? (i := 293) (by decide +kernel), List.mem_of_getElem? (i := 294) (by decide +kernel)⟩
theorem lw_p6 : lw_okq (⟨"EveryHand$TownText", "readNumber", "(II)I"⟩, 4) := ⟨⟨by decide +kernel, by decide +kernel⟩, List.mem_of_getElem? (i := 77) (by decide +kernel), List.mem_of_getElem? (i := 297) (by decide +kernel), List.mem_of_getElem? (i := 298) (by decide +kernel)⟩
theorem lw_p7 : lw_okq (⟨"EveryHand$TownText", "readEnd", "()Z"⟩, 4) := ⟨⟨by decide +kernel, by decide +kernel⟩, List.mem_of_getElem? (i := 77) (by decide +kernel), List.mem_of_getElem? (i := 305) (by decide +kernel), List.mem_of_getElem? (i := 306) (by decide +kernel)⟩
theorem lw_p8 : lw_okq (⟨"EveryHand$TownText", "readKnow", "(LEveryHand$Town;)Z"⟩, 4) := ⟨⟨by decide +kernel, by decide +kernel⟩, List.mem_of_getElem? (i := 77) (by decide +kernel), List.mem_of_getElem? (i := 311) (by decide +kernel), List.mem_of_getElem? (i := 312) (by decide +kernel)⟩
theorem lw_p9 : lw_okq (⟨"EveryHand$TownText", "kindRead", "()I"⟩, 4) := ⟨⟨by decide +kernel, by decide +kernel⟩, List.mem_of_getElem? (i := 77) (by decide +kernel), List.mem_of_getElem? (i := 319) (by decide +kernel), List.mem_of_getElem? (i := 320) (by decide +kernel)⟩
theorem lw_p10 : lw_okq (⟨"EveryHand$TownText", "readCoin", "(LEveryHand$Town;I)Z"⟩, 4) := ⟨⟨by decide +kernel, by decide +kernel⟩, List.mem_of_getElem? (i := 77) (by decide +kernel), List.mem_of_getElem? (i := 329) (by decide +kernel), List.mem_of_getElem? (i := 330) (by decide +kernel)⟩
theorem lw_p11 : lw_okq (⟨"EveryHand$TownText", "readHad", "(LEveryHand$Town;I)Z"⟩, 4) := ⟨⟨by decide +kernel, by decide +kernel⟩, List.mem_of_getElem? (i := 77) (by decide +kernel), List.mem_of_getElem? (i := 339) (by decide +kernel), List.mem_of_getElem? (i := 340) (by decide +kernel)⟩
theorem lw_p12 : lw_okq (⟨"EveryHand", "leastCoinToGive", "()I"⟩, 10) := ⟨⟨by decide +kernel, by decide +kernel⟩, List.mem_of_getElem? (i := 16) (by decide +kernel), List.mem_of_getElem? (i := 471) (by decide +kernel), List.mem_of_getElem? (i := 472) (by decide +kernel)⟩
theorem lw_p13 : lw_okq (⟨"EveryHand", "look", "(II)I"⟩, 10) := ⟨⟨by decide +kernel, by decide +kernel⟩, List.mem_of_getElem? (i := 16) (by decide +kernel), List.mem_of_getElem? (i := 484) (by decide +kernel), List.mem_of_getElem? (i := 485) (by decide +kernel)⟩
theorem lw_p14 : lw_okq (⟨"EveryHand$Walks", "fill", "(II)V"⟩, 3) := ⟨⟨by decide +kernel, by decide +kernel⟩, List.mem_of_getElem? (i := 98) (by decide +kernel), List.mem_of_getElem? (i := 493) (by decide +kernel), List.mem_of_getElem? (i := 494) (by decide +kernel)⟩
theorem lw_p15 : lw_okq (⟨"EveryHand$Walks", "value", "(III)I"⟩, 3) := ⟨⟨by decide +kernel, by decide +kernel⟩, List.mem_of_getElem? (i := 98) (by decide +kernel), List.mem_of_getElem? (i := 498) (by decide +kernel), List.mem_of_getElem? (i := 499) (by decide +kernel)⟩
def lw_privs_1 : List (MethodName × Nat) := [(⟨"EveryHand$TownText", "step", "()V"⟩, 4), (⟨"EveryHand$TownText", "isLetter", "(I)Z"⟩, 4), (⟨"EveryHand$TownText", "isDigit", "(I)Z"⟩, 4), (⟨"EveryHand$TownText", "readStatement", "(LEveryHand$Town;)Z"⟩, 4), (⟨"EveryHand$TownText", "reads", "(Ljava/lang/String;)Z"⟩, 4), (⟨"EveryHand$TownText", "readPerson", "(LEveryHand$Town;)Z"⟩, 4), (⟨"EveryHand$TownText", "readNumber", "(II)I"⟩, 4), (⟨"EveryHand$TownText", "readEnd", "()Z"⟩, 4), (⟨"EveryHand$TownText", "readKnow", "(LEveryHand$Town;)Z"⟩, 4), (⟨"EveryHand$TownText", "kindRead", "()I"⟩, 4), (⟨"EveryHand$TownText", "readCoin", "(LEveryHand$Town;I)Z"⟩, 4), (⟨"EveryHand$TownText", "readHad", "(LEveryHand$Town;I)Z"⟩, 4), (⟨"EveryHand", "leastCoinToGive", "()I"⟩, 10), (⟨"EveryHand", "look", "(II)I"⟩, 10), (⟨"EveryHand$Walks", "fill", "(II)V"⟩, 3), (⟨"EveryHand$Walks", "value", "(III)I"⟩, 3)]
theorem lw_r1 : ∀ q ∈ lw_privs_1, lw_okq q := List.forall_mem_cons.mpr ⟨lw_p0, List.forall_mem_cons.mpr ⟨lw_p1, List.forall_mem_cons.mpr ⟨lw_p2, List.forall_mem_cons.mpr ⟨lw_p3, List.forall_mem_cons.mpr ⟨lw_p4, List.forall_mem_cons.mpr ⟨lw_p5, List.forall_mem_cons.mpr ⟨lw_p6, List.forall_mem_cons.mpr ⟨lw_p7, List.forall_mem_cons.mpr ⟨lw_p8, List.forall_mem_cons.mpr ⟨lw_p9, List.forall_mem_cons.mpr ⟨lw_p10, List.forall_mem_cons.mpr ⟨lw_p11, List.forall_mem_cons.mpr ⟨lw_p12, List.forall_mem_cons.mpr ⟨lw_p13, List.forall_mem_cons.mpr ⟨lw_p14, List.forall_mem_cons.mpr ⟨lw_p15, fun _ h => absurd h List.not_mem_nil⟩⟩⟩⟩⟩⟩⟩⟩⟩⟩⟩⟩⟩⟩⟩⟩
theorem lw_p16 : lw_okq (⟨"EveryHand", "leftIfAcquainted", "(III)I"⟩, 10) := ⟨⟨by decide +kernel, by decide +kernel⟩, List.mem_of_getElem? (i := 16) (by decide +kernel), List.mem_of_getElem? (i := 556) (by decide +kernel), List.mem_of_getElem? (i := 557) (by decide +kernel)⟩
theorem lw_p17 : lw_okq (⟨"EveryHand", "leftOfAll", "()I"⟩, 10) := ⟨⟨by decide +kernel, by decide +kernel⟩, List.mem_of_getElem? (i := 16) (by decide +kernel), List.mem_of_getElem? (i := 580) (by decide +kernel), List.mem_of_getElem? (i := 581) (by decide +kernel)⟩
theorem lw_p18 : lw_okq (⟨"EveryHand", "isRowPart", "(II)Z"⟩, 10) := ⟨⟨by decide +kernel, by decide +kernel⟩, List.mem_of_getElem? (i := 16) (by decide +kernel), List.mem_of_getElem? (i := 596) (by decide +kernel), List.mem_of_getElem? (i := 597) (by decide +kernel)⟩
theorem lw_p19 : lw_okq (⟨"EveryHand", "coinOnShelf", "(I)I"⟩, 10) := ⟨⟨by decide +kernel, by decide +kernel⟩, List.mem_of_getElem? (i := 16) (by decide +kernel), List.mem_of_getElem? (i := 663) (by decide +kernel), List.mem_of_getElem? (i := 664) (by decide +kernel)⟩
theorem lw_p20 : lw_okq (⟨"EveryHand$Acts", "perform", "(IIII)I"⟩, 6) := ⟨⟨by decide +kernel, by decide +kernel⟩, List.mem_of_getElem? (i := 114) (by decide +kernel), List.mem_of_getElem? (i := 680) (by decide +kernel), List.mem_of_getElem? (i := 681) (by decide +kernel)⟩
theorem lw_p21 : lw_okq (⟨"EveryHand$Acts", "note", "(I)V"⟩, 6) := ⟨⟨by decide +kernel, by decide +kernel⟩, List.mem_of_getElem? (i := 114) (by decide +kernel), List.mem_of_getElem? (i := 690) (by decide +kernel), List.mem_of_getElem? (i := 691) (by decide +kernel)⟩
theorem lw_p22 : lw_okq (⟨"EveryHand$Acts", "share", "(I)I"⟩, 6) := ⟨⟨by decide +kernel, by decide +kernel⟩, List.mem_of_getElem? (i := 114) (by decide +kernel), List.mem_of_getElem? (i := 694) (by decide +kernel), List.mem_of_getElem? (i := 695) (by decide +kernel)⟩
theorem lw_p23 : lw_okq (⟨"EveryHandModel", "advance", "()V"⟩, 43) := ⟨⟨by decide +kernel, by decide +kernel⟩, List.mem_of_getElem? (i := 721) (by decide +kernel), List.mem_of_getElem? (i := 870) (by decide +kernel), List.mem_of_getElem? (i := 871) (by decide +kernel)⟩
theorem lw_p24 : lw_okq (⟨"EveryHandModel", "byteAt", "(I)I"⟩, 43) := ⟨⟨by decide +kernel, by decide +kernel⟩, List.mem_of_getElem? (i := 721) (by decide +kernel), List.mem_of_getElem? (i := 874) (by decide +kernel), List.mem_of_getElem? (i := 875) (by decide +kernel)⟩
theorem lw_p25 : lw_okq (⟨"EveryHandModel", "isWord", "(J)Z"⟩, 43) := ⟨⟨by decide +kernel, by decide +kernel⟩, List.mem_of_getElem? (i := 721) (by decide +kernel), List.mem_of_getElem? (i := 888) (by decide +kernel), List.mem_of_getElem? (i := 889) (by decide +kernel)⟩
theorem lw_p26 : lw_okq (⟨"EveryHandModel", "wantPerson", "()V"⟩, 43) := ⟨⟨by decide +kernel, by decide +kernel⟩, List.mem_of_getElem? (i := 721) (by decide +kernel), List.mem_of_getElem? (i := 892) (by decide +kernel), List.mem_of_getElem? (i := 893) (by decide +kernel)⟩
theorem lw_p27 : lw_okq (⟨"EveryHandModel", "wantNumber", "(II)I"⟩, 43) := ⟨⟨by decide +kernel, by decide +kernel⟩, List.mem_of_getElem? (i := 721) (by decide +kernel), List.mem_of_getElem? (i := 896) (by decide +kernel), List.mem_of_getElem? (i := 897) (by decide +kernel)⟩
theorem lw_p28 : lw_okq (⟨"EveryHandModel", "wantEnd", "()V"⟩, 43) := ⟨⟨by decide +kernel, by decide +kernel⟩, List.mem_of_getElem? (i := 721) (by decide +kernel), List.mem_of_getElem? (i := 900) (by decide +kernel), List.mem_of_getElem? (i := 901) (by decide +kernel)⟩
theorem lw_p29 : lw_okq (⟨"EveryHandModel", "isMark", "(I)Z"⟩, 43) := ⟨⟨by decide +kernel, by decide +kernel⟩, List.mem_of_getElem? (i := 721) (by decide +kernel), List.mem_of_getElem? (i := 904) (by decide +kernel), List.mem_of_getElem? (i := 905) (by decide +kernel)⟩
theorem lw_p30 : lw_okq (⟨"EveryHandModel", "wantKnow", "()V"⟩, 43) := ⟨⟨by decide +kernel, by decide +kernel⟩, List.mem_of_getElem? (i := 721) (by decide +kernel), List.mem_of_getElem? (i := 909) (by decide +kernel), List.mem_of_getElem? (i := 910) (by decide +kernel)⟩
theorem lw_p31 : lw_okq (⟨"EveryHandModel", "kindHere", "()I"⟩, 43) := ⟨⟨by decide +kernel, by decide +kernel⟩, List.mem_of_getElem? (i := 721) (by decide +kernel), List.mem_of_getElem? (i := 913) (by decide +kernel), List.mem_of_getElem? (i := 914) (by decide +kernel)⟩
def lw_privs_2 : List (MethodName × Nat) := [(⟨"EveryHand", "leftIfAcquainted", "(III)I"⟩, 10), (⟨"EveryHand", "leftOfAll", "()I"⟩, 10), (⟨"EveryHand", "isRowPart", "(II)Z"⟩, 10), (⟨"EveryHand", "coinOnShelf", "(I)I"⟩, 10), (⟨"EveryHand$Acts", "perform", "(IIII)I"⟩, 6), (⟨"EveryHand$Acts", "note", "(I)V"⟩, 6), (⟨"EveryHand$Acts", "share", "(I)I"⟩, 6), (⟨"EveryHandModel", "advance", "()V"⟩, 43), (⟨"EveryHandModel", "byteAt", "(I)I"⟩, 43), (⟨"EveryHandModel", "isWord", "(J)Z"⟩, 43), (⟨"EveryHandModel", "wantPerson", "()V"⟩, 43), (⟨"EveryHandModel", "wantNumber", "(II)I"⟩, 43), (⟨"EveryHandModel", "wantEnd", "()V"⟩, 43), (⟨"EveryHandModel", "isMark", "(I)Z"⟩, 43), (⟨"EveryHandModel", "wantKnow", "()V"⟩, 43), (⟨"EveryHandModel", "kindHere", "()I"⟩, 43)]
theorem lw_r2 : ∀ q ∈ lw_privs_2, lw_okq q := List.forall_mem_cons.mpr ⟨lw_p16, List.forall_mem_cons.mpr ⟨lw_p17, List.forall_mem_cons.mpr ⟨lw_p18, List.forall_mem_cons.mpr ⟨lw_p19, List.forall_mem_cons.mpr ⟨lw_p20, List.forall_mem_cons.mpr ⟨lw_p21, List.forall_mem_cons.mpr ⟨lw_p22, List.forall_mem_cons.mpr ⟨lw_p23, List.forall_mem_cons.mpr ⟨lw_p24, List.forall_mem_cons.mpr ⟨lw_p25, List.forall_mem_cons.mpr ⟨lw_p26, List.forall_mem_cons.mpr ⟨lw_p27, List.forall_mem_cons.mpr ⟨lw_p28, List.forall_mem_cons.mpr ⟨lw_p29, List.forall_mem_cons.mpr ⟨lw_p30, List.forall_mem_cons.mpr ⟨lw_p31, fun _ h => absurd h List.not_mem_nil⟩⟩⟩⟩⟩⟩⟩⟩⟩⟩⟩⟩⟩⟩⟩⟩
theorem lw_p32 : lw_okq (⟨"EveryHandModel", "wantCoin", "(I)V"⟩, 43) := ⟨⟨by decide +kernel, by decide +kernel⟩, List.mem_of_getElem? (i := 721) (by decide +kernel), List.mem_of_getElem? (i := 923) (by decide +kernel), List.mem_of_getElem? (i := 924) (by decide +kernel)⟩
theorem lw_p33 : lw_okq (⟨"EveryHandModel", "isPerson", "(I)Z"⟩, 43) := ⟨⟨by decide +kernel, by decide +kernel⟩, List.mem_of_getElem? (i := 721) (by decide +kernel), List.mem_of_getElem? (i := 937) (by decide +kernel), List.mem_of_getElem? (i := 938) (by decide +kernel)⟩
theorem lw_p34 : lw_okq (⟨"EveryHandModel", "heldBy", "(I)I"⟩, 43) := ⟨⟨by decide +kernel, by decide +kernel⟩, List.mem_of_getElem? (i := 721) (by decide +kernel), List.mem_of_getElem? (i := 941) (by decide +kernel), List.mem_of_getElem? (i := 942) (by decide +kernel)⟩
theorem lw_p35 : lw_okq (⟨"EveryHandModel", "its", "(II)I"⟩, 43) := ⟨⟨by decide +kernel, by decide +kernel⟩, List.mem_of_getElem? (i := 721) (by decide +kernel), List.mem_of_getElem? (i := 945) (by decide +kernel), List.mem_of_getElem? (i := 946) (by decide +kernel)⟩
theorem lw_p36 : lw_okq (⟨"EveryHandModel", "worthOf", "(I)I"⟩, 43) := ⟨⟨by decide +kernel, by decide +kernel⟩, List.mem_of_getElem? (i := 721) (by decide +kernel), List.mem_of_getElem? (i := 949) (by decide +kernel), List.mem_of_getElem? (i := 950) (by decide +kernel)⟩
theorem lw_p37 : lw_okq (⟨"EveryHandModel", "worth", "(I)I"⟩, 43) := ⟨⟨by decide +kernel, by decide +kernel⟩, List.mem_of_getElem? (i := 721) (by decide +kernel), List.mem_of_getElem? (i := 956) (by decide +kernel), List.mem_of_getElem? (i := 957) (by decide +kernel)⟩
theorem lw_p38 : lw_okq (⟨"EveryHandModel", "swapsKnow", "(II)V"⟩, 43) := ⟨⟨by decide +kernel, by decide +kernel⟩, List.mem_of_getElem? (i := 721) (by decide +kernel), List.mem_of_getElem? (i := 968) (by decide +kernel), List.mem_of_getElem? (i := 969) (by decide +kernel)⟩
theorem lw_p39 : lw_okq (⟨"EveryHandModel", "isCoin", "(I)Z"⟩, 43) := ⟨⟨by decide +kernel, by decide +kernel⟩, List.mem_of_getElem? (i := 721) (by decide +kernel), List.mem_of_getElem? (i := 980) (by decide +kernel), List.mem_of_getElem? (i := 981) (by decide +kernel)⟩
theorem lw_p40 : lw_okq (⟨"EveryHandModel", "mayAll", "(I)I"⟩, 43) := ⟨⟨by decide +kernel, by decide +kernel⟩, List.mem_of_getElem? (i := 721) (by decide +kernel), List.mem_of_getElem? (i := 984) (by decide +kernel), List.mem_of_getElem? (i := 985) (by decide +kernel)⟩
theorem lw_p41 : lw_okq (⟨"EveryHandModel", "mayNow", "(II)Z"⟩, 43) := ⟨⟨by decide +kernel, by decide +kernel⟩, List.mem_of_getElem? (i := 721) (by decide +kernel), List.mem_of_getElem? (i := 988) (by decide +kernel), List.mem_of_getElem? (i := 989) (by decide +kernel)⟩
theorem lw_p42 : lw_okq (⟨"EveryHandModel", "mayBe", "(IIII)Z"⟩, 43) := ⟨⟨by decide +kernel, by decide +kernel⟩, List.mem_of_getElem? (i := 721) (by decide +kernel), List.mem_of_getElem? (i := 992) (by decide +kernel), List.mem_of_getElem? (i := 993) (by decide +kernel)⟩
theorem lw_p43 : lw_okq (⟨"EveryHandModel", "gives", "(II)Z"⟩, 43) := ⟨⟨by decide +kernel, by decide +kernel⟩, List.mem_of_getElem? (i := 721) (by decide +kernel), List.mem_of_getElem? (i := 1015) (by decide +kernel), List.mem_of_getElem? (i := 1016) (by decide +kernel)⟩
theorem lw_p44 : lw_okq (⟨"EveryHandModel", "everybody", "()I"⟩, 43) := ⟨⟨by decide +kernel, by decide +kernel⟩, List.mem_of_getElem? (i := 721) (by decide +kernel), List.mem_of_getElem? (i := 1019) (by decide +kernel), List.mem_of_getElem? (i := 1020) (by decide +kernel)⟩
theorem lw_p45 : lw_okq (⟨"EveryHandModel", "goes", "(I)V"⟩, 43) := ⟨⟨by decide +kernel, by decide +kernel⟩, List.mem_of_getElem? (i := 721) (by decide +kernel), List.mem_of_getElem? (i := 1023) (by decide +kernel), List.mem_of_getElem? (i := 1024) (by decide +kernel)⟩
theorem lw_p46 : lw_okq (⟨"EveryHandModel", "firstFree", "()I"⟩, 43) := ⟨⟨by decide +kernel, by decide +kernel⟩, List.mem_of_getElem? (i := 721) (by decide +kernel), List.mem_of_getElem? (i := 1036) (by decide +kernel), List.mem_of_getElem? (i := 1037) (by decide +kernel)⟩
theorem lw_p47 : lw_okq (⟨"EveryHandModel", "leftOf", "(I)I"⟩, 43) := ⟨⟨by decide +kernel, by decide +kernel⟩, List.mem_of_getElem? (i := 721) (by decide +kernel), List.mem_of_getElem? (i := 1049) (by decide +kernel), List.mem_of_getElem? (i := 1050) (by decide +kernel)⟩
def lw_privs_3 : List (MethodName × Nat) := [(⟨"EveryHandModel", "wantCoin", "(I)V"⟩, 43), (⟨"EveryHandModel", "isPerson", "(I)Z"⟩, 43), (⟨"EveryHandModel", "heldBy", "(I)I"⟩, 43), (⟨"EveryHandModel", "its", "(II)I"⟩, 43), (⟨"EveryHandModel", "worthOf", "(I)I"⟩, 43), (⟨"EveryHandModel", "worth", "(I)I"⟩, 43), (⟨"EveryHandModel", "swapsKnow", "(II)V"⟩, 43), (⟨"EveryHandModel", "isCoin", "(I)Z"⟩, 43), (⟨"EveryHandModel", "mayAll", "(I)I"⟩, 43), (⟨"EveryHandModel", "mayNow", "(II)Z"⟩, 43), (⟨"EveryHandModel", "mayBe", "(IIII)Z"⟩, 43), (⟨"EveryHandModel", "gives", "(II)Z"⟩, 43), (⟨"EveryHandModel", "everybody", "()I"⟩, 43), (⟨"EveryHandModel", "goes", "(I)V"⟩, 43), (⟨"EveryHandModel", "firstFree", "()I"⟩, 43), (⟨"EveryHandModel", "leftOf", "(I)I"⟩, 43)]
theorem lw_r3 : ∀ q ∈ lw_privs_3, lw_okq q := List.forall_mem_cons.mpr ⟨lw_p32, List.forall_mem_cons.mpr ⟨lw_p33, List.forall_mem_cons.mpr ⟨lw_p34, List.forall_mem_cons.mpr ⟨lw_p35, List.forall_mem_cons.mpr ⟨lw_p36, List.forall_mem_cons.mpr ⟨lw_p37, List.forall_mem_cons.mpr ⟨lw_p38, List.forall_mem_cons.mpr ⟨lw_p39, List.forall_mem_cons.mpr ⟨lw_p40, List.forall_mem_cons.mpr ⟨lw_p41, List.forall_mem_cons.mpr ⟨lw_p42, List.forall_mem_cons.mpr ⟨lw_p43, List.forall_mem_cons.mpr ⟨lw_p44, List.forall_mem_cons.mpr ⟨lw_p45, List.forall_mem_cons.mpr ⟨lw_p46, List.forall_mem_cons.mpr ⟨lw_p47, fun _ h => absurd h List.not_mem_nil⟩⟩⟩⟩⟩⟩⟩⟩⟩⟩⟩⟩⟩⟩⟩⟩
theorem lw_p48 : lw_okq (⟨"EveryHandModel", "findAll", "(I)V"⟩, 43) := ⟨⟨by decide +kernel, by decide +kernel⟩, List.mem_of_getElem? (i := 721) (by decide +kernel), List.mem_of_getElem? (i := 1053) (by decide +kernel), List.mem_of_getElem? (i := 1054) (by decide +kernel)⟩
theorem lw_p49 : lw_okq (⟨"EveryHandModel", "findOne", "(III)V"⟩, 43) := ⟨⟨by decide +kernel, by decide +kernel⟩, List.mem_of_getElem? (i := 721) (by decide +kernel), List.mem_of_getElem? (i := 1057) (by decide +kernel), List.mem_of_getElem? (i := 1058) (by decide +kernel)⟩
theorem lw_p50 : lw_okq (⟨"EveryHandModel", "placeOf", "(I)I"⟩, 43) := ⟨⟨by decide +kernel, by decide +kernel⟩, List.mem_of_getElem? (i := 721) (by decide +kernel), List.mem_of_getElem? (i := 1061) (by decide +kernel), List.mem_of_getElem? (i := 1062) (by decide +kernel)⟩
theorem lw_p51 : lw_okq (⟨"EveryHandModel", "findRow", "(I)V"⟩, 43) := ⟨⟨by decide +kernel, by decide +kernel⟩, List.mem_of_getElem? (i := 721) (by decide +kernel), List.mem_of_getElem? (i := 1081) (by decide +kernel), List.mem_of_getElem? (i := 1082) (by decide +kernel)⟩
theorem lw_p52 : lw_okq (⟨"EveryHandModel", "given", "(II)I"⟩, 43) := ⟨⟨by decide +kernel, by decide +kernel⟩, List.mem_of_getElem? (i := 721) (by decide +kernel), List.mem_of_getElem? (i := 1097) (by decide +kernel), List.mem_of_getElem? (i := 1098) (by decide +kernel)⟩
theorem lw_p53 : lw_okq (⟨"EveryHandModel", "isRow", "(II)Z"⟩, 43) := ⟨⟨by decide +kernel, by decide +kernel⟩, List.mem_of_getElem? (i := 721) (by decide +kernel), List.mem_of_getElem? (i := 1132) (by decide +kernel), List.mem_of_getElem? (i := 1133) (by decide +kernel)⟩
theorem lw_p54 : lw_okq (⟨"EveryHandModel", "lacksSort", "(II)I"⟩, 43) := ⟨⟨by decide +kernel, by decide +kernel⟩, List.mem_of_getElem? (i := 721) (by decide +kernel), List.mem_of_getElem? (i := 1151) (by decide +kernel), List.mem_of_getElem? (i := 1152) (by decide +kernel)⟩
theorem lw_p55 : lw_okq (⟨"EveryHandModel", "isHeld", "(II)Z"⟩, 43) := ⟨⟨by decide +kernel, by decide +kernel⟩, List.mem_of_getElem? (i := 721) (by decide +kernel), List.mem_of_getElem? (i := 1172) (by decide +kernel), List.mem_of_getElem? (i := 1173) (by decide +kernel)⟩
theorem lw_p56 : lw_okq (⟨"EveryHandModel", "kindOn", "(I)I"⟩, 43) := ⟨⟨by decide +kernel, by decide +kernel⟩, List.mem_of_getElem? (i := 721) (by decide +kernel), List.mem_of_getElem? (i := 1180) (by decide +kernel), List.mem_of_getElem? (i := 1181) (by decide +kernel)⟩
theorem lw_p57 : lw_okq (⟨"EveryHandModel", "ringsIt", "(I)I"⟩, 43) := ⟨⟨by decide +kernel, by decide +kernel⟩, List.mem_of_getElem? (i := 721) (by decide +kernel), List.mem_of_getElem? (i := 1191) (by decide +kernel), List.mem_of_getElem? (i := 1192) (by decide +kernel)⟩
theorem lw_p58 : lw_okq (⟨"EveryHandModel", "crownRings", "(I)I"⟩, 43) := ⟨⟨by decide +kernel, by decide +kernel⟩, List.mem_of_getElem? (i := 721) (by decide +kernel), List.mem_of_getElem? (i := 1195) (by decide +kernel), List.mem_of_getElem? (i := 1196) (by decide +kernel)⟩
theorem lw_p59 : lw_okq (⟨"EveryHandModel", "ran", "(I)V"⟩, 43) := ⟨⟨by decide +kernel, by decide +kernel⟩, List.mem_of_getElem? (i := 721) (by decide +kernel), List.mem_of_getElem? (i := 1199) (by decide +kernel), List.mem_of_getElem? (i := 1200) (by decide +kernel)⟩
theorem lw_p60 : lw_okq (⟨"EveryHandModel", "plainRings", "(I)I"⟩, 43) := ⟨⟨by decide +kernel, by decide +kernel⟩, List.mem_of_getElem? (i := 721) (by decide +kernel), List.mem_of_getElem? (i := 1203) (by decide +kernel), List.mem_of_getElem? (i := 1204) (by decide +kernel)⟩
theorem lw_p61 : lw_okq (⟨"EveryHandModel", "weighsIt", "(I)I"⟩, 43) := ⟨⟨by decide +kernel, by decide +kernel⟩, List.mem_of_getElem? (i := 721) (by decide +kernel), List.mem_of_getElem? (i := 1207) (by decide +kernel), List.mem_of_getElem? (i := 1208) (by decide +kernel)⟩
theorem lw_p62 : lw_okq (⟨"EveryHandModel", "plainWeighs", "(I)I"⟩, 43) := ⟨⟨by decide +kernel, by decide +kernel⟩, List.mem_of_getElem? (i := 721) (by decide +kernel), List.mem_of_getElem? (i := 1211) (by decide +kernel), List.mem_of_getElem? (i := 1212) (by decide +kernel)⟩
theorem lw_p63 : lw_okq (⟨"EveryHandModel", "sharesIt", "(I)I"⟩, 43) := ⟨⟨by decide +kernel, by decide +kernel⟩, List.mem_of_getElem? (i := 721) (by decide +kernel), List.mem_of_getElem? (i := 1215) (by decide +kernel), List.mem_of_getElem? (i := 1216) (by decide +kernel)⟩
def lw_privs_4 : List (MethodName × Nat) := [(⟨"EveryHandModel", "findAll", "(I)V"⟩, 43), (⟨"EveryHandModel", "findOne", "(III)V"⟩, 43), (⟨"EveryHandModel", "placeOf", "(I)I"⟩, 43), (⟨"EveryHandModel", "findRow", "(I)V"⟩, 43), (⟨"EveryHandModel", "given", "(II)I"⟩, 43), (⟨"EveryHandModel", "isRow", "(II)Z"⟩, 43), (⟨"EveryHandModel", "lacksSort", "(II)I"⟩, 43), (⟨"EveryHandModel", "isHeld", "(II)Z"⟩, 43), (⟨"EveryHandModel", "kindOn", "(I)I"⟩, 43), (⟨"EveryHandModel", "ringsIt", "(I)I"⟩, 43), (⟨"EveryHandModel", "crownRings", "(I)I"⟩, 43), (⟨"EveryHandModel", "ran", "(I)V"⟩, 43), (⟨"EveryHandModel", "plainRings", "(I)I"⟩, 43), (⟨"EveryHandModel", "weighsIt", "(I)I"⟩, 43), (⟨"EveryHandModel", "plainWeighs", "(I)I"⟩, 43), (⟨"EveryHandModel", "sharesIt", "(I)I"⟩, 43)]
theorem lw_r4 : ∀ q ∈ lw_privs_4, lw_okq q := List.forall_mem_cons.mpr ⟨lw_p48, List.forall_mem_cons.mpr ⟨lw_p49, List.forall_mem_cons.mpr ⟨lw_p50, List.forall_mem_cons.mpr ⟨lw_p51, List.forall_mem_cons.mpr ⟨lw_p52, List.forall_mem_cons.mpr ⟨lw_p53, List.forall_mem_cons.mpr ⟨lw_p54, List.forall_mem_cons.mpr ⟨lw_p55, List.forall_mem_cons.mpr ⟨lw_p56, List.forall_mem_cons.mpr ⟨lw_p57, List.forall_mem_cons.mpr ⟨lw_p58, List.forall_mem_cons.mpr ⟨lw_p59, List.forall_mem_cons.mpr ⟨lw_p60, List.forall_mem_cons.mpr ⟨lw_p61, List.forall_mem_cons.mpr ⟨lw_p62, List.forall_mem_cons.mpr ⟨lw_p63, fun _ h => absurd h List.not_mem_nil⟩⟩⟩⟩⟩⟩⟩⟩⟩⟩⟩⟩⟩⟩⟩⟩
theorem lw_p64 : lw_okq (⟨"EveryHandModel", "plainShares", "(I)I"⟩, 43) := ⟨⟨by decide +kernel, by decide +kernel⟩, List.mem_of_getElem? (i := 721) (by decide +kernel), List.mem_of_getElem? (i := 1219) (by decide +kernel), List.mem_of_getElem? (i := 1220) (by decide +kernel)⟩
theorem lw_p65 : lw_okq (⟨"EveryHandModel", "tellsIt", "(I)I"⟩, 43) := ⟨⟨by decide +kernel, by decide +kernel⟩, List.mem_of_getElem? (i := 721) (by decide +kernel), List.mem_of_getElem? (i := 1223) (by decide +kernel), List.mem_of_getElem? (i := 1224) (by decide +kernel)⟩
theorem lw_p66 : lw_okq (⟨"EveryHandModel", "plainTells", "(I)I"⟩, 43) := ⟨⟨by decide +kernel, by decide +kernel⟩, List.mem_of_getElem? (i := 721) (by decide +kernel), List.mem_of_getElem? (i := 1227) (by decide +kernel), List.mem_of_getElem? (i := 1228) (by decide +kernel)⟩
theorem lw_p67 : lw_okq (⟨"EveryHandModel", "moveAll", "(Z)V"⟩, 43) := ⟨⟨by decide +kernel, by decide +kernel⟩, List.mem_of_getElem? (i := 721) (by decide +kernel), List.mem_of_getElem? (i := 1243) (by decide +kernel), List.mem_of_getElem? (i := 1244) (by decide +kernel)⟩
theorem lw_p68 : lw_okq (⟨"EveryHandModel", "moveRow", "([IIZ)V"⟩, 43) := ⟨⟨by decide +kernel, by decide +kernel⟩, List.mem_of_getElem? (i := 721) (by decide +kernel), List.mem_of_getElem? (i := 1247) (by decide +kernel), List.mem_of_getElem? (i := 1248) (by decide +kernel)⟩
def lw_privs_5 : List (MethodName × Nat) := [(⟨"EveryHandModel", "plainShares", "(I)I"⟩, 43), (⟨"EveryHandModel", "tellsIt", "(I)I"⟩, 43), (⟨"EveryHandModel", "plainTells", "(I)I"⟩, 43), (⟨"EveryHandModel", "moveAll", "(Z)V"⟩, 43), (⟨"EveryHandModel", "moveRow", "([IIZ)V"⟩, 43)]
theorem lw_r5 : ∀ q ∈ lw_privs_5, lw_okq q := List.forall_mem_cons.mpr ⟨lw_p64, List.forall_mem_cons.mpr ⟨lw_p65, List.forall_mem_cons.mpr ⟨lw_p66, List.forall_mem_cons.mpr ⟨lw_p67, List.forall_mem_cons.mpr ⟨lw_p68, fun _ h => absurd h List.not_mem_nil⟩⟩⟩⟩⟩
def lw_privs : List (MethodName × Nat) := lw_privs_1 ++ (lw_privs_2 ++ (lw_privs_3 ++ (lw_privs_4 ++ (lw_privs_5))))
def lw_tbl : List Cond := k2_sels lw_privs ++ tables_1
theorem lw_privs_ok : ∀ q ∈ lw_privs, lw_okq q := by
  show ∀ q ∈ lw_privs_1 ++ (lw_privs_2 ++ (lw_privs_3 ++ (lw_privs_4 ++ (lw_privs_5)))), lw_okq q
  exact List.forall_mem_append.mpr ⟨lw_r1, List.forall_mem_append.mpr ⟨lw_r2, List.forall_mem_append.mpr ⟨lw_r3, List.forall_mem_append.mpr ⟨lw_r4, lw_r5⟩⟩⟩⟩
end
section
/-! names: classes, their fields, the numbering of the cells, the methods; printed by wip/tools/gen_names.py -/
abbrev MI : Type := ByteArray × Nat × Option FieldType × MethodName × Room
def rm (d : Nat) : Room := { frames := d, cells := 0, slots := 0, locals := 40 * d }
def GW : List Cond := lw_tbl.filter goodWord
theorem gw {w : Cond} (i : Nat) (h : lw_tbl[i]? = some w) (g : goodWord w = true) : w ∈ GW := List.mem_filter.mpr ⟨List.mem_of_getElem? h, g⟩
def cT0 : u_T := fun k => match k with
  | 0 => ("EveryHand$Acts", "trace", "[I", true)
  | 1 => ("EveryHand$Acts", "traced", "I", false)
  | 2 => ("EveryHand$Acts", "kind", "I", false)
  | 3 => ("EveryHand$Acts", "n", "I", false)
  | 4 => ("EveryHand$Acts", "a", "I", false)
  | _ => ("EveryHand$Acts", "parted", "Z", false)
def cY0 : Nat → FieldType := fun k => match k with
  | 0 => .array .int
  | 1 => .int
  | 2 => .int
  | 3 => .int
  | 4 => .int
  | _ => .boolean
def cT1 : u_T := fun k => match k with
  | 0 => ("EveryHand$Host", "sort", "[I", true)
  | 1 => ("EveryHand$Host", "size", "[I", true)
  | 2 => ("EveryHand$Host", "items", "[[I", true)
  | 3 => ("EveryHand$Host", "holds", "[I", true)
  | 4 => ("EveryHand$Host", "number", "[I", true)
  | _ => ("EveryHand$Host", "rowSort", "[I", true)
def cY1 : Nat → FieldType := fun k => match k with
  | 0 => .array .int
  | 1 => .array .int
  | 2 => .array (.array .int)
  | 3 => .array .int
  | 4 => .array .int
  | _ => .array .int
def cT2 : u_T := fun k => match k with
  | 0 => ("EveryHand$Town", "people", "I", false)
  | 1 => ("EveryHand$Town", "coins", "I", false)
  | 2 => ("EveryHand$Town", "z", "I", false)
  | 3 => ("EveryHand$Town", "rank", "[I", true)
  | 4 => ("EveryHand$Town", "silver", "[I", true)
  | 5 => ("EveryHand$Town", "known", "[I", true)
  | 6 => ("EveryHand$Town", "kind", "[I", true)
  | 7 => ("EveryHand$Town", "a", "[I", true)
  | 8 => ("EveryHand$Town", "holder", "[I", true)
  | _ => ("EveryHand$Town", "had", "[I", true)
def cY2 : Nat → FieldType := fun k => match k with
  | 0 => .int
  | 1 => .int
  | 2 => .int
  | 3 => .array .int
  | 4 => .array .int
  | 5 => .array .int
  | 6 => .array .int
  | 7 => .array .int
  | 8 => .array .int
  | _ => .array .int
def cT3 : u_T := fun k => match k with
  | 0 => ("EveryHand$TownText", "bytes", "[I", true)
  | 1 => ("EveryHand$TownText", "size", "I", false)
  | 2 => ("EveryHand$TownText", "from", "I", false)
  | _ => ("EveryHand$TownText", "end", "I", false)
def cY3 : Nat → FieldType := fun k => match k with
  | 0 => .array .int
  | 1 => .int
  | 2 => .int
  | _ => .int
def cT4 : u_T := fun k => match k with
  | 0 => ("EveryHand$Walks", "reach", "[I", true)
  | 1 => ("EveryHand$Walks", "table", "[I", true)
  | _ => ("EveryHand$Walks", "people", "I", false)
def cY4 : Nat → FieldType := fun k => match k with
  | 0 => .array .int
  | 1 => .array .int
  | _ => .int
def cT5 : u_T := fun k => match k with
  | 0 => ("EveryHand", "town", "LEveryHand$Town;", false)
  | 1 => ("EveryHand", "draft", "LEveryHand$Town;", false)
  | 2 => ("EveryHand", "kept", "LEveryHand$Town;", true)
  | 3 => ("EveryHand", "isKept", "Z", false)
  | 4 => ("EveryHand", "text", "LEveryHand$TownText;", true)
  | 5 => ("EveryHand", "walks", "LEveryHand$Walks;", true)
  | 6 => ("EveryHand", "rows", "[I", true)
  | 7 => ("EveryHand", "rowCount", "I", false)
  | 8 => ("EveryHand", "acts", "LEveryHand$Acts;", true)
  | _ => ("EveryHand", "host", "LEveryHand$Host;", true)
def cY5 : Nat → FieldType := fun k => match k with
  | 0 => .object "EveryHand$Town"
  | 1 => .object "EveryHand$Town"
  | 2 => .object "EveryHand$Town"
  | 3 => .boolean
  | 4 => .object "EveryHand$TownText"
  | 5 => .object "EveryHand$Walks"
  | 6 => .array .int
  | 7 => .int
  | 8 => .object "EveryHand$Acts"
  | _ => .object "EveryHand$Host"
def cT6 : u_T := fun k => match k with
  | 0 => ("EveryHandModel", "people", "I", false)
  | 1 => ("EveryHandModel", "ranks", "[I", true)
  | 2 => ("EveryHandModel", "silver", "[I", true)
  | 3 => ("EveryHandModel", "known", "[I", true)
  | 4 => ("EveryHandModel", "coins", "I", false)
  | 5 => ("EveryHandModel", "coin", "[I", true)
  | 6 => ("EveryHandModel", "z", "I", false)
  | 7 => ("EveryHandModel", "tape", "[I", true)
  | 8 => ("EveryHandModel", "tapeMany", "I", false)
  | 9 => ("EveryHandModel", "sort", "I", false)
  | 10 => ("EveryHandModel", "begins", "I", false)
  | 11 => ("EveryHandModel", "tokenEnds", "I", false)
  | 12 => ("EveryHandModel", "word", "J", false)
  | 13 => ("EveryHandModel", "value", "I", false)
  | 14 => ("EveryHandModel", "good", "Z", false)
  | 15 => ("EveryHandModel", "freshPeople", "I", false)
  | 16 => ("EveryHandModel", "freshCoins", "I", false)
  | 17 => ("EveryHandModel", "freshRanks", "[I", true)
  | 18 => ("EveryHandModel", "freshKnown", "[I", true)
  | 19 => ("EveryHandModel", "freshCoin", "[I", true)
  | 20 => ("EveryHandModel", "lefts", "[I", true)
  | 21 => ("EveryHandModel", "ways", "[I", true)
  | 22 => ("EveryHandModel", "lastOnes", "[I", true)
  | 23 => ("EveryHandModel", "must", "[I", true)
  | 24 => ("EveryHandModel", "mustMany", "I", false)
  | 25 => ("EveryHandModel", "rows", "[I", true)
  | 26 => ("EveryHandModel", "rowMany", "I", false)
  | 27 => ("EveryHandModel", "sorts", "[I", true)
  | 28 => ("EveryHandModel", "sizes", "[I", true)
  | 29 => ("EveryHandModel", "sheets", "[J", true)
  | 30 => ("EveryHandModel", "held", "[I", true)
  | 31 => ("EveryHandModel", "heldNumber", "[I", true)
  | 32 => ("EveryHandModel", "heldSize", "[I", true)
  | 33 => ("EveryHandModel", "kind", "I", false)
  | 34 => ("EveryHandModel", "number", "I", false)
  | 35 => ("EveryHandModel", "own", "I", false)
  | 36 => ("EveryHandModel", "traced", "[I", true)
  | 37 => ("EveryHandModel", "bodies", "I", false)
  | 38 => ("EveryHandModel", "isParted", "Z", false)
  | 39 => ("EveryHandModel", "isKept", "Z", false)
  | 40 => ("EveryHandModel", "keptRow", "[I", true)
  | 41 => ("EveryHandModel", "movedTo", "I", false)
  | _ => ("EveryHandModel", "single", "[I", true)
def cY6 : Nat → FieldType := fun k => match k with
  | 0 => .int
  | 1 => .array .int
  | 2 => .array .int
  | 3 => .array .int
  | 4 => .int
  | 5 => .array .int
  | 6 => .int
  | 7 => .array .int
  | 8 => .int
  | 9 => .int
  | 10 => .int
  | 11 => .int
  | 12 => .long
  | 13 => .int
  | 14 => .boolean
  | 15 => .int
  | 16 => .int
  | 17 => .array .int
  | 18 => .array .int
  | 19 => .array .int
  | 20 => .array .int
  | 21 => .array .int
  | 22 => .array .int
  | 23 => .array .int
  | 24 => .int
  | 25 => .array .int
  | 26 => .int
  | 27 => .array .int
  | 28 => .array .int
  | 29 => .array .long
  | 30 => .array .int
  | 31 => .array .int
  | 32 => .array .int
  | 33 => .int
  | 34 => .int
  | 35 => .int
  | 36 => .array .int
  | 37 => .int
  | 38 => .boolean
  | 39 => .boolean
  | 40 => .array .int
  | 41 => .int
  | _ => .array .int
abbrev cls : List vw_C := [("EveryHand$Acts", cT0, 6), ("EveryHand$Host", cT1, 6), ("EveryHand$Town", cT2, 10), ("EveryHand$TownText", cT3, 4), ("EveryHand$Walks", cT4, 3), ("EveryHand", cT5, 10), ("EveryHandModel", cT6, 43)]
theorem cN0 : ∀ a, a < 6 → ∀ b, b < 6 → a ≠ b → (cT0 a).2.1 ≠ (cT0 b).2.1 := by decide +kernel
theorem cO0 : ∀ k, k < 6 → parseFieldDescriptor (cT0 k).2.2.1 = some (cY0 k) := by decide +kernel
theorem cW0 : ∀ k, k < 6 → ∃ i : Nat, lw_tbl[i]? = some (u_lay "EveryHand$Acts" cT0 k) ∧ goodWord (u_lay "EveryHand$Acts" cT0 k) = true := by
  intro k hk
  have h : ∀ k, k < 6 → lw_tbl[([196, 198, 200, 202, 204, 206] : List Nat).getD k 0]? = some (u_lay "EveryHand$Acts" cT0 k) ∧ goodWord (u_lay "EveryHand$Acts" cT0 k) = true := by decide +kernel
  exact ⟨_, h k hk⟩
theorem cI0 : ∀ w ∈ u_ws "EveryHand$Acts" cT0 6, w ∈ GW := by
  intro w hw
  obtain ⟨k, hk, rfl⟩ := List.mem_map.mp hw
  obtain ⟨i, h1, h2⟩ := cW0 k (List.mem_range.mp hk)
  exact gw i h1 h2
theorem cN1 : ∀ a, a < 6 → ∀ b, b < 6 → a ≠ b → (cT1 a).2.1 ≠ (cT1 b).2.1 := by decide +kernel
theorem cO1 : ∀ k, k < 6 → parseFieldDescriptor (cT1 k).2.2.1 = some (cY1 k) := by decide +kernel
theorem cW1 : ∀ k, k < 6 → ∃ i : Nat, lw_tbl[i]? = some (u_lay "EveryHand$Host" cT1 k) ∧ goodWord (u_lay "EveryHand$Host" cT1 k) = true := by
  intro k hk
  have h : ∀ k, k < 6 → lw_tbl[([229, 231, 233, 235, 237, 239] : List Nat).getD k 0]? = some (u_lay "EveryHand$Host" cT1 k) ∧ goodWord (u_lay "EveryHand$Host" cT1 k) = true := by decide +kernel
  exact ⟨_, h k hk⟩
theorem cI1 : ∀ w ∈ u_ws "EveryHand$Host" cT1 6, w ∈ GW := by
  intro w hw
  obtain ⟨k, hk, rfl⟩ := List.mem_map.mp hw
  obtain ⟨i, h1, h2⟩ := cW1 k (List.mem_range.mp hk)
  exact gw i h1 h2
theorem cN2 : ∀ a, a < 10 → ∀ b, b < 10 → a ≠ b → (cT2 a).2.1 ≠ (cT2 b).2.1 := by decide +kernel
theorem cO2 : ∀ k, k < 10 → parseFieldDescriptor (cT2 k).2.2.1 = some (cY2 k) := by decide +kernel
theorem cW2 : ∀ k, k < 10 → ∃ i : Nat, lw_tbl[i]? = some (u_lay "EveryHand$Town" cT2 k) ∧ goodWord (u_lay "EveryHand$Town" cT2 k) = true := by
  intro k hk
  have h : ∀ k, k < 10 → lw_tbl[([123, 125, 127, 129, 131, 133, 135, 137, 139, 141] : List Nat).getD k 0]? = some (u_lay "EveryHand$Town" cT2 k) ∧ goodWord (u_lay "EveryHand$Town" cT2 k) = true := by decide +kernel
  exact ⟨_, h k hk⟩
theorem cI2 : ∀ w ∈ u_ws "EveryHand$Town" cT2 10, w ∈ GW := by
  intro w hw
  obtain ⟨k, hk, rfl⟩ := List.mem_map.mp hw
  obtain ⟨i, h1, h2⟩ := cW2 k (List.mem_range.mp hk)
  exact gw i h1 h2
theorem cN3 : ∀ a, a < 4 → ∀ b, b < 4 → a ≠ b → (cT3 a).2.1 ≠ (cT3 b).2.1 := by decide +kernel
theorem cO3 : ∀ k, k < 4 → parseFieldDescriptor (cT3 k).2.2.1 = some (cY3 k) := by decide +kernel
theorem cW3 : ∀ k, k < 4 → ∃ i : Nat, lw_tbl[i]? = some (u_lay "EveryHand$TownText" cT3 k) ∧ goodWord (u_lay "EveryHand$TownText" cT3 k) = true := by
  intro k hk
  have h : ∀ k, k < 4 → lw_tbl[([157, 159, 161, 163] : List Nat).getD k 0]? = some (u_lay "EveryHand$TownText" cT3 k) ∧ goodWord (u_lay "EveryHand$TownText" cT3 k) = true := by decide +kernel
  exact ⟨_, h k hk⟩
theorem cI3 : ∀ w ∈ u_ws "EveryHand$TownText" cT3 4, w ∈ GW := by
  intro w hw
  obtain ⟨k, hk, rfl⟩ := List.mem_map.mp hw
  obtain ⟨i, h1, h2⟩ := cW3 k (List.mem_range.mp hk)
  exact gw i h1 h2
theorem cN4 : ∀ a, a < 3 → ∀ b, b < 3 → a ≠ b → (cT4 a).2.1 ≠ (cT4 b).2.1 := by decide +kernel
theorem cO4 : ∀ k, k < 3 → parseFieldDescriptor (cT4 k).2.2.1 = some (cY4 k) := by decide +kernel
theorem cW4 : ∀ k, k < 3 → ∃ i : Nat, lw_tbl[i]? = some (u_lay "EveryHand$Walks" cT4 k) ∧ goodWord (u_lay "EveryHand$Walks" cT4 k) = true := by
  intro k hk
  have h : ∀ k, k < 3 → lw_tbl[([175, 177, 179] : List Nat).getD k 0]? = some (u_lay "EveryHand$Walks" cT4 k) ∧ goodWord (u_lay "EveryHand$Walks" cT4 k) = true := by decide +kernel
  exact ⟨_, h k hk⟩
theorem cI4 : ∀ w ∈ u_ws "EveryHand$Walks" cT4 3, w ∈ GW := by
  intro w hw
  obtain ⟨k, hk, rfl⟩ := List.mem_map.mp hw
  obtain ⟨i, h1, h2⟩ := cW4 k (List.mem_range.mp hk)
  exact gw i h1 h2
theorem cN5 : ∀ a, a < 10 → ∀ b, b < 10 → a ≠ b → (cT5 a).2.1 ≠ (cT5 b).2.1 := by decide +kernel
theorem cO5 : ∀ k, k < 10 → parseFieldDescriptor (cT5 k).2.2.1 = some (cY5 k) := by decide +kernel
theorem cW5 : ∀ k, k < 10 → ∃ i : Nat, lw_tbl[i]? = some (u_lay "EveryHand" cT5 k) ∧ goodWord (u_lay "EveryHand" cT5 k) = true := by
  intro k hk
  have h : ∀ k, k < 10 → lw_tbl[([252, 254, 256, 258, 260, 262, 264, 266, 268, 270] : List Nat).getD k 0]? = some (u_lay "EveryHand" cT5 k) ∧ goodWord (u_lay "EveryHand" cT5 k) = true := by decide +kernel
  exact ⟨_, h k hk⟩
theorem cI5 : ∀ w ∈ u_ws "EveryHand" cT5 10, w ∈ GW := by
  intro w hw
  obtain ⟨k, hk, rfl⟩ := List.mem_map.mp hw
  obtain ⟨i, h1, h2⟩ := cW5 k (List.mem_range.mp hk)
  exact gw i h1 h2
theorem cN6 : ∀ a, a < 43 → ∀ b, b < 43 → a ≠ b → (cT6 a).2.1 ≠ (cT6 b).2.1 := by decide +kernel
theorem cO6 : ∀ k, k < 43 → parseFieldDescriptor (cT6 k).2.2.1 = some (cY6 k) := by decide +kernel
theorem cW6 : ∀ k, k < 43 → ∃ i : Nat, lw_tbl[i]? = some (u_lay "EveryHandModel" cT6 k) ∧ goodWord (u_lay "EveryHandModel" cT6 k) = true := by
  intro k hk
  have h : ∀ k, k < 43 → lw_tbl[([838, 840, 842, 844, 846, 848, 850, 852, 854, 856, 858, 860, 862, 864, 866, 868, 870, 872, 874, 876, 878, 880, 882, 884, 886, 888, 890, 892, 894, 896, 898, 900, 902, 904, 906, 908, 910, 912, 914, 916, 918, 920, 922] : List Nat).getD k 0]? = some (u_lay "EveryHandModel" cT6 k) ∧ goodWord (u_lay "EveryHandModel" cT6 k) = true := by decide +kernel
  exact ⟨_, h k hk⟩
theorem cI6 : ∀ w ∈ u_ws "EveryHandModel" cT6 43, w ∈ GW := by
  intro w hw
  obtain ⟨k, hk, rfl⟩ := List.mem_map.mp hw
  obtain ⟨i, h1, h2⟩ := cW6 k (List.mem_range.mp hk)
  exact gw i h1 h2
/-- what every class of the worlds has -/
theorem cAll : ∀ (ci : Nat) (q : vw_C), cls[ci]? = some q → (∀ w ∈ u_ws q.1 q.2.1 q.2.2, w ∈ GW) ∧ ∃ ty0 : Nat → FieldType, (∀ k, k < q.2.2 → parseFieldDescriptor (q.2.1 k).2.2.1 = some (ty0 k)) ∧ (∀ a, a < q.2.2 → ∀ b, b < q.2.2 → a ≠ b → (q.2.1 a).2.1 ≠ (q.2.1 b).2.1) := by
  intro ci q h
  match ci, h with
  | 0, h => cases h; exact ⟨cI0, cY0, cO0, cN0⟩
  | 1, h => cases h; exact ⟨cI1, cY1, cO1, cN1⟩
  | 2, h => cases h; exact ⟨cI2, cY2, cO2, cN2⟩
  | 3, h => cases h; exact ⟨cI3, cY3, cO3, cN3⟩
  | 4, h => cases h; exact ⟨cI4, cY4, cO4, cN4⟩
  | 5, h => cases h; exact ⟨cI5, cY5, cO5, cN5⟩
  | 6, h => cases h; exact ⟨cI6, cY6, cO6, cN6⟩
  | _ + 7, h => simp [cls] at h
/-- the cells by number: (class, 0), (7, n) an int array, (8, n) a long array, (9, n) an array of int arrays -/
def kdL : List (Nat × Nat) := [(5, 0), (2, 0), (7, 7), (7, 7), (7, 7), (7, 6), (7, 6), (7, 6), (7, 6), (2, 0), (7, 7), (7, 7), (7, 7), (7, 6), (7, 6), (7, 6), (7, 6), (2, 0), (7, 7), (7, 7), (7, 7), (7, 6), (7, 6), (7, 6), (7, 6), (3, 0), (7, 200), (4, 0), (7, 7), (7, 1024), (7, 21), (0, 0), (7, 30), (1, 0), (7, 4), (7, 4), (9, 4), (7, 40), (7, 40), (7, 40), (7, 40), (7, 4), (7, 4), (7, 4), (6, 0), (7, 7), (7, 7), (7, 7), (7, 24), (7, 200), (7, 7), (7, 7), (7, 24), (7, 896), (7, 896), (7, 896), (7, 21), (7, 21), (7, 4), (7, 4), (8, 160), (7, 4), (7, 4), (7, 4), (7, 30), (7, 60), (7, 3)]
def kd (k : Nat) : Nat × Nat := kdL.getD k (99, 0)
/-- what the fields of a class are: 0 an int, 1 a long, 2 a reference that changes, n + 3 the cell n places on -/
def fcL : List (List Nat) := [[4, 0, 0, 0, 0, 0], [4, 5, 6, 11, 12, 13], [0, 0, 0, 4, 5, 6, 7, 8, 9, 10], [4, 0, 0, 0], [4, 5, 0], [2, 2, 20, 0, 28, 30, 33, 0, 34, 36], [0, 4, 5, 6, 0, 7, 0, 8, 0, 0, 0, 0, 1, 0, 0, 0, 0, 9, 10, 11, 12, 13, 14, 15, 0, 16, 0, 17, 18, 19, 20, 21, 22, 0, 0, 0, 23, 0, 0, 0, 24, 0, 25]]
def fc (ci : Nat) : List Nat := fcL.getD ci []
theorem kd_lt {k : Nat} {q : Nat × Nat} (h : kd k = q) (hq : q.1 < 99) : k < 67 := by
  rcases Nat.lt_or_ge k 67 with g | g
  · exact g
  · exfalso
    have e : kd k = (99, 0) := by
      unfold kd
      rw [List.getD_eq_getElem?_getD, List.getElem?_eq_none (show kdL.length ≤ k from g)]
      rfl
    rw [e] at h
    rw [← h] at hq
    exact absurd hq (by decide)
end
section
/-! the state of all cells, the worlds that hold it, and the judgement V: the machine at a place of a method, over a state -/
abbrev St : Type := (Nat → Nat → Int32) × (Nat → Nat → Int64) × (Nat → Nat)
def gI (σ : St) (k j : Nat) : Int32 := σ.1 k j
def gL (σ : St) (k j : Nat) : Int64 := σ.2.1 k j
def gR (σ : St) (j : Nat) : Nat := σ.2.2 j
def sI (σ : St) (k j : Nat) (v : Int32) : St := (fun a b => if a = k ∧ b = j then v else σ.1 a b, σ.2)
def sL (σ : St) (k j : Nat) (v : Int64) : St := (σ.1, fun a b => if a = k ∧ b = j then v else σ.2.1 a b, σ.2.2)
def sR (σ : St) (j : Nat) (v : Nat) : St := (σ.1, σ.2.1, fun b => if b = j then v else σ.2.2 b)
/-- the first n ints of cell a become those of cell b -/
def cpI (σ : St) (a b n : Nat) : St := (fun x j => if x = b ∧ j < n then σ.1 a j else σ.1 x j, σ.2)
/-- addresses by number; classes; the classes of int[], long[], int[][] -/
abbrev Ev : Type := (Nat → Nat) × va_G × ClassId × ClassId × ClassId
def cv (E : Ev) (v : Value) : Value := match v with
  | .ref k => .ref (E.1 k)
  | w => w
def cvp (E : Ev) (q : Nat × Value) : Nat × Value := (q.1, cv E q.2)
def fval (E : Ev) (σ : St) (k j c : Nat) : Value := match c with
  | 0 => .int (gI σ k j)
  | 1 => .long (gL σ k j)
  | 2 => .ref (E.1 (gR σ j))
  | n + 3 => .ref (E.1 (k + n))
def flds (E : Ev) (σ : St) (k ci : Nat) : List Value := (List.range (fc ci).length).map (fun j => fval E σ k j ((fc ci).getD j 0))
def cel (E : Ev) (σ : St) (k : Nat) : va_E := match kd k with
  | (7, n) => .inl (E.2.2.1, n, .inl (σ.1 k))
  | (8, n) => .inl (E.2.2.2.1, n, .inr (.inl (σ.2.1 k)))
  | (9, n) => .inl (E.2.2.2.2, n, .inr (.inr (.inr (.inr (fun i => if i < n then some (E.1 (k + 1 + i)) else none)))))
  | (ci, _) => .inr (ci, flds E σ k ci)
def wsO (E : Ev) (σ : St) : va_W := (List.range 67).map (fun k => (E.1 k, cel E σ k))
def AA (E : Ev) : Nat → Prop := fun q => ∃ k, k < 67 ∧ q = E.1 k
theorem wsO_at {E : Ev} {σ : St} {k : Nat} (h : k < 67) : (wsO E σ)[k]? = some (E.1 k, cel E σ k) := by
  unfold wsO
  rw [List.getElem?_map, List.getElem?_range h]
  rfl
theorem wsO_len (E : Ev) (σ : St) : (wsO E σ).length = 67 := by simp [wsO]
theorem wsO_set {E : Ev} {σ σ' : St} {k : Nat} {e : va_E} (h : k < 67) (he : cel E σ' k = e) (ho : ∀ j, j ≠ k → cel E σ' j = cel E σ j) : (wsO E σ).set k (E.1 k, e) = wsO E σ' := by
  apply List.ext_getElem?
  intro i
  rw [List.getElem?_set]
  by_cases hi : k = i
  · subst hi
    rw [if_pos rfl, if_pos (by rw [wsO_len]; exact h), wsO_at h, he]
  · rw [if_neg hi]
    by_cases hl : i < 67
    · rw [wsO_at hl, wsO_at hl, ho i (fun z => hi z.symm)]
    · rw [List.getElem?_eq_none (by rw [wsO_len]; omega), List.getElem?_eq_none (by rw [wsO_len]; omega)]
/-- the addresses of the cells are apart -/
def Inj (E : Ev) : Prop := ∀ i j, i < 67 → j < 67 → E.1 i = E.1 j → i = j
theorem wsO_D {E : Ev} {σ : St} (h : Inj E) : va_D (AA E) (wsO E σ) := by
  refine ⟨fun i j p q hp hq e => ?_, fun k q hq => ?_⟩
  · have hi : i < 67 := by have := (List.getElem?_eq_some_iff.mp hp).1; rwa [wsO_len] at this
    have hj : j < 67 := by have := (List.getElem?_eq_some_iff.mp hq).1; rwa [wsO_len] at this
    rw [wsO_at hi] at hp
    rw [wsO_at hj] at hq
    cases hp
    cases hq
    exact h i j hi hj e
  · have hk : k < 67 := by have := (List.getElem?_eq_some_iff.mp hq).1; rwa [wsO_len] at this
    rw [wsO_at hk] at hq
    cases hq
    exact ⟨k, hk, rfl⟩
/-- the tables of the class: UNDER (cell 300), OWN (cell 301) -/
def tUN : List Int32 := [-1, 0, 0, 1, 2, 0]
def tOW : List Int32 := [10, 11, 12, 13, 0, 20, 0, 0, 30, 0, 0, 31, 51, 0, 50, 0, 40, 41, 0, 0, 0, 0, 61, 60]
/-- the texts: cells 100 + i, their bytes in cells 150 + i -/
def tTX : List (Nat × String) := [(37, "person"), (92, ";"), (46, "know"), (102, "coin"), (104, "half"), (106, "crown"), (108, "false"), (110, "blessed"), (112, "worn"), (81, "of"), (87, "had"), (96, ",")]
def tBY : List (List Int32) := [[112, 101, 114, 115, 111, 110], [59], [107, 110, 111, 119], [99, 111, 105, 110], [104, 97, 108, 102], [99, 114, 111, 119, 110], [102, 97, 108, 115, 101], [98, 108, 101, 115, 115, 101, 100], [119, 111, 114, 110], [111, 102], [104, 97, 100], [44]]
def tLN : List Nat := [6, 1, 4, 4, 4, 5, 5, 7, 4, 2, 3, 1]
def nF1 : Cond := .fieldLinkNest "EveryHand$Acts" 51 "EveryHand" "UNDER" "[I" "EveryHand"
def nM1 : Cond := .methodLinkNest "EveryHand$Town" 49 ⟨"EveryHand", "holds", "(II)Z"⟩ "EveryHand"
def nM2 : Cond := .methodLinkNest "EveryHand$Walks" 35 ⟨"EveryHand", "holds", "(II)Z"⟩ "EveryHand"
/-- what doesn't change: classes, tables, texts -/
def EN (E : Ev) (U : State) : Prop :=
  Inj E ∧ va_K E.2.1 cls [(E.2.2.1, .int), (E.2.2.2.1, .long), (E.2.2.2.2, .array .int)] U ∧
  (va_Z "EveryHand" "UNDER" "[I" (.ref (E.1 300)) (AA E) U U.heap ∧ va_T .int (E.1 300) 6 (fun j => .int (tUN.getD j 0)) (AA E) U U.heap) ∧
  (va_Z "EveryHand$Acts" "OWN" "[I" (.ref (E.1 301)) (AA E) U U.heap ∧ va_T .int (E.1 301) 24 (fun j => .int (tOW.getD j 0)) (AA E) U U.heap) ∧
  va_Z "java/lang/String" "COMPACT_STRINGS" "Z" (.int 1) (AA E) U U.heap ∧
  vk_S 12 tLN tBY (fun i => E.1 (100 + i)) (fun i => E.1 (150 + i)) (AA E) U U.heap ∧
  (∀ i, i < 12 → vk_R "EveryHand$TownText" (tTX.getD i (0, "")).1 (tTX.getD i (0, "")).2 (E.1 (100 + i)) U) ∧
  va_Nw nF1 U ∧ va_Nw nM1 U ∧ va_Nw nM2 U
theorem EN.go {E : Ev} {s U : State} {locs : List Loc} (h : EN E s) (hW : s.WarmedH U.vm) (hS : va_S (AA E) s.heap U.heap locs) : EN E U := by
  obtain ⟨h1, h2, ⟨h3, h4⟩, ⟨h5, h6⟩, h7, h8, h9, h10, h11, h12⟩ := h
  have ha := hW.alike
  exact ⟨h1, va_K.moved ha h2, ⟨(va_Z.moved ha h3).kept hS.2.1, (va_T.moved ha h4).kept hS.2.1⟩, ⟨(va_Z.moved ha h5).kept hS.2.1, (va_T.moved ha h6).kept hS.2.1⟩, (va_Z.moved ha h7).kept hS.2.1, (vk_S.moved ha h8).kept hS.2.1, fun i hi => (h9 i hi).warm hW, va_Nw.warmF hW h10, va_Nw.warmM hW h11, va_Nw.warmM hW h12⟩
theorem EN.blind {E : Ev} {U : State} {g : JFrame} {mk : MethodId} {a : Array Value} (h : EN E U) : EN E (U.calling g mk a) := by
  obtain ⟨h1, h2, ⟨h3, h4⟩, ⟨h5, h6⟩, h7, h8, h9, h10, h11, h12⟩ := h
  have ha : U.vm.Alike (U.calling g mk a).vm := Vm.Alike.refl U.vm
  exact ⟨h1, va_K.moved ha h2, ⟨va_Z.moved ha h3, va_T.moved ha h4⟩, ⟨va_Z.moved ha h5, va_T.moved ha h6⟩, va_Z.moved ha h7, vk_S.moved ha h8, fun i hi => (h9 i hi).same rfl, va_Nw.same rfl rfl h10, va_Nw.same rfl rfl h11, va_Nw.same rfl rfl h12⟩
/-- a method's start: the world of σ; its end: an answer, the world of the state behind it, nothing else changed -/
def Pw (E : Ev) (σ : St) (U : State) : Prop := va_P E.2.1 cls (wsO E σ) U.heap ∧ EN E U
def QZ (E : Ev) (z : Option Value × St) : Array Value → State → Outcome → State → Prop := fun _ st oc t => oc = .returned z.1 ∧ va_P E.2.1 cls (wsO E z.2) t.heap ∧ va_F (AA E) st t
/-- the contract of a method -/
def Ct (M : MI) (E : Ev) (As : List Value) (σ : St) (z : Option Value × St) : Prop :=
  ∀ l : Launch, Met l M.2.2.2.1 (Cond.code M.2.2.2.1 M.1 M.2.1 M.2.2.1 :: GW) M.2.2.2.2 (va_Pc (As.map (cv E)) (Pw E σ)) (QZ E z) 0 0 (AA E)
/-- how a walk ends, the cells and slots used ahead of it, what else is known of its start -/
abbrev VF : Type := (List Frame → Array Value → State → State → Prop) × Nat × Nat × (State → Prop)
def FM (E : Ev) (z : Option Value × St) : VF := (fun below args s => MQ below (QZ E z) args s 0 0 (AA E), 0, 0, fun _ => True)
def Cx (E : Ev) (M : MI) (F : VF) (p : Program) (s : State) (m : MethodId) (args : Array Value) (meth : Method) (c : Code) : Prop :=
  p.tables.exec = Jvm.exec ∧ c.code = M.1 ∧ c.maxLocals = M.2.1 ∧ meth.sig.returnType = M.2.2.1 ∧ meth.locks = false ∧ s.vm.findClass M.2.2.2.1.cls = some m.cls ∧ (∀ w ∈ GW, w.before args s = true) ∧ EN E s ∧ F.2.2.2 s
def V (E : Ev) (M : MI) (F : VF) (pc : Nat) (ls : List (Nat × Value)) (st : List Value) (σ : St) : Prop :=
  ∀ (p : Program) (l : Launch) (e : Env) (s : State) (m : MethodId) (args : Array Value) (below : List Frame) (meth : Method) (c : Code), Cx E M F p s m args meth c →
    ∀ (H : Heap) (locs : List Loc) (la : Array Slot), va_P E.2.1 cls (wsO E σ) H → va_S (AA E) s.heap H locs → lv_has la M.2.1 (ls.map (cvp E)) →
      W p l e M.2.2.2.2 s m args below meth c H locs F.2.1 F.2.2.1 (F.1 below args s) (F0 m pc la (st.map (cv E)))
theorem cv_cat (E : Ev) (v : Value) : (cv E v).category = v.category := by cases v <;> rfl
theorem lv_args_cv (E : Ev) : ∀ (As : List Value) (i : Nat), lv_args i (As.map (cv E)) = (lv_args i As).map (cvp E)
  | [], _ => rfl
  | v :: vs, i => by
    show (i, cv E v) :: lv_args (if (cv E v).category = 2 then i + 2 else i + 1) (vs.map (cv E)) = _
    rw [cv_cat, lv_args_cv E vs]
    rfl
theorem lg_sl_cv (E : Ev) (As : List Value) : (lg_sl (As.map (cv E))).length = (lg_sl As).length := by
  unfold lg_sl
  induction As with
  | nil => rfl
  | cons v vs ih =>
    rw [List.map_cons, List.flatMap_cons, List.flatMap_cons, List.length_append, List.length_append, ih, cv_cat]
    split <;> rfl
/-- a contract out of a walk -/
theorem Ct.of {M : MI} {E : Ev} {As : List Value} {σ : St} {z : Option Value × St} (hy : plainName M.2.2.2.1.cls = true) (hn : (lg_sl As).length ≤ M.2.1) (h : V E M (FM E z) 0 (lv_args 0 As) [] σ) : Ct M E As σ z := by
  intro l
  refine Met.ofW (cc := M.1) (maxL := M.2.1) (ret := M.2.2.1) hy rfl ?_
  intro p e s m args below meth c s₁ B hml hv
  obtain ⟨rfl, hP, hE⟩ := hv
  have hts := atoms_spec (ws := Cond.code M.2.2.2.1 M.1 M.2.1 M.2.2.1 :: GW) B.pre
  have hl := lv_entry (As.map (cv E)) (n := M.2.1) (by rw [lg_sl_cv]; exact hn)
  rw [lv_args_cv] at hl
  rw [lg_entry_eq]
  exact h p l e s m _ below meth c ⟨B.exec, B.bytes, hml, B.returns, B.notSynchronized, findClass_of_methodNamed B.named, fun w hw => hts w (List.mem_cons_of_mem _ hw), hE, trivial⟩ s.heap [] _ hP va_S.rf hl
end
