-- ===== PART A: goes FIRST, ahead of the names: the tables' words, and 'selects' of the private methods out of them =====
/-- a private method of a class that the tables say can be made, by its rows of tables_1 -/
def lw_okq (q : MethodName × Nat) : Prop := (q.1.cls ≠ "java/lang/invoke/MethodHandle" ∧ q.1.cls ≠ "java/lang/invoke/VarHandle") ∧ Cond.instantiable q.1.cls q.2 ∈ tables_1 ∧ Cond.privateMethod q.1 ∈ tables_1 ∧ Cond.instanceMethod q.1 ∈ tables_1
theorem lw_p0 : lw_okq (⟨"NineInThePack", "refuse", "(I)I"⟩, 11) := ⟨⟨by decide +kernel, by decide +kernel⟩, List.mem_of_getElem? (i := 16) (by decide +kernel), List.mem_of_getElem? (i := 259) (by decide +kernel), List.mem_of_getElem? (i := 260) (by decide +kernel)⟩
theorem lw_p1 : lw_okq (⟨"NineInThePack$Letters", "readStatement", "(LNineInThePack$Ice;)Z"⟩, 4) := ⟨⟨by decide +kernel, by decide +kernel⟩, List.mem_of_getElem? (i := 201) (by decide +kernel), List.mem_of_getElem? (i := 283) (by decide +kernel), List.mem_of_getElem? (i := 284) (by decide +kernel)⟩
theorem lw_p2 : lw_okq (⟨"NineInThePack$Letters", "take", "(I)Z"⟩, 4) := ⟨⟨by decide +kernel, by decide +kernel⟩, List.mem_of_getElem? (i := 201) (by decide +kernel), List.mem_of_getElem? (i := 287) (by decide +kernel), List.mem_of_getElem? (i := 288) (by decide +kernel)⟩
theorem lw_p3 : lw_okq (⟨"NineInThePack$Letters", "readShip", "(LNineInThePack$Ice;)Z"⟩, 4) := ⟨⟨by decide +kernel, by decide +kernel⟩, List.mem_of_getElem? (i := 201) (by decide +kernel), List.mem_of_getElem? (i := 291) (by decide +kernel), List.mem_of_getElem? (i := 292) (by decide +kernel)⟩
theorem lw_p4 : lw_okq (⟨"NineInThePack$Letters", "readNumber", "(I)I"⟩, 4) := ⟨⟨by decide +kernel, by decide +kernel⟩, List.mem_of_getElem? (i := 201) (by decide +kernel), List.mem_of_getElem? (i := 295) (by decide +kernel), List.mem_of_getElem? (i := 296) (by decide +kernel)⟩
theorem lw_p5 : lw_okq (⟨"NineInThePack$Letters", "isDigitNext", "()Z"⟩, 4) := ⟨⟨by decide +kernel, by decide +kernel⟩, List.mem_of_getElem? (i := 201) (by decide +kernel), List.mem_of_getElem? (i := 299) (by decide +kernel), List.mem_of_getElem? (i := 300) (by decide +kernel)⟩
theorem lw_p6 : lw_okq (⟨"NineInThePack$Letters", "need", "(I)V"⟩, 4) := ⟨⟨by decide +kernel, by decide +kernel⟩, List.mem_of_getElem? (i := 201) (by decide +kernel), List.mem_of_getElem? (i := 303) (by decide +kernel), List.mem_of_getElem? (i := 304) (by decide +kernel)⟩
theorem lw_p7 : lw_okq (⟨"NineInThePack$Letters", "readSigned", "(I)I"⟩, 4) := ⟨⟨by decide +kernel, by decide +kernel⟩, List.mem_of_getElem? (i := 201) (by decide +kernel), List.mem_of_getElem? (i := 307) (by decide +kernel), List.mem_of_getElem? (i := 308) (by decide +kernel)⟩
theorem lw_p8 : lw_okq (⟨"NineInThePack$Letters", "readWind", "(LNineInThePack$Ice;)Z"⟩, 4) := ⟨⟨by decide +kernel, by decide +kernel⟩, List.mem_of_getElem? (i := 201) (by decide +kernel), List.mem_of_getElem? (i := 311) (by decide +kernel), List.mem_of_getElem? (i := 312) (by decide +kernel)⟩
theorem lw_p9 : lw_okq (⟨"NineInThePack$Letters", "readReach", "(LNineInThePack$Ice;)Z"⟩, 4) := ⟨⟨by decide +kernel, by decide +kernel⟩, List.mem_of_getElem? (i := 201) (by decide +kernel), List.mem_of_getElem? (i := 318) (by decide +kernel), List.mem_of_getElem? (i := 319) (by decide +kernel)⟩
theorem lw_p10 : lw_okq (⟨"NineInThePack$Letters", "readSight", "(LNineInThePack$Ice;)Z"⟩, 4) := ⟨⟨by decide +kernel, by decide +kernel⟩, List.mem_of_getElem? (i := 201) (by decide +kernel), List.mem_of_getElem? (i := 322) (by decide +kernel), List.mem_of_getElem? (i := 323) (by decide +kernel)⟩
theorem lw_p11 : lw_okq (⟨"NineInThePack", "nobody", "(I)I"⟩, 11) := ⟨⟨by decide +kernel, by decide +kernel⟩, List.mem_of_getElem? (i := 16) (by decide +kernel), List.mem_of_getElem? (i := 330) (by decide +kernel), List.mem_of_getElem? (i := 331) (by decide +kernel)⟩
theorem lw_p12 : lw_okq (⟨"NineInThePack", "driftToday", "(LNineInThePack$Ship;Z)I"⟩, 11) := ⟨⟨by decide +kernel, by decide +kernel⟩, List.mem_of_getElem? (i := 16) (by decide +kernel), List.mem_of_getElem? (i := 345) (by decide +kernel), List.mem_of_getElem? (i := 346) (by decide +kernel)⟩
theorem lw_p13 : lw_okq (⟨"NineInThePack", "toldWind", "(I)I"⟩, 11) := ⟨⟨by decide +kernel, by decide +kernel⟩, List.mem_of_getElem? (i := 16) (by decide +kernel), List.mem_of_getElem? (i := 407) (by decide +kernel), List.mem_of_getElem? (i := 408) (by decide +kernel)⟩
theorem lw_p14 : lw_okq (⟨"NineInThePack", "dayOf", "(LNineInThePack$Ice;)I"⟩, 11) := ⟨⟨by decide +kernel, by decide +kernel⟩, List.mem_of_getElem? (i := 16) (by decide +kernel), List.mem_of_getElem? (i := 435) (by decide +kernel), List.mem_of_getElem? (i := 436) (by decide +kernel)⟩
theorem lw_p15 : lw_okq (⟨"NineInThePack", "notTwo", "(II)I"⟩, 11) := ⟨⟨by decide +kernel, by decide +kernel⟩, List.mem_of_getElem? (i := 16) (by decide +kernel), List.mem_of_getElem? (i := 454) (by decide +kernel), List.mem_of_getElem? (i := 455) (by decide +kernel)⟩
def lw_privs_1 : List (MethodName × Nat) := [(⟨"NineInThePack", "refuse", "(I)I"⟩, 11), (⟨"NineInThePack$Letters", "readStatement", "(LNineInThePack$Ice;)Z"⟩, 4), (⟨"NineInThePack$Letters", "take", "(I)Z"⟩, 4), (⟨"NineInThePack$Letters", "readShip", "(LNineInThePack$Ice;)Z"⟩, 4), (⟨"NineInThePack$Letters", "readNumber", "(I)I"⟩, 4), (⟨"NineInThePack$Letters", "isDigitNext", "()Z"⟩, 4), (⟨"NineInThePack$Letters", "need", "(I)V"⟩, 4), (⟨"NineInThePack$Letters", "readSigned", "(I)I"⟩, 4), (⟨"NineInThePack$Letters", "readWind", "(LNineInThePack$Ice;)Z"⟩, 4), (⟨"NineInThePack$Letters", "readReach", "(LNineInThePack$Ice;)Z"⟩, 4), (⟨"NineInThePack$Letters", "readSight", "(LNineInThePack$Ice;)Z"⟩, 4), (⟨"NineInThePack", "nobody", "(I)I"⟩, 11), (⟨"NineInThePack", "driftToday", "(LNineInThePack$Ship;Z)I"⟩, 11), (⟨"NineInThePack", "toldWind", "(I)I"⟩, 11), (⟨"NineInThePack", "dayOf", "(LNineInThePack$Ice;)I"⟩, 11), (⟨"NineInThePack", "notTwo", "(II)I"⟩, 11)]
theorem lw_r1 : ∀ q ∈ lw_privs_1, lw_okq q := List.forall_mem_cons.mpr ⟨lw_p0, List.forall_mem_cons.mpr ⟨lw_p1, List.forall_mem_cons.mpr ⟨lw_p2, List.forall_mem_cons.mpr ⟨lw_p3, List.forall_mem_cons.mpr ⟨lw_p4, List.forall_mem_cons.mpr ⟨lw_p5, List.forall_mem_cons.mpr ⟨lw_p6, List.forall_mem_cons.mpr ⟨lw_p7, List.forall_mem_cons.mpr ⟨lw_p8, List.forall_mem_cons.mpr ⟨lw_p9, List.forall_mem_cons.mpr ⟨lw_p10, List.forall_mem_cons.mpr ⟨lw_p11, List.forall_mem_cons.mpr ⟨lw_p12, List.forall_mem_cons.mpr ⟨lw_p13, List.forall_mem_cons.mpr ⟨lw_p14, List.forall_mem_cons.mpr ⟨lw_p15, fun _ h => absurd h List.not_mem_nil⟩⟩⟩⟩⟩⟩⟩⟩⟩⟩⟩⟩⟩⟩⟩⟩
theorem lw_p16 : lw_okq (⟨"NineInThePack", "daysUntil", "(III)I"⟩, 11) := ⟨⟨by decide +kernel, by decide +kernel⟩, List.mem_of_getElem? (i := 16) (by decide +kernel), List.mem_of_getElem? (i := 492) (by decide +kernel), List.mem_of_getElem? (i := 493) (by decide +kernel)⟩
theorem lw_p17 : lw_okq (⟨"NineInThePack", "hungerWithout", "(II)I"⟩, 11) := ⟨⟨by decide +kernel, by decide +kernel⟩, List.mem_of_getElem? (i := 16) (by decide +kernel), List.mem_of_getElem? (i := 557) (by decide +kernel), List.mem_of_getElem? (i := 558) (by decide +kernel)⟩
theorem lw_p18 : lw_okq (⟨"NineInThePack", "wouldBeAt", "(LNineInThePack$Ship;LNineInThePack$Drift;IIII)Z"⟩, 11) := ⟨⟨by decide +kernel, by decide +kernel⟩, List.mem_of_getElem? (i := 16) (by decide +kernel), List.mem_of_getElem? (i := 581) (by decide +kernel), List.mem_of_getElem? (i := 582) (by decide +kernel)⟩
theorem lw_p19 : lw_okq (⟨"NineInThePack", "firstUntrue", "(I)I"⟩, 11) := ⟨⟨by decide +kernel, by decide +kernel⟩, List.mem_of_getElem? (i := 16) (by decide +kernel), List.mem_of_getElem? (i := 593) (by decide +kernel), List.mem_of_getElem? (i := 594) (by decide +kernel)⟩
theorem lw_p20 : lw_okq (⟨"NineInThePackModel", "carryAll", "([IZ)V"⟩, 34) := ⟨⟨by decide +kernel, by decide +kernel⟩, List.mem_of_getElem? (i := 640) (by decide +kernel), List.mem_of_getElem? (i := 753) (by decide +kernel), List.mem_of_getElem? (i := 754) (by decide +kernel)⟩
theorem lw_p21 : lw_okq (⟨"NineInThePackModel", "carry", "(I)I"⟩, 34) := ⟨⟨by decide +kernel, by decide +kernel⟩, List.mem_of_getElem? (i := 640) (by decide +kernel), List.mem_of_getElem? (i := 757) (by decide +kernel), List.mem_of_getElem? (i := 758) (by decide +kernel)⟩
theorem lw_p22 : lw_okq (⟨"NineInThePackModel", "refuse", "(I)I"⟩, 34) := ⟨⟨by decide +kernel, by decide +kernel⟩, List.mem_of_getElem? (i := 640) (by decide +kernel), List.mem_of_getElem? (i := 765) (by decide +kernel), List.mem_of_getElem? (i := 766) (by decide +kernel)⟩
theorem lw_p23 : lw_okq (⟨"NineInThePackModel", "readStatement", "()V"⟩, 34) := ⟨⟨by decide +kernel, by decide +kernel⟩, List.mem_of_getElem? (i := 640) (by decide +kernel), List.mem_of_getElem? (i := 777) (by decide +kernel), List.mem_of_getElem? (i := 778) (by decide +kernel)⟩
theorem lw_p24 : lw_okq (⟨"NineInThePackModel", "here", "()I"⟩, 34) := ⟨⟨by decide +kernel, by decide +kernel⟩, List.mem_of_getElem? (i := 640) (by decide +kernel), List.mem_of_getElem? (i := 781) (by decide +kernel), List.mem_of_getElem? (i := 782) (by decide +kernel)⟩
theorem lw_p25 : lw_okq (⟨"NineInThePackModel", "readDigit", "()I"⟩, 34) := ⟨⟨by decide +kernel, by decide +kernel⟩, List.mem_of_getElem? (i := 640) (by decide +kernel), List.mem_of_getElem? (i := 785) (by decide +kernel), List.mem_of_getElem? (i := 786) (by decide +kernel)⟩
theorem lw_p26 : lw_okq (⟨"NineInThePackModel", "readNumber", "(I)I"⟩, 34) := ⟨⟨by decide +kernel, by decide +kernel⟩, List.mem_of_getElem? (i := 640) (by decide +kernel), List.mem_of_getElem? (i := 794) (by decide +kernel), List.mem_of_getElem? (i := 795) (by decide +kernel)⟩
theorem lw_p27 : lw_okq (⟨"NineInThePackModel", "readComma", "()V"⟩, 34) := ⟨⟨by decide +kernel, by decide +kernel⟩, List.mem_of_getElem? (i := 640) (by decide +kernel), List.mem_of_getElem? (i := 798) (by decide +kernel), List.mem_of_getElem? (i := 799) (by decide +kernel)⟩
theorem lw_p28 : lw_okq (⟨"NineInThePackModel", "readSigned", "(I)I"⟩, 34) := ⟨⟨by decide +kernel, by decide +kernel⟩, List.mem_of_getElem? (i := 640) (by decide +kernel), List.mem_of_getElem? (i := 802) (by decide +kernel), List.mem_of_getElem? (i := 803) (by decide +kernel)⟩
theorem lw_p29 : lw_okq (⟨"NineInThePackModel", "open0", "()V"⟩, 34) := ⟨⟨by decide +kernel, by decide +kernel⟩, List.mem_of_getElem? (i := 640) (by decide +kernel), List.mem_of_getElem? (i := 806) (by decide +kernel), List.mem_of_getElem? (i := 807) (by decide +kernel)⟩
theorem lw_p30 : lw_okq (⟨"NineInThePackModel", "comes", "(I)Z"⟩, 34) := ⟨⟨by decide +kernel, by decide +kernel⟩, List.mem_of_getElem? (i := 640) (by decide +kernel), List.mem_of_getElem? (i := 810) (by decide +kernel), List.mem_of_getElem? (i := 811) (by decide +kernel)⟩
theorem lw_p31 : lw_okq (⟨"NineInThePackModel", "shipComes", "(I)Z"⟩, 34) := ⟨⟨by decide +kernel, by decide +kernel⟩, List.mem_of_getElem? (i := 640) (by decide +kernel), List.mem_of_getElem? (i := 814) (by decide +kernel), List.mem_of_getElem? (i := 815) (by decide +kernel)⟩
def lw_privs_2 : List (MethodName × Nat) := [(⟨"NineInThePack", "daysUntil", "(III)I"⟩, 11), (⟨"NineInThePack", "hungerWithout", "(II)I"⟩, 11), (⟨"NineInThePack", "wouldBeAt", "(LNineInThePack$Ship;LNineInThePack$Drift;IIII)Z"⟩, 11), (⟨"NineInThePack", "firstUntrue", "(I)I"⟩, 11), (⟨"NineInThePackModel", "carryAll", "([IZ)V"⟩, 34), (⟨"NineInThePackModel", "carry", "(I)I"⟩, 34), (⟨"NineInThePackModel", "refuse", "(I)I"⟩, 34), (⟨"NineInThePackModel", "readStatement", "()V"⟩, 34), (⟨"NineInThePackModel", "here", "()I"⟩, 34), (⟨"NineInThePackModel", "readDigit", "()I"⟩, 34), (⟨"NineInThePackModel", "readNumber", "(I)I"⟩, 34), (⟨"NineInThePackModel", "readComma", "()V"⟩, 34), (⟨"NineInThePackModel", "readSigned", "(I)I"⟩, 34), (⟨"NineInThePackModel", "open0", "()V"⟩, 34), (⟨"NineInThePackModel", "comes", "(I)Z"⟩, 34), (⟨"NineInThePackModel", "shipComes", "(I)Z"⟩, 34)]
theorem lw_r2 : ∀ q ∈ lw_privs_2, lw_okq q := List.forall_mem_cons.mpr ⟨lw_p16, List.forall_mem_cons.mpr ⟨lw_p17, List.forall_mem_cons.mpr ⟨lw_p18, List.forall_mem_cons.mpr ⟨lw_p19, List.forall_mem_cons.mpr ⟨lw_p20, List.forall_mem_cons.mpr ⟨lw_p21, List.forall_mem_cons.mpr ⟨lw_p22, List.forall_mem_cons.mpr ⟨lw_p23, List.forall_mem_cons.mpr ⟨lw_p24, List.forall_mem_cons.mpr ⟨lw_p25, List.forall_mem_cons.mpr ⟨lw_p26, List.forall_mem_cons.mpr ⟨lw_p27, List.forall_mem_cons.mpr ⟨lw_p28, List.forall_mem_cons.mpr ⟨lw_p29, List.forall_mem_cons.mpr ⟨lw_p30, List.forall_mem_cons.mpr ⟨lw_p31, fun _ h => absurd h List.not_mem_nil⟩⟩⟩⟩⟩⟩⟩⟩⟩⟩⟩⟩⟩⟩⟩⟩
theorem lw_p32 : lw_okq (⟨"NineInThePackModel", "close", "()V"⟩, 34) := ⟨⟨by decide +kernel, by decide +kernel⟩, List.mem_of_getElem? (i := 640) (by decide +kernel), List.mem_of_getElem? (i := 822) (by decide +kernel), List.mem_of_getElem? (i := 823) (by decide +kernel)⟩
theorem lw_p33 : lw_okq (⟨"NineInThePackModel", "isShip", "(I)Z"⟩, 34) := ⟨⟨by decide +kernel, by decide +kernel⟩, List.mem_of_getElem? (i := 640) (by decide +kernel), List.mem_of_getElem? (i := 830) (by decide +kernel), List.mem_of_getElem? (i := 831) (by decide +kernel)⟩
theorem lw_p34 : lw_okq (⟨"NineInThePackModel", "driftToday", "(II)V"⟩, 34) := ⟨⟨by decide +kernel, by decide +kernel⟩, List.mem_of_getElem? (i := 640) (by decide +kernel), List.mem_of_getElem? (i := 835) (by decide +kernel), List.mem_of_getElem? (i := 836) (by decide +kernel)⟩
theorem lw_p35 : lw_okq (⟨"NineInThePackModel", "driftBy", "(IIIIII)V"⟩, 34) := ⟨⟨by decide +kernel, by decide +kernel⟩, List.mem_of_getElem? (i := 640) (by decide +kernel), List.mem_of_getElem? (i := 839) (by decide +kernel), List.mem_of_getElem? (i := 840) (by decide +kernel)⟩
theorem lw_p36 : lw_okq (⟨"NineInThePackModel", "windTold", "(I)I"⟩, 34) := ⟨⟨by decide +kernel, by decide +kernel⟩, List.mem_of_getElem? (i := 640) (by decide +kernel), List.mem_of_getElem? (i := 849) (by decide +kernel), List.mem_of_getElem? (i := 850) (by decide +kernel)⟩
theorem lw_p37 : lw_okq (⟨"NineInThePackModel", "daysOn", "(I)I"⟩, 34) := ⟨⟨by decide +kernel, by decide +kernel⟩, List.mem_of_getElem? (i := 640) (by decide +kernel), List.mem_of_getElem? (i := 865) (by decide +kernel), List.mem_of_getElem? (i := 866) (by decide +kernel)⟩
theorem lw_p38 : lw_okq (⟨"NineInThePackModel", "driftAll", "()V"⟩, 34) := ⟨⟨by decide +kernel, by decide +kernel⟩, List.mem_of_getElem? (i := 640) (by decide +kernel), List.mem_of_getElem? (i := 869) (by decide +kernel), List.mem_of_getElem? (i := 870) (by decide +kernel)⟩
theorem lw_p39 : lw_okq (⟨"NineInThePackModel", "eat", "()I"⟩, 34) := ⟨⟨by decide +kernel, by decide +kernel⟩, List.mem_of_getElem? (i := 640) (by decide +kernel), List.mem_of_getElem? (i := 873) (by decide +kernel), List.mem_of_getElem? (i := 874) (by decide +kernel)⟩
theorem lw_p40 : lw_okq (⟨"NineInThePackModel", "areTwo", "(II)Z"⟩, 34) := ⟨⟨by decide +kernel, by decide +kernel⟩, List.mem_of_getElem? (i := 640) (by decide +kernel), List.mem_of_getElem? (i := 881) (by decide +kernel), List.mem_of_getElem? (i := 882) (by decide +kernel)⟩
theorem lw_p41 : lw_okq (⟨"NineInThePackModel", "farBetween", "(II)I"⟩, 34) := ⟨⟨by decide +kernel, by decide +kernel⟩, List.mem_of_getElem? (i := 640) (by decide +kernel), List.mem_of_getElem? (i := 885) (by decide +kernel), List.mem_of_getElem? (i := 886) (by decide +kernel)⟩
theorem lw_p42 : lw_okq (⟨"NineInThePackModel", "reachOn", "(I)I"⟩, 34) := ⟨⟨by decide +kernel, by decide +kernel⟩, List.mem_of_getElem? (i := 640) (by decide +kernel), List.mem_of_getElem? (i := 918) (by decide +kernel), List.mem_of_getElem? (i := 919) (by decide +kernel)⟩
theorem lw_p43 : lw_okq (⟨"NineInThePackModel", "isOpen", "(II)Z"⟩, 34) := ⟨⟨by decide +kernel, by decide +kernel⟩, List.mem_of_getElem? (i := 640) (by decide +kernel), List.mem_of_getElem? (i := 922) (by decide +kernel), List.mem_of_getElem? (i := 923) (by decide +kernel)⟩
theorem lw_p44 : lw_okq (⟨"NineInThePackModel", "hungryIn", "(I)I"⟩, 34) := ⟨⟨by decide +kernel, by decide +kernel⟩, List.mem_of_getElem? (i := 640) (by decide +kernel), List.mem_of_getElem? (i := 950) (by decide +kernel), List.mem_of_getElem? (i := 951) (by decide +kernel)⟩
theorem lw_p45 : lw_okq (⟨"NineInThePackModel", "hungryWithout", "(II)I"⟩, 34) := ⟨⟨by decide +kernel, by decide +kernel⟩, List.mem_of_getElem? (i := 640) (by decide +kernel), List.mem_of_getElem? (i := 969) (by decide +kernel), List.mem_of_getElem? (i := 970) (by decide +kernel)⟩
theorem lw_p46 : lw_okq (⟨"NineInThePackModel", "draw", "(I)I"⟩, 34) := ⟨⟨by decide +kernel, by decide +kernel⟩, List.mem_of_getElem? (i := 640) (by decide +kernel), List.mem_of_getElem? (i := 993) (by decide +kernel), List.mem_of_getElem? (i := 994) (by decide +kernel)⟩
theorem lw_p47 : lw_okq (⟨"NineInThePackModel", "sumOf", "([I)I"⟩, 34) := ⟨⟨by decide +kernel, by decide +kernel⟩, List.mem_of_getElem? (i := 640) (by decide +kernel), List.mem_of_getElem? (i := 1004) (by decide +kernel), List.mem_of_getElem? (i := 1005) (by decide +kernel)⟩
def lw_privs_3 : List (MethodName × Nat) := [(⟨"NineInThePackModel", "close", "()V"⟩, 34), (⟨"NineInThePackModel", "isShip", "(I)Z"⟩, 34), (⟨"NineInThePackModel", "driftToday", "(II)V"⟩, 34), (⟨"NineInThePackModel", "driftBy", "(IIIIII)V"⟩, 34), (⟨"NineInThePackModel", "windTold", "(I)I"⟩, 34), (⟨"NineInThePackModel", "daysOn", "(I)I"⟩, 34), (⟨"NineInThePackModel", "driftAll", "()V"⟩, 34), (⟨"NineInThePackModel", "eat", "()I"⟩, 34), (⟨"NineInThePackModel", "areTwo", "(II)Z"⟩, 34), (⟨"NineInThePackModel", "farBetween", "(II)I"⟩, 34), (⟨"NineInThePackModel", "reachOn", "(I)I"⟩, 34), (⟨"NineInThePackModel", "isOpen", "(II)Z"⟩, 34), (⟨"NineInThePackModel", "hungryIn", "(I)I"⟩, 34), (⟨"NineInThePackModel", "hungryWithout", "(II)I"⟩, 34), (⟨"NineInThePackModel", "draw", "(I)I"⟩, 34), (⟨"NineInThePackModel", "sumOf", "([I)I"⟩, 34)]
theorem lw_r3 : ∀ q ∈ lw_privs_3, lw_okq q := List.forall_mem_cons.mpr ⟨lw_p32, List.forall_mem_cons.mpr ⟨lw_p33, List.forall_mem_cons.mpr ⟨lw_p34, List.forall_mem_cons.mpr ⟨lw_p35, List.forall_mem_cons.mpr ⟨lw_p36, List.forall_mem_cons.mpr ⟨lw_p37, List.forall_mem_cons.mpr ⟨lw_p38, List.forall_mem_cons.mpr ⟨lw_p39, List.forall_mem_cons.mpr ⟨lw_p40, List.forall_mem_cons.mpr ⟨lw_p41, List.forall_mem_cons.mpr ⟨lw_p42, List.forall_mem_cons.mpr ⟨lw_p43, List.forall_mem_cons.mpr ⟨lw_p44, List.forall_mem_cons.mpr ⟨lw_p45, List.forall_mem_cons.mpr ⟨lw_p46, List.forall_mem_cons.mpr ⟨lw_p47, fun _ h => absurd h List.not_mem_nil⟩⟩⟩⟩⟩⟩⟩⟩⟩⟩⟩⟩⟩⟩⟩⟩
theorem lw_p48 : lw_okq (⟨"NineInThePackModel", "openLeads", "()I"⟩, 34) := ⟨⟨by decide +kernel, by decide +kernel⟩, List.mem_of_getElem? (i := 640) (by decide +kernel), List.mem_of_getElem? (i := 1008) (by decide +kernel), List.mem_of_getElem? (i := 1009) (by decide +kernel)⟩
def lw_privs_4 : List (MethodName × Nat) := [(⟨"NineInThePackModel", "openLeads", "()I"⟩, 34)]
theorem lw_r4 : ∀ q ∈ lw_privs_4, lw_okq q := List.forall_mem_cons.mpr ⟨lw_p48, fun _ h => absurd h List.not_mem_nil⟩
def lw_privs : List (MethodName × Nat) := lw_privs_1 ++ (lw_privs_2 ++ (lw_privs_3 ++ (lw_privs_4)))
def lw_tbl : List Cond := k2_sels lw_privs ++ tables_1
theorem lw_privs_ok : ∀ q ∈ lw_privs, lw_okq q := by
  show ∀ q ∈ lw_privs_1 ++ (lw_privs_2 ++ (lw_privs_3 ++ (lw_privs_4))), lw_okq q
  exact List.forall_mem_append.mpr ⟨lw_r1, List.forall_mem_append.mpr ⟨lw_r2, List.forall_mem_append.mpr ⟨lw_r3, lw_r4⟩⟩⟩
def RX0 : String := "NineInThePack$Air"
def TX0 : u_T := fun k => match k with
  | 0 => ("NineInThePack$Air", "day", "I", false)
  | 1 => ("NineInThePack$Air", "east", "I", false)
  | 2 => ("NineInThePack$Air", "north", "I", false)
  | 3 => ("NineInThePack$Air", "lateEast", "I", false)
  | _ => ("NineInThePack$Air", "lateNorth", "I", false)
def tyX0 : Nat → FieldType := fun k => match k with
  | 0 => .int
  | 1 => .int
  | 2 => .int
  | 3 => .int
  | _ => .int
theorem nmX0 : ∀ a, a < 5 → ∀ b, b < 5 → a ≠ b → (TX0 a).2.1 ≠ (TX0 b).2.1 := by decide +kernel
theorem tyX0_ok : ∀ k, k < 5 → parseFieldDescriptor (TX0 k).2.2.1 = some (tyX0 k) := by decide +kernel
abbrev cX0_init : ByteArray := prog_2_method_1_code
def yX0_init : MethodName := ⟨RX0, "<init>", "()V"⟩
abbrev cX0_fallCalm : ByteArray := prog_2_method_2_code
def yX0_fallCalm : MethodName := ⟨RX0, "fallCalm", "()V"⟩
abbrev cX0_drawBy : ByteArray := prog_2_method_3_code
def yX0_drawBy : MethodName := ⟨RX0, "drawBy", "(LNineInThePack$Lot;I)V"⟩
def RX1 : String := "NineInThePack$Drift"
def TX1 : u_T := fun k => match k with
  | _ => ("", "", "", false)
def tyX1 : Nat → FieldType := fun k => match k with
  | _ => .int
theorem nmX1 : ∀ a, a < 0 → ∀ b, b < 0 → a ≠ b → (TX1 a).2.1 ≠ (TX1 b).2.1 := by decide +kernel
theorem tyX1_ok : ∀ k, k < 0 → parseFieldDescriptor (TX1 k).2.2.1 = some (tyX1 k) := by decide +kernel
abbrev cX1_init : ByteArray := prog_3_method_1_code
def yX1_init : MethodName := ⟨RX1, "<init>", "()V"⟩
abbrev cX1_eastward : ByteArray := prog_3_method_2_code
def yX1_eastward : MethodName := ⟨RX1, "eastward", "(LNineInThePack$Air;I)I"⟩
abbrev cX1_northward : ByteArray := prog_3_method_3_code
def yX1_northward : MethodName := ⟨RX1, "northward", "(LNineInThePack$Air;I)I"⟩
def RX2 : String := "NineInThePack$FastDrift"
def TX2 : u_T := fun k => match k with
  | _ => ("", "", "", false)
def tyX2 : Nat → FieldType := fun k => match k with
  | _ => .int
theorem nmX2 : ∀ a, a < 0 → ∀ b, b < 0 → a ≠ b → (TX2 a).2.1 ≠ (TX2 b).2.1 := by decide +kernel
theorem tyX2_ok : ∀ k, k < 0 → parseFieldDescriptor (TX2 k).2.2.1 = some (tyX2 k) := by decide +kernel
abbrev cX2_init : ByteArray := prog_4_method_1_code
def yX2_init : MethodName := ⟨RX2, "<init>", "()V"⟩
abbrev cX2_eastward : ByteArray := prog_4_method_2_code
def yX2_eastward : MethodName := ⟨RX2, "eastward", "(LNineInThePack$Air;I)I"⟩
abbrev cX2_sign : ByteArray := prog_4_method_3_code
def yX2_sign : MethodName := ⟨RX2, "sign", "(I)I"⟩
def RX3 : String := "NineInThePack$HeavyDrift"
def TX3 : u_T := fun k => match k with
  | _ => ("", "", "", false)
def tyX3 : Nat → FieldType := fun k => match k with
  | _ => .int
theorem nmX3 : ∀ a, a < 0 → ∀ b, b < 0 → a ≠ b → (TX3 a).2.1 ≠ (TX3 b).2.1 := by decide +kernel
theorem tyX3_ok : ∀ k, k < 0 → parseFieldDescriptor (TX3 k).2.2.1 = some (tyX3 k) := by decide +kernel
abbrev cX3_init : ByteArray := prog_5_method_1_code
def yX3_init : MethodName := ⟨RX3, "<init>", "()V"⟩
abbrev cX3_eastward : ByteArray := prog_5_method_2_code
def yX3_eastward : MethodName := ⟨RX3, "eastward", "(LNineInThePack$Air;I)I"⟩
abbrev cX3_northward : ByteArray := prog_5_method_3_code
def yX3_northward : MethodName := ⟨RX3, "northward", "(LNineInThePack$Air;I)I"⟩
def RX4 : String := "NineInThePack$Ice"
def TX4 : u_T := fun k => match k with
  | 0 => ("NineInThePack$Ice", "windEast", "[I", true)
  | 1 => ("NineInThePack$Ice", "windNorth", "[I", true)
  | 2 => ("NineInThePack$Ice", "ships", "[LNineInThePack$Ship;", true)
  | 3 => ("NineInThePack$Ice", "shipCount", "I", false)
  | 4 => ("NineInThePack$Ice", "day", "I", false)
  | 5 => ("NineInThePack$Ice", "reach", "I", false)
  | 6 => ("NineInThePack$Ice", "sight", "I", false)
  | _ => ("NineInThePack$Ice", "hunger", "I", false)
def tyX4 : Nat → FieldType := fun k => match k with
  | 0 => .array .int
  | 1 => .array .int
  | 2 => .array (.object "NineInThePack$Ship")
  | 3 => .int
  | 4 => .int
  | 5 => .int
  | 6 => .int
  | _ => .int
theorem nmX4 : ∀ a, a < 8 → ∀ b, b < 8 → a ≠ b → (TX4 a).2.1 ≠ (TX4 b).2.1 := by decide +kernel
theorem tyX4_ok : ∀ k, k < 8 → parseFieldDescriptor (TX4 k).2.2.1 = some (tyX4 k) := by decide +kernel
abbrev cX4_init : ByteArray := prog_6_method_1_code
def yX4_init : MethodName := ⟨RX4, "<init>", "()V"⟩
abbrev cX4_copyFrom : ByteArray := prog_6_method_2_code
def yX4_copyFrom : MethodName := ⟨RX4, "copyFrom", "(LNineInThePack$Ice;)V"⟩
abbrev cX4_has : ByteArray := prog_6_method_3_code
def yX4_has : MethodName := ⟨RX4, "has", "(I)Z"⟩
abbrev cX4_allShips : ByteArray := prog_6_method_4_code
def yX4_allShips : MethodName := ⟨RX4, "allShips", "()I"⟩
abbrev cX4_gapToPlace : ByteArray := prog_6_method_5_code
def yX4_gapToPlace : MethodName := ⟨RX4, "gapToPlace", "(III)I"⟩
abbrev cX4_gap : ByteArray := prog_6_method_6_code
def yX4_gap : MethodName := ⟨RX4, "gap", "(II)I"⟩
abbrev cX4_pairsWithin : ByteArray := prog_6_method_7_code
def yX4_pairsWithin : MethodName := ⟨RX4, "pairsWithin", "(I)I"⟩
abbrev cX4_isSeen : ByteArray := prog_6_method_8_code
def yX4_isSeen : MethodName := ⟨RX4, "isSeen", "(I)Z"⟩
abbrev cX4_oneLeadOn : ByteArray := prog_6_method_9_code
def yX4_oneLeadOn : MethodName := ⟨RX4, "oneLeadOn", "(I)I"⟩
abbrev cX4_groupOf : ByteArray := prog_6_method_10_code
def yX4_groupOf : MethodName := ⟨RX4, "groupOf", "(I)I"⟩
abbrev cX4_nearestTo : ByteArray := prog_6_method_11_code
def yX4_nearestTo : MethodName := ⟨RX4, "nearestTo", "(III)I"⟩
abbrev cX4_airOf : ByteArray := prog_6_method_12_code
def yX4_airOf : MethodName := ⟨RX4, "airOf", "(ILNineInThePack$Air;)V"⟩
abbrev cX4_passDay : ByteArray := prog_6_method_13_code
def yX4_passDay : MethodName := ⟨RX4, "passDay", "(LNineInThePack$Air;[LNineInThePack$Drift;)I"⟩
abbrev cX4_hungerToCome : ByteArray := prog_6_method_14_code
def yX4_hungerToCome : MethodName := ⟨RX4, "hungerToCome", "(I)I"⟩
abbrev cX4_giveUp : ByteArray := prog_6_method_15_code
def yX4_giveUp : MethodName := ⟨RX4, "giveUp", "(I)V"⟩
abbrev cX4_allBread : ByteArray := prog_6_method_16_code
def yX4_allBread : MethodName := ⟨RX4, "allBread", "()I"⟩
abbrev cX4_allCrews : ByteArray := prog_6_method_17_code
def yX4_allCrews : MethodName := ⟨RX4, "allCrews", "()I"⟩
def RX5 : String := "NineInThePack$LateDrift"
def TX5 : u_T := fun k => match k with
  | _ => ("", "", "", false)
def tyX5 : Nat → FieldType := fun k => match k with
  | _ => .int
theorem nmX5 : ∀ a, a < 0 → ∀ b, b < 0 → a ≠ b → (TX5 a).2.1 ≠ (TX5 b).2.1 := by decide +kernel
theorem tyX5_ok : ∀ k, k < 0 → parseFieldDescriptor (TX5 k).2.2.1 = some (tyX5 k) := by decide +kernel
abbrev cX5_init : ByteArray := prog_7_method_1_code
def yX5_init : MethodName := ⟨RX5, "<init>", "()V"⟩
abbrev cX5_eastward : ByteArray := prog_7_method_2_code
def yX5_eastward : MethodName := ⟨RX5, "eastward", "(LNineInThePack$Air;I)I"⟩
abbrev cX5_northward : ByteArray := prog_7_method_3_code
def yX5_northward : MethodName := ⟨RX5, "northward", "(LNineInThePack$Air;I)I"⟩
def RX6 : String := "NineInThePack$Letters"
def TX6 : u_T := fun k => match k with
  | 0 => ("NineInThePack$Letters", "signs", "[I", true)
  | 1 => ("NineInThePack$Letters", "size", "I", false)
  | 2 => ("NineInThePack$Letters", "at", "I", false)
  | _ => ("NineInThePack$Letters", "stuck", "Z", false)
def tyX6 : Nat → FieldType := fun k => match k with
  | 0 => .array .int
  | 1 => .int
  | 2 => .int
  | _ => .boolean
theorem nmX6 : ∀ a, a < 4 → ∀ b, b < 4 → a ≠ b → (TX6 a).2.1 ≠ (TX6 b).2.1 := by decide +kernel
theorem tyX6_ok : ∀ k, k < 4 → parseFieldDescriptor (TX6 k).2.2.1 = some (tyX6 k) := by decide +kernel
abbrev cX6_init : ByteArray := prog_8_method_1_code
def yX6_init : MethodName := ⟨RX6, "<init>", "()V"⟩
abbrev cX6_add : ByteArray := prog_8_method_2_code
def yX6_add : MethodName := ⟨RX6, "add", "(I)V"⟩
abbrev cX6_readInto : ByteArray := prog_8_method_3_code
def yX6_readInto : MethodName := ⟨RX6, "readInto", "(LNineInThePack$Ice;)I"⟩
abbrev cX6_readStatement : ByteArray := prog_8_method_4_code
def yX6_readStatement : MethodName := ⟨RX6, "readStatement", "(LNineInThePack$Ice;)Z"⟩
abbrev cX6_readShip : ByteArray := prog_8_method_5_code
def yX6_readShip : MethodName := ⟨RX6, "readShip", "(LNineInThePack$Ice;)Z"⟩
abbrev cX6_readWind : ByteArray := prog_8_method_6_code
def yX6_readWind : MethodName := ⟨RX6, "readWind", "(LNineInThePack$Ice;)Z"⟩
abbrev cX6_readReach : ByteArray := prog_8_method_7_code
def yX6_readReach : MethodName := ⟨RX6, "readReach", "(LNineInThePack$Ice;)Z"⟩
abbrev cX6_readSight : ByteArray := prog_8_method_8_code
def yX6_readSight : MethodName := ⟨RX6, "readSight", "(LNineInThePack$Ice;)Z"⟩
abbrev cX6_take : ByteArray := prog_8_method_9_code
def yX6_take : MethodName := ⟨RX6, "take", "(I)Z"⟩
abbrev cX6_need : ByteArray := prog_8_method_10_code
def yX6_need : MethodName := ⟨RX6, "need", "(I)V"⟩
abbrev cX6_readSigned : ByteArray := prog_8_method_11_code
def yX6_readSigned : MethodName := ⟨RX6, "readSigned", "(I)I"⟩
abbrev cX6_readNumber : ByteArray := prog_8_method_12_code
def yX6_readNumber : MethodName := ⟨RX6, "readNumber", "(I)I"⟩
abbrev cX6_isDigitNext : ByteArray := prog_8_method_13_code
def yX6_isDigitNext : MethodName := ⟨RX6, "isDigitNext", "()Z"⟩
def RX7 : String := "NineInThePack$Lot"
def TX7 : u_T := fun k => match k with
  | _ => ("NineInThePack$Lot", "z", "I", false)
def tyX7 : Nat → FieldType := fun k => match k with
  | _ => .int
theorem nmX7 : ∀ a, a < 1 → ∀ b, b < 1 → a ≠ b → (TX7 a).2.1 ≠ (TX7 b).2.1 := by decide +kernel
theorem tyX7_ok : ∀ k, k < 1 → parseFieldDescriptor (TX7 k).2.2.1 = some (tyX7 k) := by decide +kernel
abbrev cX7_init : ByteArray := prog_9_method_1_code
def yX7_init : MethodName := ⟨RX7, "<init>", "()V"⟩
abbrev cX7_drawBelow : ByteArray := prog_9_method_2_code
def yX7_drawBelow : MethodName := ⟨RX7, "drawBelow", "(I)I"⟩
def RX8 : String := "NineInThePack$Ship"
def TX8 : u_T := fun k => match k with
  | 0 => ("NineInThePack$Ship", "kind", "I", false)
  | 1 => ("NineInThePack$Ship", "figure", "I", false)
  | 2 => ("NineInThePack$Ship", "crew", "I", false)
  | 3 => ("NineInThePack$Ship", "bread", "I", false)
  | 4 => ("NineInThePack$Ship", "east", "I", false)
  | _ => ("NineInThePack$Ship", "north", "I", false)
def tyX8 : Nat → FieldType := fun k => match k with
  | 0 => .int
  | 1 => .int
  | 2 => .int
  | 3 => .int
  | 4 => .int
  | _ => .int
theorem nmX8 : ∀ a, a < 6 → ∀ b, b < 6 → a ≠ b → (TX8 a).2.1 ≠ (TX8 b).2.1 := by decide +kernel
theorem tyX8_ok : ∀ k, k < 6 → parseFieldDescriptor (TX8 k).2.2.1 = some (tyX8 k) := by decide +kernel
abbrev cX8_init : ByteArray := prog_10_method_1_code
def yX8_init : MethodName := ⟨RX8, "<init>", "()V"⟩
abbrev cX8_copyFrom : ByteArray := prog_10_method_2_code
def yX8_copyFrom : MethodName := ⟨RX8, "copyFrom", "(LNineInThePack$Ship;)V"⟩
abbrev cX8_eat : ByteArray := prog_10_method_3_code
def yX8_eat : MethodName := ⟨RX8, "eat", "()I"⟩
def RX9 : String := "NineInThePack$SpunDrift"
def TX9 : u_T := fun k => match k with
  | _ => ("", "", "", false)
def tyX9 : Nat → FieldType := fun k => match k with
  | _ => .int
theorem nmX9 : ∀ a, a < 0 → ∀ b, b < 0 → a ≠ b → (TX9 a).2.1 ≠ (TX9 b).2.1 := by decide +kernel
theorem tyX9_ok : ∀ k, k < 0 → parseFieldDescriptor (TX9 k).2.2.1 = some (tyX9 k) := by decide +kernel
abbrev cX9_init : ByteArray := prog_11_method_1_code
def yX9_init : MethodName := ⟨RX9, "<init>", "()V"⟩
abbrev cX9_eastward : ByteArray := prog_11_method_2_code
def yX9_eastward : MethodName := ⟨RX9, "eastward", "(LNineInThePack$Air;I)I"⟩
abbrev cX9_northward : ByteArray := prog_11_method_3_code
def yX9_northward : MethodName := ⟨RX9, "northward", "(LNineInThePack$Air;I)I"⟩
abbrev cX9_way : ByteArray := prog_11_method_4_code
def yX9_way : MethodName := ⟨RX9, "way", "(II)I"⟩
def RX10 : String := "NineInThePack$TurnedDrift"
def TX10 : u_T := fun k => match k with
  | _ => ("", "", "", false)
def tyX10 : Nat → FieldType := fun k => match k with
  | _ => .int
theorem nmX10 : ∀ a, a < 0 → ∀ b, b < 0 → a ≠ b → (TX10 a).2.1 ≠ (TX10 b).2.1 := by decide +kernel
theorem tyX10_ok : ∀ k, k < 0 → parseFieldDescriptor (TX10 k).2.2.1 = some (tyX10 k) := by decide +kernel
abbrev cX10_init : ByteArray := prog_12_method_1_code
def yX10_init : MethodName := ⟨RX10, "<init>", "()V"⟩
abbrev cX10_eastward : ByteArray := prog_12_method_2_code
def yX10_eastward : MethodName := ⟨RX10, "eastward", "(LNineInThePack$Air;I)I"⟩
abbrev cX10_northward : ByteArray := prog_12_method_3_code
def yX10_northward : MethodName := ⟨RX10, "northward", "(LNineInThePack$Air;I)I"⟩
def RX11 : String := "NineInThePack"
def TX11 : u_T := fun k => match k with
  | 0 => ("NineInThePack", "drifts", "[LNineInThePack$Drift;", true)
  | 1 => ("NineInThePack", "air", "LNineInThePack$Air;", true)
  | 2 => ("NineInThePack", "lot", "LNineInThePack$Lot;", true)
  | 3 => ("NineInThePack", "now", "LNineInThePack$Ice;", true)
  | 4 => ("NineInThePack", "mind", "LNineInThePack$Ice;", true)
  | 5 => ("NineInThePack", "kept", "LNineInThePack$Ice;", true)
  | 6 => ("NineInThePack", "keptIsThere", "Z", false)
  | 7 => ("NineInThePack", "letters", "LNineInThePack$Letters;", true)
  | 8 => ("NineInThePack", "told", "[I", true)
  | 9 => ("NineInThePack", "toldCount", "I", false)
  | _ => ("NineInThePack", "refusals", "[I", true)
def tyX11 : Nat → FieldType := fun k => match k with
  | 0 => .array (.object "NineInThePack$Drift")
  | 1 => .object "NineInThePack$Air"
  | 2 => .object "NineInThePack$Lot"
  | 3 => .object "NineInThePack$Ice"
  | 4 => .object "NineInThePack$Ice"
  | 5 => .object "NineInThePack$Ice"
  | 6 => .boolean
  | 7 => .object "NineInThePack$Letters"
  | 8 => .array .int
  | 9 => .int
  | _ => .array .int
theorem nmX11 : ∀ a, a < 11 → ∀ b, b < 11 → a ≠ b → (TX11 a).2.1 ≠ (TX11 b).2.1 := by decide +kernel
theorem tyX11_ok : ∀ k, k < 11 → parseFieldDescriptor (TX11 k).2.2.1 = some (tyX11 k) := by decide +kernel
abbrev cX11_init : ByteArray := prog_1_method_1_code
def yX11_init : MethodName := ⟨RX11, "<init>", "()V"⟩
abbrev cX11_feed : ByteArray := prog_1_method_2_code
def yX11_feed : MethodName := ⟨RX11, "feed", "(I)I"⟩
abbrev cX11_pack : ByteArray := prog_1_method_3_code
def yX11_pack : MethodName := ⟨RX11, "pack", "()I"⟩
abbrev cX11_ship : ByteArray := prog_1_method_4_code
def yX11_ship : MethodName := ⟨RX11, "ship", "(II)I"⟩
abbrev cX11_wind : ByteArray := prog_1_method_5_code
def yX11_wind : MethodName := ⟨RX11, "wind", "(I)I"⟩
abbrev cX11_blow : ByteArray := prog_1_method_6_code
def yX11_blow : MethodName := ⟨RX11, "blow", "(III)I"⟩
abbrev cX11_set : ByteArray := prog_1_method_7_code
def yX11_set : MethodName := ⟨RX11, "set", "(II)I"⟩
abbrev cX11_go : ByteArray := prog_1_method_8_code
def yX11_go : MethodName := ⟨RX11, "go", "(I)I"⟩
abbrev cX11_far : ByteArray := prog_1_method_9_code
def yX11_far : MethodName := ⟨RX11, "far", "(II)I"⟩
abbrev cX11_open : ByteArray := prog_1_method_10_code
def yX11_open : MethodName := ⟨RX11, "open", "(III)I"⟩
abbrev cX11_behind : ByteArray := prog_1_method_11_code
def yX11_behind : MethodName := ⟨RX11, "behind", "(II)J"⟩
abbrev cX11_meet : ByteArray := prog_1_method_12_code
def yX11_meet : MethodName := ⟨RX11, "meet", "(II)I"⟩
abbrev cX11_nearest : ByteArray := prog_1_method_13_code
def yX11_nearest : MethodName := ⟨RX11, "nearest", "(IIII)I"⟩
abbrev cX11_there : ByteArray := prog_1_method_14_code
def yX11_there : MethodName := ⟨RX11, "there", "(II)I"⟩
abbrev cX11_back : ByteArray := prog_1_method_15_code
def yX11_back : MethodName := ⟨RX11, "back", "(II)I"⟩
abbrev cX11_news : ByteArray := prog_1_method_16_code
def yX11_news : MethodName := ⟨RX11, "news", "(I)I"⟩
abbrev cX11_know : ByteArray := prog_1_method_17_code
def yX11_know : MethodName := ⟨RX11, "know", "(II)I"⟩
abbrev cX11_lost : ByteArray := prog_1_method_18_code
def yX11_lost : MethodName := ⟨RX11, "lost", "()I"⟩
abbrev cX11_groups : ByteArray := prog_1_method_19_code
def yX11_groups : MethodName := ⟨RX11, "groups", "()I"⟩
abbrev cX11_hungry : ByteArray := prog_1_method_20_code
def yX11_hungry : MethodName := ⟨RX11, "hungry", "(I)I"⟩
abbrev cX11_lasts : ByteArray := prog_1_method_21_code
def yX11_lasts : MethodName := ⟨RX11, "lasts", "(I)I"⟩
abbrev cX11_share : ByteArray := prog_1_method_22_code
def yX11_share : MethodName := ⟨RX11, "share", "(II)I"⟩
abbrev cX11_givenUp : ByteArray := prog_1_method_23_code
def yX11_givenUp : MethodName := ⟨RX11, "givenUp", "(II)I"⟩
abbrev cX11_home : ByteArray := prog_1_method_24_code
def yX11_home : MethodName := ⟨RX11, "home", "(IIII)I"⟩
abbrev cX11_kinds : ByteArray := prog_1_method_25_code
def yX11_kinds : MethodName := ⟨RX11, "kinds", "(IIIII)I"⟩
abbrev cX11_row : ByteArray := prog_1_method_26_code
def yX11_row : MethodName := ⟨RX11, "row", "(I)I"⟩
abbrev cX11_judge : ByteArray := prog_1_method_27_code
def yX11_judge : MethodName := ⟨RX11, "judge", "(I)I"⟩
abbrev cX11_lots : ByteArray := prog_1_method_28_code
def yX11_lots : MethodName := ⟨RX11, "lots", "(III)I"⟩
abbrev cX11_image : ByteArray := prog_1_method_29_code
def yX11_image : MethodName := ⟨RX11, "image", "()I"⟩
abbrev cX11_restore : ByteArray := prog_1_method_30_code
def yX11_restore : MethodName := ⟨RX11, "restore", "()I"⟩
abbrev cX11_count : ByteArray := prog_1_method_31_code
def yX11_count : MethodName := ⟨RX11, "count", "(I)I"⟩
abbrev cX11_refuse : ByteArray := prog_1_method_32_code
def yX11_refuse : MethodName := ⟨RX11, "refuse", "(I)I"⟩
abbrev cX11_first : ByteArray := prog_1_method_33_code
def yX11_first : MethodName := ⟨RX11, "first", "(II)I"⟩
abbrev cX11_nobody : ByteArray := prog_1_method_34_code
def yX11_nobody : MethodName := ⟨RX11, "nobody", "(I)I"⟩
abbrev cX11_notTwo : ByteArray := prog_1_method_35_code
def yX11_notTwo : MethodName := ⟨RX11, "notTwo", "(II)I"⟩
abbrev cX11_otherThan : ByteArray := prog_1_method_36_code
def yX11_otherThan : MethodName := ⟨RX11, "otherThan", "(II)I"⟩
abbrev cX11_range : ByteArray := prog_1_method_37_code
def yX11_range : MethodName := ⟨RX11, "range", "(III)I"⟩
abbrev cX11_rangeOfTwo : ByteArray := prog_1_method_38_code
def yX11_rangeOfTwo : MethodName := ⟨RX11, "rangeOfTwo", "(IIII)I"⟩
abbrev cX11_belowFirst : ByteArray := prog_1_method_39_code
def yX11_belowFirst : MethodName := ⟨RX11, "belowFirst", "(II)I"⟩
abbrev cX11_isOfWeek : ByteArray := prog_1_method_40_code
def yX11_isOfWeek : MethodName := ⟨RX11, "isOfWeek", "(I)Z"⟩
abbrev cX11_toldWind : ByteArray := prog_1_method_41_code
def yX11_toldWind : MethodName := ⟨RX11, "toldWind", "(I)I"⟩
abbrev cX11_driftToday : ByteArray := prog_1_method_42_code
def yX11_driftToday : MethodName := ⟨RX11, "driftToday", "(LNineInThePack$Ship;Z)I"⟩
abbrev cX11_dayOf : ByteArray := prog_1_method_43_code
def yX11_dayOf : MethodName := ⟨RX11, "dayOf", "(LNineInThePack$Ice;)I"⟩
abbrev cX11_daysUntil : ByteArray := prog_1_method_44_code
def yX11_daysUntil : MethodName := ⟨RX11, "daysUntil", "(III)I"⟩
abbrev cX11_deal : ByteArray := prog_1_method_45_code
def yX11_deal : MethodName := ⟨RX11, "deal", "(LNineInThePack$Ship;LNineInThePack$Ship;)V"⟩
abbrev cX11_hungerWithout : ByteArray := prog_1_method_46_code
def yX11_hungerWithout : MethodName := ⟨RX11, "hungerWithout", "(II)I"⟩
abbrev cX11_wouldBeAt : ByteArray := prog_1_method_47_code
def yX11_wouldBeAt : MethodName := ⟨RX11, "wouldBeAt", "(LNineInThePack$Ship;LNineInThePack$Drift;IIII)Z"⟩
abbrev cX11_firstUntrue : ByteArray := prog_1_method_48_code
def yX11_firstUntrue : MethodName := ⟨RX11, "firstUntrue", "(I)I"⟩
def RX12 : String := "NineInThePackModel"
def TX12 : u_T := fun k => match k with
  | 0 => ("NineInThePackModel", "ships", "I", false)
  | 1 => ("NineInThePackModel", "reach", "I", false)
  | 2 => ("NineInThePackModel", "sight", "I", false)
  | 3 => ("NineInThePackModel", "days", "I", false)
  | 4 => ("NineInThePackModel", "hunger", "I", false)
  | 5 => ("NineInThePackModel", "windEast", "[I", true)
  | 6 => ("NineInThePackModel", "windNorth", "[I", true)
  | 7 => ("NineInThePackModel", "kinds", "[I", true)
  | 8 => ("NineInThePackModel", "figures", "[I", true)
  | 9 => ("NineInThePackModel", "crews", "[I", true)
  | 10 => ("NineInThePackModel", "breads", "[I", true)
  | 11 => ("NineInThePackModel", "easts", "[I", true)
  | 12 => ("NineInThePackModel", "norths", "[I", true)
  | 13 => ("NineInThePackModel", "thrown", "I", false)
  | 14 => ("NineInThePackModel", "refusals", "[I", true)
  | 15 => ("NineInThePackModel", "driftEast", "I", false)
  | 16 => ("NineInThePackModel", "driftNorth", "I", false)
  | 17 => ("NineInThePackModel", "kept", "[I", true)
  | 18 => ("NineInThePackModel", "imaged", "[I", true)
  | 19 => ("NineInThePackModel", "hasImage", "Z", false)
  | 20 => ("NineInThePackModel", "place", "I", false)
  | 21 => ("NineInThePackModel", "isTaking", "Z", false)
  | 22 => ("NineInThePackModel", "keptIn", "[I", false)
  | 23 => ("NineInThePackModel", "letters", "[I", true)
  | 24 => ("NineInThePackModel", "letterMany", "I", false)
  | 25 => ("NineInThePackModel", "at", "I", false)
  | 26 => ("NineInThePackModel", "isBad", "Z", false)
  | 27 => ("NineInThePackModel", "statements", "I", false)
  | 28 => ("NineInThePackModel", "placeOf", "[I", true)
  | 29 => ("NineInThePackModel", "letterOf", "[I", true)
  | 30 => ("NineInThePackModel", "told", "[I", true)
  | 31 => ("NineInThePackModel", "row", "[I", true)
  | 32 => ("NineInThePackModel", "rowMany", "I", false)
  | _ => ("NineInThePackModel", "seed", "I", false)
def tyX12 : Nat → FieldType := fun k => match k with
  | 0 => .int
  | 1 => .int
  | 2 => .int
  | 3 => .int
  | 4 => .int
  | 5 => .array .int
  | 6 => .array .int
  | 7 => .array .int
  | 8 => .array .int
  | 9 => .array .int
  | 10 => .array .int
  | 11 => .array .int
  | 12 => .array .int
  | 13 => .int
  | 14 => .array .int
  | 15 => .int
  | 16 => .int
  | 17 => .array .int
  | 18 => .array .int
  | 19 => .boolean
  | 20 => .int
  | 21 => .boolean
  | 22 => .array .int
  | 23 => .array .int
  | 24 => .int
  | 25 => .int
  | 26 => .boolean
  | 27 => .int
  | 28 => .array .int
  | 29 => .array .int
  | 30 => .array .int
  | 31 => .array .int
  | 32 => .int
  | _ => .int
theorem nmX12 : ∀ a, a < 34 → ∀ b, b < 34 → a ≠ b → (TX12 a).2.1 ≠ (TX12 b).2.1 := by decide +kernel
theorem tyX12_ok : ∀ k, k < 34 → parseFieldDescriptor (TX12 k).2.2.1 = some (tyX12 k) := by decide +kernel
abbrev cX12_init : ByteArray := prog_14_method_1_code
def yX12_init : MethodName := ⟨RX12, "<init>", "()V"⟩
abbrev cX12_in : ByteArray := prog_14_method_3_code
def yX12_in : MethodName := ⟨RX12, "in", "(JJJ)Z"⟩
abbrev cX12_refuse : ByteArray := prog_14_method_4_code
def yX12_refuse : MethodName := ⟨RX12, "refuse", "(I)I"⟩
abbrev cX12_isShip : ByteArray := prog_14_method_5_code
def yX12_isShip : MethodName := ⟨RX12, "isShip", "(I)Z"⟩
abbrev cX12_areTwo : ByteArray := prog_14_method_6_code
def yX12_areTwo : MethodName := ⟨RX12, "areTwo", "(II)Z"⟩
abbrev cX12_driftBy : ByteArray := prog_14_method_7_code
def yX12_driftBy : MethodName := ⟨RX12, "driftBy", "(IIIIII)V"⟩
abbrev cX12_driftToday : ByteArray := prog_14_method_8_code
def yX12_driftToday : MethodName := ⟨RX12, "driftToday", "(II)V"⟩
abbrev cX12_driftAll : ByteArray := prog_14_method_9_code
def yX12_driftAll : MethodName := ⟨RX12, "driftAll", "()V"⟩
abbrev cX12_eat : ByteArray := prog_14_method_10_code
def yX12_eat : MethodName := ⟨RX12, "eat", "()I"⟩
abbrev cX12_daysOn : ByteArray := prog_14_method_11_code
def yX12_daysOn : MethodName := ⟨RX12, "daysOn", "(I)I"⟩
abbrev cX12_apart : ByteArray := prog_14_method_12_code
def yX12_apart : MethodName := ⟨RX12, "apart", "(II)I"⟩
abbrev cX12_farBetween : ByteArray := prog_14_method_13_code
def yX12_farBetween : MethodName := ⟨RX12, "farBetween", "(II)I"⟩
abbrev cX12_isOpen : ByteArray := prog_14_method_14_code
def yX12_isOpen : MethodName := ⟨RX12, "isOpen", "(II)Z"⟩
abbrev cX12_carry : ByteArray := prog_14_method_15_code
def yX12_carry : MethodName := ⟨RX12, "carry", "(I)I"⟩
abbrev cX12_carryAll : ByteArray := prog_14_method_16_code
def yX12_carryAll : MethodName := ⟨RX12, "carryAll", "([IZ)V"⟩
abbrev cX12_open0 : ByteArray := prog_14_method_17_code
def yX12_open0 : MethodName := ⟨RX12, "open0", "()V"⟩
abbrev cX12_close : ByteArray := prog_14_method_18_code
def yX12_close : MethodName := ⟨RX12, "close", "()V"⟩
abbrev cX12_image : ByteArray := prog_14_method_19_code
def yX12_image : MethodName := ⟨RX12, "image", "()I"⟩
abbrev cX12_restore : ByteArray := prog_14_method_20_code
def yX12_restore : MethodName := ⟨RX12, "restore", "()I"⟩
abbrev cX12_feed : ByteArray := prog_14_method_21_code
def yX12_feed : MethodName := ⟨RX12, "feed", "(I)I"⟩
abbrev cX12_here : ByteArray := prog_14_method_22_code
def yX12_here : MethodName := ⟨RX12, "here", "()I"⟩
abbrev cX12_readDigit : ByteArray := prog_14_method_23_code
def yX12_readDigit : MethodName := ⟨RX12, "readDigit", "()I"⟩
abbrev cX12_readNumber : ByteArray := prog_14_method_24_code
def yX12_readNumber : MethodName := ⟨RX12, "readNumber", "(I)I"⟩
abbrev cX12_readSigned : ByteArray := prog_14_method_25_code
def yX12_readSigned : MethodName := ⟨RX12, "readSigned", "(I)I"⟩
abbrev cX12_readComma : ByteArray := prog_14_method_26_code
def yX12_readComma : MethodName := ⟨RX12, "readComma", "()V"⟩
abbrev cX12_readStatement : ByteArray := prog_14_method_27_code
def yX12_readStatement : MethodName := ⟨RX12, "readStatement", "()V"⟩
abbrev cX12_shipComes : ByteArray := prog_14_method_28_code
def yX12_shipComes : MethodName := ⟨RX12, "shipComes", "(I)Z"⟩
abbrev cX12_comes : ByteArray := prog_14_method_29_code
def yX12_comes : MethodName := ⟨RX12, "comes", "(I)Z"⟩
abbrev cX12_pack : ByteArray := prog_14_method_30_code
def yX12_pack : MethodName := ⟨RX12, "pack", "()I"⟩
abbrev cX12_ship : ByteArray := prog_14_method_31_code
def yX12_ship : MethodName := ⟨RX12, "ship", "(II)I"⟩
abbrev cX12_windTold : ByteArray := prog_14_method_32_code
def yX12_windTold : MethodName := ⟨RX12, "windTold", "(I)I"⟩
abbrev cX12_wind : ByteArray := prog_14_method_33_code
def yX12_wind : MethodName := ⟨RX12, "wind", "(I)I"⟩
abbrev cX12_blow : ByteArray := prog_14_method_34_code
def yX12_blow : MethodName := ⟨RX12, "blow", "(III)I"⟩
abbrev cX12_set : ByteArray := prog_14_method_35_code
def yX12_set : MethodName := ⟨RX12, "set", "(II)I"⟩
abbrev cX12_go : ByteArray := prog_14_method_36_code
def yX12_go : MethodName := ⟨RX12, "go", "(I)I"⟩
abbrev cX12_far : ByteArray := prog_14_method_37_code
def yX12_far : MethodName := ⟨RX12, "far", "(II)I"⟩
abbrev cX12_open : ByteArray := prog_14_method_38_code
def yX12_open : MethodName := ⟨RX12, "open", "(III)I"⟩
abbrev cX12_wrongDays : ByteArray := prog_14_method_39_code
def yX12_wrongDays : MethodName := ⟨RX12, "wrongDays", "(II)I"⟩
abbrev cX12_behind : ByteArray := prog_14_method_40_code
def yX12_behind : MethodName := ⟨RX12, "behind", "(II)J"⟩
abbrev cX12_meet : ByteArray := prog_14_method_41_code
def yX12_meet : MethodName := ⟨RX12, "meet", "(II)I"⟩
abbrev cX12_nearest : ByteArray := prog_14_method_42_code
def yX12_nearest : MethodName := ⟨RX12, "nearest", "(IIII)I"⟩
abbrev cX12_reachOn : ByteArray := prog_14_method_43_code
def yX12_reachOn : MethodName := ⟨RX12, "reachOn", "(I)I"⟩
abbrev cX12_there : ByteArray := prog_14_method_44_code
def yX12_there : MethodName := ⟨RX12, "there", "(II)I"⟩
abbrev cX12_back : ByteArray := prog_14_method_45_code
def yX12_back : MethodName := ⟨RX12, "back", "(II)I"⟩
abbrev cX12_news : ByteArray := prog_14_method_46_code
def yX12_news : MethodName := ⟨RX12, "news", "(I)I"⟩
abbrev cX12_know : ByteArray := prog_14_method_47_code
def yX12_know : MethodName := ⟨RX12, "know", "(II)I"⟩
abbrev cX12_lost : ByteArray := prog_14_method_48_code
def yX12_lost : MethodName := ⟨RX12, "lost", "()I"⟩
abbrev cX12_groups : ByteArray := prog_14_method_49_code
def yX12_groups : MethodName := ⟨RX12, "groups", "()I"⟩
abbrev cX12_hungryIn : ByteArray := prog_14_method_50_code
def yX12_hungryIn : MethodName := ⟨RX12, "hungryIn", "(I)I"⟩
abbrev cX12_hungry : ByteArray := prog_14_method_51_code
def yX12_hungry : MethodName := ⟨RX12, "hungry", "(I)I"⟩
abbrev cX12_lasts : ByteArray := prog_14_method_52_code
def yX12_lasts : MethodName := ⟨RX12, "lasts", "(I)I"⟩
abbrev cX12_held : ByteArray := prog_14_method_53_code
def yX12_held : MethodName := ⟨RX12, "held", "(II)I"⟩
abbrev cX12_share : ByteArray := prog_14_method_54_code
def yX12_share : MethodName := ⟨RX12, "share", "(II)I"⟩
abbrev cX12_hungryWithout : ByteArray := prog_14_method_55_code
def yX12_hungryWithout : MethodName := ⟨RX12, "hungryWithout", "(II)I"⟩
abbrev cX12_givenUp : ByteArray := prog_14_method_56_code
def yX12_givenUp : MethodName := ⟨RX12, "givenUp", "(II)I"⟩
abbrev cX12_home : ByteArray := prog_14_method_57_code
def yX12_home : MethodName := ⟨RX12, "home", "(IIII)I"⟩
abbrev cX12_kinds : ByteArray := prog_14_method_58_code
def yX12_kinds : MethodName := ⟨RX12, "kinds", "(IIIII)I"⟩
abbrev cX12_row : ByteArray := prog_14_method_59_code
def yX12_row : MethodName := ⟨RX12, "row", "(I)I"⟩
abbrev cX12_judge : ByteArray := prog_14_method_60_code
def yX12_judge : MethodName := ⟨RX12, "judge", "(I)I"⟩
abbrev cX12_draw : ByteArray := prog_14_method_61_code
def yX12_draw : MethodName := ⟨RX12, "draw", "(I)I"⟩
abbrev cX12_lots : ByteArray := prog_14_method_62_code
def yX12_lots : MethodName := ⟨RX12, "lots", "(III)I"⟩
abbrev cX12_sumOf : ByteArray := prog_14_method_63_code
def yX12_sumOf : MethodName := ⟨RX12, "sumOf", "([I)I"⟩
abbrev cX12_openLeads : ByteArray := prog_14_method_64_code
def yX12_openLeads : MethodName := ⟨RX12, "openLeads", "()I"⟩
abbrev cX12_count : ByteArray := prog_14_method_65_code
def yX12_count : MethodName := ⟨RX12, "count", "(I)I"⟩
def RJ9 : String := "java/lang/Math"
def TJ9 : u_T := fun k => match k with
  | _ => ("", "", "", false)
def tyJ9 : Nat → FieldType := fun k => match k with
  | _ => .int
theorem nmJ9 : ∀ a, a < 0 → ∀ b, b < 0 → a ≠ b → (TJ9 a).2.1 ≠ (TJ9 b).2.1 := by decide +kernel
theorem tyJ9_ok : ∀ k, k < 0 → parseFieldDescriptor (TJ9 k).2.2.1 = some (tyJ9 k) := by decide +kernel
abbrev cJ9_floorMod_7cf53 : ByteArray := prog_15_method_50_code
def yJ9_floorMod_7cf53 : MethodName := ⟨RJ9, "floorMod", "(II)I"⟩
abbrev cJ9_abs_0f7a4 : ByteArray := prog_15_method_59_code
def yJ9_abs_0f7a4 : MethodName := ⟨RJ9, "abs", "(I)I"⟩
abbrev cJ9_max_7cf53 : ByteArray := prog_15_method_65_code
def yJ9_max_7cf53 : MethodName := ⟨RJ9, "max", "(II)I"⟩
abbrev cJ9_min_7cf53 : ByteArray := prog_15_method_69_code
def yJ9_min_7cf53 : MethodName := ⟨RJ9, "min", "(II)I"⟩
def RL : String := "NineInThePackLaw"
abbrev cL_law : ByteArray := code
def yL_law : MethodName := ⟨RL, "law", "([I)Z"⟩
abbrev vwCl : List vw_C := [(RX0, TX0, 5), (RX1, TX1, 0), (RX2, TX2, 0), (RX3, TX3, 0), (RX4, TX4, 8), (RX5, TX5, 0), (RX6, TX6, 4), (RX7, TX7, 1), (RX8, TX8, 6), (RX9, TX9, 0), (RX10, TX10, 0), (RX11, TX11, 11), (RX12, TX12, 34)]
/-- the words that a callee may ask of its caller -/
def gn_tbl : List Cond := lw_tbl.filter goodWord
theorem gn_mem {w : Cond} (i : Nat) (h : lw_tbl[i]? = some w) (hg : goodWord w = true) : w ∈ gn_tbl := List.mem_filter.mpr ⟨List.mem_of_getElem? h, hg⟩
theorem gn_sub : ∀ w ∈ gn_tbl, w ∈ lw_tbl := fun w h => (List.mem_filter.mp h).1
theorem gn_good : ∀ w ∈ gn_tbl, (w.onTables && w.keeps) = true ∨ ∃ ty, w = .arrayClass ty := fun w h => good_of_word (List.mem_filter.mp h).2
set_option maxRecDepth 20000 in
theorem gn_inX0 : ∀ w ∈ u_ws RX0 TX0 5, w ∈ gn_tbl := by
  have h : u_ws RX0 TX0 5 = ([137, 139, 141, 143, 145] : List Nat).filterMap (fun i => lw_tbl[i]?) := by decide +kernel
  have hg : (u_ws RX0 TX0 5).all goodWord = true := by decide +kernel
  intro w hw
  have h2 := List.all_eq_true.mp hg w hw
  rw [h] at hw
  obtain ⟨i, -, hi⟩ := List.mem_filterMap.mp hw
  exact gn_mem i hi h2
set_option maxRecDepth 20000 in
theorem gn_inX1 : ∀ w ∈ u_ws RX1 TX1 0, w ∈ gn_tbl := by
  have h : u_ws RX1 TX1 0 = ([] : List Nat).filterMap (fun i => lw_tbl[i]?) := by decide +kernel
  have hg : (u_ws RX1 TX1 0).all goodWord = true := by decide +kernel
  intro w hw
  have h2 := List.all_eq_true.mp hg w hw
  rw [h] at hw
  obtain ⟨i, -, hi⟩ := List.mem_filterMap.mp hw
  exact gn_mem i hi h2
set_option maxRecDepth 20000 in
theorem gn_inX2 : ∀ w ∈ u_ws RX2 TX2 0, w ∈ gn_tbl := by
  have h : u_ws RX2 TX2 0 = ([] : List Nat).filterMap (fun i => lw_tbl[i]?) := by decide +kernel
  have hg : (u_ws RX2 TX2 0).all goodWord = true := by decide +kernel
  intro w hw
  have h2 := List.all_eq_true.mp hg w hw
  rw [h] at hw
  obtain ⟨i, -, hi⟩ := List.mem_filterMap.mp hw
  exact gn_mem i hi h2
set_option maxRecDepth 20000 in
theorem gn_inX3 : ∀ w ∈ u_ws RX3 TX3 0, w ∈ gn_tbl := by
  have h : u_ws RX3 TX3 0 = ([] : List Nat).filterMap (fun i => lw_tbl[i]?) := by decide +kernel
  have hg : (u_ws RX3 TX3 0).all goodWord = true := by decide +kernel
  intro w hw
  have h2 := List.all_eq_true.mp hg w hw
  rw [h] at hw
  obtain ⟨i, -, hi⟩ := List.mem_filterMap.mp hw
  exact gn_mem i hi h2
set_option maxRecDepth 20000 in
theorem gn_inX4 : ∀ w ∈ u_ws RX4 TX4 8, w ∈ gn_tbl := by
  have h : u_ws RX4 TX4 8 = ([232, 234, 236, 238, 240, 242, 244, 246] : List Nat).filterMap (fun i => lw_tbl[i]?) := by decide +kernel
  have hg : (u_ws RX4 TX4 8).all goodWord = true := by decide +kernel
  intro w hw
  have h2 := List.all_eq_true.mp hg w hw
  rw [h] at hw
  obtain ⟨i, -, hi⟩ := List.mem_filterMap.mp hw
  exact gn_mem i hi h2
set_option maxRecDepth 20000 in
theorem gn_inX5 : ∀ w ∈ u_ws RX5 TX5 0, w ∈ gn_tbl := by
  have h : u_ws RX5 TX5 0 = ([] : List Nat).filterMap (fun i => lw_tbl[i]?) := by decide +kernel
  have hg : (u_ws RX5 TX5 0).all goodWord = true := by decide +kernel
  intro w hw
  have h2 := List.all_eq_true.mp hg w hw
  rw [h] at hw
  obtain ⟨i, -, hi⟩ := List.mem_filterMap.mp hw
  exact gn_mem i hi h2
set_option maxRecDepth 20000 in
theorem gn_inX6 : ∀ w ∈ u_ws RX6 TX6 4, w ∈ gn_tbl := by
  have h : u_ws RX6 TX6 4 = ([260, 262, 264, 266] : List Nat).filterMap (fun i => lw_tbl[i]?) := by decide +kernel
  have hg : (u_ws RX6 TX6 4).all goodWord = true := by decide +kernel
  intro w hw
  have h2 := List.all_eq_true.mp hg w hw
  rw [h] at hw
  obtain ⟨i, -, hi⟩ := List.mem_filterMap.mp hw
  exact gn_mem i hi h2
set_option maxRecDepth 20000 in
theorem gn_inX7 : ∀ w ∈ u_ws RX7 TX7 1, w ∈ gn_tbl := by
  have h : u_ws RX7 TX7 1 = ([156] : List Nat).filterMap (fun i => lw_tbl[i]?) := by decide +kernel
  have hg : (u_ws RX7 TX7 1).all goodWord = true := by decide +kernel
  intro w hw
  have h2 := List.all_eq_true.mp hg w hw
  rw [h] at hw
  obtain ⟨i, -, hi⟩ := List.mem_filterMap.mp hw
  exact gn_mem i hi h2
set_option maxRecDepth 20000 in
theorem gn_inX8 : ∀ w ∈ u_ws RX8 TX8 6, w ∈ gn_tbl := by
  have h : u_ws RX8 TX8 6 = ([196, 198, 200, 202, 204, 206] : List Nat).filterMap (fun i => lw_tbl[i]?) := by decide +kernel
  have hg : (u_ws RX8 TX8 6).all goodWord = true := by decide +kernel
  intro w hw
  have h2 := List.all_eq_true.mp hg w hw
  rw [h] at hw
  obtain ⟨i, -, hi⟩ := List.mem_filterMap.mp hw
  exact gn_mem i hi h2
set_option maxRecDepth 20000 in
theorem gn_inX9 : ∀ w ∈ u_ws RX9 TX9 0, w ∈ gn_tbl := by
  have h : u_ws RX9 TX9 0 = ([] : List Nat).filterMap (fun i => lw_tbl[i]?) := by decide +kernel
  have hg : (u_ws RX9 TX9 0).all goodWord = true := by decide +kernel
  intro w hw
  have h2 := List.all_eq_true.mp hg w hw
  rw [h] at hw
  obtain ⟨i, -, hi⟩ := List.mem_filterMap.mp hw
  exact gn_mem i hi h2
set_option maxRecDepth 20000 in
theorem gn_inX10 : ∀ w ∈ u_ws RX10 TX10 0, w ∈ gn_tbl := by
  have h : u_ws RX10 TX10 0 = ([] : List Nat).filterMap (fun i => lw_tbl[i]?) := by decide +kernel
  have hg : (u_ws RX10 TX10 0).all goodWord = true := by decide +kernel
  intro w hw
  have h2 := List.all_eq_true.mp hg w hw
  rw [h] at hw
  obtain ⟨i, -, hi⟩ := List.mem_filterMap.mp hw
  exact gn_mem i hi h2
set_option maxRecDepth 20000 in
theorem gn_inX11 : ∀ w ∈ u_ws RX11 TX11 11, w ∈ gn_tbl := by
  have h : u_ws RX11 TX11 11 = ([280, 282, 284, 286, 288, 290, 292, 294, 296, 298, 300] : List Nat).filterMap (fun i => lw_tbl[i]?) := by decide +kernel
  have hg : (u_ws RX11 TX11 11).all goodWord = true := by decide +kernel
  intro w hw
  have h2 := List.all_eq_true.mp hg w hw
  rw [h] at hw
  obtain ⟨i, -, hi⟩ := List.mem_filterMap.mp hw
  exact gn_mem i hi h2
set_option maxRecDepth 20000 in
theorem gn_inX12 : ∀ w ∈ u_ws RX12 TX12 34, w ∈ gn_tbl := by
  have h : u_ws RX12 TX12 34 = ([728, 730, 732, 734, 736, 738, 740, 742, 744, 746, 748, 750, 752, 754, 756, 758, 760, 762, 764, 766, 768, 770, 772, 774, 776, 778, 780, 782, 784, 786, 788, 790, 792, 794] : List Nat).filterMap (fun i => lw_tbl[i]?) := by decide +kernel
  have hg : (u_ws RX12 TX12 34).all goodWord = true := by decide +kernel
  intro w hw
  have h2 := List.all_eq_true.mp hg w hw
  rw [h] at hw
  obtain ⟨i, -, hi⟩ := List.mem_filterMap.mp hw
  exact gn_mem i hi h2
