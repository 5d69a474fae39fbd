section
-- ===== PART A: goes FIRST, ahead of the names: the tables' words, and 'selects' of the private methods out of them =====
/-- a private method of a class that the tables say can be made, by its rows of tables_1 -/
def lw_okq (q : MethodName × Nat) : Prop := (q.1.cls ≠ "java/lang/invoke/MethodHandle" ∧ q.1.cls ≠ "java/lang/invoke/VarHandle") ∧ Cond.instantiable q.1.cls q.2 ∈ tables_1 ∧ Cond.privateMethod q.1 ∈ tables_1 ∧ Cond.instanceMethod q.1 ∈ tables_1
theorem lw_p0 : lw_okq (⟨"NineInThePack", "refuse", "(I)I"⟩, 11) := ⟨⟨by decide +kernel, by decide +kernel⟩, List.mem_of_getElem? (i := 16) (by decide +kernel), List.mem_of_getElem? (i := 258) (by decide +kernel), List.mem_of_getElem? (i := 259) (by decide +kernel)⟩
theorem lw_p1 : lw_okq (⟨"NineInThePack$Letters", "readStatement", "(LNineInThePack$Ice;)Z"⟩, 4) := ⟨⟨by decide +kernel, by decide +kernel⟩, List.mem_of_getElem? (i := 200) (by decide +kernel), List.mem_of_getElem? (i := 282) (by decide +kernel), List.mem_of_getElem? (i := 283) (by decide +kernel)⟩
theorem lw_p2 : lw_okq (⟨"NineInThePack$Letters", "take", "(I)Z"⟩, 4) := ⟨⟨by decide +kernel, by decide +kernel⟩, List.mem_of_getElem? (i := 200) (by decide +kernel), List.mem_of_getElem? (i := 286) (by decide +kernel), List.mem_of_getElem? (i := 287) (by decide +kernel)⟩
theorem lw_p3 : lw_okq (⟨"NineInThePack$Letters", "readShip", "(LNineInThePack$Ice;)Z"⟩, 4) := ⟨⟨by decide +kernel, by decide +kernel⟩, List.mem_of_getElem? (i := 200) (by decide +kernel), List.mem_of_getElem? (i := 290) (by decide +kernel), List.mem_of_getElem? (i := 291) (by decide +kernel)⟩
theorem lw_p4 : lw_okq (⟨"NineInThePack$Letters", "readNumber", "(I)I"⟩, 4) := ⟨⟨by decide +kernel, by decide +kernel⟩, List.mem_of_getElem? (i := 200) (by decide +kernel), List.mem_of_getElem? (i := 294) (by decide +kernel), List.mem_of_getElem? (i := 295) (by decide +kernel)⟩
theorem lw_p5 : lw_okq (⟨"NineInThePack$Letters", "isDigitNext", "()Z"⟩, 4) := ⟨⟨by decide +kernel, by decide +kernel⟩, List.mem_of_getElem? (i := 200) (by decide +kernel), List.mem_of_getElem? (i := 298) (by decide +kernel), List.mem_of_getElem? (i := 299) (by decide +kernel)⟩
theorem lw_p6 : lw_okq (⟨"NineInThePack$Letters", "need", "(I)V"⟩, 4) := ⟨⟨by decide +kernel, by decide +kernel⟩, List.mem_of_getElem? (i := 200) (by decide +kernel), List.mem_of_getElem? (i := 302) (by decide +kernel), List.mem_of_getElem? (i := 303) (by decide +kernel)⟩
theorem lw_p7 : lw_okq (⟨"NineInThePack$Letters", "readSigned", "(I)I"⟩, 4) := ⟨⟨by decide +kernel, by decide +kernel⟩, List.mem_of_getElem? (i := 200) (by decide +kernel), List.mem_of_getElem? (i := 306) (by decide +kernel), List.mem_of_getElem? (i := 307) (by decide +kernel)⟩
theorem lw_p8 : lw_okq (⟨"NineInThePack$Letters", "readWind", "(LNineInThePack$Ice;)Z"⟩, 4) := ⟨⟨by decide +kernel, by decide +kernel⟩, List.mem_of_getElem? (i := 200) (by decide +kernel), List.mem_of_getElem? (i := 310) (by decide +kernel), List.mem_of_getElem? (i := 311) (by decide +kernel)⟩
theorem lw_p9 : lw_okq (⟨"NineInThePack$Letters", "readReach", "(LNineInThePack$Ice;)Z"⟩, 4) := ⟨⟨by decide +kernel, by decide +kernel⟩, List.mem_of_getElem? (i := 200) (by decide +kernel), List.mem_of_getElem? (i := 317) (by decide +kernel), List.mem_of_getElem? (i := 318) (by decide +kernel)⟩
theorem lw_p10 : lw_okq (⟨"NineInThePack$Letters", "readSight", "(LNineInThePack$Ice;)Z"⟩, 4) := ⟨⟨by decide +kernel, by decide +kernel⟩, List.mem_of_getElem? (i := 200) (by decide +kernel), List.mem_of_getElem? (i := 321) (by decide +kernel), List.mem_of_getElem? (i := 322) (by decide +kernel)⟩
theorem lw_p11 : lw_okq (⟨"NineInThePack", "nobody", "(I)I"⟩, 11) := ⟨⟨by decide +kernel, by decide +kernel⟩, List.mem_of_getElem? (i := 16) (by decide +kernel), List.mem_of_getElem? (i := 329) (by decide +kernel), List.mem_of_getElem? (i := 330) (by decide +kernel)⟩
theorem lw_p12 : lw_okq (⟨"NineInThePack", "driftToday", "(LNineInThePack$Ship;Z)I"⟩, 11) := ⟨⟨by decide +kernel, by decide +kernel⟩, List.mem_of_getElem? (i := 16) (by decide +kernel), List.mem_of_getElem? (i := 344) (by decide +kernel), List.mem_of_getElem? (i := 345) (by decide +kernel)⟩
theorem lw_p13 : lw_okq (⟨"NineInThePack", "toldWind", "(I)I"⟩, 11) := ⟨⟨by decide +kernel, by decide +kernel⟩, List.mem_of_getElem? (i := 16) (by decide +kernel), List.mem_of_getElem? (i := 406) (by decide +kernel), List.mem_of_getElem? (i := 407) (by decide +kernel)⟩
theorem lw_p14 : lw_okq (⟨"NineInThePack", "dayOf", "(LNineInThePack$Ice;)I"⟩, 11) := ⟨⟨by decide +kernel, by decide +kernel⟩, List.mem_of_getElem? (i := 16) (by decide +kernel), List.mem_of_getElem? (i := 434) (by decide +kernel), List.mem_of_getElem? (i := 435) (by decide +kernel)⟩
theorem lw_p15 : lw_okq (⟨"NineInThePack", "notTwo", "(II)I"⟩, 11) := ⟨⟨by decide +kernel, by decide +kernel⟩, List.mem_of_getElem? (i := 16) (by decide +kernel), List.mem_of_getElem? (i := 457) (by decide +kernel), List.mem_of_getElem? (i := 458) (by decide +kernel)⟩
def lw_privs_1 : List (MethodName × Nat) := [(⟨"NineInThePack", "refuse", "(I)I"⟩, 11), (⟨"NineInThePack$Letters", "readStatement", "(LNineInThePack$Ice;)Z"⟩, 4), (⟨"NineInThePack$Letters", "take", "(I)Z"⟩, 4), (⟨"NineInThePack$Letters", "readShip", "(LNineInThePack$Ice;)Z"⟩, 4), (⟨"NineInThePack$Letters", "readNumber", "(I)I"⟩, 4), (⟨"NineInThePack$Letters", "isDigitNext", "()Z"⟩, 4), (⟨"NineInThePack$Letters", "need", "(I)V"⟩, 4), (⟨"NineInThePack$Letters", "readSigned", "(I)I"⟩, 4), (⟨"NineInThePack$Letters", "readWind", "(LNineInThePack$Ice;)Z"⟩, 4), (⟨"NineInThePack$Letters", "readReach", "(LNineInThePack$Ice;)Z"⟩, 4), (⟨"NineInThePack$Letters", "readSight", "(LNineInThePack$Ice;)Z"⟩, 4), (⟨"NineInThePack", "nobody", "(I)I"⟩, 11), (⟨"NineInThePack", "driftToday", "(LNineInThePack$Ship;Z)I"⟩, 11), (⟨"NineInThePack", "toldWind", "(I)I"⟩, 11), (⟨"NineInThePack", "dayOf", "(LNineInThePack$Ice;)I"⟩, 11), (⟨"NineInThePack", "notTwo", "(II)I"⟩, 11)]
theorem lw_r1 : ∀ q ∈ lw_privs_1, lw_okq q := List.forall_mem_cons.mpr ⟨lw_p0, List.forall_mem_cons.mpr ⟨lw_p1, List.forall_mem_cons.mpr ⟨lw_p2, List.forall_mem_cons.mpr ⟨lw_p3, List.forall_mem_cons.mpr ⟨lw_p4, List.forall_mem_cons.mpr ⟨lw_p5, List.forall_mem_cons.mpr ⟨lw_p6, List.forall_mem_cons.mpr ⟨lw_p7, List.forall_mem_cons.mpr ⟨lw_p8, List.forall_mem_cons.mpr ⟨lw_p9, List.forall_mem_cons.mpr ⟨lw_p10, List.forall_mem_cons.mpr ⟨lw_p11, List.forall_mem_cons.mpr ⟨lw_p12, List.forall_mem_cons.mpr ⟨lw_p13, List.forall_mem_cons.mpr ⟨lw_p14, List.forall_mem_cons.mpr ⟨lw_p15, fun _ h => absurd h List.not_mem_nil⟩⟩⟩⟩⟩⟩⟩⟩⟩⟩⟩⟩⟩⟩⟩⟩
theorem lw_p16 : lw_okq (⟨"NineInThePack", "daysUntil", "(III)I"⟩, 11) := ⟨⟨by decide +kernel, by decide +kernel⟩, List.mem_of_getElem? (i := 16) (by decide +kernel), List.mem_of_getElem? (i := 495) (by decide +kernel), List.mem_of_getElem? (i := 496) (by decide +kernel)⟩
theorem lw_p17 : lw_okq (⟨"NineInThePack", "hungerWithout", "(II)I"⟩, 11) := ⟨⟨by decide +kernel, by decide +kernel⟩, List.mem_of_getElem? (i := 16) (by decide +kernel), List.mem_of_getElem? (i := 560) (by decide +kernel), List.mem_of_getElem? (i := 561) (by decide +kernel)⟩
theorem lw_p18 : lw_okq (⟨"NineInThePack", "wouldBeAt", "(LNineInThePack$Ship;LNineInThePack$Drift;IIII)Z"⟩, 11) := ⟨⟨by decide +kernel, by decide +kernel⟩, List.mem_of_getElem? (i := 16) (by decide +kernel), List.mem_of_getElem? (i := 584) (by decide +kernel), List.mem_of_getElem? (i := 585) (by decide +kernel)⟩
theorem lw_p19 : lw_okq (⟨"NineInThePack", "firstUntrue", "(I)I"⟩, 11) := ⟨⟨by decide +kernel, by decide +kernel⟩, List.mem_of_getElem? (i := 16) (by decide +kernel), List.mem_of_getElem? (i := 596) (by decide +kernel), List.mem_of_getElem? (i := 597) (by decide +kernel)⟩
theorem lw_p20 : lw_okq (⟨"NineInThePackModel", "carryAll", "([IZ)V"⟩, 34) := ⟨⟨by decide +kernel, by decide +kernel⟩, List.mem_of_getElem? (i := 643) (by decide +kernel), List.mem_of_getElem? (i := 756) (by decide +kernel), List.mem_of_getElem? (i := 757) (by decide +kernel)⟩
theorem lw_p21 : lw_okq (⟨"NineInThePackModel", "carry", "(I)I"⟩, 34) := ⟨⟨by decide +kernel, by decide +kernel⟩, List.mem_of_getElem? (i := 643) (by decide +kernel), List.mem_of_getElem? (i := 760) (by decide +kernel), List.mem_of_getElem? (i := 761) (by decide +kernel)⟩
theorem lw_p22 : lw_okq (⟨"NineInThePackModel", "refuse", "(I)I"⟩, 34) := ⟨⟨by decide +kernel, by decide +kernel⟩, List.mem_of_getElem? (i := 643) (by decide +kernel), List.mem_of_getElem? (i := 768) (by decide +kernel), List.mem_of_getElem? (i := 769) (by decide +kernel)⟩
theorem lw_p23 : lw_okq (⟨"NineInThePackModel", "readStatement", "()V"⟩, 34) := ⟨⟨by decide +kernel, by decide +kernel⟩, List.mem_of_getElem? (i := 643) (by decide +kernel), List.mem_of_getElem? (i := 780) (by decide +kernel), List.mem_of_getElem? (i := 781) (by decide +kernel)⟩
theorem lw_p24 : lw_okq (⟨"NineInThePackModel", "here", "()I"⟩, 34) := ⟨⟨by decide +kernel, by decide +kernel⟩, List.mem_of_getElem? (i := 643) (by decide +kernel), List.mem_of_getElem? (i := 784) (by decide +kernel), List.mem_of_getElem? (i := 785) (by decide +kernel)⟩
theorem lw_p25 : lw_okq (⟨"NineInThePackModel", "readDigit", "()I"⟩, 34) := ⟨⟨by decide +kernel, by decide +kernel⟩, List.mem_of_getElem? (i := 643) (by decide +kernel), List.mem_of_getElem? (i := 788) (by decide +kernel), List.mem_of_getElem? (i := 789) (by decide +kernel)⟩
theorem lw_p26 : lw_okq (⟨"NineInThePackModel", "readNumber", "(I)I"⟩, 34) := ⟨⟨by decide +kernel, by decide +kernel⟩, List.mem_of_getElem? (i := 643) (by decide +kernel), List.mem_of_getElem? (i := 797) (by decide +kernel), List.mem_of_getElem? (i := 798) (by decide +kernel)⟩
theorem lw_p27 : lw_okq (⟨"NineInThePackModel", "readComma", "()V"⟩, 34) := ⟨⟨by decide +kernel, by decide +kernel⟩, List.mem_of_getElem? (i := 643) (by decide +kernel), List.mem_of_getElem? (i := 801) (by decide +kernel), List.mem_of_getElem? (i := 802) (by decide +kernel)⟩
theorem lw_p28 : lw_okq (⟨"NineInThePackModel", "readSigned", "(I)I"⟩, 34) := ⟨⟨by decide +kernel, by decide +kernel⟩, List.mem_of_getElem? (i := 643) (by decide +kernel), List.mem_of_getElem? (i := 805) (by decide +kernel), List.mem_of_getElem? (i := 806) (by decide +kernel)⟩
theorem lw_p29 : lw_okq (⟨"NineInThePackModel", "open0", "()V"⟩, 34) := ⟨⟨by decide +kernel, by decide +kernel⟩, List.mem_of_getElem? (i := 643) (by decide +kernel), List.mem_of_getElem? (i := 809) (by decide +kernel), List.mem_of_getElem? (i := 810) (by decide +kernel)⟩
theorem lw_p30 : lw_okq (⟨"NineInThePackModel", "comes", "(I)Z"⟩, 34) := ⟨⟨by decide +kernel, by decide +kernel⟩, List.mem_of_getElem? (i := 643) (by decide +kernel), List.mem_of_getElem? (i := 813) (by decide +kernel), List.mem_of_getElem? (i := 814) (by decide +kernel)⟩
theorem lw_p31 : lw_okq (⟨"NineInThePackModel", "shipComes", "(I)Z"⟩, 34) := ⟨⟨by decide +kernel, by decide +kernel⟩, List.mem_of_getElem? (i := 643) (by decide +kernel), List.mem_of_getElem? (i := 817) (by decide +kernel), List.mem_of_getElem? (i := 818) (by decide +kernel)⟩
def lw_privs_2 : List (MethodName × Nat) := [(⟨"NineInThePack", "daysUntil", "(III)I"⟩, 11), (⟨"NineInThePack", "hungerWithout", "(II)I"⟩, 11), (⟨"NineInThePack", "wouldBeAt", "(LNineInThePack$Ship;LNineInThePack$Drift;IIII)Z"⟩, 11), (⟨"NineInThePack", "firstUntrue", "(I)I"⟩, 11), (⟨"NineInThePackModel", "carryAll", "([IZ)V"⟩, 34), (⟨"NineInThePackModel", "carry", "(I)I"⟩, 34), (⟨"NineInThePackModel", "refuse", "(I)I"⟩, 34), (⟨"NineInThePackModel", "readStatement", "()V"⟩, 34), (⟨"NineInThePackModel", "here", "()I"⟩, 34), (⟨"NineInThePackModel", "readDigit", "()I"⟩, 34), (⟨"NineInThePackModel", "readNumber", "(I)I"⟩, 34), (⟨"NineInThePackModel", "readComma", "()V"⟩, 34), (⟨"NineInThePackModel", "readSigned", "(I)I"⟩, 34), (⟨"NineInThePackModel", "open0", "()V"⟩, 34), (⟨"NineInThePackModel", "comes", "(I)Z"⟩, 34), (⟨"NineInThePackModel", "shipComes", "(I)Z"⟩, 34)]
theorem lw_r2 : ∀ q ∈ lw_privs_2, lw_okq q := List.forall_mem_cons.mpr ⟨lw_p16, List.forall_mem_cons.mpr ⟨lw_p17, List.forall_mem_cons.mpr ⟨lw_p18, List.forall_mem_cons.mpr ⟨lw_p19, List.forall_mem_cons.mpr ⟨lw_p20, List.forall_mem_cons.mpr ⟨lw_p21, List.forall_mem_cons.mpr ⟨lw_p22, List.forall_mem_cons.mpr ⟨lw_p23, List.forall_mem_cons.mpr ⟨lw_p24, List.forall_mem_cons.mpr ⟨lw_p25, List.forall_mem_cons.mpr ⟨lw_p26, List.forall_mem_cons.mpr ⟨lw_p27, List.forall_mem_cons.mpr ⟨lw_p28, List.forall_mem_cons.mpr ⟨lw_p29, List.forall_mem_cons.mpr ⟨lw_p30, List.forall_mem_cons.mpr ⟨lw_p31, fun _ h => absurd h List.not_mem_nil⟩⟩⟩⟩⟩⟩⟩⟩⟩⟩⟩⟩⟩⟩⟩⟩
theorem lw_p32 : lw_okq (⟨"NineInThePackModel", "close", "()V"⟩, 34) := ⟨⟨by decide +kernel, by decide +kernel⟩, List.mem_of_getElem? (i := 643) (by decide +kernel), List.mem_of_getElem? (i := 825) (by decide +kernel), List.mem_of_getElem? (i := 826) (by decide +kernel)⟩
theorem lw_p33 : lw_okq (⟨"NineInThePackModel", "isShip", "(I)Z"⟩, 34) := ⟨⟨by decide +kernel, by decide +kernel⟩, List.mem_of_getElem? (i := 643) (by decide +kernel), List.mem_of_getElem? (i := 833) (by decide +kernel), List.mem_of_getElem? (i := 834) (by decide +kernel)⟩
theorem lw_p34 : lw_okq (⟨"NineInThePackModel", "driftToday", "(II)V"⟩, 34) := ⟨⟨by decide +kernel, by decide +kernel⟩, List.mem_of_getElem? (i := 643) (by decide +kernel), List.mem_of_getElem? (i := 838) (by decide +kernel), List.mem_of_getElem? (i := 839) (by decide +kernel)⟩
theorem lw_p35 : lw_okq (⟨"NineInThePackModel", "driftBy", "(IIIIII)V"⟩, 34) := ⟨⟨by decide +kernel, by decide +kernel⟩, List.mem_of_getElem? (i := 643) (by decide +kernel), List.mem_of_getElem? (i := 842) (by decide +kernel), List.mem_of_getElem? (i := 843) (by decide +kernel)⟩
theorem lw_p36 : lw_okq (⟨"NineInThePackModel", "windTold", "(I)I"⟩, 34) := ⟨⟨by decide +kernel, by decide +kernel⟩, List.mem_of_getElem? (i := 643) (by decide +kernel), List.mem_of_getElem? (i := 852) (by decide +kernel), List.mem_of_getElem? (i := 853) (by decide +kernel)⟩
theorem lw_p37 : lw_okq (⟨"NineInThePackModel", "daysOn", "(I)I"⟩, 34) := ⟨⟨by decide +kernel, by decide +kernel⟩, List.mem_of_getElem? (i := 643) (by decide +kernel), List.mem_of_getElem? (i := 868) (by decide +kernel), List.mem_of_getElem? (i := 869) (by decide +kernel)⟩
theorem lw_p38 : lw_okq (⟨"NineInThePackModel", "driftAll", "()V"⟩, 34) := ⟨⟨by decide +kernel, by decide +kernel⟩, List.mem_of_getElem? (i := 643) (by decide +kernel), List.mem_of_getElem? (i := 872) (by decide +kernel), List.mem_of_getElem? (i := 873) (by decide +kernel)⟩
theorem lw_p39 : lw_okq (⟨"NineInThePackModel", "eat", "()I"⟩, 34) := ⟨⟨by decide +kernel, by decide +kernel⟩, List.mem_of_getElem? (i := 643) (by decide +kernel), List.mem_of_getElem? (i := 876) (by decide +kernel), List.mem_of_getElem? (i := 877) (by decide +kernel)⟩
theorem lw_p40 : lw_okq (⟨"NineInThePackModel", "areTwo", "(II)Z"⟩, 34) := ⟨⟨by decide +kernel, by decide +kernel⟩, List.mem_of_getElem? (i := 643) (by decide +kernel), List.mem_of_getElem? (i := 884) (by decide +kernel), List.mem_of_getElem? (i := 885) (by decide +kernel)⟩
theorem lw_p41 : lw_okq (⟨"NineInThePackModel", "farBetween", "(II)I"⟩, 34) := ⟨⟨by decide +kernel, by decide +kernel⟩, List.mem_of_getElem? (i := 643) (by decide +kernel), List.mem_of_getElem? (i := 888) (by decide +kernel), List.mem_of_getElem? (i := 889) (by decide +kernel)⟩
theorem lw_p42 : lw_okq (⟨"NineInThePackModel", "reachOn", "(I)I"⟩, 34) := ⟨⟨by decide +kernel, by decide +kernel⟩, List.mem_of_getElem? (i := 643) (by decide +kernel), List.mem_of_getElem? (i := 921) (by decide +kernel), List.mem_of_getElem? (i := 922) (by decide +kernel)⟩
theorem lw_p43 : lw_okq (⟨"NineInThePackModel", "isOpen", "(II)Z"⟩, 34) := ⟨⟨by decide +kernel, by decide +kernel⟩, List.mem_of_getElem? (i := 643) (by decide +kernel), List.mem_of_getElem? (i := 925) (by decide +kernel), List.mem_of_getElem? (i := 926) (by decide +kernel)⟩
theorem lw_p44 : lw_okq (⟨"NineInThePackModel", "hungryIn", "(I)I"⟩, 34) := ⟨⟨by decide +kernel, by decide +kernel⟩, List.mem_of_getElem? (i := 643) (by decide +kernel), List.mem_of_getElem? (i := 953) (by decide +kernel), List.mem_of_getElem? (i := 954) (by decide +kernel)⟩
theorem lw_p45 : lw_okq (⟨"NineInThePackModel", "hungryWithout", "(II)I"⟩, 34) := ⟨⟨by decide +kernel, by decide +kernel⟩, List.mem_of_getElem? (i := 643) (by decide +kernel), List.mem_of_getElem? (i := 972) (by decide +kernel), List.mem_of_getElem? (i := 973) (by decide +kernel)⟩
theorem lw_p46 : lw_okq (⟨"NineInThePackModel", "draw", "(I)I"⟩, 34) := ⟨⟨by decide +kernel, by decide +kernel⟩, List.mem_of_getElem? (i := 643) (by decide +kernel), List.mem_of_getElem? (i := 996) (by decide +kernel), List.mem_of_getElem? (i := 997) (by decide +kernel)⟩
theorem lw_p47 : lw_okq (⟨"NineInThePackModel", "sumOf", "([I)I"⟩, 34) := ⟨⟨by decide +kernel, by decide +kernel⟩, List.mem_of_getElem? (i := 643) (by decide +kernel), List.mem_of_getElem? (i := 1007) (by decide +kernel), List.mem_of_getElem? (i := 1008) (by decide +kernel)⟩
def lw_privs_3 : List (MethodName × Nat) := [(⟨"NineInThePackModel", "close", "()V"⟩, 34), (⟨"NineInThePackModel", "isShip", "(I)Z"⟩, 34), (⟨"NineInThePackModel", "driftToday", "(II)V"⟩, 34), (⟨"NineInThePackModel", "driftBy", "(IIIIII)V"⟩, 34), (⟨"NineInThePackModel", "windTold", "(I)I"⟩, 34), (⟨"NineInThePackModel", "daysOn", "(I)I"⟩, 34), (⟨"NineInThePackModel", "driftAll", "()V"⟩, 34), (⟨"NineInThePackModel", "eat", "()I"⟩, 34), (⟨"NineInThePackModel", "areTwo", "(II)Z"⟩, 34), (⟨"NineInThePackModel", "farBetween", "(II)I"⟩, 34), (⟨"NineInThePackModel", "reachOn", "(I)I"⟩, 34), (⟨"NineInThePackModel", "isOpen", "(II)Z"⟩, 34), (⟨"NineInThePackModel", "hungryIn", "(I)I"⟩, 34), (⟨"NineInThePackModel", "hungryWithout", "(II)I"⟩, 34), (⟨"NineInThePackModel", "draw", "(I)I"⟩, 34), (⟨"NineInThePackModel", "sumOf", "([I)I"⟩, 34)]
theorem lw_r3 : ∀ q ∈ lw_privs_3, lw_okq q := List.forall_mem_cons.mpr ⟨lw_p32, List.forall_mem_cons.mpr ⟨lw_p33, List.forall_mem_cons.mpr ⟨lw_p34, List.forall_mem_cons.mpr ⟨lw_p35, List.forall_mem_cons.mpr ⟨lw_p36, List.forall_mem_cons.mpr ⟨lw_p37, List.forall_mem_cons.mpr ⟨lw_p38, List.forall_mem_cons.mpr ⟨lw_p39, List.forall_mem_cons.mpr ⟨lw_p40, List.forall_mem_cons.mpr ⟨lw_p41, List.forall_mem_cons.mpr ⟨lw_p42, List.forall_mem_cons.mpr ⟨lw_p43, List.forall_mem_cons.mpr ⟨lw_p44, List.forall_mem_cons.mpr ⟨lw_p45, List.forall_mem_cons.mpr ⟨lw_p46, List.forall_mem_cons.mpr ⟨lw_p47, fun _ h => absurd h List.not_mem_nil⟩⟩⟩⟩⟩⟩⟩⟩⟩⟩⟩⟩⟩⟩⟩⟩
theorem lw_p48 : lw_okq (⟨"NineInThePackModel", "openLeads", "()I"⟩, 34) := ⟨⟨by decide +kernel, by decide +kernel⟩, List.mem_of_getElem? (i := 643) (by decide +kernel), List.mem_of_getElem? (i := 1011) (by decide +kernel), List.mem_of_getElem? (i := 1012) (by decide +kernel)⟩
def lw_privs_4 : List (MethodName × Nat) := [(⟨"NineInThePackModel", "openLeads", "()I"⟩, 34)]
theorem lw_r4 : ∀ q ∈ lw_privs_4, lw_okq q := List.forall_mem_cons.mpr ⟨lw_p48, fun _ h => absurd h List.not_mem_nil⟩
def lw_privs : List (MethodName × Nat) := lw_privs_1 ++ (lw_privs_2 ++ (lw_privs_3 ++ (lw_privs_4)))
def lw_tbl : List Cond := k2_sels lw_privs ++ tables_1
theorem lw_privs_ok : ∀ q ∈ lw_privs, lw_okq q := by
  show ∀ q ∈ lw_privs_1 ++ (lw_privs_2 ++ (lw_privs_3 ++ (lw_privs_4))), lw_okq q
  exact List.forall_mem_append.mpr ⟨lw_r1, List.forall_mem_append.mpr ⟨lw_r2, List.forall_mem_append.mpr ⟨lw_r3, lw_r4⟩⟩⟩
def RX0 : String := "NineInThePack$Air"
def TX0 : u_T := fun k => match k with
  | 0 => ("NineInThePack$Air", "day", "I", false)
  | 1 => ("NineInThePack$Air", "east", "I", false)
  | 2 => ("NineInThePack$Air", "north", "I", false)
  | 3 => ("NineInThePack$Air", "lateEast", "I", false)
  | _ => ("NineInThePack$Air", "lateNorth", "I", false)
def tyX0 : Nat → FieldType := fun k => match k with
  | 0 => .int
  | 1 => .int
  | 2 => .int
  | 3 => .int
  | _ => .int
theorem nmX0 : ∀ a, a < 5 → ∀ b, b < 5 → a ≠ b → (TX0 a).2.1 ≠ (TX0 b).2.1 := by decide +kernel
theorem tyX0_ok : ∀ k, k < 5 → parseFieldDescriptor (TX0 k).2.2.1 = some (tyX0 k) := by decide +kernel
abbrev cX0_init : ByteArray := prog_2_method_1_code
def yX0_init : MethodName := ⟨RX0, "<init>", "()V"⟩
abbrev cX0_fallCalm : ByteArray := prog_2_method_2_code
def yX0_fallCalm : MethodName := ⟨RX0, "fallCalm", "()V"⟩
abbrev cX0_drawBy : ByteArray := prog_2_method_3_code
def yX0_drawBy : MethodName := ⟨RX0, "drawBy", "(LNineInThePack$Lot;I)V"⟩
def RX1 : String := "NineInThePack$Drift"
def TX1 : u_T := fun k => match k with
  | _ => ("", "", "", false)
def tyX1 : Nat → FieldType := fun k => match k with
  | _ => .int
theorem nmX1 : ∀ a, a < 0 → ∀ b, b < 0 → a ≠ b → (TX1 a).2.1 ≠ (TX1 b).2.1 := by decide +kernel
theorem tyX1_ok : ∀ k, k < 0 → parseFieldDescriptor (TX1 k).2.2.1 = some (tyX1 k) := by decide +kernel
abbrev cX1_init : ByteArray := prog_3_method_1_code
def yX1_init : MethodName := ⟨RX1, "<init>", "()V"⟩
abbrev cX1_eastward : ByteArray := prog_3_method_2_code
def yX1_eastward : MethodName := ⟨RX1, "eastward", "(LNineInThePack$Air;I)I"⟩
abbrev cX1_northward : ByteArray := prog_3_method_3_code
def yX1_northward : MethodName := ⟨RX1, "northward", "(LNineInThePack$Air;I)I"⟩
def RX2 : String := "NineInThePack$FastDrift"
def TX2 : u_T := fun k => match k with
  | _ => ("", "", "", false)
def tyX2 : Nat → FieldType := fun k => match k with
  | _ => .int
theorem nmX2 : ∀ a, a < 0 → ∀ b, b < 0 → a ≠ b → (TX2 a).2.1 ≠ (TX2 b).2.1 := by decide +kernel
theorem tyX2_ok : ∀ k, k < 0 → parseFieldDescriptor (TX2 k).2.2.1 = some (tyX2 k) := by decide +kernel
abbrev cX2_init : ByteArray := prog_4_method_1_code
def yX2_init : MethodName := ⟨RX2, "<init>", "()V"⟩
abbrev cX2_eastward : ByteArray := prog_4_method_2_code
def yX2_eastward : MethodName := ⟨RX2, "eastward", "(LNineInThePack$Air;I)I"⟩
abbrev cX2_sign : ByteArray := prog_4_method_3_code
def yX2_sign : MethodName := ⟨RX2, "sign", "(I)I"⟩
def RX3 : String := "NineInThePack$HeavyDrift"
def TX3 : u_T := fun k => match k with
  | _ => ("", "", "", false)
def tyX3 : Nat → FieldType := fun k => match k with
  | _ => .int
theorem nmX3 : ∀ a, a < 0 → ∀ b, b < 0 → a ≠ b → (TX3 a).2.1 ≠ (TX3 b).2.1 := by decide +kernel
theorem tyX3_ok : ∀ k, k < 0 → parseFieldDescriptor (TX3 k).2.2.1 = some (tyX3 k) := by decide +kernel
abbrev cX3_init : ByteArray := prog_5_method_1_code
def yX3_init : MethodName := ⟨RX3, "<init>", "()V"⟩
abbrev cX3_eastward : ByteArray := prog_5_method_2_code
def yX3_eastward : MethodName := ⟨RX3, "eastward", "(LNineInThePack$Air;I)I"⟩
abbrev cX3_northward : ByteArray := prog_5_method_3_code
def yX3_northward : MethodName := ⟨RX3, "northward", "(LNineInThePack$Air;I)I"⟩
def RX4 : String := "NineInThePack$Ice"
def TX4 : u_T := fun k => match k with
  | 0 => ("NineInThePack$Ice", "windEast", "[I", true)
  | 1 => ("NineInThePack$Ice", "windNorth", "[I", true)
  | 2 => ("NineInThePack$Ice", "ships", "[LNineInThePack$Ship;", true)
  | 3 => ("NineInThePack$Ice", "shipCount", "I", false)
  | 4 => ("NineInThePack$Ice", "day", "I", false)
  | 5 => ("NineInThePack$Ice", "reach", "I", false)
  | 6 => ("NineInThePack$Ice", "sight", "I", false)
  | _ => ("NineInThePack$Ice", "hunger", "I", false)
def tyX4 : Nat → FieldType := fun k => match k with
  | 0 => .array .int
  | 1 => .array .int
  | 2 => .array (.object "NineInThePack$Ship")
  | 3 => .int
  | 4 => .int
  | 5 => .int
  | 6 => .int
  | _ => .int
theorem nmX4 : ∀ a, a < 8 → ∀ b, b < 8 → a ≠ b → (TX4 a).2.1 ≠ (TX4 b).2.1 := by decide +kernel
theorem tyX4_ok : ∀ k, k < 8 → parseFieldDescriptor (TX4 k).2.2.1 = some (tyX4 k) := by decide +kernel
abbrev cX4_init : ByteArray := prog_6_method_1_code
def yX4_init : MethodName := ⟨RX4, "<init>", "()V"⟩
abbrev cX4_copyFrom : ByteArray := prog_6_method_2_code
def yX4_copyFrom : MethodName := ⟨RX4, "copyFrom", "(LNineInThePack$Ice;)V"⟩
abbrev cX4_has : ByteArray := prog_6_method_3_code
def yX4_has : MethodName := ⟨RX4, "has", "(I)Z"⟩
abbrev cX4_allShips : ByteArray := prog_6_method_4_code
def yX4_allShips : MethodName := ⟨RX4, "allShips", "()I"⟩
abbrev cX4_gapToPlace : ByteArray := prog_6_method_5_code
def yX4_gapToPlace : MethodName := ⟨RX4, "gapToPlace", "(III)I"⟩
abbrev cX4_gap : ByteArray := prog_6_method_6_code
def yX4_gap : MethodName := ⟨RX4, "gap", "(II)I"⟩
abbrev cX4_pairsWithin : ByteArray := prog_6_method_7_code
def yX4_pairsWithin : MethodName := ⟨RX4, "pairsWithin", "(I)I"⟩
abbrev cX4_isSeen : ByteArray := prog_6_method_8_code
def yX4_isSeen : MethodName := ⟨RX4, "isSeen", "(I)Z"⟩
abbrev cX4_oneLeadOn : ByteArray := prog_6_method_9_code
def yX4_oneLeadOn : MethodName := ⟨RX4, "oneLeadOn", "(I)I"⟩
abbrev cX4_groupOf : ByteArray := prog_6_method_10_code
def yX4_groupOf : MethodName := ⟨RX4, "groupOf", "(I)I"⟩
abbrev cX4_nearestTo : ByteArray := prog_6_method_11_code
def yX4_nearestTo : MethodName := ⟨RX4, "nearestTo", "(III)I"⟩
abbrev cX4_airOf : ByteArray := prog_6_method_12_code
def yX4_airOf : MethodName := ⟨RX4, "airOf", "(ILNineInThePack$Air;)V"⟩
abbrev cX4_passDay : ByteArray := prog_6_method_13_code
def yX4_passDay : MethodName := ⟨RX4, "passDay", "(LNineInThePack$Air;[LNineInThePack$Drift;)I"⟩
abbrev cX4_hungerToCome : ByteArray := prog_6_method_14_code
def yX4_hungerToCome : MethodName := ⟨RX4, "hungerToCome", "(I)I"⟩
abbrev cX4_giveUp : ByteArray := prog_6_method_15_code
def yX4_giveUp : MethodName := ⟨RX4, "giveUp", "(I)V"⟩
abbrev cX4_allBread : ByteArray := prog_6_method_16_code
def yX4_allBread : MethodName := ⟨RX4, "allBread", "()I"⟩
abbrev cX4_allCrews : ByteArray := prog_6_method_17_code
def yX4_allCrews : MethodName := ⟨RX4, "allCrews", "()I"⟩
def RX5 : String := "NineInThePack$LateDrift"
def TX5 : u_T := fun k => match k with
  | _ => ("", "", "", false)
def tyX5 : Nat → FieldType := fun k => match k with
  | _ => .int
theorem nmX5 : ∀ a, a < 0 → ∀ b, b < 0 → a ≠ b → (TX5 a).2.1 ≠ (TX5 b).2.1 := by decide +kernel
theorem tyX5_ok : ∀ k, k < 0 → parseFieldDescriptor (TX5 k).2.2.1 = some (tyX5 k) := by decide +kernel
abbrev cX5_init : ByteArray := prog_7_method_1_code
def yX5_init : MethodName := ⟨RX5, "<init>", "()V"⟩
abbrev cX5_eastward : ByteArray := prog_7_method_2_code
def yX5_eastward : MethodName := ⟨RX5, "eastward", "(LNineInThePack$Air;I)I"⟩
abbrev cX5_northward : ByteArray := prog_7_method_3_code
def yX5_northward : MethodName := ⟨RX5, "northward", "(LNineInThePack$Air;I)I"⟩
def RX6 : String := "NineInThePack$Letters"
def TX6 : u_T := fun k => match k with
  | 0 => ("NineInThePack$Letters", "signs", "[I", true)
  | 1 => ("NineInThePack$Letters", "size", "I", false)
  | 2 => ("NineInThePack$Letters", "at", "I", false)
  | _ => ("NineInThePack$Letters", "stuck", "Z", false)
def tyX6 : Nat → FieldType := fun k => match k with
  | 0 => .array .int
  | 1 => .int
  | 2 => .int
  | _ => .boolean
theorem nmX6 : ∀ a, a < 4 → ∀ b, b < 4 → a ≠ b → (TX6 a).2.1 ≠ (TX6 b).2.1 := by decide +kernel
theorem tyX6_ok : ∀ k, k < 4 → parseFieldDescriptor (TX6 k).2.2.1 = some (tyX6 k) := by decide +kernel
abbrev cX6_init : ByteArray := prog_8_method_1_code
def yX6_init : MethodName := ⟨RX6, "<init>", "()V"⟩
abbrev cX6_add : ByteArray := prog_8_method_2_code
def yX6_add : MethodName := ⟨RX6, "add", "(I)V"⟩
abbrev cX6_readInto : ByteArray := prog_8_method_3_code
def yX6_readInto : MethodName := ⟨RX6, "readInto", "(LNineInThePack$Ice;)I"⟩
abbrev cX6_readStatement : ByteArray := prog_8_method_4_code
def yX6_readStatement : MethodName := ⟨RX6, "readStatement", "(LNineInThePack$Ice;)Z"⟩
abbrev cX6_readShip : ByteArray := prog_8_method_5_code
def yX6_readShip : MethodName := ⟨RX6, "readShip", "(LNineInThePack$Ice;)Z"⟩
abbrev cX6_readWind : ByteArray := prog_8_method_6_code
def yX6_readWind : MethodName := ⟨RX6, "readWind", "(LNineInThePack$Ice;)Z"⟩
abbrev cX6_readReach : ByteArray := prog_8_method_7_code
def yX6_readReach : MethodName := ⟨RX6, "readReach", "(LNineInThePack$Ice;)Z"⟩
abbrev cX6_readSight : ByteArray := prog_8_method_8_code
def yX6_readSight : MethodName := ⟨RX6, "readSight", "(LNineInThePack$Ice;)Z"⟩
abbrev cX6_take : ByteArray := prog_8_method_9_code
def yX6_take : MethodName := ⟨RX6, "take", "(I)Z"⟩
abbrev cX6_need : ByteArray := prog_8_method_10_code
def yX6_need : MethodName := ⟨RX6, "need", "(I)V"⟩
abbrev cX6_readSigned : ByteArray := prog_8_method_11_code
def yX6_readSigned : MethodName := ⟨RX6, "readSigned", "(I)I"⟩
abbrev cX6_readNumber : ByteArray := prog_8_method_12_code
def yX6_readNumber : MethodName := ⟨RX6, "readNumber", "(I)I"⟩
abbrev cX6_isDigitNext : ByteArray := prog_8_method_13_code
def yX6_isDigitNext : MethodName := ⟨RX6, "isDigitNext", "()Z"⟩
def RX7 : String := "NineInThePack$Lot"
def TX7 : u_T := fun k => match k with
  | _ => ("NineInThePack$Lot", "z", "I", false)
def tyX7 : Nat → FieldType := fun k => match k with
  | _ => .int
theorem nmX7 : ∀ a, a < 1 → ∀ b, b < 1 → a ≠ b → (TX7 a).2.1 ≠ (TX7 b).2.1 := by decide +kernel
theorem tyX7_ok : ∀ k, k < 1 → parseFieldDescriptor (TX7 k).2.2.1 = some (tyX7 k) := by decide +kernel
abbrev cX7_init : ByteArray := prog_9_method_1_code
def yX7_init : MethodName := ⟨RX7, "<init>", "()V"⟩
abbrev cX7_drawBelow : ByteArray := prog_9_method_2_code
def yX7_drawBelow : MethodName := ⟨RX7, "drawBelow", "(I)I"⟩
def RX8 : String := "NineInThePack$Ship"
def TX8 : u_T := fun k => match k with
  | 0 => ("NineInThePack$Ship", "kind", "I", false)
  | 1 => ("NineInThePack$Ship", "figure", "I", false)
  | 2 => ("NineInThePack$Ship", "crew", "I", false)
  | 3 => ("NineInThePack$Ship", "bread", "I", false)
  | 4 => ("NineInThePack$Ship", "east", "I", false)
  | _ => ("NineInThePack$Ship", "north", "I", false)
def tyX8 : Nat → FieldType := fun k => match k with
  | 0 => .int
  | 1 => .int
  | 2 => .int
  | 3 => .int
  | 4 => .int
  | _ => .int
theorem nmX8 : ∀ a, a < 6 → ∀ b, b < 6 → a ≠ b → (TX8 a).2.1 ≠ (TX8 b).2.1 := by decide +kernel
theorem tyX8_ok : ∀ k, k < 6 → parseFieldDescriptor (TX8 k).2.2.1 = some (tyX8 k) := by decide +kernel
abbrev cX8_init : ByteArray := prog_10_method_1_code
def yX8_init : MethodName := ⟨RX8, "<init>", "()V"⟩
abbrev cX8_copyFrom : ByteArray := prog_10_method_2_code
def yX8_copyFrom : MethodName := ⟨RX8, "copyFrom", "(LNineInThePack$Ship;)V"⟩
abbrev cX8_driftBy : ByteArray := prog_10_method_3_code
def yX8_driftBy : MethodName := ⟨RX8, "driftBy", "(LNineInThePack$Air;LNineInThePack$Drift;)V"⟩
abbrev cX8_eat : ByteArray := prog_10_method_4_code
def yX8_eat : MethodName := ⟨RX8, "eat", "()I"⟩
def RX9 : String := "NineInThePack$SpunDrift"
def TX9 : u_T := fun k => match k with
  | _ => ("", "", "", false)
def tyX9 : Nat → FieldType := fun k => match k with
  | _ => .int
theorem nmX9 : ∀ a, a < 0 → ∀ b, b < 0 → a ≠ b → (TX9 a).2.1 ≠ (TX9 b).2.1 := by decide +kernel
theorem tyX9_ok : ∀ k, k < 0 → parseFieldDescriptor (TX9 k).2.2.1 = some (tyX9 k) := by decide +kernel
abbrev cX9_init : ByteArray := prog_11_method_1_code
def yX9_init : MethodName := ⟨RX9, "<init>", "()V"⟩
abbrev cX9_eastward : ByteArray := prog_11_method_2_code
def yX9_eastward : MethodName := ⟨RX9, "eastward", "(LNineInThePack$Air;I)I"⟩
abbrev cX9_northward : ByteArray := prog_11_method_3_code
def yX9_northward : MethodName := ⟨RX9, "northward", "(LNineInThePack$Air;I)I"⟩
abbrev cX9_way : ByteArray := prog_11_method_4_code
def yX9_way : MethodName := ⟨RX9, "way", "(II)I"⟩
def RX10 : String := "NineInThePack$TurnedDrift"
def TX10 : u_T := fun k => match k with
  | _ => ("", "", "", false)
def tyX10 : Nat → FieldType := fun k => match k with
  | _ => .int
theorem nmX10 : ∀ a, a < 0 → ∀ b, b < 0 → a ≠ b → (TX10 a).2.1 ≠ (TX10 b).2.1 := by decide +kernel
theorem tyX10_ok : ∀ k, k < 0 → parseFieldDescriptor (TX10 k).2.2.1 = some (tyX10 k) := by decide +kernel
abbrev cX10_init : ByteArray := prog_12_method_1_code
def yX10_init : MethodName := ⟨RX10, "<init>", "()V"⟩
abbrev cX10_eastward : ByteArray := prog_12_method_2_code
def yX10_eastward : MethodName := ⟨RX10, "eastward", "(LNineInThePack$Air;I)I"⟩
abbrev cX10_northward : ByteArray := prog_12_method_3_code
def yX10_northward : MethodName := ⟨RX10, "northward", "(LNineInThePack$Air;I)I"⟩
def RX11 : String := "NineInThePack"
def TX11 : u_T := fun k => match k with
  | 0 => ("NineInThePack", "drifts", "[LNineInThePack$Drift;", true)
  | 1 => ("NineInThePack", "air", "LNineInThePack$Air;", true)
  | 2 => ("NineInThePack", "lot", "LNineInThePack$Lot;", true)
  | 3 => ("NineInThePack", "now", "LNineInThePack$Ice;", true)
  | 4 => ("NineInThePack", "mind", "LNineInThePack$Ice;", true)
  | 5 => ("NineInThePack", "kept", "LNineInThePack$Ice;", true)
  | 6 => ("NineInThePack", "keptIsThere", "Z", false)
  | 7 => ("NineInThePack", "letters", "LNineInThePack$Letters;", true)
  | 8 => ("NineInThePack", "told", "[I", true)
  | 9 => ("NineInThePack", "toldCount", "I", false)
  | _ => ("NineInThePack", "refusals", "[I", true)
def tyX11 : Nat → FieldType := fun k => match k with
  | 0 => .array (.object "NineInThePack$Drift")
  | 1 => .object "NineInThePack$Air"
  | 2 => .object "NineInThePack$Lot"
  | 3 => .object "NineInThePack$Ice"
  | 4 => .object "NineInThePack$Ice"
  | 5 => .object "NineInThePack$Ice"
  | 6 => .boolean
  | 7 => .object "NineInThePack$Letters"
  | 8 => .array .int
  | 9 => .int
  | _ => .array .int
theorem nmX11 : ∀ a, a < 11 → ∀ b, b < 11 → a ≠ b → (TX11 a).2.1 ≠ (TX11 b).2.1 := by decide +kernel
theorem tyX11_ok : ∀ k, k < 11 → parseFieldDescriptor (TX11 k).2.2.1 = some (tyX11 k) := by decide +kernel
abbrev cX11_init : ByteArray := prog_1_method_1_code
def yX11_init : MethodName := ⟨RX11, "<init>", "()V"⟩
abbrev cX11_feed : ByteArray := prog_1_method_2_code
def yX11_feed : MethodName := ⟨RX11, "feed", "(I)I"⟩
abbrev cX11_pack : ByteArray := prog_1_method_3_code
def yX11_pack : MethodName := ⟨RX11, "pack", "()I"⟩
abbrev cX11_ship : ByteArray := prog_1_method_4_code
def yX11_ship : MethodName := ⟨RX11, "ship", "(II)I"⟩
abbrev cX11_wind : ByteArray := prog_1_method_5_code
def yX11_wind : MethodName := ⟨RX11, "wind", "(I)I"⟩
abbrev cX11_blow : ByteArray := prog_1_method_6_code
def yX11_blow : MethodName := ⟨RX11, "blow", "(III)I"⟩
abbrev cX11_set : ByteArray := prog_1_method_7_code
def yX11_set : MethodName := ⟨RX11, "set", "(II)I"⟩
abbrev cX11_go : ByteArray := prog_1_method_8_code
def yX11_go : MethodName := ⟨RX11, "go", "(I)I"⟩
abbrev cX11_far : ByteArray := prog_1_method_9_code
def yX11_far : MethodName := ⟨RX11, "far", "(II)I"⟩
abbrev cX11_open : ByteArray := prog_1_method_10_code
def yX11_open : MethodName := ⟨RX11, "open", "(III)I"⟩
abbrev cX11_behind : ByteArray := prog_1_method_11_code
def yX11_behind : MethodName := ⟨RX11, "behind", "(II)J"⟩
abbrev cX11_meet : ByteArray := prog_1_method_12_code
def yX11_meet : MethodName := ⟨RX11, "meet", "(II)I"⟩
abbrev cX11_nearest : ByteArray := prog_1_method_13_code
def yX11_nearest : MethodName := ⟨RX11, "nearest", "(IIII)I"⟩
abbrev cX11_there : ByteArray := prog_1_method_14_code
def yX11_there : MethodName := ⟨RX11, "there", "(II)I"⟩
abbrev cX11_back : ByteArray := prog_1_method_15_code
def yX11_back : MethodName := ⟨RX11, "back", "(II)I"⟩
abbrev cX11_news : ByteArray := prog_1_method_16_code
def yX11_news : MethodName := ⟨RX11, "news", "(I)I"⟩
abbrev cX11_know : ByteArray := prog_1_method_17_code
def yX11_know : MethodName := ⟨RX11, "know", "(II)I"⟩
abbrev cX11_lost : ByteArray := prog_1_method_18_code
def yX11_lost : MethodName := ⟨RX11, "lost", "()I"⟩
abbrev cX11_groups : ByteArray := prog_1_method_19_code
def yX11_groups : MethodName := ⟨RX11, "groups", "()I"⟩
abbrev cX11_hungry : ByteArray := prog_1_method_20_code
def yX11_hungry : MethodName := ⟨RX11, "hungry", "(I)I"⟩
abbrev cX11_lasts : ByteArray := prog_1_method_21_code
def yX11_lasts : MethodName := ⟨RX11, "lasts", "(I)I"⟩
abbrev cX11_share : ByteArray := prog_1_method_22_code
def yX11_share : MethodName := ⟨RX11, "share", "(II)I"⟩
abbrev cX11_givenUp : ByteArray := prog_1_method_23_code
def yX11_givenUp : MethodName := ⟨RX11, "givenUp", "(II)I"⟩
abbrev cX11_home : ByteArray := prog_1_method_24_code
def yX11_home : MethodName := ⟨RX11, "home", "(IIII)I"⟩
abbrev cX11_kinds : ByteArray := prog_1_method_25_code
def yX11_kinds : MethodName := ⟨RX11, "kinds", "(IIIII)I"⟩
abbrev cX11_row : ByteArray := prog_1_method_26_code
def yX11_row : MethodName := ⟨RX11, "row", "(I)I"⟩
abbrev cX11_judge : ByteArray := prog_1_method_27_code
def yX11_judge : MethodName := ⟨RX11, "judge", "(I)I"⟩
abbrev cX11_lots : ByteArray := prog_1_method_28_code
def yX11_lots : MethodName := ⟨RX11, "lots", "(III)I"⟩
abbrev cX11_image : ByteArray := prog_1_method_29_code
def yX11_image : MethodName := ⟨RX11, "image", "()I"⟩
abbrev cX11_restore : ByteArray := prog_1_method_30_code
def yX11_restore : MethodName := ⟨RX11, "restore", "()I"⟩
abbrev cX11_count : ByteArray := prog_1_method_31_code
def yX11_count : MethodName := ⟨RX11, "count", "(I)I"⟩
abbrev cX11_refuse : ByteArray := prog_1_method_32_code
def yX11_refuse : MethodName := ⟨RX11, "refuse", "(I)I"⟩
abbrev cX11_first : ByteArray := prog_1_method_33_code
def yX11_first : MethodName := ⟨RX11, "first", "(II)I"⟩
abbrev cX11_nobody : ByteArray := prog_1_method_34_code
def yX11_nobody : MethodName := ⟨RX11, "nobody", "(I)I"⟩
abbrev cX11_notTwo : ByteArray := prog_1_method_35_code
def yX11_notTwo : MethodName := ⟨RX11, "notTwo", "(II)I"⟩
abbrev cX11_otherThan : ByteArray := prog_1_method_36_code
def yX11_otherThan : MethodName := ⟨RX11, "otherThan", "(II)I"⟩
abbrev cX11_range : ByteArray := prog_1_method_37_code
def yX11_range : MethodName := ⟨RX11, "range", "(III)I"⟩
abbrev cX11_rangeOfTwo : ByteArray := prog_1_method_38_code
def yX11_rangeOfTwo : MethodName := ⟨RX11, "rangeOfTwo", "(IIII)I"⟩
abbrev cX11_belowFirst : ByteArray := prog_1_method_39_code
def yX11_belowFirst : MethodName := ⟨RX11, "belowFirst", "(II)I"⟩
abbrev cX11_isOfWeek : ByteArray := prog_1_method_40_code
def yX11_isOfWeek : MethodName := ⟨RX11, "isOfWeek", "(I)Z"⟩
abbrev cX11_toldWind : ByteArray := prog_1_method_41_code
def yX11_toldWind : MethodName := ⟨RX11, "toldWind", "(I)I"⟩
abbrev cX11_driftToday : ByteArray := prog_1_method_42_code
def yX11_driftToday : MethodName := ⟨RX11, "driftToday", "(LNineInThePack$Ship;Z)I"⟩
abbrev cX11_dayOf : ByteArray := prog_1_method_43_code
def yX11_dayOf : MethodName := ⟨RX11, "dayOf", "(LNineInThePack$Ice;)I"⟩
abbrev cX11_daysUntil : ByteArray := prog_1_method_44_code
def yX11_daysUntil : MethodName := ⟨RX11, "daysUntil", "(III)I"⟩
abbrev cX11_deal : ByteArray := prog_1_method_45_code
def yX11_deal : MethodName := ⟨RX11, "deal", "(LNineInThePack$Ship;LNineInThePack$Ship;)V"⟩
abbrev cX11_hungerWithout : ByteArray := prog_1_method_46_code
def yX11_hungerWithout : MethodName := ⟨RX11, "hungerWithout", "(II)I"⟩
abbrev cX11_wouldBeAt : ByteArray := prog_1_method_47_code
def yX11_wouldBeAt : MethodName := ⟨RX11, "wouldBeAt", "(LNineInThePack$Ship;LNineInThePack$Drift;IIII)Z"⟩
abbrev cX11_firstUntrue : ByteArray := prog_1_method_48_code
def yX11_firstUntrue : MethodName := ⟨RX11, "firstUntrue", "(I)I"⟩
def RX12 : String := "NineInThePackModel"
def TX12 : u_T := fun k => match k with
  | 0 => ("NineInThePackModel", "ships", "I", false)
  | 1 => ("NineInThePackModel", "reach", "I", false)
  | 2 => ("NineInThePackModel", "sight", "I", false)
  | 3 => ("NineInThePackModel", "days", "I", false)
  | 4 => ("NineInThePackModel", "hunger", "I", false)
  | 5 => ("NineInThePackModel", "windEast", "[I", true)
  | 6 => ("NineInThePackModel", "windNorth", "[I", true)
  | 7 => ("NineInThePackModel", "kinds", "[I", true)
  | 8 => ("NineInThePackModel", "figures", "[I", true)
  | 9 => ("NineInThePackModel", "crews", "[I", true)
  | 10 => ("NineInThePackModel", "breads", "[I", true)
  | 11 => ("NineInThePackModel", "easts", "[I", true)
  | 12 => ("NineInThePackModel", "norths", "[I", true)
  | 13 => ("NineInThePackModel", "thrown", "I", false)
  | 14 => ("NineInThePackModel", "refusals", "[I", true)
  | 15 => ("NineInThePackModel", "driftEast", "I", false)
  | 16 => ("NineInThePackModel", "driftNorth", "I", false)
  | 17 => ("NineInThePackModel", "kept", "[I", true)
  | 18 => ("NineInThePackModel", "imaged", "[I", true)
  | 19 => ("NineInThePackModel", "hasImage", "Z", false)
  | 20 => ("NineInThePackModel", "place", "I", false)
  | 21 => ("NineInThePackModel", "isTaking", "Z", false)
  | 22 => ("NineInThePackModel", "keptIn", "[I", false)
  | 23 => ("NineInThePackModel", "letters", "[I", true)
  | 24 => ("NineInThePackModel", "letterMany", "I", false)
  | 25 => ("NineInThePackModel", "at", "I", false)
  | 26 => ("NineInThePackModel", "isBad", "Z", false)
  | 27 => ("NineInThePackModel", "statements", "I", false)
  | 28 => ("NineInThePackModel", "placeOf", "[I", true)
  | 29 => ("NineInThePackModel", "letterOf", "[I", true)
  | 30 => ("NineInThePackModel", "told", "[I", true)
  | 31 => ("NineInThePackModel", "row", "[I", true)
  | 32 => ("NineInThePackModel", "rowMany", "I", false)
  | _ => ("NineInThePackModel", "seed", "I", false)
def tyX12 : Nat → FieldType := fun k => match k with
  | 0 => .int
  | 1 => .int
  | 2 => .int
  | 3 => .int
  | 4 => .int
  | 5 => .array .int
  | 6 => .array .int
  | 7 => .array .int
  | 8 => .array .int
  | 9 => .array .int
  | 10 => .array .int
  | 11 => .array .int
  | 12 => .array .int
  | 13 => .int
  | 14 => .array .int
  | 15 => .int
  | 16 => .int
  | 17 => .array .int
  | 18 => .array .int
  | 19 => .boolean
  | 20 => .int
  | 21 => .boolean
  | 22 => .array .int
  | 23 => .array .int
  | 24 => .int
  | 25 => .int
  | 26 => .boolean
  | 27 => .int
  | 28 => .array .int
  | 29 => .array .int
  | 30 => .array .int
  | 31 => .array .int
  | 32 => .int
  | _ => .int
theorem nmX12 : ∀ a, a < 34 → ∀ b, b < 34 → a ≠ b → (TX12 a).2.1 ≠ (TX12 b).2.1 := by decide +kernel
theorem tyX12_ok : ∀ k, k < 34 → parseFieldDescriptor (TX12 k).2.2.1 = some (tyX12 k) := by decide +kernel
abbrev cX12_init : ByteArray := prog_14_method_1_code
def yX12_init : MethodName := ⟨RX12, "<init>", "()V"⟩
abbrev cX12_in : ByteArray := prog_14_method_3_code
def yX12_in : MethodName := ⟨RX12, "in", "(JJJ)Z"⟩
abbrev cX12_refuse : ByteArray := prog_14_method_4_code
def yX12_refuse : MethodName := ⟨RX12, "refuse", "(I)I"⟩
abbrev cX12_isShip : ByteArray := prog_14_method_5_code
def yX12_isShip : MethodName := ⟨RX12, "isShip", "(I)Z"⟩
abbrev cX12_areTwo : ByteArray := prog_14_method_6_code
def yX12_areTwo : MethodName := ⟨RX12, "areTwo", "(II)Z"⟩
abbrev cX12_driftBy : ByteArray := prog_14_method_7_code
def yX12_driftBy : MethodName := ⟨RX12, "driftBy", "(IIIIII)V"⟩
abbrev cX12_driftToday : ByteArray := prog_14_method_8_code
def yX12_driftToday : MethodName := ⟨RX12, "driftToday", "(II)V"⟩
abbrev cX12_driftAll : ByteArray := prog_14_method_9_code
def yX12_driftAll : MethodName := ⟨RX12, "driftAll", "()V"⟩
abbrev cX12_eat : ByteArray := prog_14_method_10_code
def yX12_eat : MethodName := ⟨RX12, "eat", "()I"⟩
abbrev cX12_daysOn : ByteArray := prog_14_method_11_code
def yX12_daysOn : MethodName := ⟨RX12, "daysOn", "(I)I"⟩
abbrev cX12_apart : ByteArray := prog_14_method_12_code
def yX12_apart : MethodName := ⟨RX12, "apart", "(II)I"⟩
abbrev cX12_farBetween : ByteArray := prog_14_method_13_code
def yX12_farBetween : MethodName := ⟨RX12, "farBetween", "(II)I"⟩
abbrev cX12_isOpen : ByteArray := prog_14_method_14_code
def yX12_isOpen : MethodName := ⟨RX12, "isOpen", "(II)Z"⟩
abbrev cX12_carry : ByteArray := prog_14_method_15_code
def yX12_carry : MethodName := ⟨RX12, "carry", "(I)I"⟩
abbrev cX12_carryAll : ByteArray := prog_14_method_16_code
def yX12_carryAll : MethodName := ⟨RX12, "carryAll", "([IZ)V"⟩
abbrev cX12_open0 : ByteArray := prog_14_method_17_code
def yX12_open0 : MethodName := ⟨RX12, "open0", "()V"⟩
abbrev cX12_close : ByteArray := prog_14_method_18_code
def yX12_close : MethodName := ⟨RX12, "close", "()V"⟩
abbrev cX12_image : ByteArray := prog_14_method_19_code
def yX12_image : MethodName := ⟨RX12, "image", "()I"⟩
abbrev cX12_restore : ByteArray := prog_14_method_20_code
def yX12_restore : MethodName := ⟨RX12, "restore", "()I"⟩
abbrev cX12_feed : ByteArray := prog_14_method_21_code
def yX12_feed : MethodName := ⟨RX12, "feed", "(I)I"⟩
abbrev cX12_here : ByteArray := prog_14_method_22_code
def yX12_here : MethodName := ⟨RX12, "here", "()I"⟩
abbrev cX12_readDigit : ByteArray := prog_14_method_23_code
def yX12_readDigit : MethodName := ⟨RX12, "readDigit", "()I"⟩
abbrev cX12_readNumber : ByteArray := prog_14_method_24_code
def yX12_readNumber : MethodName := ⟨RX12, "readNumber", "(I)I"⟩
abbrev cX12_readSigned : ByteArray := prog_14_method_25_code
def yX12_readSigned : MethodName := ⟨RX12, "readSigned", "(I)I"⟩
abbrev cX12_readComma : ByteArray := prog_14_method_26_code
def yX12_readComma : MethodName := ⟨RX12, "readComma", "()V"⟩
abbrev cX12_readStatement : ByteArray := prog_14_method_27_code
def yX12_readStatement : MethodName := ⟨RX12, "readStatement", "()V"⟩
abbrev cX12_shipComes : ByteArray := prog_14_method_28_code
def yX12_shipComes : MethodName := ⟨RX12, "shipComes", "(I)Z"⟩
abbrev cX12_comes : ByteArray := prog_14_method_29_code
def yX12_comes : MethodName := ⟨RX12, "comes", "(I)Z"⟩
abbrev cX12_pack : ByteArray := prog_14_method_30_code
def yX12_pack : MethodName := ⟨RX12, "pack", "()I"⟩
abbrev cX12_ship : ByteArray := prog_14_method_31_code
def yX12_ship : MethodName := ⟨RX12, "ship", "(II)I"⟩
abbrev cX12_windTold : ByteArray := prog_14_method_32_code
def yX12_windTold : MethodName := ⟨RX12, "windTold", "(I)I"⟩
abbrev cX12_wind : ByteArray := prog_14_method_33_code
def yX12_wind : MethodName := ⟨RX12, "wind", "(I)I"⟩
abbrev cX12_blow : ByteArray := prog_14_method_34_code
def yX12_blow : MethodName := ⟨RX12, "blow", "(III)I"⟩
abbrev cX12_set : ByteArray := prog_14_method_35_code
def yX12_set : MethodName := ⟨RX12, "set", "(II)I"⟩
abbrev cX12_go : ByteArray := prog_14_method_36_code
def yX12_go : MethodName := ⟨RX12, "go", "(I)I"⟩
abbrev cX12_far : ByteArray := prog_14_method_37_code
def yX12_far : MethodName := ⟨RX12, "far", "(II)I"⟩
abbrev cX12_open : ByteArray := prog_14_method_38_code
def yX12_open : MethodName := ⟨RX12, "open", "(III)I"⟩
abbrev cX12_wrongDays : ByteArray := prog_14_method_39_code
def yX12_wrongDays : MethodName := ⟨RX12, "wrongDays", "(II)I"⟩
abbrev cX12_behind : ByteArray := prog_14_method_40_code
def yX12_behind : MethodName := ⟨RX12, "behind", "(II)J"⟩
abbrev cX12_meet : ByteArray := prog_14_method_41_code
def yX12_meet : MethodName := ⟨RX12, "meet", "(II)I"⟩
abbrev cX12_nearest : ByteArray := prog_14_method_42_code
def yX12_nearest : MethodName := ⟨RX12, "nearest", "(IIII)I"⟩
abbrev cX12_reachOn : ByteArray := prog_14_method_43_code
def yX12_reachOn : MethodName := ⟨RX12, "reachOn", "(I)I"⟩
abbrev cX12_there : ByteArray := prog_14_method_44_code
def yX12_there : MethodName := ⟨RX12, "there", "(II)I"⟩
abbrev cX12_back : ByteArray := prog_14_method_45_code
def yX12_back : MethodName := ⟨RX12, "back", "(II)I"⟩
abbrev cX12_news : ByteArray := prog_14_method_46_code
def yX12_news : MethodName := ⟨RX12, "news", "(I)I"⟩
abbrev cX12_know : ByteArray := prog_14_method_47_code
def yX12_know : MethodName := ⟨RX12, "know", "(II)I"⟩
abbrev cX12_lost : ByteArray := prog_14_method_48_code
def yX12_lost : MethodName := ⟨RX12, "lost", "()I"⟩
abbrev cX12_groups : ByteArray := prog_14_method_49_code
def yX12_groups : MethodName := ⟨RX12, "groups", "()I"⟩
abbrev cX12_hungryIn : ByteArray := prog_14_method_50_code
def yX12_hungryIn : MethodName := ⟨RX12, "hungryIn", "(I)I"⟩
abbrev cX12_hungry : ByteArray := prog_14_method_51_code
def yX12_hungry : MethodName := ⟨RX12, "hungry", "(I)I"⟩
abbrev cX12_lasts : ByteArray := prog_14_method_52_code
def yX12_lasts : MethodName := ⟨RX12, "lasts", "(I)I"⟩
abbrev cX12_held : ByteArray := prog_14_method_53_code
def yX12_held : MethodName := ⟨RX12, "held", "(II)I"⟩
abbrev cX12_share : ByteArray := prog_14_method_54_code
def yX12_share : MethodName := ⟨RX12, "share", "(II)I"⟩
abbrev cX12_hungryWithout : ByteArray := prog_14_method_55_code
def yX12_hungryWithout : MethodName := ⟨RX12, "hungryWithout", "(II)I"⟩
abbrev cX12_givenUp : ByteArray := prog_14_method_56_code
def yX12_givenUp : MethodName := ⟨RX12, "givenUp", "(II)I"⟩
abbrev cX12_home : ByteArray := prog_14_method_57_code
def yX12_home : MethodName := ⟨RX12, "home", "(IIII)I"⟩
abbrev cX12_kinds : ByteArray := prog_14_method_58_code
def yX12_kinds : MethodName := ⟨RX12, "kinds", "(IIIII)I"⟩
abbrev cX12_row : ByteArray := prog_14_method_59_code
def yX12_row : MethodName := ⟨RX12, "row", "(I)I"⟩
abbrev cX12_judge : ByteArray := prog_14_method_60_code
def yX12_judge : MethodName := ⟨RX12, "judge", "(I)I"⟩
abbrev cX12_draw : ByteArray := prog_14_method_61_code
def yX12_draw : MethodName := ⟨RX12, "draw", "(I)I"⟩
abbrev cX12_lots : ByteArray := prog_14_method_62_code
def yX12_lots : MethodName := ⟨RX12, "lots", "(III)I"⟩
abbrev cX12_sumOf : ByteArray := prog_14_method_63_code
def yX12_sumOf : MethodName := ⟨RX12, "sumOf", "([I)I"⟩
abbrev cX12_openLeads : ByteArray := prog_14_method_64_code
def yX12_openLeads : MethodName := ⟨RX12, "openLeads", "()I"⟩
abbrev cX12_count : ByteArray := prog_14_method_65_code
def yX12_count : MethodName := ⟨RX12, "count", "(I)I"⟩
def RJ9 : String := "java/lang/Math"
def TJ9 : u_T := fun k => match k with
  | _ => ("", "", "", false)
def tyJ9 : Nat → FieldType := fun k => match k with
  | _ => .int
theorem nmJ9 : ∀ a, a < 0 → ∀ b, b < 0 → a ≠ b → (TJ9 a).2.1 ≠ (TJ9 b).2.1 := by decide +kernel
theorem tyJ9_ok : ∀ k, k < 0 → parseFieldDescriptor (TJ9 k).2.2.1 = some (tyJ9 k) := by decide +kernel
abbrev cJ9_floorMod_7cf53 : ByteArray := prog_15_method_50_code
def yJ9_floorMod_7cf53 : MethodName := ⟨RJ9, "floorMod", "(II)I"⟩
abbrev cJ9_abs_0f7a4 : ByteArray := prog_15_method_59_code
def yJ9_abs_0f7a4 : MethodName := ⟨RJ9, "abs", "(I)I"⟩
abbrev cJ9_max_7cf53 : ByteArray := prog_15_method_65_code
def yJ9_max_7cf53 : MethodName := ⟨RJ9, "max", "(II)I"⟩
abbrev cJ9_min_7cf53 : ByteArray := prog_15_method_69_code
def yJ9_min_7cf53 : MethodName := ⟨RJ9, "min", "(II)I"⟩
def RL : String := "NineInThePackLaw"
abbrev cL_law : ByteArray := code
def yL_law : MethodName := ⟨RL, "law", "([I)Z"⟩
abbrev vwCl : List vw_C := [(RX0, TX0, 5), (RX1, TX1, 0), (RX2, TX2, 0), (RX3, TX3, 0), (RX4, TX4, 8), (RX5, TX5, 0), (RX6, TX6, 4), (RX7, TX7, 1), (RX8, TX8, 6), (RX9, TX9, 0), (RX10, TX10, 0), (RX11, TX11, 11), (RX12, TX12, 34)]
/-- the words that a callee may ask of its caller -/
def gn_tbl : List Cond := lw_tbl.filter goodWord
theorem gn_mem {w : Cond} (i : Nat) (h : lw_tbl[i]? = some w) (hg : goodWord w = true) : w ∈ gn_tbl := List.mem_filter.mpr ⟨List.mem_of_getElem? h, hg⟩
theorem gn_sub : ∀ w ∈ gn_tbl, w ∈ lw_tbl := fun w h => (List.mem_filter.mp h).1
theorem gn_good : ∀ w ∈ gn_tbl, (w.onTables && w.keeps) = true ∨ ∃ ty, w = .arrayClass ty := fun w h => good_of_word (List.mem_filter.mp h).2
set_option maxRecDepth 20000 in
theorem gn_inX0 : ∀ w ∈ u_ws RX0 TX0 5, w ∈ gn_tbl := by
  have h : u_ws RX0 TX0 5 = ([137, 139, 141, 143, 145] : List Nat).filterMap (fun i => lw_tbl[i]?) := by decide +kernel
  have hg : (u_ws RX0 TX0 5).all goodWord = true := by decide +kernel
  intro w hw
  have h2 := List.all_eq_true.mp hg w hw
  rw [h] at hw
  obtain ⟨i, -, hi⟩ := List.mem_filterMap.mp hw
  exact gn_mem i hi h2
set_option maxRecDepth 20000 in
theorem gn_inX1 : ∀ w ∈ u_ws RX1 TX1 0, w ∈ gn_tbl := by
  have h : u_ws RX1 TX1 0 = ([] : List Nat).filterMap (fun i => lw_tbl[i]?) := by decide +kernel
  have hg : (u_ws RX1 TX1 0).all goodWord = true := by decide +kernel
  intro w hw
  have h2 := List.all_eq_true.mp hg w hw
  rw [h] at hw
  obtain ⟨i, -, hi⟩ := List.mem_filterMap.mp hw
  exact gn_mem i hi h2
set_option maxRecDepth 20000 in
theorem gn_inX2 : ∀ w ∈ u_ws RX2 TX2 0, w ∈ gn_tbl := by
  have h : u_ws RX2 TX2 0 = ([] : List Nat).filterMap (fun i => lw_tbl[i]?) := by decide +kernel
  have hg : (u_ws RX2 TX2 0).all goodWord = true := by decide +kernel
  intro w hw
  have h2 := List.all_eq_true.mp hg w hw
  rw [h] at hw
  obtain ⟨i, -, hi⟩ := List.mem_filterMap.mp hw
  exact gn_mem i hi h2
set_option maxRecDepth 20000 in
theorem gn_inX3 : ∀ w ∈ u_ws RX3 TX3 0, w ∈ gn_tbl := by
  have h : u_ws RX3 TX3 0 = ([] : List Nat).filterMap (fun i => lw_tbl[i]?) := by decide +kernel
  have hg : (u_ws RX3 TX3 0).all goodWord = true := by decide +kernel
  intro w hw
  have h2 := List.all_eq_true.mp hg w hw
  rw [h] at hw
  obtain ⟨i, -, hi⟩ := List.mem_filterMap.mp hw
  exact gn_mem i hi h2
set_option maxRecDepth 20000 in
theorem gn_inX4 : ∀ w ∈ u_ws RX4 TX4 8, w ∈ gn_tbl := by
  have h : u_ws RX4 TX4 8 = ([231, 233, 235, 237, 239, 241, 243, 245] : List Nat).filterMap (fun i => lw_tbl[i]?) := by decide +kernel
  have hg : (u_ws RX4 TX4 8).all goodWord = true := by decide +kernel
  intro w hw
  have h2 := List.all_eq_true.mp hg w hw
  rw [h] at hw
  obtain ⟨i, -, hi⟩ := List.mem_filterMap.mp hw
  exact gn_mem i hi h2
set_option maxRecDepth 20000 in
theorem gn_inX5 : ∀ w ∈ u_ws RX5 TX5 0, w ∈ gn_tbl := by
  have h : u_ws RX5 TX5 0 = ([] : List Nat).filterMap (fun i => lw_tbl[i]?) := by decide +kernel
  have hg : (u_ws RX5 TX5 0).all goodWord = true := by decide +kernel
  intro w hw
  have h2 := List.all_eq_true.mp hg w hw
  rw [h] at hw
  obtain ⟨i, -, hi⟩ := List.mem_filterMap.mp hw
  exact gn_mem i hi h2
set_option maxRecDepth 20000 in
theorem gn_inX6 : ∀ w ∈ u_ws RX6 TX6 4, w ∈ gn_tbl := by
  have h : u_ws RX6 TX6 4 = ([259, 261, 263, 265] : List Nat).filterMap (fun i => lw_tbl[i]?) := by decide +kernel
  have hg : (u_ws RX6 TX6 4).all goodWord = true := by decide +kernel
  intro w hw
  have h2 := List.all_eq_true.mp hg w hw
  rw [h] at hw
  obtain ⟨i, -, hi⟩ := List.mem_filterMap.mp hw
  exact gn_mem i hi h2
set_option maxRecDepth 20000 in
theorem gn_inX7 : ∀ w ∈ u_ws RX7 TX7 1, w ∈ gn_tbl := by
  have h : u_ws RX7 TX7 1 = ([156] : List Nat).filterMap (fun i => lw_tbl[i]?) := by decide +kernel
  have hg : (u_ws RX7 TX7 1).all goodWord = true := by decide +kernel
  intro w hw
  have h2 := List.all_eq_true.mp hg w hw
  rw [h] at hw
  obtain ⟨i, -, hi⟩ := List.mem_filterMap.mp hw
  exact gn_mem i hi h2
set_option maxRecDepth 20000 in
theorem gn_inX8 : ∀ w ∈ u_ws RX8 TX8 6, w ∈ gn_tbl := by
  have h : u_ws RX8 TX8 6 = ([195, 197, 199, 201, 203, 205] : List Nat).filterMap (fun i => lw_tbl[i]?) := by decide +kernel
  have hg : (u_ws RX8 TX8 6).all goodWord = true := by decide +kernel
  intro w hw
  have h2 := List.all_eq_true.mp hg w hw
  rw [h] at hw
  obtain ⟨i, -, hi⟩ := List.mem_filterMap.mp hw
  exact gn_mem i hi h2
set_option maxRecDepth 20000 in
theorem gn_inX9 : ∀ w ∈ u_ws RX9 TX9 0, w ∈ gn_tbl := by
  have h : u_ws RX9 TX9 0 = ([] : List Nat).filterMap (fun i => lw_tbl[i]?) := by decide +kernel
  have hg : (u_ws RX9 TX9 0).all goodWord = true := by decide +kernel
  intro w hw
  have h2 := List.all_eq_true.mp hg w hw
  rw [h] at hw
  obtain ⟨i, -, hi⟩ := List.mem_filterMap.mp hw
  exact gn_mem i hi h2
set_option maxRecDepth 20000 in
theorem gn_inX10 : ∀ w ∈ u_ws RX10 TX10 0, w ∈ gn_tbl := by
  have h : u_ws RX10 TX10 0 = ([] : List Nat).filterMap (fun i => lw_tbl[i]?) := by decide +kernel
  have hg : (u_ws RX10 TX10 0).all goodWord = true := by decide +kernel
  intro w hw
  have h2 := List.all_eq_true.mp hg w hw
  rw [h] at hw
  obtain ⟨i, -, hi⟩ := List.mem_filterMap.mp hw
  exact gn_mem i hi h2
set_option maxRecDepth 20000 in
theorem gn_inX11 : ∀ w ∈ u_ws RX11 TX11 11, w ∈ gn_tbl := by
  have h : u_ws RX11 TX11 11 = ([279, 281, 283, 285, 287, 289, 291, 293, 295, 297, 299] : List Nat).filterMap (fun i => lw_tbl[i]?) := by decide +kernel
  have hg : (u_ws RX11 TX11 11).all goodWord = true := by decide +kernel
  intro w hw
  have h2 := List.all_eq_true.mp hg w hw
  rw [h] at hw
  obtain ⟨i, -, hi⟩ := List.mem_filterMap.mp hw
  exact gn_mem i hi h2
set_option maxRecDepth 20000 in
theorem gn_inX12 : ∀ w ∈ u_ws RX12 TX12 34, w ∈ gn_tbl := by
  have h : u_ws RX12 TX12 34 = ([731, 733, 735, 737, 739, 741, 743, 745, 747, 749, 751, 753, 755, 757, 759, 761, 763, 765, 767, 769, 771, 773, 775, 777, 779, 781, 783, 785, 787, 789, 791, 793, 795, 797] : List Nat).filterMap (fun i => lw_tbl[i]?) := by decide +kernel
  have hg : (u_ws RX12 TX12 34).all goodWord = true := by decide +kernel
  intro w hw
  have h2 := List.all_eq_true.mp hg w hw
  rw [h] at hw
  obtain ⟨i, -, hi⟩ := List.mem_filterMap.mp hw
  exact gn_mem i hi h2
end
section
theorem dX0_init_0 : decode cX0_init 0 = .ok (.aload_n 0, 1) := by decide +kernel
theorem dX0_init_1 : decode cX0_init 1 = .ok (.invokespecial 3, 3) := by decide +kernel
theorem dX0_init_4 : decode cX0_init 4 = .ok (.return_, 1) := by decide +kernel
theorem dX0_fallCalm_0 : decode cX0_fallCalm 0 = .ok (.aload_n 0, 1) := by decide +kernel
theorem dX0_fallCalm_1 : decode cX0_fallCalm 1 = .ok (.iconst 0, 1) := by decide +kernel
theorem dX0_fallCalm_2 : decode cX0_fallCalm 2 = .ok (.putfield 9, 3) := by decide +kernel
theorem dX0_fallCalm_5 : decode cX0_fallCalm 5 = .ok (.aload_n 0, 1) := by decide +kernel
theorem dX0_fallCalm_6 : decode cX0_fallCalm 6 = .ok (.iconst 0, 1) := by decide +kernel
theorem dX0_fallCalm_7 : decode cX0_fallCalm 7 = .ok (.putfield 15, 3) := by decide +kernel
theorem dX0_fallCalm_10 : decode cX0_fallCalm 10 = .ok (.return_, 1) := by decide +kernel
theorem dX0_drawBy_0 : decode cX0_drawBy 0 = .ok (.aload_n 0, 1) := by decide +kernel
theorem dX0_drawBy_1 : decode cX0_drawBy 1 = .ok (.iload_n 2, 1) := by decide +kernel
theorem dX0_drawBy_2 : decode cX0_drawBy 2 = .ok (.putfield 18, 3) := by decide +kernel
theorem dX0_drawBy_5 : decode cX0_drawBy 5 = .ok (.aload_n 0, 1) := by decide +kernel
theorem dX0_drawBy_6 : decode cX0_drawBy 6 = .ok (.aload_n 0, 1) := by decide +kernel
theorem dX0_drawBy_7 : decode cX0_drawBy 7 = .ok (.getfield 9, 3) := by decide +kernel
theorem dX0_drawBy_10 : decode cX0_drawBy 10 = .ok (.putfield 21, 3) := by decide +kernel
theorem dX0_drawBy_13 : decode cX0_drawBy 13 = .ok (.aload_n 0, 1) := by decide +kernel
theorem dX0_drawBy_14 : decode cX0_drawBy 14 = .ok (.aload_n 0, 1) := by decide +kernel
theorem dX0_drawBy_15 : decode cX0_drawBy 15 = .ok (.getfield 15, 3) := by decide +kernel
theorem dX0_drawBy_18 : decode cX0_drawBy 18 = .ok (.putfield 24, 3) := by decide +kernel
theorem dX0_drawBy_21 : decode cX0_drawBy 21 = .ok (.aload_n 0, 1) := by decide +kernel
theorem dX0_drawBy_22 : decode cX0_drawBy 22 = .ok (.aload_n 1, 1) := by decide +kernel
theorem dX0_drawBy_23 : decode cX0_drawBy 23 = .ok (.bipush 9, 2) := by decide +kernel
theorem dX0_drawBy_25 : decode cX0_drawBy 25 = .ok (.invokevirtual 27, 3) := by decide +kernel
theorem dX0_drawBy_28 : decode cX0_drawBy 28 = .ok (.iconst 4, 1) := by decide +kernel
theorem dX0_drawBy_29 : decode cX0_drawBy 29 = .ok (.isub, 1) := by decide +kernel
theorem dX0_drawBy_30 : decode cX0_drawBy 30 = .ok (.putfield 9, 3) := by decide +kernel
theorem dX0_drawBy_33 : decode cX0_drawBy 33 = .ok (.aload_n 0, 1) := by decide +kernel
theorem dX0_drawBy_34 : decode cX0_drawBy 34 = .ok (.aload_n 1, 1) := by decide +kernel
theorem dX0_drawBy_35 : decode cX0_drawBy 35 = .ok (.bipush 9, 2) := by decide +kernel
theorem dX0_drawBy_37 : decode cX0_drawBy 37 = .ok (.invokevirtual 27, 3) := by decide +kernel
theorem dX0_drawBy_40 : decode cX0_drawBy 40 = .ok (.iconst 4, 1) := by decide +kernel
theorem dX0_drawBy_41 : decode cX0_drawBy 41 = .ok (.isub, 1) := by decide +kernel
theorem dX0_drawBy_42 : decode cX0_drawBy 42 = .ok (.putfield 15, 3) := by decide +kernel
theorem dX0_drawBy_45 : decode cX0_drawBy 45 = .ok (.return_, 1) := by decide +kernel
theorem dX1_init_0 : decode cX1_init 0 = .ok (.aload_n 0, 1) := by decide +kernel
theorem dX1_init_1 : decode cX1_init 1 = .ok (.invokespecial 1, 3) := by decide +kernel
theorem dX1_init_4 : decode cX1_init 4 = .ok (.return_, 1) := by decide +kernel
theorem dX1_eastward_0 : decode cX1_eastward 0 = .ok (.aload_n 1, 1) := by decide +kernel
theorem dX1_eastward_1 : decode cX1_eastward 1 = .ok (.getfield 7, 3) := by decide +kernel
theorem dX1_eastward_4 : decode cX1_eastward 4 = .ok (.ireturn, 1) := by decide +kernel
theorem dX1_northward_0 : decode cX1_northward 0 = .ok (.aload_n 1, 1) := by decide +kernel
theorem dX1_northward_1 : decode cX1_northward 1 = .ok (.getfield 13, 3) := by decide +kernel
theorem dX1_northward_4 : decode cX1_northward 4 = .ok (.ireturn, 1) := by decide +kernel
theorem dX2_init_0 : decode cX2_init 0 = .ok (.aload_n 0, 1) := by decide +kernel
theorem dX2_init_1 : decode cX2_init 1 = .ok (.invokespecial 1, 3) := by decide +kernel
theorem dX2_init_4 : decode cX2_init 4 = .ok (.return_, 1) := by decide +kernel
theorem dX2_eastward_0 : decode cX2_eastward 0 = .ok (.aload_n 0, 1) := by decide +kernel
theorem dX2_eastward_1 : decode cX2_eastward 1 = .ok (.aload_n 1, 1) := by decide +kernel
theorem dX2_eastward_2 : decode cX2_eastward 2 = .ok (.iload_n 2, 1) := by decide +kernel
theorem dX2_eastward_3 : decode cX2_eastward 3 = .ok (.invokespecial 7, 3) := by decide +kernel
theorem dX2_eastward_6 : decode cX2_eastward 6 = .ok (.iload_n 2, 1) := by decide +kernel
theorem dX2_eastward_7 : decode cX2_eastward 7 = .ok (.aload_n 1, 1) := by decide +kernel
theorem dX2_eastward_8 : decode cX2_eastward 8 = .ok (.getfield 11, 3) := by decide +kernel
theorem dX2_eastward_11 : decode cX2_eastward 11 = .ok (.invokestatic 17, 3) := by decide +kernel
theorem dX2_eastward_14 : decode cX2_eastward 14 = .ok (.imul, 1) := by decide +kernel
theorem dX2_eastward_15 : decode cX2_eastward 15 = .ok (.iadd, 1) := by decide +kernel
theorem dX2_eastward_16 : decode cX2_eastward 16 = .ok (.ireturn, 1) := by decide +kernel
theorem dX2_sign_0 : decode cX2_sign 0 = .ok (.iload_n 0, 1) := by decide +kernel
theorem dX2_sign_1 : decode cX2_sign 1 = .ok (.ifCond .le 7, 3) := by decide +kernel
theorem dX2_sign_4 : decode cX2_sign 4 = .ok (.iconst 1, 1) := by decide +kernel
theorem dX2_sign_5 : decode cX2_sign 5 = .ok (.goto 12, 3) := by decide +kernel
theorem dX2_sign_8 : decode cX2_sign 8 = .ok (.iload_n 0, 1) := by decide +kernel
theorem dX2_sign_9 : decode cX2_sign 9 = .ok (.ifCond .ge 7, 3) := by decide +kernel
theorem dX2_sign_12 : decode cX2_sign 12 = .ok (.iconst (-1), 1) := by decide +kernel
theorem dX2_sign_13 : decode cX2_sign 13 = .ok (.goto 4, 3) := by decide +kernel
theorem dX2_sign_16 : decode cX2_sign 16 = .ok (.iconst 0, 1) := by decide +kernel
theorem dX2_sign_17 : decode cX2_sign 17 = .ok (.ireturn, 1) := by decide +kernel
theorem dX3_init_0 : decode cX3_init 0 = .ok (.aload_n 0, 1) := by decide +kernel
theorem dX3_init_1 : decode cX3_init 1 = .ok (.invokespecial 1, 3) := by decide +kernel
theorem dX3_init_4 : decode cX3_init 4 = .ok (.return_, 1) := by decide +kernel
theorem dX3_eastward_0 : decode cX3_eastward 0 = .ok (.aload_n 0, 1) := by decide +kernel
theorem dX3_eastward_1 : decode cX3_eastward 1 = .ok (.aload_n 1, 1) := by decide +kernel
theorem dX3_eastward_2 : decode cX3_eastward 2 = .ok (.iload_n 2, 1) := by decide +kernel
theorem dX3_eastward_3 : decode cX3_eastward 3 = .ok (.invokespecial 7, 3) := by decide +kernel
theorem dX3_eastward_6 : decode cX3_eastward 6 = .ok (.iconst 2, 1) := by decide +kernel
theorem dX3_eastward_7 : decode cX3_eastward 7 = .ok (.idiv, 1) := by decide +kernel
theorem dX3_eastward_8 : decode cX3_eastward 8 = .ok (.ireturn, 1) := by decide +kernel
theorem dX3_northward_0 : decode cX3_northward 0 = .ok (.aload_n 0, 1) := by decide +kernel
theorem dX3_northward_1 : decode cX3_northward 1 = .ok (.aload_n 1, 1) := by decide +kernel
theorem dX3_northward_2 : decode cX3_northward 2 = .ok (.iload_n 2, 1) := by decide +kernel
theorem dX3_northward_3 : decode cX3_northward 3 = .ok (.invokespecial 11, 3) := by decide +kernel
theorem dX3_northward_6 : decode cX3_northward 6 = .ok (.iconst 2, 1) := by decide +kernel
theorem dX3_northward_7 : decode cX3_northward 7 = .ok (.idiv, 1) := by decide +kernel
theorem dX3_northward_8 : decode cX3_northward 8 = .ok (.ireturn, 1) := by decide +kernel
theorem dX4_init_0 : decode cX4_init 0 = .ok (.aload_n 0, 1) := by decide +kernel
theorem dX4_init_1 : decode cX4_init 1 = .ok (.invokespecial 3, 3) := by decide +kernel
theorem dX4_init_4 : decode cX4_init 4 = .ok (.aload_n 0, 1) := by decide +kernel
theorem dX4_init_5 : decode cX4_init 5 = .ok (.bipush 7, 2) := by decide +kernel
theorem dX4_init_7 : decode cX4_init 7 = .ok (.newarray .int, 2) := by decide +kernel
theorem dX4_init_9 : decode cX4_init 9 = .ok (.putfield 9, 3) := by decide +kernel
theorem dX4_init_12 : decode cX4_init 12 = .ok (.aload_n 0, 1) := by decide +kernel
theorem dX4_init_13 : decode cX4_init 13 = .ok (.bipush 7, 2) := by decide +kernel
theorem dX4_init_15 : decode cX4_init 15 = .ok (.newarray .int, 2) := by decide +kernel
theorem dX4_init_17 : decode cX4_init 17 = .ok (.putfield 15, 3) := by decide +kernel
theorem dX4_init_20 : decode cX4_init 20 = .ok (.aload_n 0, 1) := by decide +kernel
theorem dX4_init_21 : decode cX4_init 21 = .ok (.bipush 6, 2) := by decide +kernel
theorem dX4_init_23 : decode cX4_init 23 = .ok (.anewarray 18, 3) := by decide +kernel
theorem dX4_init_26 : decode cX4_init 26 = .ok (.putfield 20, 3) := by decide +kernel
theorem dX4_init_29 : decode cX4_init 29 = .ok (.aload_n 0, 1) := by decide +kernel
theorem dX4_init_30 : decode cX4_init 30 = .ok (.bipush 10, 2) := by decide +kernel
theorem dX4_init_32 : decode cX4_init 32 = .ok (.putfield 24, 3) := by decide +kernel
theorem dX4_init_35 : decode cX4_init 35 = .ok (.aload_n 0, 1) := by decide +kernel
theorem dX4_init_36 : decode cX4_init 36 = .ok (.bipush 30, 2) := by decide +kernel
theorem dX4_init_38 : decode cX4_init 38 = .ok (.putfield 28, 3) := by decide +kernel
theorem dX4_init_41 : decode cX4_init 41 = .ok (.iconst 0, 1) := by decide +kernel
theorem dX4_init_42 : decode cX4_init 42 = .ok (.istore_n 1, 1) := by decide +kernel
theorem dX4_init_43 : decode cX4_init 43 = .ok (.iload_n 1, 1) := by decide +kernel
theorem dX4_init_44 : decode cX4_init 44 = .ok (.bipush 6, 2) := by decide +kernel
theorem dX4_init_46 : decode cX4_init 46 = .ok (.if_icmp .ge 22, 3) := by decide +kernel
theorem dX4_init_49 : decode cX4_init 49 = .ok (.aload_n 0, 1) := by decide +kernel
theorem dX4_init_50 : decode cX4_init 50 = .ok (.getfield 20, 3) := by decide +kernel
theorem dX4_init_53 : decode cX4_init 53 = .ok (.iload_n 1, 1) := by decide +kernel
theorem dX4_init_54 : decode cX4_init 54 = .ok (.new 18, 3) := by decide +kernel
theorem dX4_init_57 : decode cX4_init 57 = .ok (.dup, 1) := by decide +kernel
theorem dX4_init_58 : decode cX4_init 58 = .ok (.invokespecial 31, 3) := by decide +kernel
theorem dX4_init_61 : decode cX4_init 61 = .ok (.aastore, 1) := by decide +kernel
theorem dX4_init_62 : decode cX4_init 62 = .ok (.iinc 1 1, 3) := by decide +kernel
theorem dX4_init_65 : decode cX4_init 65 = .ok (.goto (-22), 3) := by decide +kernel
theorem dX4_init_68 : decode cX4_init 68 = .ok (.return_, 1) := by decide +kernel
theorem dX4_copyFrom_0 : decode cX4_copyFrom 0 = .ok (.iconst 0, 1) := by decide +kernel
theorem dX4_copyFrom_1 : decode cX4_copyFrom 1 = .ok (.istore_n 2, 1) := by decide +kernel
theorem dX4_copyFrom_2 : decode cX4_copyFrom 2 = .ok (.iload_n 2, 1) := by decide +kernel
theorem dX4_copyFrom_3 : decode cX4_copyFrom 3 = .ok (.bipush 7, 2) := by decide +kernel
theorem dX4_copyFrom_5 : decode cX4_copyFrom 5 = .ok (.if_icmp .ge 33, 3) := by decide +kernel
theorem dX4_copyFrom_8 : decode cX4_copyFrom 8 = .ok (.aload_n 0, 1) := by decide +kernel
theorem dX4_copyFrom_9 : decode cX4_copyFrom 9 = .ok (.getfield 9, 3) := by decide +kernel
theorem dX4_copyFrom_12 : decode cX4_copyFrom 12 = .ok (.iload_n 2, 1) := by decide +kernel
theorem dX4_copyFrom_13 : decode cX4_copyFrom 13 = .ok (.aload_n 1, 1) := by decide +kernel
theorem dX4_copyFrom_14 : decode cX4_copyFrom 14 = .ok (.getfield 9, 3) := by decide +kernel
theorem dX4_copyFrom_17 : decode cX4_copyFrom 17 = .ok (.iload_n 2, 1) := by decide +kernel
theorem dX4_copyFrom_18 : decode cX4_copyFrom 18 = .ok (.iaload, 1) := by decide +kernel
theorem dX4_copyFrom_19 : decode cX4_copyFrom 19 = .ok (.iastore, 1) := by decide +kernel
theorem dX4_copyFrom_20 : decode cX4_copyFrom 20 = .ok (.aload_n 0, 1) := by decide +kernel
theorem dX4_copyFrom_21 : decode cX4_copyFrom 21 = .ok (.getfield 15, 3) := by decide +kernel
theorem dX4_copyFrom_24 : decode cX4_copyFrom 24 = .ok (.iload_n 2, 1) := by decide +kernel
theorem dX4_copyFrom_25 : decode cX4_copyFrom 25 = .ok (.aload_n 1, 1) := by decide +kernel
theorem dX4_copyFrom_26 : decode cX4_copyFrom 26 = .ok (.getfield 15, 3) := by decide +kernel
theorem dX4_copyFrom_29 : decode cX4_copyFrom 29 = .ok (.iload_n 2, 1) := by decide +kernel
theorem dX4_copyFrom_30 : decode cX4_copyFrom 30 = .ok (.iaload, 1) := by decide +kernel
theorem dX4_copyFrom_31 : decode cX4_copyFrom 31 = .ok (.iastore, 1) := by decide +kernel
theorem dX4_copyFrom_32 : decode cX4_copyFrom 32 = .ok (.iinc 2 1, 3) := by decide +kernel
theorem dX4_copyFrom_35 : decode cX4_copyFrom 35 = .ok (.goto (-33), 3) := by decide +kernel
theorem dX4_copyFrom_38 : decode cX4_copyFrom 38 = .ok (.iconst 0, 1) := by decide +kernel
theorem dX4_copyFrom_39 : decode cX4_copyFrom 39 = .ok (.istore_n 2, 1) := by decide +kernel
theorem dX4_copyFrom_40 : decode cX4_copyFrom 40 = .ok (.iload_n 2, 1) := by decide +kernel
theorem dX4_copyFrom_41 : decode cX4_copyFrom 41 = .ok (.aload_n 1, 1) := by decide +kernel
theorem dX4_copyFrom_42 : decode cX4_copyFrom 42 = .ok (.getfield 32, 3) := by decide +kernel
theorem dX4_copyFrom_45 : decode cX4_copyFrom 45 = .ok (.if_icmp .ge 24, 3) := by decide +kernel
theorem dX4_copyFrom_48 : decode cX4_copyFrom 48 = .ok (.aload_n 0, 1) := by decide +kernel
theorem dX4_copyFrom_49 : decode cX4_copyFrom 49 = .ok (.getfield 20, 3) := by decide +kernel
theorem dX4_copyFrom_52 : decode cX4_copyFrom 52 = .ok (.iload_n 2, 1) := by decide +kernel
theorem dX4_copyFrom_53 : decode cX4_copyFrom 53 = .ok (.aaload, 1) := by decide +kernel
theorem dX4_copyFrom_54 : decode cX4_copyFrom 54 = .ok (.aload_n 1, 1) := by decide +kernel
theorem dX4_copyFrom_55 : decode cX4_copyFrom 55 = .ok (.getfield 20, 3) := by decide +kernel
theorem dX4_copyFrom_58 : decode cX4_copyFrom 58 = .ok (.iload_n 2, 1) := by decide +kernel
theorem dX4_copyFrom_59 : decode cX4_copyFrom 59 = .ok (.aaload, 1) := by decide +kernel
theorem dX4_copyFrom_60 : decode cX4_copyFrom 60 = .ok (.invokevirtual 35, 3) := by decide +kernel
theorem dX4_copyFrom_63 : decode cX4_copyFrom 63 = .ok (.iinc 2 1, 3) := by decide +kernel
theorem dX4_copyFrom_66 : decode cX4_copyFrom 66 = .ok (.goto (-26), 3) := by decide +kernel
theorem dX4_copyFrom_69 : decode cX4_copyFrom 69 = .ok (.aload_n 0, 1) := by decide +kernel
theorem dX4_copyFrom_70 : decode cX4_copyFrom 70 = .ok (.aload_n 1, 1) := by decide +kernel
theorem dX4_copyFrom_71 : decode cX4_copyFrom 71 = .ok (.getfield 32, 3) := by decide +kernel
theorem dX4_copyFrom_74 : decode cX4_copyFrom 74 = .ok (.putfield 32, 3) := by decide +kernel
theorem dX4_copyFrom_77 : decode cX4_copyFrom 77 = .ok (.aload_n 0, 1) := by decide +kernel
theorem dX4_copyFrom_78 : decode cX4_copyFrom 78 = .ok (.aload_n 1, 1) := by decide +kernel
theorem dX4_copyFrom_79 : decode cX4_copyFrom 79 = .ok (.getfield 39, 3) := by decide +kernel
theorem dX4_copyFrom_82 : decode cX4_copyFrom 82 = .ok (.putfield 39, 3) := by decide +kernel
theorem dX4_copyFrom_85 : decode cX4_copyFrom 85 = .ok (.aload_n 0, 1) := by decide +kernel
theorem dX4_copyFrom_86 : decode cX4_copyFrom 86 = .ok (.aload_n 1, 1) := by decide +kernel
theorem dX4_copyFrom_87 : decode cX4_copyFrom 87 = .ok (.getfield 24, 3) := by decide +kernel
theorem dX4_copyFrom_90 : decode cX4_copyFrom 90 = .ok (.putfield 24, 3) := by decide +kernel
theorem dX4_copyFrom_93 : decode cX4_copyFrom 93 = .ok (.aload_n 0, 1) := by decide +kernel
theorem dX4_copyFrom_94 : decode cX4_copyFrom 94 = .ok (.aload_n 1, 1) := by decide +kernel
theorem dX4_copyFrom_95 : decode cX4_copyFrom 95 = .ok (.getfield 28, 3) := by decide +kernel
theorem dX4_copyFrom_98 : decode cX4_copyFrom 98 = .ok (.putfield 28, 3) := by decide +kernel
theorem dX4_copyFrom_101 : decode cX4_copyFrom 101 = .ok (.aload_n 0, 1) := by decide +kernel
theorem dX4_copyFrom_102 : decode cX4_copyFrom 102 = .ok (.aload_n 1, 1) := by decide +kernel
theorem dX4_copyFrom_103 : decode cX4_copyFrom 103 = .ok (.getfield 42, 3) := by decide +kernel
theorem dX4_copyFrom_106 : decode cX4_copyFrom 106 = .ok (.putfield 42, 3) := by decide +kernel
theorem dX4_copyFrom_109 : decode cX4_copyFrom 109 = .ok (.return_, 1) := by decide +kernel
theorem dX4_has_0 : decode cX4_has 0 = .ok (.iload_n 1, 1) := by decide +kernel
theorem dX4_has_1 : decode cX4_has 1 = .ok (.ifCond .lt 15, 3) := by decide +kernel
theorem dX4_has_4 : decode cX4_has 4 = .ok (.iload_n 1, 1) := by decide +kernel
theorem dX4_has_5 : decode cX4_has 5 = .ok (.aload_n 0, 1) := by decide +kernel
theorem dX4_has_6 : decode cX4_has 6 = .ok (.getfield 32, 3) := by decide +kernel
theorem dX4_has_9 : decode cX4_has 9 = .ok (.if_icmp .ge 7, 3) := by decide +kernel
theorem dX4_has_12 : decode cX4_has 12 = .ok (.iconst 1, 1) := by decide +kernel
theorem dX4_has_13 : decode cX4_has 13 = .ok (.goto 4, 3) := by decide +kernel
theorem dX4_has_16 : decode cX4_has 16 = .ok (.iconst 0, 1) := by decide +kernel
theorem dX4_has_17 : decode cX4_has 17 = .ok (.ireturn, 1) := by decide +kernel
theorem dX4_allShips_0 : decode cX4_allShips 0 = .ok (.iconst 1, 1) := by decide +kernel
theorem dX4_allShips_1 : decode cX4_allShips 1 = .ok (.aload_n 0, 1) := by decide +kernel
theorem dX4_allShips_2 : decode cX4_allShips 2 = .ok (.getfield 32, 3) := by decide +kernel
theorem dX4_allShips_5 : decode cX4_allShips 5 = .ok (.ishl, 1) := by decide +kernel
theorem dX4_allShips_6 : decode cX4_allShips 6 = .ok (.iconst 1, 1) := by decide +kernel
theorem dX4_allShips_7 : decode cX4_allShips 7 = .ok (.isub, 1) := by decide +kernel
theorem dX4_allShips_8 : decode cX4_allShips 8 = .ok (.ireturn, 1) := by decide +kernel
theorem dX4_gapToPlace_0 : decode cX4_gapToPlace 0 = .ok (.aload_n 0, 1) := by decide +kernel
theorem dX4_gapToPlace_1 : decode cX4_gapToPlace 1 = .ok (.getfield 20, 3) := by decide +kernel
theorem dX4_gapToPlace_4 : decode cX4_gapToPlace 4 = .ok (.iload_n 1, 1) := by decide +kernel
theorem dX4_gapToPlace_5 : decode cX4_gapToPlace 5 = .ok (.aaload, 1) := by decide +kernel
theorem dX4_gapToPlace_6 : decode cX4_gapToPlace 6 = .ok (.getfield 45, 3) := by decide +kernel
theorem dX4_gapToPlace_9 : decode cX4_gapToPlace 9 = .ok (.iload_n 2, 1) := by decide +kernel
theorem dX4_gapToPlace_10 : decode cX4_gapToPlace 10 = .ok (.isub, 1) := by decide +kernel
theorem dX4_gapToPlace_11 : decode cX4_gapToPlace 11 = .ok (.invokestatic 48, 3) := by decide +kernel
theorem dX4_gapToPlace_14 : decode cX4_gapToPlace 14 = .ok (.aload_n 0, 1) := by decide +kernel
theorem dX4_gapToPlace_15 : decode cX4_gapToPlace 15 = .ok (.getfield 20, 3) := by decide +kernel
theorem dX4_gapToPlace_18 : decode cX4_gapToPlace 18 = .ok (.iload_n 1, 1) := by decide +kernel
theorem dX4_gapToPlace_19 : decode cX4_gapToPlace 19 = .ok (.aaload, 1) := by decide +kernel
theorem dX4_gapToPlace_20 : decode cX4_gapToPlace 20 = .ok (.getfield 54, 3) := by decide +kernel
theorem dX4_gapToPlace_23 : decode cX4_gapToPlace 23 = .ok (.iload_n 3, 1) := by decide +kernel
theorem dX4_gapToPlace_24 : decode cX4_gapToPlace 24 = .ok (.isub, 1) := by decide +kernel
theorem dX4_gapToPlace_25 : decode cX4_gapToPlace 25 = .ok (.invokestatic 48, 3) := by decide +kernel
theorem dX4_gapToPlace_28 : decode cX4_gapToPlace 28 = .ok (.invokestatic 57, 3) := by decide +kernel
theorem dX4_gapToPlace_31 : decode cX4_gapToPlace 31 = .ok (.ireturn, 1) := by decide +kernel
theorem dX4_gap_0 : decode cX4_gap 0 = .ok (.aload_n 0, 1) := by decide +kernel
theorem dX4_gap_1 : decode cX4_gap 1 = .ok (.iload_n 1, 1) := by decide +kernel
theorem dX4_gap_2 : decode cX4_gap 2 = .ok (.aload_n 0, 1) := by decide +kernel
theorem dX4_gap_3 : decode cX4_gap 3 = .ok (.getfield 20, 3) := by decide +kernel
theorem dX4_gap_6 : decode cX4_gap 6 = .ok (.iload_n 2, 1) := by decide +kernel
theorem dX4_gap_7 : decode cX4_gap 7 = .ok (.aaload, 1) := by decide +kernel
theorem dX4_gap_8 : decode cX4_gap 8 = .ok (.getfield 45, 3) := by decide +kernel
theorem dX4_gap_11 : decode cX4_gap 11 = .ok (.aload_n 0, 1) := by decide +kernel
theorem dX4_gap_12 : decode cX4_gap 12 = .ok (.getfield 20, 3) := by decide +kernel
theorem dX4_gap_15 : decode cX4_gap 15 = .ok (.iload_n 2, 1) := by decide +kernel
theorem dX4_gap_16 : decode cX4_gap 16 = .ok (.aaload, 1) := by decide +kernel
theorem dX4_gap_17 : decode cX4_gap 17 = .ok (.getfield 54, 3) := by decide +kernel
theorem dX4_gap_20 : decode cX4_gap 20 = .ok (.invokevirtual 61, 3) := by decide +kernel
theorem dX4_gap_23 : decode cX4_gap 23 = .ok (.ireturn, 1) := by decide +kernel
theorem dX4_pairsWithin_0 : decode cX4_pairsWithin 0 = .ok (.iconst 0, 1) := by decide +kernel
theorem dX4_pairsWithin_1 : decode cX4_pairsWithin 1 = .ok (.istore_n 2, 1) := by decide +kernel
theorem dX4_pairsWithin_2 : decode cX4_pairsWithin 2 = .ok (.iconst 0, 1) := by decide +kernel
theorem dX4_pairsWithin_3 : decode cX4_pairsWithin 3 = .ok (.istore_n 3, 1) := by decide +kernel
theorem dX4_pairsWithin_4 : decode cX4_pairsWithin 4 = .ok (.iload_n 3, 1) := by decide +kernel
theorem dX4_pairsWithin_5 : decode cX4_pairsWithin 5 = .ok (.aload_n 0, 1) := by decide +kernel
theorem dX4_pairsWithin_6 : decode cX4_pairsWithin 6 = .ok (.getfield 32, 3) := by decide +kernel
theorem dX4_pairsWithin_9 : decode cX4_pairsWithin 9 = .ok (.if_icmp .ge 38, 3) := by decide +kernel
theorem dX4_pairsWithin_12 : decode cX4_pairsWithin 12 = .ok (.iconst 0, 1) := by decide +kernel
theorem dX4_pairsWithin_13 : decode cX4_pairsWithin 13 = .ok (.istore 4, 2) := by decide +kernel
theorem dX4_pairsWithin_15 : decode cX4_pairsWithin 15 = .ok (.iload 4, 2) := by decide +kernel
theorem dX4_pairsWithin_17 : decode cX4_pairsWithin 17 = .ok (.iload_n 3, 1) := by decide +kernel
theorem dX4_pairsWithin_18 : decode cX4_pairsWithin 18 = .ok (.if_icmp .ge 23, 3) := by decide +kernel
theorem dX4_pairsWithin_21 : decode cX4_pairsWithin 21 = .ok (.aload_n 0, 1) := by decide +kernel
theorem dX4_pairsWithin_22 : decode cX4_pairsWithin 22 = .ok (.iload_n 3, 1) := by decide +kernel
theorem dX4_pairsWithin_23 : decode cX4_pairsWithin 23 = .ok (.iload 4, 2) := by decide +kernel
theorem dX4_pairsWithin_25 : decode cX4_pairsWithin 25 = .ok (.invokevirtual 65, 3) := by decide +kernel
theorem dX4_pairsWithin_28 : decode cX4_pairsWithin 28 = .ok (.iload_n 1, 1) := by decide +kernel
theorem dX4_pairsWithin_29 : decode cX4_pairsWithin 29 = .ok (.if_icmp .gt 6, 3) := by decide +kernel
theorem dX4_pairsWithin_32 : decode cX4_pairsWithin 32 = .ok (.iinc 2 1, 3) := by decide +kernel
theorem dX4_pairsWithin_35 : decode cX4_pairsWithin 35 = .ok (.iinc 4 1, 3) := by decide +kernel
theorem dX4_pairsWithin_38 : decode cX4_pairsWithin 38 = .ok (.goto (-23), 3) := by decide +kernel
theorem dX4_pairsWithin_41 : decode cX4_pairsWithin 41 = .ok (.iinc 3 1, 3) := by decide +kernel
theorem dX4_pairsWithin_44 : decode cX4_pairsWithin 44 = .ok (.goto (-40), 3) := by decide +kernel
theorem dX4_pairsWithin_47 : decode cX4_pairsWithin 47 = .ok (.iload_n 2, 1) := by decide +kernel
theorem dX4_pairsWithin_48 : decode cX4_pairsWithin 48 = .ok (.ireturn, 1) := by decide +kernel
theorem dX4_isSeen_0 : decode cX4_isSeen 0 = .ok (.iconst 0, 1) := by decide +kernel
theorem dX4_isSeen_1 : decode cX4_isSeen 1 = .ok (.istore_n 2, 1) := by decide +kernel
theorem dX4_isSeen_2 : decode cX4_isSeen 2 = .ok (.iload_n 2, 1) := by decide +kernel
theorem dX4_isSeen_3 : decode cX4_isSeen 3 = .ok (.aload_n 0, 1) := by decide +kernel
theorem dX4_isSeen_4 : decode cX4_isSeen 4 = .ok (.getfield 32, 3) := by decide +kernel
theorem dX4_isSeen_7 : decode cX4_isSeen 7 = .ok (.if_icmp .ge 29, 3) := by decide +kernel
theorem dX4_isSeen_10 : decode cX4_isSeen 10 = .ok (.iload_n 2, 1) := by decide +kernel
theorem dX4_isSeen_11 : decode cX4_isSeen 11 = .ok (.iload_n 1, 1) := by decide +kernel
theorem dX4_isSeen_12 : decode cX4_isSeen 12 = .ok (.if_icmp .eq 18, 3) := by decide +kernel
theorem dX4_isSeen_15 : decode cX4_isSeen 15 = .ok (.aload_n 0, 1) := by decide +kernel
theorem dX4_isSeen_16 : decode cX4_isSeen 16 = .ok (.iload_n 2, 1) := by decide +kernel
theorem dX4_isSeen_17 : decode cX4_isSeen 17 = .ok (.iload_n 1, 1) := by decide +kernel
theorem dX4_isSeen_18 : decode cX4_isSeen 18 = .ok (.invokevirtual 65, 3) := by decide +kernel
theorem dX4_isSeen_21 : decode cX4_isSeen 21 = .ok (.aload_n 0, 1) := by decide +kernel
theorem dX4_isSeen_22 : decode cX4_isSeen 22 = .ok (.getfield 28, 3) := by decide +kernel
theorem dX4_isSeen_25 : decode cX4_isSeen 25 = .ok (.if_icmp .gt 5, 3) := by decide +kernel
theorem dX4_isSeen_28 : decode cX4_isSeen 28 = .ok (.iconst 1, 1) := by decide +kernel
theorem dX4_isSeen_29 : decode cX4_isSeen 29 = .ok (.ireturn, 1) := by decide +kernel
theorem dX4_isSeen_30 : decode cX4_isSeen 30 = .ok (.iinc 2 1, 3) := by decide +kernel
theorem dX4_isSeen_33 : decode cX4_isSeen 33 = .ok (.goto (-31), 3) := by decide +kernel
theorem dX4_isSeen_36 : decode cX4_isSeen 36 = .ok (.iconst 0, 1) := by decide +kernel
theorem dX4_isSeen_37 : decode cX4_isSeen 37 = .ok (.ireturn, 1) := by decide +kernel
theorem dX4_oneLeadOn_0 : decode cX4_oneLeadOn 0 = .ok (.iload_n 1, 1) := by decide +kernel
theorem dX4_oneLeadOn_1 : decode cX4_oneLeadOn 1 = .ok (.istore_n 2, 1) := by decide +kernel
theorem dX4_oneLeadOn_2 : decode cX4_oneLeadOn 2 = .ok (.iconst 0, 1) := by decide +kernel
theorem dX4_oneLeadOn_3 : decode cX4_oneLeadOn 3 = .ok (.istore_n 3, 1) := by decide +kernel
theorem dX4_oneLeadOn_4 : decode cX4_oneLeadOn 4 = .ok (.iload_n 3, 1) := by decide +kernel
theorem dX4_oneLeadOn_5 : decode cX4_oneLeadOn 5 = .ok (.aload_n 0, 1) := by decide +kernel
theorem dX4_oneLeadOn_6 : decode cX4_oneLeadOn 6 = .ok (.getfield 32, 3) := by decide +kernel
theorem dX4_oneLeadOn_9 : decode cX4_oneLeadOn 9 = .ok (.if_icmp .ge 56, 3) := by decide +kernel
theorem dX4_oneLeadOn_12 : decode cX4_oneLeadOn 12 = .ok (.iconst 0, 1) := by decide +kernel
theorem dX4_oneLeadOn_13 : decode cX4_oneLeadOn 13 = .ok (.istore 4, 2) := by decide +kernel
theorem dX4_oneLeadOn_15 : decode cX4_oneLeadOn 15 = .ok (.iload 4, 2) := by decide +kernel
theorem dX4_oneLeadOn_17 : decode cX4_oneLeadOn 17 = .ok (.aload_n 0, 1) := by decide +kernel
theorem dX4_oneLeadOn_18 : decode cX4_oneLeadOn 18 = .ok (.getfield 32, 3) := by decide +kernel
theorem dX4_oneLeadOn_21 : decode cX4_oneLeadOn 21 = .ok (.if_icmp .ge 38, 3) := by decide +kernel
theorem dX4_oneLeadOn_24 : decode cX4_oneLeadOn 24 = .ok (.iload_n 1, 1) := by decide +kernel
theorem dX4_oneLeadOn_25 : decode cX4_oneLeadOn 25 = .ok (.iconst 1, 1) := by decide +kernel
theorem dX4_oneLeadOn_26 : decode cX4_oneLeadOn 26 = .ok (.iload_n 3, 1) := by decide +kernel
theorem dX4_oneLeadOn_27 : decode cX4_oneLeadOn 27 = .ok (.ishl, 1) := by decide +kernel
theorem dX4_oneLeadOn_28 : decode cX4_oneLeadOn 28 = .ok (.iand, 1) := by decide +kernel
theorem dX4_oneLeadOn_29 : decode cX4_oneLeadOn 29 = .ok (.ifCond .eq 24, 3) := by decide +kernel
theorem dX4_oneLeadOn_32 : decode cX4_oneLeadOn 32 = .ok (.aload_n 0, 1) := by decide +kernel
theorem dX4_oneLeadOn_33 : decode cX4_oneLeadOn 33 = .ok (.iload_n 3, 1) := by decide +kernel
theorem dX4_oneLeadOn_34 : decode cX4_oneLeadOn 34 = .ok (.iload 4, 2) := by decide +kernel
theorem dX4_oneLeadOn_36 : decode cX4_oneLeadOn 36 = .ok (.invokevirtual 65, 3) := by decide +kernel
theorem dX4_oneLeadOn_39 : decode cX4_oneLeadOn 39 = .ok (.aload_n 0, 1) := by decide +kernel
theorem dX4_oneLeadOn_40 : decode cX4_oneLeadOn 40 = .ok (.getfield 24, 3) := by decide +kernel
theorem dX4_oneLeadOn_43 : decode cX4_oneLeadOn 43 = .ok (.if_icmp .gt 10, 3) := by decide +kernel
theorem dX4_oneLeadOn_46 : decode cX4_oneLeadOn 46 = .ok (.iload_n 2, 1) := by decide +kernel
theorem dX4_oneLeadOn_47 : decode cX4_oneLeadOn 47 = .ok (.iconst 1, 1) := by decide +kernel
theorem dX4_oneLeadOn_48 : decode cX4_oneLeadOn 48 = .ok (.iload 4, 2) := by decide +kernel
theorem dX4_oneLeadOn_50 : decode cX4_oneLeadOn 50 = .ok (.ishl, 1) := by decide +kernel
theorem dX4_oneLeadOn_51 : decode cX4_oneLeadOn 51 = .ok (.ior, 1) := by decide +kernel
theorem dX4_oneLeadOn_52 : decode cX4_oneLeadOn 52 = .ok (.istore_n 2, 1) := by decide +kernel
theorem dX4_oneLeadOn_53 : decode cX4_oneLeadOn 53 = .ok (.iinc 4 1, 3) := by decide +kernel
theorem dX4_oneLeadOn_56 : decode cX4_oneLeadOn 56 = .ok (.goto (-41), 3) := by decide +kernel
theorem dX4_oneLeadOn_59 : decode cX4_oneLeadOn 59 = .ok (.iinc 3 1, 3) := by decide +kernel
theorem dX4_oneLeadOn_62 : decode cX4_oneLeadOn 62 = .ok (.goto (-58), 3) := by decide +kernel
theorem dX4_oneLeadOn_65 : decode cX4_oneLeadOn 65 = .ok (.iload_n 2, 1) := by decide +kernel
theorem dX4_oneLeadOn_66 : decode cX4_oneLeadOn 66 = .ok (.ireturn, 1) := by decide +kernel
theorem dX4_groupOf_0 : decode cX4_groupOf 0 = .ok (.iconst 1, 1) := by decide +kernel
theorem dX4_groupOf_1 : decode cX4_groupOf 1 = .ok (.iload_n 1, 1) := by decide +kernel
theorem dX4_groupOf_2 : decode cX4_groupOf 2 = .ok (.ishl, 1) := by decide +kernel
theorem dX4_groupOf_3 : decode cX4_groupOf 3 = .ok (.istore_n 2, 1) := by decide +kernel
theorem dX4_groupOf_4 : decode cX4_groupOf 4 = .ok (.iconst 1, 1) := by decide +kernel
theorem dX4_groupOf_5 : decode cX4_groupOf 5 = .ok (.istore_n 3, 1) := by decide +kernel
theorem dX4_groupOf_6 : decode cX4_groupOf 6 = .ok (.iload_n 3, 1) := by decide +kernel
theorem dX4_groupOf_7 : decode cX4_groupOf 7 = .ok (.aload_n 0, 1) := by decide +kernel
theorem dX4_groupOf_8 : decode cX4_groupOf 8 = .ok (.getfield 32, 3) := by decide +kernel
theorem dX4_groupOf_11 : decode cX4_groupOf 11 = .ok (.if_icmp .ge 15, 3) := by decide +kernel
theorem dX4_groupOf_14 : decode cX4_groupOf 14 = .ok (.aload_n 0, 1) := by decide +kernel
theorem dX4_groupOf_15 : decode cX4_groupOf 15 = .ok (.iload_n 2, 1) := by decide +kernel
theorem dX4_groupOf_16 : decode cX4_groupOf 16 = .ok (.invokevirtual 68, 3) := by decide +kernel
theorem dX4_groupOf_19 : decode cX4_groupOf 19 = .ok (.istore_n 2, 1) := by decide +kernel
theorem dX4_groupOf_20 : decode cX4_groupOf 20 = .ok (.iinc 3 1, 3) := by decide +kernel
theorem dX4_groupOf_23 : decode cX4_groupOf 23 = .ok (.goto (-17), 3) := by decide +kernel
theorem dX4_groupOf_26 : decode cX4_groupOf 26 = .ok (.iload_n 2, 1) := by decide +kernel
theorem dX4_groupOf_27 : decode cX4_groupOf 27 = .ok (.ireturn, 1) := by decide +kernel
theorem dX4_nearestTo_0 : decode cX4_nearestTo 0 = .ok (.bipush (-9), 2) := by decide +kernel
theorem dX4_nearestTo_2 : decode cX4_nearestTo 2 = .ok (.istore 4, 2) := by decide +kernel
theorem dX4_nearestTo_4 : decode cX4_nearestTo 4 = .ok (.iconst 0, 1) := by decide +kernel
theorem dX4_nearestTo_5 : decode cX4_nearestTo 5 = .ok (.istore 5, 2) := by decide +kernel
theorem dX4_nearestTo_7 : decode cX4_nearestTo 7 = .ok (.iload 5, 2) := by decide +kernel
theorem dX4_nearestTo_9 : decode cX4_nearestTo 9 = .ok (.aload_n 0, 1) := by decide +kernel
theorem dX4_nearestTo_10 : decode cX4_nearestTo 10 = .ok (.getfield 32, 3) := by decide +kernel
theorem dX4_nearestTo_13 : decode cX4_nearestTo 13 = .ok (.if_icmp .ge 45, 3) := by decide +kernel
theorem dX4_nearestTo_16 : decode cX4_nearestTo 16 = .ok (.iload 5, 2) := by decide +kernel
theorem dX4_nearestTo_18 : decode cX4_nearestTo 18 = .ok (.iload_n 3, 1) := by decide +kernel
theorem dX4_nearestTo_19 : decode cX4_nearestTo 19 = .ok (.if_icmp .eq 33, 3) := by decide +kernel
theorem dX4_nearestTo_22 : decode cX4_nearestTo 22 = .ok (.iload 4, 2) := by decide +kernel
theorem dX4_nearestTo_24 : decode cX4_nearestTo 24 = .ok (.bipush (-9), 2) := by decide +kernel
theorem dX4_nearestTo_26 : decode cX4_nearestTo 26 = .ok (.if_icmp .eq 22, 3) := by decide +kernel
theorem dX4_nearestTo_29 : decode cX4_nearestTo 29 = .ok (.aload_n 0, 1) := by decide +kernel
theorem dX4_nearestTo_30 : decode cX4_nearestTo 30 = .ok (.iload 5, 2) := by decide +kernel
theorem dX4_nearestTo_32 : decode cX4_nearestTo 32 = .ok (.iload_n 1, 1) := by decide +kernel
theorem dX4_nearestTo_33 : decode cX4_nearestTo 33 = .ok (.iload_n 2, 1) := by decide +kernel
theorem dX4_nearestTo_34 : decode cX4_nearestTo 34 = .ok (.invokevirtual 61, 3) := by decide +kernel
theorem dX4_nearestTo_37 : decode cX4_nearestTo 37 = .ok (.aload_n 0, 1) := by decide +kernel
theorem dX4_nearestTo_38 : decode cX4_nearestTo 38 = .ok (.iload 4, 2) := by decide +kernel
theorem dX4_nearestTo_40 : decode cX4_nearestTo 40 = .ok (.iload_n 1, 1) := by decide +kernel
theorem dX4_nearestTo_41 : decode cX4_nearestTo 41 = .ok (.iload_n 2, 1) := by decide +kernel
theorem dX4_nearestTo_42 : decode cX4_nearestTo 42 = .ok (.invokevirtual 61, 3) := by decide +kernel
theorem dX4_nearestTo_45 : decode cX4_nearestTo 45 = .ok (.if_icmp .ge 7, 3) := by decide +kernel
theorem dX4_nearestTo_48 : decode cX4_nearestTo 48 = .ok (.iload 5, 2) := by decide +kernel
theorem dX4_nearestTo_50 : decode cX4_nearestTo 50 = .ok (.istore 4, 2) := by decide +kernel
theorem dX4_nearestTo_52 : decode cX4_nearestTo 52 = .ok (.iinc 5 1, 3) := by decide +kernel
theorem dX4_nearestTo_55 : decode cX4_nearestTo 55 = .ok (.goto (-48), 3) := by decide +kernel
theorem dX4_nearestTo_58 : decode cX4_nearestTo 58 = .ok (.iload 4, 2) := by decide +kernel
theorem dX4_nearestTo_60 : decode cX4_nearestTo 60 = .ok (.ireturn, 1) := by decide +kernel
theorem dX4_airOf_0 : decode cX4_airOf 0 = .ok (.iload_n 1, 1) := by decide +kernel
theorem dX4_airOf_1 : decode cX4_airOf 1 = .ok (.bipush 7, 2) := by decide +kernel
theorem dX4_airOf_3 : decode cX4_airOf 3 = .ok (.invokestatic 71, 3) := by decide +kernel
theorem dX4_airOf_6 : decode cX4_airOf 6 = .ok (.istore_n 3, 1) := by decide +kernel
theorem dX4_airOf_7 : decode cX4_airOf 7 = .ok (.iload_n 1, 1) := by decide +kernel
theorem dX4_airOf_8 : decode cX4_airOf 8 = .ok (.iconst 1, 1) := by decide +kernel
theorem dX4_airOf_9 : decode cX4_airOf 9 = .ok (.isub, 1) := by decide +kernel
theorem dX4_airOf_10 : decode cX4_airOf 10 = .ok (.bipush 7, 2) := by decide +kernel
theorem dX4_airOf_12 : decode cX4_airOf 12 = .ok (.invokestatic 71, 3) := by decide +kernel
theorem dX4_airOf_15 : decode cX4_airOf 15 = .ok (.istore 4, 2) := by decide +kernel
theorem dX4_airOf_17 : decode cX4_airOf 17 = .ok (.aload_n 2, 1) := by decide +kernel
theorem dX4_airOf_18 : decode cX4_airOf 18 = .ok (.iload_n 1, 1) := by decide +kernel
theorem dX4_airOf_19 : decode cX4_airOf 19 = .ok (.putfield 74, 3) := by decide +kernel
theorem dX4_airOf_22 : decode cX4_airOf 22 = .ok (.aload_n 2, 1) := by decide +kernel
theorem dX4_airOf_23 : decode cX4_airOf 23 = .ok (.aload_n 0, 1) := by decide +kernel
theorem dX4_airOf_24 : decode cX4_airOf 24 = .ok (.getfield 9, 3) := by decide +kernel
theorem dX4_airOf_27 : decode cX4_airOf 27 = .ok (.iload_n 3, 1) := by decide +kernel
theorem dX4_airOf_28 : decode cX4_airOf 28 = .ok (.iaload, 1) := by decide +kernel
theorem dX4_airOf_29 : decode cX4_airOf 29 = .ok (.putfield 77, 3) := by decide +kernel
theorem dX4_airOf_32 : decode cX4_airOf 32 = .ok (.aload_n 2, 1) := by decide +kernel
theorem dX4_airOf_33 : decode cX4_airOf 33 = .ok (.aload_n 0, 1) := by decide +kernel
theorem dX4_airOf_34 : decode cX4_airOf 34 = .ok (.getfield 15, 3) := by decide +kernel
theorem dX4_airOf_37 : decode cX4_airOf 37 = .ok (.iload_n 3, 1) := by decide +kernel
theorem dX4_airOf_38 : decode cX4_airOf 38 = .ok (.iaload, 1) := by decide +kernel
theorem dX4_airOf_39 : decode cX4_airOf 39 = .ok (.putfield 78, 3) := by decide +kernel
theorem dX4_airOf_42 : decode cX4_airOf 42 = .ok (.aload_n 2, 1) := by decide +kernel
theorem dX4_airOf_43 : decode cX4_airOf 43 = .ok (.aload_n 0, 1) := by decide +kernel
theorem dX4_airOf_44 : decode cX4_airOf 44 = .ok (.getfield 9, 3) := by decide +kernel
theorem dX4_airOf_47 : decode cX4_airOf 47 = .ok (.iload 4, 2) := by decide +kernel
theorem dX4_airOf_49 : decode cX4_airOf 49 = .ok (.iaload, 1) := by decide +kernel
theorem dX4_airOf_50 : decode cX4_airOf 50 = .ok (.putfield 79, 3) := by decide +kernel
theorem dX4_airOf_53 : decode cX4_airOf 53 = .ok (.aload_n 2, 1) := by decide +kernel
theorem dX4_airOf_54 : decode cX4_airOf 54 = .ok (.aload_n 0, 1) := by decide +kernel
theorem dX4_airOf_55 : decode cX4_airOf 55 = .ok (.getfield 15, 3) := by decide +kernel
theorem dX4_airOf_58 : decode cX4_airOf 58 = .ok (.iload 4, 2) := by decide +kernel
theorem dX4_airOf_60 : decode cX4_airOf 60 = .ok (.iaload, 1) := by decide +kernel
theorem dX4_airOf_61 : decode cX4_airOf 61 = .ok (.putfield 82, 3) := by decide +kernel
theorem dX4_airOf_64 : decode cX4_airOf 64 = .ok (.return_, 1) := by decide +kernel
theorem dX4_passDay_0 : decode cX4_passDay 0 = .ok (.iconst 0, 1) := by decide +kernel
theorem dX4_passDay_1 : decode cX4_passDay 1 = .ok (.istore_n 3, 1) := by decide +kernel
theorem dX4_passDay_2 : decode cX4_passDay 2 = .ok (.iconst 0, 1) := by decide +kernel
theorem dX4_passDay_3 : decode cX4_passDay 3 = .ok (.istore 4, 2) := by decide +kernel
theorem dX4_passDay_5 : decode cX4_passDay 5 = .ok (.iload 4, 2) := by decide +kernel
theorem dX4_passDay_7 : decode cX4_passDay 7 = .ok (.aload_n 0, 1) := by decide +kernel
theorem dX4_passDay_8 : decode cX4_passDay 8 = .ok (.getfield 32, 3) := by decide +kernel
theorem dX4_passDay_11 : decode cX4_passDay 11 = .ok (.if_icmp .ge 45, 3) := by decide +kernel
theorem dX4_passDay_14 : decode cX4_passDay 14 = .ok (.aload_n 0, 1) := by decide +kernel
theorem dX4_passDay_15 : decode cX4_passDay 15 = .ok (.getfield 20, 3) := by decide +kernel
theorem dX4_passDay_18 : decode cX4_passDay 18 = .ok (.iload 4, 2) := by decide +kernel
theorem dX4_passDay_20 : decode cX4_passDay 20 = .ok (.aaload, 1) := by decide +kernel
theorem dX4_passDay_21 : decode cX4_passDay 21 = .ok (.aload_n 1, 1) := by decide +kernel
theorem dX4_passDay_22 : decode cX4_passDay 22 = .ok (.aload_n 2, 1) := by decide +kernel
theorem dX4_passDay_23 : decode cX4_passDay 23 = .ok (.aload_n 0, 1) := by decide +kernel
theorem dX4_passDay_24 : decode cX4_passDay 24 = .ok (.getfield 20, 3) := by decide +kernel
theorem dX4_passDay_27 : decode cX4_passDay 27 = .ok (.iload 4, 2) := by decide +kernel
theorem dX4_passDay_29 : decode cX4_passDay 29 = .ok (.aaload, 1) := by decide +kernel
theorem dX4_passDay_30 : decode cX4_passDay 30 = .ok (.getfield 85, 3) := by decide +kernel
theorem dX4_passDay_33 : decode cX4_passDay 33 = .ok (.aaload, 1) := by decide +kernel
theorem dX4_passDay_34 : decode cX4_passDay 34 = .ok (.invokevirtual 88, 3) := by decide +kernel
theorem dX4_passDay_37 : decode cX4_passDay 37 = .ok (.iload_n 3, 1) := by decide +kernel
theorem dX4_passDay_38 : decode cX4_passDay 38 = .ok (.aload_n 0, 1) := by decide +kernel
theorem dX4_passDay_39 : decode cX4_passDay 39 = .ok (.getfield 20, 3) := by decide +kernel
theorem dX4_passDay_42 : decode cX4_passDay 42 = .ok (.iload 4, 2) := by decide +kernel
theorem dX4_passDay_44 : decode cX4_passDay 44 = .ok (.aaload, 1) := by decide +kernel
theorem dX4_passDay_45 : decode cX4_passDay 45 = .ok (.invokevirtual 92, 3) := by decide +kernel
theorem dX4_passDay_48 : decode cX4_passDay 48 = .ok (.iadd, 1) := by decide +kernel
theorem dX4_passDay_49 : decode cX4_passDay 49 = .ok (.istore_n 3, 1) := by decide +kernel
theorem dX4_passDay_50 : decode cX4_passDay 50 = .ok (.iinc 4 1, 3) := by decide +kernel
theorem dX4_passDay_53 : decode cX4_passDay 53 = .ok (.goto (-48), 3) := by decide +kernel
theorem dX4_passDay_56 : decode cX4_passDay 56 = .ok (.aload_n 0, 1) := by decide +kernel
theorem dX4_passDay_57 : decode cX4_passDay 57 = .ok (.dup, 1) := by decide +kernel
theorem dX4_passDay_58 : decode cX4_passDay 58 = .ok (.getfield 39, 3) := by decide +kernel
theorem dX4_passDay_61 : decode cX4_passDay 61 = .ok (.iconst 1, 1) := by decide +kernel
theorem dX4_passDay_62 : decode cX4_passDay 62 = .ok (.iadd, 1) := by decide +kernel
theorem dX4_passDay_63 : decode cX4_passDay 63 = .ok (.putfield 39, 3) := by decide +kernel
theorem dX4_passDay_66 : decode cX4_passDay 66 = .ok (.iload_n 3, 1) := by decide +kernel
theorem dX4_passDay_67 : decode cX4_passDay 67 = .ok (.ireturn, 1) := by decide +kernel
theorem dX4_hungerToCome_0 : decode cX4_hungerToCome 0 = .ok (.iconst 0, 1) := by decide +kernel
theorem dX4_hungerToCome_1 : decode cX4_hungerToCome 1 = .ok (.istore_n 2, 1) := by decide +kernel
theorem dX4_hungerToCome_2 : decode cX4_hungerToCome 2 = .ok (.iconst 0, 1) := by decide +kernel
theorem dX4_hungerToCome_3 : decode cX4_hungerToCome 3 = .ok (.istore_n 3, 1) := by decide +kernel
theorem dX4_hungerToCome_4 : decode cX4_hungerToCome 4 = .ok (.iload_n 3, 1) := by decide +kernel
theorem dX4_hungerToCome_5 : decode cX4_hungerToCome 5 = .ok (.aload_n 0, 1) := by decide +kernel
theorem dX4_hungerToCome_6 : decode cX4_hungerToCome 6 = .ok (.getfield 32, 3) := by decide +kernel
theorem dX4_hungerToCome_9 : decode cX4_hungerToCome 9 = .ok (.if_icmp .ge 37, 3) := by decide +kernel
theorem dX4_hungerToCome_12 : decode cX4_hungerToCome 12 = .ok (.iload_n 2, 1) := by decide +kernel
theorem dX4_hungerToCome_13 : decode cX4_hungerToCome 13 = .ok (.iconst 0, 1) := by decide +kernel
theorem dX4_hungerToCome_14 : decode cX4_hungerToCome 14 = .ok (.iload_n 1, 1) := by decide +kernel
theorem dX4_hungerToCome_15 : decode cX4_hungerToCome 15 = .ok (.aload_n 0, 1) := by decide +kernel
theorem dX4_hungerToCome_16 : decode cX4_hungerToCome 16 = .ok (.getfield 20, 3) := by decide +kernel
theorem dX4_hungerToCome_19 : decode cX4_hungerToCome 19 = .ok (.iload_n 3, 1) := by decide +kernel
theorem dX4_hungerToCome_20 : decode cX4_hungerToCome 20 = .ok (.aaload, 1) := by decide +kernel
theorem dX4_hungerToCome_21 : decode cX4_hungerToCome 21 = .ok (.getfield 96, 3) := by decide +kernel
theorem dX4_hungerToCome_24 : decode cX4_hungerToCome 24 = .ok (.imul, 1) := by decide +kernel
theorem dX4_hungerToCome_25 : decode cX4_hungerToCome 25 = .ok (.aload_n 0, 1) := by decide +kernel
theorem dX4_hungerToCome_26 : decode cX4_hungerToCome 26 = .ok (.getfield 20, 3) := by decide +kernel
theorem dX4_hungerToCome_29 : decode cX4_hungerToCome 29 = .ok (.iload_n 3, 1) := by decide +kernel
theorem dX4_hungerToCome_30 : decode cX4_hungerToCome 30 = .ok (.aaload, 1) := by decide +kernel
theorem dX4_hungerToCome_31 : decode cX4_hungerToCome 31 = .ok (.getfield 99, 3) := by decide +kernel
theorem dX4_hungerToCome_34 : decode cX4_hungerToCome 34 = .ok (.isub, 1) := by decide +kernel
theorem dX4_hungerToCome_35 : decode cX4_hungerToCome 35 = .ok (.invokestatic 57, 3) := by decide +kernel
theorem dX4_hungerToCome_38 : decode cX4_hungerToCome 38 = .ok (.iadd, 1) := by decide +kernel
theorem dX4_hungerToCome_39 : decode cX4_hungerToCome 39 = .ok (.istore_n 2, 1) := by decide +kernel
theorem dX4_hungerToCome_40 : decode cX4_hungerToCome 40 = .ok (.iinc 3 1, 3) := by decide +kernel
theorem dX4_hungerToCome_43 : decode cX4_hungerToCome 43 = .ok (.goto (-39), 3) := by decide +kernel
theorem dX4_hungerToCome_46 : decode cX4_hungerToCome 46 = .ok (.iload_n 2, 1) := by decide +kernel
theorem dX4_hungerToCome_47 : decode cX4_hungerToCome 47 = .ok (.ireturn, 1) := by decide +kernel
theorem dX4_giveUp_0 : decode cX4_giveUp 0 = .ok (.aload_n 0, 1) := by decide +kernel
theorem dX4_giveUp_1 : decode cX4_giveUp 1 = .ok (.getfield 20, 3) := by decide +kernel
theorem dX4_giveUp_4 : decode cX4_giveUp 4 = .ok (.iload_n 1, 1) := by decide +kernel
theorem dX4_giveUp_5 : decode cX4_giveUp 5 = .ok (.aaload, 1) := by decide +kernel
theorem dX4_giveUp_6 : decode cX4_giveUp 6 = .ok (.astore_n 2, 1) := by decide +kernel
theorem dX4_giveUp_7 : decode cX4_giveUp 7 = .ok (.aload_n 0, 1) := by decide +kernel
theorem dX4_giveUp_8 : decode cX4_giveUp 8 = .ok (.aload_n 2, 1) := by decide +kernel
theorem dX4_giveUp_9 : decode cX4_giveUp 9 = .ok (.getfield 45, 3) := by decide +kernel
theorem dX4_giveUp_12 : decode cX4_giveUp 12 = .ok (.aload_n 2, 1) := by decide +kernel
theorem dX4_giveUp_13 : decode cX4_giveUp 13 = .ok (.getfield 54, 3) := by decide +kernel
theorem dX4_giveUp_16 : decode cX4_giveUp 16 = .ok (.iload_n 1, 1) := by decide +kernel
theorem dX4_giveUp_17 : decode cX4_giveUp 17 = .ok (.invokevirtual 102, 3) := by decide +kernel
theorem dX4_giveUp_20 : decode cX4_giveUp 20 = .ok (.istore_n 3, 1) := by decide +kernel
theorem dX4_giveUp_21 : decode cX4_giveUp 21 = .ok (.aload_n 0, 1) := by decide +kernel
theorem dX4_giveUp_22 : decode cX4_giveUp 22 = .ok (.iload_n 3, 1) := by decide +kernel
theorem dX4_giveUp_23 : decode cX4_giveUp 23 = .ok (.invokevirtual 105, 3) := by decide +kernel
theorem dX4_giveUp_26 : decode cX4_giveUp 26 = .ok (.ifCond .eq 52, 3) := by decide +kernel
theorem dX4_giveUp_29 : decode cX4_giveUp 29 = .ok (.aload_n 0, 1) := by decide +kernel
theorem dX4_giveUp_30 : decode cX4_giveUp 30 = .ok (.getfield 20, 3) := by decide +kernel
theorem dX4_giveUp_33 : decode cX4_giveUp 33 = .ok (.iload_n 3, 1) := by decide +kernel
theorem dX4_giveUp_34 : decode cX4_giveUp 34 = .ok (.aaload, 1) := by decide +kernel
theorem dX4_giveUp_35 : decode cX4_giveUp 35 = .ok (.astore 4, 2) := by decide +kernel
theorem dX4_giveUp_37 : decode cX4_giveUp 37 = .ok (.aload 4, 2) := by decide +kernel
theorem dX4_giveUp_39 : decode cX4_giveUp 39 = .ok (.bipush 9, 2) := by decide +kernel
theorem dX4_giveUp_41 : decode cX4_giveUp 41 = .ok (.aload 4, 2) := by decide +kernel
theorem dX4_giveUp_43 : decode cX4_giveUp 43 = .ok (.getfield 96, 3) := by decide +kernel
theorem dX4_giveUp_46 : decode cX4_giveUp 46 = .ok (.aload_n 2, 1) := by decide +kernel
theorem dX4_giveUp_47 : decode cX4_giveUp 47 = .ok (.getfield 96, 3) := by decide +kernel
theorem dX4_giveUp_50 : decode cX4_giveUp 50 = .ok (.iadd, 1) := by decide +kernel
theorem dX4_giveUp_51 : decode cX4_giveUp 51 = .ok (.invokestatic 109, 3) := by decide +kernel
theorem dX4_giveUp_54 : decode cX4_giveUp 54 = .ok (.putfield 96, 3) := by decide +kernel
theorem dX4_giveUp_57 : decode cX4_giveUp 57 = .ok (.aload 4, 2) := by decide +kernel
theorem dX4_giveUp_59 : decode cX4_giveUp 59 = .ok (.sipush 999, 3) := by decide +kernel
theorem dX4_giveUp_62 : decode cX4_giveUp 62 = .ok (.aload 4, 2) := by decide +kernel
theorem dX4_giveUp_64 : decode cX4_giveUp 64 = .ok (.getfield 99, 3) := by decide +kernel
theorem dX4_giveUp_67 : decode cX4_giveUp 67 = .ok (.aload_n 2, 1) := by decide +kernel
theorem dX4_giveUp_68 : decode cX4_giveUp 68 = .ok (.getfield 99, 3) := by decide +kernel
theorem dX4_giveUp_71 : decode cX4_giveUp 71 = .ok (.iadd, 1) := by decide +kernel
theorem dX4_giveUp_72 : decode cX4_giveUp 72 = .ok (.invokestatic 109, 3) := by decide +kernel
theorem dX4_giveUp_75 : decode cX4_giveUp 75 = .ok (.putfield 99, 3) := by decide +kernel
theorem dX4_giveUp_78 : decode cX4_giveUp 78 = .ok (.aload_n 2, 1) := by decide +kernel
theorem dX4_giveUp_79 : decode cX4_giveUp 79 = .ok (.iconst 0, 1) := by decide +kernel
theorem dX4_giveUp_80 : decode cX4_giveUp 80 = .ok (.putfield 96, 3) := by decide +kernel
theorem dX4_giveUp_83 : decode cX4_giveUp 83 = .ok (.aload_n 2, 1) := by decide +kernel
theorem dX4_giveUp_84 : decode cX4_giveUp 84 = .ok (.iconst 0, 1) := by decide +kernel
theorem dX4_giveUp_85 : decode cX4_giveUp 85 = .ok (.putfield 99, 3) := by decide +kernel
theorem dX4_giveUp_88 : decode cX4_giveUp 88 = .ok (.return_, 1) := by decide +kernel
theorem dX4_allBread_0 : decode cX4_allBread 0 = .ok (.iconst 0, 1) := by decide +kernel
theorem dX4_allBread_1 : decode cX4_allBread 1 = .ok (.istore_n 1, 1) := by decide +kernel
theorem dX4_allBread_2 : decode cX4_allBread 2 = .ok (.iconst 0, 1) := by decide +kernel
theorem dX4_allBread_3 : decode cX4_allBread 3 = .ok (.istore_n 2, 1) := by decide +kernel
theorem dX4_allBread_4 : decode cX4_allBread 4 = .ok (.iload_n 2, 1) := by decide +kernel
theorem dX4_allBread_5 : decode cX4_allBread 5 = .ok (.aload_n 0, 1) := by decide +kernel
theorem dX4_allBread_6 : decode cX4_allBread 6 = .ok (.getfield 32, 3) := by decide +kernel
theorem dX4_allBread_9 : decode cX4_allBread 9 = .ok (.if_icmp .ge 21, 3) := by decide +kernel
theorem dX4_allBread_12 : decode cX4_allBread 12 = .ok (.iload_n 1, 1) := by decide +kernel
theorem dX4_allBread_13 : decode cX4_allBread 13 = .ok (.aload_n 0, 1) := by decide +kernel
theorem dX4_allBread_14 : decode cX4_allBread 14 = .ok (.getfield 20, 3) := by decide +kernel
theorem dX4_allBread_17 : decode cX4_allBread 17 = .ok (.iload_n 2, 1) := by decide +kernel
theorem dX4_allBread_18 : decode cX4_allBread 18 = .ok (.aaload, 1) := by decide +kernel
theorem dX4_allBread_19 : decode cX4_allBread 19 = .ok (.getfield 99, 3) := by decide +kernel
theorem dX4_allBread_22 : decode cX4_allBread 22 = .ok (.iadd, 1) := by decide +kernel
theorem dX4_allBread_23 : decode cX4_allBread 23 = .ok (.istore_n 1, 1) := by decide +kernel
theorem dX4_allBread_24 : decode cX4_allBread 24 = .ok (.iinc 2 1, 3) := by decide +kernel
theorem dX4_allBread_27 : decode cX4_allBread 27 = .ok (.goto (-23), 3) := by decide +kernel
theorem dX4_allBread_30 : decode cX4_allBread 30 = .ok (.iload_n 1, 1) := by decide +kernel
theorem dX4_allBread_31 : decode cX4_allBread 31 = .ok (.ireturn, 1) := by decide +kernel
theorem dX4_allCrews_0 : decode cX4_allCrews 0 = .ok (.iconst 0, 1) := by decide +kernel
theorem dX4_allCrews_1 : decode cX4_allCrews 1 = .ok (.istore_n 1, 1) := by decide +kernel
theorem dX4_allCrews_2 : decode cX4_allCrews 2 = .ok (.iconst 0, 1) := by decide +kernel
theorem dX4_allCrews_3 : decode cX4_allCrews 3 = .ok (.istore_n 2, 1) := by decide +kernel
theorem dX4_allCrews_4 : decode cX4_allCrews 4 = .ok (.iload_n 2, 1) := by decide +kernel
theorem dX4_allCrews_5 : decode cX4_allCrews 5 = .ok (.aload_n 0, 1) := by decide +kernel
theorem dX4_allCrews_6 : decode cX4_allCrews 6 = .ok (.getfield 32, 3) := by decide +kernel
theorem dX4_allCrews_9 : decode cX4_allCrews 9 = .ok (.if_icmp .ge 21, 3) := by decide +kernel
theorem dX4_allCrews_12 : decode cX4_allCrews 12 = .ok (.iload_n 1, 1) := by decide +kernel
theorem dX4_allCrews_13 : decode cX4_allCrews 13 = .ok (.aload_n 0, 1) := by decide +kernel
theorem dX4_allCrews_14 : decode cX4_allCrews 14 = .ok (.getfield 20, 3) := by decide +kernel
theorem dX4_allCrews_17 : decode cX4_allCrews 17 = .ok (.iload_n 2, 1) := by decide +kernel
theorem dX4_allCrews_18 : decode cX4_allCrews 18 = .ok (.aaload, 1) := by decide +kernel
theorem dX4_allCrews_19 : decode cX4_allCrews 19 = .ok (.getfield 96, 3) := by decide +kernel
theorem dX4_allCrews_22 : decode cX4_allCrews 22 = .ok (.iadd, 1) := by decide +kernel
theorem dX4_allCrews_23 : decode cX4_allCrews 23 = .ok (.istore_n 1, 1) := by decide +kernel
theorem dX4_allCrews_24 : decode cX4_allCrews 24 = .ok (.iinc 2 1, 3) := by decide +kernel
theorem dX4_allCrews_27 : decode cX4_allCrews 27 = .ok (.goto (-23), 3) := by decide +kernel
theorem dX4_allCrews_30 : decode cX4_allCrews 30 = .ok (.iload_n 1, 1) := by decide +kernel
theorem dX4_allCrews_31 : decode cX4_allCrews 31 = .ok (.ireturn, 1) := by decide +kernel
theorem dX5_init_0 : decode cX5_init 0 = .ok (.aload_n 0, 1) := by decide +kernel
theorem dX5_init_1 : decode cX5_init 1 = .ok (.invokespecial 1, 3) := by decide +kernel
theorem dX5_init_4 : decode cX5_init 4 = .ok (.return_, 1) := by decide +kernel
theorem dX5_eastward_0 : decode cX5_eastward 0 = .ok (.aload_n 1, 1) := by decide +kernel
theorem dX5_eastward_1 : decode cX5_eastward 1 = .ok (.getfield 7, 3) := by decide +kernel
theorem dX5_eastward_4 : decode cX5_eastward 4 = .ok (.ireturn, 1) := by decide +kernel
theorem dX5_northward_0 : decode cX5_northward 0 = .ok (.aload_n 1, 1) := by decide +kernel
theorem dX5_northward_1 : decode cX5_northward 1 = .ok (.getfield 13, 3) := by decide +kernel
theorem dX5_northward_4 : decode cX5_northward 4 = .ok (.ireturn, 1) := by decide +kernel
theorem dX6_init_0 : decode cX6_init 0 = .ok (.aload_n 0, 1) := by decide +kernel
theorem dX6_init_1 : decode cX6_init 1 = .ok (.invokespecial 3, 3) := by decide +kernel
theorem dX6_init_4 : decode cX6_init 4 = .ok (.aload_n 0, 1) := by decide +kernel
theorem dX6_init_5 : decode cX6_init 5 = .ok (.bipush 80, 2) := by decide +kernel
theorem dX6_init_7 : decode cX6_init 7 = .ok (.newarray .int, 2) := by decide +kernel
theorem dX6_init_9 : decode cX6_init 9 = .ok (.putfield 9, 3) := by decide +kernel
theorem dX6_init_12 : decode cX6_init 12 = .ok (.return_, 1) := by decide +kernel
theorem dX6_add_0 : decode cX6_add 0 = .ok (.aload_n 0, 1) := by decide +kernel
theorem dX6_add_1 : decode cX6_add 1 = .ok (.getfield 15, 3) := by decide +kernel
theorem dX6_add_4 : decode cX6_add 4 = .ok (.bipush 80, 2) := by decide +kernel
theorem dX6_add_6 : decode cX6_add 6 = .ok (.if_icmp .ge 23, 3) := by decide +kernel
theorem dX6_add_9 : decode cX6_add 9 = .ok (.aload_n 0, 1) := by decide +kernel
theorem dX6_add_10 : decode cX6_add 10 = .ok (.getfield 9, 3) := by decide +kernel
theorem dX6_add_13 : decode cX6_add 13 = .ok (.aload_n 0, 1) := by decide +kernel
theorem dX6_add_14 : decode cX6_add 14 = .ok (.getfield 15, 3) := by decide +kernel
theorem dX6_add_17 : decode cX6_add 17 = .ok (.iload_n 1, 1) := by decide +kernel
theorem dX6_add_18 : decode cX6_add 18 = .ok (.iastore, 1) := by decide +kernel
theorem dX6_add_19 : decode cX6_add 19 = .ok (.aload_n 0, 1) := by decide +kernel
theorem dX6_add_20 : decode cX6_add 20 = .ok (.dup, 1) := by decide +kernel
theorem dX6_add_21 : decode cX6_add 21 = .ok (.getfield 15, 3) := by decide +kernel
theorem dX6_add_24 : decode cX6_add 24 = .ok (.iconst 1, 1) := by decide +kernel
theorem dX6_add_25 : decode cX6_add 25 = .ok (.iadd, 1) := by decide +kernel
theorem dX6_add_26 : decode cX6_add 26 = .ok (.putfield 15, 3) := by decide +kernel
theorem dX6_add_29 : decode cX6_add 29 = .ok (.return_, 1) := by decide +kernel
theorem dX6_readInto_0 : decode cX6_readInto 0 = .ok (.aload_n 0, 1) := by decide +kernel
theorem dX6_readInto_1 : decode cX6_readInto 1 = .ok (.iconst 0, 1) := by decide +kernel
theorem dX6_readInto_2 : decode cX6_readInto 2 = .ok (.putfield 19, 3) := by decide +kernel
theorem dX6_readInto_5 : decode cX6_readInto 5 = .ok (.aload_n 0, 1) := by decide +kernel
theorem dX6_readInto_6 : decode cX6_readInto 6 = .ok (.iconst 0, 1) := by decide +kernel
theorem dX6_readInto_7 : decode cX6_readInto 7 = .ok (.putfield 22, 3) := by decide +kernel
theorem dX6_readInto_10 : decode cX6_readInto 10 = .ok (.iconst (-1), 1) := by decide +kernel
theorem dX6_readInto_11 : decode cX6_readInto 11 = .ok (.istore_n 2, 1) := by decide +kernel
theorem dX6_readInto_12 : decode cX6_readInto 12 = .ok (.iconst 0, 1) := by decide +kernel
theorem dX6_readInto_13 : decode cX6_readInto 13 = .ok (.istore_n 3, 1) := by decide +kernel
theorem dX6_readInto_14 : decode cX6_readInto 14 = .ok (.iload_n 3, 1) := by decide +kernel
theorem dX6_readInto_15 : decode cX6_readInto 15 = .ok (.bipush 80, 2) := by decide +kernel
theorem dX6_readInto_17 : decode cX6_readInto 17 = .ok (.if_icmp .gt 57, 3) := by decide +kernel
theorem dX6_readInto_20 : decode cX6_readInto 20 = .ok (.aload_n 0, 1) := by decide +kernel
theorem dX6_readInto_21 : decode cX6_readInto 21 = .ok (.getfield 22, 3) := by decide +kernel
theorem dX6_readInto_24 : decode cX6_readInto 24 = .ok (.ifCond .ne 50, 3) := by decide +kernel
theorem dX6_readInto_27 : decode cX6_readInto 27 = .ok (.iload_n 3, 1) := by decide +kernel
theorem dX6_readInto_28 : decode cX6_readInto 28 = .ok (.ifCond .eq 14, 3) := by decide +kernel
theorem dX6_readInto_31 : decode cX6_readInto 31 = .ok (.aload_n 0, 1) := by decide +kernel
theorem dX6_readInto_32 : decode cX6_readInto 32 = .ok (.getfield 19, 3) := by decide +kernel
theorem dX6_readInto_35 : decode cX6_readInto 35 = .ok (.aload_n 0, 1) := by decide +kernel
theorem dX6_readInto_36 : decode cX6_readInto 36 = .ok (.getfield 15, 3) := by decide +kernel
theorem dX6_readInto_39 : decode cX6_readInto 39 = .ok (.if_icmp .ge 35, 3) := by decide +kernel
theorem dX6_readInto_42 : decode cX6_readInto 42 = .ok (.aload_n 0, 1) := by decide +kernel
theorem dX6_readInto_43 : decode cX6_readInto 43 = .ok (.getfield 19, 3) := by decide +kernel
theorem dX6_readInto_46 : decode cX6_readInto 46 = .ok (.istore 4, 2) := by decide +kernel
theorem dX6_readInto_48 : decode cX6_readInto 48 = .ok (.aload_n 0, 1) := by decide +kernel
theorem dX6_readInto_49 : decode cX6_readInto 49 = .ok (.aload_n 1, 1) := by decide +kernel
theorem dX6_readInto_50 : decode cX6_readInto 50 = .ok (.invokevirtual 26, 3) := by decide +kernel
theorem dX6_readInto_53 : decode cX6_readInto 53 = .ok (.istore 5, 2) := by decide +kernel
theorem dX6_readInto_55 : decode cX6_readInto 55 = .ok (.iload 5, 2) := by decide +kernel
theorem dX6_readInto_57 : decode cX6_readInto 57 = .ok (.ifCond .ne 11, 3) := by decide +kernel
theorem dX6_readInto_60 : decode cX6_readInto 60 = .ok (.iload_n 2, 1) := by decide +kernel
theorem dX6_readInto_61 : decode cX6_readInto 61 = .ok (.iconst (-1), 1) := by decide +kernel
theorem dX6_readInto_62 : decode cX6_readInto 62 = .ok (.if_icmp .ne 6, 3) := by decide +kernel
theorem dX6_readInto_65 : decode cX6_readInto 65 = .ok (.iload 4, 2) := by decide +kernel
theorem dX6_readInto_67 : decode cX6_readInto 67 = .ok (.istore_n 2, 1) := by decide +kernel
theorem dX6_readInto_68 : decode cX6_readInto 68 = .ok (.iinc 3 1, 3) := by decide +kernel
theorem dX6_readInto_71 : decode cX6_readInto 71 = .ok (.goto (-57), 3) := by decide +kernel
theorem dX6_readInto_74 : decode cX6_readInto 74 = .ok (.aload_n 0, 1) := by decide +kernel
theorem dX6_readInto_75 : decode cX6_readInto 75 = .ok (.iconst 0, 1) := by decide +kernel
theorem dX6_readInto_76 : decode cX6_readInto 76 = .ok (.putfield 15, 3) := by decide +kernel
theorem dX6_readInto_79 : decode cX6_readInto 79 = .ok (.aload_n 0, 1) := by decide +kernel
theorem dX6_readInto_80 : decode cX6_readInto 80 = .ok (.getfield 22, 3) := by decide +kernel
theorem dX6_readInto_83 : decode cX6_readInto 83 = .ok (.ifCond .eq 12, 3) := by decide +kernel
theorem dX6_readInto_86 : decode cX6_readInto 86 = .ok (.sipush (-1000), 3) := by decide +kernel
theorem dX6_readInto_89 : decode cX6_readInto 89 = .ok (.aload_n 0, 1) := by decide +kernel
theorem dX6_readInto_90 : decode cX6_readInto 90 = .ok (.getfield 19, 3) := by decide +kernel
theorem dX6_readInto_93 : decode cX6_readInto 93 = .ok (.isub, 1) := by decide +kernel
theorem dX6_readInto_94 : decode cX6_readInto 94 = .ok (.ireturn, 1) := by decide +kernel
theorem dX6_readInto_95 : decode cX6_readInto 95 = .ok (.iload_n 2, 1) := by decide +kernel
theorem dX6_readInto_96 : decode cX6_readInto 96 = .ok (.iconst (-1), 1) := by decide +kernel
theorem dX6_readInto_97 : decode cX6_readInto 97 = .ok (.if_icmp .eq 11, 3) := by decide +kernel
theorem dX6_readInto_100 : decode cX6_readInto 100 = .ok (.sipush (-2000), 3) := by decide +kernel
theorem dX6_readInto_103 : decode cX6_readInto 103 = .ok (.iload_n 2, 1) := by decide +kernel
theorem dX6_readInto_104 : decode cX6_readInto 104 = .ok (.isub, 1) := by decide +kernel
theorem dX6_readInto_105 : decode cX6_readInto 105 = .ok (.goto 4, 3) := by decide +kernel
theorem dX6_readInto_108 : decode cX6_readInto 108 = .ok (.iload_n 3, 1) := by decide +kernel
theorem dX6_readInto_109 : decode cX6_readInto 109 = .ok (.ireturn, 1) := by decide +kernel
theorem dX6_readStatement_0 : decode cX6_readStatement 0 = .ok (.iconst 0, 1) := by decide +kernel
theorem dX6_readStatement_1 : decode cX6_readStatement 1 = .ok (.istore_n 2, 1) := by decide +kernel
theorem dX6_readStatement_2 : decode cX6_readStatement 2 = .ok (.aload_n 0, 1) := by decide +kernel
theorem dX6_readStatement_3 : decode cX6_readStatement 3 = .ok (.bipush 115, 2) := by decide +kernel
theorem dX6_readStatement_5 : decode cX6_readStatement 5 = .ok (.invokevirtual 30, 3) := by decide +kernel
theorem dX6_readStatement_8 : decode cX6_readStatement 8 = .ok (.ifCond .eq 12, 3) := by decide +kernel
theorem dX6_readStatement_11 : decode cX6_readStatement 11 = .ok (.aload_n 0, 1) := by decide +kernel
theorem dX6_readStatement_12 : decode cX6_readStatement 12 = .ok (.aload_n 1, 1) := by decide +kernel
theorem dX6_readStatement_13 : decode cX6_readStatement 13 = .ok (.invokevirtual 34, 3) := by decide +kernel
theorem dX6_readStatement_16 : decode cX6_readStatement 16 = .ok (.istore_n 2, 1) := by decide +kernel
theorem dX6_readStatement_17 : decode cX6_readStatement 17 = .ok (.goto 62, 3) := by decide +kernel
theorem dX6_readStatement_20 : decode cX6_readStatement 20 = .ok (.aload_n 0, 1) := by decide +kernel
theorem dX6_readStatement_21 : decode cX6_readStatement 21 = .ok (.bipush 119, 2) := by decide +kernel
theorem dX6_readStatement_23 : decode cX6_readStatement 23 = .ok (.invokevirtual 30, 3) := by decide +kernel
theorem dX6_readStatement_26 : decode cX6_readStatement 26 = .ok (.ifCond .eq 12, 3) := by decide +kernel
theorem dX6_readStatement_29 : decode cX6_readStatement 29 = .ok (.aload_n 0, 1) := by decide +kernel
theorem dX6_readStatement_30 : decode cX6_readStatement 30 = .ok (.aload_n 1, 1) := by decide +kernel
theorem dX6_readStatement_31 : decode cX6_readStatement 31 = .ok (.invokevirtual 37, 3) := by decide +kernel
theorem dX6_readStatement_34 : decode cX6_readStatement 34 = .ok (.istore_n 2, 1) := by decide +kernel
theorem dX6_readStatement_35 : decode cX6_readStatement 35 = .ok (.goto 44, 3) := by decide +kernel
theorem dX6_readStatement_38 : decode cX6_readStatement 38 = .ok (.aload_n 0, 1) := by decide +kernel
theorem dX6_readStatement_39 : decode cX6_readStatement 39 = .ok (.bipush 114, 2) := by decide +kernel
theorem dX6_readStatement_41 : decode cX6_readStatement 41 = .ok (.invokevirtual 30, 3) := by decide +kernel
theorem dX6_readStatement_44 : decode cX6_readStatement 44 = .ok (.ifCond .eq 12, 3) := by decide +kernel
theorem dX6_readStatement_47 : decode cX6_readStatement 47 = .ok (.aload_n 0, 1) := by decide +kernel
theorem dX6_readStatement_48 : decode cX6_readStatement 48 = .ok (.aload_n 1, 1) := by decide +kernel
theorem dX6_readStatement_49 : decode cX6_readStatement 49 = .ok (.invokevirtual 40, 3) := by decide +kernel
theorem dX6_readStatement_52 : decode cX6_readStatement 52 = .ok (.istore_n 2, 1) := by decide +kernel
theorem dX6_readStatement_53 : decode cX6_readStatement 53 = .ok (.goto 26, 3) := by decide +kernel
theorem dX6_readStatement_56 : decode cX6_readStatement 56 = .ok (.aload_n 0, 1) := by decide +kernel
theorem dX6_readStatement_57 : decode cX6_readStatement 57 = .ok (.bipush 118, 2) := by decide +kernel
theorem dX6_readStatement_59 : decode cX6_readStatement 59 = .ok (.invokevirtual 30, 3) := by decide +kernel
theorem dX6_readStatement_62 : decode cX6_readStatement 62 = .ok (.ifCond .eq 12, 3) := by decide +kernel
theorem dX6_readStatement_65 : decode cX6_readStatement 65 = .ok (.aload_n 0, 1) := by decide +kernel
theorem dX6_readStatement_66 : decode cX6_readStatement 66 = .ok (.aload_n 1, 1) := by decide +kernel
theorem dX6_readStatement_67 : decode cX6_readStatement 67 = .ok (.invokevirtual 43, 3) := by decide +kernel
theorem dX6_readStatement_70 : decode cX6_readStatement 70 = .ok (.istore_n 2, 1) := by decide +kernel
theorem dX6_readStatement_71 : decode cX6_readStatement 71 = .ok (.goto 8, 3) := by decide +kernel
theorem dX6_readStatement_74 : decode cX6_readStatement 74 = .ok (.aload_n 0, 1) := by decide +kernel
theorem dX6_readStatement_75 : decode cX6_readStatement 75 = .ok (.iconst 1, 1) := by decide +kernel
theorem dX6_readStatement_76 : decode cX6_readStatement 76 = .ok (.putfield 22, 3) := by decide +kernel
theorem dX6_readStatement_79 : decode cX6_readStatement 79 = .ok (.aload_n 0, 1) := by decide +kernel
theorem dX6_readStatement_80 : decode cX6_readStatement 80 = .ok (.bipush 59, 2) := by decide +kernel
theorem dX6_readStatement_82 : decode cX6_readStatement 82 = .ok (.invokevirtual 46, 3) := by decide +kernel
theorem dX6_readStatement_85 : decode cX6_readStatement 85 = .ok (.iload_n 2, 1) := by decide +kernel
theorem dX6_readStatement_86 : decode cX6_readStatement 86 = .ok (.ireturn, 1) := by decide +kernel
theorem dX6_readShip_0 : decode cX6_readShip 0 = .ok (.aload_n 0, 1) := by decide +kernel
theorem dX6_readShip_1 : decode cX6_readShip 1 = .ok (.iconst 1, 1) := by decide +kernel
theorem dX6_readShip_2 : decode cX6_readShip 2 = .ok (.invokevirtual 50, 3) := by decide +kernel
theorem dX6_readShip_5 : decode cX6_readShip 5 = .ok (.istore_n 2, 1) := by decide +kernel
theorem dX6_readShip_6 : decode cX6_readShip 6 = .ok (.aload_n 0, 1) := by decide +kernel
theorem dX6_readShip_7 : decode cX6_readShip 7 = .ok (.iconst 1, 1) := by decide +kernel
theorem dX6_readShip_8 : decode cX6_readShip 8 = .ok (.invokevirtual 50, 3) := by decide +kernel
theorem dX6_readShip_11 : decode cX6_readShip 11 = .ok (.istore_n 3, 1) := by decide +kernel
theorem dX6_readShip_12 : decode cX6_readShip 12 = .ok (.aload_n 0, 1) := by decide +kernel
theorem dX6_readShip_13 : decode cX6_readShip 13 = .ok (.iconst 1, 1) := by decide +kernel
theorem dX6_readShip_14 : decode cX6_readShip 14 = .ok (.invokevirtual 50, 3) := by decide +kernel
theorem dX6_readShip_17 : decode cX6_readShip 17 = .ok (.istore 4, 2) := by decide +kernel
theorem dX6_readShip_19 : decode cX6_readShip 19 = .ok (.aload_n 0, 1) := by decide +kernel
theorem dX6_readShip_20 : decode cX6_readShip 20 = .ok (.iconst 3, 1) := by decide +kernel
theorem dX6_readShip_21 : decode cX6_readShip 21 = .ok (.invokevirtual 50, 3) := by decide +kernel
theorem dX6_readShip_24 : decode cX6_readShip 24 = .ok (.istore 5, 2) := by decide +kernel
theorem dX6_readShip_26 : decode cX6_readShip 26 = .ok (.aload_n 0, 1) := by decide +kernel
theorem dX6_readShip_27 : decode cX6_readShip 27 = .ok (.bipush 44, 2) := by decide +kernel
theorem dX6_readShip_29 : decode cX6_readShip 29 = .ok (.invokevirtual 46, 3) := by decide +kernel
theorem dX6_readShip_32 : decode cX6_readShip 32 = .ok (.aload_n 0, 1) := by decide +kernel
theorem dX6_readShip_33 : decode cX6_readShip 33 = .ok (.iconst 2, 1) := by decide +kernel
theorem dX6_readShip_34 : decode cX6_readShip 34 = .ok (.invokevirtual 54, 3) := by decide +kernel
theorem dX6_readShip_37 : decode cX6_readShip 37 = .ok (.istore 6, 2) := by decide +kernel
theorem dX6_readShip_39 : decode cX6_readShip 39 = .ok (.aload_n 0, 1) := by decide +kernel
theorem dX6_readShip_40 : decode cX6_readShip 40 = .ok (.bipush 44, 2) := by decide +kernel
theorem dX6_readShip_42 : decode cX6_readShip 42 = .ok (.invokevirtual 46, 3) := by decide +kernel
theorem dX6_readShip_45 : decode cX6_readShip 45 = .ok (.aload_n 0, 1) := by decide +kernel
theorem dX6_readShip_46 : decode cX6_readShip 46 = .ok (.iconst 2, 1) := by decide +kernel
theorem dX6_readShip_47 : decode cX6_readShip 47 = .ok (.invokevirtual 54, 3) := by decide +kernel
theorem dX6_readShip_50 : decode cX6_readShip 50 = .ok (.istore 7, 2) := by decide +kernel
theorem dX6_readShip_52 : decode cX6_readShip 52 = .ok (.iload_n 2, 1) := by decide +kernel
theorem dX6_readShip_53 : decode cX6_readShip 53 = .ok (.bipush 6, 2) := by decide +kernel
theorem dX6_readShip_55 : decode cX6_readShip 55 = .ok (.if_icmp .ge 12, 3) := by decide +kernel
theorem dX6_readShip_58 : decode cX6_readShip 58 = .ok (.aload_n 1, 1) := by decide +kernel
theorem dX6_readShip_59 : decode cX6_readShip 59 = .ok (.getfield 57, 3) := by decide +kernel
theorem dX6_readShip_62 : decode cX6_readShip 62 = .ok (.bipush 6, 2) := by decide +kernel
theorem dX6_readShip_64 : decode cX6_readShip 64 = .ok (.if_icmp .lt 5, 3) := by decide +kernel
theorem dX6_readShip_67 : decode cX6_readShip 67 = .ok (.iconst 0, 1) := by decide +kernel
theorem dX6_readShip_68 : decode cX6_readShip 68 = .ok (.ireturn, 1) := by decide +kernel
theorem dX6_readShip_69 : decode cX6_readShip 69 = .ok (.aload_n 1, 1) := by decide +kernel
theorem dX6_readShip_70 : decode cX6_readShip 70 = .ok (.getfield 62, 3) := by decide +kernel
theorem dX6_readShip_73 : decode cX6_readShip 73 = .ok (.aload_n 1, 1) := by decide +kernel
theorem dX6_readShip_74 : decode cX6_readShip 74 = .ok (.getfield 57, 3) := by decide +kernel
theorem dX6_readShip_77 : decode cX6_readShip 77 = .ok (.aaload, 1) := by decide +kernel
theorem dX6_readShip_78 : decode cX6_readShip 78 = .ok (.astore 8, 2) := by decide +kernel
theorem dX6_readShip_80 : decode cX6_readShip 80 = .ok (.aload 8, 2) := by decide +kernel
theorem dX6_readShip_82 : decode cX6_readShip 82 = .ok (.iload_n 2, 1) := by decide +kernel
theorem dX6_readShip_83 : decode cX6_readShip 83 = .ok (.putfield 66, 3) := by decide +kernel
theorem dX6_readShip_86 : decode cX6_readShip 86 = .ok (.aload 8, 2) := by decide +kernel
theorem dX6_readShip_88 : decode cX6_readShip 88 = .ok (.iload_n 3, 1) := by decide +kernel
theorem dX6_readShip_89 : decode cX6_readShip 89 = .ok (.putfield 71, 3) := by decide +kernel
theorem dX6_readShip_92 : decode cX6_readShip 92 = .ok (.aload 8, 2) := by decide +kernel
theorem dX6_readShip_94 : decode cX6_readShip 94 = .ok (.iload 4, 2) := by decide +kernel
theorem dX6_readShip_96 : decode cX6_readShip 96 = .ok (.putfield 74, 3) := by decide +kernel
theorem dX6_readShip_99 : decode cX6_readShip 99 = .ok (.aload 8, 2) := by decide +kernel
theorem dX6_readShip_101 : decode cX6_readShip 101 = .ok (.iload 5, 2) := by decide +kernel
theorem dX6_readShip_103 : decode cX6_readShip 103 = .ok (.putfield 77, 3) := by decide +kernel
theorem dX6_readShip_106 : decode cX6_readShip 106 = .ok (.aload 8, 2) := by decide +kernel
theorem dX6_readShip_108 : decode cX6_readShip 108 = .ok (.iload 6, 2) := by decide +kernel
theorem dX6_readShip_110 : decode cX6_readShip 110 = .ok (.putfield 80, 3) := by decide +kernel
theorem dX6_readShip_113 : decode cX6_readShip 113 = .ok (.aload 8, 2) := by decide +kernel
theorem dX6_readShip_115 : decode cX6_readShip 115 = .ok (.iload 7, 2) := by decide +kernel
theorem dX6_readShip_117 : decode cX6_readShip 117 = .ok (.putfield 83, 3) := by decide +kernel
theorem dX6_readShip_120 : decode cX6_readShip 120 = .ok (.aload_n 1, 1) := by decide +kernel
theorem dX6_readShip_121 : decode cX6_readShip 121 = .ok (.dup, 1) := by decide +kernel
theorem dX6_readShip_122 : decode cX6_readShip 122 = .ok (.getfield 57, 3) := by decide +kernel
theorem dX6_readShip_125 : decode cX6_readShip 125 = .ok (.iconst 1, 1) := by decide +kernel
theorem dX6_readShip_126 : decode cX6_readShip 126 = .ok (.iadd, 1) := by decide +kernel
theorem dX6_readShip_127 : decode cX6_readShip 127 = .ok (.putfield 57, 3) := by decide +kernel
theorem dX6_readShip_130 : decode cX6_readShip 130 = .ok (.iconst 1, 1) := by decide +kernel
theorem dX6_readShip_131 : decode cX6_readShip 131 = .ok (.ireturn, 1) := by decide +kernel
theorem dX6_readWind_0 : decode cX6_readWind 0 = .ok (.aload_n 0, 1) := by decide +kernel
theorem dX6_readWind_1 : decode cX6_readWind 1 = .ok (.iconst 1, 1) := by decide +kernel
theorem dX6_readWind_2 : decode cX6_readWind 2 = .ok (.invokevirtual 50, 3) := by decide +kernel
theorem dX6_readWind_5 : decode cX6_readWind 5 = .ok (.istore_n 2, 1) := by decide +kernel
theorem dX6_readWind_6 : decode cX6_readWind 6 = .ok (.aload_n 0, 1) := by decide +kernel
theorem dX6_readWind_7 : decode cX6_readWind 7 = .ok (.iconst 1, 1) := by decide +kernel
theorem dX6_readWind_8 : decode cX6_readWind 8 = .ok (.invokevirtual 54, 3) := by decide +kernel
theorem dX6_readWind_11 : decode cX6_readWind 11 = .ok (.istore_n 3, 1) := by decide +kernel
theorem dX6_readWind_12 : decode cX6_readWind 12 = .ok (.aload_n 0, 1) := by decide +kernel
theorem dX6_readWind_13 : decode cX6_readWind 13 = .ok (.iconst 1, 1) := by decide +kernel
theorem dX6_readWind_14 : decode cX6_readWind 14 = .ok (.invokevirtual 54, 3) := by decide +kernel
theorem dX6_readWind_17 : decode cX6_readWind 17 = .ok (.istore 4, 2) := by decide +kernel
theorem dX6_readWind_19 : decode cX6_readWind 19 = .ok (.iload_n 2, 1) := by decide +kernel
theorem dX6_readWind_20 : decode cX6_readWind 20 = .ok (.bipush 7, 2) := by decide +kernel
theorem dX6_readWind_22 : decode cX6_readWind 22 = .ok (.if_icmp .ge 20, 3) := by decide +kernel
theorem dX6_readWind_25 : decode cX6_readWind 25 = .ok (.iload_n 3, 1) := by decide +kernel
theorem dX6_readWind_26 : decode cX6_readWind 26 = .ok (.invokestatic 86, 3) := by decide +kernel
theorem dX6_readWind_29 : decode cX6_readWind 29 = .ok (.iconst 4, 1) := by decide +kernel
theorem dX6_readWind_30 : decode cX6_readWind 30 = .ok (.if_icmp .gt 12, 3) := by decide +kernel
theorem dX6_readWind_33 : decode cX6_readWind 33 = .ok (.iload 4, 2) := by decide +kernel
theorem dX6_readWind_35 : decode cX6_readWind 35 = .ok (.invokestatic 86, 3) := by decide +kernel
theorem dX6_readWind_38 : decode cX6_readWind 38 = .ok (.iconst 4, 1) := by decide +kernel
theorem dX6_readWind_39 : decode cX6_readWind 39 = .ok (.if_icmp .le 5, 3) := by decide +kernel
theorem dX6_readWind_42 : decode cX6_readWind 42 = .ok (.iconst 0, 1) := by decide +kernel
theorem dX6_readWind_43 : decode cX6_readWind 43 = .ok (.ireturn, 1) := by decide +kernel
theorem dX6_readWind_44 : decode cX6_readWind 44 = .ok (.aload_n 1, 1) := by decide +kernel
theorem dX6_readWind_45 : decode cX6_readWind 45 = .ok (.getfield 91, 3) := by decide +kernel
theorem dX6_readWind_48 : decode cX6_readWind 48 = .ok (.iload_n 2, 1) := by decide +kernel
theorem dX6_readWind_49 : decode cX6_readWind 49 = .ok (.iload_n 3, 1) := by decide +kernel
theorem dX6_readWind_50 : decode cX6_readWind 50 = .ok (.iastore, 1) := by decide +kernel
theorem dX6_readWind_51 : decode cX6_readWind 51 = .ok (.aload_n 1, 1) := by decide +kernel
theorem dX6_readWind_52 : decode cX6_readWind 52 = .ok (.getfield 94, 3) := by decide +kernel
theorem dX6_readWind_55 : decode cX6_readWind 55 = .ok (.iload_n 2, 1) := by decide +kernel
theorem dX6_readWind_56 : decode cX6_readWind 56 = .ok (.iload 4, 2) := by decide +kernel
theorem dX6_readWind_58 : decode cX6_readWind 58 = .ok (.iastore, 1) := by decide +kernel
theorem dX6_readWind_59 : decode cX6_readWind 59 = .ok (.iconst 1, 1) := by decide +kernel
theorem dX6_readWind_60 : decode cX6_readWind 60 = .ok (.ireturn, 1) := by decide +kernel
theorem dX6_readReach_0 : decode cX6_readReach 0 = .ok (.aload_n 1, 1) := by decide +kernel
theorem dX6_readReach_1 : decode cX6_readReach 1 = .ok (.aload_n 0, 1) := by decide +kernel
theorem dX6_readReach_2 : decode cX6_readReach 2 = .ok (.iconst 2, 1) := by decide +kernel
theorem dX6_readReach_3 : decode cX6_readReach 3 = .ok (.invokevirtual 50, 3) := by decide +kernel
theorem dX6_readReach_6 : decode cX6_readReach 6 = .ok (.putfield 97, 3) := by decide +kernel
theorem dX6_readReach_9 : decode cX6_readReach 9 = .ok (.aload_n 1, 1) := by decide +kernel
theorem dX6_readReach_10 : decode cX6_readReach 10 = .ok (.getfield 97, 3) := by decide +kernel
theorem dX6_readReach_13 : decode cX6_readReach 13 = .ok (.iconst 1, 1) := by decide +kernel
theorem dX6_readReach_14 : decode cX6_readReach 14 = .ok (.if_icmp .lt 16, 3) := by decide +kernel
theorem dX6_readReach_17 : decode cX6_readReach 17 = .ok (.aload_n 1, 1) := by decide +kernel
theorem dX6_readReach_18 : decode cX6_readReach 18 = .ok (.getfield 97, 3) := by decide +kernel
theorem dX6_readReach_21 : decode cX6_readReach 21 = .ok (.bipush 40, 2) := by decide +kernel
theorem dX6_readReach_23 : decode cX6_readReach 23 = .ok (.if_icmp .gt 7, 3) := by decide +kernel
theorem dX6_readReach_26 : decode cX6_readReach 26 = .ok (.iconst 1, 1) := by decide +kernel
theorem dX6_readReach_27 : decode cX6_readReach 27 = .ok (.goto 4, 3) := by decide +kernel
theorem dX6_readReach_30 : decode cX6_readReach 30 = .ok (.iconst 0, 1) := by decide +kernel
theorem dX6_readReach_31 : decode cX6_readReach 31 = .ok (.ireturn, 1) := by decide +kernel
theorem dX6_readSight_0 : decode cX6_readSight 0 = .ok (.aload_n 1, 1) := by decide +kernel
theorem dX6_readSight_1 : decode cX6_readSight 1 = .ok (.aload_n 0, 1) := by decide +kernel
theorem dX6_readSight_2 : decode cX6_readSight 2 = .ok (.iconst 2, 1) := by decide +kernel
theorem dX6_readSight_3 : decode cX6_readSight 3 = .ok (.invokevirtual 50, 3) := by decide +kernel
theorem dX6_readSight_6 : decode cX6_readSight 6 = .ok (.putfield 100, 3) := by decide +kernel
theorem dX6_readSight_9 : decode cX6_readSight 9 = .ok (.aload_n 1, 1) := by decide +kernel
theorem dX6_readSight_10 : decode cX6_readSight 10 = .ok (.getfield 100, 3) := by decide +kernel
theorem dX6_readSight_13 : decode cX6_readSight 13 = .ok (.iconst 1, 1) := by decide +kernel
theorem dX6_readSight_14 : decode cX6_readSight 14 = .ok (.if_icmp .lt 16, 3) := by decide +kernel
theorem dX6_readSight_17 : decode cX6_readSight 17 = .ok (.aload_n 1, 1) := by decide +kernel
theorem dX6_readSight_18 : decode cX6_readSight 18 = .ok (.getfield 100, 3) := by decide +kernel
theorem dX6_readSight_21 : decode cX6_readSight 21 = .ok (.bipush 99, 2) := by decide +kernel
theorem dX6_readSight_23 : decode cX6_readSight 23 = .ok (.if_icmp .gt 7, 3) := by decide +kernel
theorem dX6_readSight_26 : decode cX6_readSight 26 = .ok (.iconst 1, 1) := by decide +kernel
theorem dX6_readSight_27 : decode cX6_readSight 27 = .ok (.goto 4, 3) := by decide +kernel
theorem dX6_readSight_30 : decode cX6_readSight 30 = .ok (.iconst 0, 1) := by decide +kernel
theorem dX6_readSight_31 : decode cX6_readSight 31 = .ok (.ireturn, 1) := by decide +kernel
theorem dX6_take_0 : decode cX6_take 0 = .ok (.aload_n 0, 1) := by decide +kernel
theorem dX6_take_1 : decode cX6_take 1 = .ok (.getfield 22, 3) := by decide +kernel
theorem dX6_take_4 : decode cX6_take 4 = .ok (.ifCond .ne 31, 3) := by decide +kernel
theorem dX6_take_7 : decode cX6_take 7 = .ok (.aload_n 0, 1) := by decide +kernel
theorem dX6_take_8 : decode cX6_take 8 = .ok (.getfield 19, 3) := by decide +kernel
theorem dX6_take_11 : decode cX6_take 11 = .ok (.aload_n 0, 1) := by decide +kernel
theorem dX6_take_12 : decode cX6_take 12 = .ok (.getfield 15, 3) := by decide +kernel
theorem dX6_take_15 : decode cX6_take 15 = .ok (.if_icmp .ge 20, 3) := by decide +kernel
theorem dX6_take_18 : decode cX6_take 18 = .ok (.aload_n 0, 1) := by decide +kernel
theorem dX6_take_19 : decode cX6_take 19 = .ok (.getfield 9, 3) := by decide +kernel
theorem dX6_take_22 : decode cX6_take 22 = .ok (.aload_n 0, 1) := by decide +kernel
theorem dX6_take_23 : decode cX6_take 23 = .ok (.getfield 19, 3) := by decide +kernel
theorem dX6_take_26 : decode cX6_take 26 = .ok (.iaload, 1) := by decide +kernel
theorem dX6_take_27 : decode cX6_take 27 = .ok (.iload_n 1, 1) := by decide +kernel
theorem dX6_take_28 : decode cX6_take 28 = .ok (.if_icmp .ne 7, 3) := by decide +kernel
theorem dX6_take_31 : decode cX6_take 31 = .ok (.iconst 1, 1) := by decide +kernel
theorem dX6_take_32 : decode cX6_take 32 = .ok (.goto 4, 3) := by decide +kernel
theorem dX6_take_35 : decode cX6_take 35 = .ok (.iconst 0, 1) := by decide +kernel
theorem dX6_take_36 : decode cX6_take 36 = .ok (.istore_n 2, 1) := by decide +kernel
theorem dX6_take_37 : decode cX6_take 37 = .ok (.iload_n 2, 1) := by decide +kernel
theorem dX6_take_38 : decode cX6_take 38 = .ok (.ifCond .eq 13, 3) := by decide +kernel
theorem dX6_take_41 : decode cX6_take 41 = .ok (.aload_n 0, 1) := by decide +kernel
theorem dX6_take_42 : decode cX6_take 42 = .ok (.dup, 1) := by decide +kernel
theorem dX6_take_43 : decode cX6_take 43 = .ok (.getfield 19, 3) := by decide +kernel
theorem dX6_take_46 : decode cX6_take 46 = .ok (.iconst 1, 1) := by decide +kernel
theorem dX6_take_47 : decode cX6_take 47 = .ok (.iadd, 1) := by decide +kernel
theorem dX6_take_48 : decode cX6_take 48 = .ok (.putfield 19, 3) := by decide +kernel
theorem dX6_take_51 : decode cX6_take 51 = .ok (.iload_n 2, 1) := by decide +kernel
theorem dX6_take_52 : decode cX6_take 52 = .ok (.ireturn, 1) := by decide +kernel
theorem dX6_need_0 : decode cX6_need 0 = .ok (.aload_n 0, 1) := by decide +kernel
theorem dX6_need_1 : decode cX6_need 1 = .ok (.iload_n 1, 1) := by decide +kernel
theorem dX6_need_2 : decode cX6_need 2 = .ok (.invokevirtual 30, 3) := by decide +kernel
theorem dX6_need_5 : decode cX6_need 5 = .ok (.ifCond .ne 8, 3) := by decide +kernel
theorem dX6_need_8 : decode cX6_need 8 = .ok (.aload_n 0, 1) := by decide +kernel
theorem dX6_need_9 : decode cX6_need 9 = .ok (.iconst 1, 1) := by decide +kernel
theorem dX6_need_10 : decode cX6_need 10 = .ok (.putfield 22, 3) := by decide +kernel
theorem dX6_need_13 : decode cX6_need 13 = .ok (.return_, 1) := by decide +kernel
theorem dX6_readSigned_0 : decode cX6_readSigned 0 = .ok (.aload_n 0, 1) := by decide +kernel
theorem dX6_readSigned_1 : decode cX6_readSigned 1 = .ok (.bipush 45, 2) := by decide +kernel
theorem dX6_readSigned_3 : decode cX6_readSigned 3 = .ok (.invokevirtual 30, 3) := by decide +kernel
theorem dX6_readSigned_6 : decode cX6_readSigned 6 = .ok (.ifCond .eq 12, 3) := by decide +kernel
theorem dX6_readSigned_9 : decode cX6_readSigned 9 = .ok (.aload_n 0, 1) := by decide +kernel
theorem dX6_readSigned_10 : decode cX6_readSigned 10 = .ok (.iload_n 1, 1) := by decide +kernel
theorem dX6_readSigned_11 : decode cX6_readSigned 11 = .ok (.invokevirtual 50, 3) := by decide +kernel
theorem dX6_readSigned_14 : decode cX6_readSigned 14 = .ok (.ineg, 1) := by decide +kernel
theorem dX6_readSigned_15 : decode cX6_readSigned 15 = .ok (.goto 8, 3) := by decide +kernel
theorem dX6_readSigned_18 : decode cX6_readSigned 18 = .ok (.aload_n 0, 1) := by decide +kernel
theorem dX6_readSigned_19 : decode cX6_readSigned 19 = .ok (.iload_n 1, 1) := by decide +kernel
theorem dX6_readSigned_20 : decode cX6_readSigned 20 = .ok (.invokevirtual 50, 3) := by decide +kernel
theorem dX6_readSigned_23 : decode cX6_readSigned 23 = .ok (.ireturn, 1) := by decide +kernel
theorem dX6_readNumber_0 : decode cX6_readNumber 0 = .ok (.iconst 0, 1) := by decide +kernel
theorem dX6_readNumber_1 : decode cX6_readNumber 1 = .ok (.istore_n 2, 1) := by decide +kernel
theorem dX6_readNumber_2 : decode cX6_readNumber 2 = .ok (.iconst 0, 1) := by decide +kernel
theorem dX6_readNumber_3 : decode cX6_readNumber 3 = .ok (.istore_n 3, 1) := by decide +kernel
theorem dX6_readNumber_4 : decode cX6_readNumber 4 = .ok (.iload_n 3, 1) := by decide +kernel
theorem dX6_readNumber_5 : decode cX6_readNumber 5 = .ok (.iload_n 1, 1) := by decide +kernel
theorem dX6_readNumber_6 : decode cX6_readNumber 6 = .ok (.if_icmp .ge 44, 3) := by decide +kernel
theorem dX6_readNumber_9 : decode cX6_readNumber 9 = .ok (.aload_n 0, 1) := by decide +kernel
theorem dX6_readNumber_10 : decode cX6_readNumber 10 = .ok (.invokevirtual 103, 3) := by decide +kernel
theorem dX6_readNumber_13 : decode cX6_readNumber 13 = .ok (.ifCond .eq 37, 3) := by decide +kernel
theorem dX6_readNumber_16 : decode cX6_readNumber 16 = .ok (.bipush 10, 2) := by decide +kernel
theorem dX6_readNumber_18 : decode cX6_readNumber 18 = .ok (.iload_n 2, 1) := by decide +kernel
theorem dX6_readNumber_19 : decode cX6_readNumber 19 = .ok (.imul, 1) := by decide +kernel
theorem dX6_readNumber_20 : decode cX6_readNumber 20 = .ok (.aload_n 0, 1) := by decide +kernel
theorem dX6_readNumber_21 : decode cX6_readNumber 21 = .ok (.getfield 9, 3) := by decide +kernel
theorem dX6_readNumber_24 : decode cX6_readNumber 24 = .ok (.aload_n 0, 1) := by decide +kernel
theorem dX6_readNumber_25 : decode cX6_readNumber 25 = .ok (.getfield 19, 3) := by decide +kernel
theorem dX6_readNumber_28 : decode cX6_readNumber 28 = .ok (.iaload, 1) := by decide +kernel
theorem dX6_readNumber_29 : decode cX6_readNumber 29 = .ok (.iadd, 1) := by decide +kernel
theorem dX6_readNumber_30 : decode cX6_readNumber 30 = .ok (.bipush 48, 2) := by decide +kernel
theorem dX6_readNumber_32 : decode cX6_readNumber 32 = .ok (.isub, 1) := by decide +kernel
theorem dX6_readNumber_33 : decode cX6_readNumber 33 = .ok (.istore_n 2, 1) := by decide +kernel
theorem dX6_readNumber_34 : decode cX6_readNumber 34 = .ok (.aload_n 0, 1) := by decide +kernel
theorem dX6_readNumber_35 : decode cX6_readNumber 35 = .ok (.dup, 1) := by decide +kernel
theorem dX6_readNumber_36 : decode cX6_readNumber 36 = .ok (.getfield 19, 3) := by decide +kernel
theorem dX6_readNumber_39 : decode cX6_readNumber 39 = .ok (.iconst 1, 1) := by decide +kernel
theorem dX6_readNumber_40 : decode cX6_readNumber 40 = .ok (.iadd, 1) := by decide +kernel
theorem dX6_readNumber_41 : decode cX6_readNumber 41 = .ok (.putfield 19, 3) := by decide +kernel
theorem dX6_readNumber_44 : decode cX6_readNumber 44 = .ok (.iinc 3 1, 3) := by decide +kernel
theorem dX6_readNumber_47 : decode cX6_readNumber 47 = .ok (.goto (-43), 3) := by decide +kernel
theorem dX6_readNumber_50 : decode cX6_readNumber 50 = .ok (.iload_n 3, 1) := by decide +kernel
theorem dX6_readNumber_51 : decode cX6_readNumber 51 = .ok (.ifCond .ne 8, 3) := by decide +kernel
theorem dX6_readNumber_54 : decode cX6_readNumber 54 = .ok (.aload_n 0, 1) := by decide +kernel
theorem dX6_readNumber_55 : decode cX6_readNumber 55 = .ok (.iconst 1, 1) := by decide +kernel
theorem dX6_readNumber_56 : decode cX6_readNumber 56 = .ok (.putfield 22, 3) := by decide +kernel
theorem dX6_readNumber_59 : decode cX6_readNumber 59 = .ok (.iload_n 2, 1) := by decide +kernel
theorem dX6_readNumber_60 : decode cX6_readNumber 60 = .ok (.ireturn, 1) := by decide +kernel
theorem dX6_isDigitNext_0 : decode cX6_isDigitNext 0 = .ok (.aload_n 0, 1) := by decide +kernel
theorem dX6_isDigitNext_1 : decode cX6_isDigitNext 1 = .ok (.getfield 22, 3) := by decide +kernel
theorem dX6_isDigitNext_4 : decode cX6_isDigitNext 4 = .ok (.ifCond .ne 46, 3) := by decide +kernel
theorem dX6_isDigitNext_7 : decode cX6_isDigitNext 7 = .ok (.aload_n 0, 1) := by decide +kernel
theorem dX6_isDigitNext_8 : decode cX6_isDigitNext 8 = .ok (.getfield 19, 3) := by decide +kernel
theorem dX6_isDigitNext_11 : decode cX6_isDigitNext 11 = .ok (.aload_n 0, 1) := by decide +kernel
theorem dX6_isDigitNext_12 : decode cX6_isDigitNext 12 = .ok (.getfield 15, 3) := by decide +kernel
theorem dX6_isDigitNext_15 : decode cX6_isDigitNext 15 = .ok (.if_icmp .ge 35, 3) := by decide +kernel
theorem dX6_isDigitNext_18 : decode cX6_isDigitNext 18 = .ok (.aload_n 0, 1) := by decide +kernel
theorem dX6_isDigitNext_19 : decode cX6_isDigitNext 19 = .ok (.getfield 9, 3) := by decide +kernel
theorem dX6_isDigitNext_22 : decode cX6_isDigitNext 22 = .ok (.aload_n 0, 1) := by decide +kernel
theorem dX6_isDigitNext_23 : decode cX6_isDigitNext 23 = .ok (.getfield 19, 3) := by decide +kernel
theorem dX6_isDigitNext_26 : decode cX6_isDigitNext 26 = .ok (.iaload, 1) := by decide +kernel
theorem dX6_isDigitNext_27 : decode cX6_isDigitNext 27 = .ok (.bipush 48, 2) := by decide +kernel
theorem dX6_isDigitNext_29 : decode cX6_isDigitNext 29 = .ok (.if_icmp .lt 21, 3) := by decide +kernel
theorem dX6_isDigitNext_32 : decode cX6_isDigitNext 32 = .ok (.aload_n 0, 1) := by decide +kernel
theorem dX6_isDigitNext_33 : decode cX6_isDigitNext 33 = .ok (.getfield 9, 3) := by decide +kernel
theorem dX6_isDigitNext_36 : decode cX6_isDigitNext 36 = .ok (.aload_n 0, 1) := by decide +kernel
theorem dX6_isDigitNext_37 : decode cX6_isDigitNext 37 = .ok (.getfield 19, 3) := by decide +kernel
theorem dX6_isDigitNext_40 : decode cX6_isDigitNext 40 = .ok (.iaload, 1) := by decide +kernel
theorem dX6_isDigitNext_41 : decode cX6_isDigitNext 41 = .ok (.bipush 57, 2) := by decide +kernel
theorem dX6_isDigitNext_43 : decode cX6_isDigitNext 43 = .ok (.if_icmp .gt 7, 3) := by decide +kernel
theorem dX6_isDigitNext_46 : decode cX6_isDigitNext 46 = .ok (.iconst 1, 1) := by decide +kernel
theorem dX6_isDigitNext_47 : decode cX6_isDigitNext 47 = .ok (.goto 4, 3) := by decide +kernel
theorem dX6_isDigitNext_50 : decode cX6_isDigitNext 50 = .ok (.iconst 0, 1) := by decide +kernel
theorem dX6_isDigitNext_51 : decode cX6_isDigitNext 51 = .ok (.ireturn, 1) := by decide +kernel
theorem dX7_init_0 : decode cX7_init 0 = .ok (.aload_n 0, 1) := by decide +kernel
theorem dX7_init_1 : decode cX7_init 1 = .ok (.invokespecial 1, 3) := by decide +kernel
theorem dX7_init_4 : decode cX7_init 4 = .ok (.return_, 1) := by decide +kernel
theorem dX7_drawBelow_0 : decode cX7_drawBelow 0 = .ok (.aload_n 0, 1) := by decide +kernel
theorem dX7_drawBelow_1 : decode cX7_drawBelow 1 = .ok (.aload_n 0, 1) := by decide +kernel
theorem dX7_drawBelow_2 : decode cX7_drawBelow 2 = .ok (.getfield 7, 3) := by decide +kernel
theorem dX7_drawBelow_5 : decode cX7_drawBelow 5 = .ok (.ldc 13, 2) := by decide +kernel
theorem dX7_drawBelow_7 : decode cX7_drawBelow 7 = .ok (.imul, 1) := by decide +kernel
theorem dX7_drawBelow_8 : decode cX7_drawBelow 8 = .ok (.sipush 12345, 3) := by decide +kernel
theorem dX7_drawBelow_11 : decode cX7_drawBelow 11 = .ok (.iadd, 1) := by decide +kernel
theorem dX7_drawBelow_12 : decode cX7_drawBelow 12 = .ok (.putfield 7, 3) := by decide +kernel
theorem dX7_drawBelow_15 : decode cX7_drawBelow 15 = .ok (.iload_n 1, 1) := by decide +kernel
theorem dX7_drawBelow_16 : decode cX7_drawBelow 16 = .ok (.ifCond .le 18, 3) := by decide +kernel
theorem dX7_drawBelow_19 : decode cX7_drawBelow 19 = .ok (.aload_n 0, 1) := by decide +kernel
theorem dX7_drawBelow_20 : decode cX7_drawBelow 20 = .ok (.getfield 7, 3) := by decide +kernel
theorem dX7_drawBelow_23 : decode cX7_drawBelow 23 = .ok (.ldc 14, 2) := by decide +kernel
theorem dX7_drawBelow_25 : decode cX7_drawBelow 25 = .ok (.iand, 1) := by decide +kernel
theorem dX7_drawBelow_26 : decode cX7_drawBelow 26 = .ok (.ldc 15, 2) := by decide +kernel
theorem dX7_drawBelow_28 : decode cX7_drawBelow 28 = .ok (.idiv, 1) := by decide +kernel
theorem dX7_drawBelow_29 : decode cX7_drawBelow 29 = .ok (.iload_n 1, 1) := by decide +kernel
theorem dX7_drawBelow_30 : decode cX7_drawBelow 30 = .ok (.irem, 1) := by decide +kernel
theorem dX7_drawBelow_31 : decode cX7_drawBelow 31 = .ok (.goto 4, 3) := by decide +kernel
theorem dX7_drawBelow_34 : decode cX7_drawBelow 34 = .ok (.iconst 0, 1) := by decide +kernel
theorem dX7_drawBelow_35 : decode cX7_drawBelow 35 = .ok (.ireturn, 1) := by decide +kernel
theorem dX8_init_0 : decode cX8_init 0 = .ok (.aload_n 0, 1) := by decide +kernel
theorem dX8_init_1 : decode cX8_init 1 = .ok (.invokespecial 1, 3) := by decide +kernel
theorem dX8_init_4 : decode cX8_init 4 = .ok (.return_, 1) := by decide +kernel
theorem dX8_copyFrom_0 : decode cX8_copyFrom 0 = .ok (.aload_n 0, 1) := by decide +kernel
theorem dX8_copyFrom_1 : decode cX8_copyFrom 1 = .ok (.aload_n 1, 1) := by decide +kernel
theorem dX8_copyFrom_2 : decode cX8_copyFrom 2 = .ok (.getfield 7, 3) := by decide +kernel
theorem dX8_copyFrom_5 : decode cX8_copyFrom 5 = .ok (.putfield 7, 3) := by decide +kernel
theorem dX8_copyFrom_8 : decode cX8_copyFrom 8 = .ok (.aload_n 0, 1) := by decide +kernel
theorem dX8_copyFrom_9 : decode cX8_copyFrom 9 = .ok (.aload_n 1, 1) := by decide +kernel
theorem dX8_copyFrom_10 : decode cX8_copyFrom 10 = .ok (.getfield 13, 3) := by decide +kernel
theorem dX8_copyFrom_13 : decode cX8_copyFrom 13 = .ok (.putfield 13, 3) := by decide +kernel
theorem dX8_copyFrom_16 : decode cX8_copyFrom 16 = .ok (.aload_n 0, 1) := by decide +kernel
theorem dX8_copyFrom_17 : decode cX8_copyFrom 17 = .ok (.aload_n 1, 1) := by decide +kernel
theorem dX8_copyFrom_18 : decode cX8_copyFrom 18 = .ok (.getfield 16, 3) := by decide +kernel
theorem dX8_copyFrom_21 : decode cX8_copyFrom 21 = .ok (.putfield 16, 3) := by decide +kernel
theorem dX8_copyFrom_24 : decode cX8_copyFrom 24 = .ok (.aload_n 0, 1) := by decide +kernel
theorem dX8_copyFrom_25 : decode cX8_copyFrom 25 = .ok (.aload_n 1, 1) := by decide +kernel
theorem dX8_copyFrom_26 : decode cX8_copyFrom 26 = .ok (.getfield 19, 3) := by decide +kernel
theorem dX8_copyFrom_29 : decode cX8_copyFrom 29 = .ok (.putfield 19, 3) := by decide +kernel
theorem dX8_copyFrom_32 : decode cX8_copyFrom 32 = .ok (.aload_n 0, 1) := by decide +kernel
theorem dX8_copyFrom_33 : decode cX8_copyFrom 33 = .ok (.aload_n 1, 1) := by decide +kernel
theorem dX8_copyFrom_34 : decode cX8_copyFrom 34 = .ok (.getfield 22, 3) := by decide +kernel
theorem dX8_copyFrom_37 : decode cX8_copyFrom 37 = .ok (.putfield 22, 3) := by decide +kernel
theorem dX8_copyFrom_40 : decode cX8_copyFrom 40 = .ok (.aload_n 0, 1) := by decide +kernel
theorem dX8_copyFrom_41 : decode cX8_copyFrom 41 = .ok (.aload_n 1, 1) := by decide +kernel
theorem dX8_copyFrom_42 : decode cX8_copyFrom 42 = .ok (.getfield 25, 3) := by decide +kernel
theorem dX8_copyFrom_45 : decode cX8_copyFrom 45 = .ok (.putfield 25, 3) := by decide +kernel
theorem dX8_copyFrom_48 : decode cX8_copyFrom 48 = .ok (.return_, 1) := by decide +kernel
theorem dX8_driftBy_0 : decode cX8_driftBy 0 = .ok (.aload_n 0, 1) := by decide +kernel
theorem dX8_driftBy_1 : decode cX8_driftBy 1 = .ok (.dup, 1) := by decide +kernel
theorem dX8_driftBy_2 : decode cX8_driftBy 2 = .ok (.getfield 22, 3) := by decide +kernel
theorem dX8_driftBy_5 : decode cX8_driftBy 5 = .ok (.aload_n 2, 1) := by decide +kernel
theorem dX8_driftBy_6 : decode cX8_driftBy 6 = .ok (.aload_n 1, 1) := by decide +kernel
theorem dX8_driftBy_7 : decode cX8_driftBy 7 = .ok (.aload_n 0, 1) := by decide +kernel
theorem dX8_driftBy_8 : decode cX8_driftBy 8 = .ok (.getfield 13, 3) := by decide +kernel
theorem dX8_driftBy_11 : decode cX8_driftBy 11 = .ok (.invokevirtual 28, 3) := by decide +kernel
theorem dX8_driftBy_14 : decode cX8_driftBy 14 = .ok (.iadd, 1) := by decide +kernel
theorem dX8_driftBy_15 : decode cX8_driftBy 15 = .ok (.putfield 22, 3) := by decide +kernel
theorem dX8_driftBy_18 : decode cX8_driftBy 18 = .ok (.aload_n 0, 1) := by decide +kernel
theorem dX8_driftBy_19 : decode cX8_driftBy 19 = .ok (.dup, 1) := by decide +kernel
theorem dX8_driftBy_20 : decode cX8_driftBy 20 = .ok (.getfield 25, 3) := by decide +kernel
theorem dX8_driftBy_23 : decode cX8_driftBy 23 = .ok (.aload_n 2, 1) := by decide +kernel
theorem dX8_driftBy_24 : decode cX8_driftBy 24 = .ok (.aload_n 1, 1) := by decide +kernel
theorem dX8_driftBy_25 : decode cX8_driftBy 25 = .ok (.aload_n 0, 1) := by decide +kernel
theorem dX8_driftBy_26 : decode cX8_driftBy 26 = .ok (.getfield 13, 3) := by decide +kernel
theorem dX8_driftBy_29 : decode cX8_driftBy 29 = .ok (.invokevirtual 34, 3) := by decide +kernel
theorem dX8_driftBy_32 : decode cX8_driftBy 32 = .ok (.iadd, 1) := by decide +kernel
theorem dX8_driftBy_33 : decode cX8_driftBy 33 = .ok (.putfield 25, 3) := by decide +kernel
theorem dX8_driftBy_36 : decode cX8_driftBy 36 = .ok (.return_, 1) := by decide +kernel
theorem dX8_eat_0 : decode cX8_eat 0 = .ok (.aload_n 0, 1) := by decide +kernel
theorem dX8_eat_1 : decode cX8_eat 1 = .ok (.getfield 19, 3) := by decide +kernel
theorem dX8_eat_4 : decode cX8_eat 4 = .ok (.aload_n 0, 1) := by decide +kernel
theorem dX8_eat_5 : decode cX8_eat 5 = .ok (.getfield 16, 3) := by decide +kernel
theorem dX8_eat_8 : decode cX8_eat 8 = .ok (.invokestatic 37, 3) := by decide +kernel
theorem dX8_eat_11 : decode cX8_eat 11 = .ok (.istore_n 1, 1) := by decide +kernel
theorem dX8_eat_12 : decode cX8_eat 12 = .ok (.aload_n 0, 1) := by decide +kernel
theorem dX8_eat_13 : decode cX8_eat 13 = .ok (.dup, 1) := by decide +kernel
theorem dX8_eat_14 : decode cX8_eat 14 = .ok (.getfield 19, 3) := by decide +kernel
theorem dX8_eat_17 : decode cX8_eat 17 = .ok (.iload_n 1, 1) := by decide +kernel
theorem dX8_eat_18 : decode cX8_eat 18 = .ok (.isub, 1) := by decide +kernel
theorem dX8_eat_19 : decode cX8_eat 19 = .ok (.putfield 19, 3) := by decide +kernel
theorem dX8_eat_22 : decode cX8_eat 22 = .ok (.aload_n 0, 1) := by decide +kernel
theorem dX8_eat_23 : decode cX8_eat 23 = .ok (.getfield 16, 3) := by decide +kernel
theorem dX8_eat_26 : decode cX8_eat 26 = .ok (.iload_n 1, 1) := by decide +kernel
theorem dX8_eat_27 : decode cX8_eat 27 = .ok (.isub, 1) := by decide +kernel
theorem dX8_eat_28 : decode cX8_eat 28 = .ok (.ireturn, 1) := by decide +kernel
theorem dX9_init_0 : decode cX9_init 0 = .ok (.aload_n 0, 1) := by decide +kernel
theorem dX9_init_1 : decode cX9_init 1 = .ok (.invokespecial 1, 3) := by decide +kernel
theorem dX9_init_4 : decode cX9_init 4 = .ok (.return_, 1) := by decide +kernel
theorem dX9_eastward_0 : decode cX9_eastward 0 = .ok (.aload_n 1, 1) := by decide +kernel
theorem dX9_eastward_1 : decode cX9_eastward 1 = .ok (.getfield 7, 3) := by decide +kernel
theorem dX9_eastward_4 : decode cX9_eastward 4 = .ok (.iload_n 2, 1) := by decide +kernel
theorem dX9_eastward_5 : decode cX9_eastward 5 = .ok (.invokestatic 13, 3) := by decide +kernel
theorem dX9_eastward_8 : decode cX9_eastward 8 = .ok (.aload_n 0, 1) := by decide +kernel
theorem dX9_eastward_9 : decode cX9_eastward 9 = .ok (.aload_n 1, 1) := by decide +kernel
theorem dX9_eastward_10 : decode cX9_eastward 10 = .ok (.iload_n 2, 1) := by decide +kernel
theorem dX9_eastward_11 : decode cX9_eastward 11 = .ok (.invokespecial 19, 3) := by decide +kernel
theorem dX9_eastward_14 : decode cX9_eastward 14 = .ok (.imul, 1) := by decide +kernel
theorem dX9_eastward_15 : decode cX9_eastward 15 = .ok (.ireturn, 1) := by decide +kernel
theorem dX9_northward_0 : decode cX9_northward 0 = .ok (.aload_n 1, 1) := by decide +kernel
theorem dX9_northward_1 : decode cX9_northward 1 = .ok (.getfield 7, 3) := by decide +kernel
theorem dX9_northward_4 : decode cX9_northward 4 = .ok (.iload_n 2, 1) := by decide +kernel
theorem dX9_northward_5 : decode cX9_northward 5 = .ok (.invokestatic 13, 3) := by decide +kernel
theorem dX9_northward_8 : decode cX9_northward 8 = .ok (.aload_n 0, 1) := by decide +kernel
theorem dX9_northward_9 : decode cX9_northward 9 = .ok (.aload_n 1, 1) := by decide +kernel
theorem dX9_northward_10 : decode cX9_northward 10 = .ok (.iload_n 2, 1) := by decide +kernel
theorem dX9_northward_11 : decode cX9_northward 11 = .ok (.invokespecial 23, 3) := by decide +kernel
theorem dX9_northward_14 : decode cX9_northward 14 = .ok (.imul, 1) := by decide +kernel
theorem dX9_northward_15 : decode cX9_northward 15 = .ok (.ireturn, 1) := by decide +kernel
theorem dX9_way_0 : decode cX9_way 0 = .ok (.iload_n 1, 1) := by decide +kernel
theorem dX9_way_1 : decode cX9_way 1 = .ok (.iconst 2, 1) := by decide +kernel
theorem dX9_way_2 : decode cX9_way 2 = .ok (.iadd, 1) := by decide +kernel
theorem dX9_way_3 : decode cX9_way 3 = .ok (.istore_n 2, 1) := by decide +kernel
theorem dX9_way_4 : decode cX9_way 4 = .ok (.iload_n 2, 1) := by decide +kernel
theorem dX9_way_5 : decode cX9_way 5 = .ok (.ifCond .le 13, 3) := by decide +kernel
theorem dX9_way_8 : decode cX9_way 8 = .ok (.iload_n 0, 1) := by decide +kernel
theorem dX9_way_9 : decode cX9_way 9 = .ok (.iload_n 2, 1) := by decide +kernel
theorem dX9_way_10 : decode cX9_way 10 = .ok (.irem, 1) := by decide +kernel
theorem dX9_way_11 : decode cX9_way 11 = .ok (.ifCond .ne 7, 3) := by decide +kernel
theorem dX9_way_14 : decode cX9_way 14 = .ok (.iconst (-1), 1) := by decide +kernel
theorem dX9_way_15 : decode cX9_way 15 = .ok (.goto 4, 3) := by decide +kernel
theorem dX9_way_18 : decode cX9_way 18 = .ok (.iconst 1, 1) := by decide +kernel
theorem dX9_way_19 : decode cX9_way 19 = .ok (.ireturn, 1) := by decide +kernel
theorem dX10_init_0 : decode cX10_init 0 = .ok (.aload_n 0, 1) := by decide +kernel
theorem dX10_init_1 : decode cX10_init 1 = .ok (.invokespecial 1, 3) := by decide +kernel
theorem dX10_init_4 : decode cX10_init 4 = .ok (.return_, 1) := by decide +kernel
theorem dX10_eastward_0 : decode cX10_eastward 0 = .ok (.aload_n 0, 1) := by decide +kernel
theorem dX10_eastward_1 : decode cX10_eastward 1 = .ok (.aload_n 1, 1) := by decide +kernel
theorem dX10_eastward_2 : decode cX10_eastward 2 = .ok (.iload_n 2, 1) := by decide +kernel
theorem dX10_eastward_3 : decode cX10_eastward 3 = .ok (.invokespecial 7, 3) := by decide +kernel
theorem dX10_eastward_6 : decode cX10_eastward 6 = .ok (.ineg, 1) := by decide +kernel
theorem dX10_eastward_7 : decode cX10_eastward 7 = .ok (.ireturn, 1) := by decide +kernel
theorem dX10_northward_0 : decode cX10_northward 0 = .ok (.aload_n 0, 1) := by decide +kernel
theorem dX10_northward_1 : decode cX10_northward 1 = .ok (.aload_n 1, 1) := by decide +kernel
theorem dX10_northward_2 : decode cX10_northward 2 = .ok (.iload_n 2, 1) := by decide +kernel
theorem dX10_northward_3 : decode cX10_northward 3 = .ok (.invokespecial 11, 3) := by decide +kernel
theorem dX10_northward_6 : decode cX10_northward 6 = .ok (.ireturn, 1) := by decide +kernel
theorem dX11_init_0 : decode cX11_init 0 = .ok (.aload_n 0, 1) := by decide +kernel
theorem dX11_init_1 : decode cX11_init 1 = .ok (.invokespecial 1, 3) := by decide +kernel
theorem dX11_init_4 : decode cX11_init 4 = .ok (.aload_n 0, 1) := by decide +kernel
theorem dX11_init_5 : decode cX11_init 5 = .ok (.bipush 6, 2) := by decide +kernel
theorem dX11_init_7 : decode cX11_init 7 = .ok (.anewarray 7, 3) := by decide +kernel
theorem dX11_init_10 : decode cX11_init 10 = .ok (.dup, 1) := by decide +kernel
theorem dX11_init_11 : decode cX11_init 11 = .ok (.iconst 0, 1) := by decide +kernel
theorem dX11_init_12 : decode cX11_init 12 = .ok (.new 7, 3) := by decide +kernel
theorem dX11_init_15 : decode cX11_init 15 = .ok (.dup, 1) := by decide +kernel
theorem dX11_init_16 : decode cX11_init 16 = .ok (.invokespecial 9, 3) := by decide +kernel
theorem dX11_init_19 : decode cX11_init 19 = .ok (.aastore, 1) := by decide +kernel
theorem dX11_init_20 : decode cX11_init 20 = .ok (.dup, 1) := by decide +kernel
theorem dX11_init_21 : decode cX11_init 21 = .ok (.iconst 1, 1) := by decide +kernel
theorem dX11_init_22 : decode cX11_init 22 = .ok (.new 10, 3) := by decide +kernel
theorem dX11_init_25 : decode cX11_init 25 = .ok (.dup, 1) := by decide +kernel
theorem dX11_init_26 : decode cX11_init 26 = .ok (.invokespecial 12, 3) := by decide +kernel
theorem dX11_init_29 : decode cX11_init 29 = .ok (.aastore, 1) := by decide +kernel
theorem dX11_init_30 : decode cX11_init 30 = .ok (.dup, 1) := by decide +kernel
theorem dX11_init_31 : decode cX11_init 31 = .ok (.iconst 2, 1) := by decide +kernel
theorem dX11_init_32 : decode cX11_init 32 = .ok (.new 13, 3) := by decide +kernel
theorem dX11_init_35 : decode cX11_init 35 = .ok (.dup, 1) := by decide +kernel
theorem dX11_init_36 : decode cX11_init 36 = .ok (.invokespecial 15, 3) := by decide +kernel
theorem dX11_init_39 : decode cX11_init 39 = .ok (.aastore, 1) := by decide +kernel
theorem dX11_init_40 : decode cX11_init 40 = .ok (.dup, 1) := by decide +kernel
theorem dX11_init_41 : decode cX11_init 41 = .ok (.iconst 3, 1) := by decide +kernel
theorem dX11_init_42 : decode cX11_init 42 = .ok (.new 16, 3) := by decide +kernel
theorem dX11_init_45 : decode cX11_init 45 = .ok (.dup, 1) := by decide +kernel
theorem dX11_init_46 : decode cX11_init 46 = .ok (.invokespecial 18, 3) := by decide +kernel
theorem dX11_init_49 : decode cX11_init 49 = .ok (.aastore, 1) := by decide +kernel
theorem dX11_init_50 : decode cX11_init 50 = .ok (.dup, 1) := by decide +kernel
theorem dX11_init_51 : decode cX11_init 51 = .ok (.iconst 4, 1) := by decide +kernel
theorem dX11_init_52 : decode cX11_init 52 = .ok (.new 19, 3) := by decide +kernel
theorem dX11_init_55 : decode cX11_init 55 = .ok (.dup, 1) := by decide +kernel
theorem dX11_init_56 : decode cX11_init 56 = .ok (.invokespecial 21, 3) := by decide +kernel
theorem dX11_init_59 : decode cX11_init 59 = .ok (.aastore, 1) := by decide +kernel
theorem dX11_init_60 : decode cX11_init 60 = .ok (.dup, 1) := by decide +kernel
theorem dX11_init_61 : decode cX11_init 61 = .ok (.iconst 5, 1) := by decide +kernel
theorem dX11_init_62 : decode cX11_init 62 = .ok (.new 22, 3) := by decide +kernel
theorem dX11_init_65 : decode cX11_init 65 = .ok (.dup, 1) := by decide +kernel
theorem dX11_init_66 : decode cX11_init 66 = .ok (.invokespecial 24, 3) := by decide +kernel
theorem dX11_init_69 : decode cX11_init 69 = .ok (.aastore, 1) := by decide +kernel
theorem dX11_init_70 : decode cX11_init 70 = .ok (.putfield 25, 3) := by decide +kernel
theorem dX11_init_73 : decode cX11_init 73 = .ok (.aload_n 0, 1) := by decide +kernel
theorem dX11_init_74 : decode cX11_init 74 = .ok (.new 31, 3) := by decide +kernel
theorem dX11_init_77 : decode cX11_init 77 = .ok (.dup, 1) := by decide +kernel
theorem dX11_init_78 : decode cX11_init 78 = .ok (.invokespecial 33, 3) := by decide +kernel
theorem dX11_init_81 : decode cX11_init 81 = .ok (.putfield 34, 3) := by decide +kernel
theorem dX11_init_84 : decode cX11_init 84 = .ok (.aload_n 0, 1) := by decide +kernel
theorem dX11_init_85 : decode cX11_init 85 = .ok (.new 38, 3) := by decide +kernel
theorem dX11_init_88 : decode cX11_init 88 = .ok (.dup, 1) := by decide +kernel
theorem dX11_init_89 : decode cX11_init 89 = .ok (.invokespecial 40, 3) := by decide +kernel
theorem dX11_init_92 : decode cX11_init 92 = .ok (.putfield 41, 3) := by decide +kernel
theorem dX11_init_95 : decode cX11_init 95 = .ok (.aload_n 0, 1) := by decide +kernel
theorem dX11_init_96 : decode cX11_init 96 = .ok (.new 45, 3) := by decide +kernel
theorem dX11_init_99 : decode cX11_init 99 = .ok (.dup, 1) := by decide +kernel
theorem dX11_init_100 : decode cX11_init 100 = .ok (.invokespecial 47, 3) := by decide +kernel
theorem dX11_init_103 : decode cX11_init 103 = .ok (.putfield 48, 3) := by decide +kernel
theorem dX11_init_106 : decode cX11_init 106 = .ok (.aload_n 0, 1) := by decide +kernel
theorem dX11_init_107 : decode cX11_init 107 = .ok (.new 45, 3) := by decide +kernel
theorem dX11_init_110 : decode cX11_init 110 = .ok (.dup, 1) := by decide +kernel
theorem dX11_init_111 : decode cX11_init 111 = .ok (.invokespecial 47, 3) := by decide +kernel
theorem dX11_init_114 : decode cX11_init 114 = .ok (.putfield 52, 3) := by decide +kernel
theorem dX11_init_117 : decode cX11_init 117 = .ok (.aload_n 0, 1) := by decide +kernel
theorem dX11_init_118 : decode cX11_init 118 = .ok (.new 45, 3) := by decide +kernel
theorem dX11_init_121 : decode cX11_init 121 = .ok (.dup, 1) := by decide +kernel
theorem dX11_init_122 : decode cX11_init 122 = .ok (.invokespecial 47, 3) := by decide +kernel
theorem dX11_init_125 : decode cX11_init 125 = .ok (.putfield 55, 3) := by decide +kernel
theorem dX11_init_128 : decode cX11_init 128 = .ok (.aload_n 0, 1) := by decide +kernel
theorem dX11_init_129 : decode cX11_init 129 = .ok (.new 58, 3) := by decide +kernel
theorem dX11_init_132 : decode cX11_init 132 = .ok (.dup, 1) := by decide +kernel
theorem dX11_init_133 : decode cX11_init 133 = .ok (.invokespecial 60, 3) := by decide +kernel
theorem dX11_init_136 : decode cX11_init 136 = .ok (.putfield 61, 3) := by decide +kernel
theorem dX11_init_139 : decode cX11_init 139 = .ok (.aload_n 0, 1) := by decide +kernel
theorem dX11_init_140 : decode cX11_init 140 = .ok (.bipush 12, 2) := by decide +kernel
theorem dX11_init_142 : decode cX11_init 142 = .ok (.newarray .int, 2) := by decide +kernel
theorem dX11_init_144 : decode cX11_init 144 = .ok (.putfield 65, 3) := by decide +kernel
theorem dX11_init_147 : decode cX11_init 147 = .ok (.aload_n 0, 1) := by decide +kernel
theorem dX11_init_148 : decode cX11_init 148 = .ok (.bipush 7, 2) := by decide +kernel
theorem dX11_init_150 : decode cX11_init 150 = .ok (.newarray .int, 2) := by decide +kernel
theorem dX11_init_152 : decode cX11_init 152 = .ok (.putfield 69, 3) := by decide +kernel
theorem dX11_init_155 : decode cX11_init 155 = .ok (.return_, 1) := by decide +kernel
theorem dX11_feed_0 : decode cX11_feed 0 = .ok (.iload_n 1, 1) := by decide +kernel
theorem dX11_feed_1 : decode cX11_feed 1 = .ok (.ifCond .ge 10, 3) := by decide +kernel
theorem dX11_feed_4 : decode cX11_feed 4 = .ok (.aload_n 0, 1) := by decide +kernel
theorem dX11_feed_5 : decode cX11_feed 5 = .ok (.bipush (-4), 2) := by decide +kernel
theorem dX11_feed_7 : decode cX11_feed 7 = .ok (.invokevirtual 72, 3) := by decide +kernel
theorem dX11_feed_10 : decode cX11_feed 10 = .ok (.ireturn, 1) := by decide +kernel
theorem dX11_feed_11 : decode cX11_feed 11 = .ok (.iload_n 1, 1) := by decide +kernel
theorem dX11_feed_12 : decode cX11_feed 12 = .ok (.sipush 255, 3) := by decide +kernel
theorem dX11_feed_15 : decode cX11_feed 15 = .ok (.if_icmp .gt 15, 3) := by decide +kernel
theorem dX11_feed_18 : decode cX11_feed 18 = .ok (.aload_n 0, 1) := by decide +kernel
theorem dX11_feed_19 : decode cX11_feed 19 = .ok (.getfield 61, 3) := by decide +kernel
theorem dX11_feed_22 : decode cX11_feed 22 = .ok (.getfield 76, 3) := by decide +kernel
theorem dX11_feed_25 : decode cX11_feed 25 = .ok (.bipush 80, 2) := by decide +kernel
theorem dX11_feed_27 : decode cX11_feed 27 = .ok (.if_icmp .lt 10, 3) := by decide +kernel
theorem dX11_feed_30 : decode cX11_feed 30 = .ok (.aload_n 0, 1) := by decide +kernel
theorem dX11_feed_31 : decode cX11_feed 31 = .ok (.bipush (-6), 2) := by decide +kernel
theorem dX11_feed_33 : decode cX11_feed 33 = .ok (.invokevirtual 72, 3) := by decide +kernel
theorem dX11_feed_36 : decode cX11_feed 36 = .ok (.ireturn, 1) := by decide +kernel
theorem dX11_feed_37 : decode cX11_feed 37 = .ok (.aload_n 0, 1) := by decide +kernel
theorem dX11_feed_38 : decode cX11_feed 38 = .ok (.getfield 61, 3) := by decide +kernel
theorem dX11_feed_41 : decode cX11_feed 41 = .ok (.iload_n 1, 1) := by decide +kernel
theorem dX11_feed_42 : decode cX11_feed 42 = .ok (.invokevirtual 80, 3) := by decide +kernel
theorem dX11_feed_45 : decode cX11_feed 45 = .ok (.aload_n 0, 1) := by decide +kernel
theorem dX11_feed_46 : decode cX11_feed 46 = .ok (.getfield 61, 3) := by decide +kernel
theorem dX11_feed_49 : decode cX11_feed 49 = .ok (.getfield 76, 3) := by decide +kernel
theorem dX11_feed_52 : decode cX11_feed 52 = .ok (.ireturn, 1) := by decide +kernel
theorem dX11_pack_0 : decode cX11_pack 0 = .ok (.aload_n 0, 1) := by decide +kernel
theorem dX11_pack_1 : decode cX11_pack 1 = .ok (.getfield 52, 3) := by decide +kernel
theorem dX11_pack_4 : decode cX11_pack 4 = .ok (.aload_n 0, 1) := by decide +kernel
theorem dX11_pack_5 : decode cX11_pack 5 = .ok (.getfield 48, 3) := by decide +kernel
theorem dX11_pack_8 : decode cX11_pack 8 = .ok (.invokevirtual 84, 3) := by decide +kernel
theorem dX11_pack_11 : decode cX11_pack 11 = .ok (.aload_n 0, 1) := by decide +kernel
theorem dX11_pack_12 : decode cX11_pack 12 = .ok (.getfield 61, 3) := by decide +kernel
theorem dX11_pack_15 : decode cX11_pack 15 = .ok (.aload_n 0, 1) := by decide +kernel
theorem dX11_pack_16 : decode cX11_pack 16 = .ok (.getfield 52, 3) := by decide +kernel
theorem dX11_pack_19 : decode cX11_pack 19 = .ok (.invokevirtual 88, 3) := by decide +kernel
theorem dX11_pack_22 : decode cX11_pack 22 = .ok (.istore_n 1, 1) := by decide +kernel
theorem dX11_pack_23 : decode cX11_pack 23 = .ok (.iload_n 1, 1) := by decide +kernel
theorem dX11_pack_24 : decode cX11_pack 24 = .ok (.ifCond .le 14, 3) := by decide +kernel
theorem dX11_pack_27 : decode cX11_pack 27 = .ok (.aload_n 0, 1) := by decide +kernel
theorem dX11_pack_28 : decode cX11_pack 28 = .ok (.getfield 48, 3) := by decide +kernel
theorem dX11_pack_31 : decode cX11_pack 31 = .ok (.aload_n 0, 1) := by decide +kernel
theorem dX11_pack_32 : decode cX11_pack 32 = .ok (.getfield 52, 3) := by decide +kernel
theorem dX11_pack_35 : decode cX11_pack 35 = .ok (.invokevirtual 84, 3) := by decide +kernel
theorem dX11_pack_38 : decode cX11_pack 38 = .ok (.iload_n 1, 1) := by decide +kernel
theorem dX11_pack_39 : decode cX11_pack 39 = .ok (.ireturn, 1) := by decide +kernel
theorem dX11_ship_0 : decode cX11_ship 0 = .ok (.aload_n 0, 1) := by decide +kernel
theorem dX11_ship_1 : decode cX11_ship 1 = .ok (.iload_n 1, 1) := by decide +kernel
theorem dX11_ship_2 : decode cX11_ship 2 = .ok (.invokevirtual 92, 3) := by decide +kernel
theorem dX11_ship_5 : decode cX11_ship 5 = .ok (.iload_n 2, 1) := by decide +kernel
theorem dX11_ship_6 : decode cX11_ship 6 = .ok (.bipush 7, 2) := by decide +kernel
theorem dX11_ship_8 : decode cX11_ship 8 = .ok (.invokestatic 95, 3) := by decide +kernel
theorem dX11_ship_11 : decode cX11_ship 11 = .ok (.invokestatic 99, 3) := by decide +kernel
theorem dX11_ship_14 : decode cX11_ship 14 = .ok (.istore_n 3, 1) := by decide +kernel
theorem dX11_ship_15 : decode cX11_ship 15 = .ok (.iload_n 3, 1) := by decide +kernel
theorem dX11_ship_16 : decode cX11_ship 16 = .ok (.ifCond .eq 9, 3) := by decide +kernel
theorem dX11_ship_19 : decode cX11_ship 19 = .ok (.aload_n 0, 1) := by decide +kernel
theorem dX11_ship_20 : decode cX11_ship 20 = .ok (.iload_n 3, 1) := by decide +kernel
theorem dX11_ship_21 : decode cX11_ship 21 = .ok (.invokevirtual 72, 3) := by decide +kernel
theorem dX11_ship_24 : decode cX11_ship 24 = .ok (.ireturn, 1) := by decide +kernel
theorem dX11_ship_25 : decode cX11_ship 25 = .ok (.aload_n 0, 1) := by decide +kernel
theorem dX11_ship_26 : decode cX11_ship 26 = .ok (.getfield 48, 3) := by decide +kernel
theorem dX11_ship_29 : decode cX11_ship 29 = .ok (.getfield 102, 3) := by decide +kernel
theorem dX11_ship_32 : decode cX11_ship 32 = .ok (.iload_n 1, 1) := by decide +kernel
theorem dX11_ship_33 : decode cX11_ship 33 = .ok (.aaload, 1) := by decide +kernel
theorem dX11_ship_34 : decode cX11_ship 34 = .ok (.astore 4, 2) := by decide +kernel
theorem dX11_ship_36 : decode cX11_ship 36 = .ok (.iload_n 2, 1) := by decide +kernel
theorem dX11_ship_37 : decode cX11_ship 37 = .ok (.tableswitch 81 0 5 #[39, 45, 51, 57, 63, 72], 39) := by decide +kernel
theorem dX11_ship_76 : decode cX11_ship 76 = .ok (.aload 4, 2) := by decide +kernel
theorem dX11_ship_78 : decode cX11_ship 78 = .ok (.getfield 106, 3) := by decide +kernel
theorem dX11_ship_81 : decode cX11_ship 81 = .ok (.ireturn, 1) := by decide +kernel
theorem dX11_ship_82 : decode cX11_ship 82 = .ok (.aload 4, 2) := by decide +kernel
theorem dX11_ship_84 : decode cX11_ship 84 = .ok (.getfield 111, 3) := by decide +kernel
theorem dX11_ship_87 : decode cX11_ship 87 = .ok (.ireturn, 1) := by decide +kernel
theorem dX11_ship_88 : decode cX11_ship 88 = .ok (.aload 4, 2) := by decide +kernel
theorem dX11_ship_90 : decode cX11_ship 90 = .ok (.getfield 114, 3) := by decide +kernel
theorem dX11_ship_93 : decode cX11_ship 93 = .ok (.ireturn, 1) := by decide +kernel
theorem dX11_ship_94 : decode cX11_ship 94 = .ok (.aload 4, 2) := by decide +kernel
theorem dX11_ship_96 : decode cX11_ship 96 = .ok (.getfield 117, 3) := by decide +kernel
theorem dX11_ship_99 : decode cX11_ship 99 = .ok (.ireturn, 1) := by decide +kernel
theorem dX11_ship_100 : decode cX11_ship 100 = .ok (.ldc 120, 2) := by decide +kernel
theorem dX11_ship_102 : decode cX11_ship 102 = .ok (.aload 4, 2) := by decide +kernel
theorem dX11_ship_104 : decode cX11_ship 104 = .ok (.getfield 121, 3) := by decide +kernel
theorem dX11_ship_107 : decode cX11_ship 107 = .ok (.iadd, 1) := by decide +kernel
theorem dX11_ship_108 : decode cX11_ship 108 = .ok (.ireturn, 1) := by decide +kernel
theorem dX11_ship_109 : decode cX11_ship 109 = .ok (.ldc 120, 2) := by decide +kernel
theorem dX11_ship_111 : decode cX11_ship 111 = .ok (.aload 4, 2) := by decide +kernel
theorem dX11_ship_113 : decode cX11_ship 113 = .ok (.getfield 124, 3) := by decide +kernel
theorem dX11_ship_116 : decode cX11_ship 116 = .ok (.iadd, 1) := by decide +kernel
theorem dX11_ship_117 : decode cX11_ship 117 = .ok (.ireturn, 1) := by decide +kernel
theorem dX11_ship_118 : decode cX11_ship 118 = .ok (.ldc 120, 2) := by decide +kernel
theorem dX11_ship_120 : decode cX11_ship 120 = .ok (.aload_n 0, 1) := by decide +kernel
theorem dX11_ship_121 : decode cX11_ship 121 = .ok (.aload 4, 2) := by decide +kernel
theorem dX11_ship_123 : decode cX11_ship 123 = .ok (.iload_n 2, 1) := by decide +kernel
theorem dX11_ship_124 : decode cX11_ship 124 = .ok (.bipush 6, 2) := by decide +kernel
theorem dX11_ship_126 : decode cX11_ship 126 = .ok (.if_icmp .ne 7, 3) := by decide +kernel
theorem dX11_ship_129 : decode cX11_ship 129 = .ok (.iconst 1, 1) := by decide +kernel
theorem dX11_ship_130 : decode cX11_ship 130 = .ok (.goto 4, 3) := by decide +kernel
theorem dX11_ship_133 : decode cX11_ship 133 = .ok (.iconst 0, 1) := by decide +kernel
theorem dX11_ship_134 : decode cX11_ship 134 = .ok (.invokevirtual 127, 3) := by decide +kernel
theorem dX11_ship_137 : decode cX11_ship 137 = .ok (.iadd, 1) := by decide +kernel
theorem dX11_ship_138 : decode cX11_ship 138 = .ok (.ireturn, 1) := by decide +kernel
theorem dX11_wind_0 : decode cX11_wind 0 = .ok (.iload_n 1, 1) := by decide +kernel
theorem dX11_wind_1 : decode cX11_wind 1 = .ok (.invokestatic 131, 3) := by decide +kernel
theorem dX11_wind_4 : decode cX11_wind 4 = .ok (.ifCond .eq 11, 3) := by decide +kernel
theorem dX11_wind_7 : decode cX11_wind 7 = .ok (.aload_n 0, 1) := by decide +kernel
theorem dX11_wind_8 : decode cX11_wind 8 = .ok (.iload_n 1, 1) := by decide +kernel
theorem dX11_wind_9 : decode cX11_wind 9 = .ok (.invokevirtual 135, 3) := by decide +kernel
theorem dX11_wind_12 : decode cX11_wind 12 = .ok (.goto 8, 3) := by decide +kernel
theorem dX11_wind_15 : decode cX11_wind 15 = .ok (.aload_n 0, 1) := by decide +kernel
theorem dX11_wind_16 : decode cX11_wind 16 = .ok (.iconst (-1), 1) := by decide +kernel
theorem dX11_wind_17 : decode cX11_wind 17 = .ok (.invokevirtual 72, 3) := by decide +kernel
theorem dX11_wind_20 : decode cX11_wind 20 = .ok (.ireturn, 1) := by decide +kernel
theorem dX11_blow_0 : decode cX11_blow 0 = .ok (.iload_n 1, 1) := by decide +kernel
theorem dX11_blow_1 : decode cX11_blow 1 = .ok (.invokestatic 131, 3) := by decide +kernel
theorem dX11_blow_4 : decode cX11_blow 4 = .ok (.ifCond .ne 9, 3) := by decide +kernel
theorem dX11_blow_7 : decode cX11_blow 7 = .ok (.aload_n 0, 1) := by decide +kernel
theorem dX11_blow_8 : decode cX11_blow 8 = .ok (.iconst (-1), 1) := by decide +kernel
theorem dX11_blow_9 : decode cX11_blow 9 = .ok (.invokevirtual 72, 3) := by decide +kernel
theorem dX11_blow_12 : decode cX11_blow 12 = .ok (.ireturn, 1) := by decide +kernel
theorem dX11_blow_13 : decode cX11_blow 13 = .ok (.iload_n 2, 1) := by decide +kernel
theorem dX11_blow_14 : decode cX11_blow 14 = .ok (.iload_n 3, 1) := by decide +kernel
theorem dX11_blow_15 : decode cX11_blow 15 = .ok (.bipush (-4), 2) := by decide +kernel
theorem dX11_blow_17 : decode cX11_blow 17 = .ok (.iconst 4, 1) := by decide +kernel
theorem dX11_blow_18 : decode cX11_blow 18 = .ok (.invokestatic 138, 3) := by decide +kernel
theorem dX11_blow_21 : decode cX11_blow 21 = .ok (.istore 4, 2) := by decide +kernel
theorem dX11_blow_23 : decode cX11_blow 23 = .ok (.iload 4, 2) := by decide +kernel
theorem dX11_blow_25 : decode cX11_blow 25 = .ok (.ifCond .eq 10, 3) := by decide +kernel
theorem dX11_blow_28 : decode cX11_blow 28 = .ok (.aload_n 0, 1) := by decide +kernel
theorem dX11_blow_29 : decode cX11_blow 29 = .ok (.iload 4, 2) := by decide +kernel
theorem dX11_blow_31 : decode cX11_blow 31 = .ok (.invokevirtual 72, 3) := by decide +kernel
theorem dX11_blow_34 : decode cX11_blow 34 = .ok (.ireturn, 1) := by decide +kernel
theorem dX11_blow_35 : decode cX11_blow 35 = .ok (.aload_n 0, 1) := by decide +kernel
theorem dX11_blow_36 : decode cX11_blow 36 = .ok (.iload_n 1, 1) := by decide +kernel
theorem dX11_blow_37 : decode cX11_blow 37 = .ok (.invokevirtual 135, 3) := by decide +kernel
theorem dX11_blow_40 : decode cX11_blow 40 = .ok (.istore 5, 2) := by decide +kernel
theorem dX11_blow_42 : decode cX11_blow 42 = .ok (.aload_n 0, 1) := by decide +kernel
theorem dX11_blow_43 : decode cX11_blow 43 = .ok (.getfield 48, 3) := by decide +kernel
theorem dX11_blow_46 : decode cX11_blow 46 = .ok (.getfield 142, 3) := by decide +kernel
theorem dX11_blow_49 : decode cX11_blow 49 = .ok (.iload_n 1, 1) := by decide +kernel
theorem dX11_blow_50 : decode cX11_blow 50 = .ok (.iload_n 2, 1) := by decide +kernel
theorem dX11_blow_51 : decode cX11_blow 51 = .ok (.iastore, 1) := by decide +kernel
theorem dX11_blow_52 : decode cX11_blow 52 = .ok (.aload_n 0, 1) := by decide +kernel
theorem dX11_blow_53 : decode cX11_blow 53 = .ok (.getfield 48, 3) := by decide +kernel
theorem dX11_blow_56 : decode cX11_blow 56 = .ok (.getfield 145, 3) := by decide +kernel
theorem dX11_blow_59 : decode cX11_blow 59 = .ok (.iload_n 1, 1) := by decide +kernel
theorem dX11_blow_60 : decode cX11_blow 60 = .ok (.iload_n 3, 1) := by decide +kernel
theorem dX11_blow_61 : decode cX11_blow 61 = .ok (.iastore, 1) := by decide +kernel
theorem dX11_blow_62 : decode cX11_blow 62 = .ok (.iload 5, 2) := by decide +kernel
theorem dX11_blow_64 : decode cX11_blow 64 = .ok (.ireturn, 1) := by decide +kernel
theorem dX11_set_0 : decode cX11_set 0 = .ok (.iload_n 1, 1) := by decide +kernel
theorem dX11_set_1 : decode cX11_set 1 = .ok (.ifCond .ne 8, 3) := by decide +kernel
theorem dX11_set_4 : decode cX11_set 4 = .ok (.bipush 40, 2) := by decide +kernel
theorem dX11_set_6 : decode cX11_set 6 = .ok (.goto 5, 3) := by decide +kernel
theorem dX11_set_9 : decode cX11_set 9 = .ok (.bipush 99, 2) := by decide +kernel
theorem dX11_set_11 : decode cX11_set 11 = .ok (.istore_n 3, 1) := by decide +kernel
theorem dX11_set_12 : decode cX11_set 12 = .ok (.iload_n 1, 1) := by decide +kernel
theorem dX11_set_13 : decode cX11_set 13 = .ok (.iconst 1, 1) := by decide +kernel
theorem dX11_set_14 : decode cX11_set 14 = .ok (.invokestatic 95, 3) := by decide +kernel
theorem dX11_set_17 : decode cX11_set 17 = .ok (.iload_n 2, 1) := by decide +kernel
theorem dX11_set_18 : decode cX11_set 18 = .ok (.iconst 1, 1) := by decide +kernel
theorem dX11_set_19 : decode cX11_set 19 = .ok (.iload_n 3, 1) := by decide +kernel
theorem dX11_set_20 : decode cX11_set 20 = .ok (.invokestatic 148, 3) := by decide +kernel
theorem dX11_set_23 : decode cX11_set 23 = .ok (.invokestatic 99, 3) := by decide +kernel
theorem dX11_set_26 : decode cX11_set 26 = .ok (.istore 4, 2) := by decide +kernel
theorem dX11_set_28 : decode cX11_set 28 = .ok (.iload 4, 2) := by decide +kernel
theorem dX11_set_30 : decode cX11_set 30 = .ok (.ifCond .eq 10, 3) := by decide +kernel
theorem dX11_set_33 : decode cX11_set 33 = .ok (.aload_n 0, 1) := by decide +kernel
theorem dX11_set_34 : decode cX11_set 34 = .ok (.iload 4, 2) := by decide +kernel
theorem dX11_set_36 : decode cX11_set 36 = .ok (.invokevirtual 72, 3) := by decide +kernel
theorem dX11_set_39 : decode cX11_set 39 = .ok (.ireturn, 1) := by decide +kernel
theorem dX11_set_40 : decode cX11_set 40 = .ok (.iload_n 1, 1) := by decide +kernel
theorem dX11_set_41 : decode cX11_set 41 = .ok (.ifCond .ne 13, 3) := by decide +kernel
theorem dX11_set_44 : decode cX11_set 44 = .ok (.aload_n 0, 1) := by decide +kernel
theorem dX11_set_45 : decode cX11_set 45 = .ok (.getfield 48, 3) := by decide +kernel
theorem dX11_set_48 : decode cX11_set 48 = .ok (.getfield 152, 3) := by decide +kernel
theorem dX11_set_51 : decode cX11_set 51 = .ok (.goto 10, 3) := by decide +kernel
theorem dX11_set_54 : decode cX11_set 54 = .ok (.aload_n 0, 1) := by decide +kernel
theorem dX11_set_55 : decode cX11_set 55 = .ok (.getfield 48, 3) := by decide +kernel
theorem dX11_set_58 : decode cX11_set 58 = .ok (.getfield 155, 3) := by decide +kernel
theorem dX11_set_61 : decode cX11_set 61 = .ok (.istore 5, 2) := by decide +kernel
theorem dX11_set_63 : decode cX11_set 63 = .ok (.iload_n 1, 1) := by decide +kernel
theorem dX11_set_64 : decode cX11_set 64 = .ok (.ifCond .ne 14, 3) := by decide +kernel
theorem dX11_set_67 : decode cX11_set 67 = .ok (.aload_n 0, 1) := by decide +kernel
theorem dX11_set_68 : decode cX11_set 68 = .ok (.getfield 48, 3) := by decide +kernel
theorem dX11_set_71 : decode cX11_set 71 = .ok (.iload_n 2, 1) := by decide +kernel
theorem dX11_set_72 : decode cX11_set 72 = .ok (.putfield 152, 3) := by decide +kernel
theorem dX11_set_75 : decode cX11_set 75 = .ok (.goto 11, 3) := by decide +kernel
theorem dX11_set_78 : decode cX11_set 78 = .ok (.aload_n 0, 1) := by decide +kernel
theorem dX11_set_79 : decode cX11_set 79 = .ok (.getfield 48, 3) := by decide +kernel
theorem dX11_set_82 : decode cX11_set 82 = .ok (.iload_n 2, 1) := by decide +kernel
theorem dX11_set_83 : decode cX11_set 83 = .ok (.putfield 155, 3) := by decide +kernel
theorem dX11_set_86 : decode cX11_set 86 = .ok (.iload 5, 2) := by decide +kernel
theorem dX11_set_88 : decode cX11_set 88 = .ok (.ireturn, 1) := by decide +kernel
theorem dX11_go_0 : decode cX11_go 0 = .ok (.iload_n 1, 1) := by decide +kernel
theorem dX11_go_1 : decode cX11_go 1 = .ok (.iconst 1, 1) := by decide +kernel
theorem dX11_go_2 : decode cX11_go 2 = .ok (.bipush 60, 2) := by decide +kernel
theorem dX11_go_4 : decode cX11_go 4 = .ok (.sipush 9999, 3) := by decide +kernel
theorem dX11_go_7 : decode cX11_go 7 = .ok (.aload_n 0, 1) := by decide +kernel
theorem dX11_go_8 : decode cX11_go 8 = .ok (.getfield 48, 3) := by decide +kernel
theorem dX11_go_11 : decode cX11_go 11 = .ok (.getfield 158, 3) := by decide +kernel
theorem dX11_go_14 : decode cX11_go 14 = .ok (.isub, 1) := by decide +kernel
theorem dX11_go_15 : decode cX11_go 15 = .ok (.invokestatic 161, 3) := by decide +kernel
theorem dX11_go_18 : decode cX11_go 18 = .ok (.invokestatic 148, 3) := by decide +kernel
theorem dX11_go_21 : decode cX11_go 21 = .ok (.istore_n 2, 1) := by decide +kernel
theorem dX11_go_22 : decode cX11_go 22 = .ok (.iload_n 2, 1) := by decide +kernel
theorem dX11_go_23 : decode cX11_go 23 = .ok (.ifCond .eq 9, 3) := by decide +kernel
theorem dX11_go_26 : decode cX11_go 26 = .ok (.aload_n 0, 1) := by decide +kernel
theorem dX11_go_27 : decode cX11_go 27 = .ok (.iload_n 2, 1) := by decide +kernel
theorem dX11_go_28 : decode cX11_go 28 = .ok (.invokevirtual 72, 3) := by decide +kernel
theorem dX11_go_31 : decode cX11_go 31 = .ok (.ireturn, 1) := by decide +kernel
theorem dX11_go_32 : decode cX11_go 32 = .ok (.iconst 0, 1) := by decide +kernel
theorem dX11_go_33 : decode cX11_go 33 = .ok (.istore_n 3, 1) := by decide +kernel
theorem dX11_go_34 : decode cX11_go 34 = .ok (.iconst 0, 1) := by decide +kernel
theorem dX11_go_35 : decode cX11_go 35 = .ok (.istore 4, 2) := by decide +kernel
theorem dX11_go_37 : decode cX11_go 37 = .ok (.iload 4, 2) := by decide +kernel
theorem dX11_go_39 : decode cX11_go 39 = .ok (.iload_n 1, 1) := by decide +kernel
theorem dX11_go_40 : decode cX11_go 40 = .ok (.if_icmp .ge 20, 3) := by decide +kernel
theorem dX11_go_43 : decode cX11_go 43 = .ok (.iload_n 3, 1) := by decide +kernel
theorem dX11_go_44 : decode cX11_go 44 = .ok (.aload_n 0, 1) := by decide +kernel
theorem dX11_go_45 : decode cX11_go 45 = .ok (.aload_n 0, 1) := by decide +kernel
theorem dX11_go_46 : decode cX11_go 46 = .ok (.getfield 48, 3) := by decide +kernel
theorem dX11_go_49 : decode cX11_go 49 = .ok (.invokevirtual 166, 3) := by decide +kernel
theorem dX11_go_52 : decode cX11_go 52 = .ok (.iadd, 1) := by decide +kernel
theorem dX11_go_53 : decode cX11_go 53 = .ok (.istore_n 3, 1) := by decide +kernel
theorem dX11_go_54 : decode cX11_go 54 = .ok (.iinc 4 1, 3) := by decide +kernel
theorem dX11_go_57 : decode cX11_go 57 = .ok (.goto (-20), 3) := by decide +kernel
theorem dX11_go_60 : decode cX11_go 60 = .ok (.aload_n 0, 1) := by decide +kernel
theorem dX11_go_61 : decode cX11_go 61 = .ok (.getfield 48, 3) := by decide +kernel
theorem dX11_go_64 : decode cX11_go 64 = .ok (.dup, 1) := by decide +kernel
theorem dX11_go_65 : decode cX11_go 65 = .ok (.getfield 169, 3) := by decide +kernel
theorem dX11_go_68 : decode cX11_go 68 = .ok (.iload_n 3, 1) := by decide +kernel
theorem dX11_go_69 : decode cX11_go 69 = .ok (.iadd, 1) := by decide +kernel
theorem dX11_go_70 : decode cX11_go 70 = .ok (.putfield 169, 3) := by decide +kernel
theorem dX11_go_73 : decode cX11_go 73 = .ok (.iload_n 3, 1) := by decide +kernel
theorem dX11_go_74 : decode cX11_go 74 = .ok (.ireturn, 1) := by decide +kernel
theorem dX11_far_0 : decode cX11_far 0 = .ok (.aload_n 0, 1) := by decide +kernel
theorem dX11_far_1 : decode cX11_far 1 = .ok (.iload_n 1, 1) := by decide +kernel
theorem dX11_far_2 : decode cX11_far 2 = .ok (.iload_n 2, 1) := by decide +kernel
theorem dX11_far_3 : decode cX11_far 3 = .ok (.invokevirtual 172, 3) := by decide +kernel
theorem dX11_far_6 : decode cX11_far 6 = .ok (.istore_n 3, 1) := by decide +kernel
theorem dX11_far_7 : decode cX11_far 7 = .ok (.iload_n 3, 1) := by decide +kernel
theorem dX11_far_8 : decode cX11_far 8 = .ok (.ifCond .eq 11, 3) := by decide +kernel
theorem dX11_far_11 : decode cX11_far 11 = .ok (.aload_n 0, 1) := by decide +kernel
theorem dX11_far_12 : decode cX11_far 12 = .ok (.iload_n 3, 1) := by decide +kernel
theorem dX11_far_13 : decode cX11_far 13 = .ok (.invokevirtual 72, 3) := by decide +kernel
theorem dX11_far_16 : decode cX11_far 16 = .ok (.goto 12, 3) := by decide +kernel
theorem dX11_far_19 : decode cX11_far 19 = .ok (.aload_n 0, 1) := by decide +kernel
theorem dX11_far_20 : decode cX11_far 20 = .ok (.getfield 48, 3) := by decide +kernel
theorem dX11_far_23 : decode cX11_far 23 = .ok (.iload_n 1, 1) := by decide +kernel
theorem dX11_far_24 : decode cX11_far 24 = .ok (.iload_n 2, 1) := by decide +kernel
theorem dX11_far_25 : decode cX11_far 25 = .ok (.invokevirtual 175, 3) := by decide +kernel
theorem dX11_far_28 : decode cX11_far 28 = .ok (.ireturn, 1) := by decide +kernel
theorem dX11_open_0 : decode cX11_open 0 = .ok (.aload_n 0, 1) := by decide +kernel
theorem dX11_open_1 : decode cX11_open 1 = .ok (.iload_n 1, 1) := by decide +kernel
theorem dX11_open_2 : decode cX11_open 2 = .ok (.iload_n 2, 1) := by decide +kernel
theorem dX11_open_3 : decode cX11_open 3 = .ok (.invokevirtual 172, 3) := by decide +kernel
theorem dX11_open_6 : decode cX11_open 6 = .ok (.iload_n 3, 1) := by decide +kernel
theorem dX11_open_7 : decode cX11_open 7 = .ok (.iconst 2, 1) := by decide +kernel
theorem dX11_open_8 : decode cX11_open 8 = .ok (.invokestatic 95, 3) := by decide +kernel
theorem dX11_open_11 : decode cX11_open 11 = .ok (.invokestatic 99, 3) := by decide +kernel
theorem dX11_open_14 : decode cX11_open 14 = .ok (.istore 4, 2) := by decide +kernel
theorem dX11_open_16 : decode cX11_open 16 = .ok (.iload 4, 2) := by decide +kernel
theorem dX11_open_18 : decode cX11_open 18 = .ok (.ifCond .eq 10, 3) := by decide +kernel
theorem dX11_open_21 : decode cX11_open 21 = .ok (.aload_n 0, 1) := by decide +kernel
theorem dX11_open_22 : decode cX11_open 22 = .ok (.iload 4, 2) := by decide +kernel
theorem dX11_open_24 : decode cX11_open 24 = .ok (.invokevirtual 72, 3) := by decide +kernel
theorem dX11_open_27 : decode cX11_open 27 = .ok (.ireturn, 1) := by decide +kernel
theorem dX11_open_28 : decode cX11_open 28 = .ok (.iload_n 3, 1) := by decide +kernel
theorem dX11_open_29 : decode cX11_open 29 = .ok (.ifCond .ne 13, 3) := by decide +kernel
theorem dX11_open_32 : decode cX11_open 32 = .ok (.aload_n 0, 1) := by decide +kernel
theorem dX11_open_33 : decode cX11_open 33 = .ok (.getfield 48, 3) := by decide +kernel
theorem dX11_open_36 : decode cX11_open 36 = .ok (.getfield 152, 3) := by decide +kernel
theorem dX11_open_39 : decode cX11_open 39 = .ok (.goto 19, 3) := by decide +kernel
theorem dX11_open_42 : decode cX11_open 42 = .ok (.iload_n 3, 1) := by decide +kernel
theorem dX11_open_43 : decode cX11_open 43 = .ok (.iconst 1, 1) := by decide +kernel
theorem dX11_open_44 : decode cX11_open 44 = .ok (.if_icmp .ne 7, 3) := by decide +kernel
theorem dX11_open_47 : decode cX11_open 47 = .ok (.iconst 1, 1) := by decide +kernel
theorem dX11_open_48 : decode cX11_open 48 = .ok (.goto 10, 3) := by decide +kernel
theorem dX11_open_51 : decode cX11_open 51 = .ok (.aload_n 0, 1) := by decide +kernel
theorem dX11_open_52 : decode cX11_open 52 = .ok (.getfield 48, 3) := by decide +kernel
theorem dX11_open_55 : decode cX11_open 55 = .ok (.getfield 155, 3) := by decide +kernel
theorem dX11_open_58 : decode cX11_open 58 = .ok (.istore 5, 2) := by decide +kernel
theorem dX11_open_60 : decode cX11_open 60 = .ok (.aload_n 0, 1) := by decide +kernel
theorem dX11_open_61 : decode cX11_open 61 = .ok (.getfield 48, 3) := by decide +kernel
theorem dX11_open_64 : decode cX11_open 64 = .ok (.iload_n 1, 1) := by decide +kernel
theorem dX11_open_65 : decode cX11_open 65 = .ok (.iload_n 2, 1) := by decide +kernel
theorem dX11_open_66 : decode cX11_open 66 = .ok (.invokevirtual 175, 3) := by decide +kernel
theorem dX11_open_69 : decode cX11_open 69 = .ok (.iload 5, 2) := by decide +kernel
theorem dX11_open_71 : decode cX11_open 71 = .ok (.if_icmp .gt 7, 3) := by decide +kernel
theorem dX11_open_74 : decode cX11_open 74 = .ok (.iconst 1, 1) := by decide +kernel
theorem dX11_open_75 : decode cX11_open 75 = .ok (.goto 4, 3) := by decide +kernel
theorem dX11_open_78 : decode cX11_open 78 = .ok (.iconst 0, 1) := by decide +kernel
theorem dX11_open_79 : decode cX11_open 79 = .ok (.ireturn, 1) := by decide +kernel
theorem dX11_behind_0 : decode cX11_behind 0 = .ok (.aload_n 0, 1) := by decide +kernel
theorem dX11_behind_1 : decode cX11_behind 1 = .ok (.iload_n 1, 1) := by decide +kernel
theorem dX11_behind_2 : decode cX11_behind 2 = .ok (.invokevirtual 92, 3) := by decide +kernel
theorem dX11_behind_5 : decode cX11_behind 5 = .ok (.iload_n 2, 1) := by decide +kernel
theorem dX11_behind_6 : decode cX11_behind 6 = .ok (.iconst 0, 1) := by decide +kernel
theorem dX11_behind_7 : decode cX11_behind 7 = .ok (.bipush 60, 2) := by decide +kernel
theorem dX11_behind_9 : decode cX11_behind 9 = .ok (.invokestatic 148, 3) := by decide +kernel
theorem dX11_behind_12 : decode cX11_behind 12 = .ok (.invokestatic 99, 3) := by decide +kernel
theorem dX11_behind_15 : decode cX11_behind 15 = .ok (.istore_n 3, 1) := by decide +kernel
theorem dX11_behind_16 : decode cX11_behind 16 = .ok (.iload_n 3, 1) := by decide +kernel
theorem dX11_behind_17 : decode cX11_behind 17 = .ok (.ifCond .eq 14, 3) := by decide +kernel
theorem dX11_behind_20 : decode cX11_behind 20 = .ok (.ldc2_w 178, 3) := by decide +kernel
theorem dX11_behind_23 : decode cX11_behind 23 = .ok (.aload_n 0, 1) := by decide +kernel
theorem dX11_behind_24 : decode cX11_behind 24 = .ok (.iload_n 3, 1) := by decide +kernel
theorem dX11_behind_25 : decode cX11_behind 25 = .ok (.invokevirtual 72, 3) := by decide +kernel
theorem dX11_behind_28 : decode cX11_behind 28 = .ok (.i2l, 1) := by decide +kernel
theorem dX11_behind_29 : decode cX11_behind 29 = .ok (.lsub, 1) := by decide +kernel
theorem dX11_behind_30 : decode cX11_behind 30 = .ok (.lreturn, 1) := by decide +kernel
theorem dX11_behind_31 : decode cX11_behind 31 = .ok (.aload_n 0, 1) := by decide +kernel
theorem dX11_behind_32 : decode cX11_behind 32 = .ok (.getfield 52, 3) := by decide +kernel
theorem dX11_behind_35 : decode cX11_behind 35 = .ok (.aload_n 0, 1) := by decide +kernel
theorem dX11_behind_36 : decode cX11_behind 36 = .ok (.getfield 48, 3) := by decide +kernel
theorem dX11_behind_39 : decode cX11_behind 39 = .ok (.invokevirtual 84, 3) := by decide +kernel
theorem dX11_behind_42 : decode cX11_behind 42 = .ok (.iconst 0, 1) := by decide +kernel
theorem dX11_behind_43 : decode cX11_behind 43 = .ok (.istore 4, 2) := by decide +kernel
theorem dX11_behind_45 : decode cX11_behind 45 = .ok (.iload 4, 2) := by decide +kernel
theorem dX11_behind_47 : decode cX11_behind 47 = .ok (.iload_n 2, 1) := by decide +kernel
theorem dX11_behind_48 : decode cX11_behind 48 = .ok (.if_icmp .ge 18, 3) := by decide +kernel
theorem dX11_behind_51 : decode cX11_behind 51 = .ok (.aload_n 0, 1) := by decide +kernel
theorem dX11_behind_52 : decode cX11_behind 52 = .ok (.aload_n 0, 1) := by decide +kernel
theorem dX11_behind_53 : decode cX11_behind 53 = .ok (.getfield 52, 3) := by decide +kernel
theorem dX11_behind_56 : decode cX11_behind 56 = .ok (.invokevirtual 166, 3) := by decide +kernel
theorem dX11_behind_59 : decode cX11_behind 59 = .ok (.pop, 1) := by decide +kernel
theorem dX11_behind_60 : decode cX11_behind 60 = .ok (.iinc 4 1, 3) := by decide +kernel
theorem dX11_behind_63 : decode cX11_behind 63 = .ok (.goto (-18), 3) := by decide +kernel
theorem dX11_behind_66 : decode cX11_behind 66 = .ok (.aload_n 0, 1) := by decide +kernel
theorem dX11_behind_67 : decode cX11_behind 67 = .ok (.getfield 52, 3) := by decide +kernel
theorem dX11_behind_70 : decode cX11_behind 70 = .ok (.getfield 102, 3) := by decide +kernel
theorem dX11_behind_73 : decode cX11_behind 73 = .ok (.iload_n 1, 1) := by decide +kernel
theorem dX11_behind_74 : decode cX11_behind 74 = .ok (.aaload, 1) := by decide +kernel
theorem dX11_behind_75 : decode cX11_behind 75 = .ok (.getfield 121, 3) := by decide +kernel
theorem dX11_behind_78 : decode cX11_behind 78 = .ok (.aload_n 0, 1) := by decide +kernel
theorem dX11_behind_79 : decode cX11_behind 79 = .ok (.getfield 48, 3) := by decide +kernel
theorem dX11_behind_82 : decode cX11_behind 82 = .ok (.getfield 102, 3) := by decide +kernel
theorem dX11_behind_85 : decode cX11_behind 85 = .ok (.iload_n 1, 1) := by decide +kernel
theorem dX11_behind_86 : decode cX11_behind 86 = .ok (.aaload, 1) := by decide +kernel
theorem dX11_behind_87 : decode cX11_behind 87 = .ok (.getfield 121, 3) := by decide +kernel
theorem dX11_behind_90 : decode cX11_behind 90 = .ok (.isub, 1) := by decide +kernel
theorem dX11_behind_91 : decode cX11_behind 91 = .ok (.i2l, 1) := by decide +kernel
theorem dX11_behind_92 : decode cX11_behind 92 = .ok (.lstore 4, 2) := by decide +kernel
theorem dX11_behind_94 : decode cX11_behind 94 = .ok (.aload_n 0, 1) := by decide +kernel
theorem dX11_behind_95 : decode cX11_behind 95 = .ok (.getfield 52, 3) := by decide +kernel
theorem dX11_behind_98 : decode cX11_behind 98 = .ok (.getfield 102, 3) := by decide +kernel
theorem dX11_behind_101 : decode cX11_behind 101 = .ok (.iload_n 1, 1) := by decide +kernel
theorem dX11_behind_102 : decode cX11_behind 102 = .ok (.aaload, 1) := by decide +kernel
theorem dX11_behind_103 : decode cX11_behind 103 = .ok (.getfield 124, 3) := by decide +kernel
theorem dX11_behind_106 : decode cX11_behind 106 = .ok (.aload_n 0, 1) := by decide +kernel
theorem dX11_behind_107 : decode cX11_behind 107 = .ok (.getfield 48, 3) := by decide +kernel
theorem dX11_behind_110 : decode cX11_behind 110 = .ok (.getfield 102, 3) := by decide +kernel
theorem dX11_behind_113 : decode cX11_behind 113 = .ok (.iload_n 1, 1) := by decide +kernel
theorem dX11_behind_114 : decode cX11_behind 114 = .ok (.aaload, 1) := by decide +kernel
theorem dX11_behind_115 : decode cX11_behind 115 = .ok (.getfield 124, 3) := by decide +kernel
theorem dX11_behind_118 : decode cX11_behind 118 = .ok (.isub, 1) := by decide +kernel
theorem dX11_behind_119 : decode cX11_behind 119 = .ok (.i2l, 1) := by decide +kernel
theorem dX11_behind_120 : decode cX11_behind 120 = .ok (.lstore 6, 2) := by decide +kernel
theorem dX11_behind_122 : decode cX11_behind 122 = .ok (.ldc2_w 180, 3) := by decide +kernel
theorem dX11_behind_125 : decode cX11_behind 125 = .ok (.lload 4, 2) := by decide +kernel
theorem dX11_behind_127 : decode cX11_behind 127 = .ok (.lmul, 1) := by decide +kernel
theorem dX11_behind_128 : decode cX11_behind 128 = .ok (.lload 6, 2) := by decide +kernel
theorem dX11_behind_130 : decode cX11_behind 130 = .ok (.ladd, 1) := by decide +kernel
theorem dX11_behind_131 : decode cX11_behind 131 = .ok (.lreturn, 1) := by decide +kernel
theorem dX11_meet_0 : decode cX11_meet 0 = .ok (.aload_n 0, 1) := by decide +kernel
theorem dX11_meet_1 : decode cX11_meet 1 = .ok (.iload_n 1, 1) := by decide +kernel
theorem dX11_meet_2 : decode cX11_meet 2 = .ok (.iload_n 2, 1) := by decide +kernel
theorem dX11_meet_3 : decode cX11_meet 3 = .ok (.invokevirtual 172, 3) := by decide +kernel
theorem dX11_meet_6 : decode cX11_meet 6 = .ok (.istore_n 3, 1) := by decide +kernel
theorem dX11_meet_7 : decode cX11_meet 7 = .ok (.iload_n 3, 1) := by decide +kernel
theorem dX11_meet_8 : decode cX11_meet 8 = .ok (.ifCond .eq 9, 3) := by decide +kernel
theorem dX11_meet_11 : decode cX11_meet 11 = .ok (.aload_n 0, 1) := by decide +kernel
theorem dX11_meet_12 : decode cX11_meet 12 = .ok (.iload_n 3, 1) := by decide +kernel
theorem dX11_meet_13 : decode cX11_meet 13 = .ok (.invokevirtual 72, 3) := by decide +kernel
theorem dX11_meet_16 : decode cX11_meet 16 = .ok (.ireturn, 1) := by decide +kernel
theorem dX11_meet_17 : decode cX11_meet 17 = .ok (.aload_n 0, 1) := by decide +kernel
theorem dX11_meet_18 : decode cX11_meet 18 = .ok (.getfield 52, 3) := by decide +kernel
theorem dX11_meet_21 : decode cX11_meet 21 = .ok (.aload_n 0, 1) := by decide +kernel
theorem dX11_meet_22 : decode cX11_meet 22 = .ok (.getfield 48, 3) := by decide +kernel
theorem dX11_meet_25 : decode cX11_meet 25 = .ok (.invokevirtual 84, 3) := by decide +kernel
theorem dX11_meet_28 : decode cX11_meet 28 = .ok (.iconst 0, 1) := by decide +kernel
theorem dX11_meet_29 : decode cX11_meet 29 = .ok (.istore 4, 2) := by decide +kernel
theorem dX11_meet_31 : decode cX11_meet 31 = .ok (.iload 4, 2) := by decide +kernel
theorem dX11_meet_33 : decode cX11_meet 33 = .ok (.bipush 60, 2) := by decide +kernel
theorem dX11_meet_35 : decode cX11_meet 35 = .ok (.if_icmp .gt 34, 3) := by decide +kernel
theorem dX11_meet_38 : decode cX11_meet 38 = .ok (.aload_n 0, 1) := by decide +kernel
theorem dX11_meet_39 : decode cX11_meet 39 = .ok (.getfield 52, 3) := by decide +kernel
theorem dX11_meet_42 : decode cX11_meet 42 = .ok (.iload_n 1, 1) := by decide +kernel
theorem dX11_meet_43 : decode cX11_meet 43 = .ok (.iload_n 2, 1) := by decide +kernel
theorem dX11_meet_44 : decode cX11_meet 44 = .ok (.invokevirtual 175, 3) := by decide +kernel
theorem dX11_meet_47 : decode cX11_meet 47 = .ok (.iconst 1, 1) := by decide +kernel
theorem dX11_meet_48 : decode cX11_meet 48 = .ok (.if_icmp .gt 6, 3) := by decide +kernel
theorem dX11_meet_51 : decode cX11_meet 51 = .ok (.iload 4, 2) := by decide +kernel
theorem dX11_meet_53 : decode cX11_meet 53 = .ok (.ireturn, 1) := by decide +kernel
theorem dX11_meet_54 : decode cX11_meet 54 = .ok (.aload_n 0, 1) := by decide +kernel
theorem dX11_meet_55 : decode cX11_meet 55 = .ok (.aload_n 0, 1) := by decide +kernel
theorem dX11_meet_56 : decode cX11_meet 56 = .ok (.getfield 52, 3) := by decide +kernel
theorem dX11_meet_59 : decode cX11_meet 59 = .ok (.invokevirtual 166, 3) := by decide +kernel
theorem dX11_meet_62 : decode cX11_meet 62 = .ok (.pop, 1) := by decide +kernel
theorem dX11_meet_63 : decode cX11_meet 63 = .ok (.iinc 4 1, 3) := by decide +kernel
theorem dX11_meet_66 : decode cX11_meet 66 = .ok (.goto (-35), 3) := by decide +kernel
theorem dX11_meet_69 : decode cX11_meet 69 = .ok (.bipush (-9), 2) := by decide +kernel
theorem dX11_meet_71 : decode cX11_meet 71 = .ok (.ireturn, 1) := by decide +kernel
theorem dX11_nearest_0 : decode cX11_nearest 0 = .ok (.aload_n 0, 1) := by decide +kernel
theorem dX11_nearest_1 : decode cX11_nearest 1 = .ok (.iload_n 1, 1) := by decide +kernel
theorem dX11_nearest_2 : decode cX11_nearest 2 = .ok (.iload_n 2, 1) := by decide +kernel
theorem dX11_nearest_3 : decode cX11_nearest 3 = .ok (.invokevirtual 172, 3) := by decide +kernel
theorem dX11_nearest_6 : decode cX11_nearest 6 = .ok (.iload_n 3, 1) := by decide +kernel
theorem dX11_nearest_7 : decode cX11_nearest 7 = .ok (.iconst 0, 1) := by decide +kernel
theorem dX11_nearest_8 : decode cX11_nearest 8 = .ok (.bipush 60, 2) := by decide +kernel
theorem dX11_nearest_10 : decode cX11_nearest 10 = .ok (.invokestatic 148, 3) := by decide +kernel
theorem dX11_nearest_13 : decode cX11_nearest 13 = .ok (.iload 4, 2) := by decide +kernel
theorem dX11_nearest_15 : decode cX11_nearest 15 = .ok (.iconst 1, 1) := by decide +kernel
theorem dX11_nearest_16 : decode cX11_nearest 16 = .ok (.invokestatic 95, 3) := by decide +kernel
theorem dX11_nearest_19 : decode cX11_nearest 19 = .ok (.invokestatic 99, 3) := by decide +kernel
theorem dX11_nearest_22 : decode cX11_nearest 22 = .ok (.invokestatic 99, 3) := by decide +kernel
theorem dX11_nearest_25 : decode cX11_nearest 25 = .ok (.istore 5, 2) := by decide +kernel
theorem dX11_nearest_27 : decode cX11_nearest 27 = .ok (.iload 5, 2) := by decide +kernel
theorem dX11_nearest_29 : decode cX11_nearest 29 = .ok (.ifCond .eq 10, 3) := by decide +kernel
theorem dX11_nearest_32 : decode cX11_nearest 32 = .ok (.aload_n 0, 1) := by decide +kernel
theorem dX11_nearest_33 : decode cX11_nearest 33 = .ok (.iload 5, 2) := by decide +kernel
theorem dX11_nearest_35 : decode cX11_nearest 35 = .ok (.invokevirtual 72, 3) := by decide +kernel
theorem dX11_nearest_38 : decode cX11_nearest 38 = .ok (.ireturn, 1) := by decide +kernel
theorem dX11_nearest_39 : decode cX11_nearest 39 = .ok (.aload_n 0, 1) := by decide +kernel
theorem dX11_nearest_40 : decode cX11_nearest 40 = .ok (.getfield 52, 3) := by decide +kernel
theorem dX11_nearest_43 : decode cX11_nearest 43 = .ok (.aload_n 0, 1) := by decide +kernel
theorem dX11_nearest_44 : decode cX11_nearest 44 = .ok (.getfield 48, 3) := by decide +kernel
theorem dX11_nearest_47 : decode cX11_nearest 47 = .ok (.invokevirtual 84, 3) := by decide +kernel
theorem dX11_nearest_50 : decode cX11_nearest 50 = .ok (.iconst 0, 1) := by decide +kernel
theorem dX11_nearest_51 : decode cX11_nearest 51 = .ok (.istore 6, 2) := by decide +kernel
theorem dX11_nearest_53 : decode cX11_nearest 53 = .ok (.aload_n 0, 1) := by decide +kernel
theorem dX11_nearest_54 : decode cX11_nearest 54 = .ok (.getfield 48, 3) := by decide +kernel
theorem dX11_nearest_57 : decode cX11_nearest 57 = .ok (.iload_n 1, 1) := by decide +kernel
theorem dX11_nearest_58 : decode cX11_nearest 58 = .ok (.iload_n 2, 1) := by decide +kernel
theorem dX11_nearest_59 : decode cX11_nearest 59 = .ok (.invokevirtual 175, 3) := by decide +kernel
theorem dX11_nearest_62 : decode cX11_nearest 62 = .ok (.istore 7, 2) := by decide +kernel
theorem dX11_nearest_64 : decode cX11_nearest 64 = .ok (.iconst 1, 1) := by decide +kernel
theorem dX11_nearest_65 : decode cX11_nearest 65 = .ok (.istore 8, 2) := by decide +kernel
theorem dX11_nearest_67 : decode cX11_nearest 67 = .ok (.iload 8, 2) := by decide +kernel
theorem dX11_nearest_69 : decode cX11_nearest 69 = .ok (.iload_n 3, 1) := by decide +kernel
theorem dX11_nearest_70 : decode cX11_nearest 70 = .ok (.if_icmp .gt 44, 3) := by decide +kernel
theorem dX11_nearest_73 : decode cX11_nearest 73 = .ok (.aload_n 0, 1) := by decide +kernel
theorem dX11_nearest_74 : decode cX11_nearest 74 = .ok (.aload_n 0, 1) := by decide +kernel
theorem dX11_nearest_75 : decode cX11_nearest 75 = .ok (.getfield 52, 3) := by decide +kernel
theorem dX11_nearest_78 : decode cX11_nearest 78 = .ok (.invokevirtual 166, 3) := by decide +kernel
theorem dX11_nearest_81 : decode cX11_nearest 81 = .ok (.pop, 1) := by decide +kernel
theorem dX11_nearest_82 : decode cX11_nearest 82 = .ok (.aload_n 0, 1) := by decide +kernel
theorem dX11_nearest_83 : decode cX11_nearest 83 = .ok (.getfield 52, 3) := by decide +kernel
theorem dX11_nearest_86 : decode cX11_nearest 86 = .ok (.iload_n 1, 1) := by decide +kernel
theorem dX11_nearest_87 : decode cX11_nearest 87 = .ok (.iload_n 2, 1) := by decide +kernel
theorem dX11_nearest_88 : decode cX11_nearest 88 = .ok (.invokevirtual 175, 3) := by decide +kernel
theorem dX11_nearest_91 : decode cX11_nearest 91 = .ok (.istore 9, 2) := by decide +kernel
theorem dX11_nearest_93 : decode cX11_nearest 93 = .ok (.iload 9, 2) := by decide +kernel
theorem dX11_nearest_95 : decode cX11_nearest 95 = .ok (.iload 7, 2) := by decide +kernel
theorem dX11_nearest_97 : decode cX11_nearest 97 = .ok (.if_icmp .ge 11, 3) := by decide +kernel
theorem dX11_nearest_100 : decode cX11_nearest 100 = .ok (.iload 9, 2) := by decide +kernel
theorem dX11_nearest_102 : decode cX11_nearest 102 = .ok (.istore 7, 2) := by decide +kernel
theorem dX11_nearest_104 : decode cX11_nearest 104 = .ok (.iload 8, 2) := by decide +kernel
theorem dX11_nearest_106 : decode cX11_nearest 106 = .ok (.istore 6, 2) := by decide +kernel
theorem dX11_nearest_108 : decode cX11_nearest 108 = .ok (.iinc 8 1, 3) := by decide +kernel
theorem dX11_nearest_111 : decode cX11_nearest 111 = .ok (.goto (-44), 3) := by decide +kernel
theorem dX11_nearest_114 : decode cX11_nearest 114 = .ok (.iload 4, 2) := by decide +kernel
theorem dX11_nearest_116 : decode cX11_nearest 116 = .ok (.ifCond .ne 8, 3) := by decide +kernel
theorem dX11_nearest_119 : decode cX11_nearest 119 = .ok (.iload 6, 2) := by decide +kernel
theorem dX11_nearest_121 : decode cX11_nearest 121 = .ok (.goto 5, 3) := by decide +kernel
theorem dX11_nearest_124 : decode cX11_nearest 124 = .ok (.iload 7, 2) := by decide +kernel
theorem dX11_nearest_126 : decode cX11_nearest 126 = .ok (.ireturn, 1) := by decide +kernel
theorem dX11_there_0 : decode cX11_there 0 = .ok (.aload_n 0, 1) := by decide +kernel
theorem dX11_there_1 : decode cX11_there 1 = .ok (.iload_n 1, 1) := by decide +kernel
theorem dX11_there_2 : decode cX11_there 2 = .ok (.invokevirtual 92, 3) := by decide +kernel
theorem dX11_there_5 : decode cX11_there 5 = .ok (.aload_n 0, 1) := by decide +kernel
theorem dX11_there_6 : decode cX11_there 6 = .ok (.iload_n 2, 1) := by decide +kernel
theorem dX11_there_7 : decode cX11_there 7 = .ok (.invokevirtual 92, 3) := by decide +kernel
theorem dX11_there_10 : decode cX11_there 10 = .ok (.invokestatic 99, 3) := by decide +kernel
theorem dX11_there_13 : decode cX11_there 13 = .ok (.istore_n 3, 1) := by decide +kernel
theorem dX11_there_14 : decode cX11_there 14 = .ok (.iload_n 3, 1) := by decide +kernel
theorem dX11_there_15 : decode cX11_there 15 = .ok (.ifCond .eq 9, 3) := by decide +kernel
theorem dX11_there_18 : decode cX11_there 18 = .ok (.aload_n 0, 1) := by decide +kernel
theorem dX11_there_19 : decode cX11_there 19 = .ok (.iload_n 3, 1) := by decide +kernel
theorem dX11_there_20 : decode cX11_there 20 = .ok (.invokevirtual 72, 3) := by decide +kernel
theorem dX11_there_23 : decode cX11_there 23 = .ok (.ireturn, 1) := by decide +kernel
theorem dX11_there_24 : decode cX11_there 24 = .ok (.aload_n 0, 1) := by decide +kernel
theorem dX11_there_25 : decode cX11_there 25 = .ok (.getfield 52, 3) := by decide +kernel
theorem dX11_there_28 : decode cX11_there 28 = .ok (.aload_n 0, 1) := by decide +kernel
theorem dX11_there_29 : decode cX11_there 29 = .ok (.getfield 48, 3) := by decide +kernel
theorem dX11_there_32 : decode cX11_there 32 = .ok (.invokevirtual 84, 3) := by decide +kernel
theorem dX11_there_35 : decode cX11_there 35 = .ok (.aload_n 0, 1) := by decide +kernel
theorem dX11_there_36 : decode cX11_there 36 = .ok (.iconst 1, 1) := by decide +kernel
theorem dX11_there_37 : decode cX11_there 37 = .ok (.iload_n 1, 1) := by decide +kernel
theorem dX11_there_38 : decode cX11_there 38 = .ok (.ishl, 1) := by decide +kernel
theorem dX11_there_39 : decode cX11_there 39 = .ok (.iconst 1, 1) := by decide +kernel
theorem dX11_there_40 : decode cX11_there 40 = .ok (.iload_n 2, 1) := by decide +kernel
theorem dX11_there_41 : decode cX11_there 41 = .ok (.ishl, 1) := by decide +kernel
theorem dX11_there_42 : decode cX11_there 42 = .ok (.bipush 40, 2) := by decide +kernel
theorem dX11_there_44 : decode cX11_there 44 = .ok (.invokevirtual 182, 3) := by decide +kernel
theorem dX11_there_47 : decode cX11_there 47 = .ok (.ireturn, 1) := by decide +kernel
theorem dX11_back_0 : decode cX11_back 0 = .ok (.aload_n 0, 1) := by decide +kernel
theorem dX11_back_1 : decode cX11_back 1 = .ok (.iload_n 1, 1) := by decide +kernel
theorem dX11_back_2 : decode cX11_back 2 = .ok (.iload_n 2, 1) := by decide +kernel
theorem dX11_back_3 : decode cX11_back 3 = .ok (.invokevirtual 172, 3) := by decide +kernel
theorem dX11_back_6 : decode cX11_back 6 = .ok (.istore_n 3, 1) := by decide +kernel
theorem dX11_back_7 : decode cX11_back 7 = .ok (.iload_n 3, 1) := by decide +kernel
theorem dX11_back_8 : decode cX11_back 8 = .ok (.ifCond .eq 9, 3) := by decide +kernel
theorem dX11_back_11 : decode cX11_back 11 = .ok (.aload_n 0, 1) := by decide +kernel
theorem dX11_back_12 : decode cX11_back 12 = .ok (.iload_n 3, 1) := by decide +kernel
theorem dX11_back_13 : decode cX11_back 13 = .ok (.invokevirtual 72, 3) := by decide +kernel
theorem dX11_back_16 : decode cX11_back 16 = .ok (.ireturn, 1) := by decide +kernel
theorem dX11_back_17 : decode cX11_back 17 = .ok (.aload_n 0, 1) := by decide +kernel
theorem dX11_back_18 : decode cX11_back 18 = .ok (.getfield 52, 3) := by decide +kernel
theorem dX11_back_21 : decode cX11_back 21 = .ok (.aload_n 0, 1) := by decide +kernel
theorem dX11_back_22 : decode cX11_back 22 = .ok (.getfield 48, 3) := by decide +kernel
theorem dX11_back_25 : decode cX11_back 25 = .ok (.invokevirtual 84, 3) := by decide +kernel
theorem dX11_back_28 : decode cX11_back 28 = .ok (.aload_n 0, 1) := by decide +kernel
theorem dX11_back_29 : decode cX11_back 29 = .ok (.iconst 1, 1) := by decide +kernel
theorem dX11_back_30 : decode cX11_back 30 = .ok (.iload_n 1, 1) := by decide +kernel
theorem dX11_back_31 : decode cX11_back 31 = .ok (.ishl, 1) := by decide +kernel
theorem dX11_back_32 : decode cX11_back 32 = .ok (.iconst 1, 1) := by decide +kernel
theorem dX11_back_33 : decode cX11_back 33 = .ok (.iload_n 2, 1) := by decide +kernel
theorem dX11_back_34 : decode cX11_back 34 = .ok (.ishl, 1) := by decide +kernel
theorem dX11_back_35 : decode cX11_back 35 = .ok (.bipush 40, 2) := by decide +kernel
theorem dX11_back_37 : decode cX11_back 37 = .ok (.invokevirtual 182, 3) := by decide +kernel
theorem dX11_back_40 : decode cX11_back 40 = .ok (.istore 4, 2) := by decide +kernel
theorem dX11_back_42 : decode cX11_back 42 = .ok (.iload 4, 2) := by decide +kernel
theorem dX11_back_44 : decode cX11_back 44 = .ok (.bipush (-9), 2) := by decide +kernel
theorem dX11_back_46 : decode cX11_back 46 = .ok (.if_icmp .ne 6, 3) := by decide +kernel
theorem dX11_back_49 : decode cX11_back 49 = .ok (.bipush (-9), 2) := by decide +kernel
theorem dX11_back_51 : decode cX11_back 51 = .ok (.ireturn, 1) := by decide +kernel
theorem dX11_back_52 : decode cX11_back 52 = .ok (.aload_n 0, 1) := by decide +kernel
theorem dX11_back_53 : decode cX11_back 53 = .ok (.iconst 1, 1) := by decide +kernel
theorem dX11_back_54 : decode cX11_back 54 = .ok (.iload_n 2, 1) := by decide +kernel
theorem dX11_back_55 : decode cX11_back 55 = .ok (.ishl, 1) := by decide +kernel
theorem dX11_back_56 : decode cX11_back 56 = .ok (.iconst 1, 1) := by decide +kernel
theorem dX11_back_57 : decode cX11_back 57 = .ok (.iload_n 1, 1) := by decide +kernel
theorem dX11_back_58 : decode cX11_back 58 = .ok (.ishl, 1) := by decide +kernel
theorem dX11_back_59 : decode cX11_back 59 = .ok (.bipush 40, 2) := by decide +kernel
theorem dX11_back_61 : decode cX11_back 61 = .ok (.iload 4, 2) := by decide +kernel
theorem dX11_back_63 : decode cX11_back 63 = .ok (.isub, 1) := by decide +kernel
theorem dX11_back_64 : decode cX11_back 64 = .ok (.invokevirtual 182, 3) := by decide +kernel
theorem dX11_back_67 : decode cX11_back 67 = .ok (.istore 5, 2) := by decide +kernel
theorem dX11_back_69 : decode cX11_back 69 = .ok (.iload 5, 2) := by decide +kernel
theorem dX11_back_71 : decode cX11_back 71 = .ok (.bipush (-9), 2) := by decide +kernel
theorem dX11_back_73 : decode cX11_back 73 = .ok (.if_icmp .ne 8, 3) := by decide +kernel
theorem dX11_back_76 : decode cX11_back 76 = .ok (.bipush (-9), 2) := by decide +kernel
theorem dX11_back_78 : decode cX11_back 78 = .ok (.goto 8, 3) := by decide +kernel
theorem dX11_back_81 : decode cX11_back 81 = .ok (.iload 4, 2) := by decide +kernel
theorem dX11_back_83 : decode cX11_back 83 = .ok (.iload 5, 2) := by decide +kernel
theorem dX11_back_85 : decode cX11_back 85 = .ok (.iadd, 1) := by decide +kernel
theorem dX11_back_86 : decode cX11_back 86 = .ok (.ireturn, 1) := by decide +kernel
theorem dX11_news_0 : decode cX11_news 0 = .ok (.aload_n 0, 1) := by decide +kernel
theorem dX11_news_1 : decode cX11_news 1 = .ok (.iload_n 1, 1) := by decide +kernel
theorem dX11_news_2 : decode cX11_news 2 = .ok (.invokevirtual 92, 3) := by decide +kernel
theorem dX11_news_5 : decode cX11_news 5 = .ok (.istore_n 2, 1) := by decide +kernel
theorem dX11_news_6 : decode cX11_news 6 = .ok (.iload_n 2, 1) := by decide +kernel
theorem dX11_news_7 : decode cX11_news 7 = .ok (.ifCond .eq 9, 3) := by decide +kernel
theorem dX11_news_10 : decode cX11_news 10 = .ok (.aload_n 0, 1) := by decide +kernel
theorem dX11_news_11 : decode cX11_news 11 = .ok (.iload_n 2, 1) := by decide +kernel
theorem dX11_news_12 : decode cX11_news 12 = .ok (.invokevirtual 72, 3) := by decide +kernel
theorem dX11_news_15 : decode cX11_news 15 = .ok (.ireturn, 1) := by decide +kernel
theorem dX11_news_16 : decode cX11_news 16 = .ok (.aload_n 0, 1) := by decide +kernel
theorem dX11_news_17 : decode cX11_news 17 = .ok (.getfield 52, 3) := by decide +kernel
theorem dX11_news_20 : decode cX11_news 20 = .ok (.aload_n 0, 1) := by decide +kernel
theorem dX11_news_21 : decode cX11_news 21 = .ok (.getfield 48, 3) := by decide +kernel
theorem dX11_news_24 : decode cX11_news 24 = .ok (.invokevirtual 84, 3) := by decide +kernel
theorem dX11_news_27 : decode cX11_news 27 = .ok (.aload_n 0, 1) := by decide +kernel
theorem dX11_news_28 : decode cX11_news 28 = .ok (.iconst 1, 1) := by decide +kernel
theorem dX11_news_29 : decode cX11_news 29 = .ok (.iload_n 1, 1) := by decide +kernel
theorem dX11_news_30 : decode cX11_news 30 = .ok (.ishl, 1) := by decide +kernel
theorem dX11_news_31 : decode cX11_news 31 = .ok (.aload_n 0, 1) := by decide +kernel
theorem dX11_news_32 : decode cX11_news 32 = .ok (.getfield 48, 3) := by decide +kernel
theorem dX11_news_35 : decode cX11_news 35 = .ok (.invokevirtual 185, 3) := by decide +kernel
theorem dX11_news_38 : decode cX11_news 38 = .ok (.bipush 40, 2) := by decide +kernel
theorem dX11_news_40 : decode cX11_news 40 = .ok (.invokevirtual 182, 3) := by decide +kernel
theorem dX11_news_43 : decode cX11_news 43 = .ok (.ireturn, 1) := by decide +kernel
theorem dX11_know_0 : decode cX11_know 0 = .ok (.aload_n 0, 1) := by decide +kernel
theorem dX11_know_1 : decode cX11_know 1 = .ok (.iload_n 1, 1) := by decide +kernel
theorem dX11_know_2 : decode cX11_know 2 = .ok (.invokevirtual 92, 3) := by decide +kernel
theorem dX11_know_5 : decode cX11_know 5 = .ok (.iload_n 2, 1) := by decide +kernel
theorem dX11_know_6 : decode cX11_know 6 = .ok (.iconst 0, 1) := by decide +kernel
theorem dX11_know_7 : decode cX11_know 7 = .ok (.bipush 40, 2) := by decide +kernel
theorem dX11_know_9 : decode cX11_know 9 = .ok (.invokestatic 148, 3) := by decide +kernel
theorem dX11_know_12 : decode cX11_know 12 = .ok (.invokestatic 99, 3) := by decide +kernel
theorem dX11_know_15 : decode cX11_know 15 = .ok (.istore_n 3, 1) := by decide +kernel
theorem dX11_know_16 : decode cX11_know 16 = .ok (.iload_n 3, 1) := by decide +kernel
theorem dX11_know_17 : decode cX11_know 17 = .ok (.ifCond .eq 9, 3) := by decide +kernel
theorem dX11_know_20 : decode cX11_know 20 = .ok (.aload_n 0, 1) := by decide +kernel
theorem dX11_know_21 : decode cX11_know 21 = .ok (.iload_n 3, 1) := by decide +kernel
theorem dX11_know_22 : decode cX11_know 22 = .ok (.invokevirtual 72, 3) := by decide +kernel
theorem dX11_know_25 : decode cX11_know 25 = .ok (.ireturn, 1) := by decide +kernel
theorem dX11_know_26 : decode cX11_know 26 = .ok (.aload_n 0, 1) := by decide +kernel
theorem dX11_know_27 : decode cX11_know 27 = .ok (.getfield 52, 3) := by decide +kernel
theorem dX11_know_30 : decode cX11_know 30 = .ok (.aload_n 0, 1) := by decide +kernel
theorem dX11_know_31 : decode cX11_know 31 = .ok (.getfield 48, 3) := by decide +kernel
theorem dX11_know_34 : decode cX11_know 34 = .ok (.invokevirtual 84, 3) := by decide +kernel
theorem dX11_know_37 : decode cX11_know 37 = .ok (.iconst 1, 1) := by decide +kernel
theorem dX11_know_38 : decode cX11_know 38 = .ok (.iload_n 1, 1) := by decide +kernel
theorem dX11_know_39 : decode cX11_know 39 = .ok (.ishl, 1) := by decide +kernel
theorem dX11_know_40 : decode cX11_know 40 = .ok (.istore 4, 2) := by decide +kernel
theorem dX11_know_42 : decode cX11_know 42 = .ok (.iconst 0, 1) := by decide +kernel
theorem dX11_know_43 : decode cX11_know 43 = .ok (.istore 5, 2) := by decide +kernel
theorem dX11_know_45 : decode cX11_know 45 = .ok (.iload 5, 2) := by decide +kernel
theorem dX11_know_47 : decode cX11_know 47 = .ok (.iload_n 2, 1) := by decide +kernel
theorem dX11_know_48 : decode cX11_know 48 = .ok (.if_icmp .ge 29, 3) := by decide +kernel
theorem dX11_know_51 : decode cX11_know 51 = .ok (.aload_n 0, 1) := by decide +kernel
theorem dX11_know_52 : decode cX11_know 52 = .ok (.getfield 52, 3) := by decide +kernel
theorem dX11_know_55 : decode cX11_know 55 = .ok (.iload 4, 2) := by decide +kernel
theorem dX11_know_57 : decode cX11_know 57 = .ok (.invokevirtual 189, 3) := by decide +kernel
theorem dX11_know_60 : decode cX11_know 60 = .ok (.istore 4, 2) := by decide +kernel
theorem dX11_know_62 : decode cX11_know 62 = .ok (.aload_n 0, 1) := by decide +kernel
theorem dX11_know_63 : decode cX11_know 63 = .ok (.aload_n 0, 1) := by decide +kernel
theorem dX11_know_64 : decode cX11_know 64 = .ok (.getfield 52, 3) := by decide +kernel
theorem dX11_know_67 : decode cX11_know 67 = .ok (.invokevirtual 166, 3) := by decide +kernel
theorem dX11_know_70 : decode cX11_know 70 = .ok (.pop, 1) := by decide +kernel
theorem dX11_know_71 : decode cX11_know 71 = .ok (.iinc 5 1, 3) := by decide +kernel
theorem dX11_know_74 : decode cX11_know 74 = .ok (.goto (-29), 3) := by decide +kernel
theorem dX11_know_77 : decode cX11_know 77 = .ok (.iload 4, 2) := by decide +kernel
theorem dX11_know_79 : decode cX11_know 79 = .ok (.ireturn, 1) := by decide +kernel
theorem dX11_lost_0 : decode cX11_lost 0 = .ok (.iconst 0, 1) := by decide +kernel
theorem dX11_lost_1 : decode cX11_lost 1 = .ok (.istore_n 1, 1) := by decide +kernel
theorem dX11_lost_2 : decode cX11_lost 2 = .ok (.iconst 0, 1) := by decide +kernel
theorem dX11_lost_3 : decode cX11_lost 3 = .ok (.istore_n 2, 1) := by decide +kernel
theorem dX11_lost_4 : decode cX11_lost 4 = .ok (.iload_n 2, 1) := by decide +kernel
theorem dX11_lost_5 : decode cX11_lost 5 = .ok (.aload_n 0, 1) := by decide +kernel
theorem dX11_lost_6 : decode cX11_lost 6 = .ok (.getfield 48, 3) := by decide +kernel
theorem dX11_lost_9 : decode cX11_lost 9 = .ok (.getfield 192, 3) := by decide +kernel
theorem dX11_lost_12 : decode cX11_lost 12 = .ok (.if_icmp .ge 26, 3) := by decide +kernel
theorem dX11_lost_15 : decode cX11_lost 15 = .ok (.aload_n 0, 1) := by decide +kernel
theorem dX11_lost_16 : decode cX11_lost 16 = .ok (.getfield 48, 3) := by decide +kernel
theorem dX11_lost_19 : decode cX11_lost 19 = .ok (.iload_n 2, 1) := by decide +kernel
theorem dX11_lost_20 : decode cX11_lost 20 = .ok (.invokevirtual 195, 3) := by decide +kernel
theorem dX11_lost_23 : decode cX11_lost 23 = .ok (.ifCond .ne 9, 3) := by decide +kernel
theorem dX11_lost_26 : decode cX11_lost 26 = .ok (.iload_n 1, 1) := by decide +kernel
theorem dX11_lost_27 : decode cX11_lost 27 = .ok (.iconst 1, 1) := by decide +kernel
theorem dX11_lost_28 : decode cX11_lost 28 = .ok (.iload_n 2, 1) := by decide +kernel
theorem dX11_lost_29 : decode cX11_lost 29 = .ok (.ishl, 1) := by decide +kernel
theorem dX11_lost_30 : decode cX11_lost 30 = .ok (.ior, 1) := by decide +kernel
theorem dX11_lost_31 : decode cX11_lost 31 = .ok (.istore_n 1, 1) := by decide +kernel
theorem dX11_lost_32 : decode cX11_lost 32 = .ok (.iinc 2 1, 3) := by decide +kernel
theorem dX11_lost_35 : decode cX11_lost 35 = .ok (.goto (-31), 3) := by decide +kernel
theorem dX11_lost_38 : decode cX11_lost 38 = .ok (.iload_n 1, 1) := by decide +kernel
theorem dX11_lost_39 : decode cX11_lost 39 = .ok (.ireturn, 1) := by decide +kernel
theorem dX11_groups_0 : decode cX11_groups 0 = .ok (.iconst 0, 1) := by decide +kernel
theorem dX11_groups_1 : decode cX11_groups 1 = .ok (.istore_n 1, 1) := by decide +kernel
theorem dX11_groups_2 : decode cX11_groups 2 = .ok (.iconst 0, 1) := by decide +kernel
theorem dX11_groups_3 : decode cX11_groups 3 = .ok (.istore_n 2, 1) := by decide +kernel
theorem dX11_groups_4 : decode cX11_groups 4 = .ok (.iconst 0, 1) := by decide +kernel
theorem dX11_groups_5 : decode cX11_groups 5 = .ok (.istore_n 3, 1) := by decide +kernel
theorem dX11_groups_6 : decode cX11_groups 6 = .ok (.iload_n 3, 1) := by decide +kernel
theorem dX11_groups_7 : decode cX11_groups 7 = .ok (.aload_n 0, 1) := by decide +kernel
theorem dX11_groups_8 : decode cX11_groups 8 = .ok (.getfield 48, 3) := by decide +kernel
theorem dX11_groups_11 : decode cX11_groups 11 = .ok (.getfield 192, 3) := by decide +kernel
theorem dX11_groups_14 : decode cX11_groups 14 = .ok (.if_icmp .ge 31, 3) := by decide +kernel
theorem dX11_groups_17 : decode cX11_groups 17 = .ok (.iload_n 1, 1) := by decide +kernel
theorem dX11_groups_18 : decode cX11_groups 18 = .ok (.iconst 1, 1) := by decide +kernel
theorem dX11_groups_19 : decode cX11_groups 19 = .ok (.iload_n 3, 1) := by decide +kernel
theorem dX11_groups_20 : decode cX11_groups 20 = .ok (.ishl, 1) := by decide +kernel
theorem dX11_groups_21 : decode cX11_groups 21 = .ok (.iand, 1) := by decide +kernel
theorem dX11_groups_22 : decode cX11_groups 22 = .ok (.ifCond .ne 17, 3) := by decide +kernel
theorem dX11_groups_25 : decode cX11_groups 25 = .ok (.iload_n 1, 1) := by decide +kernel
theorem dX11_groups_26 : decode cX11_groups 26 = .ok (.aload_n 0, 1) := by decide +kernel
theorem dX11_groups_27 : decode cX11_groups 27 = .ok (.getfield 48, 3) := by decide +kernel
theorem dX11_groups_30 : decode cX11_groups 30 = .ok (.iload_n 3, 1) := by decide +kernel
theorem dX11_groups_31 : decode cX11_groups 31 = .ok (.invokevirtual 198, 3) := by decide +kernel
theorem dX11_groups_34 : decode cX11_groups 34 = .ok (.ior, 1) := by decide +kernel
theorem dX11_groups_35 : decode cX11_groups 35 = .ok (.istore_n 1, 1) := by decide +kernel
theorem dX11_groups_36 : decode cX11_groups 36 = .ok (.iinc 2 1, 3) := by decide +kernel
theorem dX11_groups_39 : decode cX11_groups 39 = .ok (.iinc 3 1, 3) := by decide +kernel
theorem dX11_groups_42 : decode cX11_groups 42 = .ok (.goto (-36), 3) := by decide +kernel
theorem dX11_groups_45 : decode cX11_groups 45 = .ok (.iload_n 2, 1) := by decide +kernel
theorem dX11_groups_46 : decode cX11_groups 46 = .ok (.ireturn, 1) := by decide +kernel
theorem dX11_hungry_0 : decode cX11_hungry 0 = .ok (.iload_n 1, 1) := by decide +kernel
theorem dX11_hungry_1 : decode cX11_hungry 1 = .ok (.iconst 0, 1) := by decide +kernel
theorem dX11_hungry_2 : decode cX11_hungry 2 = .ok (.bipush 60, 2) := by decide +kernel
theorem dX11_hungry_4 : decode cX11_hungry 4 = .ok (.invokestatic 148, 3) := by decide +kernel
theorem dX11_hungry_7 : decode cX11_hungry 7 = .ok (.istore_n 2, 1) := by decide +kernel
theorem dX11_hungry_8 : decode cX11_hungry 8 = .ok (.iload_n 2, 1) := by decide +kernel
theorem dX11_hungry_9 : decode cX11_hungry 9 = .ok (.ifCond .eq 11, 3) := by decide +kernel
theorem dX11_hungry_12 : decode cX11_hungry 12 = .ok (.aload_n 0, 1) := by decide +kernel
theorem dX11_hungry_13 : decode cX11_hungry 13 = .ok (.iload_n 2, 1) := by decide +kernel
theorem dX11_hungry_14 : decode cX11_hungry 14 = .ok (.invokevirtual 72, 3) := by decide +kernel
theorem dX11_hungry_17 : decode cX11_hungry 17 = .ok (.goto 11, 3) := by decide +kernel
theorem dX11_hungry_20 : decode cX11_hungry 20 = .ok (.aload_n 0, 1) := by decide +kernel
theorem dX11_hungry_21 : decode cX11_hungry 21 = .ok (.getfield 48, 3) := by decide +kernel
theorem dX11_hungry_24 : decode cX11_hungry 24 = .ok (.iload_n 1, 1) := by decide +kernel
theorem dX11_hungry_25 : decode cX11_hungry 25 = .ok (.invokevirtual 201, 3) := by decide +kernel
theorem dX11_hungry_28 : decode cX11_hungry 28 = .ok (.ireturn, 1) := by decide +kernel
theorem dX11_lasts_0 : decode cX11_lasts 0 = .ok (.aload_n 0, 1) := by decide +kernel
theorem dX11_lasts_1 : decode cX11_lasts 1 = .ok (.iload_n 1, 1) := by decide +kernel
theorem dX11_lasts_2 : decode cX11_lasts 2 = .ok (.invokevirtual 92, 3) := by decide +kernel
theorem dX11_lasts_5 : decode cX11_lasts 5 = .ok (.istore_n 2, 1) := by decide +kernel
theorem dX11_lasts_6 : decode cX11_lasts 6 = .ok (.iload_n 2, 1) := by decide +kernel
theorem dX11_lasts_7 : decode cX11_lasts 7 = .ok (.ifCond .eq 9, 3) := by decide +kernel
theorem dX11_lasts_10 : decode cX11_lasts 10 = .ok (.aload_n 0, 1) := by decide +kernel
theorem dX11_lasts_11 : decode cX11_lasts 11 = .ok (.iload_n 2, 1) := by decide +kernel
theorem dX11_lasts_12 : decode cX11_lasts 12 = .ok (.invokevirtual 72, 3) := by decide +kernel
theorem dX11_lasts_15 : decode cX11_lasts 15 = .ok (.ireturn, 1) := by decide +kernel
theorem dX11_lasts_16 : decode cX11_lasts 16 = .ok (.aload_n 0, 1) := by decide +kernel
theorem dX11_lasts_17 : decode cX11_lasts 17 = .ok (.getfield 48, 3) := by decide +kernel
theorem dX11_lasts_20 : decode cX11_lasts 20 = .ok (.getfield 102, 3) := by decide +kernel
theorem dX11_lasts_23 : decode cX11_lasts 23 = .ok (.iload_n 1, 1) := by decide +kernel
theorem dX11_lasts_24 : decode cX11_lasts 24 = .ok (.aaload, 1) := by decide +kernel
theorem dX11_lasts_25 : decode cX11_lasts 25 = .ok (.astore_n 3, 1) := by decide +kernel
theorem dX11_lasts_26 : decode cX11_lasts 26 = .ok (.aload_n 3, 1) := by decide +kernel
theorem dX11_lasts_27 : decode cX11_lasts 27 = .ok (.getfield 114, 3) := by decide +kernel
theorem dX11_lasts_30 : decode cX11_lasts 30 = .ok (.ifCond .gt 8, 3) := by decide +kernel
theorem dX11_lasts_33 : decode cX11_lasts 33 = .ok (.bipush 99, 2) := by decide +kernel
theorem dX11_lasts_35 : decode cX11_lasts 35 = .ok (.goto 17, 3) := by decide +kernel
theorem dX11_lasts_38 : decode cX11_lasts 38 = .ok (.bipush 99, 2) := by decide +kernel
theorem dX11_lasts_40 : decode cX11_lasts 40 = .ok (.aload_n 3, 1) := by decide +kernel
theorem dX11_lasts_41 : decode cX11_lasts 41 = .ok (.getfield 117, 3) := by decide +kernel
theorem dX11_lasts_44 : decode cX11_lasts 44 = .ok (.aload_n 3, 1) := by decide +kernel
theorem dX11_lasts_45 : decode cX11_lasts 45 = .ok (.getfield 114, 3) := by decide +kernel
theorem dX11_lasts_48 : decode cX11_lasts 48 = .ok (.idiv, 1) := by decide +kernel
theorem dX11_lasts_49 : decode cX11_lasts 49 = .ok (.invokestatic 161, 3) := by decide +kernel
theorem dX11_lasts_52 : decode cX11_lasts 52 = .ok (.ireturn, 1) := by decide +kernel
theorem dX11_share_0 : decode cX11_share 0 = .ok (.aload_n 0, 1) := by decide +kernel
theorem dX11_share_1 : decode cX11_share 1 = .ok (.iload_n 1, 1) := by decide +kernel
theorem dX11_share_2 : decode cX11_share 2 = .ok (.iload_n 2, 1) := by decide +kernel
theorem dX11_share_3 : decode cX11_share 3 = .ok (.invokevirtual 172, 3) := by decide +kernel
theorem dX11_share_6 : decode cX11_share 6 = .ok (.istore_n 3, 1) := by decide +kernel
theorem dX11_share_7 : decode cX11_share 7 = .ok (.iload_n 3, 1) := by decide +kernel
theorem dX11_share_8 : decode cX11_share 8 = .ok (.ifCond .eq 9, 3) := by decide +kernel
theorem dX11_share_11 : decode cX11_share 11 = .ok (.aload_n 0, 1) := by decide +kernel
theorem dX11_share_12 : decode cX11_share 12 = .ok (.iload_n 3, 1) := by decide +kernel
theorem dX11_share_13 : decode cX11_share 13 = .ok (.invokevirtual 72, 3) := by decide +kernel
theorem dX11_share_16 : decode cX11_share 16 = .ok (.ireturn, 1) := by decide +kernel
theorem dX11_share_17 : decode cX11_share 17 = .ok (.aload_n 0, 1) := by decide +kernel
theorem dX11_share_18 : decode cX11_share 18 = .ok (.getfield 48, 3) := by decide +kernel
theorem dX11_share_21 : decode cX11_share 21 = .ok (.iload_n 1, 1) := by decide +kernel
theorem dX11_share_22 : decode cX11_share 22 = .ok (.iload_n 2, 1) := by decide +kernel
theorem dX11_share_23 : decode cX11_share 23 = .ok (.invokevirtual 175, 3) := by decide +kernel
theorem dX11_share_26 : decode cX11_share 26 = .ok (.iconst 1, 1) := by decide +kernel
theorem dX11_share_27 : decode cX11_share 27 = .ok (.if_icmp .le 10, 3) := by decide +kernel
theorem dX11_share_30 : decode cX11_share 30 = .ok (.aload_n 0, 1) := by decide +kernel
theorem dX11_share_31 : decode cX11_share 31 = .ok (.bipush (-3), 2) := by decide +kernel
theorem dX11_share_33 : decode cX11_share 33 = .ok (.invokevirtual 72, 3) := by decide +kernel
theorem dX11_share_36 : decode cX11_share 36 = .ok (.ireturn, 1) := by decide +kernel
theorem dX11_share_37 : decode cX11_share 37 = .ok (.aload_n 0, 1) := by decide +kernel
theorem dX11_share_38 : decode cX11_share 38 = .ok (.getfield 48, 3) := by decide +kernel
theorem dX11_share_41 : decode cX11_share 41 = .ok (.getfield 102, 3) := by decide +kernel
theorem dX11_share_44 : decode cX11_share 44 = .ok (.iload_n 1, 1) := by decide +kernel
theorem dX11_share_45 : decode cX11_share 45 = .ok (.aaload, 1) := by decide +kernel
theorem dX11_share_46 : decode cX11_share 46 = .ok (.aload_n 0, 1) := by decide +kernel
theorem dX11_share_47 : decode cX11_share 47 = .ok (.getfield 48, 3) := by decide +kernel
theorem dX11_share_50 : decode cX11_share 50 = .ok (.getfield 102, 3) := by decide +kernel
theorem dX11_share_53 : decode cX11_share 53 = .ok (.iload_n 2, 1) := by decide +kernel
theorem dX11_share_54 : decode cX11_share 54 = .ok (.aaload, 1) := by decide +kernel
theorem dX11_share_55 : decode cX11_share 55 = .ok (.invokestatic 204, 3) := by decide +kernel
theorem dX11_share_58 : decode cX11_share 58 = .ok (.aload_n 0, 1) := by decide +kernel
theorem dX11_share_59 : decode cX11_share 59 = .ok (.getfield 48, 3) := by decide +kernel
theorem dX11_share_62 : decode cX11_share 62 = .ok (.getfield 102, 3) := by decide +kernel
theorem dX11_share_65 : decode cX11_share 65 = .ok (.iload_n 1, 1) := by decide +kernel
theorem dX11_share_66 : decode cX11_share 66 = .ok (.aaload, 1) := by decide +kernel
theorem dX11_share_67 : decode cX11_share 67 = .ok (.getfield 117, 3) := by decide +kernel
theorem dX11_share_70 : decode cX11_share 70 = .ok (.ireturn, 1) := by decide +kernel
theorem dX11_givenUp_0 : decode cX11_givenUp 0 = .ok (.iload_n 1, 1) := by decide +kernel
theorem dX11_givenUp_1 : decode cX11_givenUp 1 = .ok (.iconst 0, 1) := by decide +kernel
theorem dX11_givenUp_2 : decode cX11_givenUp 2 = .ok (.bipush 60, 2) := by decide +kernel
theorem dX11_givenUp_4 : decode cX11_givenUp 4 = .ok (.invokestatic 148, 3) := by decide +kernel
theorem dX11_givenUp_7 : decode cX11_givenUp 7 = .ok (.iload_n 2, 1) := by decide +kernel
theorem dX11_givenUp_8 : decode cX11_givenUp 8 = .ok (.iconst 1, 1) := by decide +kernel
theorem dX11_givenUp_9 : decode cX11_givenUp 9 = .ok (.invokestatic 95, 3) := by decide +kernel
theorem dX11_givenUp_12 : decode cX11_givenUp 12 = .ok (.invokestatic 99, 3) := by decide +kernel
theorem dX11_givenUp_15 : decode cX11_givenUp 15 = .ok (.istore_n 3, 1) := by decide +kernel
theorem dX11_givenUp_16 : decode cX11_givenUp 16 = .ok (.iload_n 3, 1) := by decide +kernel
theorem dX11_givenUp_17 : decode cX11_givenUp 17 = .ok (.ifCond .eq 9, 3) := by decide +kernel
theorem dX11_givenUp_20 : decode cX11_givenUp 20 = .ok (.aload_n 0, 1) := by decide +kernel
theorem dX11_givenUp_21 : decode cX11_givenUp 21 = .ok (.iload_n 3, 1) := by decide +kernel
theorem dX11_givenUp_22 : decode cX11_givenUp 22 = .ok (.invokevirtual 72, 3) := by decide +kernel
theorem dX11_givenUp_25 : decode cX11_givenUp 25 = .ok (.ireturn, 1) := by decide +kernel
theorem dX11_givenUp_26 : decode cX11_givenUp 26 = .ok (.aload_n 0, 1) := by decide +kernel
theorem dX11_givenUp_27 : decode cX11_givenUp 27 = .ok (.getfield 48, 3) := by decide +kernel
theorem dX11_givenUp_30 : decode cX11_givenUp 30 = .ok (.getfield 192, 3) := by decide +kernel
theorem dX11_givenUp_33 : decode cX11_givenUp 33 = .ok (.iconst 2, 1) := by decide +kernel
theorem dX11_givenUp_34 : decode cX11_givenUp 34 = .ok (.if_icmp .ge 6, 3) := by decide +kernel
theorem dX11_givenUp_37 : decode cX11_givenUp 37 = .ok (.bipush (-9), 2) := by decide +kernel
theorem dX11_givenUp_39 : decode cX11_givenUp 39 = .ok (.ireturn, 1) := by decide +kernel
theorem dX11_givenUp_40 : decode cX11_givenUp 40 = .ok (.iconst 0, 1) := by decide +kernel
theorem dX11_givenUp_41 : decode cX11_givenUp 41 = .ok (.istore 4, 2) := by decide +kernel
theorem dX11_givenUp_43 : decode cX11_givenUp 43 = .ok (.aload_n 0, 1) := by decide +kernel
theorem dX11_givenUp_44 : decode cX11_givenUp 44 = .ok (.iconst 0, 1) := by decide +kernel
theorem dX11_givenUp_45 : decode cX11_givenUp 45 = .ok (.iload_n 1, 1) := by decide +kernel
theorem dX11_givenUp_46 : decode cX11_givenUp 46 = .ok (.invokevirtual 208, 3) := by decide +kernel
theorem dX11_givenUp_49 : decode cX11_givenUp 49 = .ok (.istore 5, 2) := by decide +kernel
theorem dX11_givenUp_51 : decode cX11_givenUp 51 = .ok (.iconst 1, 1) := by decide +kernel
theorem dX11_givenUp_52 : decode cX11_givenUp 52 = .ok (.istore 6, 2) := by decide +kernel
theorem dX11_givenUp_54 : decode cX11_givenUp 54 = .ok (.iload 6, 2) := by decide +kernel
theorem dX11_givenUp_56 : decode cX11_givenUp 56 = .ok (.aload_n 0, 1) := by decide +kernel
theorem dX11_givenUp_57 : decode cX11_givenUp 57 = .ok (.getfield 48, 3) := by decide +kernel
theorem dX11_givenUp_60 : decode cX11_givenUp 60 = .ok (.getfield 192, 3) := by decide +kernel
theorem dX11_givenUp_63 : decode cX11_givenUp 63 = .ok (.if_icmp .ge 33, 3) := by decide +kernel
theorem dX11_givenUp_66 : decode cX11_givenUp 66 = .ok (.aload_n 0, 1) := by decide +kernel
theorem dX11_givenUp_67 : decode cX11_givenUp 67 = .ok (.iload 6, 2) := by decide +kernel
theorem dX11_givenUp_69 : decode cX11_givenUp 69 = .ok (.iload_n 1, 1) := by decide +kernel
theorem dX11_givenUp_70 : decode cX11_givenUp 70 = .ok (.invokevirtual 208, 3) := by decide +kernel
theorem dX11_givenUp_73 : decode cX11_givenUp 73 = .ok (.istore 7, 2) := by decide +kernel
theorem dX11_givenUp_75 : decode cX11_givenUp 75 = .ok (.iload 7, 2) := by decide +kernel
theorem dX11_givenUp_77 : decode cX11_givenUp 77 = .ok (.iload 5, 2) := by decide +kernel
theorem dX11_givenUp_79 : decode cX11_givenUp 79 = .ok (.if_icmp .ge 11, 3) := by decide +kernel
theorem dX11_givenUp_82 : decode cX11_givenUp 82 = .ok (.iload 7, 2) := by decide +kernel
theorem dX11_givenUp_84 : decode cX11_givenUp 84 = .ok (.istore 5, 2) := by decide +kernel
theorem dX11_givenUp_86 : decode cX11_givenUp 86 = .ok (.iload 6, 2) := by decide +kernel
theorem dX11_givenUp_88 : decode cX11_givenUp 88 = .ok (.istore 4, 2) := by decide +kernel
theorem dX11_givenUp_90 : decode cX11_givenUp 90 = .ok (.iinc 6 1, 3) := by decide +kernel
theorem dX11_givenUp_93 : decode cX11_givenUp 93 = .ok (.goto (-39), 3) := by decide +kernel
theorem dX11_givenUp_96 : decode cX11_givenUp 96 = .ok (.iload_n 2, 1) := by decide +kernel
theorem dX11_givenUp_97 : decode cX11_givenUp 97 = .ok (.ifCond .ne 8, 3) := by decide +kernel
theorem dX11_givenUp_100 : decode cX11_givenUp 100 = .ok (.iload 4, 2) := by decide +kernel
theorem dX11_givenUp_102 : decode cX11_givenUp 102 = .ok (.goto 5, 3) := by decide +kernel
theorem dX11_givenUp_105 : decode cX11_givenUp 105 = .ok (.iload 5, 2) := by decide +kernel
theorem dX11_givenUp_107 : decode cX11_givenUp 107 = .ok (.ireturn, 1) := by decide +kernel
theorem dX11_home_0 : decode cX11_home 0 = .ok (.iload_n 1, 1) := by decide +kernel
theorem dX11_home_1 : decode cX11_home 1 = .ok (.iload_n 2, 1) := by decide +kernel
theorem dX11_home_2 : decode cX11_home 2 = .ok (.sipush (-9999), 3) := by decide +kernel
theorem dX11_home_5 : decode cX11_home 5 = .ok (.sipush 9999, 3) := by decide +kernel
theorem dX11_home_8 : decode cX11_home 8 = .ok (.invokestatic 138, 3) := by decide +kernel
theorem dX11_home_11 : decode cX11_home 11 = .ok (.istore 5, 2) := by decide +kernel
theorem dX11_home_13 : decode cX11_home 13 = .ok (.iload_n 3, 1) := by decide +kernel
theorem dX11_home_14 : decode cX11_home 14 = .ok (.iconst 0, 1) := by decide +kernel
theorem dX11_home_15 : decode cX11_home 15 = .ok (.bipush 60, 2) := by decide +kernel
theorem dX11_home_17 : decode cX11_home 17 = .ok (.invokestatic 148, 3) := by decide +kernel
theorem dX11_home_20 : decode cX11_home 20 = .ok (.iload 5, 2) := by decide +kernel
theorem dX11_home_22 : decode cX11_home 22 = .ok (.invokestatic 211, 3) := by decide +kernel
theorem dX11_home_25 : decode cX11_home 25 = .ok (.iload 4, 2) := by decide +kernel
theorem dX11_home_27 : decode cX11_home 27 = .ok (.iconst 2, 1) := by decide +kernel
theorem dX11_home_28 : decode cX11_home 28 = .ok (.invokestatic 95, 3) := by decide +kernel
theorem dX11_home_31 : decode cX11_home 31 = .ok (.invokestatic 99, 3) := by decide +kernel
theorem dX11_home_34 : decode cX11_home 34 = .ok (.istore 6, 2) := by decide +kernel
theorem dX11_home_36 : decode cX11_home 36 = .ok (.iload 6, 2) := by decide +kernel
theorem dX11_home_38 : decode cX11_home 38 = .ok (.ifCond .eq 10, 3) := by decide +kernel
theorem dX11_home_41 : decode cX11_home 41 = .ok (.aload_n 0, 1) := by decide +kernel
theorem dX11_home_42 : decode cX11_home 42 = .ok (.iload 6, 2) := by decide +kernel
theorem dX11_home_44 : decode cX11_home 44 = .ok (.invokevirtual 72, 3) := by decide +kernel
theorem dX11_home_47 : decode cX11_home 47 = .ok (.ireturn, 1) := by decide +kernel
theorem dX11_home_48 : decode cX11_home 48 = .ok (.aload_n 0, 1) := by decide +kernel
theorem dX11_home_49 : decode cX11_home 49 = .ok (.getfield 48, 3) := by decide +kernel
theorem dX11_home_52 : decode cX11_home 52 = .ok (.getfield 192, 3) := by decide +kernel
theorem dX11_home_55 : decode cX11_home 55 = .ok (.ifCond .ne 6, 3) := by decide +kernel
theorem dX11_home_58 : decode cX11_home 58 = .ok (.bipush (-9), 2) := by decide +kernel
theorem dX11_home_60 : decode cX11_home 60 = .ok (.ireturn, 1) := by decide +kernel
theorem dX11_home_61 : decode cX11_home 61 = .ok (.aload_n 0, 1) := by decide +kernel
theorem dX11_home_62 : decode cX11_home 62 = .ok (.getfield 52, 3) := by decide +kernel
theorem dX11_home_65 : decode cX11_home 65 = .ok (.aload_n 0, 1) := by decide +kernel
theorem dX11_home_66 : decode cX11_home 66 = .ok (.getfield 48, 3) := by decide +kernel
theorem dX11_home_69 : decode cX11_home 69 = .ok (.invokevirtual 84, 3) := by decide +kernel
theorem dX11_home_72 : decode cX11_home 72 = .ok (.aload_n 0, 1) := by decide +kernel
theorem dX11_home_73 : decode cX11_home 73 = .ok (.getfield 48, 3) := by decide +kernel
theorem dX11_home_76 : decode cX11_home 76 = .ok (.iload_n 1, 1) := by decide +kernel
theorem dX11_home_77 : decode cX11_home 77 = .ok (.iload_n 2, 1) := by decide +kernel
theorem dX11_home_78 : decode cX11_home 78 = .ok (.bipush (-9), 2) := by decide +kernel
theorem dX11_home_80 : decode cX11_home 80 = .ok (.invokevirtual 214, 3) := by decide +kernel
theorem dX11_home_83 : decode cX11_home 83 = .ok (.istore 7, 2) := by decide +kernel
theorem dX11_home_85 : decode cX11_home 85 = .ok (.iconst 0, 1) := by decide +kernel
theorem dX11_home_86 : decode cX11_home 86 = .ok (.istore 8, 2) := by decide +kernel
theorem dX11_home_88 : decode cX11_home 88 = .ok (.aload_n 0, 1) := by decide +kernel
theorem dX11_home_89 : decode cX11_home 89 = .ok (.getfield 48, 3) := by decide +kernel
theorem dX11_home_92 : decode cX11_home 92 = .ok (.iload 7, 2) := by decide +kernel
theorem dX11_home_94 : decode cX11_home 94 = .ok (.iload_n 1, 1) := by decide +kernel
theorem dX11_home_95 : decode cX11_home 95 = .ok (.iload_n 2, 1) := by decide +kernel
theorem dX11_home_96 : decode cX11_home 96 = .ok (.invokevirtual 217, 3) := by decide +kernel
theorem dX11_home_99 : decode cX11_home 99 = .ok (.istore 9, 2) := by decide +kernel
theorem dX11_home_101 : decode cX11_home 101 = .ok (.iconst 1, 1) := by decide +kernel
theorem dX11_home_102 : decode cX11_home 102 = .ok (.istore 10, 2) := by decide +kernel
theorem dX11_home_104 : decode cX11_home 104 = .ok (.iload 10, 2) := by decide +kernel
theorem dX11_home_106 : decode cX11_home 106 = .ok (.iload_n 3, 1) := by decide +kernel
theorem dX11_home_107 : decode cX11_home 107 = .ok (.if_icmp .gt 63, 3) := by decide +kernel
theorem dX11_home_110 : decode cX11_home 110 = .ok (.aload_n 0, 1) := by decide +kernel
theorem dX11_home_111 : decode cX11_home 111 = .ok (.aload_n 0, 1) := by decide +kernel
theorem dX11_home_112 : decode cX11_home 112 = .ok (.getfield 52, 3) := by decide +kernel
theorem dX11_home_115 : decode cX11_home 115 = .ok (.invokevirtual 166, 3) := by decide +kernel
theorem dX11_home_118 : decode cX11_home 118 = .ok (.pop, 1) := by decide +kernel
theorem dX11_home_119 : decode cX11_home 119 = .ok (.aload_n 0, 1) := by decide +kernel
theorem dX11_home_120 : decode cX11_home 120 = .ok (.getfield 52, 3) := by decide +kernel
theorem dX11_home_123 : decode cX11_home 123 = .ok (.iload_n 1, 1) := by decide +kernel
theorem dX11_home_124 : decode cX11_home 124 = .ok (.iload_n 2, 1) := by decide +kernel
theorem dX11_home_125 : decode cX11_home 125 = .ok (.bipush (-9), 2) := by decide +kernel
theorem dX11_home_127 : decode cX11_home 127 = .ok (.invokevirtual 214, 3) := by decide +kernel
theorem dX11_home_130 : decode cX11_home 130 = .ok (.istore 11, 2) := by decide +kernel
theorem dX11_home_132 : decode cX11_home 132 = .ok (.aload_n 0, 1) := by decide +kernel
theorem dX11_home_133 : decode cX11_home 133 = .ok (.getfield 52, 3) := by decide +kernel
theorem dX11_home_136 : decode cX11_home 136 = .ok (.iload 11, 2) := by decide +kernel
theorem dX11_home_138 : decode cX11_home 138 = .ok (.iload_n 1, 1) := by decide +kernel
theorem dX11_home_139 : decode cX11_home 139 = .ok (.iload_n 2, 1) := by decide +kernel
theorem dX11_home_140 : decode cX11_home 140 = .ok (.invokevirtual 217, 3) := by decide +kernel
theorem dX11_home_143 : decode cX11_home 143 = .ok (.istore 12, 2) := by decide +kernel
theorem dX11_home_145 : decode cX11_home 145 = .ok (.iload 12, 2) := by decide +kernel
theorem dX11_home_147 : decode cX11_home 147 = .ok (.iload 9, 2) := by decide +kernel
theorem dX11_home_149 : decode cX11_home 149 = .ok (.if_icmp .ge 15, 3) := by decide +kernel
theorem dX11_home_152 : decode cX11_home 152 = .ok (.iload 12, 2) := by decide +kernel
theorem dX11_home_154 : decode cX11_home 154 = .ok (.istore 9, 2) := by decide +kernel
theorem dX11_home_156 : decode cX11_home 156 = .ok (.iload 10, 2) := by decide +kernel
theorem dX11_home_158 : decode cX11_home 158 = .ok (.istore 8, 2) := by decide +kernel
theorem dX11_home_160 : decode cX11_home 160 = .ok (.iload 11, 2) := by decide +kernel
theorem dX11_home_162 : decode cX11_home 162 = .ok (.istore 7, 2) := by decide +kernel
theorem dX11_home_164 : decode cX11_home 164 = .ok (.iinc 10 1, 3) := by decide +kernel
theorem dX11_home_167 : decode cX11_home 167 = .ok (.goto (-63), 3) := by decide +kernel
theorem dX11_home_170 : decode cX11_home 170 = .ok (.iload 4, 2) := by decide +kernel
theorem dX11_home_172 : decode cX11_home 172 = .ok (.ifCond .ne 8, 3) := by decide +kernel
theorem dX11_home_175 : decode cX11_home 175 = .ok (.iload 7, 2) := by decide +kernel
theorem dX11_home_177 : decode cX11_home 177 = .ok (.goto 16, 3) := by decide +kernel
theorem dX11_home_180 : decode cX11_home 180 = .ok (.iload 4, 2) := by decide +kernel
theorem dX11_home_182 : decode cX11_home 182 = .ok (.iconst 1, 1) := by decide +kernel
theorem dX11_home_183 : decode cX11_home 183 = .ok (.if_icmp .ne 8, 3) := by decide +kernel
theorem dX11_home_186 : decode cX11_home 186 = .ok (.iload 8, 2) := by decide +kernel
theorem dX11_home_188 : decode cX11_home 188 = .ok (.goto 5, 3) := by decide +kernel
theorem dX11_home_191 : decode cX11_home 191 = .ok (.iload 9, 2) := by decide +kernel
theorem dX11_home_193 : decode cX11_home 193 = .ok (.ireturn, 1) := by decide +kernel
theorem dX11_kinds_0 : decode cX11_kinds 0 = .ok (.aload_n 0, 1) := by decide +kernel
theorem dX11_kinds_1 : decode cX11_kinds 1 = .ok (.iload_n 1, 1) := by decide +kernel
theorem dX11_kinds_2 : decode cX11_kinds 2 = .ok (.invokevirtual 92, 3) := by decide +kernel
theorem dX11_kinds_5 : decode cX11_kinds 5 = .ok (.iload_n 3, 1) := by decide +kernel
theorem dX11_kinds_6 : decode cX11_kinds 6 = .ok (.iconst 0, 1) := by decide +kernel
theorem dX11_kinds_7 : decode cX11_kinds 7 = .ok (.bipush 30, 2) := by decide +kernel
theorem dX11_kinds_9 : decode cX11_kinds 9 = .ok (.invokestatic 148, 3) := by decide +kernel
theorem dX11_kinds_12 : decode cX11_kinds 12 = .ok (.iload_n 2, 1) := by decide +kernel
theorem dX11_kinds_13 : decode cX11_kinds 13 = .ok (.iconst 0, 1) := by decide +kernel
theorem dX11_kinds_14 : decode cX11_kinds 14 = .ok (.bipush 9, 2) := by decide +kernel
theorem dX11_kinds_16 : decode cX11_kinds 16 = .ok (.invokestatic 148, 3) := by decide +kernel
theorem dX11_kinds_19 : decode cX11_kinds 19 = .ok (.invokestatic 211, 3) := by decide +kernel
theorem dX11_kinds_22 : decode cX11_kinds 22 = .ok (.invokestatic 99, 3) := by decide +kernel
theorem dX11_kinds_25 : decode cX11_kinds 25 = .ok (.istore 6, 2) := by decide +kernel
theorem dX11_kinds_27 : decode cX11_kinds 27 = .ok (.iload 6, 2) := by decide +kernel
theorem dX11_kinds_29 : decode cX11_kinds 29 = .ok (.ifCond .eq 10, 3) := by decide +kernel
theorem dX11_kinds_32 : decode cX11_kinds 32 = .ok (.aload_n 0, 1) := by decide +kernel
theorem dX11_kinds_33 : decode cX11_kinds 33 = .ok (.iload 6, 2) := by decide +kernel
theorem dX11_kinds_35 : decode cX11_kinds 35 = .ok (.invokevirtual 72, 3) := by decide +kernel
theorem dX11_kinds_38 : decode cX11_kinds 38 = .ok (.ireturn, 1) := by decide +kernel
theorem dX11_kinds_39 : decode cX11_kinds 39 = .ok (.iconst 0, 1) := by decide +kernel
theorem dX11_kinds_40 : decode cX11_kinds 40 = .ok (.istore 7, 2) := by decide +kernel
theorem dX11_kinds_42 : decode cX11_kinds 42 = .ok (.iconst 0, 1) := by decide +kernel
theorem dX11_kinds_43 : decode cX11_kinds 43 = .ok (.istore 8, 2) := by decide +kernel
theorem dX11_kinds_45 : decode cX11_kinds 45 = .ok (.iload 8, 2) := by decide +kernel
theorem dX11_kinds_47 : decode cX11_kinds 47 = .ok (.bipush 6, 2) := by decide +kernel
theorem dX11_kinds_49 : decode cX11_kinds 49 = .ok (.if_icmp .ge 47, 3) := by decide +kernel
theorem dX11_kinds_52 : decode cX11_kinds 52 = .ok (.aload_n 0, 1) := by decide +kernel
theorem dX11_kinds_53 : decode cX11_kinds 53 = .ok (.aload_n 0, 1) := by decide +kernel
theorem dX11_kinds_54 : decode cX11_kinds 54 = .ok (.getfield 48, 3) := by decide +kernel
theorem dX11_kinds_57 : decode cX11_kinds 57 = .ok (.getfield 102, 3) := by decide +kernel
theorem dX11_kinds_60 : decode cX11_kinds 60 = .ok (.iload_n 1, 1) := by decide +kernel
theorem dX11_kinds_61 : decode cX11_kinds 61 = .ok (.aaload, 1) := by decide +kernel
theorem dX11_kinds_62 : decode cX11_kinds 62 = .ok (.aload_n 0, 1) := by decide +kernel
theorem dX11_kinds_63 : decode cX11_kinds 63 = .ok (.getfield 25, 3) := by decide +kernel
theorem dX11_kinds_66 : decode cX11_kinds 66 = .ok (.iload 8, 2) := by decide +kernel
theorem dX11_kinds_68 : decode cX11_kinds 68 = .ok (.aaload, 1) := by decide +kernel
theorem dX11_kinds_69 : decode cX11_kinds 69 = .ok (.iload_n 2, 1) := by decide +kernel
theorem dX11_kinds_70 : decode cX11_kinds 70 = .ok (.iload_n 3, 1) := by decide +kernel
theorem dX11_kinds_71 : decode cX11_kinds 71 = .ok (.iload 4, 2) := by decide +kernel
theorem dX11_kinds_73 : decode cX11_kinds 73 = .ok (.iload 5, 2) := by decide +kernel
theorem dX11_kinds_75 : decode cX11_kinds 75 = .ok (.invokevirtual 220, 3) := by decide +kernel
theorem dX11_kinds_78 : decode cX11_kinds 78 = .ok (.ifCond .eq 12, 3) := by decide +kernel
theorem dX11_kinds_81 : decode cX11_kinds 81 = .ok (.iload 7, 2) := by decide +kernel
theorem dX11_kinds_83 : decode cX11_kinds 83 = .ok (.iconst 1, 1) := by decide +kernel
theorem dX11_kinds_84 : decode cX11_kinds 84 = .ok (.iload 8, 2) := by decide +kernel
theorem dX11_kinds_86 : decode cX11_kinds 86 = .ok (.ishl, 1) := by decide +kernel
theorem dX11_kinds_87 : decode cX11_kinds 87 = .ok (.ior, 1) := by decide +kernel
theorem dX11_kinds_88 : decode cX11_kinds 88 = .ok (.istore 7, 2) := by decide +kernel
theorem dX11_kinds_90 : decode cX11_kinds 90 = .ok (.iinc 8 1, 3) := by decide +kernel
theorem dX11_kinds_93 : decode cX11_kinds 93 = .ok (.goto (-48), 3) := by decide +kernel
theorem dX11_kinds_96 : decode cX11_kinds 96 = .ok (.iload 7, 2) := by decide +kernel
theorem dX11_kinds_98 : decode cX11_kinds 98 = .ok (.ireturn, 1) := by decide +kernel
theorem dX11_row_0 : decode cX11_row 0 = .ok (.iload_n 1, 1) := by decide +kernel
theorem dX11_row_1 : decode cX11_row 1 = .ok (.sipush (-999), 3) := by decide +kernel
theorem dX11_row_4 : decode cX11_row 4 = .ok (.if_icmp .ge 10, 3) := by decide +kernel
theorem dX11_row_7 : decode cX11_row 7 = .ok (.aload_n 0, 1) := by decide +kernel
theorem dX11_row_8 : decode cX11_row 8 = .ok (.bipush (-4), 2) := by decide +kernel
theorem dX11_row_10 : decode cX11_row 10 = .ok (.invokevirtual 72, 3) := by decide +kernel
theorem dX11_row_13 : decode cX11_row 13 = .ok (.ireturn, 1) := by decide +kernel
theorem dX11_row_14 : decode cX11_row 14 = .ok (.iload_n 1, 1) := by decide +kernel
theorem dX11_row_15 : decode cX11_row 15 = .ok (.sipush 999, 3) := by decide +kernel
theorem dX11_row_18 : decode cX11_row 18 = .ok (.if_icmp .gt 12, 3) := by decide +kernel
theorem dX11_row_21 : decode cX11_row 21 = .ok (.aload_n 0, 1) := by decide +kernel
theorem dX11_row_22 : decode cX11_row 22 = .ok (.getfield 224, 3) := by decide +kernel
theorem dX11_row_25 : decode cX11_row 25 = .ok (.bipush 12, 2) := by decide +kernel
theorem dX11_row_27 : decode cX11_row 27 = .ok (.if_icmp .lt 10, 3) := by decide +kernel
theorem dX11_row_30 : decode cX11_row 30 = .ok (.aload_n 0, 1) := by decide +kernel
theorem dX11_row_31 : decode cX11_row 31 = .ok (.bipush (-6), 2) := by decide +kernel
theorem dX11_row_33 : decode cX11_row 33 = .ok (.invokevirtual 72, 3) := by decide +kernel
theorem dX11_row_36 : decode cX11_row 36 = .ok (.ireturn, 1) := by decide +kernel
theorem dX11_row_37 : decode cX11_row 37 = .ok (.aload_n 0, 1) := by decide +kernel
theorem dX11_row_38 : decode cX11_row 38 = .ok (.getfield 65, 3) := by decide +kernel
theorem dX11_row_41 : decode cX11_row 41 = .ok (.aload_n 0, 1) := by decide +kernel
theorem dX11_row_42 : decode cX11_row 42 = .ok (.getfield 224, 3) := by decide +kernel
theorem dX11_row_45 : decode cX11_row 45 = .ok (.iload_n 1, 1) := by decide +kernel
theorem dX11_row_46 : decode cX11_row 46 = .ok (.iastore, 1) := by decide +kernel
theorem dX11_row_47 : decode cX11_row 47 = .ok (.aload_n 0, 1) := by decide +kernel
theorem dX11_row_48 : decode cX11_row 48 = .ok (.dup, 1) := by decide +kernel
theorem dX11_row_49 : decode cX11_row 49 = .ok (.getfield 224, 3) := by decide +kernel
theorem dX11_row_52 : decode cX11_row 52 = .ok (.iconst 1, 1) := by decide +kernel
theorem dX11_row_53 : decode cX11_row 53 = .ok (.iadd, 1) := by decide +kernel
theorem dX11_row_54 : decode cX11_row 54 = .ok (.putfield 224, 3) := by decide +kernel
theorem dX11_row_57 : decode cX11_row 57 = .ok (.aload_n 0, 1) := by decide +kernel
theorem dX11_row_58 : decode cX11_row 58 = .ok (.getfield 224, 3) := by decide +kernel
theorem dX11_row_61 : decode cX11_row 61 = .ok (.ireturn, 1) := by decide +kernel
theorem dX11_judge_0 : decode cX11_judge 0 = .ok (.aload_n 0, 1) := by decide +kernel
theorem dX11_judge_1 : decode cX11_judge 1 = .ok (.iload_n 1, 1) := by decide +kernel
theorem dX11_judge_2 : decode cX11_judge 2 = .ok (.invokevirtual 92, 3) := by decide +kernel
theorem dX11_judge_5 : decode cX11_judge 5 = .ok (.istore_n 2, 1) := by decide +kernel
theorem dX11_judge_6 : decode cX11_judge 6 = .ok (.iload_n 2, 1) := by decide +kernel
theorem dX11_judge_7 : decode cX11_judge 7 = .ok (.ifCond .eq 9, 3) := by decide +kernel
theorem dX11_judge_10 : decode cX11_judge 10 = .ok (.aload_n 0, 1) := by decide +kernel
theorem dX11_judge_11 : decode cX11_judge 11 = .ok (.iload_n 2, 1) := by decide +kernel
theorem dX11_judge_12 : decode cX11_judge 12 = .ok (.invokevirtual 72, 3) := by decide +kernel
theorem dX11_judge_15 : decode cX11_judge 15 = .ok (.ireturn, 1) := by decide +kernel
theorem dX11_judge_16 : decode cX11_judge 16 = .ok (.aload_n 0, 1) := by decide +kernel
theorem dX11_judge_17 : decode cX11_judge 17 = .ok (.iload_n 1, 1) := by decide +kernel
theorem dX11_judge_18 : decode cX11_judge 18 = .ok (.invokevirtual 227, 3) := by decide +kernel
theorem dX11_judge_21 : decode cX11_judge 21 = .ok (.istore_n 3, 1) := by decide +kernel
theorem dX11_judge_22 : decode cX11_judge 22 = .ok (.aload_n 0, 1) := by decide +kernel
theorem dX11_judge_23 : decode cX11_judge 23 = .ok (.iconst 0, 1) := by decide +kernel
theorem dX11_judge_24 : decode cX11_judge 24 = .ok (.putfield 224, 3) := by decide +kernel
theorem dX11_judge_27 : decode cX11_judge 27 = .ok (.iload_n 3, 1) := by decide +kernel
theorem dX11_judge_28 : decode cX11_judge 28 = .ok (.ireturn, 1) := by decide +kernel
theorem dX11_lots_0 : decode cX11_lots 0 = .ok (.iload_n 1, 1) := by decide +kernel
theorem dX11_lots_1 : decode cX11_lots 1 = .ok (.iconst 1, 1) := by decide +kernel
theorem dX11_lots_2 : decode cX11_lots 2 = .ok (.bipush 40, 2) := by decide +kernel
theorem dX11_lots_4 : decode cX11_lots 4 = .ok (.invokestatic 148, 3) := by decide +kernel
theorem dX11_lots_7 : decode cX11_lots 7 = .ok (.iload_n 3, 1) := by decide +kernel
theorem dX11_lots_8 : decode cX11_lots 8 = .ok (.iconst 1, 1) := by decide +kernel
theorem dX11_lots_9 : decode cX11_lots 9 = .ok (.invokestatic 95, 3) := by decide +kernel
theorem dX11_lots_12 : decode cX11_lots 12 = .ok (.invokestatic 99, 3) := by decide +kernel
theorem dX11_lots_15 : decode cX11_lots 15 = .ok (.istore 4, 2) := by decide +kernel
theorem dX11_lots_17 : decode cX11_lots 17 = .ok (.iload 4, 2) := by decide +kernel
theorem dX11_lots_19 : decode cX11_lots 19 = .ok (.ifCond .eq 10, 3) := by decide +kernel
theorem dX11_lots_22 : decode cX11_lots 22 = .ok (.aload_n 0, 1) := by decide +kernel
theorem dX11_lots_23 : decode cX11_lots 23 = .ok (.iload 4, 2) := by decide +kernel
theorem dX11_lots_25 : decode cX11_lots 25 = .ok (.invokevirtual 72, 3) := by decide +kernel
theorem dX11_lots_28 : decode cX11_lots 28 = .ok (.ireturn, 1) := by decide +kernel
theorem dX11_lots_29 : decode cX11_lots 29 = .ok (.aload_n 0, 1) := by decide +kernel
theorem dX11_lots_30 : decode cX11_lots 30 = .ok (.getfield 52, 3) := by decide +kernel
theorem dX11_lots_33 : decode cX11_lots 33 = .ok (.aload_n 0, 1) := by decide +kernel
theorem dX11_lots_34 : decode cX11_lots 34 = .ok (.getfield 48, 3) := by decide +kernel
theorem dX11_lots_37 : decode cX11_lots 37 = .ok (.invokevirtual 84, 3) := by decide +kernel
theorem dX11_lots_40 : decode cX11_lots 40 = .ok (.aload_n 0, 1) := by decide +kernel
theorem dX11_lots_41 : decode cX11_lots 41 = .ok (.getfield 41, 3) := by decide +kernel
theorem dX11_lots_44 : decode cX11_lots 44 = .ok (.iload_n 2, 1) := by decide +kernel
theorem dX11_lots_45 : decode cX11_lots 45 = .ok (.putfield 230, 3) := by decide +kernel
theorem dX11_lots_48 : decode cX11_lots 48 = .ok (.aload_n 0, 1) := by decide +kernel
theorem dX11_lots_49 : decode cX11_lots 49 = .ok (.getfield 34, 3) := by decide +kernel
theorem dX11_lots_52 : decode cX11_lots 52 = .ok (.invokevirtual 233, 3) := by decide +kernel
theorem dX11_lots_55 : decode cX11_lots 55 = .ok (.iconst 0, 1) := by decide +kernel
theorem dX11_lots_56 : decode cX11_lots 56 = .ok (.istore 5, 2) := by decide +kernel
theorem dX11_lots_58 : decode cX11_lots 58 = .ok (.iconst 0, 1) := by decide +kernel
theorem dX11_lots_59 : decode cX11_lots 59 = .ok (.istore 6, 2) := by decide +kernel
theorem dX11_lots_61 : decode cX11_lots 61 = .ok (.iload 6, 2) := by decide +kernel
theorem dX11_lots_63 : decode cX11_lots 63 = .ok (.iload_n 1, 1) := by decide +kernel
theorem dX11_lots_64 : decode cX11_lots 64 = .ok (.if_icmp .ge 47, 3) := by decide +kernel
theorem dX11_lots_67 : decode cX11_lots 67 = .ok (.aload_n 0, 1) := by decide +kernel
theorem dX11_lots_68 : decode cX11_lots 68 = .ok (.getfield 34, 3) := by decide +kernel
theorem dX11_lots_71 : decode cX11_lots 71 = .ok (.aload_n 0, 1) := by decide +kernel
theorem dX11_lots_72 : decode cX11_lots 72 = .ok (.getfield 41, 3) := by decide +kernel
theorem dX11_lots_75 : decode cX11_lots 75 = .ok (.aload_n 0, 1) := by decide +kernel
theorem dX11_lots_76 : decode cX11_lots 76 = .ok (.getfield 52, 3) := by decide +kernel
theorem dX11_lots_79 : decode cX11_lots 79 = .ok (.getfield 158, 3) := by decide +kernel
theorem dX11_lots_82 : decode cX11_lots 82 = .ok (.invokevirtual 236, 3) := by decide +kernel
theorem dX11_lots_85 : decode cX11_lots 85 = .ok (.iload 5, 2) := by decide +kernel
theorem dX11_lots_87 : decode cX11_lots 87 = .ok (.aload_n 0, 1) := by decide +kernel
theorem dX11_lots_88 : decode cX11_lots 88 = .ok (.getfield 52, 3) := by decide +kernel
theorem dX11_lots_91 : decode cX11_lots 91 = .ok (.aload_n 0, 1) := by decide +kernel
theorem dX11_lots_92 : decode cX11_lots 92 = .ok (.getfield 34, 3) := by decide +kernel
theorem dX11_lots_95 : decode cX11_lots 95 = .ok (.aload_n 0, 1) := by decide +kernel
theorem dX11_lots_96 : decode cX11_lots 96 = .ok (.getfield 25, 3) := by decide +kernel
theorem dX11_lots_99 : decode cX11_lots 99 = .ok (.invokevirtual 240, 3) := by decide +kernel
theorem dX11_lots_102 : decode cX11_lots 102 = .ok (.iadd, 1) := by decide +kernel
theorem dX11_lots_103 : decode cX11_lots 103 = .ok (.istore 5, 2) := by decide +kernel
theorem dX11_lots_105 : decode cX11_lots 105 = .ok (.iinc 6 1, 3) := by decide +kernel
theorem dX11_lots_108 : decode cX11_lots 108 = .ok (.goto (-47), 3) := by decide +kernel
theorem dX11_lots_111 : decode cX11_lots 111 = .ok (.iload_n 3, 1) := by decide +kernel
theorem dX11_lots_112 : decode cX11_lots 112 = .ok (.ifCond .ne 8, 3) := by decide +kernel
theorem dX11_lots_115 : decode cX11_lots 115 = .ok (.iload 5, 2) := by decide +kernel
theorem dX11_lots_117 : decode cX11_lots 117 = .ok (.goto 17, 3) := by decide +kernel
theorem dX11_lots_120 : decode cX11_lots 120 = .ok (.aload_n 0, 1) := by decide +kernel
theorem dX11_lots_121 : decode cX11_lots 121 = .ok (.getfield 52, 3) := by decide +kernel
theorem dX11_lots_124 : decode cX11_lots 124 = .ok (.aload_n 0, 1) := by decide +kernel
theorem dX11_lots_125 : decode cX11_lots 125 = .ok (.getfield 52, 3) := by decide +kernel
theorem dX11_lots_128 : decode cX11_lots 128 = .ok (.getfield 155, 3) := by decide +kernel
theorem dX11_lots_131 : decode cX11_lots 131 = .ok (.invokevirtual 244, 3) := by decide +kernel
theorem dX11_lots_134 : decode cX11_lots 134 = .ok (.ireturn, 1) := by decide +kernel
theorem dX11_image_0 : decode cX11_image 0 = .ok (.aload_n 0, 1) := by decide +kernel
theorem dX11_image_1 : decode cX11_image 1 = .ok (.getfield 55, 3) := by decide +kernel
theorem dX11_image_4 : decode cX11_image 4 = .ok (.aload_n 0, 1) := by decide +kernel
theorem dX11_image_5 : decode cX11_image 5 = .ok (.getfield 48, 3) := by decide +kernel
theorem dX11_image_8 : decode cX11_image 8 = .ok (.invokevirtual 84, 3) := by decide +kernel
theorem dX11_image_11 : decode cX11_image 11 = .ok (.aload_n 0, 1) := by decide +kernel
theorem dX11_image_12 : decode cX11_image 12 = .ok (.iconst 1, 1) := by decide +kernel
theorem dX11_image_13 : decode cX11_image 13 = .ok (.putfield 247, 3) := by decide +kernel
theorem dX11_image_16 : decode cX11_image 16 = .ok (.aload_n 0, 1) := by decide +kernel
theorem dX11_image_17 : decode cX11_image 17 = .ok (.getfield 48, 3) := by decide +kernel
theorem dX11_image_20 : decode cX11_image 20 = .ok (.getfield 158, 3) := by decide +kernel
theorem dX11_image_23 : decode cX11_image 23 = .ok (.ireturn, 1) := by decide +kernel
theorem dX11_restore_0 : decode cX11_restore 0 = .ok (.aload_n 0, 1) := by decide +kernel
theorem dX11_restore_1 : decode cX11_restore 1 = .ok (.getfield 247, 3) := by decide +kernel
theorem dX11_restore_4 : decode cX11_restore 4 = .ok (.ifCond .ne 10, 3) := by decide +kernel
theorem dX11_restore_7 : decode cX11_restore 7 = .ok (.aload_n 0, 1) := by decide +kernel
theorem dX11_restore_8 : decode cX11_restore 8 = .ok (.bipush (-3), 2) := by decide +kernel
theorem dX11_restore_10 : decode cX11_restore 10 = .ok (.invokevirtual 72, 3) := by decide +kernel
theorem dX11_restore_13 : decode cX11_restore 13 = .ok (.ireturn, 1) := by decide +kernel
theorem dX11_restore_14 : decode cX11_restore 14 = .ok (.aload_n 0, 1) := by decide +kernel
theorem dX11_restore_15 : decode cX11_restore 15 = .ok (.getfield 48, 3) := by decide +kernel
theorem dX11_restore_18 : decode cX11_restore 18 = .ok (.aload_n 0, 1) := by decide +kernel
theorem dX11_restore_19 : decode cX11_restore 19 = .ok (.getfield 55, 3) := by decide +kernel
theorem dX11_restore_22 : decode cX11_restore 22 = .ok (.invokevirtual 84, 3) := by decide +kernel
theorem dX11_restore_25 : decode cX11_restore 25 = .ok (.aload_n 0, 1) := by decide +kernel
theorem dX11_restore_26 : decode cX11_restore 26 = .ok (.getfield 48, 3) := by decide +kernel
theorem dX11_restore_29 : decode cX11_restore 29 = .ok (.getfield 158, 3) := by decide +kernel
theorem dX11_restore_32 : decode cX11_restore 32 = .ok (.ireturn, 1) := by decide +kernel
theorem dX11_count_0 : decode cX11_count 0 = .ok (.iload_n 1, 1) := by decide +kernel
theorem dX11_count_1 : decode cX11_count 1 = .ok (.bipush 11, 2) := by decide +kernel
theorem dX11_count_3 : decode cX11_count 3 = .ok (.if_icmp .lt 19, 3) := by decide +kernel
theorem dX11_count_6 : decode cX11_count 6 = .ok (.iload_n 1, 1) := by decide +kernel
theorem dX11_count_7 : decode cX11_count 7 = .ok (.bipush 16, 2) := by decide +kernel
theorem dX11_count_9 : decode cX11_count 9 = .ok (.if_icmp .gt 13, 3) := by decide +kernel
theorem dX11_count_12 : decode cX11_count 12 = .ok (.aload_n 0, 1) := by decide +kernel
theorem dX11_count_13 : decode cX11_count 13 = .ok (.getfield 69, 3) := by decide +kernel
theorem dX11_count_16 : decode cX11_count 16 = .ok (.iload_n 1, 1) := by decide +kernel
theorem dX11_count_17 : decode cX11_count 17 = .ok (.bipush 10, 2) := by decide +kernel
theorem dX11_count_19 : decode cX11_count 19 = .ok (.isub, 1) := by decide +kernel
theorem dX11_count_20 : decode cX11_count 20 = .ok (.iaload, 1) := by decide +kernel
theorem dX11_count_21 : decode cX11_count 21 = .ok (.ireturn, 1) := by decide +kernel
theorem dX11_count_22 : decode cX11_count 22 = .ok (.iload_n 1, 1) := by decide +kernel
theorem dX11_count_23 : decode cX11_count 23 = .ok (.tableswitch 137 0 9 #[53, 61, 69, 77, 85, 93, 101, 109, 124, 132], 53) := by decide +kernel
theorem dX11_count_76 : decode cX11_count 76 = .ok (.aload_n 0, 1) := by decide +kernel
theorem dX11_count_77 : decode cX11_count 77 = .ok (.getfield 48, 3) := by decide +kernel
theorem dX11_count_80 : decode cX11_count 80 = .ok (.getfield 192, 3) := by decide +kernel
theorem dX11_count_83 : decode cX11_count 83 = .ok (.ireturn, 1) := by decide +kernel
theorem dX11_count_84 : decode cX11_count 84 = .ok (.aload_n 0, 1) := by decide +kernel
theorem dX11_count_85 : decode cX11_count 85 = .ok (.getfield 48, 3) := by decide +kernel
theorem dX11_count_88 : decode cX11_count 88 = .ok (.getfield 158, 3) := by decide +kernel
theorem dX11_count_91 : decode cX11_count 91 = .ok (.ireturn, 1) := by decide +kernel
theorem dX11_count_92 : decode cX11_count 92 = .ok (.aload_n 0, 1) := by decide +kernel
theorem dX11_count_93 : decode cX11_count 93 = .ok (.getfield 48, 3) := by decide +kernel
theorem dX11_count_96 : decode cX11_count 96 = .ok (.getfield 152, 3) := by decide +kernel
theorem dX11_count_99 : decode cX11_count 99 = .ok (.ireturn, 1) := by decide +kernel
theorem dX11_count_100 : decode cX11_count 100 = .ok (.aload_n 0, 1) := by decide +kernel
theorem dX11_count_101 : decode cX11_count 101 = .ok (.getfield 48, 3) := by decide +kernel
theorem dX11_count_104 : decode cX11_count 104 = .ok (.getfield 155, 3) := by decide +kernel
theorem dX11_count_107 : decode cX11_count 107 = .ok (.ireturn, 1) := by decide +kernel
theorem dX11_count_108 : decode cX11_count 108 = .ok (.aload_n 0, 1) := by decide +kernel
theorem dX11_count_109 : decode cX11_count 109 = .ok (.getfield 48, 3) := by decide +kernel
theorem dX11_count_112 : decode cX11_count 112 = .ok (.invokevirtual 251, 3) := by decide +kernel
theorem dX11_count_115 : decode cX11_count 115 = .ok (.ireturn, 1) := by decide +kernel
theorem dX11_count_116 : decode cX11_count 116 = .ok (.aload_n 0, 1) := by decide +kernel
theorem dX11_count_117 : decode cX11_count 117 = .ok (.getfield 48, 3) := by decide +kernel
theorem dX11_count_120 : decode cX11_count 120 = .ok (.invokevirtual 254, 3) := by decide +kernel
theorem dX11_count_123 : decode cX11_count 123 = .ok (.ireturn, 1) := by decide +kernel
theorem dX11_count_124 : decode cX11_count 124 = .ok (.aload_n 0, 1) := by decide +kernel
theorem dX11_count_125 : decode cX11_count 125 = .ok (.getfield 48, 3) := by decide +kernel
theorem dX11_count_128 : decode cX11_count 128 = .ok (.getfield 169, 3) := by decide +kernel
theorem dX11_count_131 : decode cX11_count 131 = .ok (.ireturn, 1) := by decide +kernel
theorem dX11_count_132 : decode cX11_count 132 = .ok (.aload_n 0, 1) := by decide +kernel
theorem dX11_count_133 : decode cX11_count 133 = .ok (.getfield 48, 3) := by decide +kernel
theorem dX11_count_136 : decode cX11_count 136 = .ok (.aload_n 0, 1) := by decide +kernel
theorem dX11_count_137 : decode cX11_count 137 = .ok (.getfield 48, 3) := by decide +kernel
theorem dX11_count_140 : decode cX11_count 140 = .ok (.getfield 152, 3) := by decide +kernel
theorem dX11_count_143 : decode cX11_count 143 = .ok (.invokevirtual 244, 3) := by decide +kernel
theorem dX11_count_146 : decode cX11_count 146 = .ok (.ireturn, 1) := by decide +kernel
theorem dX11_count_147 : decode cX11_count 147 = .ok (.aload_n 0, 1) := by decide +kernel
theorem dX11_count_148 : decode cX11_count 148 = .ok (.getfield 61, 3) := by decide +kernel
theorem dX11_count_151 : decode cX11_count 151 = .ok (.getfield 76, 3) := by decide +kernel
theorem dX11_count_154 : decode cX11_count 154 = .ok (.ireturn, 1) := by decide +kernel
theorem dX11_count_155 : decode cX11_count 155 = .ok (.aload_n 0, 1) := by decide +kernel
theorem dX11_count_156 : decode cX11_count 156 = .ok (.getfield 224, 3) := by decide +kernel
theorem dX11_count_159 : decode cX11_count 159 = .ok (.ireturn, 1) := by decide +kernel
theorem dX11_count_160 : decode cX11_count 160 = .ok (.bipush (-9), 2) := by decide +kernel
theorem dX11_count_162 : decode cX11_count 162 = .ok (.ireturn, 1) := by decide +kernel
theorem dX11_refuse_0 : decode cX11_refuse 0 = .ok (.iload_n 1, 1) := by decide +kernel
theorem dX11_refuse_1 : decode cX11_refuse 1 = .ok (.ineg, 1) := by decide +kernel
theorem dX11_refuse_2 : decode cX11_refuse 2 = .ok (.istore_n 2, 1) := by decide +kernel
theorem dX11_refuse_3 : decode cX11_refuse 3 = .ok (.iload_n 2, 1) := by decide +kernel
theorem dX11_refuse_4 : decode cX11_refuse 4 = .ok (.ifCond .le 22, 3) := by decide +kernel
theorem dX11_refuse_7 : decode cX11_refuse 7 = .ok (.iload_n 2, 1) := by decide +kernel
theorem dX11_refuse_8 : decode cX11_refuse 8 = .ok (.aload_n 0, 1) := by decide +kernel
theorem dX11_refuse_9 : decode cX11_refuse 9 = .ok (.getfield 69, 3) := by decide +kernel
theorem dX11_refuse_12 : decode cX11_refuse 12 = .ok (.arraylength, 1) := by decide +kernel
theorem dX11_refuse_13 : decode cX11_refuse 13 = .ok (.if_icmp .ge 13, 3) := by decide +kernel
theorem dX11_refuse_16 : decode cX11_refuse 16 = .ok (.aload_n 0, 1) := by decide +kernel
theorem dX11_refuse_17 : decode cX11_refuse 17 = .ok (.getfield 69, 3) := by decide +kernel
theorem dX11_refuse_20 : decode cX11_refuse 20 = .ok (.iload_n 2, 1) := by decide +kernel
theorem dX11_refuse_21 : decode cX11_refuse 21 = .ok (.dup2, 1) := by decide +kernel
theorem dX11_refuse_22 : decode cX11_refuse 22 = .ok (.iaload, 1) := by decide +kernel
theorem dX11_refuse_23 : decode cX11_refuse 23 = .ok (.iconst 1, 1) := by decide +kernel
theorem dX11_refuse_24 : decode cX11_refuse 24 = .ok (.iadd, 1) := by decide +kernel
theorem dX11_refuse_25 : decode cX11_refuse 25 = .ok (.iastore, 1) := by decide +kernel
theorem dX11_refuse_26 : decode cX11_refuse 26 = .ok (.iload_n 1, 1) := by decide +kernel
theorem dX11_refuse_27 : decode cX11_refuse 27 = .ok (.ireturn, 1) := by decide +kernel
theorem dX11_first_0 : decode cX11_first 0 = .ok (.iload_n 0, 1) := by decide +kernel
theorem dX11_first_1 : decode cX11_first 1 = .ok (.ifCond .eq 7, 3) := by decide +kernel
theorem dX11_first_4 : decode cX11_first 4 = .ok (.iload_n 0, 1) := by decide +kernel
theorem dX11_first_5 : decode cX11_first 5 = .ok (.goto 4, 3) := by decide +kernel
theorem dX11_first_8 : decode cX11_first 8 = .ok (.iload_n 1, 1) := by decide +kernel
theorem dX11_first_9 : decode cX11_first 9 = .ok (.ireturn, 1) := by decide +kernel
theorem dX11_nobody_0 : decode cX11_nobody 0 = .ok (.aload_n 0, 1) := by decide +kernel
theorem dX11_nobody_1 : decode cX11_nobody 1 = .ok (.getfield 48, 3) := by decide +kernel
theorem dX11_nobody_4 : decode cX11_nobody 4 = .ok (.iload_n 1, 1) := by decide +kernel
theorem dX11_nobody_5 : decode cX11_nobody 5 = .ok (.invokevirtual 257, 3) := by decide +kernel
theorem dX11_nobody_8 : decode cX11_nobody 8 = .ok (.ifCond .eq 7, 3) := by decide +kernel
theorem dX11_nobody_11 : decode cX11_nobody 11 = .ok (.iconst 0, 1) := by decide +kernel
theorem dX11_nobody_12 : decode cX11_nobody 12 = .ok (.goto 4, 3) := by decide +kernel
theorem dX11_nobody_15 : decode cX11_nobody 15 = .ok (.iconst (-1), 1) := by decide +kernel
theorem dX11_nobody_16 : decode cX11_nobody 16 = .ok (.ireturn, 1) := by decide +kernel
theorem dX11_notTwo_0 : decode cX11_notTwo 0 = .ok (.aload_n 0, 1) := by decide +kernel
theorem dX11_notTwo_1 : decode cX11_notTwo 1 = .ok (.getfield 48, 3) := by decide +kernel
theorem dX11_notTwo_4 : decode cX11_notTwo 4 = .ok (.iload_n 1, 1) := by decide +kernel
theorem dX11_notTwo_5 : decode cX11_notTwo 5 = .ok (.invokevirtual 257, 3) := by decide +kernel
theorem dX11_notTwo_8 : decode cX11_notTwo 8 = .ok (.ifCond .eq 23, 3) := by decide +kernel
theorem dX11_notTwo_11 : decode cX11_notTwo 11 = .ok (.aload_n 0, 1) := by decide +kernel
theorem dX11_notTwo_12 : decode cX11_notTwo 12 = .ok (.getfield 48, 3) := by decide +kernel
theorem dX11_notTwo_15 : decode cX11_notTwo 15 = .ok (.iload_n 2, 1) := by decide +kernel
theorem dX11_notTwo_16 : decode cX11_notTwo 16 = .ok (.invokevirtual 257, 3) := by decide +kernel
theorem dX11_notTwo_19 : decode cX11_notTwo 19 = .ok (.ifCond .eq 12, 3) := by decide +kernel
theorem dX11_notTwo_22 : decode cX11_notTwo 22 = .ok (.iload_n 1, 1) := by decide +kernel
theorem dX11_notTwo_23 : decode cX11_notTwo 23 = .ok (.iload_n 2, 1) := by decide +kernel
theorem dX11_notTwo_24 : decode cX11_notTwo 24 = .ok (.if_icmp .eq 7, 3) := by decide +kernel
theorem dX11_notTwo_27 : decode cX11_notTwo 27 = .ok (.iconst 0, 1) := by decide +kernel
theorem dX11_notTwo_28 : decode cX11_notTwo 28 = .ok (.goto 4, 3) := by decide +kernel
theorem dX11_notTwo_31 : decode cX11_notTwo 31 = .ok (.iconst (-1), 1) := by decide +kernel
theorem dX11_notTwo_32 : decode cX11_notTwo 32 = .ok (.ireturn, 1) := by decide +kernel
theorem dX11_otherThan_0 : decode cX11_otherThan 0 = .ok (.iload_n 0, 1) := by decide +kernel
theorem dX11_otherThan_1 : decode cX11_otherThan 1 = .ok (.ifCond .lt 12, 3) := by decide +kernel
theorem dX11_otherThan_4 : decode cX11_otherThan 4 = .ok (.iload_n 0, 1) := by decide +kernel
theorem dX11_otherThan_5 : decode cX11_otherThan 5 = .ok (.iload_n 1, 1) := by decide +kernel
theorem dX11_otherThan_6 : decode cX11_otherThan 6 = .ok (.if_icmp .gt 7, 3) := by decide +kernel
theorem dX11_otherThan_9 : decode cX11_otherThan 9 = .ok (.iconst 0, 1) := by decide +kernel
theorem dX11_otherThan_10 : decode cX11_otherThan 10 = .ok (.goto 5, 3) := by decide +kernel
theorem dX11_otherThan_13 : decode cX11_otherThan 13 = .ok (.bipush (-2), 2) := by decide +kernel
theorem dX11_otherThan_15 : decode cX11_otherThan 15 = .ok (.ireturn, 1) := by decide +kernel
theorem dX11_range_0 : decode cX11_range 0 = .ok (.iload_n 0, 1) := by decide +kernel
theorem dX11_range_1 : decode cX11_range 1 = .ok (.iload_n 1, 1) := by decide +kernel
theorem dX11_range_2 : decode cX11_range 2 = .ok (.if_icmp .ge 8, 3) := by decide +kernel
theorem dX11_range_5 : decode cX11_range 5 = .ok (.bipush (-4), 2) := by decide +kernel
theorem dX11_range_7 : decode cX11_range 7 = .ok (.goto 14, 3) := by decide +kernel
theorem dX11_range_10 : decode cX11_range 10 = .ok (.iload_n 0, 1) := by decide +kernel
theorem dX11_range_11 : decode cX11_range 11 = .ok (.iload_n 2, 1) := by decide +kernel
theorem dX11_range_12 : decode cX11_range 12 = .ok (.if_icmp .le 8, 3) := by decide +kernel
theorem dX11_range_15 : decode cX11_range 15 = .ok (.bipush (-6), 2) := by decide +kernel
theorem dX11_range_17 : decode cX11_range 17 = .ok (.goto 4, 3) := by decide +kernel
theorem dX11_range_20 : decode cX11_range 20 = .ok (.iconst 0, 1) := by decide +kernel
theorem dX11_range_21 : decode cX11_range 21 = .ok (.ireturn, 1) := by decide +kernel
theorem dX11_rangeOfTwo_0 : decode cX11_rangeOfTwo 0 = .ok (.iload_n 0, 1) := by decide +kernel
theorem dX11_rangeOfTwo_1 : decode cX11_rangeOfTwo 1 = .ok (.iload_n 2, 1) := by decide +kernel
theorem dX11_rangeOfTwo_2 : decode cX11_rangeOfTwo 2 = .ok (.iload_n 3, 1) := by decide +kernel
theorem dX11_rangeOfTwo_3 : decode cX11_rangeOfTwo 3 = .ok (.invokestatic 148, 3) := by decide +kernel
theorem dX11_rangeOfTwo_6 : decode cX11_rangeOfTwo 6 = .ok (.iload_n 1, 1) := by decide +kernel
theorem dX11_rangeOfTwo_7 : decode cX11_rangeOfTwo 7 = .ok (.iload_n 2, 1) := by decide +kernel
theorem dX11_rangeOfTwo_8 : decode cX11_rangeOfTwo 8 = .ok (.iload_n 3, 1) := by decide +kernel
theorem dX11_rangeOfTwo_9 : decode cX11_rangeOfTwo 9 = .ok (.invokestatic 148, 3) := by decide +kernel
theorem dX11_rangeOfTwo_12 : decode cX11_rangeOfTwo 12 = .ok (.invokestatic 211, 3) := by decide +kernel
theorem dX11_rangeOfTwo_15 : decode cX11_rangeOfTwo 15 = .ok (.ireturn, 1) := by decide +kernel
theorem dX11_belowFirst_0 : decode cX11_belowFirst 0 = .ok (.iload_n 1, 1) := by decide +kernel
theorem dX11_belowFirst_1 : decode cX11_belowFirst 1 = .ok (.bipush (-4), 2) := by decide +kernel
theorem dX11_belowFirst_3 : decode cX11_belowFirst 3 = .ok (.if_icmp .ne 8, 3) := by decide +kernel
theorem dX11_belowFirst_6 : decode cX11_belowFirst 6 = .ok (.bipush (-4), 2) := by decide +kernel
theorem dX11_belowFirst_8 : decode cX11_belowFirst 8 = .ok (.goto 8, 3) := by decide +kernel
theorem dX11_belowFirst_11 : decode cX11_belowFirst 11 = .ok (.iload_n 0, 1) := by decide +kernel
theorem dX11_belowFirst_12 : decode cX11_belowFirst 12 = .ok (.iload_n 1, 1) := by decide +kernel
theorem dX11_belowFirst_13 : decode cX11_belowFirst 13 = .ok (.invokestatic 99, 3) := by decide +kernel
theorem dX11_belowFirst_16 : decode cX11_belowFirst 16 = .ok (.ireturn, 1) := by decide +kernel
theorem dX11_isOfWeek_0 : decode cX11_isOfWeek 0 = .ok (.iload_n 0, 1) := by decide +kernel
theorem dX11_isOfWeek_1 : decode cX11_isOfWeek 1 = .ok (.ifCond .lt 13, 3) := by decide +kernel
theorem dX11_isOfWeek_4 : decode cX11_isOfWeek 4 = .ok (.iload_n 0, 1) := by decide +kernel
theorem dX11_isOfWeek_5 : decode cX11_isOfWeek 5 = .ok (.bipush 7, 2) := by decide +kernel
theorem dX11_isOfWeek_7 : decode cX11_isOfWeek 7 = .ok (.if_icmp .ge 7, 3) := by decide +kernel
theorem dX11_isOfWeek_10 : decode cX11_isOfWeek 10 = .ok (.iconst 1, 1) := by decide +kernel
theorem dX11_isOfWeek_11 : decode cX11_isOfWeek 11 = .ok (.goto 4, 3) := by decide +kernel
theorem dX11_isOfWeek_14 : decode cX11_isOfWeek 14 = .ok (.iconst 0, 1) := by decide +kernel
theorem dX11_isOfWeek_15 : decode cX11_isOfWeek 15 = .ok (.ireturn, 1) := by decide +kernel
theorem dX11_toldWind_0 : decode cX11_toldWind 0 = .ok (.bipush 10, 2) := by decide +kernel
theorem dX11_toldWind_2 : decode cX11_toldWind 2 = .ok (.iconst 4, 1) := by decide +kernel
theorem dX11_toldWind_3 : decode cX11_toldWind 3 = .ok (.aload_n 0, 1) := by decide +kernel
theorem dX11_toldWind_4 : decode cX11_toldWind 4 = .ok (.getfield 48, 3) := by decide +kernel
theorem dX11_toldWind_7 : decode cX11_toldWind 7 = .ok (.getfield 142, 3) := by decide +kernel
theorem dX11_toldWind_10 : decode cX11_toldWind 10 = .ok (.iload_n 1, 1) := by decide +kernel
theorem dX11_toldWind_11 : decode cX11_toldWind 11 = .ok (.iaload, 1) := by decide +kernel
theorem dX11_toldWind_12 : decode cX11_toldWind 12 = .ok (.iadd, 1) := by decide +kernel
theorem dX11_toldWind_13 : decode cX11_toldWind 13 = .ok (.imul, 1) := by decide +kernel
theorem dX11_toldWind_14 : decode cX11_toldWind 14 = .ok (.iconst 4, 1) := by decide +kernel
theorem dX11_toldWind_15 : decode cX11_toldWind 15 = .ok (.iadd, 1) := by decide +kernel
theorem dX11_toldWind_16 : decode cX11_toldWind 16 = .ok (.aload_n 0, 1) := by decide +kernel
theorem dX11_toldWind_17 : decode cX11_toldWind 17 = .ok (.getfield 48, 3) := by decide +kernel
theorem dX11_toldWind_20 : decode cX11_toldWind 20 = .ok (.getfield 145, 3) := by decide +kernel
theorem dX11_toldWind_23 : decode cX11_toldWind 23 = .ok (.iload_n 1, 1) := by decide +kernel
theorem dX11_toldWind_24 : decode cX11_toldWind 24 = .ok (.iaload, 1) := by decide +kernel
theorem dX11_toldWind_25 : decode cX11_toldWind 25 = .ok (.iadd, 1) := by decide +kernel
theorem dX11_toldWind_26 : decode cX11_toldWind 26 = .ok (.ireturn, 1) := by decide +kernel
theorem dX11_driftToday_0 : decode cX11_driftToday 0 = .ok (.aload_n 0, 1) := by decide +kernel
theorem dX11_driftToday_1 : decode cX11_driftToday 1 = .ok (.getfield 48, 3) := by decide +kernel
theorem dX11_driftToday_4 : decode cX11_driftToday 4 = .ok (.aload_n 0, 1) := by decide +kernel
theorem dX11_driftToday_5 : decode cX11_driftToday 5 = .ok (.getfield 48, 3) := by decide +kernel
theorem dX11_driftToday_8 : decode cX11_driftToday 8 = .ok (.getfield 158, 3) := by decide +kernel
theorem dX11_driftToday_11 : decode cX11_driftToday 11 = .ok (.aload_n 0, 1) := by decide +kernel
theorem dX11_driftToday_12 : decode cX11_driftToday 12 = .ok (.getfield 34, 3) := by decide +kernel
theorem dX11_driftToday_15 : decode cX11_driftToday 15 = .ok (.invokevirtual 260, 3) := by decide +kernel
theorem dX11_driftToday_18 : decode cX11_driftToday 18 = .ok (.aload_n 0, 1) := by decide +kernel
theorem dX11_driftToday_19 : decode cX11_driftToday 19 = .ok (.getfield 25, 3) := by decide +kernel
theorem dX11_driftToday_22 : decode cX11_driftToday 22 = .ok (.aload_n 1, 1) := by decide +kernel
theorem dX11_driftToday_23 : decode cX11_driftToday 23 = .ok (.getfield 106, 3) := by decide +kernel
theorem dX11_driftToday_26 : decode cX11_driftToday 26 = .ok (.aaload, 1) := by decide +kernel
theorem dX11_driftToday_27 : decode cX11_driftToday 27 = .ok (.astore_n 3, 1) := by decide +kernel
theorem dX11_driftToday_28 : decode cX11_driftToday 28 = .ok (.iload_n 2, 1) := by decide +kernel
theorem dX11_driftToday_29 : decode cX11_driftToday 29 = .ok (.ifCond .eq 18, 3) := by decide +kernel
theorem dX11_driftToday_32 : decode cX11_driftToday 32 = .ok (.aload_n 3, 1) := by decide +kernel
theorem dX11_driftToday_33 : decode cX11_driftToday 33 = .ok (.aload_n 0, 1) := by decide +kernel
theorem dX11_driftToday_34 : decode cX11_driftToday 34 = .ok (.getfield 34, 3) := by decide +kernel
theorem dX11_driftToday_37 : decode cX11_driftToday 37 = .ok (.aload_n 1, 1) := by decide +kernel
theorem dX11_driftToday_38 : decode cX11_driftToday 38 = .ok (.getfield 111, 3) := by decide +kernel
theorem dX11_driftToday_41 : decode cX11_driftToday 41 = .ok (.invokevirtual 264, 3) := by decide +kernel
theorem dX11_driftToday_44 : decode cX11_driftToday 44 = .ok (.goto 15, 3) := by decide +kernel
theorem dX11_driftToday_47 : decode cX11_driftToday 47 = .ok (.aload_n 3, 1) := by decide +kernel
theorem dX11_driftToday_48 : decode cX11_driftToday 48 = .ok (.aload_n 0, 1) := by decide +kernel
theorem dX11_driftToday_49 : decode cX11_driftToday 49 = .ok (.getfield 34, 3) := by decide +kernel
theorem dX11_driftToday_52 : decode cX11_driftToday 52 = .ok (.aload_n 1, 1) := by decide +kernel
theorem dX11_driftToday_53 : decode cX11_driftToday 53 = .ok (.getfield 111, 3) := by decide +kernel
theorem dX11_driftToday_56 : decode cX11_driftToday 56 = .ok (.invokevirtual 268, 3) := by decide +kernel
theorem dX11_driftToday_59 : decode cX11_driftToday 59 = .ok (.ireturn, 1) := by decide +kernel
theorem dX11_dayOf_0 : decode cX11_dayOf 0 = .ok (.aload_n 1, 1) := by decide +kernel
theorem dX11_dayOf_1 : decode cX11_dayOf 1 = .ok (.aload_n 1, 1) := by decide +kernel
theorem dX11_dayOf_2 : decode cX11_dayOf 2 = .ok (.getfield 158, 3) := by decide +kernel
theorem dX11_dayOf_5 : decode cX11_dayOf 5 = .ok (.aload_n 0, 1) := by decide +kernel
theorem dX11_dayOf_6 : decode cX11_dayOf 6 = .ok (.getfield 34, 3) := by decide +kernel
theorem dX11_dayOf_9 : decode cX11_dayOf 9 = .ok (.invokevirtual 260, 3) := by decide +kernel
theorem dX11_dayOf_12 : decode cX11_dayOf 12 = .ok (.aload_n 1, 1) := by decide +kernel
theorem dX11_dayOf_13 : decode cX11_dayOf 13 = .ok (.aload_n 0, 1) := by decide +kernel
theorem dX11_dayOf_14 : decode cX11_dayOf 14 = .ok (.getfield 34, 3) := by decide +kernel
theorem dX11_dayOf_17 : decode cX11_dayOf 17 = .ok (.aload_n 0, 1) := by decide +kernel
theorem dX11_dayOf_18 : decode cX11_dayOf 18 = .ok (.getfield 25, 3) := by decide +kernel
theorem dX11_dayOf_21 : decode cX11_dayOf 21 = .ok (.invokevirtual 240, 3) := by decide +kernel
theorem dX11_dayOf_24 : decode cX11_dayOf 24 = .ok (.ireturn, 1) := by decide +kernel
theorem dX11_daysUntil_0 : decode cX11_daysUntil 0 = .ok (.iload_n 1, 1) := by decide +kernel
theorem dX11_daysUntil_1 : decode cX11_daysUntil 1 = .ok (.istore 4, 2) := by decide +kernel
theorem dX11_daysUntil_3 : decode cX11_daysUntil 3 = .ok (.iconst 0, 1) := by decide +kernel
theorem dX11_daysUntil_4 : decode cX11_daysUntil 4 = .ok (.istore 5, 2) := by decide +kernel
theorem dX11_daysUntil_6 : decode cX11_daysUntil 6 = .ok (.iload 5, 2) := by decide +kernel
theorem dX11_daysUntil_8 : decode cX11_daysUntil 8 = .ok (.iload_n 3, 1) := by decide +kernel
theorem dX11_daysUntil_9 : decode cX11_daysUntil 9 = .ok (.if_icmp .gt 40, 3) := by decide +kernel
theorem dX11_daysUntil_12 : decode cX11_daysUntil 12 = .ok (.iload 4, 2) := by decide +kernel
theorem dX11_daysUntil_14 : decode cX11_daysUntil 14 = .ok (.iload_n 2, 1) := by decide +kernel
theorem dX11_daysUntil_15 : decode cX11_daysUntil 15 = .ok (.iand, 1) := by decide +kernel
theorem dX11_daysUntil_16 : decode cX11_daysUntil 16 = .ok (.iload_n 2, 1) := by decide +kernel
theorem dX11_daysUntil_17 : decode cX11_daysUntil 17 = .ok (.if_icmp .ne 6, 3) := by decide +kernel
theorem dX11_daysUntil_20 : decode cX11_daysUntil 20 = .ok (.iload 5, 2) := by decide +kernel
theorem dX11_daysUntil_22 : decode cX11_daysUntil 22 = .ok (.ireturn, 1) := by decide +kernel
theorem dX11_daysUntil_23 : decode cX11_daysUntil 23 = .ok (.aload_n 0, 1) := by decide +kernel
theorem dX11_daysUntil_24 : decode cX11_daysUntil 24 = .ok (.getfield 52, 3) := by decide +kernel
theorem dX11_daysUntil_27 : decode cX11_daysUntil 27 = .ok (.iload 4, 2) := by decide +kernel
theorem dX11_daysUntil_29 : decode cX11_daysUntil 29 = .ok (.invokevirtual 189, 3) := by decide +kernel
theorem dX11_daysUntil_32 : decode cX11_daysUntil 32 = .ok (.istore 4, 2) := by decide +kernel
theorem dX11_daysUntil_34 : decode cX11_daysUntil 34 = .ok (.aload_n 0, 1) := by decide +kernel
theorem dX11_daysUntil_35 : decode cX11_daysUntil 35 = .ok (.aload_n 0, 1) := by decide +kernel
theorem dX11_daysUntil_36 : decode cX11_daysUntil 36 = .ok (.getfield 52, 3) := by decide +kernel
theorem dX11_daysUntil_39 : decode cX11_daysUntil 39 = .ok (.invokevirtual 166, 3) := by decide +kernel
theorem dX11_daysUntil_42 : decode cX11_daysUntil 42 = .ok (.pop, 1) := by decide +kernel
theorem dX11_daysUntil_43 : decode cX11_daysUntil 43 = .ok (.iinc 5 1, 3) := by decide +kernel
theorem dX11_daysUntil_46 : decode cX11_daysUntil 46 = .ok (.goto (-40), 3) := by decide +kernel
theorem dX11_daysUntil_49 : decode cX11_daysUntil 49 = .ok (.bipush (-9), 2) := by decide +kernel
theorem dX11_daysUntil_51 : decode cX11_daysUntil 51 = .ok (.ireturn, 1) := by decide +kernel
theorem dX11_deal_0 : decode cX11_deal 0 = .ok (.aload_n 0, 1) := by decide +kernel
theorem dX11_deal_1 : decode cX11_deal 1 = .ok (.getfield 117, 3) := by decide +kernel
theorem dX11_deal_4 : decode cX11_deal 4 = .ok (.aload_n 1, 1) := by decide +kernel
theorem dX11_deal_5 : decode cX11_deal 5 = .ok (.getfield 117, 3) := by decide +kernel
theorem dX11_deal_8 : decode cX11_deal 8 = .ok (.iadd, 1) := by decide +kernel
theorem dX11_deal_9 : decode cX11_deal 9 = .ok (.istore_n 2, 1) := by decide +kernel
theorem dX11_deal_10 : decode cX11_deal 10 = .ok (.aload_n 0, 1) := by decide +kernel
theorem dX11_deal_11 : decode cX11_deal 11 = .ok (.getfield 114, 3) := by decide +kernel
theorem dX11_deal_14 : decode cX11_deal 14 = .ok (.aload_n 1, 1) := by decide +kernel
theorem dX11_deal_15 : decode cX11_deal 15 = .ok (.getfield 114, 3) := by decide +kernel
theorem dX11_deal_18 : decode cX11_deal 18 = .ok (.iadd, 1) := by decide +kernel
theorem dX11_deal_19 : decode cX11_deal 19 = .ok (.istore_n 3, 1) := by decide +kernel
theorem dX11_deal_20 : decode cX11_deal 20 = .ok (.iload_n 3, 1) := by decide +kernel
theorem dX11_deal_21 : decode cX11_deal 21 = .ok (.ifCond .le 14, 3) := by decide +kernel
theorem dX11_deal_24 : decode cX11_deal 24 = .ok (.iload_n 2, 1) := by decide +kernel
theorem dX11_deal_25 : decode cX11_deal 25 = .ok (.aload_n 1, 1) := by decide +kernel
theorem dX11_deal_26 : decode cX11_deal 26 = .ok (.getfield 114, 3) := by decide +kernel
theorem dX11_deal_29 : decode cX11_deal 29 = .ok (.imul, 1) := by decide +kernel
theorem dX11_deal_30 : decode cX11_deal 30 = .ok (.iload_n 3, 1) := by decide +kernel
theorem dX11_deal_31 : decode cX11_deal 31 = .ok (.idiv, 1) := by decide +kernel
theorem dX11_deal_32 : decode cX11_deal 32 = .ok (.goto 6, 3) := by decide +kernel
theorem dX11_deal_35 : decode cX11_deal 35 = .ok (.iload_n 2, 1) := by decide +kernel
theorem dX11_deal_36 : decode cX11_deal 36 = .ok (.iconst 2, 1) := by decide +kernel
theorem dX11_deal_37 : decode cX11_deal 37 = .ok (.idiv, 1) := by decide +kernel
theorem dX11_deal_38 : decode cX11_deal 38 = .ok (.istore 4, 2) := by decide +kernel
theorem dX11_deal_40 : decode cX11_deal 40 = .ok (.aload_n 0, 1) := by decide +kernel
theorem dX11_deal_41 : decode cX11_deal 41 = .ok (.sipush 999, 3) := by decide +kernel
theorem dX11_deal_44 : decode cX11_deal 44 = .ok (.iload_n 2, 1) := by decide +kernel
theorem dX11_deal_45 : decode cX11_deal 45 = .ok (.iload 4, 2) := by decide +kernel
theorem dX11_deal_47 : decode cX11_deal 47 = .ok (.isub, 1) := by decide +kernel
theorem dX11_deal_48 : decode cX11_deal 48 = .ok (.invokestatic 161, 3) := by decide +kernel
theorem dX11_deal_51 : decode cX11_deal 51 = .ok (.putfield 117, 3) := by decide +kernel
theorem dX11_deal_54 : decode cX11_deal 54 = .ok (.aload_n 1, 1) := by decide +kernel
theorem dX11_deal_55 : decode cX11_deal 55 = .ok (.sipush 999, 3) := by decide +kernel
theorem dX11_deal_58 : decode cX11_deal 58 = .ok (.iload 4, 2) := by decide +kernel
theorem dX11_deal_60 : decode cX11_deal 60 = .ok (.invokestatic 161, 3) := by decide +kernel
theorem dX11_deal_63 : decode cX11_deal 63 = .ok (.putfield 117, 3) := by decide +kernel
theorem dX11_deal_66 : decode cX11_deal 66 = .ok (.return_, 1) := by decide +kernel
theorem dX11_hungerWithout_0 : decode cX11_hungerWithout 0 = .ok (.aload_n 0, 1) := by decide +kernel
theorem dX11_hungerWithout_1 : decode cX11_hungerWithout 1 = .ok (.getfield 52, 3) := by decide +kernel
theorem dX11_hungerWithout_4 : decode cX11_hungerWithout 4 = .ok (.aload_n 0, 1) := by decide +kernel
theorem dX11_hungerWithout_5 : decode cX11_hungerWithout 5 = .ok (.getfield 48, 3) := by decide +kernel
theorem dX11_hungerWithout_8 : decode cX11_hungerWithout 8 = .ok (.invokevirtual 84, 3) := by decide +kernel
theorem dX11_hungerWithout_11 : decode cX11_hungerWithout 11 = .ok (.aload_n 0, 1) := by decide +kernel
theorem dX11_hungerWithout_12 : decode cX11_hungerWithout 12 = .ok (.getfield 52, 3) := by decide +kernel
theorem dX11_hungerWithout_15 : decode cX11_hungerWithout 15 = .ok (.iload_n 1, 1) := by decide +kernel
theorem dX11_hungerWithout_16 : decode cX11_hungerWithout 16 = .ok (.invokevirtual 271, 3) := by decide +kernel
theorem dX11_hungerWithout_19 : decode cX11_hungerWithout 19 = .ok (.aload_n 0, 1) := by decide +kernel
theorem dX11_hungerWithout_20 : decode cX11_hungerWithout 20 = .ok (.getfield 52, 3) := by decide +kernel
theorem dX11_hungerWithout_23 : decode cX11_hungerWithout 23 = .ok (.iload_n 2, 1) := by decide +kernel
theorem dX11_hungerWithout_24 : decode cX11_hungerWithout 24 = .ok (.invokevirtual 201, 3) := by decide +kernel
theorem dX11_hungerWithout_27 : decode cX11_hungerWithout 27 = .ok (.ireturn, 1) := by decide +kernel
theorem dX11_wouldBeAt_0 : decode cX11_wouldBeAt 0 = .ok (.aload_n 1, 1) := by decide +kernel
theorem dX11_wouldBeAt_1 : decode cX11_wouldBeAt 1 = .ok (.getfield 121, 3) := by decide +kernel
theorem dX11_wouldBeAt_4 : decode cX11_wouldBeAt 4 = .ok (.istore 7, 2) := by decide +kernel
theorem dX11_wouldBeAt_6 : decode cX11_wouldBeAt 6 = .ok (.aload_n 1, 1) := by decide +kernel
theorem dX11_wouldBeAt_7 : decode cX11_wouldBeAt 7 = .ok (.getfield 124, 3) := by decide +kernel
theorem dX11_wouldBeAt_10 : decode cX11_wouldBeAt 10 = .ok (.istore 8, 2) := by decide +kernel
theorem dX11_wouldBeAt_12 : decode cX11_wouldBeAt 12 = .ok (.iconst 0, 1) := by decide +kernel
theorem dX11_wouldBeAt_13 : decode cX11_wouldBeAt 13 = .ok (.istore 9, 2) := by decide +kernel
theorem dX11_wouldBeAt_15 : decode cX11_wouldBeAt 15 = .ok (.iload 9, 2) := by decide +kernel
theorem dX11_wouldBeAt_17 : decode cX11_wouldBeAt 17 = .ok (.iload 4, 2) := by decide +kernel
theorem dX11_wouldBeAt_19 : decode cX11_wouldBeAt 19 = .ok (.if_icmp .ge 58, 3) := by decide +kernel
theorem dX11_wouldBeAt_22 : decode cX11_wouldBeAt 22 = .ok (.aload_n 0, 1) := by decide +kernel
theorem dX11_wouldBeAt_23 : decode cX11_wouldBeAt 23 = .ok (.getfield 48, 3) := by decide +kernel
theorem dX11_wouldBeAt_26 : decode cX11_wouldBeAt 26 = .ok (.aload_n 0, 1) := by decide +kernel
theorem dX11_wouldBeAt_27 : decode cX11_wouldBeAt 27 = .ok (.getfield 48, 3) := by decide +kernel
theorem dX11_wouldBeAt_30 : decode cX11_wouldBeAt 30 = .ok (.getfield 158, 3) := by decide +kernel
theorem dX11_wouldBeAt_33 : decode cX11_wouldBeAt 33 = .ok (.iload 9, 2) := by decide +kernel
theorem dX11_wouldBeAt_35 : decode cX11_wouldBeAt 35 = .ok (.iadd, 1) := by decide +kernel
theorem dX11_wouldBeAt_36 : decode cX11_wouldBeAt 36 = .ok (.aload_n 0, 1) := by decide +kernel
theorem dX11_wouldBeAt_37 : decode cX11_wouldBeAt 37 = .ok (.getfield 34, 3) := by decide +kernel
theorem dX11_wouldBeAt_40 : decode cX11_wouldBeAt 40 = .ok (.invokevirtual 260, 3) := by decide +kernel
theorem dX11_wouldBeAt_43 : decode cX11_wouldBeAt 43 = .ok (.iload 7, 2) := by decide +kernel
theorem dX11_wouldBeAt_45 : decode cX11_wouldBeAt 45 = .ok (.aload_n 2, 1) := by decide +kernel
theorem dX11_wouldBeAt_46 : decode cX11_wouldBeAt 46 = .ok (.aload_n 0, 1) := by decide +kernel
theorem dX11_wouldBeAt_47 : decode cX11_wouldBeAt 47 = .ok (.getfield 34, 3) := by decide +kernel
theorem dX11_wouldBeAt_50 : decode cX11_wouldBeAt 50 = .ok (.iload_n 3, 1) := by decide +kernel
theorem dX11_wouldBeAt_51 : decode cX11_wouldBeAt 51 = .ok (.invokevirtual 264, 3) := by decide +kernel
theorem dX11_wouldBeAt_54 : decode cX11_wouldBeAt 54 = .ok (.iadd, 1) := by decide +kernel
theorem dX11_wouldBeAt_55 : decode cX11_wouldBeAt 55 = .ok (.istore 7, 2) := by decide +kernel
theorem dX11_wouldBeAt_57 : decode cX11_wouldBeAt 57 = .ok (.iload 8, 2) := by decide +kernel
theorem dX11_wouldBeAt_59 : decode cX11_wouldBeAt 59 = .ok (.aload_n 2, 1) := by decide +kernel
theorem dX11_wouldBeAt_60 : decode cX11_wouldBeAt 60 = .ok (.aload_n 0, 1) := by decide +kernel
theorem dX11_wouldBeAt_61 : decode cX11_wouldBeAt 61 = .ok (.getfield 34, 3) := by decide +kernel
theorem dX11_wouldBeAt_64 : decode cX11_wouldBeAt 64 = .ok (.iload_n 3, 1) := by decide +kernel
theorem dX11_wouldBeAt_65 : decode cX11_wouldBeAt 65 = .ok (.invokevirtual 268, 3) := by decide +kernel
theorem dX11_wouldBeAt_68 : decode cX11_wouldBeAt 68 = .ok (.iadd, 1) := by decide +kernel
theorem dX11_wouldBeAt_69 : decode cX11_wouldBeAt 69 = .ok (.istore 8, 2) := by decide +kernel
theorem dX11_wouldBeAt_71 : decode cX11_wouldBeAt 71 = .ok (.iinc 9 1, 3) := by decide +kernel
theorem dX11_wouldBeAt_74 : decode cX11_wouldBeAt 74 = .ok (.goto (-59), 3) := by decide +kernel
theorem dX11_wouldBeAt_77 : decode cX11_wouldBeAt 77 = .ok (.iload 7, 2) := by decide +kernel
theorem dX11_wouldBeAt_79 : decode cX11_wouldBeAt 79 = .ok (.iload 5, 2) := by decide +kernel
theorem dX11_wouldBeAt_81 : decode cX11_wouldBeAt 81 = .ok (.if_icmp .ne 14, 3) := by decide +kernel
theorem dX11_wouldBeAt_84 : decode cX11_wouldBeAt 84 = .ok (.iload 8, 2) := by decide +kernel
theorem dX11_wouldBeAt_86 : decode cX11_wouldBeAt 86 = .ok (.iload 6, 2) := by decide +kernel
theorem dX11_wouldBeAt_88 : decode cX11_wouldBeAt 88 = .ok (.if_icmp .ne 7, 3) := by decide +kernel
theorem dX11_wouldBeAt_91 : decode cX11_wouldBeAt 91 = .ok (.iconst 1, 1) := by decide +kernel
theorem dX11_wouldBeAt_92 : decode cX11_wouldBeAt 92 = .ok (.goto 4, 3) := by decide +kernel
theorem dX11_wouldBeAt_95 : decode cX11_wouldBeAt 95 = .ok (.iconst 0, 1) := by decide +kernel
theorem dX11_wouldBeAt_96 : decode cX11_wouldBeAt 96 = .ok (.ireturn, 1) := by decide +kernel
theorem dX11_firstUntrue_0 : decode cX11_firstUntrue 0 = .ok (.aload_n 0, 1) := by decide +kernel
theorem dX11_firstUntrue_1 : decode cX11_firstUntrue 1 = .ok (.getfield 52, 3) := by decide +kernel
theorem dX11_firstUntrue_4 : decode cX11_firstUntrue 4 = .ok (.aload_n 0, 1) := by decide +kernel
theorem dX11_firstUntrue_5 : decode cX11_firstUntrue 5 = .ok (.getfield 48, 3) := by decide +kernel
theorem dX11_firstUntrue_8 : decode cX11_firstUntrue 8 = .ok (.invokevirtual 84, 3) := by decide +kernel
theorem dX11_firstUntrue_11 : decode cX11_firstUntrue 11 = .ok (.aload_n 0, 1) := by decide +kernel
theorem dX11_firstUntrue_12 : decode cX11_firstUntrue 12 = .ok (.getfield 52, 3) := by decide +kernel
theorem dX11_firstUntrue_15 : decode cX11_firstUntrue 15 = .ok (.getfield 102, 3) := by decide +kernel
theorem dX11_firstUntrue_18 : decode cX11_firstUntrue 18 = .ok (.iload_n 1, 1) := by decide +kernel
theorem dX11_firstUntrue_19 : decode cX11_firstUntrue 19 = .ok (.aaload, 1) := by decide +kernel
theorem dX11_firstUntrue_20 : decode cX11_firstUntrue 20 = .ok (.astore_n 2, 1) := by decide +kernel
theorem dX11_firstUntrue_21 : decode cX11_firstUntrue 21 = .ok (.iconst 0, 1) := by decide +kernel
theorem dX11_firstUntrue_22 : decode cX11_firstUntrue 22 = .ok (.istore_n 3, 1) := by decide +kernel
theorem dX11_firstUntrue_23 : decode cX11_firstUntrue 23 = .ok (.iload_n 3, 1) := by decide +kernel
theorem dX11_firstUntrue_24 : decode cX11_firstUntrue 24 = .ok (.aload_n 0, 1) := by decide +kernel
theorem dX11_firstUntrue_25 : decode cX11_firstUntrue 25 = .ok (.getfield 224, 3) := by decide +kernel
theorem dX11_firstUntrue_28 : decode cX11_firstUntrue 28 = .ok (.if_icmp .ge 63, 3) := by decide +kernel
theorem dX11_firstUntrue_31 : decode cX11_firstUntrue 31 = .ok (.iload_n 3, 1) := by decide +kernel
theorem dX11_firstUntrue_32 : decode cX11_firstUntrue 32 = .ok (.iconst 2, 1) := by decide +kernel
theorem dX11_firstUntrue_33 : decode cX11_firstUntrue 33 = .ok (.irem, 1) := by decide +kernel
theorem dX11_firstUntrue_34 : decode cX11_firstUntrue 34 = .ok (.ifCond .ne 7, 3) := by decide +kernel
theorem dX11_firstUntrue_37 : decode cX11_firstUntrue 37 = .ok (.iconst 1, 1) := by decide +kernel
theorem dX11_firstUntrue_38 : decode cX11_firstUntrue 38 = .ok (.goto 4, 3) := by decide +kernel
theorem dX11_firstUntrue_41 : decode cX11_firstUntrue 41 = .ok (.iconst 0, 1) := by decide +kernel
theorem dX11_firstUntrue_42 : decode cX11_firstUntrue 42 = .ok (.istore 4, 2) := by decide +kernel
theorem dX11_firstUntrue_44 : decode cX11_firstUntrue 44 = .ok (.aload_n 0, 1) := by decide +kernel
theorem dX11_firstUntrue_45 : decode cX11_firstUntrue 45 = .ok (.getfield 65, 3) := by decide +kernel
theorem dX11_firstUntrue_48 : decode cX11_firstUntrue 48 = .ok (.iload_n 3, 1) := by decide +kernel
theorem dX11_firstUntrue_49 : decode cX11_firstUntrue 49 = .ok (.iaload, 1) := by decide +kernel
theorem dX11_firstUntrue_50 : decode cX11_firstUntrue 50 = .ok (.iload 4, 2) := by decide +kernel
theorem dX11_firstUntrue_52 : decode cX11_firstUntrue 52 = .ok (.ifCond .eq 10, 3) := by decide +kernel
theorem dX11_firstUntrue_55 : decode cX11_firstUntrue 55 = .ok (.aload_n 2, 1) := by decide +kernel
theorem dX11_firstUntrue_56 : decode cX11_firstUntrue 56 = .ok (.getfield 121, 3) := by decide +kernel
theorem dX11_firstUntrue_59 : decode cX11_firstUntrue 59 = .ok (.goto 7, 3) := by decide +kernel
theorem dX11_firstUntrue_62 : decode cX11_firstUntrue 62 = .ok (.aload_n 2, 1) := by decide +kernel
theorem dX11_firstUntrue_63 : decode cX11_firstUntrue 63 = .ok (.getfield 124, 3) := by decide +kernel
theorem dX11_firstUntrue_66 : decode cX11_firstUntrue 66 = .ok (.if_icmp .eq 5, 3) := by decide +kernel
theorem dX11_firstUntrue_69 : decode cX11_firstUntrue 69 = .ok (.iload_n 3, 1) := by decide +kernel
theorem dX11_firstUntrue_70 : decode cX11_firstUntrue 70 = .ok (.ireturn, 1) := by decide +kernel
theorem dX11_firstUntrue_71 : decode cX11_firstUntrue 71 = .ok (.iload 4, 2) := by decide +kernel
theorem dX11_firstUntrue_73 : decode cX11_firstUntrue 73 = .ok (.ifCond .ne 12, 3) := by decide +kernel
theorem dX11_firstUntrue_76 : decode cX11_firstUntrue 76 = .ok (.aload_n 0, 1) := by decide +kernel
theorem dX11_firstUntrue_77 : decode cX11_firstUntrue 77 = .ok (.aload_n 0, 1) := by decide +kernel
theorem dX11_firstUntrue_78 : decode cX11_firstUntrue 78 = .ok (.getfield 52, 3) := by decide +kernel
theorem dX11_firstUntrue_81 : decode cX11_firstUntrue 81 = .ok (.invokevirtual 166, 3) := by decide +kernel
theorem dX11_firstUntrue_84 : decode cX11_firstUntrue 84 = .ok (.pop, 1) := by decide +kernel
theorem dX11_firstUntrue_85 : decode cX11_firstUntrue 85 = .ok (.iinc 3 1, 3) := by decide +kernel
theorem dX11_firstUntrue_88 : decode cX11_firstUntrue 88 = .ok (.goto (-65), 3) := by decide +kernel
theorem dX11_firstUntrue_91 : decode cX11_firstUntrue 91 = .ok (.bipush (-9), 2) := by decide +kernel
theorem dX11_firstUntrue_93 : decode cX11_firstUntrue 93 = .ok (.ireturn, 1) := by decide +kernel
theorem dJ9_floorMod_7cf53_0 : decode cJ9_floorMod_7cf53 0 = .ok (.iload_n 0, 1) := by decide +kernel
theorem dJ9_floorMod_7cf53_1 : decode cJ9_floorMod_7cf53 1 = .ok (.iload_n 1, 1) := by decide +kernel
theorem dJ9_floorMod_7cf53_2 : decode cJ9_floorMod_7cf53 2 = .ok (.irem, 1) := by decide +kernel
theorem dJ9_floorMod_7cf53_3 : decode cJ9_floorMod_7cf53 3 = .ok (.istore_n 2, 1) := by decide +kernel
theorem dJ9_floorMod_7cf53_4 : decode cJ9_floorMod_7cf53 4 = .ok (.iload_n 0, 1) := by decide +kernel
theorem dJ9_floorMod_7cf53_5 : decode cJ9_floorMod_7cf53 5 = .ok (.iload_n 1, 1) := by decide +kernel
theorem dJ9_floorMod_7cf53_6 : decode cJ9_floorMod_7cf53 6 = .ok (.ixor, 1) := by decide +kernel
theorem dJ9_floorMod_7cf53_7 : decode cJ9_floorMod_7cf53 7 = .ok (.ifCond .ge 11, 3) := by decide +kernel
theorem dJ9_floorMod_7cf53_10 : decode cJ9_floorMod_7cf53 10 = .ok (.iload_n 2, 1) := by decide +kernel
theorem dJ9_floorMod_7cf53_11 : decode cJ9_floorMod_7cf53 11 = .ok (.ifCond .eq 7, 3) := by decide +kernel
theorem dJ9_floorMod_7cf53_14 : decode cJ9_floorMod_7cf53 14 = .ok (.iload_n 2, 1) := by decide +kernel
theorem dJ9_floorMod_7cf53_15 : decode cJ9_floorMod_7cf53 15 = .ok (.iload_n 1, 1) := by decide +kernel
theorem dJ9_floorMod_7cf53_16 : decode cJ9_floorMod_7cf53 16 = .ok (.iadd, 1) := by decide +kernel
theorem dJ9_floorMod_7cf53_17 : decode cJ9_floorMod_7cf53 17 = .ok (.ireturn, 1) := by decide +kernel
theorem dJ9_floorMod_7cf53_18 : decode cJ9_floorMod_7cf53 18 = .ok (.iload_n 2, 1) := by decide +kernel
theorem dJ9_floorMod_7cf53_19 : decode cJ9_floorMod_7cf53 19 = .ok (.ireturn, 1) := by decide +kernel
theorem dJ9_abs_0f7a4_0 : decode cJ9_abs_0f7a4 0 = .ok (.iload_n 0, 1) := by decide +kernel
theorem dJ9_abs_0f7a4_1 : decode cJ9_abs_0f7a4 1 = .ok (.ifCond .ge 8, 3) := by decide +kernel
theorem dJ9_abs_0f7a4_4 : decode cJ9_abs_0f7a4 4 = .ok (.iload_n 0, 1) := by decide +kernel
theorem dJ9_abs_0f7a4_5 : decode cJ9_abs_0f7a4 5 = .ok (.ineg, 1) := by decide +kernel
theorem dJ9_abs_0f7a4_6 : decode cJ9_abs_0f7a4 6 = .ok (.goto 4, 3) := by decide +kernel
theorem dJ9_abs_0f7a4_9 : decode cJ9_abs_0f7a4 9 = .ok (.iload_n 0, 1) := by decide +kernel
theorem dJ9_abs_0f7a4_10 : decode cJ9_abs_0f7a4 10 = .ok (.ireturn, 1) := by decide +kernel
theorem dJ9_max_7cf53_0 : decode cJ9_max_7cf53 0 = .ok (.iload_n 0, 1) := by decide +kernel
theorem dJ9_max_7cf53_1 : decode cJ9_max_7cf53 1 = .ok (.iload_n 1, 1) := by decide +kernel
theorem dJ9_max_7cf53_2 : decode cJ9_max_7cf53 2 = .ok (.if_icmp .lt 7, 3) := by decide +kernel
theorem dJ9_max_7cf53_5 : decode cJ9_max_7cf53 5 = .ok (.iload_n 0, 1) := by decide +kernel
theorem dJ9_max_7cf53_6 : decode cJ9_max_7cf53 6 = .ok (.goto 4, 3) := by decide +kernel
theorem dJ9_max_7cf53_9 : decode cJ9_max_7cf53 9 = .ok (.iload_n 1, 1) := by decide +kernel
theorem dJ9_max_7cf53_10 : decode cJ9_max_7cf53 10 = .ok (.ireturn, 1) := by decide +kernel
theorem dJ9_min_7cf53_0 : decode cJ9_min_7cf53 0 = .ok (.iload_n 0, 1) := by decide +kernel
theorem dJ9_min_7cf53_1 : decode cJ9_min_7cf53 1 = .ok (.iload_n 1, 1) := by decide +kernel
theorem dJ9_min_7cf53_2 : decode cJ9_min_7cf53 2 = .ok (.if_icmp .gt 7, 3) := by decide +kernel
theorem dJ9_min_7cf53_5 : decode cJ9_min_7cf53 5 = .ok (.iload_n 0, 1) := by decide +kernel
theorem dJ9_min_7cf53_6 : decode cJ9_min_7cf53 6 = .ok (.goto 4, 3) := by decide +kernel
theorem dJ9_min_7cf53_9 : decode cJ9_min_7cf53 9 = .ok (.iload_n 1, 1) := by decide +kernel
theorem dJ9_min_7cf53_10 : decode cJ9_min_7cf53 10 = .ok (.ireturn, 1) := by decide +kernel
end
section
theorem dX12_init_0 : decode cX12_init 0 = .ok (.aload_n 0, 1) := by decide +kernel
theorem dX12_init_1 : decode cX12_init 1 = .ok (.invokespecial 1, 3) := by decide +kernel
theorem dX12_init_4 : decode cX12_init 4 = .ok (.aload_n 0, 1) := by decide +kernel
theorem dX12_init_5 : decode cX12_init 5 = .ok (.bipush 10, 2) := by decide +kernel
theorem dX12_init_7 : decode cX12_init 7 = .ok (.putfield 7, 3) := by decide +kernel
theorem dX12_init_10 : decode cX12_init 10 = .ok (.aload_n 0, 1) := by decide +kernel
theorem dX12_init_11 : decode cX12_init 11 = .ok (.bipush 30, 2) := by decide +kernel
theorem dX12_init_13 : decode cX12_init 13 = .ok (.putfield 13, 3) := by decide +kernel
theorem dX12_init_16 : decode cX12_init 16 = .ok (.aload_n 0, 1) := by decide +kernel
theorem dX12_init_17 : decode cX12_init 17 = .ok (.bipush 7, 2) := by decide +kernel
theorem dX12_init_19 : decode cX12_init 19 = .ok (.newarray .int, 2) := by decide +kernel
theorem dX12_init_21 : decode cX12_init 21 = .ok (.putfield 16, 3) := by decide +kernel
theorem dX12_init_24 : decode cX12_init 24 = .ok (.aload_n 0, 1) := by decide +kernel
theorem dX12_init_25 : decode cX12_init 25 = .ok (.bipush 7, 2) := by decide +kernel
theorem dX12_init_27 : decode cX12_init 27 = .ok (.newarray .int, 2) := by decide +kernel
theorem dX12_init_29 : decode cX12_init 29 = .ok (.putfield 20, 3) := by decide +kernel
theorem dX12_init_32 : decode cX12_init 32 = .ok (.aload_n 0, 1) := by decide +kernel
theorem dX12_init_33 : decode cX12_init 33 = .ok (.bipush 6, 2) := by decide +kernel
theorem dX12_init_35 : decode cX12_init 35 = .ok (.newarray .int, 2) := by decide +kernel
theorem dX12_init_37 : decode cX12_init 37 = .ok (.putfield 23, 3) := by decide +kernel
theorem dX12_init_40 : decode cX12_init 40 = .ok (.aload_n 0, 1) := by decide +kernel
theorem dX12_init_41 : decode cX12_init 41 = .ok (.bipush 6, 2) := by decide +kernel
theorem dX12_init_43 : decode cX12_init 43 = .ok (.newarray .int, 2) := by decide +kernel
theorem dX12_init_45 : decode cX12_init 45 = .ok (.putfield 26, 3) := by decide +kernel
theorem dX12_init_48 : decode cX12_init 48 = .ok (.aload_n 0, 1) := by decide +kernel
theorem dX12_init_49 : decode cX12_init 49 = .ok (.bipush 6, 2) := by decide +kernel
theorem dX12_init_51 : decode cX12_init 51 = .ok (.newarray .int, 2) := by decide +kernel
theorem dX12_init_53 : decode cX12_init 53 = .ok (.putfield 29, 3) := by decide +kernel
theorem dX12_init_56 : decode cX12_init 56 = .ok (.aload_n 0, 1) := by decide +kernel
theorem dX12_init_57 : decode cX12_init 57 = .ok (.bipush 6, 2) := by decide +kernel
theorem dX12_init_59 : decode cX12_init 59 = .ok (.newarray .int, 2) := by decide +kernel
theorem dX12_init_61 : decode cX12_init 61 = .ok (.putfield 32, 3) := by decide +kernel
theorem dX12_init_64 : decode cX12_init 64 = .ok (.aload_n 0, 1) := by decide +kernel
theorem dX12_init_65 : decode cX12_init 65 = .ok (.bipush 6, 2) := by decide +kernel
theorem dX12_init_67 : decode cX12_init 67 = .ok (.newarray .int, 2) := by decide +kernel
theorem dX12_init_69 : decode cX12_init 69 = .ok (.putfield 35, 3) := by decide +kernel
theorem dX12_init_72 : decode cX12_init 72 = .ok (.aload_n 0, 1) := by decide +kernel
theorem dX12_init_73 : decode cX12_init 73 = .ok (.bipush 6, 2) := by decide +kernel
theorem dX12_init_75 : decode cX12_init 75 = .ok (.newarray .int, 2) := by decide +kernel
theorem dX12_init_77 : decode cX12_init 77 = .ok (.putfield 38, 3) := by decide +kernel
theorem dX12_init_80 : decode cX12_init 80 = .ok (.aload_n 0, 1) := by decide +kernel
theorem dX12_init_81 : decode cX12_init 81 = .ok (.bipush 7, 2) := by decide +kernel
theorem dX12_init_83 : decode cX12_init 83 = .ok (.newarray .int, 2) := by decide +kernel
theorem dX12_init_85 : decode cX12_init 85 = .ok (.putfield 41, 3) := by decide +kernel
theorem dX12_init_88 : decode cX12_init 88 = .ok (.aload_n 0, 1) := by decide +kernel
theorem dX12_init_89 : decode cX12_init 89 = .ok (.bipush 56, 2) := by decide +kernel
theorem dX12_init_91 : decode cX12_init 91 = .ok (.newarray .int, 2) := by decide +kernel
theorem dX12_init_93 : decode cX12_init 93 = .ok (.putfield 44, 3) := by decide +kernel
theorem dX12_init_96 : decode cX12_init 96 = .ok (.aload_n 0, 1) := by decide +kernel
theorem dX12_init_97 : decode cX12_init 97 = .ok (.bipush 56, 2) := by decide +kernel
theorem dX12_init_99 : decode cX12_init 99 = .ok (.newarray .int, 2) := by decide +kernel
theorem dX12_init_101 : decode cX12_init 101 = .ok (.putfield 47, 3) := by decide +kernel
theorem dX12_init_104 : decode cX12_init 104 = .ok (.aload_n 0, 1) := by decide +kernel
theorem dX12_init_105 : decode cX12_init 105 = .ok (.bipush 80, 2) := by decide +kernel
theorem dX12_init_107 : decode cX12_init 107 = .ok (.newarray .int, 2) := by decide +kernel
theorem dX12_init_109 : decode cX12_init 109 = .ok (.putfield 50, 3) := by decide +kernel
theorem dX12_init_112 : decode cX12_init 112 = .ok (.aload_n 0, 1) := by decide +kernel
theorem dX12_init_113 : decode cX12_init 113 = .ok (.bipush 28, 2) := by decide +kernel
theorem dX12_init_115 : decode cX12_init 115 = .ok (.newarray .int, 2) := by decide +kernel
theorem dX12_init_117 : decode cX12_init 117 = .ok (.putfield 53, 3) := by decide +kernel
theorem dX12_init_120 : decode cX12_init 120 = .ok (.aload_n 0, 1) := by decide +kernel
theorem dX12_init_121 : decode cX12_init 121 = .ok (.bipush 28, 2) := by decide +kernel
theorem dX12_init_123 : decode cX12_init 123 = .ok (.newarray .int, 2) := by decide +kernel
theorem dX12_init_125 : decode cX12_init 125 = .ok (.putfield 56, 3) := by decide +kernel
theorem dX12_init_128 : decode cX12_init 128 = .ok (.aload_n 0, 1) := by decide +kernel
theorem dX12_init_129 : decode cX12_init 129 = .ok (.sipush 168, 3) := by decide +kernel
theorem dX12_init_132 : decode cX12_init 132 = .ok (.newarray .int, 2) := by decide +kernel
theorem dX12_init_134 : decode cX12_init 134 = .ok (.putfield 59, 3) := by decide +kernel
theorem dX12_init_137 : decode cX12_init 137 = .ok (.aload_n 0, 1) := by decide +kernel
theorem dX12_init_138 : decode cX12_init 138 = .ok (.bipush 12, 2) := by decide +kernel
theorem dX12_init_140 : decode cX12_init 140 = .ok (.newarray .int, 2) := by decide +kernel
theorem dX12_init_142 : decode cX12_init 142 = .ok (.putfield 62, 3) := by decide +kernel
theorem dX12_init_145 : decode cX12_init 145 = .ok (.aload_n 0, 1) := by decide +kernel
theorem dX12_init_146 : decode cX12_init 146 = .ok (.iconst 0, 1) := by decide +kernel
theorem dX12_init_147 : decode cX12_init 147 = .ok (.putfield 65, 3) := by decide +kernel
theorem dX12_init_150 : decode cX12_init 150 = .ok (.return_, 1) := by decide +kernel
theorem dX12_in_0 : decode cX12_in 0 = .ok (.lload_n 0, 1) := by decide +kernel
theorem dX12_in_1 : decode cX12_in 1 = .ok (.lload_n 2, 1) := by decide +kernel
theorem dX12_in_2 : decode cX12_in 2 = .ok (.lcmp, 1) := by decide +kernel
theorem dX12_in_3 : decode cX12_in 3 = .ok (.ifCond .lt 14, 3) := by decide +kernel
theorem dX12_in_6 : decode cX12_in 6 = .ok (.lload_n 0, 1) := by decide +kernel
theorem dX12_in_7 : decode cX12_in 7 = .ok (.lload 4, 2) := by decide +kernel
theorem dX12_in_9 : decode cX12_in 9 = .ok (.lcmp, 1) := by decide +kernel
theorem dX12_in_10 : decode cX12_in 10 = .ok (.ifCond .gt 7, 3) := by decide +kernel
theorem dX12_in_13 : decode cX12_in 13 = .ok (.iconst 1, 1) := by decide +kernel
theorem dX12_in_14 : decode cX12_in 14 = .ok (.goto 4, 3) := by decide +kernel
theorem dX12_in_17 : decode cX12_in 17 = .ok (.iconst 0, 1) := by decide +kernel
theorem dX12_in_18 : decode cX12_in 18 = .ok (.ireturn, 1) := by decide +kernel
theorem dX12_refuse_0 : decode cX12_refuse 0 = .ok (.aload_n 0, 1) := by decide +kernel
theorem dX12_refuse_1 : decode cX12_refuse 1 = .ok (.getfield 41, 3) := by decide +kernel
theorem dX12_refuse_4 : decode cX12_refuse 4 = .ok (.iload_n 1, 1) := by decide +kernel
theorem dX12_refuse_5 : decode cX12_refuse 5 = .ok (.ineg, 1) := by decide +kernel
theorem dX12_refuse_6 : decode cX12_refuse 6 = .ok (.dup2, 1) := by decide +kernel
theorem dX12_refuse_7 : decode cX12_refuse 7 = .ok (.iaload, 1) := by decide +kernel
theorem dX12_refuse_8 : decode cX12_refuse 8 = .ok (.iconst 1, 1) := by decide +kernel
theorem dX12_refuse_9 : decode cX12_refuse 9 = .ok (.iadd, 1) := by decide +kernel
theorem dX12_refuse_10 : decode cX12_refuse 10 = .ok (.iastore, 1) := by decide +kernel
theorem dX12_refuse_11 : decode cX12_refuse 11 = .ok (.iload_n 1, 1) := by decide +kernel
theorem dX12_refuse_12 : decode cX12_refuse 12 = .ok (.ireturn, 1) := by decide +kernel
theorem dX12_isShip_0 : decode cX12_isShip 0 = .ok (.iload_n 1, 1) := by decide +kernel
theorem dX12_isShip_1 : decode cX12_isShip 1 = .ok (.i2l, 1) := by decide +kernel
theorem dX12_isShip_2 : decode cX12_isShip 2 = .ok (.lconst 0, 1) := by decide +kernel
theorem dX12_isShip_3 : decode cX12_isShip 3 = .ok (.aload_n 0, 1) := by decide +kernel
theorem dX12_isShip_4 : decode cX12_isShip 4 = .ok (.getfield 68, 3) := by decide +kernel
theorem dX12_isShip_7 : decode cX12_isShip 7 = .ok (.iconst 1, 1) := by decide +kernel
theorem dX12_isShip_8 : decode cX12_isShip 8 = .ok (.isub, 1) := by decide +kernel
theorem dX12_isShip_9 : decode cX12_isShip 9 = .ok (.i2l, 1) := by decide +kernel
theorem dX12_isShip_10 : decode cX12_isShip 10 = .ok (.invokestatic 71, 3) := by decide +kernel
theorem dX12_isShip_13 : decode cX12_isShip 13 = .ok (.ireturn, 1) := by decide +kernel
theorem dX12_areTwo_0 : decode cX12_areTwo 0 = .ok (.aload_n 0, 1) := by decide +kernel
theorem dX12_areTwo_1 : decode cX12_areTwo 1 = .ok (.iload_n 1, 1) := by decide +kernel
theorem dX12_areTwo_2 : decode cX12_areTwo 2 = .ok (.invokevirtual 75, 3) := by decide +kernel
theorem dX12_areTwo_5 : decode cX12_areTwo 5 = .ok (.ifCond .eq 20, 3) := by decide +kernel
theorem dX12_areTwo_8 : decode cX12_areTwo 8 = .ok (.aload_n 0, 1) := by decide +kernel
theorem dX12_areTwo_9 : decode cX12_areTwo 9 = .ok (.iload_n 2, 1) := by decide +kernel
theorem dX12_areTwo_10 : decode cX12_areTwo 10 = .ok (.invokevirtual 75, 3) := by decide +kernel
theorem dX12_areTwo_13 : decode cX12_areTwo 13 = .ok (.ifCond .eq 12, 3) := by decide +kernel
theorem dX12_areTwo_16 : decode cX12_areTwo 16 = .ok (.iload_n 1, 1) := by decide +kernel
theorem dX12_areTwo_17 : decode cX12_areTwo 17 = .ok (.iload_n 2, 1) := by decide +kernel
theorem dX12_areTwo_18 : decode cX12_areTwo 18 = .ok (.if_icmp .eq 7, 3) := by decide +kernel
theorem dX12_areTwo_21 : decode cX12_areTwo 21 = .ok (.iconst 1, 1) := by decide +kernel
theorem dX12_areTwo_22 : decode cX12_areTwo 22 = .ok (.goto 4, 3) := by decide +kernel
theorem dX12_areTwo_25 : decode cX12_areTwo 25 = .ok (.iconst 0, 1) := by decide +kernel
theorem dX12_areTwo_26 : decode cX12_areTwo 26 = .ok (.ireturn, 1) := by decide +kernel
theorem dX12_driftBy_0 : decode cX12_driftBy 0 = .ok (.iload_n 3, 1) := by decide +kernel
theorem dX12_driftBy_1 : decode cX12_driftBy 1 = .ok (.ifCond .le 7, 3) := by decide +kernel
theorem dX12_driftBy_4 : decode cX12_driftBy 4 = .ok (.iconst 1, 1) := by decide +kernel
theorem dX12_driftBy_5 : decode cX12_driftBy 5 = .ok (.goto 12, 3) := by decide +kernel
theorem dX12_driftBy_8 : decode cX12_driftBy 8 = .ok (.iload_n 3, 1) := by decide +kernel
theorem dX12_driftBy_9 : decode cX12_driftBy 9 = .ok (.ifCond .ge 7, 3) := by decide +kernel
theorem dX12_driftBy_12 : decode cX12_driftBy 12 = .ok (.iconst (-1), 1) := by decide +kernel
theorem dX12_driftBy_13 : decode cX12_driftBy 13 = .ok (.goto 4, 3) := by decide +kernel
theorem dX12_driftBy_16 : decode cX12_driftBy 16 = .ok (.iconst 0, 1) := by decide +kernel
theorem dX12_driftBy_17 : decode cX12_driftBy 17 = .ok (.istore 7, 2) := by decide +kernel
theorem dX12_driftBy_19 : decode cX12_driftBy 19 = .ok (.iload_n 1, 1) := by decide +kernel
theorem dX12_driftBy_20 : decode cX12_driftBy 20 = .ok (.iconst 4, 1) := by decide +kernel
theorem dX12_driftBy_21 : decode cX12_driftBy 21 = .ok (.if_icmp .ne 18, 3) := by decide +kernel
theorem dX12_driftBy_24 : decode cX12_driftBy 24 = .ok (.aload_n 0, 1) := by decide +kernel
theorem dX12_driftBy_25 : decode cX12_driftBy 25 = .ok (.getfield 79, 3) := by decide +kernel
theorem dX12_driftBy_28 : decode cX12_driftBy 28 = .ok (.iload_n 2, 1) := by decide +kernel
theorem dX12_driftBy_29 : decode cX12_driftBy 29 = .ok (.iconst 2, 1) := by decide +kernel
theorem dX12_driftBy_30 : decode cX12_driftBy 30 = .ok (.iadd, 1) := by decide +kernel
theorem dX12_driftBy_31 : decode cX12_driftBy 31 = .ok (.irem, 1) := by decide +kernel
theorem dX12_driftBy_32 : decode cX12_driftBy 32 = .ok (.ifCond .ne 7, 3) := by decide +kernel
theorem dX12_driftBy_35 : decode cX12_driftBy 35 = .ok (.iconst 1, 1) := by decide +kernel
theorem dX12_driftBy_36 : decode cX12_driftBy 36 = .ok (.goto 4, 3) := by decide +kernel
theorem dX12_driftBy_39 : decode cX12_driftBy 39 = .ok (.iconst 0, 1) := by decide +kernel
theorem dX12_driftBy_40 : decode cX12_driftBy 40 = .ok (.istore 8, 2) := by decide +kernel
theorem dX12_driftBy_42 : decode cX12_driftBy 42 = .ok (.iload_n 1, 1) := by decide +kernel
theorem dX12_driftBy_43 : decode cX12_driftBy 43 = .ok (.tableswitch 107 0 5 #[37, 51, 107, 69, 107, 84], 37) := by decide +kernel
theorem dX12_driftBy_80 : decode cX12_driftBy 80 = .ok (.aload_n 0, 1) := by decide +kernel
theorem dX12_driftBy_81 : decode cX12_driftBy 81 = .ok (.iload_n 3, 1) := by decide +kernel
theorem dX12_driftBy_82 : decode cX12_driftBy 82 = .ok (.putfield 82, 3) := by decide +kernel
theorem dX12_driftBy_85 : decode cX12_driftBy 85 = .ok (.aload_n 0, 1) := by decide +kernel
theorem dX12_driftBy_86 : decode cX12_driftBy 86 = .ok (.iload 4, 2) := by decide +kernel
theorem dX12_driftBy_88 : decode cX12_driftBy 88 = .ok (.putfield 85, 3) := by decide +kernel
theorem dX12_driftBy_91 : decode cX12_driftBy 91 = .ok (.goto 91, 3) := by decide +kernel
theorem dX12_driftBy_94 : decode cX12_driftBy 94 = .ok (.aload_n 0, 1) := by decide +kernel
theorem dX12_driftBy_95 : decode cX12_driftBy 95 = .ok (.iload_n 3, 1) := by decide +kernel
theorem dX12_driftBy_96 : decode cX12_driftBy 96 = .ok (.iconst 2, 1) := by decide +kernel
theorem dX12_driftBy_97 : decode cX12_driftBy 97 = .ok (.idiv, 1) := by decide +kernel
theorem dX12_driftBy_98 : decode cX12_driftBy 98 = .ok (.putfield 82, 3) := by decide +kernel
theorem dX12_driftBy_101 : decode cX12_driftBy 101 = .ok (.aload_n 0, 1) := by decide +kernel
theorem dX12_driftBy_102 : decode cX12_driftBy 102 = .ok (.iload 4, 2) := by decide +kernel
theorem dX12_driftBy_104 : decode cX12_driftBy 104 = .ok (.iconst 2, 1) := by decide +kernel
theorem dX12_driftBy_105 : decode cX12_driftBy 105 = .ok (.idiv, 1) := by decide +kernel
theorem dX12_driftBy_106 : decode cX12_driftBy 106 = .ok (.putfield 85, 3) := by decide +kernel
theorem dX12_driftBy_109 : decode cX12_driftBy 109 = .ok (.goto 73, 3) := by decide +kernel
theorem dX12_driftBy_112 : decode cX12_driftBy 112 = .ok (.aload_n 0, 1) := by decide +kernel
theorem dX12_driftBy_113 : decode cX12_driftBy 113 = .ok (.iload 5, 2) := by decide +kernel
theorem dX12_driftBy_115 : decode cX12_driftBy 115 = .ok (.putfield 82, 3) := by decide +kernel
theorem dX12_driftBy_118 : decode cX12_driftBy 118 = .ok (.aload_n 0, 1) := by decide +kernel
theorem dX12_driftBy_119 : decode cX12_driftBy 119 = .ok (.iload 6, 2) := by decide +kernel
theorem dX12_driftBy_121 : decode cX12_driftBy 121 = .ok (.putfield 85, 3) := by decide +kernel
theorem dX12_driftBy_124 : decode cX12_driftBy 124 = .ok (.goto 58, 3) := by decide +kernel
theorem dX12_driftBy_127 : decode cX12_driftBy 127 = .ok (.aload_n 0, 1) := by decide +kernel
theorem dX12_driftBy_128 : decode cX12_driftBy 128 = .ok (.iload_n 3, 1) := by decide +kernel
theorem dX12_driftBy_129 : decode cX12_driftBy 129 = .ok (.iconst 2, 1) := by decide +kernel
theorem dX12_driftBy_130 : decode cX12_driftBy 130 = .ok (.idiv, 1) := by decide +kernel
theorem dX12_driftBy_131 : decode cX12_driftBy 131 = .ok (.iload_n 2, 1) := by decide +kernel
theorem dX12_driftBy_132 : decode cX12_driftBy 132 = .ok (.iload 7, 2) := by decide +kernel
theorem dX12_driftBy_134 : decode cX12_driftBy 134 = .ok (.imul, 1) := by decide +kernel
theorem dX12_driftBy_135 : decode cX12_driftBy 135 = .ok (.iadd, 1) := by decide +kernel
theorem dX12_driftBy_136 : decode cX12_driftBy 136 = .ok (.putfield 82, 3) := by decide +kernel
theorem dX12_driftBy_139 : decode cX12_driftBy 139 = .ok (.aload_n 0, 1) := by decide +kernel
theorem dX12_driftBy_140 : decode cX12_driftBy 140 = .ok (.iload 4, 2) := by decide +kernel
theorem dX12_driftBy_142 : decode cX12_driftBy 142 = .ok (.iconst 2, 1) := by decide +kernel
theorem dX12_driftBy_143 : decode cX12_driftBy 143 = .ok (.idiv, 1) := by decide +kernel
theorem dX12_driftBy_144 : decode cX12_driftBy 144 = .ok (.putfield 85, 3) := by decide +kernel
theorem dX12_driftBy_147 : decode cX12_driftBy 147 = .ok (.goto 35, 3) := by decide +kernel
theorem dX12_driftBy_150 : decode cX12_driftBy 150 = .ok (.aload_n 0, 1) := by decide +kernel
theorem dX12_driftBy_151 : decode cX12_driftBy 151 = .ok (.iload 8, 2) := by decide +kernel
theorem dX12_driftBy_153 : decode cX12_driftBy 153 = .ok (.ifCond .eq 8, 3) := by decide +kernel
theorem dX12_driftBy_156 : decode cX12_driftBy 156 = .ok (.iload 4, 2) := by decide +kernel
theorem dX12_driftBy_158 : decode cX12_driftBy 158 = .ok (.goto 6, 3) := by decide +kernel
theorem dX12_driftBy_161 : decode cX12_driftBy 161 = .ok (.iload 4, 2) := by decide +kernel
theorem dX12_driftBy_163 : decode cX12_driftBy 163 = .ok (.ineg, 1) := by decide +kernel
theorem dX12_driftBy_164 : decode cX12_driftBy 164 = .ok (.putfield 82, 3) := by decide +kernel
theorem dX12_driftBy_167 : decode cX12_driftBy 167 = .ok (.aload_n 0, 1) := by decide +kernel
theorem dX12_driftBy_168 : decode cX12_driftBy 168 = .ok (.iload 8, 2) := by decide +kernel
theorem dX12_driftBy_170 : decode cX12_driftBy 170 = .ok (.ifCond .eq 8, 3) := by decide +kernel
theorem dX12_driftBy_173 : decode cX12_driftBy 173 = .ok (.iload_n 3, 1) := by decide +kernel
theorem dX12_driftBy_174 : decode cX12_driftBy 174 = .ok (.ineg, 1) := by decide +kernel
theorem dX12_driftBy_175 : decode cX12_driftBy 175 = .ok (.goto 4, 3) := by decide +kernel
theorem dX12_driftBy_178 : decode cX12_driftBy 178 = .ok (.iload_n 3, 1) := by decide +kernel
theorem dX12_driftBy_179 : decode cX12_driftBy 179 = .ok (.putfield 85, 3) := by decide +kernel
theorem dX12_driftBy_182 : decode cX12_driftBy 182 = .ok (.return_, 1) := by decide +kernel
theorem dX12_driftToday_0 : decode cX12_driftToday 0 = .ok (.aload_n 0, 1) := by decide +kernel
theorem dX12_driftToday_1 : decode cX12_driftToday 1 = .ok (.getfield 79, 3) := by decide +kernel
theorem dX12_driftToday_4 : decode cX12_driftToday 4 = .ok (.bipush 7, 2) := by decide +kernel
theorem dX12_driftToday_6 : decode cX12_driftToday 6 = .ok (.irem, 1) := by decide +kernel
theorem dX12_driftToday_7 : decode cX12_driftToday 7 = .ok (.istore_n 3, 1) := by decide +kernel
theorem dX12_driftToday_8 : decode cX12_driftToday 8 = .ok (.aload_n 0, 1) := by decide +kernel
theorem dX12_driftToday_9 : decode cX12_driftToday 9 = .ok (.getfield 79, 3) := by decide +kernel
theorem dX12_driftToday_12 : decode cX12_driftToday 12 = .ok (.bipush 6, 2) := by decide +kernel
theorem dX12_driftToday_14 : decode cX12_driftToday 14 = .ok (.iadd, 1) := by decide +kernel
theorem dX12_driftToday_15 : decode cX12_driftToday 15 = .ok (.bipush 7, 2) := by decide +kernel
theorem dX12_driftToday_17 : decode cX12_driftToday 17 = .ok (.irem, 1) := by decide +kernel
theorem dX12_driftToday_18 : decode cX12_driftToday 18 = .ok (.istore 4, 2) := by decide +kernel
theorem dX12_driftToday_20 : decode cX12_driftToday 20 = .ok (.aload_n 0, 1) := by decide +kernel
theorem dX12_driftToday_21 : decode cX12_driftToday 21 = .ok (.iload_n 1, 1) := by decide +kernel
theorem dX12_driftToday_22 : decode cX12_driftToday 22 = .ok (.iload_n 2, 1) := by decide +kernel
theorem dX12_driftToday_23 : decode cX12_driftToday 23 = .ok (.aload_n 0, 1) := by decide +kernel
theorem dX12_driftToday_24 : decode cX12_driftToday 24 = .ok (.getfield 16, 3) := by decide +kernel
theorem dX12_driftToday_27 : decode cX12_driftToday 27 = .ok (.iload_n 3, 1) := by decide +kernel
theorem dX12_driftToday_28 : decode cX12_driftToday 28 = .ok (.iaload, 1) := by decide +kernel
theorem dX12_driftToday_29 : decode cX12_driftToday 29 = .ok (.aload_n 0, 1) := by decide +kernel
theorem dX12_driftToday_30 : decode cX12_driftToday 30 = .ok (.getfield 20, 3) := by decide +kernel
theorem dX12_driftToday_33 : decode cX12_driftToday 33 = .ok (.iload_n 3, 1) := by decide +kernel
theorem dX12_driftToday_34 : decode cX12_driftToday 34 = .ok (.iaload, 1) := by decide +kernel
theorem dX12_driftToday_35 : decode cX12_driftToday 35 = .ok (.aload_n 0, 1) := by decide +kernel
theorem dX12_driftToday_36 : decode cX12_driftToday 36 = .ok (.getfield 16, 3) := by decide +kernel
theorem dX12_driftToday_39 : decode cX12_driftToday 39 = .ok (.iload 4, 2) := by decide +kernel
theorem dX12_driftToday_41 : decode cX12_driftToday 41 = .ok (.iaload, 1) := by decide +kernel
theorem dX12_driftToday_42 : decode cX12_driftToday 42 = .ok (.aload_n 0, 1) := by decide +kernel
theorem dX12_driftToday_43 : decode cX12_driftToday 43 = .ok (.getfield 20, 3) := by decide +kernel
theorem dX12_driftToday_46 : decode cX12_driftToday 46 = .ok (.iload 4, 2) := by decide +kernel
theorem dX12_driftToday_48 : decode cX12_driftToday 48 = .ok (.iaload, 1) := by decide +kernel
theorem dX12_driftToday_49 : decode cX12_driftToday 49 = .ok (.invokevirtual 88, 3) := by decide +kernel
theorem dX12_driftToday_52 : decode cX12_driftToday 52 = .ok (.return_, 1) := by decide +kernel
theorem dX12_driftAll_0 : decode cX12_driftAll 0 = .ok (.iconst 0, 1) := by decide +kernel
theorem dX12_driftAll_1 : decode cX12_driftAll 1 = .ok (.istore_n 1, 1) := by decide +kernel
theorem dX12_driftAll_2 : decode cX12_driftAll 2 = .ok (.iload_n 1, 1) := by decide +kernel
theorem dX12_driftAll_3 : decode cX12_driftAll 3 = .ok (.aload_n 0, 1) := by decide +kernel
theorem dX12_driftAll_4 : decode cX12_driftAll 4 = .ok (.getfield 68, 3) := by decide +kernel
theorem dX12_driftAll_7 : decode cX12_driftAll 7 = .ok (.if_icmp .ge 51, 3) := by decide +kernel
theorem dX12_driftAll_10 : decode cX12_driftAll 10 = .ok (.aload_n 0, 1) := by decide +kernel
theorem dX12_driftAll_11 : decode cX12_driftAll 11 = .ok (.aload_n 0, 1) := by decide +kernel
theorem dX12_driftAll_12 : decode cX12_driftAll 12 = .ok (.getfield 23, 3) := by decide +kernel
theorem dX12_driftAll_15 : decode cX12_driftAll 15 = .ok (.iload_n 1, 1) := by decide +kernel
theorem dX12_driftAll_16 : decode cX12_driftAll 16 = .ok (.iaload, 1) := by decide +kernel
theorem dX12_driftAll_17 : decode cX12_driftAll 17 = .ok (.aload_n 0, 1) := by decide +kernel
theorem dX12_driftAll_18 : decode cX12_driftAll 18 = .ok (.getfield 26, 3) := by decide +kernel
theorem dX12_driftAll_21 : decode cX12_driftAll 21 = .ok (.iload_n 1, 1) := by decide +kernel
theorem dX12_driftAll_22 : decode cX12_driftAll 22 = .ok (.iaload, 1) := by decide +kernel
theorem dX12_driftAll_23 : decode cX12_driftAll 23 = .ok (.invokevirtual 92, 3) := by decide +kernel
theorem dX12_driftAll_26 : decode cX12_driftAll 26 = .ok (.aload_n 0, 1) := by decide +kernel
theorem dX12_driftAll_27 : decode cX12_driftAll 27 = .ok (.getfield 35, 3) := by decide +kernel
theorem dX12_driftAll_30 : decode cX12_driftAll 30 = .ok (.iload_n 1, 1) := by decide +kernel
theorem dX12_driftAll_31 : decode cX12_driftAll 31 = .ok (.dup2, 1) := by decide +kernel
theorem dX12_driftAll_32 : decode cX12_driftAll 32 = .ok (.iaload, 1) := by decide +kernel
theorem dX12_driftAll_33 : decode cX12_driftAll 33 = .ok (.aload_n 0, 1) := by decide +kernel
theorem dX12_driftAll_34 : decode cX12_driftAll 34 = .ok (.getfield 82, 3) := by decide +kernel
theorem dX12_driftAll_37 : decode cX12_driftAll 37 = .ok (.iadd, 1) := by decide +kernel
theorem dX12_driftAll_38 : decode cX12_driftAll 38 = .ok (.iastore, 1) := by decide +kernel
theorem dX12_driftAll_39 : decode cX12_driftAll 39 = .ok (.aload_n 0, 1) := by decide +kernel
theorem dX12_driftAll_40 : decode cX12_driftAll 40 = .ok (.getfield 38, 3) := by decide +kernel
theorem dX12_driftAll_43 : decode cX12_driftAll 43 = .ok (.iload_n 1, 1) := by decide +kernel
theorem dX12_driftAll_44 : decode cX12_driftAll 44 = .ok (.dup2, 1) := by decide +kernel
theorem dX12_driftAll_45 : decode cX12_driftAll 45 = .ok (.iaload, 1) := by decide +kernel
theorem dX12_driftAll_46 : decode cX12_driftAll 46 = .ok (.aload_n 0, 1) := by decide +kernel
theorem dX12_driftAll_47 : decode cX12_driftAll 47 = .ok (.getfield 85, 3) := by decide +kernel
theorem dX12_driftAll_50 : decode cX12_driftAll 50 = .ok (.iadd, 1) := by decide +kernel
theorem dX12_driftAll_51 : decode cX12_driftAll 51 = .ok (.iastore, 1) := by decide +kernel
theorem dX12_driftAll_52 : decode cX12_driftAll 52 = .ok (.iinc 1 1, 3) := by decide +kernel
theorem dX12_driftAll_55 : decode cX12_driftAll 55 = .ok (.goto (-53), 3) := by decide +kernel
theorem dX12_driftAll_58 : decode cX12_driftAll 58 = .ok (.return_, 1) := by decide +kernel
theorem dX12_eat_0 : decode cX12_eat 0 = .ok (.iconst 0, 1) := by decide +kernel
theorem dX12_eat_1 : decode cX12_eat 1 = .ok (.istore_n 1, 1) := by decide +kernel
theorem dX12_eat_2 : decode cX12_eat 2 = .ok (.iconst 0, 1) := by decide +kernel
theorem dX12_eat_3 : decode cX12_eat 3 = .ok (.istore_n 2, 1) := by decide +kernel
theorem dX12_eat_4 : decode cX12_eat 4 = .ok (.iload_n 2, 1) := by decide +kernel
theorem dX12_eat_5 : decode cX12_eat 5 = .ok (.aload_n 0, 1) := by decide +kernel
theorem dX12_eat_6 : decode cX12_eat 6 = .ok (.getfield 68, 3) := by decide +kernel
theorem dX12_eat_9 : decode cX12_eat 9 = .ok (.if_icmp .ge 63, 3) := by decide +kernel
theorem dX12_eat_12 : decode cX12_eat 12 = .ok (.aload_n 0, 1) := by decide +kernel
theorem dX12_eat_13 : decode cX12_eat 13 = .ok (.getfield 29, 3) := by decide +kernel
theorem dX12_eat_16 : decode cX12_eat 16 = .ok (.iload_n 2, 1) := by decide +kernel
theorem dX12_eat_17 : decode cX12_eat 17 = .ok (.iaload, 1) := by decide +kernel
theorem dX12_eat_18 : decode cX12_eat 18 = .ok (.aload_n 0, 1) := by decide +kernel
theorem dX12_eat_19 : decode cX12_eat 19 = .ok (.getfield 32, 3) := by decide +kernel
theorem dX12_eat_22 : decode cX12_eat 22 = .ok (.iload_n 2, 1) := by decide +kernel
theorem dX12_eat_23 : decode cX12_eat 23 = .ok (.iaload, 1) := by decide +kernel
theorem dX12_eat_24 : decode cX12_eat 24 = .ok (.if_icmp .le 19, 3) := by decide +kernel
theorem dX12_eat_27 : decode cX12_eat 27 = .ok (.aload_n 0, 1) := by decide +kernel
theorem dX12_eat_28 : decode cX12_eat 28 = .ok (.getfield 29, 3) := by decide +kernel
theorem dX12_eat_31 : decode cX12_eat 31 = .ok (.iload_n 2, 1) := by decide +kernel
theorem dX12_eat_32 : decode cX12_eat 32 = .ok (.iaload, 1) := by decide +kernel
theorem dX12_eat_33 : decode cX12_eat 33 = .ok (.aload_n 0, 1) := by decide +kernel
theorem dX12_eat_34 : decode cX12_eat 34 = .ok (.getfield 32, 3) := by decide +kernel
theorem dX12_eat_37 : decode cX12_eat 37 = .ok (.iload_n 2, 1) := by decide +kernel
theorem dX12_eat_38 : decode cX12_eat 38 = .ok (.iaload, 1) := by decide +kernel
theorem dX12_eat_39 : decode cX12_eat 39 = .ok (.isub, 1) := by decide +kernel
theorem dX12_eat_40 : decode cX12_eat 40 = .ok (.goto 4, 3) := by decide +kernel
theorem dX12_eat_43 : decode cX12_eat 43 = .ok (.iconst 0, 1) := by decide +kernel
theorem dX12_eat_44 : decode cX12_eat 44 = .ok (.istore_n 3, 1) := by decide +kernel
theorem dX12_eat_45 : decode cX12_eat 45 = .ok (.aload_n 0, 1) := by decide +kernel
theorem dX12_eat_46 : decode cX12_eat 46 = .ok (.getfield 32, 3) := by decide +kernel
theorem dX12_eat_49 : decode cX12_eat 49 = .ok (.iload_n 2, 1) := by decide +kernel
theorem dX12_eat_50 : decode cX12_eat 50 = .ok (.dup2, 1) := by decide +kernel
theorem dX12_eat_51 : decode cX12_eat 51 = .ok (.iaload, 1) := by decide +kernel
theorem dX12_eat_52 : decode cX12_eat 52 = .ok (.aload_n 0, 1) := by decide +kernel
theorem dX12_eat_53 : decode cX12_eat 53 = .ok (.getfield 29, 3) := by decide +kernel
theorem dX12_eat_56 : decode cX12_eat 56 = .ok (.iload_n 2, 1) := by decide +kernel
theorem dX12_eat_57 : decode cX12_eat 57 = .ok (.iaload, 1) := by decide +kernel
theorem dX12_eat_58 : decode cX12_eat 58 = .ok (.iload_n 3, 1) := by decide +kernel
theorem dX12_eat_59 : decode cX12_eat 59 = .ok (.isub, 1) := by decide +kernel
theorem dX12_eat_60 : decode cX12_eat 60 = .ok (.isub, 1) := by decide +kernel
theorem dX12_eat_61 : decode cX12_eat 61 = .ok (.iastore, 1) := by decide +kernel
theorem dX12_eat_62 : decode cX12_eat 62 = .ok (.iload_n 1, 1) := by decide +kernel
theorem dX12_eat_63 : decode cX12_eat 63 = .ok (.iload_n 3, 1) := by decide +kernel
theorem dX12_eat_64 : decode cX12_eat 64 = .ok (.iadd, 1) := by decide +kernel
theorem dX12_eat_65 : decode cX12_eat 65 = .ok (.istore_n 1, 1) := by decide +kernel
theorem dX12_eat_66 : decode cX12_eat 66 = .ok (.iinc 2 1, 3) := by decide +kernel
theorem dX12_eat_69 : decode cX12_eat 69 = .ok (.goto (-65), 3) := by decide +kernel
theorem dX12_eat_72 : decode cX12_eat 72 = .ok (.iload_n 1, 1) := by decide +kernel
theorem dX12_eat_73 : decode cX12_eat 73 = .ok (.ireturn, 1) := by decide +kernel
theorem dX12_daysOn_0 : decode cX12_daysOn 0 = .ok (.iconst 0, 1) := by decide +kernel
theorem dX12_daysOn_1 : decode cX12_daysOn 1 = .ok (.istore_n 2, 1) := by decide +kernel
theorem dX12_daysOn_2 : decode cX12_daysOn 2 = .ok (.iconst 0, 1) := by decide +kernel
theorem dX12_daysOn_3 : decode cX12_daysOn 3 = .ok (.istore_n 3, 1) := by decide +kernel
theorem dX12_daysOn_4 : decode cX12_daysOn 4 = .ok (.iload_n 3, 1) := by decide +kernel
theorem dX12_daysOn_5 : decode cX12_daysOn 5 = .ok (.iload_n 1, 1) := by decide +kernel
theorem dX12_daysOn_6 : decode cX12_daysOn 6 = .ok (.if_icmp .ge 30, 3) := by decide +kernel
theorem dX12_daysOn_9 : decode cX12_daysOn 9 = .ok (.aload_n 0, 1) := by decide +kernel
theorem dX12_daysOn_10 : decode cX12_daysOn 10 = .ok (.invokevirtual 96, 3) := by decide +kernel
theorem dX12_daysOn_13 : decode cX12_daysOn 13 = .ok (.iload_n 2, 1) := by decide +kernel
theorem dX12_daysOn_14 : decode cX12_daysOn 14 = .ok (.aload_n 0, 1) := by decide +kernel
theorem dX12_daysOn_15 : decode cX12_daysOn 15 = .ok (.invokevirtual 99, 3) := by decide +kernel
theorem dX12_daysOn_18 : decode cX12_daysOn 18 = .ok (.iadd, 1) := by decide +kernel
theorem dX12_daysOn_19 : decode cX12_daysOn 19 = .ok (.istore_n 2, 1) := by decide +kernel
theorem dX12_daysOn_20 : decode cX12_daysOn 20 = .ok (.aload_n 0, 1) := by decide +kernel
theorem dX12_daysOn_21 : decode cX12_daysOn 21 = .ok (.dup, 1) := by decide +kernel
theorem dX12_daysOn_22 : decode cX12_daysOn 22 = .ok (.getfield 79, 3) := by decide +kernel
theorem dX12_daysOn_25 : decode cX12_daysOn 25 = .ok (.iconst 1, 1) := by decide +kernel
theorem dX12_daysOn_26 : decode cX12_daysOn 26 = .ok (.iadd, 1) := by decide +kernel
theorem dX12_daysOn_27 : decode cX12_daysOn 27 = .ok (.putfield 79, 3) := by decide +kernel
theorem dX12_daysOn_30 : decode cX12_daysOn 30 = .ok (.iinc 3 1, 3) := by decide +kernel
theorem dX12_daysOn_33 : decode cX12_daysOn 33 = .ok (.goto (-29), 3) := by decide +kernel
theorem dX12_daysOn_36 : decode cX12_daysOn 36 = .ok (.iload_n 2, 1) := by decide +kernel
theorem dX12_daysOn_37 : decode cX12_daysOn 37 = .ok (.ireturn, 1) := by decide +kernel
theorem dX12_apart_0 : decode cX12_apart 0 = .ok (.iload_n 0, 1) := by decide +kernel
theorem dX12_apart_1 : decode cX12_apart 1 = .ok (.iload_n 1, 1) := by decide +kernel
theorem dX12_apart_2 : decode cX12_apart 2 = .ok (.if_icmp .ge 9, 3) := by decide +kernel
theorem dX12_apart_5 : decode cX12_apart 5 = .ok (.iload_n 1, 1) := by decide +kernel
theorem dX12_apart_6 : decode cX12_apart 6 = .ok (.iload_n 0, 1) := by decide +kernel
theorem dX12_apart_7 : decode cX12_apart 7 = .ok (.isub, 1) := by decide +kernel
theorem dX12_apart_8 : decode cX12_apart 8 = .ok (.goto 6, 3) := by decide +kernel
theorem dX12_apart_11 : decode cX12_apart 11 = .ok (.iload_n 0, 1) := by decide +kernel
theorem dX12_apart_12 : decode cX12_apart 12 = .ok (.iload_n 1, 1) := by decide +kernel
theorem dX12_apart_13 : decode cX12_apart 13 = .ok (.isub, 1) := by decide +kernel
theorem dX12_apart_14 : decode cX12_apart 14 = .ok (.ireturn, 1) := by decide +kernel
theorem dX12_farBetween_0 : decode cX12_farBetween 0 = .ok (.aload_n 0, 1) := by decide +kernel
theorem dX12_farBetween_1 : decode cX12_farBetween 1 = .ok (.getfield 35, 3) := by decide +kernel
theorem dX12_farBetween_4 : decode cX12_farBetween 4 = .ok (.iload_n 1, 1) := by decide +kernel
theorem dX12_farBetween_5 : decode cX12_farBetween 5 = .ok (.iaload, 1) := by decide +kernel
theorem dX12_farBetween_6 : decode cX12_farBetween 6 = .ok (.aload_n 0, 1) := by decide +kernel
theorem dX12_farBetween_7 : decode cX12_farBetween 7 = .ok (.getfield 35, 3) := by decide +kernel
theorem dX12_farBetween_10 : decode cX12_farBetween 10 = .ok (.iload_n 2, 1) := by decide +kernel
theorem dX12_farBetween_11 : decode cX12_farBetween 11 = .ok (.iaload, 1) := by decide +kernel
theorem dX12_farBetween_12 : decode cX12_farBetween 12 = .ok (.invokestatic 103, 3) := by decide +kernel
theorem dX12_farBetween_15 : decode cX12_farBetween 15 = .ok (.istore_n 3, 1) := by decide +kernel
theorem dX12_farBetween_16 : decode cX12_farBetween 16 = .ok (.aload_n 0, 1) := by decide +kernel
theorem dX12_farBetween_17 : decode cX12_farBetween 17 = .ok (.getfield 38, 3) := by decide +kernel
theorem dX12_farBetween_20 : decode cX12_farBetween 20 = .ok (.iload_n 1, 1) := by decide +kernel
theorem dX12_farBetween_21 : decode cX12_farBetween 21 = .ok (.iaload, 1) := by decide +kernel
theorem dX12_farBetween_22 : decode cX12_farBetween 22 = .ok (.aload_n 0, 1) := by decide +kernel
theorem dX12_farBetween_23 : decode cX12_farBetween 23 = .ok (.getfield 38, 3) := by decide +kernel
theorem dX12_farBetween_26 : decode cX12_farBetween 26 = .ok (.iload_n 2, 1) := by decide +kernel
theorem dX12_farBetween_27 : decode cX12_farBetween 27 = .ok (.iaload, 1) := by decide +kernel
theorem dX12_farBetween_28 : decode cX12_farBetween 28 = .ok (.invokestatic 103, 3) := by decide +kernel
theorem dX12_farBetween_31 : decode cX12_farBetween 31 = .ok (.istore 4, 2) := by decide +kernel
theorem dX12_farBetween_33 : decode cX12_farBetween 33 = .ok (.iload_n 3, 1) := by decide +kernel
theorem dX12_farBetween_34 : decode cX12_farBetween 34 = .ok (.iload 4, 2) := by decide +kernel
theorem dX12_farBetween_36 : decode cX12_farBetween 36 = .ok (.if_icmp .le 7, 3) := by decide +kernel
theorem dX12_farBetween_39 : decode cX12_farBetween 39 = .ok (.iload_n 3, 1) := by decide +kernel
theorem dX12_farBetween_40 : decode cX12_farBetween 40 = .ok (.goto 5, 3) := by decide +kernel
theorem dX12_farBetween_43 : decode cX12_farBetween 43 = .ok (.iload 4, 2) := by decide +kernel
theorem dX12_farBetween_45 : decode cX12_farBetween 45 = .ok (.ireturn, 1) := by decide +kernel
theorem dX12_isOpen_0 : decode cX12_isOpen 0 = .ok (.iload_n 1, 1) := by decide +kernel
theorem dX12_isOpen_1 : decode cX12_isOpen 1 = .ok (.iload_n 2, 1) := by decide +kernel
theorem dX12_isOpen_2 : decode cX12_isOpen 2 = .ok (.if_icmp .eq 20, 3) := by decide +kernel
theorem dX12_isOpen_5 : decode cX12_isOpen 5 = .ok (.aload_n 0, 1) := by decide +kernel
theorem dX12_isOpen_6 : decode cX12_isOpen 6 = .ok (.iload_n 1, 1) := by decide +kernel
theorem dX12_isOpen_7 : decode cX12_isOpen 7 = .ok (.iload_n 2, 1) := by decide +kernel
theorem dX12_isOpen_8 : decode cX12_isOpen 8 = .ok (.invokevirtual 107, 3) := by decide +kernel
theorem dX12_isOpen_11 : decode cX12_isOpen 11 = .ok (.aload_n 0, 1) := by decide +kernel
theorem dX12_isOpen_12 : decode cX12_isOpen 12 = .ok (.getfield 7, 3) := by decide +kernel
theorem dX12_isOpen_15 : decode cX12_isOpen 15 = .ok (.if_icmp .gt 7, 3) := by decide +kernel
theorem dX12_isOpen_18 : decode cX12_isOpen 18 = .ok (.iconst 1, 1) := by decide +kernel
theorem dX12_isOpen_19 : decode cX12_isOpen 19 = .ok (.goto 4, 3) := by decide +kernel
theorem dX12_isOpen_22 : decode cX12_isOpen 22 = .ok (.iconst 0, 1) := by decide +kernel
theorem dX12_isOpen_23 : decode cX12_isOpen 23 = .ok (.ireturn, 1) := by decide +kernel
theorem dX12_carry_0 : decode cX12_carry 0 = .ok (.aload_n 0, 1) := by decide +kernel
theorem dX12_carry_1 : decode cX12_carry 1 = .ok (.getfield 110, 3) := by decide +kernel
theorem dX12_carry_4 : decode cX12_carry 4 = .ok (.ifCond .eq 13, 3) := by decide +kernel
theorem dX12_carry_7 : decode cX12_carry 7 = .ok (.aload_n 0, 1) := by decide +kernel
theorem dX12_carry_8 : decode cX12_carry 8 = .ok (.getfield 114, 3) := by decide +kernel
theorem dX12_carry_11 : decode cX12_carry 11 = .ok (.aload_n 0, 1) := by decide +kernel
theorem dX12_carry_12 : decode cX12_carry 12 = .ok (.getfield 117, 3) := by decide +kernel
theorem dX12_carry_15 : decode cX12_carry 15 = .ok (.iload_n 1, 1) := by decide +kernel
theorem dX12_carry_16 : decode cX12_carry 16 = .ok (.iastore, 1) := by decide +kernel
theorem dX12_carry_17 : decode cX12_carry 17 = .ok (.aload_n 0, 1) := by decide +kernel
theorem dX12_carry_18 : decode cX12_carry 18 = .ok (.dup, 1) := by decide +kernel
theorem dX12_carry_19 : decode cX12_carry 19 = .ok (.getfield 117, 3) := by decide +kernel
theorem dX12_carry_22 : decode cX12_carry 22 = .ok (.iconst 1, 1) := by decide +kernel
theorem dX12_carry_23 : decode cX12_carry 23 = .ok (.iadd, 1) := by decide +kernel
theorem dX12_carry_24 : decode cX12_carry 24 = .ok (.putfield 117, 3) := by decide +kernel
theorem dX12_carry_27 : decode cX12_carry 27 = .ok (.aload_n 0, 1) := by decide +kernel
theorem dX12_carry_28 : decode cX12_carry 28 = .ok (.getfield 114, 3) := by decide +kernel
theorem dX12_carry_31 : decode cX12_carry 31 = .ok (.aload_n 0, 1) := by decide +kernel
theorem dX12_carry_32 : decode cX12_carry 32 = .ok (.getfield 117, 3) := by decide +kernel
theorem dX12_carry_35 : decode cX12_carry 35 = .ok (.iconst 1, 1) := by decide +kernel
theorem dX12_carry_36 : decode cX12_carry 36 = .ok (.isub, 1) := by decide +kernel
theorem dX12_carry_37 : decode cX12_carry 37 = .ok (.iaload, 1) := by decide +kernel
theorem dX12_carry_38 : decode cX12_carry 38 = .ok (.ireturn, 1) := by decide +kernel
theorem dX12_carryAll_0 : decode cX12_carryAll 0 = .ok (.aload_n 0, 1) := by decide +kernel
theorem dX12_carryAll_1 : decode cX12_carryAll 1 = .ok (.aload_n 1, 1) := by decide +kernel
theorem dX12_carryAll_2 : decode cX12_carryAll 2 = .ok (.putfield 114, 3) := by decide +kernel
theorem dX12_carryAll_5 : decode cX12_carryAll 5 = .ok (.aload_n 0, 1) := by decide +kernel
theorem dX12_carryAll_6 : decode cX12_carryAll 6 = .ok (.iload_n 2, 1) := by decide +kernel
theorem dX12_carryAll_7 : decode cX12_carryAll 7 = .ok (.putfield 110, 3) := by decide +kernel
theorem dX12_carryAll_10 : decode cX12_carryAll 10 = .ok (.aload_n 0, 1) := by decide +kernel
theorem dX12_carryAll_11 : decode cX12_carryAll 11 = .ok (.iconst 0, 1) := by decide +kernel
theorem dX12_carryAll_12 : decode cX12_carryAll 12 = .ok (.putfield 117, 3) := by decide +kernel
theorem dX12_carryAll_15 : decode cX12_carryAll 15 = .ok (.aload_n 0, 1) := by decide +kernel
theorem dX12_carryAll_16 : decode cX12_carryAll 16 = .ok (.aload_n 0, 1) := by decide +kernel
theorem dX12_carryAll_17 : decode cX12_carryAll 17 = .ok (.aload_n 0, 1) := by decide +kernel
theorem dX12_carryAll_18 : decode cX12_carryAll 18 = .ok (.getfield 68, 3) := by decide +kernel
theorem dX12_carryAll_21 : decode cX12_carryAll 21 = .ok (.invokevirtual 120, 3) := by decide +kernel
theorem dX12_carryAll_24 : decode cX12_carryAll 24 = .ok (.putfield 68, 3) := by decide +kernel
theorem dX12_carryAll_27 : decode cX12_carryAll 27 = .ok (.aload_n 0, 1) := by decide +kernel
theorem dX12_carryAll_28 : decode cX12_carryAll 28 = .ok (.aload_n 0, 1) := by decide +kernel
theorem dX12_carryAll_29 : decode cX12_carryAll 29 = .ok (.aload_n 0, 1) := by decide +kernel
theorem dX12_carryAll_30 : decode cX12_carryAll 30 = .ok (.getfield 7, 3) := by decide +kernel
theorem dX12_carryAll_33 : decode cX12_carryAll 33 = .ok (.invokevirtual 120, 3) := by decide +kernel
theorem dX12_carryAll_36 : decode cX12_carryAll 36 = .ok (.putfield 7, 3) := by decide +kernel
theorem dX12_carryAll_39 : decode cX12_carryAll 39 = .ok (.aload_n 0, 1) := by decide +kernel
theorem dX12_carryAll_40 : decode cX12_carryAll 40 = .ok (.aload_n 0, 1) := by decide +kernel
theorem dX12_carryAll_41 : decode cX12_carryAll 41 = .ok (.aload_n 0, 1) := by decide +kernel
theorem dX12_carryAll_42 : decode cX12_carryAll 42 = .ok (.getfield 13, 3) := by decide +kernel
theorem dX12_carryAll_45 : decode cX12_carryAll 45 = .ok (.invokevirtual 120, 3) := by decide +kernel
theorem dX12_carryAll_48 : decode cX12_carryAll 48 = .ok (.putfield 13, 3) := by decide +kernel
theorem dX12_carryAll_51 : decode cX12_carryAll 51 = .ok (.aload_n 0, 1) := by decide +kernel
theorem dX12_carryAll_52 : decode cX12_carryAll 52 = .ok (.aload_n 0, 1) := by decide +kernel
theorem dX12_carryAll_53 : decode cX12_carryAll 53 = .ok (.aload_n 0, 1) := by decide +kernel
theorem dX12_carryAll_54 : decode cX12_carryAll 54 = .ok (.getfield 79, 3) := by decide +kernel
theorem dX12_carryAll_57 : decode cX12_carryAll 57 = .ok (.invokevirtual 120, 3) := by decide +kernel
theorem dX12_carryAll_60 : decode cX12_carryAll 60 = .ok (.putfield 79, 3) := by decide +kernel
theorem dX12_carryAll_63 : decode cX12_carryAll 63 = .ok (.aload_n 0, 1) := by decide +kernel
theorem dX12_carryAll_64 : decode cX12_carryAll 64 = .ok (.aload_n 0, 1) := by decide +kernel
theorem dX12_carryAll_65 : decode cX12_carryAll 65 = .ok (.aload_n 0, 1) := by decide +kernel
theorem dX12_carryAll_66 : decode cX12_carryAll 66 = .ok (.getfield 124, 3) := by decide +kernel
theorem dX12_carryAll_69 : decode cX12_carryAll 69 = .ok (.invokevirtual 120, 3) := by decide +kernel
theorem dX12_carryAll_72 : decode cX12_carryAll 72 = .ok (.putfield 124, 3) := by decide +kernel
theorem dX12_carryAll_75 : decode cX12_carryAll 75 = .ok (.iconst 0, 1) := by decide +kernel
theorem dX12_carryAll_76 : decode cX12_carryAll 76 = .ok (.istore_n 3, 1) := by decide +kernel
theorem dX12_carryAll_77 : decode cX12_carryAll 77 = .ok (.iload_n 3, 1) := by decide +kernel
theorem dX12_carryAll_78 : decode cX12_carryAll 78 = .ok (.bipush 7, 2) := by decide +kernel
theorem dX12_carryAll_80 : decode cX12_carryAll 80 = .ok (.if_icmp .ge 41, 3) := by decide +kernel
theorem dX12_carryAll_83 : decode cX12_carryAll 83 = .ok (.aload_n 0, 1) := by decide +kernel
theorem dX12_carryAll_84 : decode cX12_carryAll 84 = .ok (.getfield 16, 3) := by decide +kernel
theorem dX12_carryAll_87 : decode cX12_carryAll 87 = .ok (.iload_n 3, 1) := by decide +kernel
theorem dX12_carryAll_88 : decode cX12_carryAll 88 = .ok (.aload_n 0, 1) := by decide +kernel
theorem dX12_carryAll_89 : decode cX12_carryAll 89 = .ok (.aload_n 0, 1) := by decide +kernel
theorem dX12_carryAll_90 : decode cX12_carryAll 90 = .ok (.getfield 16, 3) := by decide +kernel
theorem dX12_carryAll_93 : decode cX12_carryAll 93 = .ok (.iload_n 3, 1) := by decide +kernel
theorem dX12_carryAll_94 : decode cX12_carryAll 94 = .ok (.iaload, 1) := by decide +kernel
theorem dX12_carryAll_95 : decode cX12_carryAll 95 = .ok (.invokevirtual 120, 3) := by decide +kernel
theorem dX12_carryAll_98 : decode cX12_carryAll 98 = .ok (.iastore, 1) := by decide +kernel
theorem dX12_carryAll_99 : decode cX12_carryAll 99 = .ok (.aload_n 0, 1) := by decide +kernel
theorem dX12_carryAll_100 : decode cX12_carryAll 100 = .ok (.getfield 20, 3) := by decide +kernel
theorem dX12_carryAll_103 : decode cX12_carryAll 103 = .ok (.iload_n 3, 1) := by decide +kernel
theorem dX12_carryAll_104 : decode cX12_carryAll 104 = .ok (.aload_n 0, 1) := by decide +kernel
theorem dX12_carryAll_105 : decode cX12_carryAll 105 = .ok (.aload_n 0, 1) := by decide +kernel
theorem dX12_carryAll_106 : decode cX12_carryAll 106 = .ok (.getfield 20, 3) := by decide +kernel
theorem dX12_carryAll_109 : decode cX12_carryAll 109 = .ok (.iload_n 3, 1) := by decide +kernel
theorem dX12_carryAll_110 : decode cX12_carryAll 110 = .ok (.iaload, 1) := by decide +kernel
theorem dX12_carryAll_111 : decode cX12_carryAll 111 = .ok (.invokevirtual 120, 3) := by decide +kernel
theorem dX12_carryAll_114 : decode cX12_carryAll 114 = .ok (.iastore, 1) := by decide +kernel
theorem dX12_carryAll_115 : decode cX12_carryAll 115 = .ok (.iinc 3 1, 3) := by decide +kernel
theorem dX12_carryAll_118 : decode cX12_carryAll 118 = .ok (.goto (-41), 3) := by decide +kernel
theorem dX12_carryAll_121 : decode cX12_carryAll 121 = .ok (.iconst 0, 1) := by decide +kernel
theorem dX12_carryAll_122 : decode cX12_carryAll 122 = .ok (.istore_n 3, 1) := by decide +kernel
theorem dX12_carryAll_123 : decode cX12_carryAll 123 = .ok (.iload_n 3, 1) := by decide +kernel
theorem dX12_carryAll_124 : decode cX12_carryAll 124 = .ok (.bipush 6, 2) := by decide +kernel
theorem dX12_carryAll_126 : decode cX12_carryAll 126 = .ok (.if_icmp .ge 105, 3) := by decide +kernel
theorem dX12_carryAll_129 : decode cX12_carryAll 129 = .ok (.aload_n 0, 1) := by decide +kernel
theorem dX12_carryAll_130 : decode cX12_carryAll 130 = .ok (.getfield 23, 3) := by decide +kernel
theorem dX12_carryAll_133 : decode cX12_carryAll 133 = .ok (.iload_n 3, 1) := by decide +kernel
theorem dX12_carryAll_134 : decode cX12_carryAll 134 = .ok (.aload_n 0, 1) := by decide +kernel
theorem dX12_carryAll_135 : decode cX12_carryAll 135 = .ok (.aload_n 0, 1) := by decide +kernel
theorem dX12_carryAll_136 : decode cX12_carryAll 136 = .ok (.getfield 23, 3) := by decide +kernel
theorem dX12_carryAll_139 : decode cX12_carryAll 139 = .ok (.iload_n 3, 1) := by decide +kernel
theorem dX12_carryAll_140 : decode cX12_carryAll 140 = .ok (.iaload, 1) := by decide +kernel
theorem dX12_carryAll_141 : decode cX12_carryAll 141 = .ok (.invokevirtual 120, 3) := by decide +kernel
theorem dX12_carryAll_144 : decode cX12_carryAll 144 = .ok (.iastore, 1) := by decide +kernel
theorem dX12_carryAll_145 : decode cX12_carryAll 145 = .ok (.aload_n 0, 1) := by decide +kernel
theorem dX12_carryAll_146 : decode cX12_carryAll 146 = .ok (.getfield 26, 3) := by decide +kernel
theorem dX12_carryAll_149 : decode cX12_carryAll 149 = .ok (.iload_n 3, 1) := by decide +kernel
theorem dX12_carryAll_150 : decode cX12_carryAll 150 = .ok (.aload_n 0, 1) := by decide +kernel
theorem dX12_carryAll_151 : decode cX12_carryAll 151 = .ok (.aload_n 0, 1) := by decide +kernel
theorem dX12_carryAll_152 : decode cX12_carryAll 152 = .ok (.getfield 26, 3) := by decide +kernel
theorem dX12_carryAll_155 : decode cX12_carryAll 155 = .ok (.iload_n 3, 1) := by decide +kernel
theorem dX12_carryAll_156 : decode cX12_carryAll 156 = .ok (.iaload, 1) := by decide +kernel
theorem dX12_carryAll_157 : decode cX12_carryAll 157 = .ok (.invokevirtual 120, 3) := by decide +kernel
theorem dX12_carryAll_160 : decode cX12_carryAll 160 = .ok (.iastore, 1) := by decide +kernel
theorem dX12_carryAll_161 : decode cX12_carryAll 161 = .ok (.aload_n 0, 1) := by decide +kernel
theorem dX12_carryAll_162 : decode cX12_carryAll 162 = .ok (.getfield 29, 3) := by decide +kernel
theorem dX12_carryAll_165 : decode cX12_carryAll 165 = .ok (.iload_n 3, 1) := by decide +kernel
theorem dX12_carryAll_166 : decode cX12_carryAll 166 = .ok (.aload_n 0, 1) := by decide +kernel
theorem dX12_carryAll_167 : decode cX12_carryAll 167 = .ok (.aload_n 0, 1) := by decide +kernel
theorem dX12_carryAll_168 : decode cX12_carryAll 168 = .ok (.getfield 29, 3) := by decide +kernel
theorem dX12_carryAll_171 : decode cX12_carryAll 171 = .ok (.iload_n 3, 1) := by decide +kernel
theorem dX12_carryAll_172 : decode cX12_carryAll 172 = .ok (.iaload, 1) := by decide +kernel
theorem dX12_carryAll_173 : decode cX12_carryAll 173 = .ok (.invokevirtual 120, 3) := by decide +kernel
theorem dX12_carryAll_176 : decode cX12_carryAll 176 = .ok (.iastore, 1) := by decide +kernel
theorem dX12_carryAll_177 : decode cX12_carryAll 177 = .ok (.aload_n 0, 1) := by decide +kernel
theorem dX12_carryAll_178 : decode cX12_carryAll 178 = .ok (.getfield 32, 3) := by decide +kernel
theorem dX12_carryAll_181 : decode cX12_carryAll 181 = .ok (.iload_n 3, 1) := by decide +kernel
theorem dX12_carryAll_182 : decode cX12_carryAll 182 = .ok (.aload_n 0, 1) := by decide +kernel
theorem dX12_carryAll_183 : decode cX12_carryAll 183 = .ok (.aload_n 0, 1) := by decide +kernel
theorem dX12_carryAll_184 : decode cX12_carryAll 184 = .ok (.getfield 32, 3) := by decide +kernel
theorem dX12_carryAll_187 : decode cX12_carryAll 187 = .ok (.iload_n 3, 1) := by decide +kernel
theorem dX12_carryAll_188 : decode cX12_carryAll 188 = .ok (.iaload, 1) := by decide +kernel
theorem dX12_carryAll_189 : decode cX12_carryAll 189 = .ok (.invokevirtual 120, 3) := by decide +kernel
theorem dX12_carryAll_192 : decode cX12_carryAll 192 = .ok (.iastore, 1) := by decide +kernel
theorem dX12_carryAll_193 : decode cX12_carryAll 193 = .ok (.aload_n 0, 1) := by decide +kernel
theorem dX12_carryAll_194 : decode cX12_carryAll 194 = .ok (.getfield 35, 3) := by decide +kernel
theorem dX12_carryAll_197 : decode cX12_carryAll 197 = .ok (.iload_n 3, 1) := by decide +kernel
theorem dX12_carryAll_198 : decode cX12_carryAll 198 = .ok (.aload_n 0, 1) := by decide +kernel
theorem dX12_carryAll_199 : decode cX12_carryAll 199 = .ok (.aload_n 0, 1) := by decide +kernel
theorem dX12_carryAll_200 : decode cX12_carryAll 200 = .ok (.getfield 35, 3) := by decide +kernel
theorem dX12_carryAll_203 : decode cX12_carryAll 203 = .ok (.iload_n 3, 1) := by decide +kernel
theorem dX12_carryAll_204 : decode cX12_carryAll 204 = .ok (.iaload, 1) := by decide +kernel
theorem dX12_carryAll_205 : decode cX12_carryAll 205 = .ok (.invokevirtual 120, 3) := by decide +kernel
theorem dX12_carryAll_208 : decode cX12_carryAll 208 = .ok (.iastore, 1) := by decide +kernel
theorem dX12_carryAll_209 : decode cX12_carryAll 209 = .ok (.aload_n 0, 1) := by decide +kernel
theorem dX12_carryAll_210 : decode cX12_carryAll 210 = .ok (.getfield 38, 3) := by decide +kernel
theorem dX12_carryAll_213 : decode cX12_carryAll 213 = .ok (.iload_n 3, 1) := by decide +kernel
theorem dX12_carryAll_214 : decode cX12_carryAll 214 = .ok (.aload_n 0, 1) := by decide +kernel
theorem dX12_carryAll_215 : decode cX12_carryAll 215 = .ok (.aload_n 0, 1) := by decide +kernel
theorem dX12_carryAll_216 : decode cX12_carryAll 216 = .ok (.getfield 38, 3) := by decide +kernel
theorem dX12_carryAll_219 : decode cX12_carryAll 219 = .ok (.iload_n 3, 1) := by decide +kernel
theorem dX12_carryAll_220 : decode cX12_carryAll 220 = .ok (.iaload, 1) := by decide +kernel
theorem dX12_carryAll_221 : decode cX12_carryAll 221 = .ok (.invokevirtual 120, 3) := by decide +kernel
theorem dX12_carryAll_224 : decode cX12_carryAll 224 = .ok (.iastore, 1) := by decide +kernel
theorem dX12_carryAll_225 : decode cX12_carryAll 225 = .ok (.iinc 3 1, 3) := by decide +kernel
theorem dX12_carryAll_228 : decode cX12_carryAll 228 = .ok (.goto (-105), 3) := by decide +kernel
theorem dX12_carryAll_231 : decode cX12_carryAll 231 = .ok (.return_, 1) := by decide +kernel
theorem dX12_open0_0 : decode cX12_open0 0 = .ok (.aload_n 0, 1) := by decide +kernel
theorem dX12_open0_1 : decode cX12_open0 1 = .ok (.aload_n 0, 1) := by decide +kernel
theorem dX12_open0_2 : decode cX12_open0 2 = .ok (.getfield 44, 3) := by decide +kernel
theorem dX12_open0_5 : decode cX12_open0 5 = .ok (.iconst 1, 1) := by decide +kernel
theorem dX12_open0_6 : decode cX12_open0 6 = .ok (.invokevirtual 127, 3) := by decide +kernel
theorem dX12_open0_9 : decode cX12_open0 9 = .ok (.return_, 1) := by decide +kernel
theorem dX12_close_0 : decode cX12_close 0 = .ok (.aload_n 0, 1) := by decide +kernel
theorem dX12_close_1 : decode cX12_close 1 = .ok (.aload_n 0, 1) := by decide +kernel
theorem dX12_close_2 : decode cX12_close 2 = .ok (.getfield 44, 3) := by decide +kernel
theorem dX12_close_5 : decode cX12_close 5 = .ok (.iconst 0, 1) := by decide +kernel
theorem dX12_close_6 : decode cX12_close 6 = .ok (.invokevirtual 127, 3) := by decide +kernel
theorem dX12_close_9 : decode cX12_close 9 = .ok (.return_, 1) := by decide +kernel
theorem dX12_image_0 : decode cX12_image 0 = .ok (.aload_n 0, 1) := by decide +kernel
theorem dX12_image_1 : decode cX12_image 1 = .ok (.iconst 0, 1) := by decide +kernel
theorem dX12_image_2 : decode cX12_image 2 = .ok (.putfield 65, 3) := by decide +kernel
theorem dX12_image_5 : decode cX12_image 5 = .ok (.aload_n 0, 1) := by decide +kernel
theorem dX12_image_6 : decode cX12_image 6 = .ok (.iconst 1, 1) := by decide +kernel
theorem dX12_image_7 : decode cX12_image 7 = .ok (.putfield 131, 3) := by decide +kernel
theorem dX12_image_10 : decode cX12_image 10 = .ok (.aload_n 0, 1) := by decide +kernel
theorem dX12_image_11 : decode cX12_image 11 = .ok (.aload_n 0, 1) := by decide +kernel
theorem dX12_image_12 : decode cX12_image 12 = .ok (.getfield 47, 3) := by decide +kernel
theorem dX12_image_15 : decode cX12_image 15 = .ok (.iconst 1, 1) := by decide +kernel
theorem dX12_image_16 : decode cX12_image 16 = .ok (.invokevirtual 127, 3) := by decide +kernel
theorem dX12_image_19 : decode cX12_image 19 = .ok (.aload_n 0, 1) := by decide +kernel
theorem dX12_image_20 : decode cX12_image 20 = .ok (.getfield 79, 3) := by decide +kernel
theorem dX12_image_23 : decode cX12_image 23 = .ok (.ireturn, 1) := by decide +kernel
theorem dX12_restore_0 : decode cX12_restore 0 = .ok (.aload_n 0, 1) := by decide +kernel
theorem dX12_restore_1 : decode cX12_restore 1 = .ok (.iconst 0, 1) := by decide +kernel
theorem dX12_restore_2 : decode cX12_restore 2 = .ok (.putfield 65, 3) := by decide +kernel
theorem dX12_restore_5 : decode cX12_restore 5 = .ok (.aload_n 0, 1) := by decide +kernel
theorem dX12_restore_6 : decode cX12_restore 6 = .ok (.getfield 131, 3) := by decide +kernel
theorem dX12_restore_9 : decode cX12_restore 9 = .ok (.ifCond .ne 10, 3) := by decide +kernel
theorem dX12_restore_12 : decode cX12_restore 12 = .ok (.aload_n 0, 1) := by decide +kernel
theorem dX12_restore_13 : decode cX12_restore 13 = .ok (.bipush (-3), 2) := by decide +kernel
theorem dX12_restore_15 : decode cX12_restore 15 = .ok (.invokevirtual 134, 3) := by decide +kernel
theorem dX12_restore_18 : decode cX12_restore 18 = .ok (.ireturn, 1) := by decide +kernel
theorem dX12_restore_19 : decode cX12_restore 19 = .ok (.aload_n 0, 1) := by decide +kernel
theorem dX12_restore_20 : decode cX12_restore 20 = .ok (.aload_n 0, 1) := by decide +kernel
theorem dX12_restore_21 : decode cX12_restore 21 = .ok (.getfield 47, 3) := by decide +kernel
theorem dX12_restore_24 : decode cX12_restore 24 = .ok (.iconst 0, 1) := by decide +kernel
theorem dX12_restore_25 : decode cX12_restore 25 = .ok (.invokevirtual 127, 3) := by decide +kernel
theorem dX12_restore_28 : decode cX12_restore 28 = .ok (.aload_n 0, 1) := by decide +kernel
theorem dX12_restore_29 : decode cX12_restore 29 = .ok (.getfield 79, 3) := by decide +kernel
theorem dX12_restore_32 : decode cX12_restore 32 = .ok (.ireturn, 1) := by decide +kernel
theorem dX12_feed_0 : decode cX12_feed 0 = .ok (.aload_n 0, 1) := by decide +kernel
theorem dX12_feed_1 : decode cX12_feed 1 = .ok (.iconst 0, 1) := by decide +kernel
theorem dX12_feed_2 : decode cX12_feed 2 = .ok (.putfield 65, 3) := by decide +kernel
theorem dX12_feed_5 : decode cX12_feed 5 = .ok (.iload_n 1, 1) := by decide +kernel
theorem dX12_feed_6 : decode cX12_feed 6 = .ok (.ifCond .ge 10, 3) := by decide +kernel
theorem dX12_feed_9 : decode cX12_feed 9 = .ok (.aload_n 0, 1) := by decide +kernel
theorem dX12_feed_10 : decode cX12_feed 10 = .ok (.bipush (-4), 2) := by decide +kernel
theorem dX12_feed_12 : decode cX12_feed 12 = .ok (.invokevirtual 134, 3) := by decide +kernel
theorem dX12_feed_15 : decode cX12_feed 15 = .ok (.ireturn, 1) := by decide +kernel
theorem dX12_feed_16 : decode cX12_feed 16 = .ok (.iload_n 1, 1) := by decide +kernel
theorem dX12_feed_17 : decode cX12_feed 17 = .ok (.sipush 255, 3) := by decide +kernel
theorem dX12_feed_20 : decode cX12_feed 20 = .ok (.if_icmp .gt 12, 3) := by decide +kernel
theorem dX12_feed_23 : decode cX12_feed 23 = .ok (.aload_n 0, 1) := by decide +kernel
theorem dX12_feed_24 : decode cX12_feed 24 = .ok (.getfield 137, 3) := by decide +kernel
theorem dX12_feed_27 : decode cX12_feed 27 = .ok (.bipush 80, 2) := by decide +kernel
theorem dX12_feed_29 : decode cX12_feed 29 = .ok (.if_icmp .ne 10, 3) := by decide +kernel
theorem dX12_feed_32 : decode cX12_feed 32 = .ok (.aload_n 0, 1) := by decide +kernel
theorem dX12_feed_33 : decode cX12_feed 33 = .ok (.bipush (-6), 2) := by decide +kernel
theorem dX12_feed_35 : decode cX12_feed 35 = .ok (.invokevirtual 134, 3) := by decide +kernel
theorem dX12_feed_38 : decode cX12_feed 38 = .ok (.ireturn, 1) := by decide +kernel
theorem dX12_feed_39 : decode cX12_feed 39 = .ok (.aload_n 0, 1) := by decide +kernel
theorem dX12_feed_40 : decode cX12_feed 40 = .ok (.getfield 50, 3) := by decide +kernel
theorem dX12_feed_43 : decode cX12_feed 43 = .ok (.aload_n 0, 1) := by decide +kernel
theorem dX12_feed_44 : decode cX12_feed 44 = .ok (.getfield 137, 3) := by decide +kernel
theorem dX12_feed_47 : decode cX12_feed 47 = .ok (.iload_n 1, 1) := by decide +kernel
theorem dX12_feed_48 : decode cX12_feed 48 = .ok (.iastore, 1) := by decide +kernel
theorem dX12_feed_49 : decode cX12_feed 49 = .ok (.aload_n 0, 1) := by decide +kernel
theorem dX12_feed_50 : decode cX12_feed 50 = .ok (.dup, 1) := by decide +kernel
theorem dX12_feed_51 : decode cX12_feed 51 = .ok (.getfield 137, 3) := by decide +kernel
theorem dX12_feed_54 : decode cX12_feed 54 = .ok (.iconst 1, 1) := by decide +kernel
theorem dX12_feed_55 : decode cX12_feed 55 = .ok (.iadd, 1) := by decide +kernel
theorem dX12_feed_56 : decode cX12_feed 56 = .ok (.putfield 137, 3) := by decide +kernel
theorem dX12_feed_59 : decode cX12_feed 59 = .ok (.aload_n 0, 1) := by decide +kernel
theorem dX12_feed_60 : decode cX12_feed 60 = .ok (.getfield 137, 3) := by decide +kernel
theorem dX12_feed_63 : decode cX12_feed 63 = .ok (.ireturn, 1) := by decide +kernel
theorem dX12_here_0 : decode cX12_here 0 = .ok (.aload_n 0, 1) := by decide +kernel
theorem dX12_here_1 : decode cX12_here 1 = .ok (.getfield 140, 3) := by decide +kernel
theorem dX12_here_4 : decode cX12_here 4 = .ok (.aload_n 0, 1) := by decide +kernel
theorem dX12_here_5 : decode cX12_here 5 = .ok (.getfield 137, 3) := by decide +kernel
theorem dX12_here_8 : decode cX12_here 8 = .ok (.if_icmp .ge 15, 3) := by decide +kernel
theorem dX12_here_11 : decode cX12_here 11 = .ok (.aload_n 0, 1) := by decide +kernel
theorem dX12_here_12 : decode cX12_here 12 = .ok (.getfield 50, 3) := by decide +kernel
theorem dX12_here_15 : decode cX12_here 15 = .ok (.aload_n 0, 1) := by decide +kernel
theorem dX12_here_16 : decode cX12_here 16 = .ok (.getfield 140, 3) := by decide +kernel
theorem dX12_here_19 : decode cX12_here 19 = .ok (.iaload, 1) := by decide +kernel
theorem dX12_here_20 : decode cX12_here 20 = .ok (.goto 4, 3) := by decide +kernel
theorem dX12_here_23 : decode cX12_here 23 = .ok (.iconst (-1), 1) := by decide +kernel
theorem dX12_here_24 : decode cX12_here 24 = .ok (.ireturn, 1) := by decide +kernel
theorem dX12_readDigit_0 : decode cX12_readDigit 0 = .ok (.aload_n 0, 1) := by decide +kernel
theorem dX12_readDigit_1 : decode cX12_readDigit 1 = .ok (.aload_n 0, 1) := by decide +kernel
theorem dX12_readDigit_2 : decode cX12_readDigit 2 = .ok (.getfield 143, 3) := by decide +kernel
theorem dX12_readDigit_5 : decode cX12_readDigit 5 = .ok (.ifCond .ne 20, 3) := by decide +kernel
theorem dX12_readDigit_8 : decode cX12_readDigit 8 = .ok (.aload_n 0, 1) := by decide +kernel
theorem dX12_readDigit_9 : decode cX12_readDigit 9 = .ok (.invokevirtual 146, 3) := by decide +kernel
theorem dX12_readDigit_12 : decode cX12_readDigit 12 = .ok (.i2l, 1) := by decide +kernel
theorem dX12_readDigit_13 : decode cX12_readDigit 13 = .ok (.ldc2_w 149, 3) := by decide +kernel
theorem dX12_readDigit_16 : decode cX12_readDigit 16 = .ok (.ldc2_w 151, 3) := by decide +kernel
theorem dX12_readDigit_19 : decode cX12_readDigit 19 = .ok (.invokestatic 71, 3) := by decide +kernel
theorem dX12_readDigit_22 : decode cX12_readDigit 22 = .ok (.ifCond .ne 7, 3) := by decide +kernel
theorem dX12_readDigit_25 : decode cX12_readDigit 25 = .ok (.iconst 1, 1) := by decide +kernel
theorem dX12_readDigit_26 : decode cX12_readDigit 26 = .ok (.goto 4, 3) := by decide +kernel
theorem dX12_readDigit_29 : decode cX12_readDigit 29 = .ok (.iconst 0, 1) := by decide +kernel
theorem dX12_readDigit_30 : decode cX12_readDigit 30 = .ok (.putfield 143, 3) := by decide +kernel
theorem dX12_readDigit_33 : decode cX12_readDigit 33 = .ok (.aload_n 0, 1) := by decide +kernel
theorem dX12_readDigit_34 : decode cX12_readDigit 34 = .ok (.getfield 143, 3) := by decide +kernel
theorem dX12_readDigit_37 : decode cX12_readDigit 37 = .ok (.ifCond .eq 5, 3) := by decide +kernel
theorem dX12_readDigit_40 : decode cX12_readDigit 40 = .ok (.iconst 0, 1) := by decide +kernel
theorem dX12_readDigit_41 : decode cX12_readDigit 41 = .ok (.ireturn, 1) := by decide +kernel
theorem dX12_readDigit_42 : decode cX12_readDigit 42 = .ok (.aload_n 0, 1) := by decide +kernel
theorem dX12_readDigit_43 : decode cX12_readDigit 43 = .ok (.dup, 1) := by decide +kernel
theorem dX12_readDigit_44 : decode cX12_readDigit 44 = .ok (.getfield 140, 3) := by decide +kernel
theorem dX12_readDigit_47 : decode cX12_readDigit 47 = .ok (.iconst 1, 1) := by decide +kernel
theorem dX12_readDigit_48 : decode cX12_readDigit 48 = .ok (.iadd, 1) := by decide +kernel
theorem dX12_readDigit_49 : decode cX12_readDigit 49 = .ok (.putfield 140, 3) := by decide +kernel
theorem dX12_readDigit_52 : decode cX12_readDigit 52 = .ok (.aload_n 0, 1) := by decide +kernel
theorem dX12_readDigit_53 : decode cX12_readDigit 53 = .ok (.getfield 50, 3) := by decide +kernel
theorem dX12_readDigit_56 : decode cX12_readDigit 56 = .ok (.aload_n 0, 1) := by decide +kernel
theorem dX12_readDigit_57 : decode cX12_readDigit 57 = .ok (.getfield 140, 3) := by decide +kernel
theorem dX12_readDigit_60 : decode cX12_readDigit 60 = .ok (.iconst 1, 1) := by decide +kernel
theorem dX12_readDigit_61 : decode cX12_readDigit 61 = .ok (.isub, 1) := by decide +kernel
theorem dX12_readDigit_62 : decode cX12_readDigit 62 = .ok (.iaload, 1) := by decide +kernel
theorem dX12_readDigit_63 : decode cX12_readDigit 63 = .ok (.bipush 48, 2) := by decide +kernel
theorem dX12_readDigit_65 : decode cX12_readDigit 65 = .ok (.isub, 1) := by decide +kernel
theorem dX12_readDigit_66 : decode cX12_readDigit 66 = .ok (.ireturn, 1) := by decide +kernel
theorem dX12_readNumber_0 : decode cX12_readNumber 0 = .ok (.aload_n 0, 1) := by decide +kernel
theorem dX12_readNumber_1 : decode cX12_readNumber 1 = .ok (.invokevirtual 153, 3) := by decide +kernel
theorem dX12_readNumber_4 : decode cX12_readNumber 4 = .ok (.istore_n 2, 1) := by decide +kernel
theorem dX12_readNumber_5 : decode cX12_readNumber 5 = .ok (.iconst 1, 1) := by decide +kernel
theorem dX12_readNumber_6 : decode cX12_readNumber 6 = .ok (.istore_n 3, 1) := by decide +kernel
theorem dX12_readNumber_7 : decode cX12_readNumber 7 = .ok (.iload_n 3, 1) := by decide +kernel
theorem dX12_readNumber_8 : decode cX12_readNumber 8 = .ok (.iload_n 1, 1) := by decide +kernel
theorem dX12_readNumber_9 : decode cX12_readNumber 9 = .ok (.if_icmp .ge 43, 3) := by decide +kernel
theorem dX12_readNumber_12 : decode cX12_readNumber 12 = .ok (.aload_n 0, 1) := by decide +kernel
theorem dX12_readNumber_13 : decode cX12_readNumber 13 = .ok (.getfield 143, 3) := by decide +kernel
theorem dX12_readNumber_16 : decode cX12_readNumber 16 = .ok (.ifCond .ne 36, 3) := by decide +kernel
theorem dX12_readNumber_19 : decode cX12_readNumber 19 = .ok (.aload_n 0, 1) := by decide +kernel
theorem dX12_readNumber_20 : decode cX12_readNumber 20 = .ok (.invokevirtual 146, 3) := by decide +kernel
theorem dX12_readNumber_23 : decode cX12_readNumber 23 = .ok (.i2l, 1) := by decide +kernel
theorem dX12_readNumber_24 : decode cX12_readNumber 24 = .ok (.ldc2_w 149, 3) := by decide +kernel
theorem dX12_readNumber_27 : decode cX12_readNumber 27 = .ok (.ldc2_w 151, 3) := by decide +kernel
theorem dX12_readNumber_30 : decode cX12_readNumber 30 = .ok (.invokestatic 71, 3) := by decide +kernel
theorem dX12_readNumber_33 : decode cX12_readNumber 33 = .ok (.ifCond .eq 19, 3) := by decide +kernel
theorem dX12_readNumber_36 : decode cX12_readNumber 36 = .ok (.bipush 10, 2) := by decide +kernel
theorem dX12_readNumber_38 : decode cX12_readNumber 38 = .ok (.iload_n 2, 1) := by decide +kernel
theorem dX12_readNumber_39 : decode cX12_readNumber 39 = .ok (.imul, 1) := by decide +kernel
theorem dX12_readNumber_40 : decode cX12_readNumber 40 = .ok (.aload_n 0, 1) := by decide +kernel
theorem dX12_readNumber_41 : decode cX12_readNumber 41 = .ok (.invokevirtual 153, 3) := by decide +kernel
theorem dX12_readNumber_44 : decode cX12_readNumber 44 = .ok (.iadd, 1) := by decide +kernel
theorem dX12_readNumber_45 : decode cX12_readNumber 45 = .ok (.istore_n 2, 1) := by decide +kernel
theorem dX12_readNumber_46 : decode cX12_readNumber 46 = .ok (.iinc 3 1, 3) := by decide +kernel
theorem dX12_readNumber_49 : decode cX12_readNumber 49 = .ok (.goto (-42), 3) := by decide +kernel
theorem dX12_readNumber_52 : decode cX12_readNumber 52 = .ok (.iload_n 2, 1) := by decide +kernel
theorem dX12_readNumber_53 : decode cX12_readNumber 53 = .ok (.ireturn, 1) := by decide +kernel
theorem dX12_readSigned_0 : decode cX12_readSigned 0 = .ok (.aload_n 0, 1) := by decide +kernel
theorem dX12_readSigned_1 : decode cX12_readSigned 1 = .ok (.getfield 143, 3) := by decide +kernel
theorem dX12_readSigned_4 : decode cX12_readSigned 4 = .ok (.ifCond .ne 16, 3) := by decide +kernel
theorem dX12_readSigned_7 : decode cX12_readSigned 7 = .ok (.aload_n 0, 1) := by decide +kernel
theorem dX12_readSigned_8 : decode cX12_readSigned 8 = .ok (.invokevirtual 146, 3) := by decide +kernel
theorem dX12_readSigned_11 : decode cX12_readSigned 11 = .ok (.bipush 45, 2) := by decide +kernel
theorem dX12_readSigned_13 : decode cX12_readSigned 13 = .ok (.if_icmp .ne 7, 3) := by decide +kernel
theorem dX12_readSigned_16 : decode cX12_readSigned 16 = .ok (.iconst 1, 1) := by decide +kernel
theorem dX12_readSigned_17 : decode cX12_readSigned 17 = .ok (.goto 4, 3) := by decide +kernel
theorem dX12_readSigned_20 : decode cX12_readSigned 20 = .ok (.iconst 0, 1) := by decide +kernel
theorem dX12_readSigned_21 : decode cX12_readSigned 21 = .ok (.istore_n 2, 1) := by decide +kernel
theorem dX12_readSigned_22 : decode cX12_readSigned 22 = .ok (.aload_n 0, 1) := by decide +kernel
theorem dX12_readSigned_23 : decode cX12_readSigned 23 = .ok (.dup, 1) := by decide +kernel
theorem dX12_readSigned_24 : decode cX12_readSigned 24 = .ok (.getfield 140, 3) := by decide +kernel
theorem dX12_readSigned_27 : decode cX12_readSigned 27 = .ok (.iload_n 2, 1) := by decide +kernel
theorem dX12_readSigned_28 : decode cX12_readSigned 28 = .ok (.ifCond .eq 7, 3) := by decide +kernel
theorem dX12_readSigned_31 : decode cX12_readSigned 31 = .ok (.iconst 1, 1) := by decide +kernel
theorem dX12_readSigned_32 : decode cX12_readSigned 32 = .ok (.goto 4, 3) := by decide +kernel
theorem dX12_readSigned_35 : decode cX12_readSigned 35 = .ok (.iconst 0, 1) := by decide +kernel
theorem dX12_readSigned_36 : decode cX12_readSigned 36 = .ok (.iadd, 1) := by decide +kernel
theorem dX12_readSigned_37 : decode cX12_readSigned 37 = .ok (.putfield 140, 3) := by decide +kernel
theorem dX12_readSigned_40 : decode cX12_readSigned 40 = .ok (.aload_n 0, 1) := by decide +kernel
theorem dX12_readSigned_41 : decode cX12_readSigned 41 = .ok (.iload_n 1, 1) := by decide +kernel
theorem dX12_readSigned_42 : decode cX12_readSigned 42 = .ok (.invokevirtual 156, 3) := by decide +kernel
theorem dX12_readSigned_45 : decode cX12_readSigned 45 = .ok (.istore_n 3, 1) := by decide +kernel
theorem dX12_readSigned_46 : decode cX12_readSigned 46 = .ok (.iload_n 2, 1) := by decide +kernel
theorem dX12_readSigned_47 : decode cX12_readSigned 47 = .ok (.ifCond .eq 8, 3) := by decide +kernel
theorem dX12_readSigned_50 : decode cX12_readSigned 50 = .ok (.iload_n 3, 1) := by decide +kernel
theorem dX12_readSigned_51 : decode cX12_readSigned 51 = .ok (.ineg, 1) := by decide +kernel
theorem dX12_readSigned_52 : decode cX12_readSigned 52 = .ok (.goto 4, 3) := by decide +kernel
theorem dX12_readSigned_55 : decode cX12_readSigned 55 = .ok (.iload_n 3, 1) := by decide +kernel
theorem dX12_readSigned_56 : decode cX12_readSigned 56 = .ok (.ireturn, 1) := by decide +kernel
theorem dX12_readComma_0 : decode cX12_readComma 0 = .ok (.aload_n 0, 1) := by decide +kernel
theorem dX12_readComma_1 : decode cX12_readComma 1 = .ok (.aload_n 0, 1) := by decide +kernel
theorem dX12_readComma_2 : decode cX12_readComma 2 = .ok (.getfield 143, 3) := by decide +kernel
theorem dX12_readComma_5 : decode cX12_readComma 5 = .ok (.ifCond .ne 12, 3) := by decide +kernel
theorem dX12_readComma_8 : decode cX12_readComma 8 = .ok (.aload_n 0, 1) := by decide +kernel
theorem dX12_readComma_9 : decode cX12_readComma 9 = .ok (.invokevirtual 146, 3) := by decide +kernel
theorem dX12_readComma_12 : decode cX12_readComma 12 = .ok (.bipush 44, 2) := by decide +kernel
theorem dX12_readComma_14 : decode cX12_readComma 14 = .ok (.if_icmp .eq 7, 3) := by decide +kernel
theorem dX12_readComma_17 : decode cX12_readComma 17 = .ok (.iconst 1, 1) := by decide +kernel
theorem dX12_readComma_18 : decode cX12_readComma 18 = .ok (.goto 4, 3) := by decide +kernel
theorem dX12_readComma_21 : decode cX12_readComma 21 = .ok (.iconst 0, 1) := by decide +kernel
theorem dX12_readComma_22 : decode cX12_readComma 22 = .ok (.putfield 143, 3) := by decide +kernel
theorem dX12_readComma_25 : decode cX12_readComma 25 = .ok (.aload_n 0, 1) := by decide +kernel
theorem dX12_readComma_26 : decode cX12_readComma 26 = .ok (.dup, 1) := by decide +kernel
theorem dX12_readComma_27 : decode cX12_readComma 27 = .ok (.getfield 140, 3) := by decide +kernel
theorem dX12_readComma_30 : decode cX12_readComma 30 = .ok (.aload_n 0, 1) := by decide +kernel
theorem dX12_readComma_31 : decode cX12_readComma 31 = .ok (.getfield 143, 3) := by decide +kernel
theorem dX12_readComma_34 : decode cX12_readComma 34 = .ok (.ifCond .eq 7, 3) := by decide +kernel
theorem dX12_readComma_37 : decode cX12_readComma 37 = .ok (.iconst 0, 1) := by decide +kernel
theorem dX12_readComma_38 : decode cX12_readComma 38 = .ok (.goto 4, 3) := by decide +kernel
theorem dX12_readComma_41 : decode cX12_readComma 41 = .ok (.iconst 1, 1) := by decide +kernel
theorem dX12_readComma_42 : decode cX12_readComma 42 = .ok (.iadd, 1) := by decide +kernel
theorem dX12_readComma_43 : decode cX12_readComma 43 = .ok (.putfield 140, 3) := by decide +kernel
theorem dX12_readComma_46 : decode cX12_readComma 46 = .ok (.return_, 1) := by decide +kernel
theorem dX12_readStatement_0 : decode cX12_readStatement 0 = .ok (.aload_n 0, 1) := by decide +kernel
theorem dX12_readStatement_1 : decode cX12_readStatement 1 = .ok (.getfield 159, 3) := by decide +kernel
theorem dX12_readStatement_4 : decode cX12_readStatement 4 = .ok (.istore_n 1, 1) := by decide +kernel
theorem dX12_readStatement_5 : decode cX12_readStatement 5 = .ok (.aload_n 0, 1) := by decide +kernel
theorem dX12_readStatement_6 : decode cX12_readStatement 6 = .ok (.invokevirtual 146, 3) := by decide +kernel
theorem dX12_readStatement_9 : decode cX12_readStatement 9 = .ok (.istore_n 2, 1) := by decide +kernel
theorem dX12_readStatement_10 : decode cX12_readStatement 10 = .ok (.aload_n 0, 1) := by decide +kernel
theorem dX12_readStatement_11 : decode cX12_readStatement 11 = .ok (.getfield 53, 3) := by decide +kernel
theorem dX12_readStatement_14 : decode cX12_readStatement 14 = .ok (.iload_n 1, 1) := by decide +kernel
theorem dX12_readStatement_15 : decode cX12_readStatement 15 = .ok (.aload_n 0, 1) := by decide +kernel
theorem dX12_readStatement_16 : decode cX12_readStatement 16 = .ok (.getfield 140, 3) := by decide +kernel
theorem dX12_readStatement_19 : decode cX12_readStatement 19 = .ok (.iastore, 1) := by decide +kernel
theorem dX12_readStatement_20 : decode cX12_readStatement 20 = .ok (.aload_n 0, 1) := by decide +kernel
theorem dX12_readStatement_21 : decode cX12_readStatement 21 = .ok (.getfield 56, 3) := by decide +kernel
theorem dX12_readStatement_24 : decode cX12_readStatement 24 = .ok (.iload_n 1, 1) := by decide +kernel
theorem dX12_readStatement_25 : decode cX12_readStatement 25 = .ok (.iload_n 2, 1) := by decide +kernel
theorem dX12_readStatement_26 : decode cX12_readStatement 26 = .ok (.iastore, 1) := by decide +kernel
theorem dX12_readStatement_27 : decode cX12_readStatement 27 = .ok (.aload_n 0, 1) := by decide +kernel
theorem dX12_readStatement_28 : decode cX12_readStatement 28 = .ok (.aload_n 0, 1) := by decide +kernel
theorem dX12_readStatement_29 : decode cX12_readStatement 29 = .ok (.getfield 143, 3) := by decide +kernel
theorem dX12_readStatement_32 : decode cX12_readStatement 32 = .ok (.ifCond .ne 27, 3) := by decide +kernel
theorem dX12_readStatement_35 : decode cX12_readStatement 35 = .ok (.iload_n 2, 1) := by decide +kernel
theorem dX12_readStatement_36 : decode cX12_readStatement 36 = .ok (.bipush 115, 2) := by decide +kernel
theorem dX12_readStatement_38 : decode cX12_readStatement 38 = .ok (.if_icmp .eq 25, 3) := by decide +kernel
theorem dX12_readStatement_41 : decode cX12_readStatement 41 = .ok (.iload_n 2, 1) := by decide +kernel
theorem dX12_readStatement_42 : decode cX12_readStatement 42 = .ok (.bipush 119, 2) := by decide +kernel
theorem dX12_readStatement_44 : decode cX12_readStatement 44 = .ok (.if_icmp .eq 19, 3) := by decide +kernel
theorem dX12_readStatement_47 : decode cX12_readStatement 47 = .ok (.iload_n 2, 1) := by decide +kernel
theorem dX12_readStatement_48 : decode cX12_readStatement 48 = .ok (.bipush 114, 2) := by decide +kernel
theorem dX12_readStatement_50 : decode cX12_readStatement 50 = .ok (.if_icmp .eq 13, 3) := by decide +kernel
theorem dX12_readStatement_53 : decode cX12_readStatement 53 = .ok (.iload_n 2, 1) := by decide +kernel
theorem dX12_readStatement_54 : decode cX12_readStatement 54 = .ok (.bipush 118, 2) := by decide +kernel
theorem dX12_readStatement_56 : decode cX12_readStatement 56 = .ok (.if_icmp .eq 7, 3) := by decide +kernel
theorem dX12_readStatement_59 : decode cX12_readStatement 59 = .ok (.iconst 1, 1) := by decide +kernel
theorem dX12_readStatement_60 : decode cX12_readStatement 60 = .ok (.goto 4, 3) := by decide +kernel
theorem dX12_readStatement_63 : decode cX12_readStatement 63 = .ok (.iconst 0, 1) := by decide +kernel
theorem dX12_readStatement_64 : decode cX12_readStatement 64 = .ok (.putfield 143, 3) := by decide +kernel
theorem dX12_readStatement_67 : decode cX12_readStatement 67 = .ok (.aload_n 0, 1) := by decide +kernel
theorem dX12_readStatement_68 : decode cX12_readStatement 68 = .ok (.dup, 1) := by decide +kernel
theorem dX12_readStatement_69 : decode cX12_readStatement 69 = .ok (.getfield 140, 3) := by decide +kernel
theorem dX12_readStatement_72 : decode cX12_readStatement 72 = .ok (.aload_n 0, 1) := by decide +kernel
theorem dX12_readStatement_73 : decode cX12_readStatement 73 = .ok (.getfield 143, 3) := by decide +kernel
theorem dX12_readStatement_76 : decode cX12_readStatement 76 = .ok (.ifCond .eq 7, 3) := by decide +kernel
theorem dX12_readStatement_79 : decode cX12_readStatement 79 = .ok (.iconst 0, 1) := by decide +kernel
theorem dX12_readStatement_80 : decode cX12_readStatement 80 = .ok (.goto 4, 3) := by decide +kernel
theorem dX12_readStatement_83 : decode cX12_readStatement 83 = .ok (.iconst 1, 1) := by decide +kernel
theorem dX12_readStatement_84 : decode cX12_readStatement 84 = .ok (.iadd, 1) := by decide +kernel
theorem dX12_readStatement_85 : decode cX12_readStatement 85 = .ok (.putfield 140, 3) := by decide +kernel
theorem dX12_readStatement_88 : decode cX12_readStatement 88 = .ok (.bipush 6, 2) := by decide +kernel
theorem dX12_readStatement_90 : decode cX12_readStatement 90 = .ok (.iload_n 1, 1) := by decide +kernel
theorem dX12_readStatement_91 : decode cX12_readStatement 91 = .ok (.imul, 1) := by decide +kernel
theorem dX12_readStatement_92 : decode cX12_readStatement 92 = .ok (.istore_n 3, 1) := by decide +kernel
theorem dX12_readStatement_93 : decode cX12_readStatement 93 = .ok (.iload_n 2, 1) := by decide +kernel
theorem dX12_readStatement_94 : decode cX12_readStatement 94 = .ok (.bipush 115, 2) := by decide +kernel
theorem dX12_readStatement_96 : decode cX12_readStatement 96 = .ok (.if_icmp .ne 87, 3) := by decide +kernel
theorem dX12_readStatement_99 : decode cX12_readStatement 99 = .ok (.aload_n 0, 1) := by decide +kernel
theorem dX12_readStatement_100 : decode cX12_readStatement 100 = .ok (.getfield 59, 3) := by decide +kernel
theorem dX12_readStatement_103 : decode cX12_readStatement 103 = .ok (.iload_n 3, 1) := by decide +kernel
theorem dX12_readStatement_104 : decode cX12_readStatement 104 = .ok (.aload_n 0, 1) := by decide +kernel
theorem dX12_readStatement_105 : decode cX12_readStatement 105 = .ok (.invokevirtual 153, 3) := by decide +kernel
theorem dX12_readStatement_108 : decode cX12_readStatement 108 = .ok (.iastore, 1) := by decide +kernel
theorem dX12_readStatement_109 : decode cX12_readStatement 109 = .ok (.aload_n 0, 1) := by decide +kernel
theorem dX12_readStatement_110 : decode cX12_readStatement 110 = .ok (.getfield 59, 3) := by decide +kernel
theorem dX12_readStatement_113 : decode cX12_readStatement 113 = .ok (.iload_n 3, 1) := by decide +kernel
theorem dX12_readStatement_114 : decode cX12_readStatement 114 = .ok (.iconst 1, 1) := by decide +kernel
theorem dX12_readStatement_115 : decode cX12_readStatement 115 = .ok (.iadd, 1) := by decide +kernel
theorem dX12_readStatement_116 : decode cX12_readStatement 116 = .ok (.aload_n 0, 1) := by decide +kernel
theorem dX12_readStatement_117 : decode cX12_readStatement 117 = .ok (.invokevirtual 153, 3) := by decide +kernel
theorem dX12_readStatement_120 : decode cX12_readStatement 120 = .ok (.iastore, 1) := by decide +kernel
theorem dX12_readStatement_121 : decode cX12_readStatement 121 = .ok (.aload_n 0, 1) := by decide +kernel
theorem dX12_readStatement_122 : decode cX12_readStatement 122 = .ok (.getfield 59, 3) := by decide +kernel
theorem dX12_readStatement_125 : decode cX12_readStatement 125 = .ok (.iload_n 3, 1) := by decide +kernel
theorem dX12_readStatement_126 : decode cX12_readStatement 126 = .ok (.iconst 2, 1) := by decide +kernel
theorem dX12_readStatement_127 : decode cX12_readStatement 127 = .ok (.iadd, 1) := by decide +kernel
theorem dX12_readStatement_128 : decode cX12_readStatement 128 = .ok (.aload_n 0, 1) := by decide +kernel
theorem dX12_readStatement_129 : decode cX12_readStatement 129 = .ok (.invokevirtual 153, 3) := by decide +kernel
theorem dX12_readStatement_132 : decode cX12_readStatement 132 = .ok (.iastore, 1) := by decide +kernel
theorem dX12_readStatement_133 : decode cX12_readStatement 133 = .ok (.aload_n 0, 1) := by decide +kernel
theorem dX12_readStatement_134 : decode cX12_readStatement 134 = .ok (.getfield 59, 3) := by decide +kernel
theorem dX12_readStatement_137 : decode cX12_readStatement 137 = .ok (.iload_n 3, 1) := by decide +kernel
theorem dX12_readStatement_138 : decode cX12_readStatement 138 = .ok (.iconst 3, 1) := by decide +kernel
theorem dX12_readStatement_139 : decode cX12_readStatement 139 = .ok (.iadd, 1) := by decide +kernel
theorem dX12_readStatement_140 : decode cX12_readStatement 140 = .ok (.aload_n 0, 1) := by decide +kernel
theorem dX12_readStatement_141 : decode cX12_readStatement 141 = .ok (.iconst 3, 1) := by decide +kernel
theorem dX12_readStatement_142 : decode cX12_readStatement 142 = .ok (.invokevirtual 156, 3) := by decide +kernel
theorem dX12_readStatement_145 : decode cX12_readStatement 145 = .ok (.iastore, 1) := by decide +kernel
theorem dX12_readStatement_146 : decode cX12_readStatement 146 = .ok (.aload_n 0, 1) := by decide +kernel
theorem dX12_readStatement_147 : decode cX12_readStatement 147 = .ok (.invokevirtual 162, 3) := by decide +kernel
theorem dX12_readStatement_150 : decode cX12_readStatement 150 = .ok (.aload_n 0, 1) := by decide +kernel
theorem dX12_readStatement_151 : decode cX12_readStatement 151 = .ok (.getfield 59, 3) := by decide +kernel
theorem dX12_readStatement_154 : decode cX12_readStatement 154 = .ok (.iload_n 3, 1) := by decide +kernel
theorem dX12_readStatement_155 : decode cX12_readStatement 155 = .ok (.iconst 4, 1) := by decide +kernel
theorem dX12_readStatement_156 : decode cX12_readStatement 156 = .ok (.iadd, 1) := by decide +kernel
theorem dX12_readStatement_157 : decode cX12_readStatement 157 = .ok (.aload_n 0, 1) := by decide +kernel
theorem dX12_readStatement_158 : decode cX12_readStatement 158 = .ok (.iconst 2, 1) := by decide +kernel
theorem dX12_readStatement_159 : decode cX12_readStatement 159 = .ok (.invokevirtual 165, 3) := by decide +kernel
theorem dX12_readStatement_162 : decode cX12_readStatement 162 = .ok (.iastore, 1) := by decide +kernel
theorem dX12_readStatement_163 : decode cX12_readStatement 163 = .ok (.aload_n 0, 1) := by decide +kernel
theorem dX12_readStatement_164 : decode cX12_readStatement 164 = .ok (.invokevirtual 162, 3) := by decide +kernel
theorem dX12_readStatement_167 : decode cX12_readStatement 167 = .ok (.aload_n 0, 1) := by decide +kernel
theorem dX12_readStatement_168 : decode cX12_readStatement 168 = .ok (.getfield 59, 3) := by decide +kernel
theorem dX12_readStatement_171 : decode cX12_readStatement 171 = .ok (.iload_n 3, 1) := by decide +kernel
theorem dX12_readStatement_172 : decode cX12_readStatement 172 = .ok (.iconst 5, 1) := by decide +kernel
theorem dX12_readStatement_173 : decode cX12_readStatement 173 = .ok (.iadd, 1) := by decide +kernel
theorem dX12_readStatement_174 : decode cX12_readStatement 174 = .ok (.aload_n 0, 1) := by decide +kernel
theorem dX12_readStatement_175 : decode cX12_readStatement 175 = .ok (.iconst 2, 1) := by decide +kernel
theorem dX12_readStatement_176 : decode cX12_readStatement 176 = .ok (.invokevirtual 165, 3) := by decide +kernel
theorem dX12_readStatement_179 : decode cX12_readStatement 179 = .ok (.iastore, 1) := by decide +kernel
theorem dX12_readStatement_180 : decode cX12_readStatement 180 = .ok (.goto 59, 3) := by decide +kernel
theorem dX12_readStatement_183 : decode cX12_readStatement 183 = .ok (.iload_n 2, 1) := by decide +kernel
theorem dX12_readStatement_184 : decode cX12_readStatement 184 = .ok (.bipush 119, 2) := by decide +kernel
theorem dX12_readStatement_186 : decode cX12_readStatement 186 = .ok (.if_icmp .ne 42, 3) := by decide +kernel
theorem dX12_readStatement_189 : decode cX12_readStatement 189 = .ok (.aload_n 0, 1) := by decide +kernel
theorem dX12_readStatement_190 : decode cX12_readStatement 190 = .ok (.getfield 59, 3) := by decide +kernel
theorem dX12_readStatement_193 : decode cX12_readStatement 193 = .ok (.iload_n 3, 1) := by decide +kernel
theorem dX12_readStatement_194 : decode cX12_readStatement 194 = .ok (.aload_n 0, 1) := by decide +kernel
theorem dX12_readStatement_195 : decode cX12_readStatement 195 = .ok (.invokevirtual 153, 3) := by decide +kernel
theorem dX12_readStatement_198 : decode cX12_readStatement 198 = .ok (.iastore, 1) := by decide +kernel
theorem dX12_readStatement_199 : decode cX12_readStatement 199 = .ok (.aload_n 0, 1) := by decide +kernel
theorem dX12_readStatement_200 : decode cX12_readStatement 200 = .ok (.getfield 59, 3) := by decide +kernel
theorem dX12_readStatement_203 : decode cX12_readStatement 203 = .ok (.iload_n 3, 1) := by decide +kernel
theorem dX12_readStatement_204 : decode cX12_readStatement 204 = .ok (.iconst 1, 1) := by decide +kernel
theorem dX12_readStatement_205 : decode cX12_readStatement 205 = .ok (.iadd, 1) := by decide +kernel
theorem dX12_readStatement_206 : decode cX12_readStatement 206 = .ok (.aload_n 0, 1) := by decide +kernel
theorem dX12_readStatement_207 : decode cX12_readStatement 207 = .ok (.iconst 1, 1) := by decide +kernel
theorem dX12_readStatement_208 : decode cX12_readStatement 208 = .ok (.invokevirtual 165, 3) := by decide +kernel
theorem dX12_readStatement_211 : decode cX12_readStatement 211 = .ok (.iastore, 1) := by decide +kernel
theorem dX12_readStatement_212 : decode cX12_readStatement 212 = .ok (.aload_n 0, 1) := by decide +kernel
theorem dX12_readStatement_213 : decode cX12_readStatement 213 = .ok (.getfield 59, 3) := by decide +kernel
theorem dX12_readStatement_216 : decode cX12_readStatement 216 = .ok (.iload_n 3, 1) := by decide +kernel
theorem dX12_readStatement_217 : decode cX12_readStatement 217 = .ok (.iconst 2, 1) := by decide +kernel
theorem dX12_readStatement_218 : decode cX12_readStatement 218 = .ok (.iadd, 1) := by decide +kernel
theorem dX12_readStatement_219 : decode cX12_readStatement 219 = .ok (.aload_n 0, 1) := by decide +kernel
theorem dX12_readStatement_220 : decode cX12_readStatement 220 = .ok (.iconst 1, 1) := by decide +kernel
theorem dX12_readStatement_221 : decode cX12_readStatement 221 = .ok (.invokevirtual 165, 3) := by decide +kernel
theorem dX12_readStatement_224 : decode cX12_readStatement 224 = .ok (.iastore, 1) := by decide +kernel
theorem dX12_readStatement_225 : decode cX12_readStatement 225 = .ok (.goto 14, 3) := by decide +kernel
theorem dX12_readStatement_228 : decode cX12_readStatement 228 = .ok (.aload_n 0, 1) := by decide +kernel
theorem dX12_readStatement_229 : decode cX12_readStatement 229 = .ok (.getfield 59, 3) := by decide +kernel
theorem dX12_readStatement_232 : decode cX12_readStatement 232 = .ok (.iload_n 3, 1) := by decide +kernel
theorem dX12_readStatement_233 : decode cX12_readStatement 233 = .ok (.aload_n 0, 1) := by decide +kernel
theorem dX12_readStatement_234 : decode cX12_readStatement 234 = .ok (.iconst 2, 1) := by decide +kernel
theorem dX12_readStatement_235 : decode cX12_readStatement 235 = .ok (.invokevirtual 156, 3) := by decide +kernel
theorem dX12_readStatement_238 : decode cX12_readStatement 238 = .ok (.iastore, 1) := by decide +kernel
theorem dX12_readStatement_239 : decode cX12_readStatement 239 = .ok (.aload_n 0, 1) := by decide +kernel
theorem dX12_readStatement_240 : decode cX12_readStatement 240 = .ok (.aload_n 0, 1) := by decide +kernel
theorem dX12_readStatement_241 : decode cX12_readStatement 241 = .ok (.getfield 143, 3) := by decide +kernel
theorem dX12_readStatement_244 : decode cX12_readStatement 244 = .ok (.ifCond .ne 12, 3) := by decide +kernel
theorem dX12_readStatement_247 : decode cX12_readStatement 247 = .ok (.aload_n 0, 1) := by decide +kernel
theorem dX12_readStatement_248 : decode cX12_readStatement 248 = .ok (.invokevirtual 146, 3) := by decide +kernel
theorem dX12_readStatement_251 : decode cX12_readStatement 251 = .ok (.bipush 59, 2) := by decide +kernel
theorem dX12_readStatement_253 : decode cX12_readStatement 253 = .ok (.if_icmp .eq 7, 3) := by decide +kernel
theorem dX12_readStatement_256 : decode cX12_readStatement 256 = .ok (.iconst 1, 1) := by decide +kernel
theorem dX12_readStatement_257 : decode cX12_readStatement 257 = .ok (.goto 4, 3) := by decide +kernel
theorem dX12_readStatement_260 : decode cX12_readStatement 260 = .ok (.iconst 0, 1) := by decide +kernel
theorem dX12_readStatement_261 : decode cX12_readStatement 261 = .ok (.putfield 143, 3) := by decide +kernel
theorem dX12_readStatement_264 : decode cX12_readStatement 264 = .ok (.aload_n 0, 1) := by decide +kernel
theorem dX12_readStatement_265 : decode cX12_readStatement 265 = .ok (.dup, 1) := by decide +kernel
theorem dX12_readStatement_266 : decode cX12_readStatement 266 = .ok (.getfield 140, 3) := by decide +kernel
theorem dX12_readStatement_269 : decode cX12_readStatement 269 = .ok (.aload_n 0, 1) := by decide +kernel
theorem dX12_readStatement_270 : decode cX12_readStatement 270 = .ok (.getfield 143, 3) := by decide +kernel
theorem dX12_readStatement_273 : decode cX12_readStatement 273 = .ok (.ifCond .eq 7, 3) := by decide +kernel
theorem dX12_readStatement_276 : decode cX12_readStatement 276 = .ok (.iconst 0, 1) := by decide +kernel
theorem dX12_readStatement_277 : decode cX12_readStatement 277 = .ok (.goto 4, 3) := by decide +kernel
theorem dX12_readStatement_280 : decode cX12_readStatement 280 = .ok (.iconst 1, 1) := by decide +kernel
theorem dX12_readStatement_281 : decode cX12_readStatement 281 = .ok (.iadd, 1) := by decide +kernel
theorem dX12_readStatement_282 : decode cX12_readStatement 282 = .ok (.putfield 140, 3) := by decide +kernel
theorem dX12_readStatement_285 : decode cX12_readStatement 285 = .ok (.aload_n 0, 1) := by decide +kernel
theorem dX12_readStatement_286 : decode cX12_readStatement 286 = .ok (.dup, 1) := by decide +kernel
theorem dX12_readStatement_287 : decode cX12_readStatement 287 = .ok (.getfield 159, 3) := by decide +kernel
theorem dX12_readStatement_290 : decode cX12_readStatement 290 = .ok (.iconst 1, 1) := by decide +kernel
theorem dX12_readStatement_291 : decode cX12_readStatement 291 = .ok (.iadd, 1) := by decide +kernel
theorem dX12_readStatement_292 : decode cX12_readStatement 292 = .ok (.putfield 159, 3) := by decide +kernel
theorem dX12_readStatement_295 : decode cX12_readStatement 295 = .ok (.return_, 1) := by decide +kernel
theorem dX12_shipComes_0 : decode cX12_shipComes 0 = .ok (.aload_n 0, 1) := by decide +kernel
theorem dX12_shipComes_1 : decode cX12_shipComes 1 = .ok (.getfield 59, 3) := by decide +kernel
theorem dX12_shipComes_4 : decode cX12_shipComes 4 = .ok (.iload_n 1, 1) := by decide +kernel
theorem dX12_shipComes_5 : decode cX12_shipComes 5 = .ok (.iaload, 1) := by decide +kernel
theorem dX12_shipComes_6 : decode cX12_shipComes 6 = .ok (.iconst 5, 1) := by decide +kernel
theorem dX12_shipComes_7 : decode cX12_shipComes 7 = .ok (.if_icmp .gt 12, 3) := by decide +kernel
theorem dX12_shipComes_10 : decode cX12_shipComes 10 = .ok (.aload_n 0, 1) := by decide +kernel
theorem dX12_shipComes_11 : decode cX12_shipComes 11 = .ok (.getfield 68, 3) := by decide +kernel
theorem dX12_shipComes_14 : decode cX12_shipComes 14 = .ok (.bipush 6, 2) := by decide +kernel
theorem dX12_shipComes_16 : decode cX12_shipComes 16 = .ok (.if_icmp .ne 5, 3) := by decide +kernel
theorem dX12_shipComes_19 : decode cX12_shipComes 19 = .ok (.iconst 0, 1) := by decide +kernel
theorem dX12_shipComes_20 : decode cX12_shipComes 20 = .ok (.ireturn, 1) := by decide +kernel
theorem dX12_shipComes_21 : decode cX12_shipComes 21 = .ok (.aload_n 0, 1) := by decide +kernel
theorem dX12_shipComes_22 : decode cX12_shipComes 22 = .ok (.getfield 23, 3) := by decide +kernel
theorem dX12_shipComes_25 : decode cX12_shipComes 25 = .ok (.aload_n 0, 1) := by decide +kernel
theorem dX12_shipComes_26 : decode cX12_shipComes 26 = .ok (.getfield 68, 3) := by decide +kernel
theorem dX12_shipComes_29 : decode cX12_shipComes 29 = .ok (.aload_n 0, 1) := by decide +kernel
theorem dX12_shipComes_30 : decode cX12_shipComes 30 = .ok (.getfield 59, 3) := by decide +kernel
theorem dX12_shipComes_33 : decode cX12_shipComes 33 = .ok (.iload_n 1, 1) := by decide +kernel
theorem dX12_shipComes_34 : decode cX12_shipComes 34 = .ok (.iaload, 1) := by decide +kernel
theorem dX12_shipComes_35 : decode cX12_shipComes 35 = .ok (.iastore, 1) := by decide +kernel
theorem dX12_shipComes_36 : decode cX12_shipComes 36 = .ok (.aload_n 0, 1) := by decide +kernel
theorem dX12_shipComes_37 : decode cX12_shipComes 37 = .ok (.getfield 26, 3) := by decide +kernel
theorem dX12_shipComes_40 : decode cX12_shipComes 40 = .ok (.aload_n 0, 1) := by decide +kernel
theorem dX12_shipComes_41 : decode cX12_shipComes 41 = .ok (.getfield 68, 3) := by decide +kernel
theorem dX12_shipComes_44 : decode cX12_shipComes 44 = .ok (.aload_n 0, 1) := by decide +kernel
theorem dX12_shipComes_45 : decode cX12_shipComes 45 = .ok (.getfield 59, 3) := by decide +kernel
theorem dX12_shipComes_48 : decode cX12_shipComes 48 = .ok (.iload_n 1, 1) := by decide +kernel
theorem dX12_shipComes_49 : decode cX12_shipComes 49 = .ok (.iconst 1, 1) := by decide +kernel
theorem dX12_shipComes_50 : decode cX12_shipComes 50 = .ok (.iadd, 1) := by decide +kernel
theorem dX12_shipComes_51 : decode cX12_shipComes 51 = .ok (.iaload, 1) := by decide +kernel
theorem dX12_shipComes_52 : decode cX12_shipComes 52 = .ok (.iastore, 1) := by decide +kernel
theorem dX12_shipComes_53 : decode cX12_shipComes 53 = .ok (.aload_n 0, 1) := by decide +kernel
theorem dX12_shipComes_54 : decode cX12_shipComes 54 = .ok (.getfield 29, 3) := by decide +kernel
theorem dX12_shipComes_57 : decode cX12_shipComes 57 = .ok (.aload_n 0, 1) := by decide +kernel
theorem dX12_shipComes_58 : decode cX12_shipComes 58 = .ok (.getfield 68, 3) := by decide +kernel
theorem dX12_shipComes_61 : decode cX12_shipComes 61 = .ok (.aload_n 0, 1) := by decide +kernel
theorem dX12_shipComes_62 : decode cX12_shipComes 62 = .ok (.getfield 59, 3) := by decide +kernel
theorem dX12_shipComes_65 : decode cX12_shipComes 65 = .ok (.iload_n 1, 1) := by decide +kernel
theorem dX12_shipComes_66 : decode cX12_shipComes 66 = .ok (.iconst 2, 1) := by decide +kernel
theorem dX12_shipComes_67 : decode cX12_shipComes 67 = .ok (.iadd, 1) := by decide +kernel
theorem dX12_shipComes_68 : decode cX12_shipComes 68 = .ok (.iaload, 1) := by decide +kernel
theorem dX12_shipComes_69 : decode cX12_shipComes 69 = .ok (.iastore, 1) := by decide +kernel
theorem dX12_shipComes_70 : decode cX12_shipComes 70 = .ok (.aload_n 0, 1) := by decide +kernel
theorem dX12_shipComes_71 : decode cX12_shipComes 71 = .ok (.getfield 32, 3) := by decide +kernel
theorem dX12_shipComes_74 : decode cX12_shipComes 74 = .ok (.aload_n 0, 1) := by decide +kernel
theorem dX12_shipComes_75 : decode cX12_shipComes 75 = .ok (.getfield 68, 3) := by decide +kernel
theorem dX12_shipComes_78 : decode cX12_shipComes 78 = .ok (.aload_n 0, 1) := by decide +kernel
theorem dX12_shipComes_79 : decode cX12_shipComes 79 = .ok (.getfield 59, 3) := by decide +kernel
theorem dX12_shipComes_82 : decode cX12_shipComes 82 = .ok (.iload_n 1, 1) := by decide +kernel
theorem dX12_shipComes_83 : decode cX12_shipComes 83 = .ok (.iconst 3, 1) := by decide +kernel
theorem dX12_shipComes_84 : decode cX12_shipComes 84 = .ok (.iadd, 1) := by decide +kernel
theorem dX12_shipComes_85 : decode cX12_shipComes 85 = .ok (.iaload, 1) := by decide +kernel
theorem dX12_shipComes_86 : decode cX12_shipComes 86 = .ok (.iastore, 1) := by decide +kernel
theorem dX12_shipComes_87 : decode cX12_shipComes 87 = .ok (.aload_n 0, 1) := by decide +kernel
theorem dX12_shipComes_88 : decode cX12_shipComes 88 = .ok (.getfield 35, 3) := by decide +kernel
theorem dX12_shipComes_91 : decode cX12_shipComes 91 = .ok (.aload_n 0, 1) := by decide +kernel
theorem dX12_shipComes_92 : decode cX12_shipComes 92 = .ok (.getfield 68, 3) := by decide +kernel
theorem dX12_shipComes_95 : decode cX12_shipComes 95 = .ok (.aload_n 0, 1) := by decide +kernel
theorem dX12_shipComes_96 : decode cX12_shipComes 96 = .ok (.getfield 59, 3) := by decide +kernel
theorem dX12_shipComes_99 : decode cX12_shipComes 99 = .ok (.iload_n 1, 1) := by decide +kernel
theorem dX12_shipComes_100 : decode cX12_shipComes 100 = .ok (.iconst 4, 1) := by decide +kernel
theorem dX12_shipComes_101 : decode cX12_shipComes 101 = .ok (.iadd, 1) := by decide +kernel
theorem dX12_shipComes_102 : decode cX12_shipComes 102 = .ok (.iaload, 1) := by decide +kernel
theorem dX12_shipComes_103 : decode cX12_shipComes 103 = .ok (.iastore, 1) := by decide +kernel
theorem dX12_shipComes_104 : decode cX12_shipComes 104 = .ok (.aload_n 0, 1) := by decide +kernel
theorem dX12_shipComes_105 : decode cX12_shipComes 105 = .ok (.getfield 38, 3) := by decide +kernel
theorem dX12_shipComes_108 : decode cX12_shipComes 108 = .ok (.aload_n 0, 1) := by decide +kernel
theorem dX12_shipComes_109 : decode cX12_shipComes 109 = .ok (.getfield 68, 3) := by decide +kernel
theorem dX12_shipComes_112 : decode cX12_shipComes 112 = .ok (.aload_n 0, 1) := by decide +kernel
theorem dX12_shipComes_113 : decode cX12_shipComes 113 = .ok (.getfield 59, 3) := by decide +kernel
theorem dX12_shipComes_116 : decode cX12_shipComes 116 = .ok (.iload_n 1, 1) := by decide +kernel
theorem dX12_shipComes_117 : decode cX12_shipComes 117 = .ok (.iconst 5, 1) := by decide +kernel
theorem dX12_shipComes_118 : decode cX12_shipComes 118 = .ok (.iadd, 1) := by decide +kernel
theorem dX12_shipComes_119 : decode cX12_shipComes 119 = .ok (.iaload, 1) := by decide +kernel
theorem dX12_shipComes_120 : decode cX12_shipComes 120 = .ok (.iastore, 1) := by decide +kernel
theorem dX12_shipComes_121 : decode cX12_shipComes 121 = .ok (.aload_n 0, 1) := by decide +kernel
theorem dX12_shipComes_122 : decode cX12_shipComes 122 = .ok (.dup, 1) := by decide +kernel
theorem dX12_shipComes_123 : decode cX12_shipComes 123 = .ok (.getfield 68, 3) := by decide +kernel
theorem dX12_shipComes_126 : decode cX12_shipComes 126 = .ok (.iconst 1, 1) := by decide +kernel
theorem dX12_shipComes_127 : decode cX12_shipComes 127 = .ok (.iadd, 1) := by decide +kernel
theorem dX12_shipComes_128 : decode cX12_shipComes 128 = .ok (.putfield 68, 3) := by decide +kernel
theorem dX12_shipComes_131 : decode cX12_shipComes 131 = .ok (.iconst 1, 1) := by decide +kernel
theorem dX12_shipComes_132 : decode cX12_shipComes 132 = .ok (.ireturn, 1) := by decide +kernel
theorem dX12_comes_0 : decode cX12_comes 0 = .ok (.bipush 6, 2) := by decide +kernel
theorem dX12_comes_2 : decode cX12_comes 2 = .ok (.iload_n 1, 1) := by decide +kernel
theorem dX12_comes_3 : decode cX12_comes 3 = .ok (.imul, 1) := by decide +kernel
theorem dX12_comes_4 : decode cX12_comes 4 = .ok (.istore_n 2, 1) := by decide +kernel
theorem dX12_comes_5 : decode cX12_comes 5 = .ok (.aload_n 0, 1) := by decide +kernel
theorem dX12_comes_6 : decode cX12_comes 6 = .ok (.getfield 56, 3) := by decide +kernel
theorem dX12_comes_9 : decode cX12_comes 9 = .ok (.iload_n 1, 1) := by decide +kernel
theorem dX12_comes_10 : decode cX12_comes 10 = .ok (.iaload, 1) := by decide +kernel
theorem dX12_comes_11 : decode cX12_comes 11 = .ok (.lookupswitch 167 #[(114, 142), (115, 33), (119, 39)], 33) := by decide +kernel
theorem dX12_comes_44 : decode cX12_comes 44 = .ok (.aload_n 0, 1) := by decide +kernel
theorem dX12_comes_45 : decode cX12_comes 45 = .ok (.iload_n 2, 1) := by decide +kernel
theorem dX12_comes_46 : decode cX12_comes 46 = .ok (.invokevirtual 168, 3) := by decide +kernel
theorem dX12_comes_49 : decode cX12_comes 49 = .ok (.ireturn, 1) := by decide +kernel
theorem dX12_comes_50 : decode cX12_comes 50 = .ok (.aload_n 0, 1) := by decide +kernel
theorem dX12_comes_51 : decode cX12_comes 51 = .ok (.getfield 59, 3) := by decide +kernel
theorem dX12_comes_54 : decode cX12_comes 54 = .ok (.iload_n 2, 1) := by decide +kernel
theorem dX12_comes_55 : decode cX12_comes 55 = .ok (.iaload, 1) := by decide +kernel
theorem dX12_comes_56 : decode cX12_comes 56 = .ok (.bipush 7, 2) := by decide +kernel
theorem dX12_comes_58 : decode cX12_comes 58 = .ok (.if_icmp .ge 49, 3) := by decide +kernel
theorem dX12_comes_61 : decode cX12_comes 61 = .ok (.aload_n 0, 1) := by decide +kernel
theorem dX12_comes_62 : decode cX12_comes 62 = .ok (.getfield 59, 3) := by decide +kernel
theorem dX12_comes_65 : decode cX12_comes 65 = .ok (.iload_n 2, 1) := by decide +kernel
theorem dX12_comes_66 : decode cX12_comes 66 = .ok (.iconst 1, 1) := by decide +kernel
theorem dX12_comes_67 : decode cX12_comes 67 = .ok (.iadd, 1) := by decide +kernel
theorem dX12_comes_68 : decode cX12_comes 68 = .ok (.iaload, 1) := by decide +kernel
theorem dX12_comes_69 : decode cX12_comes 69 = .ok (.i2l, 1) := by decide +kernel
theorem dX12_comes_70 : decode cX12_comes 70 = .ok (.ldc2_w 171, 3) := by decide +kernel
theorem dX12_comes_73 : decode cX12_comes 73 = .ok (.ldc2_w 173, 3) := by decide +kernel
theorem dX12_comes_76 : decode cX12_comes 76 = .ok (.invokestatic 71, 3) := by decide +kernel
theorem dX12_comes_79 : decode cX12_comes 79 = .ok (.ifCond .eq 28, 3) := by decide +kernel
theorem dX12_comes_82 : decode cX12_comes 82 = .ok (.aload_n 0, 1) := by decide +kernel
theorem dX12_comes_83 : decode cX12_comes 83 = .ok (.getfield 59, 3) := by decide +kernel
theorem dX12_comes_86 : decode cX12_comes 86 = .ok (.iload_n 2, 1) := by decide +kernel
theorem dX12_comes_87 : decode cX12_comes 87 = .ok (.iconst 2, 1) := by decide +kernel
theorem dX12_comes_88 : decode cX12_comes 88 = .ok (.iadd, 1) := by decide +kernel
theorem dX12_comes_89 : decode cX12_comes 89 = .ok (.iaload, 1) := by decide +kernel
theorem dX12_comes_90 : decode cX12_comes 90 = .ok (.i2l, 1) := by decide +kernel
theorem dX12_comes_91 : decode cX12_comes 91 = .ok (.ldc2_w 171, 3) := by decide +kernel
theorem dX12_comes_94 : decode cX12_comes 94 = .ok (.ldc2_w 173, 3) := by decide +kernel
theorem dX12_comes_97 : decode cX12_comes 97 = .ok (.invokestatic 71, 3) := by decide +kernel
theorem dX12_comes_100 : decode cX12_comes 100 = .ok (.ifCond .eq 7, 3) := by decide +kernel
theorem dX12_comes_103 : decode cX12_comes 103 = .ok (.iconst 1, 1) := by decide +kernel
theorem dX12_comes_104 : decode cX12_comes 104 = .ok (.goto 4, 3) := by decide +kernel
theorem dX12_comes_107 : decode cX12_comes 107 = .ok (.iconst 0, 1) := by decide +kernel
theorem dX12_comes_108 : decode cX12_comes 108 = .ok (.istore_n 3, 1) := by decide +kernel
theorem dX12_comes_109 : decode cX12_comes 109 = .ok (.iload_n 3, 1) := by decide +kernel
theorem dX12_comes_110 : decode cX12_comes 110 = .ok (.ifCond .eq 41, 3) := by decide +kernel
theorem dX12_comes_113 : decode cX12_comes 113 = .ok (.aload_n 0, 1) := by decide +kernel
theorem dX12_comes_114 : decode cX12_comes 114 = .ok (.getfield 16, 3) := by decide +kernel
theorem dX12_comes_117 : decode cX12_comes 117 = .ok (.aload_n 0, 1) := by decide +kernel
theorem dX12_comes_118 : decode cX12_comes 118 = .ok (.getfield 59, 3) := by decide +kernel
theorem dX12_comes_121 : decode cX12_comes 121 = .ok (.iload_n 2, 1) := by decide +kernel
theorem dX12_comes_122 : decode cX12_comes 122 = .ok (.iaload, 1) := by decide +kernel
theorem dX12_comes_123 : decode cX12_comes 123 = .ok (.aload_n 0, 1) := by decide +kernel
theorem dX12_comes_124 : decode cX12_comes 124 = .ok (.getfield 59, 3) := by decide +kernel
theorem dX12_comes_127 : decode cX12_comes 127 = .ok (.iload_n 2, 1) := by decide +kernel
theorem dX12_comes_128 : decode cX12_comes 128 = .ok (.iconst 1, 1) := by decide +kernel
theorem dX12_comes_129 : decode cX12_comes 129 = .ok (.iadd, 1) := by decide +kernel
theorem dX12_comes_130 : decode cX12_comes 130 = .ok (.iaload, 1) := by decide +kernel
theorem dX12_comes_131 : decode cX12_comes 131 = .ok (.iastore, 1) := by decide +kernel
theorem dX12_comes_132 : decode cX12_comes 132 = .ok (.aload_n 0, 1) := by decide +kernel
theorem dX12_comes_133 : decode cX12_comes 133 = .ok (.getfield 20, 3) := by decide +kernel
theorem dX12_comes_136 : decode cX12_comes 136 = .ok (.aload_n 0, 1) := by decide +kernel
theorem dX12_comes_137 : decode cX12_comes 137 = .ok (.getfield 59, 3) := by decide +kernel
theorem dX12_comes_140 : decode cX12_comes 140 = .ok (.iload_n 2, 1) := by decide +kernel
theorem dX12_comes_141 : decode cX12_comes 141 = .ok (.iaload, 1) := by decide +kernel
theorem dX12_comes_142 : decode cX12_comes 142 = .ok (.aload_n 0, 1) := by decide +kernel
theorem dX12_comes_143 : decode cX12_comes 143 = .ok (.getfield 59, 3) := by decide +kernel
theorem dX12_comes_146 : decode cX12_comes 146 = .ok (.iload_n 2, 1) := by decide +kernel
theorem dX12_comes_147 : decode cX12_comes 147 = .ok (.iconst 2, 1) := by decide +kernel
theorem dX12_comes_148 : decode cX12_comes 148 = .ok (.iadd, 1) := by decide +kernel
theorem dX12_comes_149 : decode cX12_comes 149 = .ok (.iaload, 1) := by decide +kernel
theorem dX12_comes_150 : decode cX12_comes 150 = .ok (.iastore, 1) := by decide +kernel
theorem dX12_comes_151 : decode cX12_comes 151 = .ok (.iload_n 3, 1) := by decide +kernel
theorem dX12_comes_152 : decode cX12_comes 152 = .ok (.ireturn, 1) := by decide +kernel
theorem dX12_comes_153 : decode cX12_comes 153 = .ok (.aload_n 0, 1) := by decide +kernel
theorem dX12_comes_154 : decode cX12_comes 154 = .ok (.aload_n 0, 1) := by decide +kernel
theorem dX12_comes_155 : decode cX12_comes 155 = .ok (.getfield 59, 3) := by decide +kernel
theorem dX12_comes_158 : decode cX12_comes 158 = .ok (.iload_n 2, 1) := by decide +kernel
theorem dX12_comes_159 : decode cX12_comes 159 = .ok (.iaload, 1) := by decide +kernel
theorem dX12_comes_160 : decode cX12_comes 160 = .ok (.putfield 7, 3) := by decide +kernel
theorem dX12_comes_163 : decode cX12_comes 163 = .ok (.aload_n 0, 1) := by decide +kernel
theorem dX12_comes_164 : decode cX12_comes 164 = .ok (.getfield 59, 3) := by decide +kernel
theorem dX12_comes_167 : decode cX12_comes 167 = .ok (.iload_n 2, 1) := by decide +kernel
theorem dX12_comes_168 : decode cX12_comes 168 = .ok (.iaload, 1) := by decide +kernel
theorem dX12_comes_169 : decode cX12_comes 169 = .ok (.i2l, 1) := by decide +kernel
theorem dX12_comes_170 : decode cX12_comes 170 = .ok (.lconst 1, 1) := by decide +kernel
theorem dX12_comes_171 : decode cX12_comes 171 = .ok (.ldc2_w 175, 3) := by decide +kernel
theorem dX12_comes_174 : decode cX12_comes 174 = .ok (.invokestatic 71, 3) := by decide +kernel
theorem dX12_comes_177 : decode cX12_comes 177 = .ok (.ireturn, 1) := by decide +kernel
theorem dX12_comes_178 : decode cX12_comes 178 = .ok (.aload_n 0, 1) := by decide +kernel
theorem dX12_comes_179 : decode cX12_comes 179 = .ok (.aload_n 0, 1) := by decide +kernel
theorem dX12_comes_180 : decode cX12_comes 180 = .ok (.getfield 59, 3) := by decide +kernel
theorem dX12_comes_183 : decode cX12_comes 183 = .ok (.iload_n 2, 1) := by decide +kernel
theorem dX12_comes_184 : decode cX12_comes 184 = .ok (.iaload, 1) := by decide +kernel
theorem dX12_comes_185 : decode cX12_comes 185 = .ok (.putfield 13, 3) := by decide +kernel
theorem dX12_comes_188 : decode cX12_comes 188 = .ok (.aload_n 0, 1) := by decide +kernel
theorem dX12_comes_189 : decode cX12_comes 189 = .ok (.getfield 59, 3) := by decide +kernel
theorem dX12_comes_192 : decode cX12_comes 192 = .ok (.iload_n 2, 1) := by decide +kernel
theorem dX12_comes_193 : decode cX12_comes 193 = .ok (.iaload, 1) := by decide +kernel
theorem dX12_comes_194 : decode cX12_comes 194 = .ok (.i2l, 1) := by decide +kernel
theorem dX12_comes_195 : decode cX12_comes 195 = .ok (.lconst 1, 1) := by decide +kernel
theorem dX12_comes_196 : decode cX12_comes 196 = .ok (.ldc2_w 177, 3) := by decide +kernel
theorem dX12_comes_199 : decode cX12_comes 199 = .ok (.invokestatic 71, 3) := by decide +kernel
theorem dX12_comes_202 : decode cX12_comes 202 = .ok (.ireturn, 1) := by decide +kernel
theorem dX12_pack_0 : decode cX12_pack 0 = .ok (.aload_n 0, 1) := by decide +kernel
theorem dX12_pack_1 : decode cX12_pack 1 = .ok (.iconst 0, 1) := by decide +kernel
theorem dX12_pack_2 : decode cX12_pack 2 = .ok (.putfield 65, 3) := by decide +kernel
theorem dX12_pack_5 : decode cX12_pack 5 = .ok (.aload_n 0, 1) := by decide +kernel
theorem dX12_pack_6 : decode cX12_pack 6 = .ok (.iconst 0, 1) := by decide +kernel
theorem dX12_pack_7 : decode cX12_pack 7 = .ok (.putfield 140, 3) := by decide +kernel
theorem dX12_pack_10 : decode cX12_pack 10 = .ok (.aload_n 0, 1) := by decide +kernel
theorem dX12_pack_11 : decode cX12_pack 11 = .ok (.iconst 0, 1) := by decide +kernel
theorem dX12_pack_12 : decode cX12_pack 12 = .ok (.putfield 143, 3) := by decide +kernel
theorem dX12_pack_15 : decode cX12_pack 15 = .ok (.aload_n 0, 1) := by decide +kernel
theorem dX12_pack_16 : decode cX12_pack 16 = .ok (.iconst 0, 1) := by decide +kernel
theorem dX12_pack_17 : decode cX12_pack 17 = .ok (.putfield 159, 3) := by decide +kernel
theorem dX12_pack_20 : decode cX12_pack 20 = .ok (.aload_n 0, 1) := by decide +kernel
theorem dX12_pack_21 : decode cX12_pack 21 = .ok (.getfield 143, 3) := by decide +kernel
theorem dX12_pack_24 : decode cX12_pack 24 = .ok (.ifCond .ne 28, 3) := by decide +kernel
theorem dX12_pack_27 : decode cX12_pack 27 = .ok (.aload_n 0, 1) := by decide +kernel
theorem dX12_pack_28 : decode cX12_pack 28 = .ok (.getfield 159, 3) := by decide +kernel
theorem dX12_pack_31 : decode cX12_pack 31 = .ok (.ifCond .eq 14, 3) := by decide +kernel
theorem dX12_pack_34 : decode cX12_pack 34 = .ok (.aload_n 0, 1) := by decide +kernel
theorem dX12_pack_35 : decode cX12_pack 35 = .ok (.getfield 140, 3) := by decide +kernel
theorem dX12_pack_38 : decode cX12_pack 38 = .ok (.aload_n 0, 1) := by decide +kernel
theorem dX12_pack_39 : decode cX12_pack 39 = .ok (.getfield 137, 3) := by decide +kernel
theorem dX12_pack_42 : decode cX12_pack 42 = .ok (.if_icmp .ge 10, 3) := by decide +kernel
theorem dX12_pack_45 : decode cX12_pack 45 = .ok (.aload_n 0, 1) := by decide +kernel
theorem dX12_pack_46 : decode cX12_pack 46 = .ok (.invokevirtual 179, 3) := by decide +kernel
theorem dX12_pack_49 : decode cX12_pack 49 = .ok (.goto (-29), 3) := by decide +kernel
theorem dX12_pack_52 : decode cX12_pack 52 = .ok (.aload_n 0, 1) := by decide +kernel
theorem dX12_pack_53 : decode cX12_pack 53 = .ok (.iconst 0, 1) := by decide +kernel
theorem dX12_pack_54 : decode cX12_pack 54 = .ok (.putfield 137, 3) := by decide +kernel
theorem dX12_pack_57 : decode cX12_pack 57 = .ok (.aload_n 0, 1) := by decide +kernel
theorem dX12_pack_58 : decode cX12_pack 58 = .ok (.getfield 143, 3) := by decide +kernel
theorem dX12_pack_61 : decode cX12_pack 61 = .ok (.ifCond .eq 12, 3) := by decide +kernel
theorem dX12_pack_64 : decode cX12_pack 64 = .ok (.sipush (-1000), 3) := by decide +kernel
theorem dX12_pack_67 : decode cX12_pack 67 = .ok (.aload_n 0, 1) := by decide +kernel
theorem dX12_pack_68 : decode cX12_pack 68 = .ok (.getfield 140, 3) := by decide +kernel
theorem dX12_pack_71 : decode cX12_pack 71 = .ok (.isub, 1) := by decide +kernel
theorem dX12_pack_72 : decode cX12_pack 72 = .ok (.ireturn, 1) := by decide +kernel
theorem dX12_pack_73 : decode cX12_pack 73 = .ok (.aload_n 0, 1) := by decide +kernel
theorem dX12_pack_74 : decode cX12_pack 74 = .ok (.invokevirtual 182, 3) := by decide +kernel
theorem dX12_pack_77 : decode cX12_pack 77 = .ok (.iconst 0, 1) := by decide +kernel
theorem dX12_pack_78 : decode cX12_pack 78 = .ok (.istore_n 1, 1) := by decide +kernel
theorem dX12_pack_79 : decode cX12_pack 79 = .ok (.iload_n 1, 1) := by decide +kernel
theorem dX12_pack_80 : decode cX12_pack 80 = .ok (.aload_n 0, 1) := by decide +kernel
theorem dX12_pack_81 : decode cX12_pack 81 = .ok (.getfield 159, 3) := by decide +kernel
theorem dX12_pack_84 : decode cX12_pack 84 = .ok (.if_icmp .ge 32, 3) := by decide +kernel
theorem dX12_pack_87 : decode cX12_pack 87 = .ok (.aload_n 0, 1) := by decide +kernel
theorem dX12_pack_88 : decode cX12_pack 88 = .ok (.iload_n 1, 1) := by decide +kernel
theorem dX12_pack_89 : decode cX12_pack 89 = .ok (.invokevirtual 185, 3) := by decide +kernel
theorem dX12_pack_92 : decode cX12_pack 92 = .ok (.ifCond .ne 18, 3) := by decide +kernel
theorem dX12_pack_95 : decode cX12_pack 95 = .ok (.aload_n 0, 1) := by decide +kernel
theorem dX12_pack_96 : decode cX12_pack 96 = .ok (.invokevirtual 188, 3) := by decide +kernel
theorem dX12_pack_99 : decode cX12_pack 99 = .ok (.sipush (-2000), 3) := by decide +kernel
theorem dX12_pack_102 : decode cX12_pack 102 = .ok (.aload_n 0, 1) := by decide +kernel
theorem dX12_pack_103 : decode cX12_pack 103 = .ok (.getfield 53, 3) := by decide +kernel
theorem dX12_pack_106 : decode cX12_pack 106 = .ok (.iload_n 1, 1) := by decide +kernel
theorem dX12_pack_107 : decode cX12_pack 107 = .ok (.iaload, 1) := by decide +kernel
theorem dX12_pack_108 : decode cX12_pack 108 = .ok (.isub, 1) := by decide +kernel
theorem dX12_pack_109 : decode cX12_pack 109 = .ok (.ireturn, 1) := by decide +kernel
theorem dX12_pack_110 : decode cX12_pack 110 = .ok (.iinc 1 1, 3) := by decide +kernel
theorem dX12_pack_113 : decode cX12_pack 113 = .ok (.goto (-34), 3) := by decide +kernel
theorem dX12_pack_116 : decode cX12_pack 116 = .ok (.aload_n 0, 1) := by decide +kernel
theorem dX12_pack_117 : decode cX12_pack 117 = .ok (.getfield 159, 3) := by decide +kernel
theorem dX12_pack_120 : decode cX12_pack 120 = .ok (.ireturn, 1) := by decide +kernel
theorem dX12_ship_0 : decode cX12_ship 0 = .ok (.aload_n 0, 1) := by decide +kernel
theorem dX12_ship_1 : decode cX12_ship 1 = .ok (.iconst 0, 1) := by decide +kernel
theorem dX12_ship_2 : decode cX12_ship 2 = .ok (.putfield 65, 3) := by decide +kernel
theorem dX12_ship_5 : decode cX12_ship 5 = .ok (.aload_n 0, 1) := by decide +kernel
theorem dX12_ship_6 : decode cX12_ship 6 = .ok (.iload_n 1, 1) := by decide +kernel
theorem dX12_ship_7 : decode cX12_ship 7 = .ok (.invokevirtual 75, 3) := by decide +kernel
theorem dX12_ship_10 : decode cX12_ship 10 = .ok (.ifCond .eq 15, 3) := by decide +kernel
theorem dX12_ship_13 : decode cX12_ship 13 = .ok (.iload_n 2, 1) := by decide +kernel
theorem dX12_ship_14 : decode cX12_ship 14 = .ok (.i2l, 1) := by decide +kernel
theorem dX12_ship_15 : decode cX12_ship 15 = .ok (.lconst 0, 1) := by decide +kernel
theorem dX12_ship_16 : decode cX12_ship 16 = .ok (.ldc2_w 191, 3) := by decide +kernel
theorem dX12_ship_19 : decode cX12_ship 19 = .ok (.invokestatic 71, 3) := by decide +kernel
theorem dX12_ship_22 : decode cX12_ship 22 = .ok (.ifCond .ne 22, 3) := by decide +kernel
theorem dX12_ship_25 : decode cX12_ship 25 = .ok (.aload_n 0, 1) := by decide +kernel
theorem dX12_ship_26 : decode cX12_ship 26 = .ok (.aload_n 0, 1) := by decide +kernel
theorem dX12_ship_27 : decode cX12_ship 27 = .ok (.iload_n 1, 1) := by decide +kernel
theorem dX12_ship_28 : decode cX12_ship 28 = .ok (.invokevirtual 75, 3) := by decide +kernel
theorem dX12_ship_31 : decode cX12_ship 31 = .ok (.ifCond .eq 8, 3) := by decide +kernel
theorem dX12_ship_34 : decode cX12_ship 34 = .ok (.bipush (-2), 2) := by decide +kernel
theorem dX12_ship_36 : decode cX12_ship 36 = .ok (.goto 4, 3) := by decide +kernel
theorem dX12_ship_39 : decode cX12_ship 39 = .ok (.iconst (-1), 1) := by decide +kernel
theorem dX12_ship_40 : decode cX12_ship 40 = .ok (.invokevirtual 134, 3) := by decide +kernel
theorem dX12_ship_43 : decode cX12_ship 43 = .ok (.ireturn, 1) := by decide +kernel
theorem dX12_ship_44 : decode cX12_ship 44 = .ok (.aload_n 0, 1) := by decide +kernel
theorem dX12_ship_45 : decode cX12_ship 45 = .ok (.aload_n 0, 1) := by decide +kernel
theorem dX12_ship_46 : decode cX12_ship 46 = .ok (.getfield 23, 3) := by decide +kernel
theorem dX12_ship_49 : decode cX12_ship 49 = .ok (.iload_n 1, 1) := by decide +kernel
theorem dX12_ship_50 : decode cX12_ship 50 = .ok (.iaload, 1) := by decide +kernel
theorem dX12_ship_51 : decode cX12_ship 51 = .ok (.aload_n 0, 1) := by decide +kernel
theorem dX12_ship_52 : decode cX12_ship 52 = .ok (.getfield 26, 3) := by decide +kernel
theorem dX12_ship_55 : decode cX12_ship 55 = .ok (.iload_n 1, 1) := by decide +kernel
theorem dX12_ship_56 : decode cX12_ship 56 = .ok (.iaload, 1) := by decide +kernel
theorem dX12_ship_57 : decode cX12_ship 57 = .ok (.invokevirtual 92, 3) := by decide +kernel
theorem dX12_ship_60 : decode cX12_ship 60 = .ok (.iload_n 2, 1) := by decide +kernel
theorem dX12_ship_61 : decode cX12_ship 61 = .ok (.tableswitch 99 0 6 #[43, 50, 57, 64, 71, 81, 91], 43) := by decide +kernel
theorem dX12_ship_104 : decode cX12_ship 104 = .ok (.aload_n 0, 1) := by decide +kernel
theorem dX12_ship_105 : decode cX12_ship 105 = .ok (.getfield 23, 3) := by decide +kernel
theorem dX12_ship_108 : decode cX12_ship 108 = .ok (.iload_n 1, 1) := by decide +kernel
theorem dX12_ship_109 : decode cX12_ship 109 = .ok (.iaload, 1) := by decide +kernel
theorem dX12_ship_110 : decode cX12_ship 110 = .ok (.ireturn, 1) := by decide +kernel
theorem dX12_ship_111 : decode cX12_ship 111 = .ok (.aload_n 0, 1) := by decide +kernel
theorem dX12_ship_112 : decode cX12_ship 112 = .ok (.getfield 26, 3) := by decide +kernel
theorem dX12_ship_115 : decode cX12_ship 115 = .ok (.iload_n 1, 1) := by decide +kernel
theorem dX12_ship_116 : decode cX12_ship 116 = .ok (.iaload, 1) := by decide +kernel
theorem dX12_ship_117 : decode cX12_ship 117 = .ok (.ireturn, 1) := by decide +kernel
theorem dX12_ship_118 : decode cX12_ship 118 = .ok (.aload_n 0, 1) := by decide +kernel
theorem dX12_ship_119 : decode cX12_ship 119 = .ok (.getfield 29, 3) := by decide +kernel
theorem dX12_ship_122 : decode cX12_ship 122 = .ok (.iload_n 1, 1) := by decide +kernel
theorem dX12_ship_123 : decode cX12_ship 123 = .ok (.iaload, 1) := by decide +kernel
theorem dX12_ship_124 : decode cX12_ship 124 = .ok (.ireturn, 1) := by decide +kernel
theorem dX12_ship_125 : decode cX12_ship 125 = .ok (.aload_n 0, 1) := by decide +kernel
theorem dX12_ship_126 : decode cX12_ship 126 = .ok (.getfield 32, 3) := by decide +kernel
theorem dX12_ship_129 : decode cX12_ship 129 = .ok (.iload_n 1, 1) := by decide +kernel
theorem dX12_ship_130 : decode cX12_ship 130 = .ok (.iaload, 1) := by decide +kernel
theorem dX12_ship_131 : decode cX12_ship 131 = .ok (.ireturn, 1) := by decide +kernel
theorem dX12_ship_132 : decode cX12_ship 132 = .ok (.ldc 193, 2) := by decide +kernel
theorem dX12_ship_134 : decode cX12_ship 134 = .ok (.aload_n 0, 1) := by decide +kernel
theorem dX12_ship_135 : decode cX12_ship 135 = .ok (.getfield 35, 3) := by decide +kernel
theorem dX12_ship_138 : decode cX12_ship 138 = .ok (.iload_n 1, 1) := by decide +kernel
theorem dX12_ship_139 : decode cX12_ship 139 = .ok (.iaload, 1) := by decide +kernel
theorem dX12_ship_140 : decode cX12_ship 140 = .ok (.iadd, 1) := by decide +kernel
theorem dX12_ship_141 : decode cX12_ship 141 = .ok (.ireturn, 1) := by decide +kernel
theorem dX12_ship_142 : decode cX12_ship 142 = .ok (.ldc 193, 2) := by decide +kernel
theorem dX12_ship_144 : decode cX12_ship 144 = .ok (.aload_n 0, 1) := by decide +kernel
theorem dX12_ship_145 : decode cX12_ship 145 = .ok (.getfield 38, 3) := by decide +kernel
theorem dX12_ship_148 : decode cX12_ship 148 = .ok (.iload_n 1, 1) := by decide +kernel
theorem dX12_ship_149 : decode cX12_ship 149 = .ok (.iaload, 1) := by decide +kernel
theorem dX12_ship_150 : decode cX12_ship 150 = .ok (.iadd, 1) := by decide +kernel
theorem dX12_ship_151 : decode cX12_ship 151 = .ok (.ireturn, 1) := by decide +kernel
theorem dX12_ship_152 : decode cX12_ship 152 = .ok (.ldc 193, 2) := by decide +kernel
theorem dX12_ship_154 : decode cX12_ship 154 = .ok (.aload_n 0, 1) := by decide +kernel
theorem dX12_ship_155 : decode cX12_ship 155 = .ok (.getfield 82, 3) := by decide +kernel
theorem dX12_ship_158 : decode cX12_ship 158 = .ok (.iadd, 1) := by decide +kernel
theorem dX12_ship_159 : decode cX12_ship 159 = .ok (.ireturn, 1) := by decide +kernel
theorem dX12_ship_160 : decode cX12_ship 160 = .ok (.ldc 193, 2) := by decide +kernel
theorem dX12_ship_162 : decode cX12_ship 162 = .ok (.aload_n 0, 1) := by decide +kernel
theorem dX12_ship_163 : decode cX12_ship 163 = .ok (.getfield 85, 3) := by decide +kernel
theorem dX12_ship_166 : decode cX12_ship 166 = .ok (.iadd, 1) := by decide +kernel
theorem dX12_ship_167 : decode cX12_ship 167 = .ok (.ireturn, 1) := by decide +kernel
theorem dX12_windTold_0 : decode cX12_windTold 0 = .ok (.bipush 10, 2) := by decide +kernel
theorem dX12_windTold_2 : decode cX12_windTold 2 = .ok (.aload_n 0, 1) := by decide +kernel
theorem dX12_windTold_3 : decode cX12_windTold 3 = .ok (.getfield 16, 3) := by decide +kernel
theorem dX12_windTold_6 : decode cX12_windTold 6 = .ok (.iload_n 1, 1) := by decide +kernel
theorem dX12_windTold_7 : decode cX12_windTold 7 = .ok (.iaload, 1) := by decide +kernel
theorem dX12_windTold_8 : decode cX12_windTold 8 = .ok (.iconst 4, 1) := by decide +kernel
theorem dX12_windTold_9 : decode cX12_windTold 9 = .ok (.iadd, 1) := by decide +kernel
theorem dX12_windTold_10 : decode cX12_windTold 10 = .ok (.imul, 1) := by decide +kernel
theorem dX12_windTold_11 : decode cX12_windTold 11 = .ok (.aload_n 0, 1) := by decide +kernel
theorem dX12_windTold_12 : decode cX12_windTold 12 = .ok (.getfield 20, 3) := by decide +kernel
theorem dX12_windTold_15 : decode cX12_windTold 15 = .ok (.iload_n 1, 1) := by decide +kernel
theorem dX12_windTold_16 : decode cX12_windTold 16 = .ok (.iaload, 1) := by decide +kernel
theorem dX12_windTold_17 : decode cX12_windTold 17 = .ok (.iadd, 1) := by decide +kernel
theorem dX12_windTold_18 : decode cX12_windTold 18 = .ok (.iconst 4, 1) := by decide +kernel
theorem dX12_windTold_19 : decode cX12_windTold 19 = .ok (.iadd, 1) := by decide +kernel
theorem dX12_windTold_20 : decode cX12_windTold 20 = .ok (.ireturn, 1) := by decide +kernel
theorem dX12_wind_0 : decode cX12_wind 0 = .ok (.aload_n 0, 1) := by decide +kernel
theorem dX12_wind_1 : decode cX12_wind 1 = .ok (.iconst 0, 1) := by decide +kernel
theorem dX12_wind_2 : decode cX12_wind 2 = .ok (.putfield 65, 3) := by decide +kernel
theorem dX12_wind_5 : decode cX12_wind 5 = .ok (.iload_n 1, 1) := by decide +kernel
theorem dX12_wind_6 : decode cX12_wind 6 = .ok (.i2l, 1) := by decide +kernel
theorem dX12_wind_7 : decode cX12_wind 7 = .ok (.lconst 0, 1) := by decide +kernel
theorem dX12_wind_8 : decode cX12_wind 8 = .ok (.ldc2_w 194, 3) := by decide +kernel
theorem dX12_wind_11 : decode cX12_wind 11 = .ok (.invokestatic 71, 3) := by decide +kernel
theorem dX12_wind_14 : decode cX12_wind 14 = .ok (.ifCond .eq 11, 3) := by decide +kernel
theorem dX12_wind_17 : decode cX12_wind 17 = .ok (.aload_n 0, 1) := by decide +kernel
theorem dX12_wind_18 : decode cX12_wind 18 = .ok (.iload_n 1, 1) := by decide +kernel
theorem dX12_wind_19 : decode cX12_wind 19 = .ok (.invokevirtual 196, 3) := by decide +kernel
theorem dX12_wind_22 : decode cX12_wind 22 = .ok (.goto 8, 3) := by decide +kernel
theorem dX12_wind_25 : decode cX12_wind 25 = .ok (.aload_n 0, 1) := by decide +kernel
theorem dX12_wind_26 : decode cX12_wind 26 = .ok (.iconst (-1), 1) := by decide +kernel
theorem dX12_wind_27 : decode cX12_wind 27 = .ok (.invokevirtual 134, 3) := by decide +kernel
theorem dX12_wind_30 : decode cX12_wind 30 = .ok (.ireturn, 1) := by decide +kernel
theorem dX12_blow_0 : decode cX12_blow 0 = .ok (.aload_n 0, 1) := by decide +kernel
theorem dX12_blow_1 : decode cX12_blow 1 = .ok (.iconst 0, 1) := by decide +kernel
theorem dX12_blow_2 : decode cX12_blow 2 = .ok (.putfield 65, 3) := by decide +kernel
theorem dX12_blow_5 : decode cX12_blow 5 = .ok (.iload_n 1, 1) := by decide +kernel
theorem dX12_blow_6 : decode cX12_blow 6 = .ok (.i2l, 1) := by decide +kernel
theorem dX12_blow_7 : decode cX12_blow 7 = .ok (.lconst 0, 1) := by decide +kernel
theorem dX12_blow_8 : decode cX12_blow 8 = .ok (.ldc2_w 194, 3) := by decide +kernel
theorem dX12_blow_11 : decode cX12_blow 11 = .ok (.invokestatic 71, 3) := by decide +kernel
theorem dX12_blow_14 : decode cX12_blow 14 = .ok (.ifCond .ne 7, 3) := by decide +kernel
theorem dX12_blow_17 : decode cX12_blow 17 = .ok (.iconst (-1), 1) := by decide +kernel
theorem dX12_blow_18 : decode cX12_blow 18 = .ok (.goto 36, 3) := by decide +kernel
theorem dX12_blow_21 : decode cX12_blow 21 = .ok (.iload_n 2, 1) := by decide +kernel
theorem dX12_blow_22 : decode cX12_blow 22 = .ok (.bipush (-4), 2) := by decide +kernel
theorem dX12_blow_24 : decode cX12_blow 24 = .ok (.if_icmp .lt 9, 3) := by decide +kernel
theorem dX12_blow_27 : decode cX12_blow 27 = .ok (.iload_n 3, 1) := by decide +kernel
theorem dX12_blow_28 : decode cX12_blow 28 = .ok (.bipush (-4), 2) := by decide +kernel
theorem dX12_blow_30 : decode cX12_blow 30 = .ok (.if_icmp .ge 8, 3) := by decide +kernel
theorem dX12_blow_33 : decode cX12_blow 33 = .ok (.bipush (-4), 2) := by decide +kernel
theorem dX12_blow_35 : decode cX12_blow 35 = .ok (.goto 19, 3) := by decide +kernel
theorem dX12_blow_38 : decode cX12_blow 38 = .ok (.iload_n 2, 1) := by decide +kernel
theorem dX12_blow_39 : decode cX12_blow 39 = .ok (.iconst 4, 1) := by decide +kernel
theorem dX12_blow_40 : decode cX12_blow 40 = .ok (.if_icmp .gt 8, 3) := by decide +kernel
theorem dX12_blow_43 : decode cX12_blow 43 = .ok (.iload_n 3, 1) := by decide +kernel
theorem dX12_blow_44 : decode cX12_blow 44 = .ok (.iconst 4, 1) := by decide +kernel
theorem dX12_blow_45 : decode cX12_blow 45 = .ok (.if_icmp .le 8, 3) := by decide +kernel
theorem dX12_blow_48 : decode cX12_blow 48 = .ok (.bipush (-6), 2) := by decide +kernel
theorem dX12_blow_50 : decode cX12_blow 50 = .ok (.goto 4, 3) := by decide +kernel
theorem dX12_blow_53 : decode cX12_blow 53 = .ok (.iconst 0, 1) := by decide +kernel
theorem dX12_blow_54 : decode cX12_blow 54 = .ok (.istore 4, 2) := by decide +kernel
theorem dX12_blow_56 : decode cX12_blow 56 = .ok (.iload 4, 2) := by decide +kernel
theorem dX12_blow_58 : decode cX12_blow 58 = .ok (.ifCond .ge 10, 3) := by decide +kernel
theorem dX12_blow_61 : decode cX12_blow 61 = .ok (.aload_n 0, 1) := by decide +kernel
theorem dX12_blow_62 : decode cX12_blow 62 = .ok (.iload 4, 2) := by decide +kernel
theorem dX12_blow_64 : decode cX12_blow 64 = .ok (.invokevirtual 134, 3) := by decide +kernel
theorem dX12_blow_67 : decode cX12_blow 67 = .ok (.ireturn, 1) := by decide +kernel
theorem dX12_blow_68 : decode cX12_blow 68 = .ok (.aload_n 0, 1) := by decide +kernel
theorem dX12_blow_69 : decode cX12_blow 69 = .ok (.iload_n 1, 1) := by decide +kernel
theorem dX12_blow_70 : decode cX12_blow 70 = .ok (.invokevirtual 196, 3) := by decide +kernel
theorem dX12_blow_73 : decode cX12_blow 73 = .ok (.istore 5, 2) := by decide +kernel
theorem dX12_blow_75 : decode cX12_blow 75 = .ok (.aload_n 0, 1) := by decide +kernel
theorem dX12_blow_76 : decode cX12_blow 76 = .ok (.getfield 16, 3) := by decide +kernel
theorem dX12_blow_79 : decode cX12_blow 79 = .ok (.iload_n 1, 1) := by decide +kernel
theorem dX12_blow_80 : decode cX12_blow 80 = .ok (.iload_n 2, 1) := by decide +kernel
theorem dX12_blow_81 : decode cX12_blow 81 = .ok (.iastore, 1) := by decide +kernel
theorem dX12_blow_82 : decode cX12_blow 82 = .ok (.aload_n 0, 1) := by decide +kernel
theorem dX12_blow_83 : decode cX12_blow 83 = .ok (.getfield 20, 3) := by decide +kernel
theorem dX12_blow_86 : decode cX12_blow 86 = .ok (.iload_n 1, 1) := by decide +kernel
theorem dX12_blow_87 : decode cX12_blow 87 = .ok (.iload_n 3, 1) := by decide +kernel
theorem dX12_blow_88 : decode cX12_blow 88 = .ok (.iastore, 1) := by decide +kernel
theorem dX12_blow_89 : decode cX12_blow 89 = .ok (.iload 5, 2) := by decide +kernel
theorem dX12_blow_91 : decode cX12_blow 91 = .ok (.ireturn, 1) := by decide +kernel
theorem dX12_set_0 : decode cX12_set 0 = .ok (.aload_n 0, 1) := by decide +kernel
theorem dX12_set_1 : decode cX12_set 1 = .ok (.iconst 0, 1) := by decide +kernel
theorem dX12_set_2 : decode cX12_set 2 = .ok (.putfield 65, 3) := by decide +kernel
theorem dX12_set_5 : decode cX12_set 5 = .ok (.iload_n 1, 1) := by decide +kernel
theorem dX12_set_6 : decode cX12_set 6 = .ok (.i2l, 1) := by decide +kernel
theorem dX12_set_7 : decode cX12_set 7 = .ok (.lconst 0, 1) := by decide +kernel
theorem dX12_set_8 : decode cX12_set 8 = .ok (.lconst 1, 1) := by decide +kernel
theorem dX12_set_9 : decode cX12_set 9 = .ok (.invokestatic 71, 3) := by decide +kernel
theorem dX12_set_12 : decode cX12_set 12 = .ok (.ifCond .ne 8, 3) := by decide +kernel
theorem dX12_set_15 : decode cX12_set 15 = .ok (.bipush (-2), 2) := by decide +kernel
theorem dX12_set_17 : decode cX12_set 17 = .ok (.goto 34, 3) := by decide +kernel
theorem dX12_set_20 : decode cX12_set 20 = .ok (.iload_n 2, 1) := by decide +kernel
theorem dX12_set_21 : decode cX12_set 21 = .ok (.iconst 1, 1) := by decide +kernel
theorem dX12_set_22 : decode cX12_set 22 = .ok (.if_icmp .ge 8, 3) := by decide +kernel
theorem dX12_set_25 : decode cX12_set 25 = .ok (.bipush (-4), 2) := by decide +kernel
theorem dX12_set_27 : decode cX12_set 27 = .ok (.goto 24, 3) := by decide +kernel
theorem dX12_set_30 : decode cX12_set 30 = .ok (.iload_n 2, 1) := by decide +kernel
theorem dX12_set_31 : decode cX12_set 31 = .ok (.iload_n 1, 1) := by decide +kernel
theorem dX12_set_32 : decode cX12_set 32 = .ok (.ifCond .ne 8, 3) := by decide +kernel
theorem dX12_set_35 : decode cX12_set 35 = .ok (.bipush 40, 2) := by decide +kernel
theorem dX12_set_37 : decode cX12_set 37 = .ok (.goto 5, 3) := by decide +kernel
theorem dX12_set_40 : decode cX12_set 40 = .ok (.bipush 99, 2) := by decide +kernel
theorem dX12_set_42 : decode cX12_set 42 = .ok (.if_icmp .le 8, 3) := by decide +kernel
theorem dX12_set_45 : decode cX12_set 45 = .ok (.bipush (-6), 2) := by decide +kernel
theorem dX12_set_47 : decode cX12_set 47 = .ok (.goto 4, 3) := by decide +kernel
theorem dX12_set_50 : decode cX12_set 50 = .ok (.iconst 0, 1) := by decide +kernel
theorem dX12_set_51 : decode cX12_set 51 = .ok (.istore_n 3, 1) := by decide +kernel
theorem dX12_set_52 : decode cX12_set 52 = .ok (.iload_n 3, 1) := by decide +kernel
theorem dX12_set_53 : decode cX12_set 53 = .ok (.ifCond .ge 9, 3) := by decide +kernel
theorem dX12_set_56 : decode cX12_set 56 = .ok (.aload_n 0, 1) := by decide +kernel
theorem dX12_set_57 : decode cX12_set 57 = .ok (.iload_n 3, 1) := by decide +kernel
theorem dX12_set_58 : decode cX12_set 58 = .ok (.invokevirtual 134, 3) := by decide +kernel
theorem dX12_set_61 : decode cX12_set 61 = .ok (.ireturn, 1) := by decide +kernel
theorem dX12_set_62 : decode cX12_set 62 = .ok (.iload_n 1, 1) := by decide +kernel
theorem dX12_set_63 : decode cX12_set 63 = .ok (.ifCond .ne 10, 3) := by decide +kernel
theorem dX12_set_66 : decode cX12_set 66 = .ok (.aload_n 0, 1) := by decide +kernel
theorem dX12_set_67 : decode cX12_set 67 = .ok (.getfield 7, 3) := by decide +kernel
theorem dX12_set_70 : decode cX12_set 70 = .ok (.goto 7, 3) := by decide +kernel
theorem dX12_set_73 : decode cX12_set 73 = .ok (.aload_n 0, 1) := by decide +kernel
theorem dX12_set_74 : decode cX12_set 74 = .ok (.getfield 13, 3) := by decide +kernel
theorem dX12_set_77 : decode cX12_set 77 = .ok (.istore 4, 2) := by decide +kernel
theorem dX12_set_79 : decode cX12_set 79 = .ok (.aload_n 0, 1) := by decide +kernel
theorem dX12_set_80 : decode cX12_set 80 = .ok (.iload_n 1, 1) := by decide +kernel
theorem dX12_set_81 : decode cX12_set 81 = .ok (.ifCond .ne 7, 3) := by decide +kernel
theorem dX12_set_84 : decode cX12_set 84 = .ok (.iload_n 2, 1) := by decide +kernel
theorem dX12_set_85 : decode cX12_set 85 = .ok (.goto 7, 3) := by decide +kernel
theorem dX12_set_88 : decode cX12_set 88 = .ok (.aload_n 0, 1) := by decide +kernel
theorem dX12_set_89 : decode cX12_set 89 = .ok (.getfield 7, 3) := by decide +kernel
theorem dX12_set_92 : decode cX12_set 92 = .ok (.putfield 7, 3) := by decide +kernel
theorem dX12_set_95 : decode cX12_set 95 = .ok (.aload_n 0, 1) := by decide +kernel
theorem dX12_set_96 : decode cX12_set 96 = .ok (.iload_n 1, 1) := by decide +kernel
theorem dX12_set_97 : decode cX12_set 97 = .ok (.iconst 1, 1) := by decide +kernel
theorem dX12_set_98 : decode cX12_set 98 = .ok (.if_icmp .ne 7, 3) := by decide +kernel
theorem dX12_set_101 : decode cX12_set 101 = .ok (.iload_n 2, 1) := by decide +kernel
theorem dX12_set_102 : decode cX12_set 102 = .ok (.goto 7, 3) := by decide +kernel
theorem dX12_set_105 : decode cX12_set 105 = .ok (.aload_n 0, 1) := by decide +kernel
theorem dX12_set_106 : decode cX12_set 106 = .ok (.getfield 13, 3) := by decide +kernel
theorem dX12_set_109 : decode cX12_set 109 = .ok (.putfield 13, 3) := by decide +kernel
theorem dX12_set_112 : decode cX12_set 112 = .ok (.iload 4, 2) := by decide +kernel
theorem dX12_set_114 : decode cX12_set 114 = .ok (.ireturn, 1) := by decide +kernel
theorem dX12_go_0 : decode cX12_go 0 = .ok (.aload_n 0, 1) := by decide +kernel
theorem dX12_go_1 : decode cX12_go 1 = .ok (.iconst 0, 1) := by decide +kernel
theorem dX12_go_2 : decode cX12_go 2 = .ok (.putfield 65, 3) := by decide +kernel
theorem dX12_go_5 : decode cX12_go 5 = .ok (.iload_n 1, 1) := by decide +kernel
theorem dX12_go_6 : decode cX12_go 6 = .ok (.iconst 1, 1) := by decide +kernel
theorem dX12_go_7 : decode cX12_go 7 = .ok (.if_icmp .lt 21, 3) := by decide +kernel
theorem dX12_go_10 : decode cX12_go 10 = .ok (.iload_n 1, 1) := by decide +kernel
theorem dX12_go_11 : decode cX12_go 11 = .ok (.bipush 60, 2) := by decide +kernel
theorem dX12_go_13 : decode cX12_go 13 = .ok (.if_icmp .gt 15, 3) := by decide +kernel
theorem dX12_go_16 : decode cX12_go 16 = .ok (.aload_n 0, 1) := by decide +kernel
theorem dX12_go_17 : decode cX12_go 17 = .ok (.getfield 79, 3) := by decide +kernel
theorem dX12_go_20 : decode cX12_go 20 = .ok (.iload_n 1, 1) := by decide +kernel
theorem dX12_go_21 : decode cX12_go 21 = .ok (.iadd, 1) := by decide +kernel
theorem dX12_go_22 : decode cX12_go 22 = .ok (.sipush 9999, 3) := by decide +kernel
theorem dX12_go_25 : decode cX12_go 25 = .ok (.if_icmp .le 20, 3) := by decide +kernel
theorem dX12_go_28 : decode cX12_go 28 = .ok (.aload_n 0, 1) := by decide +kernel
theorem dX12_go_29 : decode cX12_go 29 = .ok (.iload_n 1, 1) := by decide +kernel
theorem dX12_go_30 : decode cX12_go 30 = .ok (.iconst 1, 1) := by decide +kernel
theorem dX12_go_31 : decode cX12_go 31 = .ok (.if_icmp .ge 8, 3) := by decide +kernel
theorem dX12_go_34 : decode cX12_go 34 = .ok (.bipush (-4), 2) := by decide +kernel
theorem dX12_go_36 : decode cX12_go 36 = .ok (.goto 5, 3) := by decide +kernel
theorem dX12_go_39 : decode cX12_go 39 = .ok (.bipush (-6), 2) := by decide +kernel
theorem dX12_go_41 : decode cX12_go 41 = .ok (.invokevirtual 134, 3) := by decide +kernel
theorem dX12_go_44 : decode cX12_go 44 = .ok (.ireturn, 1) := by decide +kernel
theorem dX12_go_45 : decode cX12_go 45 = .ok (.aload_n 0, 1) := by decide +kernel
theorem dX12_go_46 : decode cX12_go 46 = .ok (.iload_n 1, 1) := by decide +kernel
theorem dX12_go_47 : decode cX12_go 47 = .ok (.invokevirtual 199, 3) := by decide +kernel
theorem dX12_go_50 : decode cX12_go 50 = .ok (.istore_n 2, 1) := by decide +kernel
theorem dX12_go_51 : decode cX12_go 51 = .ok (.aload_n 0, 1) := by decide +kernel
theorem dX12_go_52 : decode cX12_go 52 = .ok (.dup, 1) := by decide +kernel
theorem dX12_go_53 : decode cX12_go 53 = .ok (.getfield 124, 3) := by decide +kernel
theorem dX12_go_56 : decode cX12_go 56 = .ok (.iload_n 2, 1) := by decide +kernel
theorem dX12_go_57 : decode cX12_go 57 = .ok (.iadd, 1) := by decide +kernel
theorem dX12_go_58 : decode cX12_go 58 = .ok (.putfield 124, 3) := by decide +kernel
theorem dX12_go_61 : decode cX12_go 61 = .ok (.iload_n 2, 1) := by decide +kernel
theorem dX12_go_62 : decode cX12_go 62 = .ok (.ireturn, 1) := by decide +kernel
theorem dX12_far_0 : decode cX12_far 0 = .ok (.aload_n 0, 1) := by decide +kernel
theorem dX12_far_1 : decode cX12_far 1 = .ok (.iconst 0, 1) := by decide +kernel
theorem dX12_far_2 : decode cX12_far 2 = .ok (.putfield 65, 3) := by decide +kernel
theorem dX12_far_5 : decode cX12_far 5 = .ok (.aload_n 0, 1) := by decide +kernel
theorem dX12_far_6 : decode cX12_far 6 = .ok (.iload_n 1, 1) := by decide +kernel
theorem dX12_far_7 : decode cX12_far 7 = .ok (.iload_n 2, 1) := by decide +kernel
theorem dX12_far_8 : decode cX12_far 8 = .ok (.invokevirtual 202, 3) := by decide +kernel
theorem dX12_far_11 : decode cX12_far 11 = .ok (.ifCond .eq 12, 3) := by decide +kernel
theorem dX12_far_14 : decode cX12_far 14 = .ok (.aload_n 0, 1) := by decide +kernel
theorem dX12_far_15 : decode cX12_far 15 = .ok (.iload_n 1, 1) := by decide +kernel
theorem dX12_far_16 : decode cX12_far 16 = .ok (.iload_n 2, 1) := by decide +kernel
theorem dX12_far_17 : decode cX12_far 17 = .ok (.invokevirtual 107, 3) := by decide +kernel
theorem dX12_far_20 : decode cX12_far 20 = .ok (.goto 8, 3) := by decide +kernel
theorem dX12_far_23 : decode cX12_far 23 = .ok (.aload_n 0, 1) := by decide +kernel
theorem dX12_far_24 : decode cX12_far 24 = .ok (.iconst (-1), 1) := by decide +kernel
theorem dX12_far_25 : decode cX12_far 25 = .ok (.invokevirtual 134, 3) := by decide +kernel
theorem dX12_far_28 : decode cX12_far 28 = .ok (.ireturn, 1) := by decide +kernel
theorem dX12_open_0 : decode cX12_open 0 = .ok (.aload_n 0, 1) := by decide +kernel
theorem dX12_open_1 : decode cX12_open 1 = .ok (.iconst 0, 1) := by decide +kernel
theorem dX12_open_2 : decode cX12_open 2 = .ok (.putfield 65, 3) := by decide +kernel
theorem dX12_open_5 : decode cX12_open 5 = .ok (.aload_n 0, 1) := by decide +kernel
theorem dX12_open_6 : decode cX12_open 6 = .ok (.iload_n 1, 1) := by decide +kernel
theorem dX12_open_7 : decode cX12_open 7 = .ok (.iload_n 2, 1) := by decide +kernel
theorem dX12_open_8 : decode cX12_open 8 = .ok (.invokevirtual 202, 3) := by decide +kernel
theorem dX12_open_11 : decode cX12_open 11 = .ok (.ifCond .eq 15, 3) := by decide +kernel
theorem dX12_open_14 : decode cX12_open 14 = .ok (.iload_n 3, 1) := by decide +kernel
theorem dX12_open_15 : decode cX12_open 15 = .ok (.i2l, 1) := by decide +kernel
theorem dX12_open_16 : decode cX12_open 16 = .ok (.lconst 0, 1) := by decide +kernel
theorem dX12_open_17 : decode cX12_open 17 = .ok (.ldc2_w 206, 3) := by decide +kernel
theorem dX12_open_20 : decode cX12_open 20 = .ok (.invokestatic 71, 3) := by decide +kernel
theorem dX12_open_23 : decode cX12_open 23 = .ok (.ifCond .ne 23, 3) := by decide +kernel
theorem dX12_open_26 : decode cX12_open 26 = .ok (.aload_n 0, 1) := by decide +kernel
theorem dX12_open_27 : decode cX12_open 27 = .ok (.aload_n 0, 1) := by decide +kernel
theorem dX12_open_28 : decode cX12_open 28 = .ok (.iload_n 1, 1) := by decide +kernel
theorem dX12_open_29 : decode cX12_open 29 = .ok (.iload_n 2, 1) := by decide +kernel
theorem dX12_open_30 : decode cX12_open 30 = .ok (.invokevirtual 202, 3) := by decide +kernel
theorem dX12_open_33 : decode cX12_open 33 = .ok (.ifCond .eq 8, 3) := by decide +kernel
theorem dX12_open_36 : decode cX12_open 36 = .ok (.bipush (-2), 2) := by decide +kernel
theorem dX12_open_38 : decode cX12_open 38 = .ok (.goto 4, 3) := by decide +kernel
theorem dX12_open_41 : decode cX12_open 41 = .ok (.iconst (-1), 1) := by decide +kernel
theorem dX12_open_42 : decode cX12_open 42 = .ok (.invokevirtual 134, 3) := by decide +kernel
theorem dX12_open_45 : decode cX12_open 45 = .ok (.ireturn, 1) := by decide +kernel
theorem dX12_open_46 : decode cX12_open 46 = .ok (.aload_n 0, 1) := by decide +kernel
theorem dX12_open_47 : decode cX12_open 47 = .ok (.iload_n 1, 1) := by decide +kernel
theorem dX12_open_48 : decode cX12_open 48 = .ok (.iload_n 2, 1) := by decide +kernel
theorem dX12_open_49 : decode cX12_open 49 = .ok (.invokevirtual 107, 3) := by decide +kernel
theorem dX12_open_52 : decode cX12_open 52 = .ok (.iload_n 3, 1) := by decide +kernel
theorem dX12_open_53 : decode cX12_open 53 = .ok (.ifCond .ne 10, 3) := by decide +kernel
theorem dX12_open_56 : decode cX12_open 56 = .ok (.aload_n 0, 1) := by decide +kernel
theorem dX12_open_57 : decode cX12_open 57 = .ok (.getfield 7, 3) := by decide +kernel
theorem dX12_open_60 : decode cX12_open 60 = .ok (.goto 16, 3) := by decide +kernel
theorem dX12_open_63 : decode cX12_open 63 = .ok (.iload_n 3, 1) := by decide +kernel
theorem dX12_open_64 : decode cX12_open 64 = .ok (.iconst 1, 1) := by decide +kernel
theorem dX12_open_65 : decode cX12_open 65 = .ok (.if_icmp .ne 7, 3) := by decide +kernel
theorem dX12_open_68 : decode cX12_open 68 = .ok (.iconst 1, 1) := by decide +kernel
theorem dX12_open_69 : decode cX12_open 69 = .ok (.goto 7, 3) := by decide +kernel
theorem dX12_open_72 : decode cX12_open 72 = .ok (.aload_n 0, 1) := by decide +kernel
theorem dX12_open_73 : decode cX12_open 73 = .ok (.getfield 13, 3) := by decide +kernel
theorem dX12_open_76 : decode cX12_open 76 = .ok (.if_icmp .gt 7, 3) := by decide +kernel
theorem dX12_open_79 : decode cX12_open 79 = .ok (.iconst 1, 1) := by decide +kernel
theorem dX12_open_80 : decode cX12_open 80 = .ok (.goto 4, 3) := by decide +kernel
theorem dX12_open_83 : decode cX12_open 83 = .ok (.iconst 0, 1) := by decide +kernel
theorem dX12_open_84 : decode cX12_open 84 = .ok (.ireturn, 1) := by decide +kernel
theorem dX12_wrongDays_0 : decode cX12_wrongDays 0 = .ok (.iload_n 0, 1) := by decide +kernel
theorem dX12_wrongDays_1 : decode cX12_wrongDays 1 = .ok (.ifCond .ge 8, 3) := by decide +kernel
theorem dX12_wrongDays_4 : decode cX12_wrongDays 4 = .ok (.bipush (-4), 2) := by decide +kernel
theorem dX12_wrongDays_6 : decode cX12_wrongDays 6 = .ok (.goto 14, 3) := by decide +kernel
theorem dX12_wrongDays_9 : decode cX12_wrongDays 9 = .ok (.iload_n 0, 1) := by decide +kernel
theorem dX12_wrongDays_10 : decode cX12_wrongDays 10 = .ok (.iload_n 1, 1) := by decide +kernel
theorem dX12_wrongDays_11 : decode cX12_wrongDays 11 = .ok (.if_icmp .le 8, 3) := by decide +kernel
theorem dX12_wrongDays_14 : decode cX12_wrongDays 14 = .ok (.bipush (-6), 2) := by decide +kernel
theorem dX12_wrongDays_16 : decode cX12_wrongDays 16 = .ok (.goto 4, 3) := by decide +kernel
theorem dX12_wrongDays_19 : decode cX12_wrongDays 19 = .ok (.iconst 0, 1) := by decide +kernel
theorem dX12_wrongDays_20 : decode cX12_wrongDays 20 = .ok (.ireturn, 1) := by decide +kernel
theorem dX12_behind_0 : decode cX12_behind 0 = .ok (.aload_n 0, 1) := by decide +kernel
theorem dX12_behind_1 : decode cX12_behind 1 = .ok (.iconst 0, 1) := by decide +kernel
theorem dX12_behind_2 : decode cX12_behind 2 = .ok (.putfield 65, 3) := by decide +kernel
theorem dX12_behind_5 : decode cX12_behind 5 = .ok (.aload_n 0, 1) := by decide +kernel
theorem dX12_behind_6 : decode cX12_behind 6 = .ok (.iload_n 1, 1) := by decide +kernel
theorem dX12_behind_7 : decode cX12_behind 7 = .ok (.invokevirtual 75, 3) := by decide +kernel
theorem dX12_behind_10 : decode cX12_behind 10 = .ok (.ifCond .eq 12, 3) := by decide +kernel
theorem dX12_behind_13 : decode cX12_behind 13 = .ok (.iload_n 2, 1) := by decide +kernel
theorem dX12_behind_14 : decode cX12_behind 14 = .ok (.bipush 60, 2) := by decide +kernel
theorem dX12_behind_16 : decode cX12_behind 16 = .ok (.invokestatic 208, 3) := by decide +kernel
theorem dX12_behind_19 : decode cX12_behind 19 = .ok (.goto 4, 3) := by decide +kernel
theorem dX12_behind_22 : decode cX12_behind 22 = .ok (.iconst (-1), 1) := by decide +kernel
theorem dX12_behind_23 : decode cX12_behind 23 = .ok (.istore_n 3, 1) := by decide +kernel
theorem dX12_behind_24 : decode cX12_behind 24 = .ok (.iload_n 3, 1) := by decide +kernel
theorem dX12_behind_25 : decode cX12_behind 25 = .ok (.ifCond .ge 14, 3) := by decide +kernel
theorem dX12_behind_28 : decode cX12_behind 28 = .ok (.ldc2_w 211, 3) := by decide +kernel
theorem dX12_behind_31 : decode cX12_behind 31 = .ok (.aload_n 0, 1) := by decide +kernel
theorem dX12_behind_32 : decode cX12_behind 32 = .ok (.iload_n 3, 1) := by decide +kernel
theorem dX12_behind_33 : decode cX12_behind 33 = .ok (.invokevirtual 134, 3) := by decide +kernel
theorem dX12_behind_36 : decode cX12_behind 36 = .ok (.i2l, 1) := by decide +kernel
theorem dX12_behind_37 : decode cX12_behind 37 = .ok (.lsub, 1) := by decide +kernel
theorem dX12_behind_38 : decode cX12_behind 38 = .ok (.lreturn, 1) := by decide +kernel
theorem dX12_behind_39 : decode cX12_behind 39 = .ok (.aload_n 0, 1) := by decide +kernel
theorem dX12_behind_40 : decode cX12_behind 40 = .ok (.invokevirtual 182, 3) := by decide +kernel
theorem dX12_behind_43 : decode cX12_behind 43 = .ok (.aload_n 0, 1) := by decide +kernel
theorem dX12_behind_44 : decode cX12_behind 44 = .ok (.getfield 35, 3) := by decide +kernel
theorem dX12_behind_47 : decode cX12_behind 47 = .ok (.iload_n 1, 1) := by decide +kernel
theorem dX12_behind_48 : decode cX12_behind 48 = .ok (.iaload, 1) := by decide +kernel
theorem dX12_behind_49 : decode cX12_behind 49 = .ok (.istore 4, 2) := by decide +kernel
theorem dX12_behind_51 : decode cX12_behind 51 = .ok (.aload_n 0, 1) := by decide +kernel
theorem dX12_behind_52 : decode cX12_behind 52 = .ok (.getfield 38, 3) := by decide +kernel
theorem dX12_behind_55 : decode cX12_behind 55 = .ok (.iload_n 1, 1) := by decide +kernel
theorem dX12_behind_56 : decode cX12_behind 56 = .ok (.iaload, 1) := by decide +kernel
theorem dX12_behind_57 : decode cX12_behind 57 = .ok (.istore 5, 2) := by decide +kernel
theorem dX12_behind_59 : decode cX12_behind 59 = .ok (.aload_n 0, 1) := by decide +kernel
theorem dX12_behind_60 : decode cX12_behind 60 = .ok (.iload_n 2, 1) := by decide +kernel
theorem dX12_behind_61 : decode cX12_behind 61 = .ok (.invokevirtual 199, 3) := by decide +kernel
theorem dX12_behind_64 : decode cX12_behind 64 = .ok (.pop, 1) := by decide +kernel
theorem dX12_behind_65 : decode cX12_behind 65 = .ok (.ldc2_w 213, 3) := by decide +kernel
theorem dX12_behind_68 : decode cX12_behind 68 = .ok (.aload_n 0, 1) := by decide +kernel
theorem dX12_behind_69 : decode cX12_behind 69 = .ok (.getfield 35, 3) := by decide +kernel
theorem dX12_behind_72 : decode cX12_behind 72 = .ok (.iload_n 1, 1) := by decide +kernel
theorem dX12_behind_73 : decode cX12_behind 73 = .ok (.iaload, 1) := by decide +kernel
theorem dX12_behind_74 : decode cX12_behind 74 = .ok (.iload 4, 2) := by decide +kernel
theorem dX12_behind_76 : decode cX12_behind 76 = .ok (.isub, 1) := by decide +kernel
theorem dX12_behind_77 : decode cX12_behind 77 = .ok (.i2l, 1) := by decide +kernel
theorem dX12_behind_78 : decode cX12_behind 78 = .ok (.lmul, 1) := by decide +kernel
theorem dX12_behind_79 : decode cX12_behind 79 = .ok (.aload_n 0, 1) := by decide +kernel
theorem dX12_behind_80 : decode cX12_behind 80 = .ok (.getfield 38, 3) := by decide +kernel
theorem dX12_behind_83 : decode cX12_behind 83 = .ok (.iload_n 1, 1) := by decide +kernel
theorem dX12_behind_84 : decode cX12_behind 84 = .ok (.iaload, 1) := by decide +kernel
theorem dX12_behind_85 : decode cX12_behind 85 = .ok (.iload 5, 2) := by decide +kernel
theorem dX12_behind_87 : decode cX12_behind 87 = .ok (.isub, 1) := by decide +kernel
theorem dX12_behind_88 : decode cX12_behind 88 = .ok (.i2l, 1) := by decide +kernel
theorem dX12_behind_89 : decode cX12_behind 89 = .ok (.ladd, 1) := by decide +kernel
theorem dX12_behind_90 : decode cX12_behind 90 = .ok (.lstore 6, 2) := by decide +kernel
theorem dX12_behind_92 : decode cX12_behind 92 = .ok (.aload_n 0, 1) := by decide +kernel
theorem dX12_behind_93 : decode cX12_behind 93 = .ok (.invokevirtual 188, 3) := by decide +kernel
theorem dX12_behind_96 : decode cX12_behind 96 = .ok (.lload 6, 2) := by decide +kernel
theorem dX12_behind_98 : decode cX12_behind 98 = .ok (.lreturn, 1) := by decide +kernel
theorem dX12_meet_0 : decode cX12_meet 0 = .ok (.aload_n 0, 1) := by decide +kernel
theorem dX12_meet_1 : decode cX12_meet 1 = .ok (.iconst 0, 1) := by decide +kernel
theorem dX12_meet_2 : decode cX12_meet 2 = .ok (.putfield 65, 3) := by decide +kernel
theorem dX12_meet_5 : decode cX12_meet 5 = .ok (.aload_n 0, 1) := by decide +kernel
theorem dX12_meet_6 : decode cX12_meet 6 = .ok (.iload_n 1, 1) := by decide +kernel
theorem dX12_meet_7 : decode cX12_meet 7 = .ok (.iload_n 2, 1) := by decide +kernel
theorem dX12_meet_8 : decode cX12_meet 8 = .ok (.invokevirtual 202, 3) := by decide +kernel
theorem dX12_meet_11 : decode cX12_meet 11 = .ok (.ifCond .ne 9, 3) := by decide +kernel
theorem dX12_meet_14 : decode cX12_meet 14 = .ok (.aload_n 0, 1) := by decide +kernel
theorem dX12_meet_15 : decode cX12_meet 15 = .ok (.iconst (-1), 1) := by decide +kernel
theorem dX12_meet_16 : decode cX12_meet 16 = .ok (.invokevirtual 134, 3) := by decide +kernel
theorem dX12_meet_19 : decode cX12_meet 19 = .ok (.ireturn, 1) := by decide +kernel
theorem dX12_meet_20 : decode cX12_meet 20 = .ok (.aload_n 0, 1) := by decide +kernel
theorem dX12_meet_21 : decode cX12_meet 21 = .ok (.invokevirtual 182, 3) := by decide +kernel
theorem dX12_meet_24 : decode cX12_meet 24 = .ok (.bipush (-9), 2) := by decide +kernel
theorem dX12_meet_26 : decode cX12_meet 26 = .ok (.istore_n 3, 1) := by decide +kernel
theorem dX12_meet_27 : decode cX12_meet 27 = .ok (.iconst 0, 1) := by decide +kernel
theorem dX12_meet_28 : decode cX12_meet 28 = .ok (.istore 4, 2) := by decide +kernel
theorem dX12_meet_30 : decode cX12_meet 30 = .ok (.iload 4, 2) := by decide +kernel
theorem dX12_meet_32 : decode cX12_meet 32 = .ok (.bipush 60, 2) := by decide +kernel
theorem dX12_meet_34 : decode cX12_meet 34 = .ok (.if_icmp .gt 37, 3) := by decide +kernel
theorem dX12_meet_37 : decode cX12_meet 37 = .ok (.iload_n 3, 1) := by decide +kernel
theorem dX12_meet_38 : decode cX12_meet 38 = .ok (.ifCond .ge 33, 3) := by decide +kernel
theorem dX12_meet_41 : decode cX12_meet 41 = .ok (.aload_n 0, 1) := by decide +kernel
theorem dX12_meet_42 : decode cX12_meet 42 = .ok (.iload_n 1, 1) := by decide +kernel
theorem dX12_meet_43 : decode cX12_meet 43 = .ok (.iload_n 2, 1) := by decide +kernel
theorem dX12_meet_44 : decode cX12_meet 44 = .ok (.invokevirtual 107, 3) := by decide +kernel
theorem dX12_meet_47 : decode cX12_meet 47 = .ok (.iconst 1, 1) := by decide +kernel
theorem dX12_meet_48 : decode cX12_meet 48 = .ok (.if_icmp .gt 8, 3) := by decide +kernel
theorem dX12_meet_51 : decode cX12_meet 51 = .ok (.iload 4, 2) := by decide +kernel
theorem dX12_meet_53 : decode cX12_meet 53 = .ok (.goto 5, 3) := by decide +kernel
theorem dX12_meet_56 : decode cX12_meet 56 = .ok (.bipush (-9), 2) := by decide +kernel
theorem dX12_meet_58 : decode cX12_meet 58 = .ok (.istore_n 3, 1) := by decide +kernel
theorem dX12_meet_59 : decode cX12_meet 59 = .ok (.aload_n 0, 1) := by decide +kernel
theorem dX12_meet_60 : decode cX12_meet 60 = .ok (.iconst 1, 1) := by decide +kernel
theorem dX12_meet_61 : decode cX12_meet 61 = .ok (.invokevirtual 199, 3) := by decide +kernel
theorem dX12_meet_64 : decode cX12_meet 64 = .ok (.pop, 1) := by decide +kernel
theorem dX12_meet_65 : decode cX12_meet 65 = .ok (.iinc 4 1, 3) := by decide +kernel
theorem dX12_meet_68 : decode cX12_meet 68 = .ok (.goto (-38), 3) := by decide +kernel
theorem dX12_meet_71 : decode cX12_meet 71 = .ok (.aload_n 0, 1) := by decide +kernel
theorem dX12_meet_72 : decode cX12_meet 72 = .ok (.invokevirtual 188, 3) := by decide +kernel
theorem dX12_meet_75 : decode cX12_meet 75 = .ok (.iload_n 3, 1) := by decide +kernel
theorem dX12_meet_76 : decode cX12_meet 76 = .ok (.ireturn, 1) := by decide +kernel
theorem dX12_nearest_0 : decode cX12_nearest 0 = .ok (.aload_n 0, 1) := by decide +kernel
theorem dX12_nearest_1 : decode cX12_nearest 1 = .ok (.iconst 0, 1) := by decide +kernel
theorem dX12_nearest_2 : decode cX12_nearest 2 = .ok (.putfield 65, 3) := by decide +kernel
theorem dX12_nearest_5 : decode cX12_nearest 5 = .ok (.aload_n 0, 1) := by decide +kernel
theorem dX12_nearest_6 : decode cX12_nearest 6 = .ok (.iload_n 1, 1) := by decide +kernel
theorem dX12_nearest_7 : decode cX12_nearest 7 = .ok (.iload_n 2, 1) := by decide +kernel
theorem dX12_nearest_8 : decode cX12_nearest 8 = .ok (.invokevirtual 202, 3) := by decide +kernel
theorem dX12_nearest_11 : decode cX12_nearest 11 = .ok (.ifCond .eq 12, 3) := by decide +kernel
theorem dX12_nearest_14 : decode cX12_nearest 14 = .ok (.iload_n 3, 1) := by decide +kernel
theorem dX12_nearest_15 : decode cX12_nearest 15 = .ok (.bipush 60, 2) := by decide +kernel
theorem dX12_nearest_17 : decode cX12_nearest 17 = .ok (.invokestatic 208, 3) := by decide +kernel
theorem dX12_nearest_20 : decode cX12_nearest 20 = .ok (.goto 4, 3) := by decide +kernel
theorem dX12_nearest_23 : decode cX12_nearest 23 = .ok (.iconst (-1), 1) := by decide +kernel
theorem dX12_nearest_24 : decode cX12_nearest 24 = .ok (.istore 5, 2) := by decide +kernel
theorem dX12_nearest_26 : decode cX12_nearest 26 = .ok (.iload 5, 2) := by decide +kernel
theorem dX12_nearest_28 : decode cX12_nearest 28 = .ok (.ifCond .ne 19, 3) := by decide +kernel
theorem dX12_nearest_31 : decode cX12_nearest 31 = .ok (.iload 4, 2) := by decide +kernel
theorem dX12_nearest_33 : decode cX12_nearest 33 = .ok (.i2l, 1) := by decide +kernel
theorem dX12_nearest_34 : decode cX12_nearest 34 = .ok (.lconst 0, 1) := by decide +kernel
theorem dX12_nearest_35 : decode cX12_nearest 35 = .ok (.lconst 1, 1) := by decide +kernel
theorem dX12_nearest_36 : decode cX12_nearest 36 = .ok (.invokestatic 71, 3) := by decide +kernel
theorem dX12_nearest_39 : decode cX12_nearest 39 = .ok (.ifCond .ne 8, 3) := by decide +kernel
theorem dX12_nearest_42 : decode cX12_nearest 42 = .ok (.bipush (-2), 2) := by decide +kernel
theorem dX12_nearest_44 : decode cX12_nearest 44 = .ok (.goto 5, 3) := by decide +kernel
theorem dX12_nearest_47 : decode cX12_nearest 47 = .ok (.iload 5, 2) := by decide +kernel
theorem dX12_nearest_49 : decode cX12_nearest 49 = .ok (.istore 5, 2) := by decide +kernel
theorem dX12_nearest_51 : decode cX12_nearest 51 = .ok (.iload 5, 2) := by decide +kernel
theorem dX12_nearest_53 : decode cX12_nearest 53 = .ok (.ifCond .ge 10, 3) := by decide +kernel
theorem dX12_nearest_56 : decode cX12_nearest 56 = .ok (.aload_n 0, 1) := by decide +kernel
theorem dX12_nearest_57 : decode cX12_nearest 57 = .ok (.iload 5, 2) := by decide +kernel
theorem dX12_nearest_59 : decode cX12_nearest 59 = .ok (.invokevirtual 134, 3) := by decide +kernel
theorem dX12_nearest_62 : decode cX12_nearest 62 = .ok (.ireturn, 1) := by decide +kernel
theorem dX12_nearest_63 : decode cX12_nearest 63 = .ok (.aload_n 0, 1) := by decide +kernel
theorem dX12_nearest_64 : decode cX12_nearest 64 = .ok (.invokevirtual 182, 3) := by decide +kernel
theorem dX12_nearest_67 : decode cX12_nearest 67 = .ok (.iconst 0, 1) := by decide +kernel
theorem dX12_nearest_68 : decode cX12_nearest 68 = .ok (.istore 6, 2) := by decide +kernel
theorem dX12_nearest_70 : decode cX12_nearest 70 = .ok (.aload_n 0, 1) := by decide +kernel
theorem dX12_nearest_71 : decode cX12_nearest 71 = .ok (.iload_n 1, 1) := by decide +kernel
theorem dX12_nearest_72 : decode cX12_nearest 72 = .ok (.iload_n 2, 1) := by decide +kernel
theorem dX12_nearest_73 : decode cX12_nearest 73 = .ok (.invokevirtual 107, 3) := by decide +kernel
theorem dX12_nearest_76 : decode cX12_nearest 76 = .ok (.istore 7, 2) := by decide +kernel
theorem dX12_nearest_78 : decode cX12_nearest 78 = .ok (.iconst 1, 1) := by decide +kernel
theorem dX12_nearest_79 : decode cX12_nearest 79 = .ok (.istore 8, 2) := by decide +kernel
theorem dX12_nearest_81 : decode cX12_nearest 81 = .ok (.iload 8, 2) := by decide +kernel
theorem dX12_nearest_83 : decode cX12_nearest 83 = .ok (.iload_n 3, 1) := by decide +kernel
theorem dX12_nearest_84 : decode cX12_nearest 84 = .ok (.if_icmp .gt 55, 3) := by decide +kernel
theorem dX12_nearest_87 : decode cX12_nearest 87 = .ok (.aload_n 0, 1) := by decide +kernel
theorem dX12_nearest_88 : decode cX12_nearest 88 = .ok (.iconst 1, 1) := by decide +kernel
theorem dX12_nearest_89 : decode cX12_nearest 89 = .ok (.invokevirtual 199, 3) := by decide +kernel
theorem dX12_nearest_92 : decode cX12_nearest 92 = .ok (.pop, 1) := by decide +kernel
theorem dX12_nearest_93 : decode cX12_nearest 93 = .ok (.aload_n 0, 1) := by decide +kernel
theorem dX12_nearest_94 : decode cX12_nearest 94 = .ok (.iload_n 1, 1) := by decide +kernel
theorem dX12_nearest_95 : decode cX12_nearest 95 = .ok (.iload_n 2, 1) := by decide +kernel
theorem dX12_nearest_96 : decode cX12_nearest 96 = .ok (.invokevirtual 107, 3) := by decide +kernel
theorem dX12_nearest_99 : decode cX12_nearest 99 = .ok (.istore 9, 2) := by decide +kernel
theorem dX12_nearest_101 : decode cX12_nearest 101 = .ok (.iload 9, 2) := by decide +kernel
theorem dX12_nearest_103 : decode cX12_nearest 103 = .ok (.iload 7, 2) := by decide +kernel
theorem dX12_nearest_105 : decode cX12_nearest 105 = .ok (.if_icmp .ge 8, 3) := by decide +kernel
theorem dX12_nearest_108 : decode cX12_nearest 108 = .ok (.iload 8, 2) := by decide +kernel
theorem dX12_nearest_110 : decode cX12_nearest 110 = .ok (.goto 5, 3) := by decide +kernel
theorem dX12_nearest_113 : decode cX12_nearest 113 = .ok (.iload 6, 2) := by decide +kernel
theorem dX12_nearest_115 : decode cX12_nearest 115 = .ok (.istore 6, 2) := by decide +kernel
theorem dX12_nearest_117 : decode cX12_nearest 117 = .ok (.iload 9, 2) := by decide +kernel
theorem dX12_nearest_119 : decode cX12_nearest 119 = .ok (.iload 7, 2) := by decide +kernel
theorem dX12_nearest_121 : decode cX12_nearest 121 = .ok (.if_icmp .ge 8, 3) := by decide +kernel
theorem dX12_nearest_124 : decode cX12_nearest 124 = .ok (.iload 9, 2) := by decide +kernel
theorem dX12_nearest_126 : decode cX12_nearest 126 = .ok (.goto 5, 3) := by decide +kernel
theorem dX12_nearest_129 : decode cX12_nearest 129 = .ok (.iload 7, 2) := by decide +kernel
theorem dX12_nearest_131 : decode cX12_nearest 131 = .ok (.istore 7, 2) := by decide +kernel
theorem dX12_nearest_133 : decode cX12_nearest 133 = .ok (.iinc 8 1, 3) := by decide +kernel
theorem dX12_nearest_136 : decode cX12_nearest 136 = .ok (.goto (-55), 3) := by decide +kernel
theorem dX12_nearest_139 : decode cX12_nearest 139 = .ok (.aload_n 0, 1) := by decide +kernel
theorem dX12_nearest_140 : decode cX12_nearest 140 = .ok (.invokevirtual 188, 3) := by decide +kernel
theorem dX12_nearest_143 : decode cX12_nearest 143 = .ok (.iload 4, 2) := by decide +kernel
theorem dX12_nearest_145 : decode cX12_nearest 145 = .ok (.ifCond .ne 8, 3) := by decide +kernel
theorem dX12_nearest_148 : decode cX12_nearest 148 = .ok (.iload 6, 2) := by decide +kernel
theorem dX12_nearest_150 : decode cX12_nearest 150 = .ok (.goto 5, 3) := by decide +kernel
theorem dX12_nearest_153 : decode cX12_nearest 153 = .ok (.iload 7, 2) := by decide +kernel
theorem dX12_nearest_155 : decode cX12_nearest 155 = .ok (.ireturn, 1) := by decide +kernel
theorem dX12_reachOn_0 : decode cX12_reachOn 0 = .ok (.iload_n 1, 1) := by decide +kernel
theorem dX12_reachOn_1 : decode cX12_reachOn 1 = .ok (.istore_n 2, 1) := by decide +kernel
theorem dX12_reachOn_2 : decode cX12_reachOn 2 = .ok (.iconst 0, 1) := by decide +kernel
theorem dX12_reachOn_3 : decode cX12_reachOn 3 = .ok (.istore_n 3, 1) := by decide +kernel
theorem dX12_reachOn_4 : decode cX12_reachOn 4 = .ok (.iload_n 3, 1) := by decide +kernel
theorem dX12_reachOn_5 : decode cX12_reachOn 5 = .ok (.aload_n 0, 1) := by decide +kernel
theorem dX12_reachOn_6 : decode cX12_reachOn 6 = .ok (.getfield 68, 3) := by decide +kernel
theorem dX12_reachOn_9 : decode cX12_reachOn 9 = .ok (.if_icmp .ge 57, 3) := by decide +kernel
theorem dX12_reachOn_12 : decode cX12_reachOn 12 = .ok (.iconst 0, 1) := by decide +kernel
theorem dX12_reachOn_13 : decode cX12_reachOn 13 = .ok (.istore 4, 2) := by decide +kernel
theorem dX12_reachOn_15 : decode cX12_reachOn 15 = .ok (.iload 4, 2) := by decide +kernel
theorem dX12_reachOn_17 : decode cX12_reachOn 17 = .ok (.aload_n 0, 1) := by decide +kernel
theorem dX12_reachOn_18 : decode cX12_reachOn 18 = .ok (.getfield 68, 3) := by decide +kernel
theorem dX12_reachOn_21 : decode cX12_reachOn 21 = .ok (.if_icmp .ge 39, 3) := by decide +kernel
theorem dX12_reachOn_24 : decode cX12_reachOn 24 = .ok (.iload_n 2, 1) := by decide +kernel
theorem dX12_reachOn_25 : decode cX12_reachOn 25 = .ok (.iload_n 1, 1) := by decide +kernel
theorem dX12_reachOn_26 : decode cX12_reachOn 26 = .ok (.iload_n 3, 1) := by decide +kernel
theorem dX12_reachOn_27 : decode cX12_reachOn 27 = .ok (.ishr, 1) := by decide +kernel
theorem dX12_reachOn_28 : decode cX12_reachOn 28 = .ok (.iconst 1, 1) := by decide +kernel
theorem dX12_reachOn_29 : decode cX12_reachOn 29 = .ok (.iand, 1) := by decide +kernel
theorem dX12_reachOn_30 : decode cX12_reachOn 30 = .ok (.iconst 1, 1) := by decide +kernel
theorem dX12_reachOn_31 : decode cX12_reachOn 31 = .ok (.if_icmp .ne 20, 3) := by decide +kernel
theorem dX12_reachOn_34 : decode cX12_reachOn 34 = .ok (.aload_n 0, 1) := by decide +kernel
theorem dX12_reachOn_35 : decode cX12_reachOn 35 = .ok (.iload_n 3, 1) := by decide +kernel
theorem dX12_reachOn_36 : decode cX12_reachOn 36 = .ok (.iload 4, 2) := by decide +kernel
theorem dX12_reachOn_38 : decode cX12_reachOn 38 = .ok (.invokevirtual 215, 3) := by decide +kernel
theorem dX12_reachOn_41 : decode cX12_reachOn 41 = .ok (.ifCond .eq 10, 3) := by decide +kernel
theorem dX12_reachOn_44 : decode cX12_reachOn 44 = .ok (.iconst 1, 1) := by decide +kernel
theorem dX12_reachOn_45 : decode cX12_reachOn 45 = .ok (.iload 4, 2) := by decide +kernel
theorem dX12_reachOn_47 : decode cX12_reachOn 47 = .ok (.ishl, 1) := by decide +kernel
theorem dX12_reachOn_48 : decode cX12_reachOn 48 = .ok (.goto 4, 3) := by decide +kernel
theorem dX12_reachOn_51 : decode cX12_reachOn 51 = .ok (.iconst 0, 1) := by decide +kernel
theorem dX12_reachOn_52 : decode cX12_reachOn 52 = .ok (.ior, 1) := by decide +kernel
theorem dX12_reachOn_53 : decode cX12_reachOn 53 = .ok (.istore_n 2, 1) := by decide +kernel
theorem dX12_reachOn_54 : decode cX12_reachOn 54 = .ok (.iinc 4 1, 3) := by decide +kernel
theorem dX12_reachOn_57 : decode cX12_reachOn 57 = .ok (.goto (-42), 3) := by decide +kernel
theorem dX12_reachOn_60 : decode cX12_reachOn 60 = .ok (.iinc 3 1, 3) := by decide +kernel
theorem dX12_reachOn_63 : decode cX12_reachOn 63 = .ok (.goto (-59), 3) := by decide +kernel
theorem dX12_reachOn_66 : decode cX12_reachOn 66 = .ok (.iload_n 2, 1) := by decide +kernel
theorem dX12_reachOn_67 : decode cX12_reachOn 67 = .ok (.ireturn, 1) := by decide +kernel
theorem dX12_there_0 : decode cX12_there 0 = .ok (.aload_n 0, 1) := by decide +kernel
theorem dX12_there_1 : decode cX12_there 1 = .ok (.iconst 0, 1) := by decide +kernel
theorem dX12_there_2 : decode cX12_there 2 = .ok (.putfield 65, 3) := by decide +kernel
theorem dX12_there_5 : decode cX12_there 5 = .ok (.aload_n 0, 1) := by decide +kernel
theorem dX12_there_6 : decode cX12_there 6 = .ok (.iload_n 1, 1) := by decide +kernel
theorem dX12_there_7 : decode cX12_there 7 = .ok (.invokevirtual 75, 3) := by decide +kernel
theorem dX12_there_10 : decode cX12_there 10 = .ok (.ifCond .eq 11, 3) := by decide +kernel
theorem dX12_there_13 : decode cX12_there 13 = .ok (.aload_n 0, 1) := by decide +kernel
theorem dX12_there_14 : decode cX12_there 14 = .ok (.iload_n 2, 1) := by decide +kernel
theorem dX12_there_15 : decode cX12_there 15 = .ok (.invokevirtual 75, 3) := by decide +kernel
theorem dX12_there_18 : decode cX12_there 18 = .ok (.ifCond .ne 9, 3) := by decide +kernel
theorem dX12_there_21 : decode cX12_there 21 = .ok (.aload_n 0, 1) := by decide +kernel
theorem dX12_there_22 : decode cX12_there 22 = .ok (.iconst (-1), 1) := by decide +kernel
theorem dX12_there_23 : decode cX12_there 23 = .ok (.invokevirtual 134, 3) := by decide +kernel
theorem dX12_there_26 : decode cX12_there 26 = .ok (.ireturn, 1) := by decide +kernel
theorem dX12_there_27 : decode cX12_there 27 = .ok (.aload_n 0, 1) := by decide +kernel
theorem dX12_there_28 : decode cX12_there 28 = .ok (.invokevirtual 182, 3) := by decide +kernel
theorem dX12_there_31 : decode cX12_there 31 = .ok (.iconst 1, 1) := by decide +kernel
theorem dX12_there_32 : decode cX12_there 32 = .ok (.iload_n 1, 1) := by decide +kernel
theorem dX12_there_33 : decode cX12_there 33 = .ok (.ishl, 1) := by decide +kernel
theorem dX12_there_34 : decode cX12_there 34 = .ok (.istore_n 3, 1) := by decide +kernel
theorem dX12_there_35 : decode cX12_there 35 = .ok (.iload_n 1, 1) := by decide +kernel
theorem dX12_there_36 : decode cX12_there 36 = .ok (.iload_n 2, 1) := by decide +kernel
theorem dX12_there_37 : decode cX12_there 37 = .ok (.if_icmp .ne 7, 3) := by decide +kernel
theorem dX12_there_40 : decode cX12_there 40 = .ok (.iconst 0, 1) := by decide +kernel
theorem dX12_there_41 : decode cX12_there 41 = .ok (.goto 5, 3) := by decide +kernel
theorem dX12_there_44 : decode cX12_there 44 = .ok (.bipush (-9), 2) := by decide +kernel
theorem dX12_there_46 : decode cX12_there 46 = .ok (.istore 4, 2) := by decide +kernel
theorem dX12_there_48 : decode cX12_there 48 = .ok (.iconst 1, 1) := by decide +kernel
theorem dX12_there_49 : decode cX12_there 49 = .ok (.istore 5, 2) := by decide +kernel
theorem dX12_there_51 : decode cX12_there 51 = .ok (.iload 5, 2) := by decide +kernel
theorem dX12_there_53 : decode cX12_there 53 = .ok (.bipush 40, 2) := by decide +kernel
theorem dX12_there_55 : decode cX12_there 55 = .ok (.if_icmp .gt 44, 3) := by decide +kernel
theorem dX12_there_58 : decode cX12_there 58 = .ok (.iload 4, 2) := by decide +kernel
theorem dX12_there_60 : decode cX12_there 60 = .ok (.ifCond .ge 39, 3) := by decide +kernel
theorem dX12_there_63 : decode cX12_there 63 = .ok (.aload_n 0, 1) := by decide +kernel
theorem dX12_there_64 : decode cX12_there 64 = .ok (.iload_n 3, 1) := by decide +kernel
theorem dX12_there_65 : decode cX12_there 65 = .ok (.invokevirtual 218, 3) := by decide +kernel
theorem dX12_there_68 : decode cX12_there 68 = .ok (.istore_n 3, 1) := by decide +kernel
theorem dX12_there_69 : decode cX12_there 69 = .ok (.iload_n 3, 1) := by decide +kernel
theorem dX12_there_70 : decode cX12_there 70 = .ok (.iload_n 2, 1) := by decide +kernel
theorem dX12_there_71 : decode cX12_there 71 = .ok (.ishr, 1) := by decide +kernel
theorem dX12_there_72 : decode cX12_there 72 = .ok (.iconst 1, 1) := by decide +kernel
theorem dX12_there_73 : decode cX12_there 73 = .ok (.iand, 1) := by decide +kernel
theorem dX12_there_74 : decode cX12_there 74 = .ok (.iconst 1, 1) := by decide +kernel
theorem dX12_there_75 : decode cX12_there 75 = .ok (.if_icmp .ne 8, 3) := by decide +kernel
theorem dX12_there_78 : decode cX12_there 78 = .ok (.iload 5, 2) := by decide +kernel
theorem dX12_there_80 : decode cX12_there 80 = .ok (.goto 5, 3) := by decide +kernel
theorem dX12_there_83 : decode cX12_there 83 = .ok (.bipush (-9), 2) := by decide +kernel
theorem dX12_there_85 : decode cX12_there 85 = .ok (.istore 4, 2) := by decide +kernel
theorem dX12_there_87 : decode cX12_there 87 = .ok (.aload_n 0, 1) := by decide +kernel
theorem dX12_there_88 : decode cX12_there 88 = .ok (.iconst 1, 1) := by decide +kernel
theorem dX12_there_89 : decode cX12_there 89 = .ok (.invokevirtual 199, 3) := by decide +kernel
theorem dX12_there_92 : decode cX12_there 92 = .ok (.pop, 1) := by decide +kernel
theorem dX12_there_93 : decode cX12_there 93 = .ok (.iinc 5 1, 3) := by decide +kernel
theorem dX12_there_96 : decode cX12_there 96 = .ok (.goto (-45), 3) := by decide +kernel
theorem dX12_there_99 : decode cX12_there 99 = .ok (.aload_n 0, 1) := by decide +kernel
theorem dX12_there_100 : decode cX12_there 100 = .ok (.invokevirtual 188, 3) := by decide +kernel
theorem dX12_there_103 : decode cX12_there 103 = .ok (.iload 4, 2) := by decide +kernel
theorem dX12_there_105 : decode cX12_there 105 = .ok (.ireturn, 1) := by decide +kernel
theorem dX12_back_0 : decode cX12_back 0 = .ok (.aload_n 0, 1) := by decide +kernel
theorem dX12_back_1 : decode cX12_back 1 = .ok (.iconst 0, 1) := by decide +kernel
theorem dX12_back_2 : decode cX12_back 2 = .ok (.putfield 65, 3) := by decide +kernel
theorem dX12_back_5 : decode cX12_back 5 = .ok (.aload_n 0, 1) := by decide +kernel
theorem dX12_back_6 : decode cX12_back 6 = .ok (.iload_n 1, 1) := by decide +kernel
theorem dX12_back_7 : decode cX12_back 7 = .ok (.iload_n 2, 1) := by decide +kernel
theorem dX12_back_8 : decode cX12_back 8 = .ok (.invokevirtual 202, 3) := by decide +kernel
theorem dX12_back_11 : decode cX12_back 11 = .ok (.ifCond .ne 9, 3) := by decide +kernel
theorem dX12_back_14 : decode cX12_back 14 = .ok (.aload_n 0, 1) := by decide +kernel
theorem dX12_back_15 : decode cX12_back 15 = .ok (.iconst (-1), 1) := by decide +kernel
theorem dX12_back_16 : decode cX12_back 16 = .ok (.invokevirtual 134, 3) := by decide +kernel
theorem dX12_back_19 : decode cX12_back 19 = .ok (.ireturn, 1) := by decide +kernel
theorem dX12_back_20 : decode cX12_back 20 = .ok (.aload_n 0, 1) := by decide +kernel
theorem dX12_back_21 : decode cX12_back 21 = .ok (.invokevirtual 182, 3) := by decide +kernel
theorem dX12_back_24 : decode cX12_back 24 = .ok (.iconst 1, 1) := by decide +kernel
theorem dX12_back_25 : decode cX12_back 25 = .ok (.iload_n 1, 1) := by decide +kernel
theorem dX12_back_26 : decode cX12_back 26 = .ok (.ishl, 1) := by decide +kernel
theorem dX12_back_27 : decode cX12_back 27 = .ok (.istore_n 3, 1) := by decide +kernel
theorem dX12_back_28 : decode cX12_back 28 = .ok (.iconst 0, 1) := by decide +kernel
theorem dX12_back_29 : decode cX12_back 29 = .ok (.istore 4, 2) := by decide +kernel
theorem dX12_back_31 : decode cX12_back 31 = .ok (.bipush (-9), 2) := by decide +kernel
theorem dX12_back_33 : decode cX12_back 33 = .ok (.istore 5, 2) := by decide +kernel
theorem dX12_back_35 : decode cX12_back 35 = .ok (.iconst 1, 1) := by decide +kernel
theorem dX12_back_36 : decode cX12_back 36 = .ok (.istore 6, 2) := by decide +kernel
theorem dX12_back_38 : decode cX12_back 38 = .ok (.iload 6, 2) := by decide +kernel
theorem dX12_back_40 : decode cX12_back 40 = .ok (.bipush 40, 2) := by decide +kernel
theorem dX12_back_42 : decode cX12_back 42 = .ok (.if_icmp .gt 59, 3) := by decide +kernel
theorem dX12_back_45 : decode cX12_back 45 = .ok (.iload 5, 2) := by decide +kernel
theorem dX12_back_47 : decode cX12_back 47 = .ok (.ifCond .ge 54, 3) := by decide +kernel
theorem dX12_back_50 : decode cX12_back 50 = .ok (.aload_n 0, 1) := by decide +kernel
theorem dX12_back_51 : decode cX12_back 51 = .ok (.iload_n 3, 1) := by decide +kernel
theorem dX12_back_52 : decode cX12_back 52 = .ok (.invokevirtual 218, 3) := by decide +kernel
theorem dX12_back_55 : decode cX12_back 55 = .ok (.istore_n 3, 1) := by decide +kernel
theorem dX12_back_56 : decode cX12_back 56 = .ok (.aload_n 0, 1) := by decide +kernel
theorem dX12_back_57 : decode cX12_back 57 = .ok (.iload 4, 2) := by decide +kernel
theorem dX12_back_59 : decode cX12_back 59 = .ok (.invokevirtual 218, 3) := by decide +kernel
theorem dX12_back_62 : decode cX12_back 62 = .ok (.iload_n 3, 1) := by decide +kernel
theorem dX12_back_63 : decode cX12_back 63 = .ok (.iconst 1, 1) := by decide +kernel
theorem dX12_back_64 : decode cX12_back 64 = .ok (.iload_n 2, 1) := by decide +kernel
theorem dX12_back_65 : decode cX12_back 65 = .ok (.ishl, 1) := by decide +kernel
theorem dX12_back_66 : decode cX12_back 66 = .ok (.iand, 1) := by decide +kernel
theorem dX12_back_67 : decode cX12_back 67 = .ok (.ior, 1) := by decide +kernel
theorem dX12_back_68 : decode cX12_back 68 = .ok (.istore 4, 2) := by decide +kernel
theorem dX12_back_70 : decode cX12_back 70 = .ok (.iload 4, 2) := by decide +kernel
theorem dX12_back_72 : decode cX12_back 72 = .ok (.iload_n 1, 1) := by decide +kernel
theorem dX12_back_73 : decode cX12_back 73 = .ok (.ishr, 1) := by decide +kernel
theorem dX12_back_74 : decode cX12_back 74 = .ok (.iconst 1, 1) := by decide +kernel
theorem dX12_back_75 : decode cX12_back 75 = .ok (.iand, 1) := by decide +kernel
theorem dX12_back_76 : decode cX12_back 76 = .ok (.iconst 1, 1) := by decide +kernel
theorem dX12_back_77 : decode cX12_back 77 = .ok (.if_icmp .ne 8, 3) := by decide +kernel
theorem dX12_back_80 : decode cX12_back 80 = .ok (.iload 6, 2) := by decide +kernel
theorem dX12_back_82 : decode cX12_back 82 = .ok (.goto 5, 3) := by decide +kernel
theorem dX12_back_85 : decode cX12_back 85 = .ok (.bipush (-9), 2) := by decide +kernel
theorem dX12_back_87 : decode cX12_back 87 = .ok (.istore 5, 2) := by decide +kernel
theorem dX12_back_89 : decode cX12_back 89 = .ok (.aload_n 0, 1) := by decide +kernel
theorem dX12_back_90 : decode cX12_back 90 = .ok (.iconst 1, 1) := by decide +kernel
theorem dX12_back_91 : decode cX12_back 91 = .ok (.invokevirtual 199, 3) := by decide +kernel
theorem dX12_back_94 : decode cX12_back 94 = .ok (.pop, 1) := by decide +kernel
theorem dX12_back_95 : decode cX12_back 95 = .ok (.iinc 6 1, 3) := by decide +kernel
theorem dX12_back_98 : decode cX12_back 98 = .ok (.goto (-60), 3) := by decide +kernel
theorem dX12_back_101 : decode cX12_back 101 = .ok (.aload_n 0, 1) := by decide +kernel
theorem dX12_back_102 : decode cX12_back 102 = .ok (.invokevirtual 188, 3) := by decide +kernel
theorem dX12_back_105 : decode cX12_back 105 = .ok (.iload 5, 2) := by decide +kernel
theorem dX12_back_107 : decode cX12_back 107 = .ok (.ireturn, 1) := by decide +kernel
theorem dX12_news_0 : decode cX12_news 0 = .ok (.aload_n 0, 1) := by decide +kernel
theorem dX12_news_1 : decode cX12_news 1 = .ok (.iconst 0, 1) := by decide +kernel
theorem dX12_news_2 : decode cX12_news 2 = .ok (.putfield 65, 3) := by decide +kernel
theorem dX12_news_5 : decode cX12_news 5 = .ok (.aload_n 0, 1) := by decide +kernel
theorem dX12_news_6 : decode cX12_news 6 = .ok (.iload_n 1, 1) := by decide +kernel
theorem dX12_news_7 : decode cX12_news 7 = .ok (.invokevirtual 75, 3) := by decide +kernel
theorem dX12_news_10 : decode cX12_news 10 = .ok (.ifCond .ne 9, 3) := by decide +kernel
theorem dX12_news_13 : decode cX12_news 13 = .ok (.aload_n 0, 1) := by decide +kernel
theorem dX12_news_14 : decode cX12_news 14 = .ok (.iconst (-1), 1) := by decide +kernel
theorem dX12_news_15 : decode cX12_news 15 = .ok (.invokevirtual 134, 3) := by decide +kernel
theorem dX12_news_18 : decode cX12_news 18 = .ok (.ireturn, 1) := by decide +kernel
theorem dX12_news_19 : decode cX12_news 19 = .ok (.aload_n 0, 1) := by decide +kernel
theorem dX12_news_20 : decode cX12_news 20 = .ok (.invokevirtual 182, 3) := by decide +kernel
theorem dX12_news_23 : decode cX12_news 23 = .ok (.iconst 1, 1) := by decide +kernel
theorem dX12_news_24 : decode cX12_news 24 = .ok (.aload_n 0, 1) := by decide +kernel
theorem dX12_news_25 : decode cX12_news 25 = .ok (.getfield 68, 3) := by decide +kernel
theorem dX12_news_28 : decode cX12_news 28 = .ok (.ishl, 1) := by decide +kernel
theorem dX12_news_29 : decode cX12_news 29 = .ok (.iconst 1, 1) := by decide +kernel
theorem dX12_news_30 : decode cX12_news 30 = .ok (.isub, 1) := by decide +kernel
theorem dX12_news_31 : decode cX12_news 31 = .ok (.istore_n 2, 1) := by decide +kernel
theorem dX12_news_32 : decode cX12_news 32 = .ok (.iconst 1, 1) := by decide +kernel
theorem dX12_news_33 : decode cX12_news 33 = .ok (.iload_n 1, 1) := by decide +kernel
theorem dX12_news_34 : decode cX12_news 34 = .ok (.ishl, 1) := by decide +kernel
theorem dX12_news_35 : decode cX12_news 35 = .ok (.istore_n 3, 1) := by decide +kernel
theorem dX12_news_36 : decode cX12_news 36 = .ok (.iload_n 3, 1) := by decide +kernel
theorem dX12_news_37 : decode cX12_news 37 = .ok (.iload_n 2, 1) := by decide +kernel
theorem dX12_news_38 : decode cX12_news 38 = .ok (.if_icmp .ne 7, 3) := by decide +kernel
theorem dX12_news_41 : decode cX12_news 41 = .ok (.iconst 0, 1) := by decide +kernel
theorem dX12_news_42 : decode cX12_news 42 = .ok (.goto 5, 3) := by decide +kernel
theorem dX12_news_45 : decode cX12_news 45 = .ok (.bipush (-9), 2) := by decide +kernel
theorem dX12_news_47 : decode cX12_news 47 = .ok (.istore 4, 2) := by decide +kernel
theorem dX12_news_49 : decode cX12_news 49 = .ok (.iconst 1, 1) := by decide +kernel
theorem dX12_news_50 : decode cX12_news 50 = .ok (.istore 5, 2) := by decide +kernel
theorem dX12_news_52 : decode cX12_news 52 = .ok (.iload 5, 2) := by decide +kernel
theorem dX12_news_54 : decode cX12_news 54 = .ok (.bipush 40, 2) := by decide +kernel
theorem dX12_news_56 : decode cX12_news 56 = .ok (.if_icmp .gt 40, 3) := by decide +kernel
theorem dX12_news_59 : decode cX12_news 59 = .ok (.iload 4, 2) := by decide +kernel
theorem dX12_news_61 : decode cX12_news 61 = .ok (.ifCond .ge 35, 3) := by decide +kernel
theorem dX12_news_64 : decode cX12_news 64 = .ok (.aload_n 0, 1) := by decide +kernel
theorem dX12_news_65 : decode cX12_news 65 = .ok (.iload_n 3, 1) := by decide +kernel
theorem dX12_news_66 : decode cX12_news 66 = .ok (.invokevirtual 218, 3) := by decide +kernel
theorem dX12_news_69 : decode cX12_news 69 = .ok (.istore_n 3, 1) := by decide +kernel
theorem dX12_news_70 : decode cX12_news 70 = .ok (.iload_n 3, 1) := by decide +kernel
theorem dX12_news_71 : decode cX12_news 71 = .ok (.iload_n 2, 1) := by decide +kernel
theorem dX12_news_72 : decode cX12_news 72 = .ok (.if_icmp .ne 8, 3) := by decide +kernel
theorem dX12_news_75 : decode cX12_news 75 = .ok (.iload 5, 2) := by decide +kernel
theorem dX12_news_77 : decode cX12_news 77 = .ok (.goto 5, 3) := by decide +kernel
theorem dX12_news_80 : decode cX12_news 80 = .ok (.bipush (-9), 2) := by decide +kernel
theorem dX12_news_82 : decode cX12_news 82 = .ok (.istore 4, 2) := by decide +kernel
theorem dX12_news_84 : decode cX12_news 84 = .ok (.aload_n 0, 1) := by decide +kernel
theorem dX12_news_85 : decode cX12_news 85 = .ok (.iconst 1, 1) := by decide +kernel
theorem dX12_news_86 : decode cX12_news 86 = .ok (.invokevirtual 199, 3) := by decide +kernel
theorem dX12_news_89 : decode cX12_news 89 = .ok (.pop, 1) := by decide +kernel
theorem dX12_news_90 : decode cX12_news 90 = .ok (.iinc 5 1, 3) := by decide +kernel
theorem dX12_news_93 : decode cX12_news 93 = .ok (.goto (-41), 3) := by decide +kernel
theorem dX12_news_96 : decode cX12_news 96 = .ok (.aload_n 0, 1) := by decide +kernel
theorem dX12_news_97 : decode cX12_news 97 = .ok (.invokevirtual 188, 3) := by decide +kernel
theorem dX12_news_100 : decode cX12_news 100 = .ok (.iload 4, 2) := by decide +kernel
theorem dX12_news_102 : decode cX12_news 102 = .ok (.ireturn, 1) := by decide +kernel
theorem dX12_know_0 : decode cX12_know 0 = .ok (.aload_n 0, 1) := by decide +kernel
theorem dX12_know_1 : decode cX12_know 1 = .ok (.iconst 0, 1) := by decide +kernel
theorem dX12_know_2 : decode cX12_know 2 = .ok (.putfield 65, 3) := by decide +kernel
theorem dX12_know_5 : decode cX12_know 5 = .ok (.aload_n 0, 1) := by decide +kernel
theorem dX12_know_6 : decode cX12_know 6 = .ok (.iload_n 1, 1) := by decide +kernel
theorem dX12_know_7 : decode cX12_know 7 = .ok (.invokevirtual 75, 3) := by decide +kernel
theorem dX12_know_10 : decode cX12_know 10 = .ok (.ifCond .eq 12, 3) := by decide +kernel
theorem dX12_know_13 : decode cX12_know 13 = .ok (.iload_n 2, 1) := by decide +kernel
theorem dX12_know_14 : decode cX12_know 14 = .ok (.bipush 40, 2) := by decide +kernel
theorem dX12_know_16 : decode cX12_know 16 = .ok (.invokestatic 208, 3) := by decide +kernel
theorem dX12_know_19 : decode cX12_know 19 = .ok (.goto 4, 3) := by decide +kernel
theorem dX12_know_22 : decode cX12_know 22 = .ok (.iconst (-1), 1) := by decide +kernel
theorem dX12_know_23 : decode cX12_know 23 = .ok (.istore_n 3, 1) := by decide +kernel
theorem dX12_know_24 : decode cX12_know 24 = .ok (.iload_n 3, 1) := by decide +kernel
theorem dX12_know_25 : decode cX12_know 25 = .ok (.ifCond .ge 9, 3) := by decide +kernel
theorem dX12_know_28 : decode cX12_know 28 = .ok (.aload_n 0, 1) := by decide +kernel
theorem dX12_know_29 : decode cX12_know 29 = .ok (.iload_n 3, 1) := by decide +kernel
theorem dX12_know_30 : decode cX12_know 30 = .ok (.invokevirtual 134, 3) := by decide +kernel
theorem dX12_know_33 : decode cX12_know 33 = .ok (.ireturn, 1) := by decide +kernel
theorem dX12_know_34 : decode cX12_know 34 = .ok (.aload_n 0, 1) := by decide +kernel
theorem dX12_know_35 : decode cX12_know 35 = .ok (.invokevirtual 182, 3) := by decide +kernel
theorem dX12_know_38 : decode cX12_know 38 = .ok (.iconst 1, 1) := by decide +kernel
theorem dX12_know_39 : decode cX12_know 39 = .ok (.iload_n 1, 1) := by decide +kernel
theorem dX12_know_40 : decode cX12_know 40 = .ok (.ishl, 1) := by decide +kernel
theorem dX12_know_41 : decode cX12_know 41 = .ok (.istore 4, 2) := by decide +kernel
theorem dX12_know_43 : decode cX12_know 43 = .ok (.iconst 0, 1) := by decide +kernel
theorem dX12_know_44 : decode cX12_know 44 = .ok (.istore 5, 2) := by decide +kernel
theorem dX12_know_46 : decode cX12_know 46 = .ok (.iload 5, 2) := by decide +kernel
theorem dX12_know_48 : decode cX12_know 48 = .ok (.iload_n 2, 1) := by decide +kernel
theorem dX12_know_49 : decode cX12_know 49 = .ok (.if_icmp .ge 23, 3) := by decide +kernel
theorem dX12_know_52 : decode cX12_know 52 = .ok (.aload_n 0, 1) := by decide +kernel
theorem dX12_know_53 : decode cX12_know 53 = .ok (.iload 4, 2) := by decide +kernel
theorem dX12_know_55 : decode cX12_know 55 = .ok (.invokevirtual 218, 3) := by decide +kernel
theorem dX12_know_58 : decode cX12_know 58 = .ok (.istore 4, 2) := by decide +kernel
theorem dX12_know_60 : decode cX12_know 60 = .ok (.aload_n 0, 1) := by decide +kernel
theorem dX12_know_61 : decode cX12_know 61 = .ok (.iconst 1, 1) := by decide +kernel
theorem dX12_know_62 : decode cX12_know 62 = .ok (.invokevirtual 199, 3) := by decide +kernel
theorem dX12_know_65 : decode cX12_know 65 = .ok (.pop, 1) := by decide +kernel
theorem dX12_know_66 : decode cX12_know 66 = .ok (.iinc 5 1, 3) := by decide +kernel
theorem dX12_know_69 : decode cX12_know 69 = .ok (.goto (-23), 3) := by decide +kernel
theorem dX12_know_72 : decode cX12_know 72 = .ok (.aload_n 0, 1) := by decide +kernel
theorem dX12_know_73 : decode cX12_know 73 = .ok (.invokevirtual 188, 3) := by decide +kernel
theorem dX12_know_76 : decode cX12_know 76 = .ok (.iload 4, 2) := by decide +kernel
theorem dX12_know_78 : decode cX12_know 78 = .ok (.ireturn, 1) := by decide +kernel
theorem dX12_lost_0 : decode cX12_lost 0 = .ok (.aload_n 0, 1) := by decide +kernel
theorem dX12_lost_1 : decode cX12_lost 1 = .ok (.iconst 0, 1) := by decide +kernel
theorem dX12_lost_2 : decode cX12_lost 2 = .ok (.putfield 65, 3) := by decide +kernel
theorem dX12_lost_5 : decode cX12_lost 5 = .ok (.iconst 0, 1) := by decide +kernel
theorem dX12_lost_6 : decode cX12_lost 6 = .ok (.istore_n 1, 1) := by decide +kernel
theorem dX12_lost_7 : decode cX12_lost 7 = .ok (.iconst 0, 1) := by decide +kernel
theorem dX12_lost_8 : decode cX12_lost 8 = .ok (.istore_n 2, 1) := by decide +kernel
theorem dX12_lost_9 : decode cX12_lost 9 = .ok (.iload_n 2, 1) := by decide +kernel
theorem dX12_lost_10 : decode cX12_lost 10 = .ok (.aload_n 0, 1) := by decide +kernel
theorem dX12_lost_11 : decode cX12_lost 11 = .ok (.getfield 68, 3) := by decide +kernel
theorem dX12_lost_14 : decode cX12_lost 14 = .ok (.if_icmp .ge 73, 3) := by decide +kernel
theorem dX12_lost_17 : decode cX12_lost 17 = .ok (.iconst 1, 1) := by decide +kernel
theorem dX12_lost_18 : decode cX12_lost 18 = .ok (.istore_n 3, 1) := by decide +kernel
theorem dX12_lost_19 : decode cX12_lost 19 = .ok (.iconst 0, 1) := by decide +kernel
theorem dX12_lost_20 : decode cX12_lost 20 = .ok (.istore 4, 2) := by decide +kernel
theorem dX12_lost_22 : decode cX12_lost 22 = .ok (.iload 4, 2) := by decide +kernel
theorem dX12_lost_24 : decode cX12_lost 24 = .ok (.aload_n 0, 1) := by decide +kernel
theorem dX12_lost_25 : decode cX12_lost 25 = .ok (.getfield 68, 3) := by decide +kernel
theorem dX12_lost_28 : decode cX12_lost 28 = .ok (.if_icmp .ge 39, 3) := by decide +kernel
theorem dX12_lost_31 : decode cX12_lost 31 = .ok (.iload_n 3, 1) := by decide +kernel
theorem dX12_lost_32 : decode cX12_lost 32 = .ok (.ifCond .eq 27, 3) := by decide +kernel
theorem dX12_lost_35 : decode cX12_lost 35 = .ok (.iload_n 2, 1) := by decide +kernel
theorem dX12_lost_36 : decode cX12_lost 36 = .ok (.iload 4, 2) := by decide +kernel
theorem dX12_lost_38 : decode cX12_lost 38 = .ok (.if_icmp .eq 17, 3) := by decide +kernel
theorem dX12_lost_41 : decode cX12_lost 41 = .ok (.aload_n 0, 1) := by decide +kernel
theorem dX12_lost_42 : decode cX12_lost 42 = .ok (.iload_n 2, 1) := by decide +kernel
theorem dX12_lost_43 : decode cX12_lost 43 = .ok (.iload 4, 2) := by decide +kernel
theorem dX12_lost_45 : decode cX12_lost 45 = .ok (.invokevirtual 107, 3) := by decide +kernel
theorem dX12_lost_48 : decode cX12_lost 48 = .ok (.aload_n 0, 1) := by decide +kernel
theorem dX12_lost_49 : decode cX12_lost 49 = .ok (.getfield 13, 3) := by decide +kernel
theorem dX12_lost_52 : decode cX12_lost 52 = .ok (.if_icmp .le 7, 3) := by decide +kernel
theorem dX12_lost_55 : decode cX12_lost 55 = .ok (.iconst 1, 1) := by decide +kernel
theorem dX12_lost_56 : decode cX12_lost 56 = .ok (.goto 4, 3) := by decide +kernel
theorem dX12_lost_59 : decode cX12_lost 59 = .ok (.iconst 0, 1) := by decide +kernel
theorem dX12_lost_60 : decode cX12_lost 60 = .ok (.istore_n 3, 1) := by decide +kernel
theorem dX12_lost_61 : decode cX12_lost 61 = .ok (.iinc 4 1, 3) := by decide +kernel
theorem dX12_lost_64 : decode cX12_lost 64 = .ok (.goto (-42), 3) := by decide +kernel
theorem dX12_lost_67 : decode cX12_lost 67 = .ok (.iload_n 1, 1) := by decide +kernel
theorem dX12_lost_68 : decode cX12_lost 68 = .ok (.iload_n 3, 1) := by decide +kernel
theorem dX12_lost_69 : decode cX12_lost 69 = .ok (.ifCond .eq 9, 3) := by decide +kernel
theorem dX12_lost_72 : decode cX12_lost 72 = .ok (.iconst 1, 1) := by decide +kernel
theorem dX12_lost_73 : decode cX12_lost 73 = .ok (.iload_n 2, 1) := by decide +kernel
theorem dX12_lost_74 : decode cX12_lost 74 = .ok (.ishl, 1) := by decide +kernel
theorem dX12_lost_75 : decode cX12_lost 75 = .ok (.goto 4, 3) := by decide +kernel
theorem dX12_lost_78 : decode cX12_lost 78 = .ok (.iconst 0, 1) := by decide +kernel
theorem dX12_lost_79 : decode cX12_lost 79 = .ok (.ior, 1) := by decide +kernel
theorem dX12_lost_80 : decode cX12_lost 80 = .ok (.istore_n 1, 1) := by decide +kernel
theorem dX12_lost_81 : decode cX12_lost 81 = .ok (.iinc 2 1, 3) := by decide +kernel
theorem dX12_lost_84 : decode cX12_lost 84 = .ok (.goto (-75), 3) := by decide +kernel
theorem dX12_lost_87 : decode cX12_lost 87 = .ok (.iload_n 1, 1) := by decide +kernel
theorem dX12_lost_88 : decode cX12_lost 88 = .ok (.ireturn, 1) := by decide +kernel
theorem dX12_groups_0 : decode cX12_groups 0 = .ok (.aload_n 0, 1) := by decide +kernel
theorem dX12_groups_1 : decode cX12_groups 1 = .ok (.iconst 0, 1) := by decide +kernel
theorem dX12_groups_2 : decode cX12_groups 2 = .ok (.putfield 65, 3) := by decide +kernel
theorem dX12_groups_5 : decode cX12_groups 5 = .ok (.iconst 0, 1) := by decide +kernel
theorem dX12_groups_6 : decode cX12_groups 6 = .ok (.istore_n 1, 1) := by decide +kernel
theorem dX12_groups_7 : decode cX12_groups 7 = .ok (.iconst 0, 1) := by decide +kernel
theorem dX12_groups_8 : decode cX12_groups 8 = .ok (.istore_n 2, 1) := by decide +kernel
theorem dX12_groups_9 : decode cX12_groups 9 = .ok (.iload_n 2, 1) := by decide +kernel
theorem dX12_groups_10 : decode cX12_groups 10 = .ok (.aload_n 0, 1) := by decide +kernel
theorem dX12_groups_11 : decode cX12_groups 11 = .ok (.getfield 68, 3) := by decide +kernel
theorem dX12_groups_14 : decode cX12_groups 14 = .ok (.if_icmp .ge 55, 3) := by decide +kernel
theorem dX12_groups_17 : decode cX12_groups 17 = .ok (.iconst 1, 1) := by decide +kernel
theorem dX12_groups_18 : decode cX12_groups 18 = .ok (.iload_n 2, 1) := by decide +kernel
theorem dX12_groups_19 : decode cX12_groups 19 = .ok (.ishl, 1) := by decide +kernel
theorem dX12_groups_20 : decode cX12_groups 20 = .ok (.istore_n 3, 1) := by decide +kernel
theorem dX12_groups_21 : decode cX12_groups 21 = .ok (.iconst 0, 1) := by decide +kernel
theorem dX12_groups_22 : decode cX12_groups 22 = .ok (.istore 4, 2) := by decide +kernel
theorem dX12_groups_24 : decode cX12_groups 24 = .ok (.iload 4, 2) := by decide +kernel
theorem dX12_groups_26 : decode cX12_groups 26 = .ok (.aload_n 0, 1) := by decide +kernel
theorem dX12_groups_27 : decode cX12_groups 27 = .ok (.getfield 68, 3) := by decide +kernel
theorem dX12_groups_30 : decode cX12_groups 30 = .ok (.if_icmp .ge 15, 3) := by decide +kernel
theorem dX12_groups_33 : decode cX12_groups 33 = .ok (.aload_n 0, 1) := by decide +kernel
theorem dX12_groups_34 : decode cX12_groups 34 = .ok (.iload_n 3, 1) := by decide +kernel
theorem dX12_groups_35 : decode cX12_groups 35 = .ok (.invokevirtual 218, 3) := by decide +kernel
theorem dX12_groups_38 : decode cX12_groups 38 = .ok (.istore_n 3, 1) := by decide +kernel
theorem dX12_groups_39 : decode cX12_groups 39 = .ok (.iinc 4 1, 3) := by decide +kernel
theorem dX12_groups_42 : decode cX12_groups 42 = .ok (.goto (-18), 3) := by decide +kernel
theorem dX12_groups_45 : decode cX12_groups 45 = .ok (.iload_n 1, 1) := by decide +kernel
theorem dX12_groups_46 : decode cX12_groups 46 = .ok (.iload_n 3, 1) := by decide +kernel
theorem dX12_groups_47 : decode cX12_groups 47 = .ok (.iconst 1, 1) := by decide +kernel
theorem dX12_groups_48 : decode cX12_groups 48 = .ok (.iload_n 2, 1) := by decide +kernel
theorem dX12_groups_49 : decode cX12_groups 49 = .ok (.ishl, 1) := by decide +kernel
theorem dX12_groups_50 : decode cX12_groups 50 = .ok (.iconst 1, 1) := by decide +kernel
theorem dX12_groups_51 : decode cX12_groups 51 = .ok (.isub, 1) := by decide +kernel
theorem dX12_groups_52 : decode cX12_groups 52 = .ok (.iand, 1) := by decide +kernel
theorem dX12_groups_53 : decode cX12_groups 53 = .ok (.ifCond .ne 7, 3) := by decide +kernel
theorem dX12_groups_56 : decode cX12_groups 56 = .ok (.iconst 1, 1) := by decide +kernel
theorem dX12_groups_57 : decode cX12_groups 57 = .ok (.goto 4, 3) := by decide +kernel
theorem dX12_groups_60 : decode cX12_groups 60 = .ok (.iconst 0, 1) := by decide +kernel
theorem dX12_groups_61 : decode cX12_groups 61 = .ok (.iadd, 1) := by decide +kernel
theorem dX12_groups_62 : decode cX12_groups 62 = .ok (.istore_n 1, 1) := by decide +kernel
theorem dX12_groups_63 : decode cX12_groups 63 = .ok (.iinc 2 1, 3) := by decide +kernel
theorem dX12_groups_66 : decode cX12_groups 66 = .ok (.goto (-57), 3) := by decide +kernel
theorem dX12_groups_69 : decode cX12_groups 69 = .ok (.iload_n 1, 1) := by decide +kernel
theorem dX12_groups_70 : decode cX12_groups 70 = .ok (.ireturn, 1) := by decide +kernel
theorem dX12_hungryIn_0 : decode cX12_hungryIn 0 = .ok (.iconst 0, 1) := by decide +kernel
theorem dX12_hungryIn_1 : decode cX12_hungryIn 1 = .ok (.istore_n 2, 1) := by decide +kernel
theorem dX12_hungryIn_2 : decode cX12_hungryIn 2 = .ok (.iconst 0, 1) := by decide +kernel
theorem dX12_hungryIn_3 : decode cX12_hungryIn 3 = .ok (.istore_n 3, 1) := by decide +kernel
theorem dX12_hungryIn_4 : decode cX12_hungryIn 4 = .ok (.iload_n 3, 1) := by decide +kernel
theorem dX12_hungryIn_5 : decode cX12_hungryIn 5 = .ok (.iload_n 1, 1) := by decide +kernel
theorem dX12_hungryIn_6 : decode cX12_hungryIn 6 = .ok (.if_icmp .ge 16, 3) := by decide +kernel
theorem dX12_hungryIn_9 : decode cX12_hungryIn 9 = .ok (.iload_n 2, 1) := by decide +kernel
theorem dX12_hungryIn_10 : decode cX12_hungryIn 10 = .ok (.aload_n 0, 1) := by decide +kernel
theorem dX12_hungryIn_11 : decode cX12_hungryIn 11 = .ok (.invokevirtual 99, 3) := by decide +kernel
theorem dX12_hungryIn_14 : decode cX12_hungryIn 14 = .ok (.iadd, 1) := by decide +kernel
theorem dX12_hungryIn_15 : decode cX12_hungryIn 15 = .ok (.istore_n 2, 1) := by decide +kernel
theorem dX12_hungryIn_16 : decode cX12_hungryIn 16 = .ok (.iinc 3 1, 3) := by decide +kernel
theorem dX12_hungryIn_19 : decode cX12_hungryIn 19 = .ok (.goto (-15), 3) := by decide +kernel
theorem dX12_hungryIn_22 : decode cX12_hungryIn 22 = .ok (.iload_n 2, 1) := by decide +kernel
theorem dX12_hungryIn_23 : decode cX12_hungryIn 23 = .ok (.ireturn, 1) := by decide +kernel
theorem dX12_hungry_0 : decode cX12_hungry 0 = .ok (.aload_n 0, 1) := by decide +kernel
theorem dX12_hungry_1 : decode cX12_hungry 1 = .ok (.iconst 0, 1) := by decide +kernel
theorem dX12_hungry_2 : decode cX12_hungry 2 = .ok (.putfield 65, 3) := by decide +kernel
theorem dX12_hungry_5 : decode cX12_hungry 5 = .ok (.iload_n 1, 1) := by decide +kernel
theorem dX12_hungry_6 : decode cX12_hungry 6 = .ok (.bipush 60, 2) := by decide +kernel
theorem dX12_hungry_8 : decode cX12_hungry 8 = .ok (.invokestatic 208, 3) := by decide +kernel
theorem dX12_hungry_11 : decode cX12_hungry 11 = .ok (.istore_n 2, 1) := by decide +kernel
theorem dX12_hungry_12 : decode cX12_hungry 12 = .ok (.iload_n 2, 1) := by decide +kernel
theorem dX12_hungry_13 : decode cX12_hungry 13 = .ok (.ifCond .ge 9, 3) := by decide +kernel
theorem dX12_hungry_16 : decode cX12_hungry 16 = .ok (.aload_n 0, 1) := by decide +kernel
theorem dX12_hungry_17 : decode cX12_hungry 17 = .ok (.iload_n 2, 1) := by decide +kernel
theorem dX12_hungry_18 : decode cX12_hungry 18 = .ok (.invokevirtual 134, 3) := by decide +kernel
theorem dX12_hungry_21 : decode cX12_hungry 21 = .ok (.ireturn, 1) := by decide +kernel
theorem dX12_hungry_22 : decode cX12_hungry 22 = .ok (.aload_n 0, 1) := by decide +kernel
theorem dX12_hungry_23 : decode cX12_hungry 23 = .ok (.invokevirtual 182, 3) := by decide +kernel
theorem dX12_hungry_26 : decode cX12_hungry 26 = .ok (.aload_n 0, 1) := by decide +kernel
theorem dX12_hungry_27 : decode cX12_hungry 27 = .ok (.iload_n 1, 1) := by decide +kernel
theorem dX12_hungry_28 : decode cX12_hungry 28 = .ok (.invokevirtual 221, 3) := by decide +kernel
theorem dX12_hungry_31 : decode cX12_hungry 31 = .ok (.istore_n 3, 1) := by decide +kernel
theorem dX12_hungry_32 : decode cX12_hungry 32 = .ok (.aload_n 0, 1) := by decide +kernel
theorem dX12_hungry_33 : decode cX12_hungry 33 = .ok (.invokevirtual 188, 3) := by decide +kernel
theorem dX12_hungry_36 : decode cX12_hungry 36 = .ok (.iload_n 3, 1) := by decide +kernel
theorem dX12_hungry_37 : decode cX12_hungry 37 = .ok (.ireturn, 1) := by decide +kernel
theorem dX12_lasts_0 : decode cX12_lasts 0 = .ok (.aload_n 0, 1) := by decide +kernel
theorem dX12_lasts_1 : decode cX12_lasts 1 = .ok (.iconst 0, 1) := by decide +kernel
theorem dX12_lasts_2 : decode cX12_lasts 2 = .ok (.putfield 65, 3) := by decide +kernel
theorem dX12_lasts_5 : decode cX12_lasts 5 = .ok (.aload_n 0, 1) := by decide +kernel
theorem dX12_lasts_6 : decode cX12_lasts 6 = .ok (.iload_n 1, 1) := by decide +kernel
theorem dX12_lasts_7 : decode cX12_lasts 7 = .ok (.invokevirtual 75, 3) := by decide +kernel
theorem dX12_lasts_10 : decode cX12_lasts 10 = .ok (.ifCond .ne 9, 3) := by decide +kernel
theorem dX12_lasts_13 : decode cX12_lasts 13 = .ok (.aload_n 0, 1) := by decide +kernel
theorem dX12_lasts_14 : decode cX12_lasts 14 = .ok (.iconst (-1), 1) := by decide +kernel
theorem dX12_lasts_15 : decode cX12_lasts 15 = .ok (.invokevirtual 134, 3) := by decide +kernel
theorem dX12_lasts_18 : decode cX12_lasts 18 = .ok (.ireturn, 1) := by decide +kernel
theorem dX12_lasts_19 : decode cX12_lasts 19 = .ok (.aload_n 0, 1) := by decide +kernel
theorem dX12_lasts_20 : decode cX12_lasts 20 = .ok (.getfield 29, 3) := by decide +kernel
theorem dX12_lasts_23 : decode cX12_lasts 23 = .ok (.iload_n 1, 1) := by decide +kernel
theorem dX12_lasts_24 : decode cX12_lasts 24 = .ok (.iaload, 1) := by decide +kernel
theorem dX12_lasts_25 : decode cX12_lasts 25 = .ok (.ifCond .ne 8, 3) := by decide +kernel
theorem dX12_lasts_28 : decode cX12_lasts 28 = .ok (.bipush 99, 2) := by decide +kernel
theorem dX12_lasts_30 : decode cX12_lasts 30 = .ok (.goto 16, 3) := by decide +kernel
theorem dX12_lasts_33 : decode cX12_lasts 33 = .ok (.aload_n 0, 1) := by decide +kernel
theorem dX12_lasts_34 : decode cX12_lasts 34 = .ok (.getfield 32, 3) := by decide +kernel
theorem dX12_lasts_37 : decode cX12_lasts 37 = .ok (.iload_n 1, 1) := by decide +kernel
theorem dX12_lasts_38 : decode cX12_lasts 38 = .ok (.iaload, 1) := by decide +kernel
theorem dX12_lasts_39 : decode cX12_lasts 39 = .ok (.aload_n 0, 1) := by decide +kernel
theorem dX12_lasts_40 : decode cX12_lasts 40 = .ok (.getfield 29, 3) := by decide +kernel
theorem dX12_lasts_43 : decode cX12_lasts 43 = .ok (.iload_n 1, 1) := by decide +kernel
theorem dX12_lasts_44 : decode cX12_lasts 44 = .ok (.iaload, 1) := by decide +kernel
theorem dX12_lasts_45 : decode cX12_lasts 45 = .ok (.idiv, 1) := by decide +kernel
theorem dX12_lasts_46 : decode cX12_lasts 46 = .ok (.istore_n 2, 1) := by decide +kernel
theorem dX12_lasts_47 : decode cX12_lasts 47 = .ok (.iload_n 2, 1) := by decide +kernel
theorem dX12_lasts_48 : decode cX12_lasts 48 = .ok (.bipush 99, 2) := by decide +kernel
theorem dX12_lasts_50 : decode cX12_lasts 50 = .ok (.if_icmp .le 8, 3) := by decide +kernel
theorem dX12_lasts_53 : decode cX12_lasts 53 = .ok (.bipush 99, 2) := by decide +kernel
theorem dX12_lasts_55 : decode cX12_lasts 55 = .ok (.goto 4, 3) := by decide +kernel
theorem dX12_lasts_58 : decode cX12_lasts 58 = .ok (.iload_n 2, 1) := by decide +kernel
theorem dX12_lasts_59 : decode cX12_lasts 59 = .ok (.ireturn, 1) := by decide +kernel
theorem dX12_held_0 : decode cX12_held 0 = .ok (.iload_n 0, 1) := by decide +kernel
theorem dX12_held_1 : decode cX12_held 1 = .ok (.iload_n 1, 1) := by decide +kernel
theorem dX12_held_2 : decode cX12_held 2 = .ok (.if_icmp .le 7, 3) := by decide +kernel
theorem dX12_held_5 : decode cX12_held 5 = .ok (.iload_n 1, 1) := by decide +kernel
theorem dX12_held_6 : decode cX12_held 6 = .ok (.goto 4, 3) := by decide +kernel
theorem dX12_held_9 : decode cX12_held 9 = .ok (.iload_n 0, 1) := by decide +kernel
theorem dX12_held_10 : decode cX12_held 10 = .ok (.ireturn, 1) := by decide +kernel
theorem dX12_share_0 : decode cX12_share 0 = .ok (.aload_n 0, 1) := by decide +kernel
theorem dX12_share_1 : decode cX12_share 1 = .ok (.iconst 0, 1) := by decide +kernel
theorem dX12_share_2 : decode cX12_share 2 = .ok (.putfield 65, 3) := by decide +kernel
theorem dX12_share_5 : decode cX12_share 5 = .ok (.aload_n 0, 1) := by decide +kernel
theorem dX12_share_6 : decode cX12_share 6 = .ok (.iload_n 1, 1) := by decide +kernel
theorem dX12_share_7 : decode cX12_share 7 = .ok (.iload_n 2, 1) := by decide +kernel
theorem dX12_share_8 : decode cX12_share 8 = .ok (.invokevirtual 202, 3) := by decide +kernel
theorem dX12_share_11 : decode cX12_share 11 = .ok (.ifCond .ne 9, 3) := by decide +kernel
theorem dX12_share_14 : decode cX12_share 14 = .ok (.aload_n 0, 1) := by decide +kernel
theorem dX12_share_15 : decode cX12_share 15 = .ok (.iconst (-1), 1) := by decide +kernel
theorem dX12_share_16 : decode cX12_share 16 = .ok (.invokevirtual 134, 3) := by decide +kernel
theorem dX12_share_19 : decode cX12_share 19 = .ok (.ireturn, 1) := by decide +kernel
theorem dX12_share_20 : decode cX12_share 20 = .ok (.aload_n 0, 1) := by decide +kernel
theorem dX12_share_21 : decode cX12_share 21 = .ok (.iload_n 1, 1) := by decide +kernel
theorem dX12_share_22 : decode cX12_share 22 = .ok (.iload_n 2, 1) := by decide +kernel
theorem dX12_share_23 : decode cX12_share 23 = .ok (.invokevirtual 107, 3) := by decide +kernel
theorem dX12_share_26 : decode cX12_share 26 = .ok (.iconst 1, 1) := by decide +kernel
theorem dX12_share_27 : decode cX12_share 27 = .ok (.if_icmp .le 10, 3) := by decide +kernel
theorem dX12_share_30 : decode cX12_share 30 = .ok (.aload_n 0, 1) := by decide +kernel
theorem dX12_share_31 : decode cX12_share 31 = .ok (.bipush (-3), 2) := by decide +kernel
theorem dX12_share_33 : decode cX12_share 33 = .ok (.invokevirtual 134, 3) := by decide +kernel
theorem dX12_share_36 : decode cX12_share 36 = .ok (.ireturn, 1) := by decide +kernel
theorem dX12_share_37 : decode cX12_share 37 = .ok (.aload_n 0, 1) := by decide +kernel
theorem dX12_share_38 : decode cX12_share 38 = .ok (.getfield 32, 3) := by decide +kernel
theorem dX12_share_41 : decode cX12_share 41 = .ok (.iload_n 1, 1) := by decide +kernel
theorem dX12_share_42 : decode cX12_share 42 = .ok (.iaload, 1) := by decide +kernel
theorem dX12_share_43 : decode cX12_share 43 = .ok (.aload_n 0, 1) := by decide +kernel
theorem dX12_share_44 : decode cX12_share 44 = .ok (.getfield 32, 3) := by decide +kernel
theorem dX12_share_47 : decode cX12_share 47 = .ok (.iload_n 2, 1) := by decide +kernel
theorem dX12_share_48 : decode cX12_share 48 = .ok (.iaload, 1) := by decide +kernel
theorem dX12_share_49 : decode cX12_share 49 = .ok (.iadd, 1) := by decide +kernel
theorem dX12_share_50 : decode cX12_share 50 = .ok (.istore_n 3, 1) := by decide +kernel
theorem dX12_share_51 : decode cX12_share 51 = .ok (.aload_n 0, 1) := by decide +kernel
theorem dX12_share_52 : decode cX12_share 52 = .ok (.getfield 29, 3) := by decide +kernel
theorem dX12_share_55 : decode cX12_share 55 = .ok (.iload_n 1, 1) := by decide +kernel
theorem dX12_share_56 : decode cX12_share 56 = .ok (.iaload, 1) := by decide +kernel
theorem dX12_share_57 : decode cX12_share 57 = .ok (.aload_n 0, 1) := by decide +kernel
theorem dX12_share_58 : decode cX12_share 58 = .ok (.getfield 29, 3) := by decide +kernel
theorem dX12_share_61 : decode cX12_share 61 = .ok (.iload_n 2, 1) := by decide +kernel
theorem dX12_share_62 : decode cX12_share 62 = .ok (.iaload, 1) := by decide +kernel
theorem dX12_share_63 : decode cX12_share 63 = .ok (.iadd, 1) := by decide +kernel
theorem dX12_share_64 : decode cX12_share 64 = .ok (.istore 4, 2) := by decide +kernel
theorem dX12_share_66 : decode cX12_share 66 = .ok (.iload 4, 2) := by decide +kernel
theorem dX12_share_68 : decode cX12_share 68 = .ok (.ifCond .ne 9, 3) := by decide +kernel
theorem dX12_share_71 : decode cX12_share 71 = .ok (.iload_n 3, 1) := by decide +kernel
theorem dX12_share_72 : decode cX12_share 72 = .ok (.iconst 2, 1) := by decide +kernel
theorem dX12_share_73 : decode cX12_share 73 = .ok (.idiv, 1) := by decide +kernel
theorem dX12_share_74 : decode cX12_share 74 = .ok (.goto 14, 3) := by decide +kernel
theorem dX12_share_77 : decode cX12_share 77 = .ok (.iload_n 3, 1) := by decide +kernel
theorem dX12_share_78 : decode cX12_share 78 = .ok (.aload_n 0, 1) := by decide +kernel
theorem dX12_share_79 : decode cX12_share 79 = .ok (.getfield 29, 3) := by decide +kernel
theorem dX12_share_82 : decode cX12_share 82 = .ok (.iload_n 2, 1) := by decide +kernel
theorem dX12_share_83 : decode cX12_share 83 = .ok (.iaload, 1) := by decide +kernel
theorem dX12_share_84 : decode cX12_share 84 = .ok (.imul, 1) := by decide +kernel
theorem dX12_share_85 : decode cX12_share 85 = .ok (.iload 4, 2) := by decide +kernel
theorem dX12_share_87 : decode cX12_share 87 = .ok (.idiv, 1) := by decide +kernel
theorem dX12_share_88 : decode cX12_share 88 = .ok (.istore 5, 2) := by decide +kernel
theorem dX12_share_90 : decode cX12_share 90 = .ok (.iload 4, 2) := by decide +kernel
theorem dX12_share_92 : decode cX12_share 92 = .ok (.ifCond .ne 9, 3) := by decide +kernel
theorem dX12_share_95 : decode cX12_share 95 = .ok (.iload_n 3, 1) := by decide +kernel
theorem dX12_share_96 : decode cX12_share 96 = .ok (.iconst 2, 1) := by decide +kernel
theorem dX12_share_97 : decode cX12_share 97 = .ok (.idiv, 1) := by decide +kernel
theorem dX12_share_98 : decode cX12_share 98 = .ok (.goto 14, 3) := by decide +kernel
theorem dX12_share_101 : decode cX12_share 101 = .ok (.iload_n 3, 1) := by decide +kernel
theorem dX12_share_102 : decode cX12_share 102 = .ok (.aload_n 0, 1) := by decide +kernel
theorem dX12_share_103 : decode cX12_share 103 = .ok (.getfield 29, 3) := by decide +kernel
theorem dX12_share_106 : decode cX12_share 106 = .ok (.iload_n 1, 1) := by decide +kernel
theorem dX12_share_107 : decode cX12_share 107 = .ok (.iaload, 1) := by decide +kernel
theorem dX12_share_108 : decode cX12_share 108 = .ok (.imul, 1) := by decide +kernel
theorem dX12_share_109 : decode cX12_share 109 = .ok (.iload 4, 2) := by decide +kernel
theorem dX12_share_111 : decode cX12_share 111 = .ok (.idiv, 1) := by decide +kernel
theorem dX12_share_112 : decode cX12_share 112 = .ok (.istore 6, 2) := by decide +kernel
theorem dX12_share_114 : decode cX12_share 114 = .ok (.iload_n 3, 1) := by decide +kernel
theorem dX12_share_115 : decode cX12_share 115 = .ok (.iload 6, 2) := by decide +kernel
theorem dX12_share_117 : decode cX12_share 117 = .ok (.isub, 1) := by decide +kernel
theorem dX12_share_118 : decode cX12_share 118 = .ok (.iload 5, 2) := by decide +kernel
theorem dX12_share_120 : decode cX12_share 120 = .ok (.isub, 1) := by decide +kernel
theorem dX12_share_121 : decode cX12_share 121 = .ok (.istore 7, 2) := by decide +kernel
theorem dX12_share_123 : decode cX12_share 123 = .ok (.aload_n 0, 1) := by decide +kernel
theorem dX12_share_124 : decode cX12_share 124 = .ok (.getfield 32, 3) := by decide +kernel
theorem dX12_share_127 : decode cX12_share 127 = .ok (.iload_n 1, 1) := by decide +kernel
theorem dX12_share_128 : decode cX12_share 128 = .ok (.iload 6, 2) := by decide +kernel
theorem dX12_share_130 : decode cX12_share 130 = .ok (.iload 7, 2) := by decide +kernel
theorem dX12_share_132 : decode cX12_share 132 = .ok (.iadd, 1) := by decide +kernel
theorem dX12_share_133 : decode cX12_share 133 = .ok (.sipush 999, 3) := by decide +kernel
theorem dX12_share_136 : decode cX12_share 136 = .ok (.invokestatic 224, 3) := by decide +kernel
theorem dX12_share_139 : decode cX12_share 139 = .ok (.iastore, 1) := by decide +kernel
theorem dX12_share_140 : decode cX12_share 140 = .ok (.aload_n 0, 1) := by decide +kernel
theorem dX12_share_141 : decode cX12_share 141 = .ok (.getfield 32, 3) := by decide +kernel
theorem dX12_share_144 : decode cX12_share 144 = .ok (.iload_n 2, 1) := by decide +kernel
theorem dX12_share_145 : decode cX12_share 145 = .ok (.iload 5, 2) := by decide +kernel
theorem dX12_share_147 : decode cX12_share 147 = .ok (.sipush 999, 3) := by decide +kernel
theorem dX12_share_150 : decode cX12_share 150 = .ok (.invokestatic 224, 3) := by decide +kernel
theorem dX12_share_153 : decode cX12_share 153 = .ok (.iastore, 1) := by decide +kernel
theorem dX12_share_154 : decode cX12_share 154 = .ok (.aload_n 0, 1) := by decide +kernel
theorem dX12_share_155 : decode cX12_share 155 = .ok (.getfield 32, 3) := by decide +kernel
theorem dX12_share_158 : decode cX12_share 158 = .ok (.iload_n 1, 1) := by decide +kernel
theorem dX12_share_159 : decode cX12_share 159 = .ok (.iaload, 1) := by decide +kernel
theorem dX12_share_160 : decode cX12_share 160 = .ok (.ireturn, 1) := by decide +kernel
theorem dX12_hungryWithout_0 : decode cX12_hungryWithout 0 = .ok (.aload_n 0, 1) := by decide +kernel
theorem dX12_hungryWithout_1 : decode cX12_hungryWithout 1 = .ok (.invokevirtual 182, 3) := by decide +kernel
theorem dX12_hungryWithout_4 : decode cX12_hungryWithout 4 = .ok (.iconst (-1), 1) := by decide +kernel
theorem dX12_hungryWithout_5 : decode cX12_hungryWithout 5 = .ok (.istore_n 3, 1) := by decide +kernel
theorem dX12_hungryWithout_6 : decode cX12_hungryWithout 6 = .ok (.iconst 0, 1) := by decide +kernel
theorem dX12_hungryWithout_7 : decode cX12_hungryWithout 7 = .ok (.istore 4, 2) := by decide +kernel
theorem dX12_hungryWithout_9 : decode cX12_hungryWithout 9 = .ok (.iload 4, 2) := by decide +kernel
theorem dX12_hungryWithout_11 : decode cX12_hungryWithout 11 = .ok (.aload_n 0, 1) := by decide +kernel
theorem dX12_hungryWithout_12 : decode cX12_hungryWithout 12 = .ok (.getfield 68, 3) := by decide +kernel
theorem dX12_hungryWithout_15 : decode cX12_hungryWithout 15 = .ok (.if_icmp .ge 42, 3) := by decide +kernel
theorem dX12_hungryWithout_18 : decode cX12_hungryWithout 18 = .ok (.iload 4, 2) := by decide +kernel
theorem dX12_hungryWithout_20 : decode cX12_hungryWithout 20 = .ok (.iload_n 1, 1) := by decide +kernel
theorem dX12_hungryWithout_21 : decode cX12_hungryWithout 21 = .ok (.if_icmp .eq 28, 3) := by decide +kernel
theorem dX12_hungryWithout_24 : decode cX12_hungryWithout 24 = .ok (.iload_n 3, 1) := by decide +kernel
theorem dX12_hungryWithout_25 : decode cX12_hungryWithout 25 = .ok (.ifCond .lt 19, 3) := by decide +kernel
theorem dX12_hungryWithout_28 : decode cX12_hungryWithout 28 = .ok (.aload_n 0, 1) := by decide +kernel
theorem dX12_hungryWithout_29 : decode cX12_hungryWithout 29 = .ok (.iload_n 1, 1) := by decide +kernel
theorem dX12_hungryWithout_30 : decode cX12_hungryWithout 30 = .ok (.iload 4, 2) := by decide +kernel
theorem dX12_hungryWithout_32 : decode cX12_hungryWithout 32 = .ok (.invokevirtual 107, 3) := by decide +kernel
theorem dX12_hungryWithout_35 : decode cX12_hungryWithout 35 = .ok (.aload_n 0, 1) := by decide +kernel
theorem dX12_hungryWithout_36 : decode cX12_hungryWithout 36 = .ok (.iload_n 1, 1) := by decide +kernel
theorem dX12_hungryWithout_37 : decode cX12_hungryWithout 37 = .ok (.iload_n 3, 1) := by decide +kernel
theorem dX12_hungryWithout_38 : decode cX12_hungryWithout 38 = .ok (.invokevirtual 107, 3) := by decide +kernel
theorem dX12_hungryWithout_41 : decode cX12_hungryWithout 41 = .ok (.if_icmp .ge 8, 3) := by decide +kernel
theorem dX12_hungryWithout_44 : decode cX12_hungryWithout 44 = .ok (.iload 4, 2) := by decide +kernel
theorem dX12_hungryWithout_46 : decode cX12_hungryWithout 46 = .ok (.goto 4, 3) := by decide +kernel
theorem dX12_hungryWithout_49 : decode cX12_hungryWithout 49 = .ok (.iload_n 3, 1) := by decide +kernel
theorem dX12_hungryWithout_50 : decode cX12_hungryWithout 50 = .ok (.istore_n 3, 1) := by decide +kernel
theorem dX12_hungryWithout_51 : decode cX12_hungryWithout 51 = .ok (.iinc 4 1, 3) := by decide +kernel
theorem dX12_hungryWithout_54 : decode cX12_hungryWithout 54 = .ok (.goto (-45), 3) := by decide +kernel
theorem dX12_hungryWithout_57 : decode cX12_hungryWithout 57 = .ok (.aload_n 0, 1) := by decide +kernel
theorem dX12_hungryWithout_58 : decode cX12_hungryWithout 58 = .ok (.getfield 29, 3) := by decide +kernel
theorem dX12_hungryWithout_61 : decode cX12_hungryWithout 61 = .ok (.iload_n 3, 1) := by decide +kernel
theorem dX12_hungryWithout_62 : decode cX12_hungryWithout 62 = .ok (.aload_n 0, 1) := by decide +kernel
theorem dX12_hungryWithout_63 : decode cX12_hungryWithout 63 = .ok (.getfield 29, 3) := by decide +kernel
theorem dX12_hungryWithout_66 : decode cX12_hungryWithout 66 = .ok (.iload_n 3, 1) := by decide +kernel
theorem dX12_hungryWithout_67 : decode cX12_hungryWithout 67 = .ok (.iaload, 1) := by decide +kernel
theorem dX12_hungryWithout_68 : decode cX12_hungryWithout 68 = .ok (.aload_n 0, 1) := by decide +kernel
theorem dX12_hungryWithout_69 : decode cX12_hungryWithout 69 = .ok (.getfield 29, 3) := by decide +kernel
theorem dX12_hungryWithout_72 : decode cX12_hungryWithout 72 = .ok (.iload_n 1, 1) := by decide +kernel
theorem dX12_hungryWithout_73 : decode cX12_hungryWithout 73 = .ok (.iaload, 1) := by decide +kernel
theorem dX12_hungryWithout_74 : decode cX12_hungryWithout 74 = .ok (.iadd, 1) := by decide +kernel
theorem dX12_hungryWithout_75 : decode cX12_hungryWithout 75 = .ok (.bipush 9, 2) := by decide +kernel
theorem dX12_hungryWithout_77 : decode cX12_hungryWithout 77 = .ok (.invokestatic 224, 3) := by decide +kernel
theorem dX12_hungryWithout_80 : decode cX12_hungryWithout 80 = .ok (.iastore, 1) := by decide +kernel
theorem dX12_hungryWithout_81 : decode cX12_hungryWithout 81 = .ok (.aload_n 0, 1) := by decide +kernel
theorem dX12_hungryWithout_82 : decode cX12_hungryWithout 82 = .ok (.getfield 32, 3) := by decide +kernel
theorem dX12_hungryWithout_85 : decode cX12_hungryWithout 85 = .ok (.iload_n 3, 1) := by decide +kernel
theorem dX12_hungryWithout_86 : decode cX12_hungryWithout 86 = .ok (.aload_n 0, 1) := by decide +kernel
theorem dX12_hungryWithout_87 : decode cX12_hungryWithout 87 = .ok (.getfield 32, 3) := by decide +kernel
theorem dX12_hungryWithout_90 : decode cX12_hungryWithout 90 = .ok (.iload_n 3, 1) := by decide +kernel
theorem dX12_hungryWithout_91 : decode cX12_hungryWithout 91 = .ok (.iaload, 1) := by decide +kernel
theorem dX12_hungryWithout_92 : decode cX12_hungryWithout 92 = .ok (.aload_n 0, 1) := by decide +kernel
theorem dX12_hungryWithout_93 : decode cX12_hungryWithout 93 = .ok (.getfield 32, 3) := by decide +kernel
theorem dX12_hungryWithout_96 : decode cX12_hungryWithout 96 = .ok (.iload_n 1, 1) := by decide +kernel
theorem dX12_hungryWithout_97 : decode cX12_hungryWithout 97 = .ok (.iaload, 1) := by decide +kernel
theorem dX12_hungryWithout_98 : decode cX12_hungryWithout 98 = .ok (.iadd, 1) := by decide +kernel
theorem dX12_hungryWithout_99 : decode cX12_hungryWithout 99 = .ok (.sipush 999, 3) := by decide +kernel
theorem dX12_hungryWithout_102 : decode cX12_hungryWithout 102 = .ok (.invokestatic 224, 3) := by decide +kernel
theorem dX12_hungryWithout_105 : decode cX12_hungryWithout 105 = .ok (.iastore, 1) := by decide +kernel
theorem dX12_hungryWithout_106 : decode cX12_hungryWithout 106 = .ok (.aload_n 0, 1) := by decide +kernel
theorem dX12_hungryWithout_107 : decode cX12_hungryWithout 107 = .ok (.getfield 29, 3) := by decide +kernel
theorem dX12_hungryWithout_110 : decode cX12_hungryWithout 110 = .ok (.iload_n 1, 1) := by decide +kernel
theorem dX12_hungryWithout_111 : decode cX12_hungryWithout 111 = .ok (.iconst 0, 1) := by decide +kernel
theorem dX12_hungryWithout_112 : decode cX12_hungryWithout 112 = .ok (.iastore, 1) := by decide +kernel
theorem dX12_hungryWithout_113 : decode cX12_hungryWithout 113 = .ok (.aload_n 0, 1) := by decide +kernel
theorem dX12_hungryWithout_114 : decode cX12_hungryWithout 114 = .ok (.iload_n 2, 1) := by decide +kernel
theorem dX12_hungryWithout_115 : decode cX12_hungryWithout 115 = .ok (.invokevirtual 221, 3) := by decide +kernel
theorem dX12_hungryWithout_118 : decode cX12_hungryWithout 118 = .ok (.istore 4, 2) := by decide +kernel
theorem dX12_hungryWithout_120 : decode cX12_hungryWithout 120 = .ok (.aload_n 0, 1) := by decide +kernel
theorem dX12_hungryWithout_121 : decode cX12_hungryWithout 121 = .ok (.invokevirtual 188, 3) := by decide +kernel
theorem dX12_hungryWithout_124 : decode cX12_hungryWithout 124 = .ok (.iload 4, 2) := by decide +kernel
theorem dX12_hungryWithout_126 : decode cX12_hungryWithout 126 = .ok (.ireturn, 1) := by decide +kernel
theorem dX12_givenUp_0 : decode cX12_givenUp 0 = .ok (.aload_n 0, 1) := by decide +kernel
theorem dX12_givenUp_1 : decode cX12_givenUp 1 = .ok (.iconst 0, 1) := by decide +kernel
theorem dX12_givenUp_2 : decode cX12_givenUp 2 = .ok (.putfield 65, 3) := by decide +kernel
theorem dX12_givenUp_5 : decode cX12_givenUp 5 = .ok (.iload_n 1, 1) := by decide +kernel
theorem dX12_givenUp_6 : decode cX12_givenUp 6 = .ok (.bipush 60, 2) := by decide +kernel
theorem dX12_givenUp_8 : decode cX12_givenUp 8 = .ok (.invokestatic 208, 3) := by decide +kernel
theorem dX12_givenUp_11 : decode cX12_givenUp 11 = .ok (.istore_n 3, 1) := by decide +kernel
theorem dX12_givenUp_12 : decode cX12_givenUp 12 = .ok (.iload_n 3, 1) := by decide +kernel
theorem dX12_givenUp_13 : decode cX12_givenUp 13 = .ok (.ifCond .ne 18, 3) := by decide +kernel
theorem dX12_givenUp_16 : decode cX12_givenUp 16 = .ok (.iload_n 2, 1) := by decide +kernel
theorem dX12_givenUp_17 : decode cX12_givenUp 17 = .ok (.i2l, 1) := by decide +kernel
theorem dX12_givenUp_18 : decode cX12_givenUp 18 = .ok (.lconst 0, 1) := by decide +kernel
theorem dX12_givenUp_19 : decode cX12_givenUp 19 = .ok (.lconst 1, 1) := by decide +kernel
theorem dX12_givenUp_20 : decode cX12_givenUp 20 = .ok (.invokestatic 71, 3) := by decide +kernel
theorem dX12_givenUp_23 : decode cX12_givenUp 23 = .ok (.ifCond .ne 8, 3) := by decide +kernel
theorem dX12_givenUp_26 : decode cX12_givenUp 26 = .ok (.bipush (-2), 2) := by decide +kernel
theorem dX12_givenUp_28 : decode cX12_givenUp 28 = .ok (.goto 4, 3) := by decide +kernel
theorem dX12_givenUp_31 : decode cX12_givenUp 31 = .ok (.iload_n 3, 1) := by decide +kernel
theorem dX12_givenUp_32 : decode cX12_givenUp 32 = .ok (.istore_n 3, 1) := by decide +kernel
theorem dX12_givenUp_33 : decode cX12_givenUp 33 = .ok (.iload_n 3, 1) := by decide +kernel
theorem dX12_givenUp_34 : decode cX12_givenUp 34 = .ok (.ifCond .ge 9, 3) := by decide +kernel
theorem dX12_givenUp_37 : decode cX12_givenUp 37 = .ok (.aload_n 0, 1) := by decide +kernel
theorem dX12_givenUp_38 : decode cX12_givenUp 38 = .ok (.iload_n 3, 1) := by decide +kernel
theorem dX12_givenUp_39 : decode cX12_givenUp 39 = .ok (.invokevirtual 134, 3) := by decide +kernel
theorem dX12_givenUp_42 : decode cX12_givenUp 42 = .ok (.ireturn, 1) := by decide +kernel
theorem dX12_givenUp_43 : decode cX12_givenUp 43 = .ok (.aload_n 0, 1) := by decide +kernel
theorem dX12_givenUp_44 : decode cX12_givenUp 44 = .ok (.getfield 68, 3) := by decide +kernel
theorem dX12_givenUp_47 : decode cX12_givenUp 47 = .ok (.iconst 2, 1) := by decide +kernel
theorem dX12_givenUp_48 : decode cX12_givenUp 48 = .ok (.if_icmp .ge 6, 3) := by decide +kernel
theorem dX12_givenUp_51 : decode cX12_givenUp 51 = .ok (.bipush (-9), 2) := by decide +kernel
theorem dX12_givenUp_53 : decode cX12_givenUp 53 = .ok (.ireturn, 1) := by decide +kernel
theorem dX12_givenUp_54 : decode cX12_givenUp 54 = .ok (.iconst 0, 1) := by decide +kernel
theorem dX12_givenUp_55 : decode cX12_givenUp 55 = .ok (.istore 4, 2) := by decide +kernel
theorem dX12_givenUp_57 : decode cX12_givenUp 57 = .ok (.iconst 1, 1) := by decide +kernel
theorem dX12_givenUp_58 : decode cX12_givenUp 58 = .ok (.istore 5, 2) := by decide +kernel
theorem dX12_givenUp_60 : decode cX12_givenUp 60 = .ok (.iload 5, 2) := by decide +kernel
theorem dX12_givenUp_62 : decode cX12_givenUp 62 = .ok (.aload_n 0, 1) := by decide +kernel
theorem dX12_givenUp_63 : decode cX12_givenUp 63 = .ok (.getfield 68, 3) := by decide +kernel
theorem dX12_givenUp_66 : decode cX12_givenUp 66 = .ok (.if_icmp .ge 35, 3) := by decide +kernel
theorem dX12_givenUp_69 : decode cX12_givenUp 69 = .ok (.aload_n 0, 1) := by decide +kernel
theorem dX12_givenUp_70 : decode cX12_givenUp 70 = .ok (.iload 5, 2) := by decide +kernel
theorem dX12_givenUp_72 : decode cX12_givenUp 72 = .ok (.iload_n 1, 1) := by decide +kernel
theorem dX12_givenUp_73 : decode cX12_givenUp 73 = .ok (.invokevirtual 227, 3) := by decide +kernel
theorem dX12_givenUp_76 : decode cX12_givenUp 76 = .ok (.aload_n 0, 1) := by decide +kernel
theorem dX12_givenUp_77 : decode cX12_givenUp 77 = .ok (.iload 4, 2) := by decide +kernel
theorem dX12_givenUp_79 : decode cX12_givenUp 79 = .ok (.iload_n 1, 1) := by decide +kernel
theorem dX12_givenUp_80 : decode cX12_givenUp 80 = .ok (.invokevirtual 227, 3) := by decide +kernel
theorem dX12_givenUp_83 : decode cX12_givenUp 83 = .ok (.if_icmp .ge 8, 3) := by decide +kernel
theorem dX12_givenUp_86 : decode cX12_givenUp 86 = .ok (.iload 5, 2) := by decide +kernel
theorem dX12_givenUp_88 : decode cX12_givenUp 88 = .ok (.goto 5, 3) := by decide +kernel
theorem dX12_givenUp_91 : decode cX12_givenUp 91 = .ok (.iload 4, 2) := by decide +kernel
theorem dX12_givenUp_93 : decode cX12_givenUp 93 = .ok (.istore 4, 2) := by decide +kernel
theorem dX12_givenUp_95 : decode cX12_givenUp 95 = .ok (.iinc 5 1, 3) := by decide +kernel
theorem dX12_givenUp_98 : decode cX12_givenUp 98 = .ok (.goto (-38), 3) := by decide +kernel
theorem dX12_givenUp_101 : decode cX12_givenUp 101 = .ok (.iload_n 2, 1) := by decide +kernel
theorem dX12_givenUp_102 : decode cX12_givenUp 102 = .ok (.ifCond .ne 8, 3) := by decide +kernel
theorem dX12_givenUp_105 : decode cX12_givenUp 105 = .ok (.iload 4, 2) := by decide +kernel
theorem dX12_givenUp_107 : decode cX12_givenUp 107 = .ok (.goto 10, 3) := by decide +kernel
theorem dX12_givenUp_110 : decode cX12_givenUp 110 = .ok (.aload_n 0, 1) := by decide +kernel
theorem dX12_givenUp_111 : decode cX12_givenUp 111 = .ok (.iload 4, 2) := by decide +kernel
theorem dX12_givenUp_113 : decode cX12_givenUp 113 = .ok (.iload_n 1, 1) := by decide +kernel
theorem dX12_givenUp_114 : decode cX12_givenUp 114 = .ok (.invokevirtual 227, 3) := by decide +kernel
theorem dX12_givenUp_117 : decode cX12_givenUp 117 = .ok (.ireturn, 1) := by decide +kernel
theorem dX12_home_0 : decode cX12_home 0 = .ok (.aload_n 0, 1) := by decide +kernel
theorem dX12_home_1 : decode cX12_home 1 = .ok (.iconst 0, 1) := by decide +kernel
theorem dX12_home_2 : decode cX12_home 2 = .ok (.putfield 65, 3) := by decide +kernel
theorem dX12_home_5 : decode cX12_home 5 = .ok (.iload_n 3, 1) := by decide +kernel
theorem dX12_home_6 : decode cX12_home 6 = .ok (.ifCond .lt 17, 3) := by decide +kernel
theorem dX12_home_9 : decode cX12_home 9 = .ok (.iload_n 1, 1) := by decide +kernel
theorem dX12_home_10 : decode cX12_home 10 = .ok (.sipush (-9999), 3) := by decide +kernel
theorem dX12_home_13 : decode cX12_home 13 = .ok (.if_icmp .lt 10, 3) := by decide +kernel
theorem dX12_home_16 : decode cX12_home 16 = .ok (.iload_n 2, 1) := by decide +kernel
theorem dX12_home_17 : decode cX12_home 17 = .ok (.sipush (-9999), 3) := by decide +kernel
theorem dX12_home_20 : decode cX12_home 20 = .ok (.if_icmp .ge 8, 3) := by decide +kernel
theorem dX12_home_23 : decode cX12_home 23 = .ok (.bipush (-4), 2) := by decide +kernel
theorem dX12_home_25 : decode cX12_home 25 = .ok (.goto 29, 3) := by decide +kernel
theorem dX12_home_28 : decode cX12_home 28 = .ok (.iload_n 3, 1) := by decide +kernel
theorem dX12_home_29 : decode cX12_home 29 = .ok (.bipush 60, 2) := by decide +kernel
theorem dX12_home_31 : decode cX12_home 31 = .ok (.if_icmp .gt 17, 3) := by decide +kernel
theorem dX12_home_34 : decode cX12_home 34 = .ok (.iload_n 1, 1) := by decide +kernel
theorem dX12_home_35 : decode cX12_home 35 = .ok (.sipush 9999, 3) := by decide +kernel
theorem dX12_home_38 : decode cX12_home 38 = .ok (.if_icmp .gt 10, 3) := by decide +kernel
theorem dX12_home_41 : decode cX12_home 41 = .ok (.iload_n 2, 1) := by decide +kernel
theorem dX12_home_42 : decode cX12_home 42 = .ok (.sipush 9999, 3) := by decide +kernel
theorem dX12_home_45 : decode cX12_home 45 = .ok (.if_icmp .le 8, 3) := by decide +kernel
theorem dX12_home_48 : decode cX12_home 48 = .ok (.bipush (-6), 2) := by decide +kernel
theorem dX12_home_50 : decode cX12_home 50 = .ok (.goto 4, 3) := by decide +kernel
theorem dX12_home_53 : decode cX12_home 53 = .ok (.iconst 0, 1) := by decide +kernel
theorem dX12_home_54 : decode cX12_home 54 = .ok (.istore 5, 2) := by decide +kernel
theorem dX12_home_56 : decode cX12_home 56 = .ok (.iload 5, 2) := by decide +kernel
theorem dX12_home_58 : decode cX12_home 58 = .ok (.ifCond .ne 21, 3) := by decide +kernel
theorem dX12_home_61 : decode cX12_home 61 = .ok (.iload 4, 2) := by decide +kernel
theorem dX12_home_63 : decode cX12_home 63 = .ok (.i2l, 1) := by decide +kernel
theorem dX12_home_64 : decode cX12_home 64 = .ok (.lconst 0, 1) := by decide +kernel
theorem dX12_home_65 : decode cX12_home 65 = .ok (.ldc2_w 206, 3) := by decide +kernel
theorem dX12_home_68 : decode cX12_home 68 = .ok (.invokestatic 71, 3) := by decide +kernel
theorem dX12_home_71 : decode cX12_home 71 = .ok (.ifCond .ne 8, 3) := by decide +kernel
theorem dX12_home_74 : decode cX12_home 74 = .ok (.bipush (-2), 2) := by decide +kernel
theorem dX12_home_76 : decode cX12_home 76 = .ok (.goto 5, 3) := by decide +kernel
theorem dX12_home_79 : decode cX12_home 79 = .ok (.iload 5, 2) := by decide +kernel
theorem dX12_home_81 : decode cX12_home 81 = .ok (.istore 5, 2) := by decide +kernel
theorem dX12_home_83 : decode cX12_home 83 = .ok (.iload 5, 2) := by decide +kernel
theorem dX12_home_85 : decode cX12_home 85 = .ok (.ifCond .ge 10, 3) := by decide +kernel
theorem dX12_home_88 : decode cX12_home 88 = .ok (.aload_n 0, 1) := by decide +kernel
theorem dX12_home_89 : decode cX12_home 89 = .ok (.iload 5, 2) := by decide +kernel
theorem dX12_home_91 : decode cX12_home 91 = .ok (.invokevirtual 134, 3) := by decide +kernel
theorem dX12_home_94 : decode cX12_home 94 = .ok (.ireturn, 1) := by decide +kernel
theorem dX12_home_95 : decode cX12_home 95 = .ok (.aload_n 0, 1) := by decide +kernel
theorem dX12_home_96 : decode cX12_home 96 = .ok (.getfield 68, 3) := by decide +kernel
theorem dX12_home_99 : decode cX12_home 99 = .ok (.ifCond .ne 6, 3) := by decide +kernel
theorem dX12_home_102 : decode cX12_home 102 = .ok (.bipush (-9), 2) := by decide +kernel
theorem dX12_home_104 : decode cX12_home 104 = .ok (.ireturn, 1) := by decide +kernel
theorem dX12_home_105 : decode cX12_home 105 = .ok (.aload_n 0, 1) := by decide +kernel
theorem dX12_home_106 : decode cX12_home 106 = .ok (.invokevirtual 182, 3) := by decide +kernel
theorem dX12_home_109 : decode cX12_home 109 = .ok (.iconst (-1), 1) := by decide +kernel
theorem dX12_home_110 : decode cX12_home 110 = .ok (.istore 6, 2) := by decide +kernel
theorem dX12_home_112 : decode cX12_home 112 = .ok (.iconst 0, 1) := by decide +kernel
theorem dX12_home_113 : decode cX12_home 113 = .ok (.istore 7, 2) := by decide +kernel
theorem dX12_home_115 : decode cX12_home 115 = .ok (.iconst 0, 1) := by decide +kernel
theorem dX12_home_116 : decode cX12_home 116 = .ok (.istore 8, 2) := by decide +kernel
theorem dX12_home_118 : decode cX12_home 118 = .ok (.iconst 0, 1) := by decide +kernel
theorem dX12_home_119 : decode cX12_home 119 = .ok (.istore 9, 2) := by decide +kernel
theorem dX12_home_121 : decode cX12_home 121 = .ok (.iload 9, 2) := by decide +kernel
theorem dX12_home_123 : decode cX12_home 123 = .ok (.iload_n 3, 1) := by decide +kernel
theorem dX12_home_124 : decode cX12_home 124 = .ok (.if_icmp .gt 136, 3) := by decide +kernel
theorem dX12_home_127 : decode cX12_home 127 = .ok (.iconst 0, 1) := by decide +kernel
theorem dX12_home_128 : decode cX12_home 128 = .ok (.istore 10, 2) := by decide +kernel
theorem dX12_home_130 : decode cX12_home 130 = .ok (.iload 10, 2) := by decide +kernel
theorem dX12_home_132 : decode cX12_home 132 = .ok (.aload_n 0, 1) := by decide +kernel
theorem dX12_home_133 : decode cX12_home 133 = .ok (.getfield 68, 3) := by decide +kernel
theorem dX12_home_136 : decode cX12_home 136 = .ok (.if_icmp .ge 112, 3) := by decide +kernel
theorem dX12_home_139 : decode cX12_home 139 = .ok (.aload_n 0, 1) := by decide +kernel
theorem dX12_home_140 : decode cX12_home 140 = .ok (.getfield 35, 3) := by decide +kernel
theorem dX12_home_143 : decode cX12_home 143 = .ok (.iload 10, 2) := by decide +kernel
theorem dX12_home_145 : decode cX12_home 145 = .ok (.iaload, 1) := by decide +kernel
theorem dX12_home_146 : decode cX12_home 146 = .ok (.iload_n 1, 1) := by decide +kernel
theorem dX12_home_147 : decode cX12_home 147 = .ok (.invokestatic 103, 3) := by decide +kernel
theorem dX12_home_150 : decode cX12_home 150 = .ok (.istore 11, 2) := by decide +kernel
theorem dX12_home_152 : decode cX12_home 152 = .ok (.aload_n 0, 1) := by decide +kernel
theorem dX12_home_153 : decode cX12_home 153 = .ok (.getfield 38, 3) := by decide +kernel
theorem dX12_home_156 : decode cX12_home 156 = .ok (.iload 10, 2) := by decide +kernel
theorem dX12_home_158 : decode cX12_home 158 = .ok (.iaload, 1) := by decide +kernel
theorem dX12_home_159 : decode cX12_home 159 = .ok (.iload_n 2, 1) := by decide +kernel
theorem dX12_home_160 : decode cX12_home 160 = .ok (.invokestatic 103, 3) := by decide +kernel
theorem dX12_home_163 : decode cX12_home 163 = .ok (.istore 12, 2) := by decide +kernel
theorem dX12_home_165 : decode cX12_home 165 = .ok (.iload 11, 2) := by decide +kernel
theorem dX12_home_167 : decode cX12_home 167 = .ok (.iload 12, 2) := by decide +kernel
theorem dX12_home_169 : decode cX12_home 169 = .ok (.if_icmp .le 8, 3) := by decide +kernel
theorem dX12_home_172 : decode cX12_home 172 = .ok (.iload 11, 2) := by decide +kernel
theorem dX12_home_174 : decode cX12_home 174 = .ok (.goto 5, 3) := by decide +kernel
theorem dX12_home_177 : decode cX12_home 177 = .ok (.iload 12, 2) := by decide +kernel
theorem dX12_home_179 : decode cX12_home 179 = .ok (.istore 13, 2) := by decide +kernel
theorem dX12_home_181 : decode cX12_home 181 = .ok (.iload 6, 2) := by decide +kernel
theorem dX12_home_183 : decode cX12_home 183 = .ok (.ifCond .lt 10, 3) := by decide +kernel
theorem dX12_home_186 : decode cX12_home 186 = .ok (.iload 13, 2) := by decide +kernel
theorem dX12_home_188 : decode cX12_home 188 = .ok (.iload 6, 2) := by decide +kernel
theorem dX12_home_190 : decode cX12_home 190 = .ok (.if_icmp .ge 7, 3) := by decide +kernel
theorem dX12_home_193 : decode cX12_home 193 = .ok (.iconst 1, 1) := by decide +kernel
theorem dX12_home_194 : decode cX12_home 194 = .ok (.goto 4, 3) := by decide +kernel
theorem dX12_home_197 : decode cX12_home 197 = .ok (.iconst 0, 1) := by decide +kernel
theorem dX12_home_198 : decode cX12_home 198 = .ok (.istore 14, 2) := by decide +kernel
theorem dX12_home_200 : decode cX12_home 200 = .ok (.iload 14, 2) := by decide +kernel
theorem dX12_home_202 : decode cX12_home 202 = .ok (.ifCond .eq 8, 3) := by decide +kernel
theorem dX12_home_205 : decode cX12_home 205 = .ok (.iload 10, 2) := by decide +kernel
theorem dX12_home_207 : decode cX12_home 207 = .ok (.goto 5, 3) := by decide +kernel
theorem dX12_home_210 : decode cX12_home 210 = .ok (.iload 7, 2) := by decide +kernel
theorem dX12_home_212 : decode cX12_home 212 = .ok (.istore 7, 2) := by decide +kernel
theorem dX12_home_214 : decode cX12_home 214 = .ok (.iload 14, 2) := by decide +kernel
theorem dX12_home_216 : decode cX12_home 216 = .ok (.ifCond .eq 8, 3) := by decide +kernel
theorem dX12_home_219 : decode cX12_home 219 = .ok (.iload 9, 2) := by decide +kernel
theorem dX12_home_221 : decode cX12_home 221 = .ok (.goto 5, 3) := by decide +kernel
theorem dX12_home_224 : decode cX12_home 224 = .ok (.iload 8, 2) := by decide +kernel
theorem dX12_home_226 : decode cX12_home 226 = .ok (.istore 8, 2) := by decide +kernel
theorem dX12_home_228 : decode cX12_home 228 = .ok (.iload 14, 2) := by decide +kernel
theorem dX12_home_230 : decode cX12_home 230 = .ok (.ifCond .eq 8, 3) := by decide +kernel
theorem dX12_home_233 : decode cX12_home 233 = .ok (.iload 13, 2) := by decide +kernel
theorem dX12_home_235 : decode cX12_home 235 = .ok (.goto 5, 3) := by decide +kernel
theorem dX12_home_238 : decode cX12_home 238 = .ok (.iload 6, 2) := by decide +kernel
theorem dX12_home_240 : decode cX12_home 240 = .ok (.istore 6, 2) := by decide +kernel
theorem dX12_home_242 : decode cX12_home 242 = .ok (.iinc 10 1, 3) := by decide +kernel
theorem dX12_home_245 : decode cX12_home 245 = .ok (.goto (-115), 3) := by decide +kernel
theorem dX12_home_248 : decode cX12_home 248 = .ok (.aload_n 0, 1) := by decide +kernel
theorem dX12_home_249 : decode cX12_home 249 = .ok (.iconst 1, 1) := by decide +kernel
theorem dX12_home_250 : decode cX12_home 250 = .ok (.invokevirtual 199, 3) := by decide +kernel
theorem dX12_home_253 : decode cX12_home 253 = .ok (.pop, 1) := by decide +kernel
theorem dX12_home_254 : decode cX12_home 254 = .ok (.iinc 9 1, 3) := by decide +kernel
theorem dX12_home_257 : decode cX12_home 257 = .ok (.goto (-136), 3) := by decide +kernel
theorem dX12_home_260 : decode cX12_home 260 = .ok (.aload_n 0, 1) := by decide +kernel
theorem dX12_home_261 : decode cX12_home 261 = .ok (.invokevirtual 188, 3) := by decide +kernel
theorem dX12_home_264 : decode cX12_home 264 = .ok (.iload 4, 2) := by decide +kernel
theorem dX12_home_266 : decode cX12_home 266 = .ok (.ifCond .ne 8, 3) := by decide +kernel
theorem dX12_home_269 : decode cX12_home 269 = .ok (.iload 7, 2) := by decide +kernel
theorem dX12_home_271 : decode cX12_home 271 = .ok (.goto 16, 3) := by decide +kernel
theorem dX12_home_274 : decode cX12_home 274 = .ok (.iload 4, 2) := by decide +kernel
theorem dX12_home_276 : decode cX12_home 276 = .ok (.iconst 1, 1) := by decide +kernel
theorem dX12_home_277 : decode cX12_home 277 = .ok (.if_icmp .ne 8, 3) := by decide +kernel
theorem dX12_home_280 : decode cX12_home 280 = .ok (.iload 8, 2) := by decide +kernel
theorem dX12_home_282 : decode cX12_home 282 = .ok (.goto 5, 3) := by decide +kernel
theorem dX12_home_285 : decode cX12_home 285 = .ok (.iload 6, 2) := by decide +kernel
theorem dX12_home_287 : decode cX12_home 287 = .ok (.ireturn, 1) := by decide +kernel
theorem dX12_kinds_0 : decode cX12_kinds 0 = .ok (.aload_n 0, 1) := by decide +kernel
theorem dX12_kinds_1 : decode cX12_kinds 1 = .ok (.iconst 0, 1) := by decide +kernel
theorem dX12_kinds_2 : decode cX12_kinds 2 = .ok (.putfield 65, 3) := by decide +kernel
theorem dX12_kinds_5 : decode cX12_kinds 5 = .ok (.aload_n 0, 1) := by decide +kernel
theorem dX12_kinds_6 : decode cX12_kinds 6 = .ok (.iload_n 1, 1) := by decide +kernel
theorem dX12_kinds_7 : decode cX12_kinds 7 = .ok (.invokevirtual 75, 3) := by decide +kernel
theorem dX12_kinds_10 : decode cX12_kinds 10 = .ok (.ifCond .ne 7, 3) := by decide +kernel
theorem dX12_kinds_13 : decode cX12_kinds 13 = .ok (.iconst (-1), 1) := by decide +kernel
theorem dX12_kinds_14 : decode cX12_kinds 14 = .ok (.goto 34, 3) := by decide +kernel
theorem dX12_kinds_17 : decode cX12_kinds 17 = .ok (.iload_n 3, 1) := by decide +kernel
theorem dX12_kinds_18 : decode cX12_kinds 18 = .ok (.ifCond .lt 7, 3) := by decide +kernel
theorem dX12_kinds_21 : decode cX12_kinds 21 = .ok (.iload_n 2, 1) := by decide +kernel
theorem dX12_kinds_22 : decode cX12_kinds 22 = .ok (.ifCond .ge 8, 3) := by decide +kernel
theorem dX12_kinds_25 : decode cX12_kinds 25 = .ok (.bipush (-4), 2) := by decide +kernel
theorem dX12_kinds_27 : decode cX12_kinds 27 = .ok (.goto 21, 3) := by decide +kernel
theorem dX12_kinds_30 : decode cX12_kinds 30 = .ok (.iload_n 3, 1) := by decide +kernel
theorem dX12_kinds_31 : decode cX12_kinds 31 = .ok (.bipush 30, 2) := by decide +kernel
theorem dX12_kinds_33 : decode cX12_kinds 33 = .ok (.if_icmp .gt 9, 3) := by decide +kernel
theorem dX12_kinds_36 : decode cX12_kinds 36 = .ok (.iload_n 2, 1) := by decide +kernel
theorem dX12_kinds_37 : decode cX12_kinds 37 = .ok (.bipush 9, 2) := by decide +kernel
theorem dX12_kinds_39 : decode cX12_kinds 39 = .ok (.if_icmp .le 8, 3) := by decide +kernel
theorem dX12_kinds_42 : decode cX12_kinds 42 = .ok (.bipush (-6), 2) := by decide +kernel
theorem dX12_kinds_44 : decode cX12_kinds 44 = .ok (.goto 4, 3) := by decide +kernel
theorem dX12_kinds_47 : decode cX12_kinds 47 = .ok (.iconst 0, 1) := by decide +kernel
theorem dX12_kinds_48 : decode cX12_kinds 48 = .ok (.istore 6, 2) := by decide +kernel
theorem dX12_kinds_50 : decode cX12_kinds 50 = .ok (.iload 6, 2) := by decide +kernel
theorem dX12_kinds_52 : decode cX12_kinds 52 = .ok (.ifCond .ge 10, 3) := by decide +kernel
theorem dX12_kinds_55 : decode cX12_kinds 55 = .ok (.aload_n 0, 1) := by decide +kernel
theorem dX12_kinds_56 : decode cX12_kinds 56 = .ok (.iload 6, 2) := by decide +kernel
theorem dX12_kinds_58 : decode cX12_kinds 58 = .ok (.invokevirtual 134, 3) := by decide +kernel
theorem dX12_kinds_61 : decode cX12_kinds 61 = .ok (.ireturn, 1) := by decide +kernel
theorem dX12_kinds_62 : decode cX12_kinds 62 = .ok (.iconst 0, 1) := by decide +kernel
theorem dX12_kinds_63 : decode cX12_kinds 63 = .ok (.istore 7, 2) := by decide +kernel
theorem dX12_kinds_65 : decode cX12_kinds 65 = .ok (.iconst 0, 1) := by decide +kernel
theorem dX12_kinds_66 : decode cX12_kinds 66 = .ok (.istore 8, 2) := by decide +kernel
theorem dX12_kinds_68 : decode cX12_kinds 68 = .ok (.iload 8, 2) := by decide +kernel
theorem dX12_kinds_70 : decode cX12_kinds 70 = .ok (.bipush 6, 2) := by decide +kernel
theorem dX12_kinds_72 : decode cX12_kinds 72 = .ok (.if_icmp .ge 73, 3) := by decide +kernel
theorem dX12_kinds_75 : decode cX12_kinds 75 = .ok (.aload_n 0, 1) := by decide +kernel
theorem dX12_kinds_76 : decode cX12_kinds 76 = .ok (.invokevirtual 182, 3) := by decide +kernel
theorem dX12_kinds_79 : decode cX12_kinds 79 = .ok (.aload_n 0, 1) := by decide +kernel
theorem dX12_kinds_80 : decode cX12_kinds 80 = .ok (.getfield 23, 3) := by decide +kernel
theorem dX12_kinds_83 : decode cX12_kinds 83 = .ok (.iload_n 1, 1) := by decide +kernel
theorem dX12_kinds_84 : decode cX12_kinds 84 = .ok (.iload 8, 2) := by decide +kernel
theorem dX12_kinds_86 : decode cX12_kinds 86 = .ok (.iastore, 1) := by decide +kernel
theorem dX12_kinds_87 : decode cX12_kinds 87 = .ok (.aload_n 0, 1) := by decide +kernel
theorem dX12_kinds_88 : decode cX12_kinds 88 = .ok (.getfield 26, 3) := by decide +kernel
theorem dX12_kinds_91 : decode cX12_kinds 91 = .ok (.iload_n 1, 1) := by decide +kernel
theorem dX12_kinds_92 : decode cX12_kinds 92 = .ok (.iload_n 2, 1) := by decide +kernel
theorem dX12_kinds_93 : decode cX12_kinds 93 = .ok (.iastore, 1) := by decide +kernel
theorem dX12_kinds_94 : decode cX12_kinds 94 = .ok (.aload_n 0, 1) := by decide +kernel
theorem dX12_kinds_95 : decode cX12_kinds 95 = .ok (.iload_n 3, 1) := by decide +kernel
theorem dX12_kinds_96 : decode cX12_kinds 96 = .ok (.invokevirtual 199, 3) := by decide +kernel
theorem dX12_kinds_99 : decode cX12_kinds 99 = .ok (.pop, 1) := by decide +kernel
theorem dX12_kinds_100 : decode cX12_kinds 100 = .ok (.iload 7, 2) := by decide +kernel
theorem dX12_kinds_102 : decode cX12_kinds 102 = .ok (.aload_n 0, 1) := by decide +kernel
theorem dX12_kinds_103 : decode cX12_kinds 103 = .ok (.getfield 35, 3) := by decide +kernel
theorem dX12_kinds_106 : decode cX12_kinds 106 = .ok (.iload_n 1, 1) := by decide +kernel
theorem dX12_kinds_107 : decode cX12_kinds 107 = .ok (.iaload, 1) := by decide +kernel
theorem dX12_kinds_108 : decode cX12_kinds 108 = .ok (.iload 4, 2) := by decide +kernel
theorem dX12_kinds_110 : decode cX12_kinds 110 = .ok (.if_icmp .ne 21, 3) := by decide +kernel
theorem dX12_kinds_113 : decode cX12_kinds 113 = .ok (.aload_n 0, 1) := by decide +kernel
theorem dX12_kinds_114 : decode cX12_kinds 114 = .ok (.getfield 38, 3) := by decide +kernel
theorem dX12_kinds_117 : decode cX12_kinds 117 = .ok (.iload_n 1, 1) := by decide +kernel
theorem dX12_kinds_118 : decode cX12_kinds 118 = .ok (.iaload, 1) := by decide +kernel
theorem dX12_kinds_119 : decode cX12_kinds 119 = .ok (.iload 5, 2) := by decide +kernel
theorem dX12_kinds_121 : decode cX12_kinds 121 = .ok (.if_icmp .ne 10, 3) := by decide +kernel
theorem dX12_kinds_124 : decode cX12_kinds 124 = .ok (.iconst 1, 1) := by decide +kernel
theorem dX12_kinds_125 : decode cX12_kinds 125 = .ok (.iload 8, 2) := by decide +kernel
theorem dX12_kinds_127 : decode cX12_kinds 127 = .ok (.ishl, 1) := by decide +kernel
theorem dX12_kinds_128 : decode cX12_kinds 128 = .ok (.goto 4, 3) := by decide +kernel
theorem dX12_kinds_131 : decode cX12_kinds 131 = .ok (.iconst 0, 1) := by decide +kernel
theorem dX12_kinds_132 : decode cX12_kinds 132 = .ok (.ior, 1) := by decide +kernel
theorem dX12_kinds_133 : decode cX12_kinds 133 = .ok (.istore 7, 2) := by decide +kernel
theorem dX12_kinds_135 : decode cX12_kinds 135 = .ok (.aload_n 0, 1) := by decide +kernel
theorem dX12_kinds_136 : decode cX12_kinds 136 = .ok (.invokevirtual 188, 3) := by decide +kernel
theorem dX12_kinds_139 : decode cX12_kinds 139 = .ok (.iinc 8 1, 3) := by decide +kernel
theorem dX12_kinds_142 : decode cX12_kinds 142 = .ok (.goto (-74), 3) := by decide +kernel
theorem dX12_kinds_145 : decode cX12_kinds 145 = .ok (.iload 7, 2) := by decide +kernel
theorem dX12_kinds_147 : decode cX12_kinds 147 = .ok (.ireturn, 1) := by decide +kernel
theorem dX12_row_0 : decode cX12_row 0 = .ok (.aload_n 0, 1) := by decide +kernel
theorem dX12_row_1 : decode cX12_row 1 = .ok (.iconst 0, 1) := by decide +kernel
theorem dX12_row_2 : decode cX12_row 2 = .ok (.putfield 65, 3) := by decide +kernel
theorem dX12_row_5 : decode cX12_row 5 = .ok (.iload_n 1, 1) := by decide +kernel
theorem dX12_row_6 : decode cX12_row 6 = .ok (.sipush (-999), 3) := by decide +kernel
theorem dX12_row_9 : decode cX12_row 9 = .ok (.if_icmp .ge 10, 3) := by decide +kernel
theorem dX12_row_12 : decode cX12_row 12 = .ok (.aload_n 0, 1) := by decide +kernel
theorem dX12_row_13 : decode cX12_row 13 = .ok (.bipush (-4), 2) := by decide +kernel
theorem dX12_row_15 : decode cX12_row 15 = .ok (.invokevirtual 134, 3) := by decide +kernel
theorem dX12_row_18 : decode cX12_row 18 = .ok (.ireturn, 1) := by decide +kernel
theorem dX12_row_19 : decode cX12_row 19 = .ok (.iload_n 1, 1) := by decide +kernel
theorem dX12_row_20 : decode cX12_row 20 = .ok (.sipush 999, 3) := by decide +kernel
theorem dX12_row_23 : decode cX12_row 23 = .ok (.if_icmp .gt 12, 3) := by decide +kernel
theorem dX12_row_26 : decode cX12_row 26 = .ok (.aload_n 0, 1) := by decide +kernel
theorem dX12_row_27 : decode cX12_row 27 = .ok (.getfield 230, 3) := by decide +kernel
theorem dX12_row_30 : decode cX12_row 30 = .ok (.bipush 12, 2) := by decide +kernel
theorem dX12_row_32 : decode cX12_row 32 = .ok (.if_icmp .ne 10, 3) := by decide +kernel
theorem dX12_row_35 : decode cX12_row 35 = .ok (.aload_n 0, 1) := by decide +kernel
theorem dX12_row_36 : decode cX12_row 36 = .ok (.bipush (-6), 2) := by decide +kernel
theorem dX12_row_38 : decode cX12_row 38 = .ok (.invokevirtual 134, 3) := by decide +kernel
theorem dX12_row_41 : decode cX12_row 41 = .ok (.ireturn, 1) := by decide +kernel
theorem dX12_row_42 : decode cX12_row 42 = .ok (.aload_n 0, 1) := by decide +kernel
theorem dX12_row_43 : decode cX12_row 43 = .ok (.getfield 62, 3) := by decide +kernel
theorem dX12_row_46 : decode cX12_row 46 = .ok (.aload_n 0, 1) := by decide +kernel
theorem dX12_row_47 : decode cX12_row 47 = .ok (.getfield 230, 3) := by decide +kernel
theorem dX12_row_50 : decode cX12_row 50 = .ok (.iload_n 1, 1) := by decide +kernel
theorem dX12_row_51 : decode cX12_row 51 = .ok (.iastore, 1) := by decide +kernel
theorem dX12_row_52 : decode cX12_row 52 = .ok (.aload_n 0, 1) := by decide +kernel
theorem dX12_row_53 : decode cX12_row 53 = .ok (.dup, 1) := by decide +kernel
theorem dX12_row_54 : decode cX12_row 54 = .ok (.getfield 230, 3) := by decide +kernel
theorem dX12_row_57 : decode cX12_row 57 = .ok (.iconst 1, 1) := by decide +kernel
theorem dX12_row_58 : decode cX12_row 58 = .ok (.iadd, 1) := by decide +kernel
theorem dX12_row_59 : decode cX12_row 59 = .ok (.putfield 230, 3) := by decide +kernel
theorem dX12_row_62 : decode cX12_row 62 = .ok (.aload_n 0, 1) := by decide +kernel
theorem dX12_row_63 : decode cX12_row 63 = .ok (.getfield 230, 3) := by decide +kernel
theorem dX12_row_66 : decode cX12_row 66 = .ok (.ireturn, 1) := by decide +kernel
theorem dX12_judge_0 : decode cX12_judge 0 = .ok (.aload_n 0, 1) := by decide +kernel
theorem dX12_judge_1 : decode cX12_judge 1 = .ok (.iconst 0, 1) := by decide +kernel
theorem dX12_judge_2 : decode cX12_judge 2 = .ok (.putfield 65, 3) := by decide +kernel
theorem dX12_judge_5 : decode cX12_judge 5 = .ok (.aload_n 0, 1) := by decide +kernel
theorem dX12_judge_6 : decode cX12_judge 6 = .ok (.iload_n 1, 1) := by decide +kernel
theorem dX12_judge_7 : decode cX12_judge 7 = .ok (.invokevirtual 75, 3) := by decide +kernel
theorem dX12_judge_10 : decode cX12_judge 10 = .ok (.ifCond .ne 9, 3) := by decide +kernel
theorem dX12_judge_13 : decode cX12_judge 13 = .ok (.aload_n 0, 1) := by decide +kernel
theorem dX12_judge_14 : decode cX12_judge 14 = .ok (.iconst (-1), 1) := by decide +kernel
theorem dX12_judge_15 : decode cX12_judge 15 = .ok (.invokevirtual 134, 3) := by decide +kernel
theorem dX12_judge_18 : decode cX12_judge 18 = .ok (.ireturn, 1) := by decide +kernel
theorem dX12_judge_19 : decode cX12_judge 19 = .ok (.aload_n 0, 1) := by decide +kernel
theorem dX12_judge_20 : decode cX12_judge 20 = .ok (.getfield 230, 3) := by decide +kernel
theorem dX12_judge_23 : decode cX12_judge 23 = .ok (.istore_n 2, 1) := by decide +kernel
theorem dX12_judge_24 : decode cX12_judge 24 = .ok (.aload_n 0, 1) := by decide +kernel
theorem dX12_judge_25 : decode cX12_judge 25 = .ok (.iconst 0, 1) := by decide +kernel
theorem dX12_judge_26 : decode cX12_judge 26 = .ok (.putfield 230, 3) := by decide +kernel
theorem dX12_judge_29 : decode cX12_judge 29 = .ok (.aload_n 0, 1) := by decide +kernel
theorem dX12_judge_30 : decode cX12_judge 30 = .ok (.invokevirtual 182, 3) := by decide +kernel
theorem dX12_judge_33 : decode cX12_judge 33 = .ok (.bipush (-9), 2) := by decide +kernel
theorem dX12_judge_35 : decode cX12_judge 35 = .ok (.istore_n 3, 1) := by decide +kernel
theorem dX12_judge_36 : decode cX12_judge 36 = .ok (.iconst 0, 1) := by decide +kernel
theorem dX12_judge_37 : decode cX12_judge 37 = .ok (.istore 4, 2) := by decide +kernel
theorem dX12_judge_39 : decode cX12_judge 39 = .ok (.iload 4, 2) := by decide +kernel
theorem dX12_judge_41 : decode cX12_judge 41 = .ok (.iload_n 2, 1) := by decide +kernel
theorem dX12_judge_42 : decode cX12_judge 42 = .ok (.if_icmp .ge 62, 3) := by decide +kernel
theorem dX12_judge_45 : decode cX12_judge 45 = .ok (.iload_n 3, 1) := by decide +kernel
theorem dX12_judge_46 : decode cX12_judge 46 = .ok (.ifCond .ge 58, 3) := by decide +kernel
theorem dX12_judge_49 : decode cX12_judge 49 = .ok (.aload_n 0, 1) := by decide +kernel
theorem dX12_judge_50 : decode cX12_judge 50 = .ok (.getfield 62, 3) := by decide +kernel
theorem dX12_judge_53 : decode cX12_judge 53 = .ok (.iload 4, 2) := by decide +kernel
theorem dX12_judge_55 : decode cX12_judge 55 = .ok (.iaload, 1) := by decide +kernel
theorem dX12_judge_56 : decode cX12_judge 56 = .ok (.iload 4, 2) := by decide +kernel
theorem dX12_judge_58 : decode cX12_judge 58 = .ok (.iconst 2, 1) := by decide +kernel
theorem dX12_judge_59 : decode cX12_judge 59 = .ok (.irem, 1) := by decide +kernel
theorem dX12_judge_60 : decode cX12_judge 60 = .ok (.ifCond .ne 12, 3) := by decide +kernel
theorem dX12_judge_63 : decode cX12_judge 63 = .ok (.aload_n 0, 1) := by decide +kernel
theorem dX12_judge_64 : decode cX12_judge 64 = .ok (.getfield 35, 3) := by decide +kernel
theorem dX12_judge_67 : decode cX12_judge 67 = .ok (.iload_n 1, 1) := by decide +kernel
theorem dX12_judge_68 : decode cX12_judge 68 = .ok (.iaload, 1) := by decide +kernel
theorem dX12_judge_69 : decode cX12_judge 69 = .ok (.goto 9, 3) := by decide +kernel
theorem dX12_judge_72 : decode cX12_judge 72 = .ok (.aload_n 0, 1) := by decide +kernel
theorem dX12_judge_73 : decode cX12_judge 73 = .ok (.getfield 38, 3) := by decide +kernel
theorem dX12_judge_76 : decode cX12_judge 76 = .ok (.iload_n 1, 1) := by decide +kernel
theorem dX12_judge_77 : decode cX12_judge 77 = .ok (.iaload, 1) := by decide +kernel
theorem dX12_judge_78 : decode cX12_judge 78 = .ok (.if_icmp .ne 8, 3) := by decide +kernel
theorem dX12_judge_81 : decode cX12_judge 81 = .ok (.bipush (-9), 2) := by decide +kernel
theorem dX12_judge_83 : decode cX12_judge 83 = .ok (.goto 5, 3) := by decide +kernel
theorem dX12_judge_86 : decode cX12_judge 86 = .ok (.iload 4, 2) := by decide +kernel
theorem dX12_judge_88 : decode cX12_judge 88 = .ok (.istore_n 3, 1) := by decide +kernel
theorem dX12_judge_89 : decode cX12_judge 89 = .ok (.aload_n 0, 1) := by decide +kernel
theorem dX12_judge_90 : decode cX12_judge 90 = .ok (.iload 4, 2) := by decide +kernel
theorem dX12_judge_92 : decode cX12_judge 92 = .ok (.iconst 2, 1) := by decide +kernel
theorem dX12_judge_93 : decode cX12_judge 93 = .ok (.irem, 1) := by decide +kernel
theorem dX12_judge_94 : decode cX12_judge 94 = .ok (.invokevirtual 199, 3) := by decide +kernel
theorem dX12_judge_97 : decode cX12_judge 97 = .ok (.pop, 1) := by decide +kernel
theorem dX12_judge_98 : decode cX12_judge 98 = .ok (.iinc 4 1, 3) := by decide +kernel
theorem dX12_judge_101 : decode cX12_judge 101 = .ok (.goto (-62), 3) := by decide +kernel
theorem dX12_judge_104 : decode cX12_judge 104 = .ok (.aload_n 0, 1) := by decide +kernel
theorem dX12_judge_105 : decode cX12_judge 105 = .ok (.invokevirtual 188, 3) := by decide +kernel
theorem dX12_judge_108 : decode cX12_judge 108 = .ok (.iload_n 3, 1) := by decide +kernel
theorem dX12_judge_109 : decode cX12_judge 109 = .ok (.ireturn, 1) := by decide +kernel
theorem dX12_draw_0 : decode cX12_draw 0 = .ok (.aload_n 0, 1) := by decide +kernel
theorem dX12_draw_1 : decode cX12_draw 1 = .ok (.aload_n 0, 1) := by decide +kernel
theorem dX12_draw_2 : decode cX12_draw 2 = .ok (.getfield 233, 3) := by decide +kernel
theorem dX12_draw_5 : decode cX12_draw 5 = .ok (.ldc 236, 2) := by decide +kernel
theorem dX12_draw_7 : decode cX12_draw 7 = .ok (.imul, 1) := by decide +kernel
theorem dX12_draw_8 : decode cX12_draw 8 = .ok (.sipush 12345, 3) := by decide +kernel
theorem dX12_draw_11 : decode cX12_draw 11 = .ok (.iadd, 1) := by decide +kernel
theorem dX12_draw_12 : decode cX12_draw 12 = .ok (.putfield 233, 3) := by decide +kernel
theorem dX12_draw_15 : decode cX12_draw 15 = .ok (.aload_n 0, 1) := by decide +kernel
theorem dX12_draw_16 : decode cX12_draw 16 = .ok (.getfield 233, 3) := by decide +kernel
theorem dX12_draw_19 : decode cX12_draw 19 = .ok (.ldc 237, 2) := by decide +kernel
theorem dX12_draw_21 : decode cX12_draw 21 = .ok (.iand, 1) := by decide +kernel
theorem dX12_draw_22 : decode cX12_draw 22 = .ok (.ldc 238, 2) := by decide +kernel
theorem dX12_draw_24 : decode cX12_draw 24 = .ok (.idiv, 1) := by decide +kernel
theorem dX12_draw_25 : decode cX12_draw 25 = .ok (.iload_n 1, 1) := by decide +kernel
theorem dX12_draw_26 : decode cX12_draw 26 = .ok (.irem, 1) := by decide +kernel
theorem dX12_draw_27 : decode cX12_draw 27 = .ok (.ireturn, 1) := by decide +kernel
theorem dX12_lots_0 : decode cX12_lots 0 = .ok (.aload_n 0, 1) := by decide +kernel
theorem dX12_lots_1 : decode cX12_lots 1 = .ok (.iconst 0, 1) := by decide +kernel
theorem dX12_lots_2 : decode cX12_lots 2 = .ok (.putfield 65, 3) := by decide +kernel
theorem dX12_lots_5 : decode cX12_lots 5 = .ok (.iload_n 1, 1) := by decide +kernel
theorem dX12_lots_6 : decode cX12_lots 6 = .ok (.iconst 1, 1) := by decide +kernel
theorem dX12_lots_7 : decode cX12_lots 7 = .ok (.if_icmp .ge 8, 3) := by decide +kernel
theorem dX12_lots_10 : decode cX12_lots 10 = .ok (.bipush (-4), 2) := by decide +kernel
theorem dX12_lots_12 : decode cX12_lots 12 = .ok (.goto 30, 3) := by decide +kernel
theorem dX12_lots_15 : decode cX12_lots 15 = .ok (.iload_n 1, 1) := by decide +kernel
theorem dX12_lots_16 : decode cX12_lots 16 = .ok (.bipush 40, 2) := by decide +kernel
theorem dX12_lots_18 : decode cX12_lots 18 = .ok (.if_icmp .le 8, 3) := by decide +kernel
theorem dX12_lots_21 : decode cX12_lots 21 = .ok (.bipush (-6), 2) := by decide +kernel
theorem dX12_lots_23 : decode cX12_lots 23 = .ok (.goto 19, 3) := by decide +kernel
theorem dX12_lots_26 : decode cX12_lots 26 = .ok (.iload_n 3, 1) := by decide +kernel
theorem dX12_lots_27 : decode cX12_lots 27 = .ok (.i2l, 1) := by decide +kernel
theorem dX12_lots_28 : decode cX12_lots 28 = .ok (.lconst 0, 1) := by decide +kernel
theorem dX12_lots_29 : decode cX12_lots 29 = .ok (.lconst 1, 1) := by decide +kernel
theorem dX12_lots_30 : decode cX12_lots 30 = .ok (.invokestatic 71, 3) := by decide +kernel
theorem dX12_lots_33 : decode cX12_lots 33 = .ok (.ifCond .ne 8, 3) := by decide +kernel
theorem dX12_lots_36 : decode cX12_lots 36 = .ok (.bipush (-2), 2) := by decide +kernel
theorem dX12_lots_38 : decode cX12_lots 38 = .ok (.goto 4, 3) := by decide +kernel
theorem dX12_lots_41 : decode cX12_lots 41 = .ok (.iconst 0, 1) := by decide +kernel
theorem dX12_lots_42 : decode cX12_lots 42 = .ok (.istore 4, 2) := by decide +kernel
theorem dX12_lots_44 : decode cX12_lots 44 = .ok (.iload 4, 2) := by decide +kernel
theorem dX12_lots_46 : decode cX12_lots 46 = .ok (.ifCond .ge 10, 3) := by decide +kernel
theorem dX12_lots_49 : decode cX12_lots 49 = .ok (.aload_n 0, 1) := by decide +kernel
theorem dX12_lots_50 : decode cX12_lots 50 = .ok (.iload 4, 2) := by decide +kernel
theorem dX12_lots_52 : decode cX12_lots 52 = .ok (.invokevirtual 134, 3) := by decide +kernel
theorem dX12_lots_55 : decode cX12_lots 55 = .ok (.ireturn, 1) := by decide +kernel
theorem dX12_lots_56 : decode cX12_lots 56 = .ok (.aload_n 0, 1) := by decide +kernel
theorem dX12_lots_57 : decode cX12_lots 57 = .ok (.invokevirtual 182, 3) := by decide +kernel
theorem dX12_lots_60 : decode cX12_lots 60 = .ok (.aload_n 0, 1) := by decide +kernel
theorem dX12_lots_61 : decode cX12_lots 61 = .ok (.iload_n 2, 1) := by decide +kernel
theorem dX12_lots_62 : decode cX12_lots 62 = .ok (.putfield 233, 3) := by decide +kernel
theorem dX12_lots_65 : decode cX12_lots 65 = .ok (.iconst 0, 1) := by decide +kernel
theorem dX12_lots_66 : decode cX12_lots 66 = .ok (.istore 5, 2) := by decide +kernel
theorem dX12_lots_68 : decode cX12_lots 68 = .ok (.iconst 0, 1) := by decide +kernel
theorem dX12_lots_69 : decode cX12_lots 69 = .ok (.istore 6, 2) := by decide +kernel
theorem dX12_lots_71 : decode cX12_lots 71 = .ok (.iconst 0, 1) := by decide +kernel
theorem dX12_lots_72 : decode cX12_lots 72 = .ok (.istore 7, 2) := by decide +kernel
theorem dX12_lots_74 : decode cX12_lots 74 = .ok (.iconst 0, 1) := by decide +kernel
theorem dX12_lots_75 : decode cX12_lots 75 = .ok (.istore 8, 2) := by decide +kernel
theorem dX12_lots_77 : decode cX12_lots 77 = .ok (.iload 8, 2) := by decide +kernel
theorem dX12_lots_79 : decode cX12_lots 79 = .ok (.iload_n 1, 1) := by decide +kernel
theorem dX12_lots_80 : decode cX12_lots 80 = .ok (.if_icmp .ge 128, 3) := by decide +kernel
theorem dX12_lots_83 : decode cX12_lots 83 = .ok (.aload_n 0, 1) := by decide +kernel
theorem dX12_lots_84 : decode cX12_lots 84 = .ok (.bipush 9, 2) := by decide +kernel
theorem dX12_lots_86 : decode cX12_lots 86 = .ok (.invokevirtual 239, 3) := by decide +kernel
theorem dX12_lots_89 : decode cX12_lots 89 = .ok (.iconst 4, 1) := by decide +kernel
theorem dX12_lots_90 : decode cX12_lots 90 = .ok (.isub, 1) := by decide +kernel
theorem dX12_lots_91 : decode cX12_lots 91 = .ok (.istore 9, 2) := by decide +kernel
theorem dX12_lots_93 : decode cX12_lots 93 = .ok (.aload_n 0, 1) := by decide +kernel
theorem dX12_lots_94 : decode cX12_lots 94 = .ok (.bipush 9, 2) := by decide +kernel
theorem dX12_lots_96 : decode cX12_lots 96 = .ok (.invokevirtual 239, 3) := by decide +kernel
theorem dX12_lots_99 : decode cX12_lots 99 = .ok (.iconst 4, 1) := by decide +kernel
theorem dX12_lots_100 : decode cX12_lots 100 = .ok (.isub, 1) := by decide +kernel
theorem dX12_lots_101 : decode cX12_lots 101 = .ok (.istore 10, 2) := by decide +kernel
theorem dX12_lots_103 : decode cX12_lots 103 = .ok (.iconst 0, 1) := by decide +kernel
theorem dX12_lots_104 : decode cX12_lots 104 = .ok (.istore 11, 2) := by decide +kernel
theorem dX12_lots_106 : decode cX12_lots 106 = .ok (.iload 11, 2) := by decide +kernel
theorem dX12_lots_108 : decode cX12_lots 108 = .ok (.aload_n 0, 1) := by decide +kernel
theorem dX12_lots_109 : decode cX12_lots 109 = .ok (.getfield 68, 3) := by decide +kernel
theorem dX12_lots_112 : decode cX12_lots 112 = .ok (.if_icmp .ge 63, 3) := by decide +kernel
theorem dX12_lots_115 : decode cX12_lots 115 = .ok (.aload_n 0, 1) := by decide +kernel
theorem dX12_lots_116 : decode cX12_lots 116 = .ok (.aload_n 0, 1) := by decide +kernel
theorem dX12_lots_117 : decode cX12_lots 117 = .ok (.getfield 23, 3) := by decide +kernel
theorem dX12_lots_120 : decode cX12_lots 120 = .ok (.iload 11, 2) := by decide +kernel
theorem dX12_lots_122 : decode cX12_lots 122 = .ok (.iaload, 1) := by decide +kernel
theorem dX12_lots_123 : decode cX12_lots 123 = .ok (.aload_n 0, 1) := by decide +kernel
theorem dX12_lots_124 : decode cX12_lots 124 = .ok (.getfield 26, 3) := by decide +kernel
theorem dX12_lots_127 : decode cX12_lots 127 = .ok (.iload 11, 2) := by decide +kernel
theorem dX12_lots_129 : decode cX12_lots 129 = .ok (.iaload, 1) := by decide +kernel
theorem dX12_lots_130 : decode cX12_lots 130 = .ok (.iload 9, 2) := by decide +kernel
theorem dX12_lots_132 : decode cX12_lots 132 = .ok (.iload 10, 2) := by decide +kernel
theorem dX12_lots_134 : decode cX12_lots 134 = .ok (.iload 6, 2) := by decide +kernel
theorem dX12_lots_136 : decode cX12_lots 136 = .ok (.iload 7, 2) := by decide +kernel
theorem dX12_lots_138 : decode cX12_lots 138 = .ok (.invokevirtual 88, 3) := by decide +kernel
theorem dX12_lots_141 : decode cX12_lots 141 = .ok (.aload_n 0, 1) := by decide +kernel
theorem dX12_lots_142 : decode cX12_lots 142 = .ok (.getfield 35, 3) := by decide +kernel
theorem dX12_lots_145 : decode cX12_lots 145 = .ok (.iload 11, 2) := by decide +kernel
theorem dX12_lots_147 : decode cX12_lots 147 = .ok (.dup2, 1) := by decide +kernel
theorem dX12_lots_148 : decode cX12_lots 148 = .ok (.iaload, 1) := by decide +kernel
theorem dX12_lots_149 : decode cX12_lots 149 = .ok (.aload_n 0, 1) := by decide +kernel
theorem dX12_lots_150 : decode cX12_lots 150 = .ok (.getfield 82, 3) := by decide +kernel
theorem dX12_lots_153 : decode cX12_lots 153 = .ok (.iadd, 1) := by decide +kernel
theorem dX12_lots_154 : decode cX12_lots 154 = .ok (.iastore, 1) := by decide +kernel
theorem dX12_lots_155 : decode cX12_lots 155 = .ok (.aload_n 0, 1) := by decide +kernel
theorem dX12_lots_156 : decode cX12_lots 156 = .ok (.getfield 38, 3) := by decide +kernel
theorem dX12_lots_159 : decode cX12_lots 159 = .ok (.iload 11, 2) := by decide +kernel
theorem dX12_lots_161 : decode cX12_lots 161 = .ok (.dup2, 1) := by decide +kernel
theorem dX12_lots_162 : decode cX12_lots 162 = .ok (.iaload, 1) := by decide +kernel
theorem dX12_lots_163 : decode cX12_lots 163 = .ok (.aload_n 0, 1) := by decide +kernel
theorem dX12_lots_164 : decode cX12_lots 164 = .ok (.getfield 85, 3) := by decide +kernel
theorem dX12_lots_167 : decode cX12_lots 167 = .ok (.iadd, 1) := by decide +kernel
theorem dX12_lots_168 : decode cX12_lots 168 = .ok (.iastore, 1) := by decide +kernel
theorem dX12_lots_169 : decode cX12_lots 169 = .ok (.iinc 11 1, 3) := by decide +kernel
theorem dX12_lots_172 : decode cX12_lots 172 = .ok (.goto (-66), 3) := by decide +kernel
theorem dX12_lots_175 : decode cX12_lots 175 = .ok (.iload 9, 2) := by decide +kernel
theorem dX12_lots_177 : decode cX12_lots 177 = .ok (.istore 6, 2) := by decide +kernel
theorem dX12_lots_179 : decode cX12_lots 179 = .ok (.iload 10, 2) := by decide +kernel
theorem dX12_lots_181 : decode cX12_lots 181 = .ok (.istore 7, 2) := by decide +kernel
theorem dX12_lots_183 : decode cX12_lots 183 = .ok (.iload 5, 2) := by decide +kernel
theorem dX12_lots_185 : decode cX12_lots 185 = .ok (.aload_n 0, 1) := by decide +kernel
theorem dX12_lots_186 : decode cX12_lots 186 = .ok (.invokevirtual 99, 3) := by decide +kernel
theorem dX12_lots_189 : decode cX12_lots 189 = .ok (.iadd, 1) := by decide +kernel
theorem dX12_lots_190 : decode cX12_lots 190 = .ok (.istore 5, 2) := by decide +kernel
theorem dX12_lots_192 : decode cX12_lots 192 = .ok (.aload_n 0, 1) := by decide +kernel
theorem dX12_lots_193 : decode cX12_lots 193 = .ok (.dup, 1) := by decide +kernel
theorem dX12_lots_194 : decode cX12_lots 194 = .ok (.getfield 79, 3) := by decide +kernel
theorem dX12_lots_197 : decode cX12_lots 197 = .ok (.iconst 1, 1) := by decide +kernel
theorem dX12_lots_198 : decode cX12_lots 198 = .ok (.iadd, 1) := by decide +kernel
theorem dX12_lots_199 : decode cX12_lots 199 = .ok (.putfield 79, 3) := by decide +kernel
theorem dX12_lots_202 : decode cX12_lots 202 = .ok (.iinc 8 1, 3) := by decide +kernel
theorem dX12_lots_205 : decode cX12_lots 205 = .ok (.goto (-128), 3) := by decide +kernel
theorem dX12_lots_208 : decode cX12_lots 208 = .ok (.iconst 0, 1) := by decide +kernel
theorem dX12_lots_209 : decode cX12_lots 209 = .ok (.istore 8, 2) := by decide +kernel
theorem dX12_lots_211 : decode cX12_lots 211 = .ok (.iconst 0, 1) := by decide +kernel
theorem dX12_lots_212 : decode cX12_lots 212 = .ok (.istore 9, 2) := by decide +kernel
theorem dX12_lots_214 : decode cX12_lots 214 = .ok (.iload 9, 2) := by decide +kernel
theorem dX12_lots_216 : decode cX12_lots 216 = .ok (.aload_n 0, 1) := by decide +kernel
theorem dX12_lots_217 : decode cX12_lots 217 = .ok (.getfield 68, 3) := by decide +kernel
theorem dX12_lots_220 : decode cX12_lots 220 = .ok (.if_icmp .ge 55, 3) := by decide +kernel
theorem dX12_lots_223 : decode cX12_lots 223 = .ok (.iload 9, 2) := by decide +kernel
theorem dX12_lots_225 : decode cX12_lots 225 = .ok (.iconst 1, 1) := by decide +kernel
theorem dX12_lots_226 : decode cX12_lots 226 = .ok (.iadd, 1) := by decide +kernel
theorem dX12_lots_227 : decode cX12_lots 227 = .ok (.istore 10, 2) := by decide +kernel
theorem dX12_lots_229 : decode cX12_lots 229 = .ok (.iload 10, 2) := by decide +kernel
theorem dX12_lots_231 : decode cX12_lots 231 = .ok (.aload_n 0, 1) := by decide +kernel
theorem dX12_lots_232 : decode cX12_lots 232 = .ok (.getfield 68, 3) := by decide +kernel
theorem dX12_lots_235 : decode cX12_lots 235 = .ok (.if_icmp .ge 34, 3) := by decide +kernel
theorem dX12_lots_238 : decode cX12_lots 238 = .ok (.iload 8, 2) := by decide +kernel
theorem dX12_lots_240 : decode cX12_lots 240 = .ok (.aload_n 0, 1) := by decide +kernel
theorem dX12_lots_241 : decode cX12_lots 241 = .ok (.iload 9, 2) := by decide +kernel
theorem dX12_lots_243 : decode cX12_lots 243 = .ok (.iload 10, 2) := by decide +kernel
theorem dX12_lots_245 : decode cX12_lots 245 = .ok (.invokevirtual 107, 3) := by decide +kernel
theorem dX12_lots_248 : decode cX12_lots 248 = .ok (.aload_n 0, 1) := by decide +kernel
theorem dX12_lots_249 : decode cX12_lots 249 = .ok (.getfield 13, 3) := by decide +kernel
theorem dX12_lots_252 : decode cX12_lots 252 = .ok (.if_icmp .gt 7, 3) := by decide +kernel
theorem dX12_lots_255 : decode cX12_lots 255 = .ok (.iconst 1, 1) := by decide +kernel
theorem dX12_lots_256 : decode cX12_lots 256 = .ok (.goto 4, 3) := by decide +kernel
theorem dX12_lots_259 : decode cX12_lots 259 = .ok (.iconst 0, 1) := by decide +kernel
theorem dX12_lots_260 : decode cX12_lots 260 = .ok (.iadd, 1) := by decide +kernel
theorem dX12_lots_261 : decode cX12_lots 261 = .ok (.istore 8, 2) := by decide +kernel
theorem dX12_lots_263 : decode cX12_lots 263 = .ok (.iinc 10 1, 3) := by decide +kernel
theorem dX12_lots_266 : decode cX12_lots 266 = .ok (.goto (-37), 3) := by decide +kernel
theorem dX12_lots_269 : decode cX12_lots 269 = .ok (.iinc 9 1, 3) := by decide +kernel
theorem dX12_lots_272 : decode cX12_lots 272 = .ok (.goto (-58), 3) := by decide +kernel
theorem dX12_lots_275 : decode cX12_lots 275 = .ok (.aload_n 0, 1) := by decide +kernel
theorem dX12_lots_276 : decode cX12_lots 276 = .ok (.invokevirtual 188, 3) := by decide +kernel
theorem dX12_lots_279 : decode cX12_lots 279 = .ok (.iload_n 3, 1) := by decide +kernel
theorem dX12_lots_280 : decode cX12_lots 280 = .ok (.ifCond .ne 8, 3) := by decide +kernel
theorem dX12_lots_283 : decode cX12_lots 283 = .ok (.iload 5, 2) := by decide +kernel
theorem dX12_lots_285 : decode cX12_lots 285 = .ok (.goto 5, 3) := by decide +kernel
theorem dX12_lots_288 : decode cX12_lots 288 = .ok (.iload 8, 2) := by decide +kernel
theorem dX12_lots_290 : decode cX12_lots 290 = .ok (.ireturn, 1) := by decide +kernel
theorem dX12_sumOf_0 : decode cX12_sumOf 0 = .ok (.iconst 0, 1) := by decide +kernel
theorem dX12_sumOf_1 : decode cX12_sumOf 1 = .ok (.istore_n 2, 1) := by decide +kernel
theorem dX12_sumOf_2 : decode cX12_sumOf 2 = .ok (.iconst 0, 1) := by decide +kernel
theorem dX12_sumOf_3 : decode cX12_sumOf 3 = .ok (.istore_n 3, 1) := by decide +kernel
theorem dX12_sumOf_4 : decode cX12_sumOf 4 = .ok (.iload_n 3, 1) := by decide +kernel
theorem dX12_sumOf_5 : decode cX12_sumOf 5 = .ok (.aload_n 0, 1) := by decide +kernel
theorem dX12_sumOf_6 : decode cX12_sumOf 6 = .ok (.getfield 68, 3) := by decide +kernel
theorem dX12_sumOf_9 : decode cX12_sumOf 9 = .ok (.if_icmp .ge 15, 3) := by decide +kernel
theorem dX12_sumOf_12 : decode cX12_sumOf 12 = .ok (.iload_n 2, 1) := by decide +kernel
theorem dX12_sumOf_13 : decode cX12_sumOf 13 = .ok (.aload_n 1, 1) := by decide +kernel
theorem dX12_sumOf_14 : decode cX12_sumOf 14 = .ok (.iload_n 3, 1) := by decide +kernel
theorem dX12_sumOf_15 : decode cX12_sumOf 15 = .ok (.iaload, 1) := by decide +kernel
theorem dX12_sumOf_16 : decode cX12_sumOf 16 = .ok (.iadd, 1) := by decide +kernel
theorem dX12_sumOf_17 : decode cX12_sumOf 17 = .ok (.istore_n 2, 1) := by decide +kernel
theorem dX12_sumOf_18 : decode cX12_sumOf 18 = .ok (.iinc 3 1, 3) := by decide +kernel
theorem dX12_sumOf_21 : decode cX12_sumOf 21 = .ok (.goto (-17), 3) := by decide +kernel
theorem dX12_sumOf_24 : decode cX12_sumOf 24 = .ok (.iload_n 2, 1) := by decide +kernel
theorem dX12_sumOf_25 : decode cX12_sumOf 25 = .ok (.ireturn, 1) := by decide +kernel
theorem dX12_openLeads_0 : decode cX12_openLeads 0 = .ok (.iconst 0, 1) := by decide +kernel
theorem dX12_openLeads_1 : decode cX12_openLeads 1 = .ok (.istore_n 1, 1) := by decide +kernel
theorem dX12_openLeads_2 : decode cX12_openLeads 2 = .ok (.iconst 0, 1) := by decide +kernel
theorem dX12_openLeads_3 : decode cX12_openLeads 3 = .ok (.istore_n 2, 1) := by decide +kernel
theorem dX12_openLeads_4 : decode cX12_openLeads 4 = .ok (.iload_n 2, 1) := by decide +kernel
theorem dX12_openLeads_5 : decode cX12_openLeads 5 = .ok (.aload_n 0, 1) := by decide +kernel
theorem dX12_openLeads_6 : decode cX12_openLeads 6 = .ok (.getfield 68, 3) := by decide +kernel
theorem dX12_openLeads_9 : decode cX12_openLeads 9 = .ok (.if_icmp .ge 44, 3) := by decide +kernel
theorem dX12_openLeads_12 : decode cX12_openLeads 12 = .ok (.iload_n 2, 1) := by decide +kernel
theorem dX12_openLeads_13 : decode cX12_openLeads 13 = .ok (.iconst 1, 1) := by decide +kernel
theorem dX12_openLeads_14 : decode cX12_openLeads 14 = .ok (.iadd, 1) := by decide +kernel
theorem dX12_openLeads_15 : decode cX12_openLeads 15 = .ok (.istore_n 3, 1) := by decide +kernel
theorem dX12_openLeads_16 : decode cX12_openLeads 16 = .ok (.iload_n 3, 1) := by decide +kernel
theorem dX12_openLeads_17 : decode cX12_openLeads 17 = .ok (.aload_n 0, 1) := by decide +kernel
theorem dX12_openLeads_18 : decode cX12_openLeads 18 = .ok (.getfield 68, 3) := by decide +kernel
theorem dX12_openLeads_21 : decode cX12_openLeads 21 = .ok (.if_icmp .ge 26, 3) := by decide +kernel
theorem dX12_openLeads_24 : decode cX12_openLeads 24 = .ok (.iload_n 1, 1) := by decide +kernel
theorem dX12_openLeads_25 : decode cX12_openLeads 25 = .ok (.aload_n 0, 1) := by decide +kernel
theorem dX12_openLeads_26 : decode cX12_openLeads 26 = .ok (.iload_n 2, 1) := by decide +kernel
theorem dX12_openLeads_27 : decode cX12_openLeads 27 = .ok (.iload_n 3, 1) := by decide +kernel
theorem dX12_openLeads_28 : decode cX12_openLeads 28 = .ok (.invokevirtual 215, 3) := by decide +kernel
theorem dX12_openLeads_31 : decode cX12_openLeads 31 = .ok (.ifCond .eq 7, 3) := by decide +kernel
theorem dX12_openLeads_34 : decode cX12_openLeads 34 = .ok (.iconst 1, 1) := by decide +kernel
theorem dX12_openLeads_35 : decode cX12_openLeads 35 = .ok (.goto 4, 3) := by decide +kernel
theorem dX12_openLeads_38 : decode cX12_openLeads 38 = .ok (.iconst 0, 1) := by decide +kernel
theorem dX12_openLeads_39 : decode cX12_openLeads 39 = .ok (.iadd, 1) := by decide +kernel
theorem dX12_openLeads_40 : decode cX12_openLeads 40 = .ok (.istore_n 1, 1) := by decide +kernel
theorem dX12_openLeads_41 : decode cX12_openLeads 41 = .ok (.iinc 3 1, 3) := by decide +kernel
theorem dX12_openLeads_44 : decode cX12_openLeads 44 = .ok (.goto (-28), 3) := by decide +kernel
theorem dX12_openLeads_47 : decode cX12_openLeads 47 = .ok (.iinc 2 1, 3) := by decide +kernel
theorem dX12_openLeads_50 : decode cX12_openLeads 50 = .ok (.goto (-46), 3) := by decide +kernel
theorem dX12_openLeads_53 : decode cX12_openLeads 53 = .ok (.iload_n 1, 1) := by decide +kernel
theorem dX12_openLeads_54 : decode cX12_openLeads 54 = .ok (.ireturn, 1) := by decide +kernel
theorem dX12_count_0 : decode cX12_count 0 = .ok (.aload_n 0, 1) := by decide +kernel
theorem dX12_count_1 : decode cX12_count 1 = .ok (.iconst 0, 1) := by decide +kernel
theorem dX12_count_2 : decode cX12_count 2 = .ok (.putfield 65, 3) := by decide +kernel
theorem dX12_count_5 : decode cX12_count 5 = .ok (.iload_n 1, 1) := by decide +kernel
theorem dX12_count_6 : decode cX12_count 6 = .ok (.tableswitch 112 0 9 #[54, 59, 64, 69, 74, 83, 92, 97, 102, 107], 54) := by decide +kernel
theorem dX12_count_60 : decode cX12_count 60 = .ok (.aload_n 0, 1) := by decide +kernel
theorem dX12_count_61 : decode cX12_count 61 = .ok (.getfield 68, 3) := by decide +kernel
theorem dX12_count_64 : decode cX12_count 64 = .ok (.ireturn, 1) := by decide +kernel
theorem dX12_count_65 : decode cX12_count 65 = .ok (.aload_n 0, 1) := by decide +kernel
theorem dX12_count_66 : decode cX12_count 66 = .ok (.getfield 79, 3) := by decide +kernel
theorem dX12_count_69 : decode cX12_count 69 = .ok (.ireturn, 1) := by decide +kernel
theorem dX12_count_70 : decode cX12_count 70 = .ok (.aload_n 0, 1) := by decide +kernel
theorem dX12_count_71 : decode cX12_count 71 = .ok (.getfield 7, 3) := by decide +kernel
theorem dX12_count_74 : decode cX12_count 74 = .ok (.ireturn, 1) := by decide +kernel
theorem dX12_count_75 : decode cX12_count 75 = .ok (.aload_n 0, 1) := by decide +kernel
theorem dX12_count_76 : decode cX12_count 76 = .ok (.getfield 13, 3) := by decide +kernel
theorem dX12_count_79 : decode cX12_count 79 = .ok (.ireturn, 1) := by decide +kernel
theorem dX12_count_80 : decode cX12_count 80 = .ok (.aload_n 0, 1) := by decide +kernel
theorem dX12_count_81 : decode cX12_count 81 = .ok (.aload_n 0, 1) := by decide +kernel
theorem dX12_count_82 : decode cX12_count 82 = .ok (.getfield 32, 3) := by decide +kernel
theorem dX12_count_85 : decode cX12_count 85 = .ok (.invokevirtual 242, 3) := by decide +kernel
theorem dX12_count_88 : decode cX12_count 88 = .ok (.ireturn, 1) := by decide +kernel
theorem dX12_count_89 : decode cX12_count 89 = .ok (.aload_n 0, 1) := by decide +kernel
theorem dX12_count_90 : decode cX12_count 90 = .ok (.aload_n 0, 1) := by decide +kernel
theorem dX12_count_91 : decode cX12_count 91 = .ok (.getfield 29, 3) := by decide +kernel
theorem dX12_count_94 : decode cX12_count 94 = .ok (.invokevirtual 242, 3) := by decide +kernel
theorem dX12_count_97 : decode cX12_count 97 = .ok (.ireturn, 1) := by decide +kernel
theorem dX12_count_98 : decode cX12_count 98 = .ok (.aload_n 0, 1) := by decide +kernel
theorem dX12_count_99 : decode cX12_count 99 = .ok (.getfield 124, 3) := by decide +kernel
theorem dX12_count_102 : decode cX12_count 102 = .ok (.ireturn, 1) := by decide +kernel
theorem dX12_count_103 : decode cX12_count 103 = .ok (.aload_n 0, 1) := by decide +kernel
theorem dX12_count_104 : decode cX12_count 104 = .ok (.invokevirtual 246, 3) := by decide +kernel
theorem dX12_count_107 : decode cX12_count 107 = .ok (.ireturn, 1) := by decide +kernel
theorem dX12_count_108 : decode cX12_count 108 = .ok (.aload_n 0, 1) := by decide +kernel
theorem dX12_count_109 : decode cX12_count 109 = .ok (.getfield 137, 3) := by decide +kernel
theorem dX12_count_112 : decode cX12_count 112 = .ok (.ireturn, 1) := by decide +kernel
theorem dX12_count_113 : decode cX12_count 113 = .ok (.aload_n 0, 1) := by decide +kernel
theorem dX12_count_114 : decode cX12_count 114 = .ok (.getfield 230, 3) := by decide +kernel
theorem dX12_count_117 : decode cX12_count 117 = .ok (.ireturn, 1) := by decide +kernel
theorem dX12_count_118 : decode cX12_count 118 = .ok (.iload_n 1, 1) := by decide +kernel
theorem dX12_count_119 : decode cX12_count 119 = .ok (.i2l, 1) := by decide +kernel
theorem dX12_count_120 : decode cX12_count 120 = .ok (.ldc2_w 249, 3) := by decide +kernel
theorem dX12_count_123 : decode cX12_count 123 = .ok (.ldc2_w 251, 3) := by decide +kernel
theorem dX12_count_126 : decode cX12_count 126 = .ok (.invokestatic 71, 3) := by decide +kernel
theorem dX12_count_129 : decode cX12_count 129 = .ok (.ifCond .eq 15, 3) := by decide +kernel
theorem dX12_count_132 : decode cX12_count 132 = .ok (.aload_n 0, 1) := by decide +kernel
theorem dX12_count_133 : decode cX12_count 133 = .ok (.getfield 41, 3) := by decide +kernel
theorem dX12_count_136 : decode cX12_count 136 = .ok (.iload_n 1, 1) := by decide +kernel
theorem dX12_count_137 : decode cX12_count 137 = .ok (.bipush 10, 2) := by decide +kernel
theorem dX12_count_139 : decode cX12_count 139 = .ok (.isub, 1) := by decide +kernel
theorem dX12_count_140 : decode cX12_count 140 = .ok (.iaload, 1) := by decide +kernel
theorem dX12_count_141 : decode cX12_count 141 = .ok (.goto 5, 3) := by decide +kernel
theorem dX12_count_144 : decode cX12_count 144 = .ok (.bipush (-9), 2) := by decide +kernel
theorem dX12_count_146 : decode cX12_count 146 = .ok (.ireturn, 1) := by decide +kernel
end
section
theorem dL_law_0 : decode cL_law 0 = .ok (.new 7, 3) := by decide +kernel
theorem dL_law_3 : decode cL_law 3 = .ok (.dup, 1) := by decide +kernel
theorem dL_law_4 : decode cL_law 4 = .ok (.invokespecial 9, 3) := by decide +kernel
theorem dL_law_7 : decode cL_law 7 = .ok (.astore_n 1, 1) := by decide +kernel
theorem dL_law_8 : decode cL_law 8 = .ok (.new 10, 3) := by decide +kernel
theorem dL_law_11 : decode cL_law 11 = .ok (.dup, 1) := by decide +kernel
theorem dL_law_12 : decode cL_law 12 = .ok (.invokespecial 12, 3) := by decide +kernel
theorem dL_law_15 : decode cL_law 15 = .ok (.astore_n 2, 1) := by decide +kernel
theorem dL_law_16 : decode cL_law 16 = .ok (.iconst 0, 1) := by decide +kernel
theorem dL_law_17 : decode cL_law 17 = .ok (.istore_n 3, 1) := by decide +kernel
theorem dL_law_18 : decode cL_law 18 = .ok (.iload_n 3, 1) := by decide +kernel
theorem dL_law_19 : decode cL_law 19 = .ok (.aload_n 0, 1) := by decide +kernel
theorem dL_law_20 : decode cL_law 20 = .ok (.arraylength, 1) := by decide +kernel
theorem dL_law_21 : decode cL_law 21 = .ok (.bipush 6, 2) := by decide +kernel
theorem dL_law_23 : decode cL_law 23 = .ok (.isub, 1) := by decide +kernel
theorem dL_law_24 : decode cL_law 24 = .ok (.if_icmp .gt 1051, 3) := by decide +kernel
theorem dL_law_27 : decode cL_law 27 = .ok (.aload_n 0, 1) := by decide +kernel
theorem dL_law_28 : decode cL_law 28 = .ok (.iload_n 3, 1) := by decide +kernel
theorem dL_law_29 : decode cL_law 29 = .ok (.iaload, 1) := by decide +kernel
theorem dL_law_30 : decode cL_law 30 = .ok (.bipush 31, 2) := by decide +kernel
theorem dL_law_32 : decode cL_law 32 = .ok (.iand, 1) := by decide +kernel
theorem dL_law_33 : decode cL_law 33 = .ok (.tableswitch 1036 0 29 #[135, 158, 171, 204, 227, 270, 303, 326, 359, 402, 436, 469, 522, 555, 588, 611, 644, 657, 670, 693, 716, 749, 782, 835, 898, 921, 944, 987, 1000, 1013], 135) := by decide +kernel
theorem dL_law_168 : decode cL_law 168 = .ok (.aload_n 1, 1) := by decide +kernel
theorem dL_law_169 : decode cL_law 169 = .ok (.aload_n 0, 1) := by decide +kernel
theorem dL_law_170 : decode cL_law 170 = .ok (.iload_n 3, 1) := by decide +kernel
theorem dL_law_171 : decode cL_law 171 = .ok (.iconst 1, 1) := by decide +kernel
theorem dL_law_172 : decode cL_law 172 = .ok (.iadd, 1) := by decide +kernel
theorem dL_law_173 : decode cL_law 173 = .ok (.iaload, 1) := by decide +kernel
theorem dL_law_174 : decode cL_law 174 = .ok (.invokevirtual 13, 3) := by decide +kernel
theorem dL_law_177 : decode cL_law 177 = .ok (.aload_n 2, 1) := by decide +kernel
theorem dL_law_178 : decode cL_law 178 = .ok (.aload_n 0, 1) := by decide +kernel
theorem dL_law_179 : decode cL_law 179 = .ok (.iload_n 3, 1) := by decide +kernel
theorem dL_law_180 : decode cL_law 180 = .ok (.iconst 1, 1) := by decide +kernel
theorem dL_law_181 : decode cL_law 181 = .ok (.iadd, 1) := by decide +kernel
theorem dL_law_182 : decode cL_law 182 = .ok (.iaload, 1) := by decide +kernel
theorem dL_law_183 : decode cL_law 183 = .ok (.invokevirtual 17, 3) := by decide +kernel
theorem dL_law_186 : decode cL_law 186 = .ok (.if_icmp .eq 883, 3) := by decide +kernel
theorem dL_law_189 : decode cL_law 189 = .ok (.iconst 0, 1) := by decide +kernel
theorem dL_law_190 : decode cL_law 190 = .ok (.ireturn, 1) := by decide +kernel
theorem dL_law_191 : decode cL_law 191 = .ok (.aload_n 1, 1) := by decide +kernel
theorem dL_law_192 : decode cL_law 192 = .ok (.invokevirtual 18, 3) := by decide +kernel
theorem dL_law_195 : decode cL_law 195 = .ok (.aload_n 2, 1) := by decide +kernel
theorem dL_law_196 : decode cL_law 196 = .ok (.invokevirtual 22, 3) := by decide +kernel
theorem dL_law_199 : decode cL_law 199 = .ok (.if_icmp .eq 870, 3) := by decide +kernel
theorem dL_law_202 : decode cL_law 202 = .ok (.iconst 0, 1) := by decide +kernel
theorem dL_law_203 : decode cL_law 203 = .ok (.ireturn, 1) := by decide +kernel
theorem dL_law_204 : decode cL_law 204 = .ok (.aload_n 1, 1) := by decide +kernel
theorem dL_law_205 : decode cL_law 205 = .ok (.aload_n 0, 1) := by decide +kernel
theorem dL_law_206 : decode cL_law 206 = .ok (.iload_n 3, 1) := by decide +kernel
theorem dL_law_207 : decode cL_law 207 = .ok (.iconst 1, 1) := by decide +kernel
theorem dL_law_208 : decode cL_law 208 = .ok (.iadd, 1) := by decide +kernel
theorem dL_law_209 : decode cL_law 209 = .ok (.iaload, 1) := by decide +kernel
theorem dL_law_210 : decode cL_law 210 = .ok (.aload_n 0, 1) := by decide +kernel
theorem dL_law_211 : decode cL_law 211 = .ok (.iload_n 3, 1) := by decide +kernel
theorem dL_law_212 : decode cL_law 212 = .ok (.iconst 2, 1) := by decide +kernel
theorem dL_law_213 : decode cL_law 213 = .ok (.iadd, 1) := by decide +kernel
theorem dL_law_214 : decode cL_law 214 = .ok (.iaload, 1) := by decide +kernel
theorem dL_law_215 : decode cL_law 215 = .ok (.invokevirtual 23, 3) := by decide +kernel
theorem dL_law_218 : decode cL_law 218 = .ok (.aload_n 2, 1) := by decide +kernel
theorem dL_law_219 : decode cL_law 219 = .ok (.aload_n 0, 1) := by decide +kernel
theorem dL_law_220 : decode cL_law 220 = .ok (.iload_n 3, 1) := by decide +kernel
theorem dL_law_221 : decode cL_law 221 = .ok (.iconst 1, 1) := by decide +kernel
theorem dL_law_222 : decode cL_law 222 = .ok (.iadd, 1) := by decide +kernel
theorem dL_law_223 : decode cL_law 223 = .ok (.iaload, 1) := by decide +kernel
theorem dL_law_224 : decode cL_law 224 = .ok (.aload_n 0, 1) := by decide +kernel
theorem dL_law_225 : decode cL_law 225 = .ok (.iload_n 3, 1) := by decide +kernel
theorem dL_law_226 : decode cL_law 226 = .ok (.iconst 2, 1) := by decide +kernel
theorem dL_law_227 : decode cL_law 227 = .ok (.iadd, 1) := by decide +kernel
theorem dL_law_228 : decode cL_law 228 = .ok (.iaload, 1) := by decide +kernel
theorem dL_law_229 : decode cL_law 229 = .ok (.invokevirtual 27, 3) := by decide +kernel
theorem dL_law_232 : decode cL_law 232 = .ok (.if_icmp .eq 837, 3) := by decide +kernel
theorem dL_law_235 : decode cL_law 235 = .ok (.iconst 0, 1) := by decide +kernel
theorem dL_law_236 : decode cL_law 236 = .ok (.ireturn, 1) := by decide +kernel
theorem dL_law_237 : decode cL_law 237 = .ok (.aload_n 1, 1) := by decide +kernel
theorem dL_law_238 : decode cL_law 238 = .ok (.aload_n 0, 1) := by decide +kernel
theorem dL_law_239 : decode cL_law 239 = .ok (.iload_n 3, 1) := by decide +kernel
theorem dL_law_240 : decode cL_law 240 = .ok (.iconst 1, 1) := by decide +kernel
theorem dL_law_241 : decode cL_law 241 = .ok (.iadd, 1) := by decide +kernel
theorem dL_law_242 : decode cL_law 242 = .ok (.iaload, 1) := by decide +kernel
theorem dL_law_243 : decode cL_law 243 = .ok (.invokevirtual 28, 3) := by decide +kernel
theorem dL_law_246 : decode cL_law 246 = .ok (.aload_n 2, 1) := by decide +kernel
theorem dL_law_247 : decode cL_law 247 = .ok (.aload_n 0, 1) := by decide +kernel
theorem dL_law_248 : decode cL_law 248 = .ok (.iload_n 3, 1) := by decide +kernel
theorem dL_law_249 : decode cL_law 249 = .ok (.iconst 1, 1) := by decide +kernel
theorem dL_law_250 : decode cL_law 250 = .ok (.iadd, 1) := by decide +kernel
theorem dL_law_251 : decode cL_law 251 = .ok (.iaload, 1) := by decide +kernel
theorem dL_law_252 : decode cL_law 252 = .ok (.invokevirtual 31, 3) := by decide +kernel
theorem dL_law_255 : decode cL_law 255 = .ok (.if_icmp .eq 814, 3) := by decide +kernel
theorem dL_law_258 : decode cL_law 258 = .ok (.iconst 0, 1) := by decide +kernel
theorem dL_law_259 : decode cL_law 259 = .ok (.ireturn, 1) := by decide +kernel
theorem dL_law_260 : decode cL_law 260 = .ok (.aload_n 1, 1) := by decide +kernel
theorem dL_law_261 : decode cL_law 261 = .ok (.aload_n 0, 1) := by decide +kernel
theorem dL_law_262 : decode cL_law 262 = .ok (.iload_n 3, 1) := by decide +kernel
theorem dL_law_263 : decode cL_law 263 = .ok (.iconst 1, 1) := by decide +kernel
theorem dL_law_264 : decode cL_law 264 = .ok (.iadd, 1) := by decide +kernel
theorem dL_law_265 : decode cL_law 265 = .ok (.iaload, 1) := by decide +kernel
theorem dL_law_266 : decode cL_law 266 = .ok (.aload_n 0, 1) := by decide +kernel
theorem dL_law_267 : decode cL_law 267 = .ok (.iload_n 3, 1) := by decide +kernel
theorem dL_law_268 : decode cL_law 268 = .ok (.iconst 2, 1) := by decide +kernel
theorem dL_law_269 : decode cL_law 269 = .ok (.iadd, 1) := by decide +kernel
theorem dL_law_270 : decode cL_law 270 = .ok (.iaload, 1) := by decide +kernel
theorem dL_law_271 : decode cL_law 271 = .ok (.aload_n 0, 1) := by decide +kernel
theorem dL_law_272 : decode cL_law 272 = .ok (.iload_n 3, 1) := by decide +kernel
theorem dL_law_273 : decode cL_law 273 = .ok (.iconst 3, 1) := by decide +kernel
theorem dL_law_274 : decode cL_law 274 = .ok (.iadd, 1) := by decide +kernel
theorem dL_law_275 : decode cL_law 275 = .ok (.iaload, 1) := by decide +kernel
theorem dL_law_276 : decode cL_law 276 = .ok (.invokevirtual 32, 3) := by decide +kernel
theorem dL_law_279 : decode cL_law 279 = .ok (.aload_n 2, 1) := by decide +kernel
theorem dL_law_280 : decode cL_law 280 = .ok (.aload_n 0, 1) := by decide +kernel
theorem dL_law_281 : decode cL_law 281 = .ok (.iload_n 3, 1) := by decide +kernel
theorem dL_law_282 : decode cL_law 282 = .ok (.iconst 1, 1) := by decide +kernel
theorem dL_law_283 : decode cL_law 283 = .ok (.iadd, 1) := by decide +kernel
theorem dL_law_284 : decode cL_law 284 = .ok (.iaload, 1) := by decide +kernel
theorem dL_law_285 : decode cL_law 285 = .ok (.aload_n 0, 1) := by decide +kernel
theorem dL_law_286 : decode cL_law 286 = .ok (.iload_n 3, 1) := by decide +kernel
theorem dL_law_287 : decode cL_law 287 = .ok (.iconst 2, 1) := by decide +kernel
theorem dL_law_288 : decode cL_law 288 = .ok (.iadd, 1) := by decide +kernel
theorem dL_law_289 : decode cL_law 289 = .ok (.iaload, 1) := by decide +kernel
theorem dL_law_290 : decode cL_law 290 = .ok (.aload_n 0, 1) := by decide +kernel
theorem dL_law_291 : decode cL_law 291 = .ok (.iload_n 3, 1) := by decide +kernel
theorem dL_law_292 : decode cL_law 292 = .ok (.iconst 3, 1) := by decide +kernel
theorem dL_law_293 : decode cL_law 293 = .ok (.iadd, 1) := by decide +kernel
theorem dL_law_294 : decode cL_law 294 = .ok (.iaload, 1) := by decide +kernel
theorem dL_law_295 : decode cL_law 295 = .ok (.invokevirtual 36, 3) := by decide +kernel
theorem dL_law_298 : decode cL_law 298 = .ok (.if_icmp .eq 771, 3) := by decide +kernel
theorem dL_law_301 : decode cL_law 301 = .ok (.iconst 0, 1) := by decide +kernel
theorem dL_law_302 : decode cL_law 302 = .ok (.ireturn, 1) := by decide +kernel
theorem dL_law_303 : decode cL_law 303 = .ok (.aload_n 1, 1) := by decide +kernel
theorem dL_law_304 : decode cL_law 304 = .ok (.aload_n 0, 1) := by decide +kernel
theorem dL_law_305 : decode cL_law 305 = .ok (.iload_n 3, 1) := by decide +kernel
theorem dL_law_306 : decode cL_law 306 = .ok (.iconst 1, 1) := by decide +kernel
theorem dL_law_307 : decode cL_law 307 = .ok (.iadd, 1) := by decide +kernel
theorem dL_law_308 : decode cL_law 308 = .ok (.iaload, 1) := by decide +kernel
theorem dL_law_309 : decode cL_law 309 = .ok (.aload_n 0, 1) := by decide +kernel
theorem dL_law_310 : decode cL_law 310 = .ok (.iload_n 3, 1) := by decide +kernel
theorem dL_law_311 : decode cL_law 311 = .ok (.iconst 2, 1) := by decide +kernel
theorem dL_law_312 : decode cL_law 312 = .ok (.iadd, 1) := by decide +kernel
theorem dL_law_313 : decode cL_law 313 = .ok (.iaload, 1) := by decide +kernel
theorem dL_law_314 : decode cL_law 314 = .ok (.invokevirtual 37, 3) := by decide +kernel
theorem dL_law_317 : decode cL_law 317 = .ok (.aload_n 2, 1) := by decide +kernel
theorem dL_law_318 : decode cL_law 318 = .ok (.aload_n 0, 1) := by decide +kernel
theorem dL_law_319 : decode cL_law 319 = .ok (.iload_n 3, 1) := by decide +kernel
theorem dL_law_320 : decode cL_law 320 = .ok (.iconst 1, 1) := by decide +kernel
theorem dL_law_321 : decode cL_law 321 = .ok (.iadd, 1) := by decide +kernel
theorem dL_law_322 : decode cL_law 322 = .ok (.iaload, 1) := by decide +kernel
theorem dL_law_323 : decode cL_law 323 = .ok (.aload_n 0, 1) := by decide +kernel
theorem dL_law_324 : decode cL_law 324 = .ok (.iload_n 3, 1) := by decide +kernel
theorem dL_law_325 : decode cL_law 325 = .ok (.iconst 2, 1) := by decide +kernel
theorem dL_law_326 : decode cL_law 326 = .ok (.iadd, 1) := by decide +kernel
theorem dL_law_327 : decode cL_law 327 = .ok (.iaload, 1) := by decide +kernel
theorem dL_law_328 : decode cL_law 328 = .ok (.invokevirtual 40, 3) := by decide +kernel
theorem dL_law_331 : decode cL_law 331 = .ok (.if_icmp .eq 738, 3) := by decide +kernel
theorem dL_law_334 : decode cL_law 334 = .ok (.iconst 0, 1) := by decide +kernel
theorem dL_law_335 : decode cL_law 335 = .ok (.ireturn, 1) := by decide +kernel
theorem dL_law_336 : decode cL_law 336 = .ok (.aload_n 1, 1) := by decide +kernel
theorem dL_law_337 : decode cL_law 337 = .ok (.aload_n 0, 1) := by decide +kernel
theorem dL_law_338 : decode cL_law 338 = .ok (.iload_n 3, 1) := by decide +kernel
theorem dL_law_339 : decode cL_law 339 = .ok (.iconst 1, 1) := by decide +kernel
theorem dL_law_340 : decode cL_law 340 = .ok (.iadd, 1) := by decide +kernel
theorem dL_law_341 : decode cL_law 341 = .ok (.iaload, 1) := by decide +kernel
theorem dL_law_342 : decode cL_law 342 = .ok (.invokevirtual 41, 3) := by decide +kernel
theorem dL_law_345 : decode cL_law 345 = .ok (.aload_n 2, 1) := by decide +kernel
theorem dL_law_346 : decode cL_law 346 = .ok (.aload_n 0, 1) := by decide +kernel
theorem dL_law_347 : decode cL_law 347 = .ok (.iload_n 3, 1) := by decide +kernel
theorem dL_law_348 : decode cL_law 348 = .ok (.iconst 1, 1) := by decide +kernel
theorem dL_law_349 : decode cL_law 349 = .ok (.iadd, 1) := by decide +kernel
theorem dL_law_350 : decode cL_law 350 = .ok (.iaload, 1) := by decide +kernel
theorem dL_law_351 : decode cL_law 351 = .ok (.invokevirtual 44, 3) := by decide +kernel
theorem dL_law_354 : decode cL_law 354 = .ok (.if_icmp .eq 715, 3) := by decide +kernel
theorem dL_law_357 : decode cL_law 357 = .ok (.iconst 0, 1) := by decide +kernel
theorem dL_law_358 : decode cL_law 358 = .ok (.ireturn, 1) := by decide +kernel
theorem dL_law_359 : decode cL_law 359 = .ok (.aload_n 1, 1) := by decide +kernel
theorem dL_law_360 : decode cL_law 360 = .ok (.aload_n 0, 1) := by decide +kernel
theorem dL_law_361 : decode cL_law 361 = .ok (.iload_n 3, 1) := by decide +kernel
theorem dL_law_362 : decode cL_law 362 = .ok (.iconst 1, 1) := by decide +kernel
theorem dL_law_363 : decode cL_law 363 = .ok (.iadd, 1) := by decide +kernel
theorem dL_law_364 : decode cL_law 364 = .ok (.iaload, 1) := by decide +kernel
theorem dL_law_365 : decode cL_law 365 = .ok (.aload_n 0, 1) := by decide +kernel
theorem dL_law_366 : decode cL_law 366 = .ok (.iload_n 3, 1) := by decide +kernel
theorem dL_law_367 : decode cL_law 367 = .ok (.iconst 2, 1) := by decide +kernel
theorem dL_law_368 : decode cL_law 368 = .ok (.iadd, 1) := by decide +kernel
theorem dL_law_369 : decode cL_law 369 = .ok (.iaload, 1) := by decide +kernel
theorem dL_law_370 : decode cL_law 370 = .ok (.invokevirtual 45, 3) := by decide +kernel
theorem dL_law_373 : decode cL_law 373 = .ok (.aload_n 2, 1) := by decide +kernel
theorem dL_law_374 : decode cL_law 374 = .ok (.aload_n 0, 1) := by decide +kernel
theorem dL_law_375 : decode cL_law 375 = .ok (.iload_n 3, 1) := by decide +kernel
theorem dL_law_376 : decode cL_law 376 = .ok (.iconst 1, 1) := by decide +kernel
theorem dL_law_377 : decode cL_law 377 = .ok (.iadd, 1) := by decide +kernel
theorem dL_law_378 : decode cL_law 378 = .ok (.iaload, 1) := by decide +kernel
theorem dL_law_379 : decode cL_law 379 = .ok (.aload_n 0, 1) := by decide +kernel
theorem dL_law_380 : decode cL_law 380 = .ok (.iload_n 3, 1) := by decide +kernel
theorem dL_law_381 : decode cL_law 381 = .ok (.iconst 2, 1) := by decide +kernel
theorem dL_law_382 : decode cL_law 382 = .ok (.iadd, 1) := by decide +kernel
theorem dL_law_383 : decode cL_law 383 = .ok (.iaload, 1) := by decide +kernel
theorem dL_law_384 : decode cL_law 384 = .ok (.invokevirtual 48, 3) := by decide +kernel
theorem dL_law_387 : decode cL_law 387 = .ok (.if_icmp .eq 682, 3) := by decide +kernel
theorem dL_law_390 : decode cL_law 390 = .ok (.iconst 0, 1) := by decide +kernel
theorem dL_law_391 : decode cL_law 391 = .ok (.ireturn, 1) := by decide +kernel
theorem dL_law_392 : decode cL_law 392 = .ok (.aload_n 1, 1) := by decide +kernel
theorem dL_law_393 : decode cL_law 393 = .ok (.aload_n 0, 1) := by decide +kernel
theorem dL_law_394 : decode cL_law 394 = .ok (.iload_n 3, 1) := by decide +kernel
theorem dL_law_395 : decode cL_law 395 = .ok (.iconst 1, 1) := by decide +kernel
theorem dL_law_396 : decode cL_law 396 = .ok (.iadd, 1) := by decide +kernel
theorem dL_law_397 : decode cL_law 397 = .ok (.iaload, 1) := by decide +kernel
theorem dL_law_398 : decode cL_law 398 = .ok (.aload_n 0, 1) := by decide +kernel
theorem dL_law_399 : decode cL_law 399 = .ok (.iload_n 3, 1) := by decide +kernel
theorem dL_law_400 : decode cL_law 400 = .ok (.iconst 2, 1) := by decide +kernel
theorem dL_law_401 : decode cL_law 401 = .ok (.iadd, 1) := by decide +kernel
theorem dL_law_402 : decode cL_law 402 = .ok (.iaload, 1) := by decide +kernel
theorem dL_law_403 : decode cL_law 403 = .ok (.aload_n 0, 1) := by decide +kernel
theorem dL_law_404 : decode cL_law 404 = .ok (.iload_n 3, 1) := by decide +kernel
theorem dL_law_405 : decode cL_law 405 = .ok (.iconst 3, 1) := by decide +kernel
theorem dL_law_406 : decode cL_law 406 = .ok (.iadd, 1) := by decide +kernel
theorem dL_law_407 : decode cL_law 407 = .ok (.iaload, 1) := by decide +kernel
theorem dL_law_408 : decode cL_law 408 = .ok (.invokevirtual 49, 3) := by decide +kernel
theorem dL_law_411 : decode cL_law 411 = .ok (.aload_n 2, 1) := by decide +kernel
theorem dL_law_412 : decode cL_law 412 = .ok (.aload_n 0, 1) := by decide +kernel
theorem dL_law_413 : decode cL_law 413 = .ok (.iload_n 3, 1) := by decide +kernel
theorem dL_law_414 : decode cL_law 414 = .ok (.iconst 1, 1) := by decide +kernel
theorem dL_law_415 : decode cL_law 415 = .ok (.iadd, 1) := by decide +kernel
theorem dL_law_416 : decode cL_law 416 = .ok (.iaload, 1) := by decide +kernel
theorem dL_law_417 : decode cL_law 417 = .ok (.aload_n 0, 1) := by decide +kernel
theorem dL_law_418 : decode cL_law 418 = .ok (.iload_n 3, 1) := by decide +kernel
theorem dL_law_419 : decode cL_law 419 = .ok (.iconst 2, 1) := by decide +kernel
theorem dL_law_420 : decode cL_law 420 = .ok (.iadd, 1) := by decide +kernel
theorem dL_law_421 : decode cL_law 421 = .ok (.iaload, 1) := by decide +kernel
theorem dL_law_422 : decode cL_law 422 = .ok (.aload_n 0, 1) := by decide +kernel
theorem dL_law_423 : decode cL_law 423 = .ok (.iload_n 3, 1) := by decide +kernel
theorem dL_law_424 : decode cL_law 424 = .ok (.iconst 3, 1) := by decide +kernel
theorem dL_law_425 : decode cL_law 425 = .ok (.iadd, 1) := by decide +kernel
theorem dL_law_426 : decode cL_law 426 = .ok (.iaload, 1) := by decide +kernel
theorem dL_law_427 : decode cL_law 427 = .ok (.invokevirtual 52, 3) := by decide +kernel
theorem dL_law_430 : decode cL_law 430 = .ok (.if_icmp .eq 639, 3) := by decide +kernel
theorem dL_law_433 : decode cL_law 433 = .ok (.iconst 0, 1) := by decide +kernel
theorem dL_law_434 : decode cL_law 434 = .ok (.ireturn, 1) := by decide +kernel
theorem dL_law_435 : decode cL_law 435 = .ok (.aload_n 1, 1) := by decide +kernel
theorem dL_law_436 : decode cL_law 436 = .ok (.aload_n 0, 1) := by decide +kernel
theorem dL_law_437 : decode cL_law 437 = .ok (.iload_n 3, 1) := by decide +kernel
theorem dL_law_438 : decode cL_law 438 = .ok (.iconst 1, 1) := by decide +kernel
theorem dL_law_439 : decode cL_law 439 = .ok (.iadd, 1) := by decide +kernel
theorem dL_law_440 : decode cL_law 440 = .ok (.iaload, 1) := by decide +kernel
theorem dL_law_441 : decode cL_law 441 = .ok (.aload_n 0, 1) := by decide +kernel
theorem dL_law_442 : decode cL_law 442 = .ok (.iload_n 3, 1) := by decide +kernel
theorem dL_law_443 : decode cL_law 443 = .ok (.iconst 2, 1) := by decide +kernel
theorem dL_law_444 : decode cL_law 444 = .ok (.iadd, 1) := by decide +kernel
theorem dL_law_445 : decode cL_law 445 = .ok (.iaload, 1) := by decide +kernel
theorem dL_law_446 : decode cL_law 446 = .ok (.invokevirtual 53, 3) := by decide +kernel
theorem dL_law_449 : decode cL_law 449 = .ok (.aload_n 2, 1) := by decide +kernel
theorem dL_law_450 : decode cL_law 450 = .ok (.aload_n 0, 1) := by decide +kernel
theorem dL_law_451 : decode cL_law 451 = .ok (.iload_n 3, 1) := by decide +kernel
theorem dL_law_452 : decode cL_law 452 = .ok (.iconst 1, 1) := by decide +kernel
theorem dL_law_453 : decode cL_law 453 = .ok (.iadd, 1) := by decide +kernel
theorem dL_law_454 : decode cL_law 454 = .ok (.iaload, 1) := by decide +kernel
theorem dL_law_455 : decode cL_law 455 = .ok (.aload_n 0, 1) := by decide +kernel
theorem dL_law_456 : decode cL_law 456 = .ok (.iload_n 3, 1) := by decide +kernel
theorem dL_law_457 : decode cL_law 457 = .ok (.iconst 2, 1) := by decide +kernel
theorem dL_law_458 : decode cL_law 458 = .ok (.iadd, 1) := by decide +kernel
theorem dL_law_459 : decode cL_law 459 = .ok (.iaload, 1) := by decide +kernel
theorem dL_law_460 : decode cL_law 460 = .ok (.invokevirtual 57, 3) := by decide +kernel
theorem dL_law_463 : decode cL_law 463 = .ok (.lcmp, 1) := by decide +kernel
theorem dL_law_464 : decode cL_law 464 = .ok (.ifCond .eq 605, 3) := by decide +kernel
theorem dL_law_467 : decode cL_law 467 = .ok (.iconst 0, 1) := by decide +kernel
theorem dL_law_468 : decode cL_law 468 = .ok (.ireturn, 1) := by decide +kernel
theorem dL_law_469 : decode cL_law 469 = .ok (.aload_n 1, 1) := by decide +kernel
theorem dL_law_470 : decode cL_law 470 = .ok (.aload_n 0, 1) := by decide +kernel
theorem dL_law_471 : decode cL_law 471 = .ok (.iload_n 3, 1) := by decide +kernel
theorem dL_law_472 : decode cL_law 472 = .ok (.iconst 1, 1) := by decide +kernel
theorem dL_law_473 : decode cL_law 473 = .ok (.iadd, 1) := by decide +kernel
theorem dL_law_474 : decode cL_law 474 = .ok (.iaload, 1) := by decide +kernel
theorem dL_law_475 : decode cL_law 475 = .ok (.aload_n 0, 1) := by decide +kernel
theorem dL_law_476 : decode cL_law 476 = .ok (.iload_n 3, 1) := by decide +kernel
theorem dL_law_477 : decode cL_law 477 = .ok (.iconst 2, 1) := by decide +kernel
theorem dL_law_478 : decode cL_law 478 = .ok (.iadd, 1) := by decide +kernel
theorem dL_law_479 : decode cL_law 479 = .ok (.iaload, 1) := by decide +kernel
theorem dL_law_480 : decode cL_law 480 = .ok (.invokevirtual 58, 3) := by decide +kernel
theorem dL_law_483 : decode cL_law 483 = .ok (.aload_n 2, 1) := by decide +kernel
theorem dL_law_484 : decode cL_law 484 = .ok (.aload_n 0, 1) := by decide +kernel
theorem dL_law_485 : decode cL_law 485 = .ok (.iload_n 3, 1) := by decide +kernel
theorem dL_law_486 : decode cL_law 486 = .ok (.iconst 1, 1) := by decide +kernel
theorem dL_law_487 : decode cL_law 487 = .ok (.iadd, 1) := by decide +kernel
theorem dL_law_488 : decode cL_law 488 = .ok (.iaload, 1) := by decide +kernel
theorem dL_law_489 : decode cL_law 489 = .ok (.aload_n 0, 1) := by decide +kernel
theorem dL_law_490 : decode cL_law 490 = .ok (.iload_n 3, 1) := by decide +kernel
theorem dL_law_491 : decode cL_law 491 = .ok (.iconst 2, 1) := by decide +kernel
theorem dL_law_492 : decode cL_law 492 = .ok (.iadd, 1) := by decide +kernel
theorem dL_law_493 : decode cL_law 493 = .ok (.iaload, 1) := by decide +kernel
theorem dL_law_494 : decode cL_law 494 = .ok (.invokevirtual 61, 3) := by decide +kernel
theorem dL_law_497 : decode cL_law 497 = .ok (.if_icmp .eq 572, 3) := by decide +kernel
theorem dL_law_500 : decode cL_law 500 = .ok (.iconst 0, 1) := by decide +kernel
theorem dL_law_501 : decode cL_law 501 = .ok (.ireturn, 1) := by decide +kernel
theorem dL_law_502 : decode cL_law 502 = .ok (.aload_n 1, 1) := by decide +kernel
theorem dL_law_503 : decode cL_law 503 = .ok (.aload_n 0, 1) := by decide +kernel
theorem dL_law_504 : decode cL_law 504 = .ok (.iload_n 3, 1) := by decide +kernel
theorem dL_law_505 : decode cL_law 505 = .ok (.iconst 1, 1) := by decide +kernel
theorem dL_law_506 : decode cL_law 506 = .ok (.iadd, 1) := by decide +kernel
theorem dL_law_507 : decode cL_law 507 = .ok (.iaload, 1) := by decide +kernel
theorem dL_law_508 : decode cL_law 508 = .ok (.aload_n 0, 1) := by decide +kernel
theorem dL_law_509 : decode cL_law 509 = .ok (.iload_n 3, 1) := by decide +kernel
theorem dL_law_510 : decode cL_law 510 = .ok (.iconst 2, 1) := by decide +kernel
theorem dL_law_511 : decode cL_law 511 = .ok (.iadd, 1) := by decide +kernel
theorem dL_law_512 : decode cL_law 512 = .ok (.iaload, 1) := by decide +kernel
theorem dL_law_513 : decode cL_law 513 = .ok (.aload_n 0, 1) := by decide +kernel
theorem dL_law_514 : decode cL_law 514 = .ok (.iload_n 3, 1) := by decide +kernel
theorem dL_law_515 : decode cL_law 515 = .ok (.iconst 3, 1) := by decide +kernel
theorem dL_law_516 : decode cL_law 516 = .ok (.iadd, 1) := by decide +kernel
theorem dL_law_517 : decode cL_law 517 = .ok (.iaload, 1) := by decide +kernel
theorem dL_law_518 : decode cL_law 518 = .ok (.aload_n 0, 1) := by decide +kernel
theorem dL_law_519 : decode cL_law 519 = .ok (.iload_n 3, 1) := by decide +kernel
theorem dL_law_520 : decode cL_law 520 = .ok (.iconst 4, 1) := by decide +kernel
theorem dL_law_521 : decode cL_law 521 = .ok (.iadd, 1) := by decide +kernel
theorem dL_law_522 : decode cL_law 522 = .ok (.iaload, 1) := by decide +kernel
theorem dL_law_523 : decode cL_law 523 = .ok (.invokevirtual 62, 3) := by decide +kernel
theorem dL_law_526 : decode cL_law 526 = .ok (.aload_n 2, 1) := by decide +kernel
theorem dL_law_527 : decode cL_law 527 = .ok (.aload_n 0, 1) := by decide +kernel
theorem dL_law_528 : decode cL_law 528 = .ok (.iload_n 3, 1) := by decide +kernel
theorem dL_law_529 : decode cL_law 529 = .ok (.iconst 1, 1) := by decide +kernel
theorem dL_law_530 : decode cL_law 530 = .ok (.iadd, 1) := by decide +kernel
theorem dL_law_531 : decode cL_law 531 = .ok (.iaload, 1) := by decide +kernel
theorem dL_law_532 : decode cL_law 532 = .ok (.aload_n 0, 1) := by decide +kernel
theorem dL_law_533 : decode cL_law 533 = .ok (.iload_n 3, 1) := by decide +kernel
theorem dL_law_534 : decode cL_law 534 = .ok (.iconst 2, 1) := by decide +kernel
theorem dL_law_535 : decode cL_law 535 = .ok (.iadd, 1) := by decide +kernel
theorem dL_law_536 : decode cL_law 536 = .ok (.iaload, 1) := by decide +kernel
theorem dL_law_537 : decode cL_law 537 = .ok (.aload_n 0, 1) := by decide +kernel
theorem dL_law_538 : decode cL_law 538 = .ok (.iload_n 3, 1) := by decide +kernel
theorem dL_law_539 : decode cL_law 539 = .ok (.iconst 3, 1) := by decide +kernel
theorem dL_law_540 : decode cL_law 540 = .ok (.iadd, 1) := by decide +kernel
theorem dL_law_541 : decode cL_law 541 = .ok (.iaload, 1) := by decide +kernel
theorem dL_law_542 : decode cL_law 542 = .ok (.aload_n 0, 1) := by decide +kernel
theorem dL_law_543 : decode cL_law 543 = .ok (.iload_n 3, 1) := by decide +kernel
theorem dL_law_544 : decode cL_law 544 = .ok (.iconst 4, 1) := by decide +kernel
theorem dL_law_545 : decode cL_law 545 = .ok (.iadd, 1) := by decide +kernel
theorem dL_law_546 : decode cL_law 546 = .ok (.iaload, 1) := by decide +kernel
theorem dL_law_547 : decode cL_law 547 = .ok (.invokevirtual 66, 3) := by decide +kernel
theorem dL_law_550 : decode cL_law 550 = .ok (.if_icmp .eq 519, 3) := by decide +kernel
theorem dL_law_553 : decode cL_law 553 = .ok (.iconst 0, 1) := by decide +kernel
theorem dL_law_554 : decode cL_law 554 = .ok (.ireturn, 1) := by decide +kernel
theorem dL_law_555 : decode cL_law 555 = .ok (.aload_n 1, 1) := by decide +kernel
theorem dL_law_556 : decode cL_law 556 = .ok (.aload_n 0, 1) := by decide +kernel
theorem dL_law_557 : decode cL_law 557 = .ok (.iload_n 3, 1) := by decide +kernel
theorem dL_law_558 : decode cL_law 558 = .ok (.iconst 1, 1) := by decide +kernel
theorem dL_law_559 : decode cL_law 559 = .ok (.iadd, 1) := by decide +kernel
theorem dL_law_560 : decode cL_law 560 = .ok (.iaload, 1) := by decide +kernel
theorem dL_law_561 : decode cL_law 561 = .ok (.aload_n 0, 1) := by decide +kernel
theorem dL_law_562 : decode cL_law 562 = .ok (.iload_n 3, 1) := by decide +kernel
theorem dL_law_563 : decode cL_law 563 = .ok (.iconst 2, 1) := by decide +kernel
theorem dL_law_564 : decode cL_law 564 = .ok (.iadd, 1) := by decide +kernel
theorem dL_law_565 : decode cL_law 565 = .ok (.iaload, 1) := by decide +kernel
theorem dL_law_566 : decode cL_law 566 = .ok (.invokevirtual 67, 3) := by decide +kernel
theorem dL_law_569 : decode cL_law 569 = .ok (.aload_n 2, 1) := by decide +kernel
theorem dL_law_570 : decode cL_law 570 = .ok (.aload_n 0, 1) := by decide +kernel
theorem dL_law_571 : decode cL_law 571 = .ok (.iload_n 3, 1) := by decide +kernel
theorem dL_law_572 : decode cL_law 572 = .ok (.iconst 1, 1) := by decide +kernel
theorem dL_law_573 : decode cL_law 573 = .ok (.iadd, 1) := by decide +kernel
theorem dL_law_574 : decode cL_law 574 = .ok (.iaload, 1) := by decide +kernel
theorem dL_law_575 : decode cL_law 575 = .ok (.aload_n 0, 1) := by decide +kernel
theorem dL_law_576 : decode cL_law 576 = .ok (.iload_n 3, 1) := by decide +kernel
theorem dL_law_577 : decode cL_law 577 = .ok (.iconst 2, 1) := by decide +kernel
theorem dL_law_578 : decode cL_law 578 = .ok (.iadd, 1) := by decide +kernel
theorem dL_law_579 : decode cL_law 579 = .ok (.iaload, 1) := by decide +kernel
theorem dL_law_580 : decode cL_law 580 = .ok (.invokevirtual 70, 3) := by decide +kernel
theorem dL_law_583 : decode cL_law 583 = .ok (.if_icmp .eq 486, 3) := by decide +kernel
theorem dL_law_586 : decode cL_law 586 = .ok (.iconst 0, 1) := by decide +kernel
theorem dL_law_587 : decode cL_law 587 = .ok (.ireturn, 1) := by decide +kernel
theorem dL_law_588 : decode cL_law 588 = .ok (.aload_n 1, 1) := by decide +kernel
theorem dL_law_589 : decode cL_law 589 = .ok (.aload_n 0, 1) := by decide +kernel
theorem dL_law_590 : decode cL_law 590 = .ok (.iload_n 3, 1) := by decide +kernel
theorem dL_law_591 : decode cL_law 591 = .ok (.iconst 1, 1) := by decide +kernel
theorem dL_law_592 : decode cL_law 592 = .ok (.iadd, 1) := by decide +kernel
theorem dL_law_593 : decode cL_law 593 = .ok (.iaload, 1) := by decide +kernel
theorem dL_law_594 : decode cL_law 594 = .ok (.aload_n 0, 1) := by decide +kernel
theorem dL_law_595 : decode cL_law 595 = .ok (.iload_n 3, 1) := by decide +kernel
theorem dL_law_596 : decode cL_law 596 = .ok (.iconst 2, 1) := by decide +kernel
theorem dL_law_597 : decode cL_law 597 = .ok (.iadd, 1) := by decide +kernel
theorem dL_law_598 : decode cL_law 598 = .ok (.iaload, 1) := by decide +kernel
theorem dL_law_599 : decode cL_law 599 = .ok (.invokevirtual 71, 3) := by decide +kernel
theorem dL_law_602 : decode cL_law 602 = .ok (.aload_n 2, 1) := by decide +kernel
theorem dL_law_603 : decode cL_law 603 = .ok (.aload_n 0, 1) := by decide +kernel
theorem dL_law_604 : decode cL_law 604 = .ok (.iload_n 3, 1) := by decide +kernel
theorem dL_law_605 : decode cL_law 605 = .ok (.iconst 1, 1) := by decide +kernel
theorem dL_law_606 : decode cL_law 606 = .ok (.iadd, 1) := by decide +kernel
theorem dL_law_607 : decode cL_law 607 = .ok (.iaload, 1) := by decide +kernel
theorem dL_law_608 : decode cL_law 608 = .ok (.aload_n 0, 1) := by decide +kernel
theorem dL_law_609 : decode cL_law 609 = .ok (.iload_n 3, 1) := by decide +kernel
theorem dL_law_610 : decode cL_law 610 = .ok (.iconst 2, 1) := by decide +kernel
theorem dL_law_611 : decode cL_law 611 = .ok (.iadd, 1) := by decide +kernel
theorem dL_law_612 : decode cL_law 612 = .ok (.iaload, 1) := by decide +kernel
theorem dL_law_613 : decode cL_law 613 = .ok (.invokevirtual 74, 3) := by decide +kernel
theorem dL_law_616 : decode cL_law 616 = .ok (.if_icmp .eq 453, 3) := by decide +kernel
theorem dL_law_619 : decode cL_law 619 = .ok (.iconst 0, 1) := by decide +kernel
theorem dL_law_620 : decode cL_law 620 = .ok (.ireturn, 1) := by decide +kernel
theorem dL_law_621 : decode cL_law 621 = .ok (.aload_n 1, 1) := by decide +kernel
theorem dL_law_622 : decode cL_law 622 = .ok (.aload_n 0, 1) := by decide +kernel
theorem dL_law_623 : decode cL_law 623 = .ok (.iload_n 3, 1) := by decide +kernel
theorem dL_law_624 : decode cL_law 624 = .ok (.iconst 1, 1) := by decide +kernel
theorem dL_law_625 : decode cL_law 625 = .ok (.iadd, 1) := by decide +kernel
theorem dL_law_626 : decode cL_law 626 = .ok (.iaload, 1) := by decide +kernel
theorem dL_law_627 : decode cL_law 627 = .ok (.invokevirtual 75, 3) := by decide +kernel
theorem dL_law_630 : decode cL_law 630 = .ok (.aload_n 2, 1) := by decide +kernel
theorem dL_law_631 : decode cL_law 631 = .ok (.aload_n 0, 1) := by decide +kernel
theorem dL_law_632 : decode cL_law 632 = .ok (.iload_n 3, 1) := by decide +kernel
theorem dL_law_633 : decode cL_law 633 = .ok (.iconst 1, 1) := by decide +kernel
theorem dL_law_634 : decode cL_law 634 = .ok (.iadd, 1) := by decide +kernel
theorem dL_law_635 : decode cL_law 635 = .ok (.iaload, 1) := by decide +kernel
theorem dL_law_636 : decode cL_law 636 = .ok (.invokevirtual 78, 3) := by decide +kernel
theorem dL_law_639 : decode cL_law 639 = .ok (.if_icmp .eq 430, 3) := by decide +kernel
theorem dL_law_642 : decode cL_law 642 = .ok (.iconst 0, 1) := by decide +kernel
theorem dL_law_643 : decode cL_law 643 = .ok (.ireturn, 1) := by decide +kernel
theorem dL_law_644 : decode cL_law 644 = .ok (.aload_n 1, 1) := by decide +kernel
theorem dL_law_645 : decode cL_law 645 = .ok (.aload_n 0, 1) := by decide +kernel
theorem dL_law_646 : decode cL_law 646 = .ok (.iload_n 3, 1) := by decide +kernel
theorem dL_law_647 : decode cL_law 647 = .ok (.iconst 1, 1) := by decide +kernel
theorem dL_law_648 : decode cL_law 648 = .ok (.iadd, 1) := by decide +kernel
theorem dL_law_649 : decode cL_law 649 = .ok (.iaload, 1) := by decide +kernel
theorem dL_law_650 : decode cL_law 650 = .ok (.aload_n 0, 1) := by decide +kernel
theorem dL_law_651 : decode cL_law 651 = .ok (.iload_n 3, 1) := by decide +kernel
theorem dL_law_652 : decode cL_law 652 = .ok (.iconst 2, 1) := by decide +kernel
theorem dL_law_653 : decode cL_law 653 = .ok (.iadd, 1) := by decide +kernel
theorem dL_law_654 : decode cL_law 654 = .ok (.iaload, 1) := by decide +kernel
theorem dL_law_655 : decode cL_law 655 = .ok (.invokevirtual 79, 3) := by decide +kernel
theorem dL_law_658 : decode cL_law 658 = .ok (.aload_n 2, 1) := by decide +kernel
theorem dL_law_659 : decode cL_law 659 = .ok (.aload_n 0, 1) := by decide +kernel
theorem dL_law_660 : decode cL_law 660 = .ok (.iload_n 3, 1) := by decide +kernel
theorem dL_law_661 : decode cL_law 661 = .ok (.iconst 1, 1) := by decide +kernel
theorem dL_law_662 : decode cL_law 662 = .ok (.iadd, 1) := by decide +kernel
theorem dL_law_663 : decode cL_law 663 = .ok (.iaload, 1) := by decide +kernel
theorem dL_law_664 : decode cL_law 664 = .ok (.aload_n 0, 1) := by decide +kernel
theorem dL_law_665 : decode cL_law 665 = .ok (.iload_n 3, 1) := by decide +kernel
theorem dL_law_666 : decode cL_law 666 = .ok (.iconst 2, 1) := by decide +kernel
theorem dL_law_667 : decode cL_law 667 = .ok (.iadd, 1) := by decide +kernel
theorem dL_law_668 : decode cL_law 668 = .ok (.iaload, 1) := by decide +kernel
theorem dL_law_669 : decode cL_law 669 = .ok (.invokevirtual 82, 3) := by decide +kernel
theorem dL_law_672 : decode cL_law 672 = .ok (.if_icmp .eq 397, 3) := by decide +kernel
theorem dL_law_675 : decode cL_law 675 = .ok (.iconst 0, 1) := by decide +kernel
theorem dL_law_676 : decode cL_law 676 = .ok (.ireturn, 1) := by decide +kernel
theorem dL_law_677 : decode cL_law 677 = .ok (.aload_n 1, 1) := by decide +kernel
theorem dL_law_678 : decode cL_law 678 = .ok (.invokevirtual 83, 3) := by decide +kernel
theorem dL_law_681 : decode cL_law 681 = .ok (.aload_n 2, 1) := by decide +kernel
theorem dL_law_682 : decode cL_law 682 = .ok (.invokevirtual 86, 3) := by decide +kernel
theorem dL_law_685 : decode cL_law 685 = .ok (.if_icmp .eq 384, 3) := by decide +kernel
theorem dL_law_688 : decode cL_law 688 = .ok (.iconst 0, 1) := by decide +kernel
theorem dL_law_689 : decode cL_law 689 = .ok (.ireturn, 1) := by decide +kernel
theorem dL_law_690 : decode cL_law 690 = .ok (.aload_n 1, 1) := by decide +kernel
theorem dL_law_691 : decode cL_law 691 = .ok (.invokevirtual 87, 3) := by decide +kernel
theorem dL_law_694 : decode cL_law 694 = .ok (.aload_n 2, 1) := by decide +kernel
theorem dL_law_695 : decode cL_law 695 = .ok (.invokevirtual 90, 3) := by decide +kernel
theorem dL_law_698 : decode cL_law 698 = .ok (.if_icmp .eq 371, 3) := by decide +kernel
theorem dL_law_701 : decode cL_law 701 = .ok (.iconst 0, 1) := by decide +kernel
theorem dL_law_702 : decode cL_law 702 = .ok (.ireturn, 1) := by decide +kernel
theorem dL_law_703 : decode cL_law 703 = .ok (.aload_n 1, 1) := by decide +kernel
theorem dL_law_704 : decode cL_law 704 = .ok (.aload_n 0, 1) := by decide +kernel
theorem dL_law_705 : decode cL_law 705 = .ok (.iload_n 3, 1) := by decide +kernel
theorem dL_law_706 : decode cL_law 706 = .ok (.iconst 1, 1) := by decide +kernel
theorem dL_law_707 : decode cL_law 707 = .ok (.iadd, 1) := by decide +kernel
theorem dL_law_708 : decode cL_law 708 = .ok (.iaload, 1) := by decide +kernel
theorem dL_law_709 : decode cL_law 709 = .ok (.invokevirtual 91, 3) := by decide +kernel
theorem dL_law_712 : decode cL_law 712 = .ok (.aload_n 2, 1) := by decide +kernel
theorem dL_law_713 : decode cL_law 713 = .ok (.aload_n 0, 1) := by decide +kernel
theorem dL_law_714 : decode cL_law 714 = .ok (.iload_n 3, 1) := by decide +kernel
theorem dL_law_715 : decode cL_law 715 = .ok (.iconst 1, 1) := by decide +kernel
theorem dL_law_716 : decode cL_law 716 = .ok (.iadd, 1) := by decide +kernel
theorem dL_law_717 : decode cL_law 717 = .ok (.iaload, 1) := by decide +kernel
theorem dL_law_718 : decode cL_law 718 = .ok (.invokevirtual 94, 3) := by decide +kernel
theorem dL_law_721 : decode cL_law 721 = .ok (.if_icmp .eq 348, 3) := by decide +kernel
theorem dL_law_724 : decode cL_law 724 = .ok (.iconst 0, 1) := by decide +kernel
theorem dL_law_725 : decode cL_law 725 = .ok (.ireturn, 1) := by decide +kernel
theorem dL_law_726 : decode cL_law 726 = .ok (.aload_n 1, 1) := by decide +kernel
theorem dL_law_727 : decode cL_law 727 = .ok (.aload_n 0, 1) := by decide +kernel
theorem dL_law_728 : decode cL_law 728 = .ok (.iload_n 3, 1) := by decide +kernel
theorem dL_law_729 : decode cL_law 729 = .ok (.iconst 1, 1) := by decide +kernel
theorem dL_law_730 : decode cL_law 730 = .ok (.iadd, 1) := by decide +kernel
theorem dL_law_731 : decode cL_law 731 = .ok (.iaload, 1) := by decide +kernel
theorem dL_law_732 : decode cL_law 732 = .ok (.invokevirtual 95, 3) := by decide +kernel
theorem dL_law_735 : decode cL_law 735 = .ok (.aload_n 2, 1) := by decide +kernel
theorem dL_law_736 : decode cL_law 736 = .ok (.aload_n 0, 1) := by decide +kernel
theorem dL_law_737 : decode cL_law 737 = .ok (.iload_n 3, 1) := by decide +kernel
theorem dL_law_738 : decode cL_law 738 = .ok (.iconst 1, 1) := by decide +kernel
theorem dL_law_739 : decode cL_law 739 = .ok (.iadd, 1) := by decide +kernel
theorem dL_law_740 : decode cL_law 740 = .ok (.iaload, 1) := by decide +kernel
theorem dL_law_741 : decode cL_law 741 = .ok (.invokevirtual 98, 3) := by decide +kernel
theorem dL_law_744 : decode cL_law 744 = .ok (.if_icmp .eq 325, 3) := by decide +kernel
theorem dL_law_747 : decode cL_law 747 = .ok (.iconst 0, 1) := by decide +kernel
theorem dL_law_748 : decode cL_law 748 = .ok (.ireturn, 1) := by decide +kernel
theorem dL_law_749 : decode cL_law 749 = .ok (.aload_n 1, 1) := by decide +kernel
theorem dL_law_750 : decode cL_law 750 = .ok (.aload_n 0, 1) := by decide +kernel
theorem dL_law_751 : decode cL_law 751 = .ok (.iload_n 3, 1) := by decide +kernel
theorem dL_law_752 : decode cL_law 752 = .ok (.iconst 1, 1) := by decide +kernel
theorem dL_law_753 : decode cL_law 753 = .ok (.iadd, 1) := by decide +kernel
theorem dL_law_754 : decode cL_law 754 = .ok (.iaload, 1) := by decide +kernel
theorem dL_law_755 : decode cL_law 755 = .ok (.aload_n 0, 1) := by decide +kernel
theorem dL_law_756 : decode cL_law 756 = .ok (.iload_n 3, 1) := by decide +kernel
theorem dL_law_757 : decode cL_law 757 = .ok (.iconst 2, 1) := by decide +kernel
theorem dL_law_758 : decode cL_law 758 = .ok (.iadd, 1) := by decide +kernel
theorem dL_law_759 : decode cL_law 759 = .ok (.iaload, 1) := by decide +kernel
theorem dL_law_760 : decode cL_law 760 = .ok (.invokevirtual 99, 3) := by decide +kernel
theorem dL_law_763 : decode cL_law 763 = .ok (.aload_n 2, 1) := by decide +kernel
theorem dL_law_764 : decode cL_law 764 = .ok (.aload_n 0, 1) := by decide +kernel
theorem dL_law_765 : decode cL_law 765 = .ok (.iload_n 3, 1) := by decide +kernel
theorem dL_law_766 : decode cL_law 766 = .ok (.iconst 1, 1) := by decide +kernel
theorem dL_law_767 : decode cL_law 767 = .ok (.iadd, 1) := by decide +kernel
theorem dL_law_768 : decode cL_law 768 = .ok (.iaload, 1) := by decide +kernel
theorem dL_law_769 : decode cL_law 769 = .ok (.aload_n 0, 1) := by decide +kernel
theorem dL_law_770 : decode cL_law 770 = .ok (.iload_n 3, 1) := by decide +kernel
theorem dL_law_771 : decode cL_law 771 = .ok (.iconst 2, 1) := by decide +kernel
theorem dL_law_772 : decode cL_law 772 = .ok (.iadd, 1) := by decide +kernel
theorem dL_law_773 : decode cL_law 773 = .ok (.iaload, 1) := by decide +kernel
theorem dL_law_774 : decode cL_law 774 = .ok (.invokevirtual 102, 3) := by decide +kernel
theorem dL_law_777 : decode cL_law 777 = .ok (.if_icmp .eq 292, 3) := by decide +kernel
theorem dL_law_780 : decode cL_law 780 = .ok (.iconst 0, 1) := by decide +kernel
theorem dL_law_781 : decode cL_law 781 = .ok (.ireturn, 1) := by decide +kernel
theorem dL_law_782 : decode cL_law 782 = .ok (.aload_n 1, 1) := by decide +kernel
theorem dL_law_783 : decode cL_law 783 = .ok (.aload_n 0, 1) := by decide +kernel
theorem dL_law_784 : decode cL_law 784 = .ok (.iload_n 3, 1) := by decide +kernel
theorem dL_law_785 : decode cL_law 785 = .ok (.iconst 1, 1) := by decide +kernel
theorem dL_law_786 : decode cL_law 786 = .ok (.iadd, 1) := by decide +kernel
theorem dL_law_787 : decode cL_law 787 = .ok (.iaload, 1) := by decide +kernel
theorem dL_law_788 : decode cL_law 788 = .ok (.aload_n 0, 1) := by decide +kernel
theorem dL_law_789 : decode cL_law 789 = .ok (.iload_n 3, 1) := by decide +kernel
theorem dL_law_790 : decode cL_law 790 = .ok (.iconst 2, 1) := by decide +kernel
theorem dL_law_791 : decode cL_law 791 = .ok (.iadd, 1) := by decide +kernel
theorem dL_law_792 : decode cL_law 792 = .ok (.iaload, 1) := by decide +kernel
theorem dL_law_793 : decode cL_law 793 = .ok (.invokevirtual 103, 3) := by decide +kernel
theorem dL_law_796 : decode cL_law 796 = .ok (.aload_n 2, 1) := by decide +kernel
theorem dL_law_797 : decode cL_law 797 = .ok (.aload_n 0, 1) := by decide +kernel
theorem dL_law_798 : decode cL_law 798 = .ok (.iload_n 3, 1) := by decide +kernel
theorem dL_law_799 : decode cL_law 799 = .ok (.iconst 1, 1) := by decide +kernel
theorem dL_law_800 : decode cL_law 800 = .ok (.iadd, 1) := by decide +kernel
theorem dL_law_801 : decode cL_law 801 = .ok (.iaload, 1) := by decide +kernel
theorem dL_law_802 : decode cL_law 802 = .ok (.aload_n 0, 1) := by decide +kernel
theorem dL_law_803 : decode cL_law 803 = .ok (.iload_n 3, 1) := by decide +kernel
theorem dL_law_804 : decode cL_law 804 = .ok (.iconst 2, 1) := by decide +kernel
theorem dL_law_805 : decode cL_law 805 = .ok (.iadd, 1) := by decide +kernel
theorem dL_law_806 : decode cL_law 806 = .ok (.iaload, 1) := by decide +kernel
theorem dL_law_807 : decode cL_law 807 = .ok (.invokevirtual 106, 3) := by decide +kernel
theorem dL_law_810 : decode cL_law 810 = .ok (.if_icmp .eq 259, 3) := by decide +kernel
theorem dL_law_813 : decode cL_law 813 = .ok (.iconst 0, 1) := by decide +kernel
theorem dL_law_814 : decode cL_law 814 = .ok (.ireturn, 1) := by decide +kernel
theorem dL_law_815 : decode cL_law 815 = .ok (.aload_n 1, 1) := by decide +kernel
theorem dL_law_816 : decode cL_law 816 = .ok (.aload_n 0, 1) := by decide +kernel
theorem dL_law_817 : decode cL_law 817 = .ok (.iload_n 3, 1) := by decide +kernel
theorem dL_law_818 : decode cL_law 818 = .ok (.iconst 1, 1) := by decide +kernel
theorem dL_law_819 : decode cL_law 819 = .ok (.iadd, 1) := by decide +kernel
theorem dL_law_820 : decode cL_law 820 = .ok (.iaload, 1) := by decide +kernel
theorem dL_law_821 : decode cL_law 821 = .ok (.aload_n 0, 1) := by decide +kernel
theorem dL_law_822 : decode cL_law 822 = .ok (.iload_n 3, 1) := by decide +kernel
theorem dL_law_823 : decode cL_law 823 = .ok (.iconst 2, 1) := by decide +kernel
theorem dL_law_824 : decode cL_law 824 = .ok (.iadd, 1) := by decide +kernel
theorem dL_law_825 : decode cL_law 825 = .ok (.iaload, 1) := by decide +kernel
theorem dL_law_826 : decode cL_law 826 = .ok (.aload_n 0, 1) := by decide +kernel
theorem dL_law_827 : decode cL_law 827 = .ok (.iload_n 3, 1) := by decide +kernel
theorem dL_law_828 : decode cL_law 828 = .ok (.iconst 3, 1) := by decide +kernel
theorem dL_law_829 : decode cL_law 829 = .ok (.iadd, 1) := by decide +kernel
theorem dL_law_830 : decode cL_law 830 = .ok (.iaload, 1) := by decide +kernel
theorem dL_law_831 : decode cL_law 831 = .ok (.aload_n 0, 1) := by decide +kernel
theorem dL_law_832 : decode cL_law 832 = .ok (.iload_n 3, 1) := by decide +kernel
theorem dL_law_833 : decode cL_law 833 = .ok (.iconst 4, 1) := by decide +kernel
theorem dL_law_834 : decode cL_law 834 = .ok (.iadd, 1) := by decide +kernel
theorem dL_law_835 : decode cL_law 835 = .ok (.iaload, 1) := by decide +kernel
theorem dL_law_836 : decode cL_law 836 = .ok (.invokevirtual 107, 3) := by decide +kernel
theorem dL_law_839 : decode cL_law 839 = .ok (.aload_n 2, 1) := by decide +kernel
theorem dL_law_840 : decode cL_law 840 = .ok (.aload_n 0, 1) := by decide +kernel
theorem dL_law_841 : decode cL_law 841 = .ok (.iload_n 3, 1) := by decide +kernel
theorem dL_law_842 : decode cL_law 842 = .ok (.iconst 1, 1) := by decide +kernel
theorem dL_law_843 : decode cL_law 843 = .ok (.iadd, 1) := by decide +kernel
theorem dL_law_844 : decode cL_law 844 = .ok (.iaload, 1) := by decide +kernel
theorem dL_law_845 : decode cL_law 845 = .ok (.aload_n 0, 1) := by decide +kernel
theorem dL_law_846 : decode cL_law 846 = .ok (.iload_n 3, 1) := by decide +kernel
theorem dL_law_847 : decode cL_law 847 = .ok (.iconst 2, 1) := by decide +kernel
theorem dL_law_848 : decode cL_law 848 = .ok (.iadd, 1) := by decide +kernel
theorem dL_law_849 : decode cL_law 849 = .ok (.iaload, 1) := by decide +kernel
theorem dL_law_850 : decode cL_law 850 = .ok (.aload_n 0, 1) := by decide +kernel
theorem dL_law_851 : decode cL_law 851 = .ok (.iload_n 3, 1) := by decide +kernel
theorem dL_law_852 : decode cL_law 852 = .ok (.iconst 3, 1) := by decide +kernel
theorem dL_law_853 : decode cL_law 853 = .ok (.iadd, 1) := by decide +kernel
theorem dL_law_854 : decode cL_law 854 = .ok (.iaload, 1) := by decide +kernel
theorem dL_law_855 : decode cL_law 855 = .ok (.aload_n 0, 1) := by decide +kernel
theorem dL_law_856 : decode cL_law 856 = .ok (.iload_n 3, 1) := by decide +kernel
theorem dL_law_857 : decode cL_law 857 = .ok (.iconst 4, 1) := by decide +kernel
theorem dL_law_858 : decode cL_law 858 = .ok (.iadd, 1) := by decide +kernel
theorem dL_law_859 : decode cL_law 859 = .ok (.iaload, 1) := by decide +kernel
theorem dL_law_860 : decode cL_law 860 = .ok (.invokevirtual 110, 3) := by decide +kernel
theorem dL_law_863 : decode cL_law 863 = .ok (.if_icmp .eq 206, 3) := by decide +kernel
theorem dL_law_866 : decode cL_law 866 = .ok (.iconst 0, 1) := by decide +kernel
theorem dL_law_867 : decode cL_law 867 = .ok (.ireturn, 1) := by decide +kernel
theorem dL_law_868 : decode cL_law 868 = .ok (.aload_n 1, 1) := by decide +kernel
theorem dL_law_869 : decode cL_law 869 = .ok (.aload_n 0, 1) := by decide +kernel
theorem dL_law_870 : decode cL_law 870 = .ok (.iload_n 3, 1) := by decide +kernel
theorem dL_law_871 : decode cL_law 871 = .ok (.iconst 1, 1) := by decide +kernel
theorem dL_law_872 : decode cL_law 872 = .ok (.iadd, 1) := by decide +kernel
theorem dL_law_873 : decode cL_law 873 = .ok (.iaload, 1) := by decide +kernel
theorem dL_law_874 : decode cL_law 874 = .ok (.aload_n 0, 1) := by decide +kernel
theorem dL_law_875 : decode cL_law 875 = .ok (.iload_n 3, 1) := by decide +kernel
theorem dL_law_876 : decode cL_law 876 = .ok (.iconst 2, 1) := by decide +kernel
theorem dL_law_877 : decode cL_law 877 = .ok (.iadd, 1) := by decide +kernel
theorem dL_law_878 : decode cL_law 878 = .ok (.iaload, 1) := by decide +kernel
theorem dL_law_879 : decode cL_law 879 = .ok (.aload_n 0, 1) := by decide +kernel
theorem dL_law_880 : decode cL_law 880 = .ok (.iload_n 3, 1) := by decide +kernel
theorem dL_law_881 : decode cL_law 881 = .ok (.iconst 3, 1) := by decide +kernel
theorem dL_law_882 : decode cL_law 882 = .ok (.iadd, 1) := by decide +kernel
theorem dL_law_883 : decode cL_law 883 = .ok (.iaload, 1) := by decide +kernel
theorem dL_law_884 : decode cL_law 884 = .ok (.aload_n 0, 1) := by decide +kernel
theorem dL_law_885 : decode cL_law 885 = .ok (.iload_n 3, 1) := by decide +kernel
theorem dL_law_886 : decode cL_law 886 = .ok (.iconst 4, 1) := by decide +kernel
theorem dL_law_887 : decode cL_law 887 = .ok (.iadd, 1) := by decide +kernel
theorem dL_law_888 : decode cL_law 888 = .ok (.iaload, 1) := by decide +kernel
theorem dL_law_889 : decode cL_law 889 = .ok (.aload_n 0, 1) := by decide +kernel
theorem dL_law_890 : decode cL_law 890 = .ok (.iload_n 3, 1) := by decide +kernel
theorem dL_law_891 : decode cL_law 891 = .ok (.iconst 5, 1) := by decide +kernel
theorem dL_law_892 : decode cL_law 892 = .ok (.iadd, 1) := by decide +kernel
theorem dL_law_893 : decode cL_law 893 = .ok (.iaload, 1) := by decide +kernel
theorem dL_law_894 : decode cL_law 894 = .ok (.invokevirtual 111, 3) := by decide +kernel
theorem dL_law_897 : decode cL_law 897 = .ok (.aload_n 2, 1) := by decide +kernel
theorem dL_law_898 : decode cL_law 898 = .ok (.aload_n 0, 1) := by decide +kernel
theorem dL_law_899 : decode cL_law 899 = .ok (.iload_n 3, 1) := by decide +kernel
theorem dL_law_900 : decode cL_law 900 = .ok (.iconst 1, 1) := by decide +kernel
theorem dL_law_901 : decode cL_law 901 = .ok (.iadd, 1) := by decide +kernel
theorem dL_law_902 : decode cL_law 902 = .ok (.iaload, 1) := by decide +kernel
theorem dL_law_903 : decode cL_law 903 = .ok (.aload_n 0, 1) := by decide +kernel
theorem dL_law_904 : decode cL_law 904 = .ok (.iload_n 3, 1) := by decide +kernel
theorem dL_law_905 : decode cL_law 905 = .ok (.iconst 2, 1) := by decide +kernel
theorem dL_law_906 : decode cL_law 906 = .ok (.iadd, 1) := by decide +kernel
theorem dL_law_907 : decode cL_law 907 = .ok (.iaload, 1) := by decide +kernel
theorem dL_law_908 : decode cL_law 908 = .ok (.aload_n 0, 1) := by decide +kernel
theorem dL_law_909 : decode cL_law 909 = .ok (.iload_n 3, 1) := by decide +kernel
theorem dL_law_910 : decode cL_law 910 = .ok (.iconst 3, 1) := by decide +kernel
theorem dL_law_911 : decode cL_law 911 = .ok (.iadd, 1) := by decide +kernel
theorem dL_law_912 : decode cL_law 912 = .ok (.iaload, 1) := by decide +kernel
theorem dL_law_913 : decode cL_law 913 = .ok (.aload_n 0, 1) := by decide +kernel
theorem dL_law_914 : decode cL_law 914 = .ok (.iload_n 3, 1) := by decide +kernel
theorem dL_law_915 : decode cL_law 915 = .ok (.iconst 4, 1) := by decide +kernel
theorem dL_law_916 : decode cL_law 916 = .ok (.iadd, 1) := by decide +kernel
theorem dL_law_917 : decode cL_law 917 = .ok (.iaload, 1) := by decide +kernel
theorem dL_law_918 : decode cL_law 918 = .ok (.aload_n 0, 1) := by decide +kernel
theorem dL_law_919 : decode cL_law 919 = .ok (.iload_n 3, 1) := by decide +kernel
theorem dL_law_920 : decode cL_law 920 = .ok (.iconst 5, 1) := by decide +kernel
theorem dL_law_921 : decode cL_law 921 = .ok (.iadd, 1) := by decide +kernel
theorem dL_law_922 : decode cL_law 922 = .ok (.iaload, 1) := by decide +kernel
theorem dL_law_923 : decode cL_law 923 = .ok (.invokevirtual 115, 3) := by decide +kernel
theorem dL_law_926 : decode cL_law 926 = .ok (.if_icmp .eq 143, 3) := by decide +kernel
theorem dL_law_929 : decode cL_law 929 = .ok (.iconst 0, 1) := by decide +kernel
theorem dL_law_930 : decode cL_law 930 = .ok (.ireturn, 1) := by decide +kernel
theorem dL_law_931 : decode cL_law 931 = .ok (.aload_n 1, 1) := by decide +kernel
theorem dL_law_932 : decode cL_law 932 = .ok (.aload_n 0, 1) := by decide +kernel
theorem dL_law_933 : decode cL_law 933 = .ok (.iload_n 3, 1) := by decide +kernel
theorem dL_law_934 : decode cL_law 934 = .ok (.iconst 1, 1) := by decide +kernel
theorem dL_law_935 : decode cL_law 935 = .ok (.iadd, 1) := by decide +kernel
theorem dL_law_936 : decode cL_law 936 = .ok (.iaload, 1) := by decide +kernel
theorem dL_law_937 : decode cL_law 937 = .ok (.invokevirtual 116, 3) := by decide +kernel
theorem dL_law_940 : decode cL_law 940 = .ok (.aload_n 2, 1) := by decide +kernel
theorem dL_law_941 : decode cL_law 941 = .ok (.aload_n 0, 1) := by decide +kernel
theorem dL_law_942 : decode cL_law 942 = .ok (.iload_n 3, 1) := by decide +kernel
theorem dL_law_943 : decode cL_law 943 = .ok (.iconst 1, 1) := by decide +kernel
theorem dL_law_944 : decode cL_law 944 = .ok (.iadd, 1) := by decide +kernel
theorem dL_law_945 : decode cL_law 945 = .ok (.iaload, 1) := by decide +kernel
theorem dL_law_946 : decode cL_law 946 = .ok (.invokevirtual 119, 3) := by decide +kernel
theorem dL_law_949 : decode cL_law 949 = .ok (.if_icmp .eq 120, 3) := by decide +kernel
theorem dL_law_952 : decode cL_law 952 = .ok (.iconst 0, 1) := by decide +kernel
theorem dL_law_953 : decode cL_law 953 = .ok (.ireturn, 1) := by decide +kernel
theorem dL_law_954 : decode cL_law 954 = .ok (.aload_n 1, 1) := by decide +kernel
theorem dL_law_955 : decode cL_law 955 = .ok (.aload_n 0, 1) := by decide +kernel
theorem dL_law_956 : decode cL_law 956 = .ok (.iload_n 3, 1) := by decide +kernel
theorem dL_law_957 : decode cL_law 957 = .ok (.iconst 1, 1) := by decide +kernel
theorem dL_law_958 : decode cL_law 958 = .ok (.iadd, 1) := by decide +kernel
theorem dL_law_959 : decode cL_law 959 = .ok (.iaload, 1) := by decide +kernel
theorem dL_law_960 : decode cL_law 960 = .ok (.invokevirtual 120, 3) := by decide +kernel
theorem dL_law_963 : decode cL_law 963 = .ok (.aload_n 2, 1) := by decide +kernel
theorem dL_law_964 : decode cL_law 964 = .ok (.aload_n 0, 1) := by decide +kernel
theorem dL_law_965 : decode cL_law 965 = .ok (.iload_n 3, 1) := by decide +kernel
theorem dL_law_966 : decode cL_law 966 = .ok (.iconst 1, 1) := by decide +kernel
theorem dL_law_967 : decode cL_law 967 = .ok (.iadd, 1) := by decide +kernel
theorem dL_law_968 : decode cL_law 968 = .ok (.iaload, 1) := by decide +kernel
theorem dL_law_969 : decode cL_law 969 = .ok (.invokevirtual 123, 3) := by decide +kernel
theorem dL_law_972 : decode cL_law 972 = .ok (.if_icmp .eq 97, 3) := by decide +kernel
theorem dL_law_975 : decode cL_law 975 = .ok (.iconst 0, 1) := by decide +kernel
theorem dL_law_976 : decode cL_law 976 = .ok (.ireturn, 1) := by decide +kernel
theorem dL_law_977 : decode cL_law 977 = .ok (.aload_n 1, 1) := by decide +kernel
theorem dL_law_978 : decode cL_law 978 = .ok (.aload_n 0, 1) := by decide +kernel
theorem dL_law_979 : decode cL_law 979 = .ok (.iload_n 3, 1) := by decide +kernel
theorem dL_law_980 : decode cL_law 980 = .ok (.iconst 1, 1) := by decide +kernel
theorem dL_law_981 : decode cL_law 981 = .ok (.iadd, 1) := by decide +kernel
theorem dL_law_982 : decode cL_law 982 = .ok (.iaload, 1) := by decide +kernel
theorem dL_law_983 : decode cL_law 983 = .ok (.aload_n 0, 1) := by decide +kernel
theorem dL_law_984 : decode cL_law 984 = .ok (.iload_n 3, 1) := by decide +kernel
theorem dL_law_985 : decode cL_law 985 = .ok (.iconst 2, 1) := by decide +kernel
theorem dL_law_986 : decode cL_law 986 = .ok (.iadd, 1) := by decide +kernel
theorem dL_law_987 : decode cL_law 987 = .ok (.iaload, 1) := by decide +kernel
theorem dL_law_988 : decode cL_law 988 = .ok (.aload_n 0, 1) := by decide +kernel
theorem dL_law_989 : decode cL_law 989 = .ok (.iload_n 3, 1) := by decide +kernel
theorem dL_law_990 : decode cL_law 990 = .ok (.iconst 3, 1) := by decide +kernel
theorem dL_law_991 : decode cL_law 991 = .ok (.iadd, 1) := by decide +kernel
theorem dL_law_992 : decode cL_law 992 = .ok (.iaload, 1) := by decide +kernel
theorem dL_law_993 : decode cL_law 993 = .ok (.invokevirtual 124, 3) := by decide +kernel
theorem dL_law_996 : decode cL_law 996 = .ok (.aload_n 2, 1) := by decide +kernel
theorem dL_law_997 : decode cL_law 997 = .ok (.aload_n 0, 1) := by decide +kernel
theorem dL_law_998 : decode cL_law 998 = .ok (.iload_n 3, 1) := by decide +kernel
theorem dL_law_999 : decode cL_law 999 = .ok (.iconst 1, 1) := by decide +kernel
theorem dL_law_1000 : decode cL_law 1000 = .ok (.iadd, 1) := by decide +kernel
theorem dL_law_1001 : decode cL_law 1001 = .ok (.iaload, 1) := by decide +kernel
theorem dL_law_1002 : decode cL_law 1002 = .ok (.aload_n 0, 1) := by decide +kernel
theorem dL_law_1003 : decode cL_law 1003 = .ok (.iload_n 3, 1) := by decide +kernel
theorem dL_law_1004 : decode cL_law 1004 = .ok (.iconst 2, 1) := by decide +kernel
theorem dL_law_1005 : decode cL_law 1005 = .ok (.iadd, 1) := by decide +kernel
theorem dL_law_1006 : decode cL_law 1006 = .ok (.iaload, 1) := by decide +kernel
theorem dL_law_1007 : decode cL_law 1007 = .ok (.aload_n 0, 1) := by decide +kernel
theorem dL_law_1008 : decode cL_law 1008 = .ok (.iload_n 3, 1) := by decide +kernel
theorem dL_law_1009 : decode cL_law 1009 = .ok (.iconst 3, 1) := by decide +kernel
theorem dL_law_1010 : decode cL_law 1010 = .ok (.iadd, 1) := by decide +kernel
theorem dL_law_1011 : decode cL_law 1011 = .ok (.iaload, 1) := by decide +kernel
theorem dL_law_1012 : decode cL_law 1012 = .ok (.invokevirtual 127, 3) := by decide +kernel
theorem dL_law_1015 : decode cL_law 1015 = .ok (.if_icmp .eq 54, 3) := by decide +kernel
theorem dL_law_1018 : decode cL_law 1018 = .ok (.iconst 0, 1) := by decide +kernel
theorem dL_law_1019 : decode cL_law 1019 = .ok (.ireturn, 1) := by decide +kernel
theorem dL_law_1020 : decode cL_law 1020 = .ok (.aload_n 1, 1) := by decide +kernel
theorem dL_law_1021 : decode cL_law 1021 = .ok (.invokevirtual 128, 3) := by decide +kernel
theorem dL_law_1024 : decode cL_law 1024 = .ok (.aload_n 2, 1) := by decide +kernel
theorem dL_law_1025 : decode cL_law 1025 = .ok (.invokevirtual 131, 3) := by decide +kernel
theorem dL_law_1028 : decode cL_law 1028 = .ok (.if_icmp .eq 41, 3) := by decide +kernel
theorem dL_law_1031 : decode cL_law 1031 = .ok (.iconst 0, 1) := by decide +kernel
theorem dL_law_1032 : decode cL_law 1032 = .ok (.ireturn, 1) := by decide +kernel
theorem dL_law_1033 : decode cL_law 1033 = .ok (.aload_n 1, 1) := by decide +kernel
theorem dL_law_1034 : decode cL_law 1034 = .ok (.invokevirtual 132, 3) := by decide +kernel
theorem dL_law_1037 : decode cL_law 1037 = .ok (.aload_n 2, 1) := by decide +kernel
theorem dL_law_1038 : decode cL_law 1038 = .ok (.invokevirtual 135, 3) := by decide +kernel
theorem dL_law_1041 : decode cL_law 1041 = .ok (.if_icmp .eq 28, 3) := by decide +kernel
theorem dL_law_1044 : decode cL_law 1044 = .ok (.iconst 0, 1) := by decide +kernel
theorem dL_law_1045 : decode cL_law 1045 = .ok (.ireturn, 1) := by decide +kernel
theorem dL_law_1046 : decode cL_law 1046 = .ok (.aload_n 1, 1) := by decide +kernel
theorem dL_law_1047 : decode cL_law 1047 = .ok (.aload_n 0, 1) := by decide +kernel
theorem dL_law_1048 : decode cL_law 1048 = .ok (.iload_n 3, 1) := by decide +kernel
theorem dL_law_1049 : decode cL_law 1049 = .ok (.iconst 1, 1) := by decide +kernel
theorem dL_law_1050 : decode cL_law 1050 = .ok (.iadd, 1) := by decide +kernel
theorem dL_law_1051 : decode cL_law 1051 = .ok (.iaload, 1) := by decide +kernel
theorem dL_law_1052 : decode cL_law 1052 = .ok (.invokevirtual 136, 3) := by decide +kernel
theorem dL_law_1055 : decode cL_law 1055 = .ok (.aload_n 2, 1) := by decide +kernel
theorem dL_law_1056 : decode cL_law 1056 = .ok (.aload_n 0, 1) := by decide +kernel
theorem dL_law_1057 : decode cL_law 1057 = .ok (.iload_n 3, 1) := by decide +kernel
theorem dL_law_1058 : decode cL_law 1058 = .ok (.iconst 1, 1) := by decide +kernel
theorem dL_law_1059 : decode cL_law 1059 = .ok (.iadd, 1) := by decide +kernel
theorem dL_law_1060 : decode cL_law 1060 = .ok (.iaload, 1) := by decide +kernel
theorem dL_law_1061 : decode cL_law 1061 = .ok (.invokevirtual 139, 3) := by decide +kernel
theorem dL_law_1064 : decode cL_law 1064 = .ok (.if_icmp .eq 5, 3) := by decide +kernel
theorem dL_law_1067 : decode cL_law 1067 = .ok (.iconst 0, 1) := by decide +kernel
theorem dL_law_1068 : decode cL_law 1068 = .ok (.ireturn, 1) := by decide +kernel
theorem dL_law_1069 : decode cL_law 1069 = .ok (.iinc 3 6, 3) := by decide +kernel
theorem dL_law_1072 : decode cL_law 1072 = .ok (.goto (-1054), 3) := by decide +kernel
theorem dL_law_1075 : decode cL_law 1075 = .ok (.iconst 1, 1) := by decide +kernel
theorem dL_law_1076 : decode cL_law 1076 = .ok (.ireturn, 1) := by decide +kernel
end
section
/-! THE MEMORY OF THE SYSTEM: every cell of the class and of the reference is of a kind, the instances of a kind are numbered; M kind instance slot is an int.
References between cells never change once the constructors are through (keptIn apart, which is a number: 0 null, 1 kept, 2 imaged). -/
abbrev gk_M : Type := Nat → Nat → Nat → Int32
abbrev gk_V : Type := Int32 ⊕ (Int64 ⊕ (Nat × Nat))
abbrev gk_I (x : Int32) : gk_V := Sum.inl x
abbrev gk_L (x : Int64) : gk_V := Sum.inr (Sum.inl x)
abbrev gk_R (c i : Nat) : gk_V := Sum.inr (Sum.inr (c, i))
def gk_up (M : gk_M) (c i j : Nat) (v : Int32) : gk_M := fun c' i' j' => if c' = c ∧ i' = i ∧ j' = j then v else M c' i' j'
theorem gk_up_ne {M : gk_M} {c i j c' i' : Nat} {v : Int32} (h : ¬ (c' = c ∧ i' = i)) : gk_up M c i j v c' i' = M c' i' := by
  funext k
  unfold gk_up
  rw [if_neg (fun q => h ⟨q.1, q.2.1⟩)]
theorem gk_up_self {M : gk_M} {c i j : Nat} {v : Int32} : gk_up M c i j v c i = upd (M c i) j v := by
  funext k
  unfold gk_up upd
  by_cases hk : k = j
  · rw [if_pos ⟨rfl, rfl, hk⟩, if_pos hk]
  · rw [if_neg (fun q => hk q.2.2), if_neg hk]
def gk_cnt : Nat → Nat
  | 0 => 1
  | 1 => 6
  | 2 => 3
  | 3 => 1
  | 4 => 1
  | 5 => 18
  | 6 => 1
  | 7 => 3
  | 8 => 3
  | 9 => 3
  | 10 => 1
  | 11 => 1
  | 12 => 1
  | 13 => 1
  | 14 => 1
  | 15 => 2
  | 16 => 6
  | 17 => 1
  | 18 => 2
  | 19 => 1
  | 20 => 2
  | 21 => 1
  | 22 => 1
  | _ => 0
def gk_c (ρ : Nat → Nat → Nat) : gk_V → Value
  | .inl x => .int x
  | .inr (.inl x) => .long x
  | .inr (.inr q) => .ref (ρ q.1 q.2)
abbrev gk_T : Type := ClassId × ClassId × ClassId
def gk_dr : Nat → Nat
  | 0 => 1
  | 1 => 3
  | 2 => 10
  | 3 => 5
  | 4 => 9
  | 5 => 2
  | _ => 0
/-- what a cell holds -/
def gk_E (T : gk_T) (ρ : Nat → Nat → Nat) (M : gk_M) (c i : Nat) : va_E := match c with
  | 0 => .inr (0, [.int (M 0 i 0), .int (M 0 i 1), .int (M 0 i 2), .int (M 0 i 3), .int (M 0 i 4)])
  | 1 => .inr (gk_dr i, [])
  | 2 => .inr (4, [.ref (ρ 7 i), .ref (ρ 8 i), .ref (ρ 9 i), .int (M 2 i 3), .int (M 2 i 4), .int (M 2 i 5), .int (M 2 i 6), .int (M 2 i 7)])
  | 3 => .inr (6, [.ref (ρ 11 0), .int (M 3 i 1), .int (M 3 i 2), .int (M 3 i 3)])
  | 4 => .inr (7, [.int (M 4 i 0)])
  | 5 => .inr (8, [.int (M 5 i 0), .int (M 5 i 1), .int (M 5 i 2), .int (M 5 i 3), .int (M 5 i 4), .int (M 5 i 5)])
  | 6 => .inr (11, [.ref (ρ 10 0), .ref (ρ 0 0), .ref (ρ 4 0), .ref (ρ 2 0), .ref (ρ 2 1), .ref (ρ 2 2), .int (M 6 i 6), .ref (ρ 3 0), .ref (ρ 12 0), .int (M 6 i 9), .ref (ρ 13 0)])
  | 7 => .inl (T.1, 7, .inl (M 7 i))
  | 8 => .inl (T.1, 7, .inl (M 8 i))
  | 9 => .inl (T.2.1, 6, .inr (.inr (.inr (.inr (fun j => some (ρ 5 (6 * i + j)))))))
  | 10 => .inl (T.2.2, 6, .inr (.inr (.inr (.inr (fun j => some (ρ 1 (j)))))))
  | 11 => .inl (T.1, 80, .inl (M 11 i))
  | 12 => .inl (T.1, 12, .inl (M 12 i))
  | 13 => .inl (T.1, 7, .inl (M 13 i))
  | 14 => .inr (12, [.int (M 14 i 0), .int (M 14 i 1), .int (M 14 i 2), .int (M 14 i 3), .int (M 14 i 4), .ref (ρ 15 0), .ref (ρ 15 1), .ref (ρ 16 0), .ref (ρ 16 1), .ref (ρ 16 2), .ref (ρ 16 3), .ref (ρ 16 4), .ref (ρ 16 5), .int (M 14 i 13), .ref (ρ 17 0), .int (M 14 i 15), .int (M 14 i 16), .ref (ρ 18 0), .ref (ρ 18 1), .int (M 14 i 19), .int (M 14 i 20), .int (M 14 i 21), (if M 14 i 22 = 0 then .null else .ref (ρ 18 ((M 14 i 22).toNatClampNeg - 1))), .ref (ρ 19 0), .int (M 14 i 24), .int (M 14 i 25), .int (M 14 i 26), .int (M 14 i 27), .ref (ρ 20 0), .ref (ρ 20 1), .ref (ρ 21 0), .ref (ρ 22 0), .int (M 14 i 32), .int (M 14 i 33)])
  | 15 => .inl (T.1, 7, .inl (M 15 i))
  | 16 => .inl (T.1, 6, .inl (M 16 i))
  | 17 => .inl (T.1, 7, .inl (M 17 i))
  | 18 => .inl (T.1, 56, .inl (M 18 i))
  | 19 => .inl (T.1, 80, .inl (M 19 i))
  | 20 => .inl (T.1, 28, .inl (M 20 i))
  | 21 => .inl (T.1, 168, .inl (M 21 i))
  | 22 => .inl (T.1, 12, .inl (M 22 i))
  | _ => .inl (T.1, 0, .inl (fun _ => 0))
theorem gk_E_congr {T : gk_T} {ρ : Nat → Nat → Nat} {M M' : gk_M} {c i : Nat} (h : M' c i = M c i) : gk_E T ρ M' c i = gk_E T ρ M c i := by
  unfold gk_E
  split <;> first | rfl | (rw [h])
abbrev gk_tys (T : gk_T) : List (ClassId × FieldType) := [(T.1, .int), (T.2.1, .object RX8), (T.2.2, .object RX1)]
def gk_H (D : va_G) (T : gk_T) (ρ : Nat → Nat → Nat) (M : gk_M) (H : Heap) : Prop := ∀ c i : Nat, i < gk_cnt c → va_at D vwCl (ρ c i, gk_E T ρ M c i) H
def gk_J (ρ : Nat → Nat → Nat) : Prop := ∀ c i c' i' : Nat, i < gk_cnt c → i' < gk_cnt c' → ρ c i = ρ c' i' → c = c' ∧ i = i'
def gk_ix : List Nat := (List.range 23).flatMap (fun c => (List.range (gk_cnt c)).map (fun i => 100 * c + i))
theorem gk_ix_nd : va_nd gk_ix = true := by decide +kernel
theorem gk_ix_ok : ∀ q ∈ gk_ix, q % 100 < gk_cnt (q / 100) := by decide +kernel
theorem gk_cnt_lt {c i : Nat} (h : i < gk_cnt c) : c < 23 ∧ i < 100 := by
  rcases Nat.lt_or_ge c 23 with hc | hc
  · have h2 : ∀ c, c < 23 → gk_cnt c < 100 := by decide
    exact ⟨hc, Nat.lt_trans h (h2 c hc)⟩
  · obtain ⟨k, rfl⟩ : ∃ k, c = k + 23 := ⟨c - 23, by omega⟩
    exact absurd h (Nat.not_lt_zero i)
theorem gk_ix_mem {c i : Nat} (h : i < gk_cnt c) : 100 * c + i ∈ gk_ix := List.mem_flatMap.mpr ⟨c, List.mem_range.mpr (gk_cnt_lt h).1, List.mem_map.mpr ⟨i, List.mem_range.mpr h, rfl⟩⟩
def gk_ws (T : gk_T) (ρ : Nat → Nat → Nat) (M : gk_M) : va_W := gk_ix.map (fun q => (ρ (q / 100) (q % 100), gk_E T ρ M (q / 100) (q % 100)))
theorem gk_at (T : gk_T) (ρ : Nat → Nat → Nat) (M : gk_M) {c i : Nat} (h : i < gk_cnt c) : ∃ q : Nat, gk_ix[q]? = some (100 * c + i) ∧ (gk_ws T ρ M)[q]? = some (ρ c i, gk_E T ρ M c i) := by
  obtain ⟨q, hq⟩ := List.getElem?_of_mem (gk_ix_mem h)
  have hi := (gk_cnt_lt h).2
  have e1 : (100 * c + i) / 100 = c := by omega
  have e2 : (100 * c + i) % 100 = i := by omega
  refine ⟨q, hq, ?_⟩
  unfold gk_ws
  rw [List.getElem?_map, hq]
  simp only [Option.map_some, e1, e2]
theorem gk_H.P {D : va_G} {T : gk_T} {ρ : Nat → Nat → Nat} {M : gk_M} {H : Heap} (h : gk_H D T ρ M H) : va_P D vwCl (gk_ws T ρ M) H := by
  intro k q hk
  unfold gk_ws at hk
  rw [List.getElem?_map] at hk
  cases hx : gk_ix[k]? with
  | none => rw [hx] at hk; cases hk
  | some x =>
    rw [hx] at hk
    cases hk
    exact h _ _ (gk_ix_ok x (List.mem_of_getElem? hx))
theorem gk_D {T : gk_T} {ρ : Nat → Nat → Nat} {M : gk_M} {A : Nat → Prop} (hJ : gk_J ρ) (hA : ∀ c i, i < gk_cnt c → A (ρ c i)) : va_D A (gk_ws T ρ M) := by
  have key : ∀ (k : Nat) (q : Nat × va_E), (gk_ws T ρ M)[k]? = some q → ∃ x, gk_ix[k]? = some x ∧ x ∈ gk_ix ∧ q.1 = ρ (x / 100) (x % 100) := by
    intro k q hk
    unfold gk_ws at hk
    rw [List.getElem?_map] at hk
    cases hx : gk_ix[k]? with
    | none => rw [hx] at hk; cases hk
    | some x =>
      rw [hx] at hk
      cases hk
      exact ⟨x, rfl, List.mem_of_getElem? hx, rfl⟩
  refine ⟨fun i j p q hi hj hpq => ?_, fun k q hk => ?_⟩
  · obtain ⟨x, x1, x2, x3⟩ := key i p hi
    obtain ⟨y, y1, y2, y3⟩ := key j q hj
    obtain ⟨e1, e2⟩ := hJ _ _ _ _ (gk_ix_ok x x2) (gk_ix_ok y y2) (x3.symm.trans (hpq.trans y3))
    have e : x = y := by omega
    subst e
    exact va_nd_inj gk_ix gk_ix_nd i j x x1 y1
  · obtain ⟨x, x1, x2, x3⟩ := key k q hk
    rw [x3]
    exact hA _ _ (gk_ix_ok x x2)
theorem gk_H.of_set {D : va_G} {T : gk_T} {ρ : Nat → Nat → Nat} {M M' : gk_M} {H1 : Heap} {c i q : Nat} {E : va_E} (hi : i < gk_cnt c) (hq : gk_ix[q]? = some (100 * c + i)) (hP : va_P D vwCl ((gk_ws T ρ M).set q (ρ c i, E)) H1) (hE : E = gk_E T ρ M' c i)
    (hne : ∀ c' i', ¬ (c' = c ∧ i' = i) → M' c' i' = M c' i') : gk_H D T ρ M' H1 := by
  intro c' i' h'
  obtain ⟨q', hq', hw'⟩ := gk_at T ρ M h'
  by_cases e : c' = c ∧ i' = i
  · obtain ⟨rfl, rfl⟩ := e
    have hl : q < (gk_ws T ρ M).length := by
      unfold gk_ws
      rw [List.length_map]
      exact (List.getElem?_eq_some_iff.mp hq).1
    have := hP q _ (List.getElem?_set_self hl)
    rw [hE] at this
    exact this
  · have hqq : q' ≠ q := by
      intro z
      subst z
      have := Option.some.inj (hq'.symm.trans hq)
      have a1 := (gk_cnt_lt h').2
      have a2 := (gk_cnt_lt hi).2
      exact e ⟨by omega, by omega⟩
    have := hP q' _ (by rw [List.getElem?_set_ne (Ne.symm hqq)]; exact hw')
    rw [gk_E_congr (hne c' i' e)]
    exact this
/-! LOCALS: a list, none where nothing is known -/
def gk_LR (ρ : Nat → Nat → Nat) (ls : Array Slot) (nL : Nat) (L : List (Option gk_V)) : Prop := ls.size = nL ∧ lv_wf ls ∧ ∀ (i : Nat) (v : gk_V), L[i]? = some (some v) → ls[i]? = some (.val (gk_c ρ v))
def gk_as (ρ : Nat → Nat → Nat) (L : List (Option gk_V)) : List (Nat × Value) := (List.range L.length).filterMap (fun i => match L[i]? with
  | some (some v) => some (i, gk_c ρ v)
  | _ => none)
theorem gk_as_mem {ρ : Nat → Nat → Nat} {L : List (Option gk_V)} {i : Nat} {v : gk_V} (h : L[i]? = some (some v)) : (i, gk_c ρ v) ∈ gk_as ρ L := by
  refine List.mem_filterMap.mpr ⟨i, List.mem_range.mpr (List.getElem?_eq_some_iff.mp h).1, ?_⟩
  rw [h]
theorem gk_as_of {ρ : Nat → Nat → Nat} {L : List (Option gk_V)} {q : Nat × Value} (h : q ∈ gk_as ρ L) : ∃ v, L[q.1]? = some (some v) ∧ q.2 = gk_c ρ v := by
  obtain ⟨i, -, hi⟩ := List.mem_filterMap.mp h
  split at hi
  · rename_i v hv
    cases hi
    exact ⟨v, hv, rfl⟩
  · cases hi
theorem gk_LR.has {ρ : Nat → Nat → Nat} {ls : Array Slot} {nL : Nat} {L : List (Option gk_V)} (h : gk_LR ρ ls nL L) : lv_has ls nL (gk_as ρ L) := by
  refine ⟨h.1, h.2.1, fun q hq => ?_⟩
  obtain ⟨v, h1, h2⟩ := gk_as_of hq
  rw [h2]
  exact h.2.2 _ _ h1
def gk_is2 : gk_V → Bool
  | .inr (.inl _) => true
  | _ => false
/-- no long stands just ahead of place i -/
def gk_okS (L : List (Option gk_V)) (i : Nat) : Bool := match i with
  | 0 => true
  | k + 1 => match L[k]? with
    | some (some v) => !gk_is2 v
    | _ => true
theorem gk_cat1 {ρ : Nat → Nat → Nat} {v : gk_V} (h : gk_is2 v = false) : (gk_c ρ v).category = 1 := by
  rcases v with x | x | x
  · rfl
  · cases h
  · rfl
theorem gk_okS_of {ρ : Nat → Nat → Nat} {L : List (Option gk_V)} {i k : Nat} {v : gk_V} (h : gk_okS L i = true) (hk : k + 1 = i) (hv : L[k]? = some (some v)) : ¬ (gk_c ρ v).category = 2 := by
  subst hk
  simp only [gk_okS, hv, Bool.not_eq_true'] at h
  rw [gk_cat1 h]
  decide
theorem gk_LR.st1 {ρ : Nat → Nat → Nat} {ls' : Array Slot} {nL : Nat} {L L' : List (Option gk_V)} {i : Nat} {v : gk_V} (hk : gk_okS L i = true) (hL' : L.set i (some v) = L')
    (h' : lv_has ls' nL ((i, gk_c ρ v) :: (gk_as ρ L).filter (fun q => !(q.1 == i) && !(q.1 + 1 == i && q.2.category == 2)))) : gk_LR ρ ls' nL L' := by
  subst hL'
  refine ⟨h'.1, h'.2.1, fun k w hw => ?_⟩
  by_cases e : k = i
  · subst e
    have hl : k < L.length := by
      have := (List.getElem?_eq_some_iff.mp hw).1
      rwa [List.length_set] at this
    rw [List.getElem?_set_self hl] at hw
    cases hw
    exact h'.2.2 _ List.mem_cons_self
  · rw [List.getElem?_set_ne (Ne.symm e)] at hw
    refine h'.2.2 (k, gk_c ρ w) (List.mem_cons_of_mem _ (List.mem_filter.mpr ⟨gk_as_mem hw, ?_⟩))
    have h1 : ¬ (k + 1 = i ∧ (gk_c ρ w).category = 2) := fun z => gk_okS_of hk z.1 hw z.2
    simp only [Bool.and_eq_true, Bool.not_eq_true', Bool.and_eq_false_imp, beq_eq_false_iff_ne, beq_iff_eq]
    exact ⟨e, fun z q => h1 ⟨z, q⟩⟩
theorem gk_LR.st2 {ρ : Nat → Nat → Nat} {ls' : Array Slot} {nL : Nat} {L L' : List (Option gk_V)} {i : Nat} {v : gk_V} (hk : gk_okS L i = true) (hL' : (L.set i (some v)).set (i + 1) none = L')
    (h' : lv_has ls' nL ((i, gk_c ρ v) :: (gk_as ρ L).filter (fun q => !(q.1 == i) && (!(q.1 == i + 1) && !(q.1 + 1 == i && q.2.category == 2))))) : gk_LR ρ ls' nL L' := by
  subst hL'
  refine ⟨h'.1, h'.2.1, fun k w hw => ?_⟩
  by_cases e1 : k = i + 1
  · subst e1
    have hl : i + 1 < (L.set i (some v)).length := by
      have := (List.getElem?_eq_some_iff.mp hw).1
      rwa [List.length_set] at this
    rw [List.getElem?_set_self hl] at hw
    cases hw
  · rw [List.getElem?_set_ne (Ne.symm e1)] at hw
    by_cases e : k = i
    · subst e
      have hl : k < L.length := by
        have := (List.getElem?_eq_some_iff.mp hw).1
        rwa [List.length_set] at this
      rw [List.getElem?_set_self hl] at hw
      cases hw
      exact h'.2.2 _ List.mem_cons_self
    · rw [List.getElem?_set_ne (Ne.symm e)] at hw
      refine h'.2.2 (k, gk_c ρ w) (List.mem_cons_of_mem _ (List.mem_filter.mpr ⟨gk_as_mem hw, ?_⟩))
      have h1 : ¬ (k + 1 = i ∧ (gk_c ρ w).category = 2) := fun z => gk_okS_of hk z.1 hw z.2
      simp only [Bool.and_eq_true, Bool.not_eq_true', Bool.and_eq_false_imp, beq_eq_false_iff_ne, beq_iff_eq]
      exact ⟨e, e1, fun z q => h1 ⟨z, q⟩⟩
def gk_le : List (Option gk_V) → List (Option gk_V) → Prop
  | [], _ => True
  | none :: a, _ :: b => gk_le a b
  | some v :: a, some w :: b => v = w ∧ gk_le a b
  | _, _ => False
theorem gk_le_at : ∀ {L' L : List (Option gk_V)}, gk_le L' L → ∀ (i : Nat) (v : gk_V), L'[i]? = some (some v) → L[i]? = some (some v)
  | [], _, _, i, v, h => by simp at h
  | none :: a, _ :: b, hl, i, v, h => by
    cases i with
    | zero => simp at h
    | succ i => simp only [List.getElem?_cons_succ] at h ⊢; exact gk_le_at (L' := a) hl i v h
  | some w :: a, some w' :: b, hl, i, v, h => by
    cases i with
    | zero => simp only [List.getElem?_cons_zero] at h ⊢; rw [← h, hl.1]
    | succ i => simp only [List.getElem?_cons_succ] at h ⊢; exact gk_le_at (L' := a) hl.2 i v h
  | none :: a, [], hl, i, v, h => hl.elim
  | some w :: a, [], hl, i, v, h => hl.elim
  | some w :: a, none :: b, hl, i, v, h => hl.elim
theorem gk_LR.sub {ρ : Nat → Nat → Nat} {ls : Array Slot} {nL : Nat} {L L' : List (Option gk_V)} (h : gk_LR ρ ls nL L) (hl : gk_le L' L) : gk_LR ρ ls nL L' := ⟨h.1, h.2.1, fun i v hv => h.2.2 i v (gk_le_at hl i v hv)⟩
/-- the locals with which a method begins -/
def gk_ent : List gk_V → List (Option gk_V)
  | [] => []
  | .inr (.inl x) :: l => some (.inr (.inl x)) :: none :: gk_ent l
  | v :: l => some v :: gk_ent l
theorem gk_ent_args {ρ : Nat → Nat → Nat} : ∀ (l : List gk_V) (o i : Nat) (v : gk_V), (gk_ent l)[i]? = some (some v) → (o + i, gk_c ρ v) ∈ lv_args o (l.map (gk_c ρ))
  | [], o, i, v, h => by simp [gk_ent] at h
  | .inl x :: l, o, i, v, h => by
    cases i with
    | zero => simp [gk_ent] at h; subst h; exact List.mem_cons_self
    | succ i =>
      simp only [gk_ent, List.getElem?_cons_succ] at h
      have := gk_ent_args (ρ := ρ) l (o + 1) i v h
      rw [show o + (i + 1) = o + 1 + i by omega]
      exact List.mem_cons_of_mem _ this
  | .inr (.inr x) :: l, o, i, v, h => by
    cases i with
    | zero => simp [gk_ent] at h; subst h; exact List.mem_cons_self
    | succ i =>
      simp only [gk_ent, List.getElem?_cons_succ] at h
      have := gk_ent_args (ρ := ρ) l (o + 1) i v h
      rw [show o + (i + 1) = o + 1 + i by omega]
      exact List.mem_cons_of_mem _ this
  | .inr (.inl x) :: l, o, i, v, h => by
    match i, h with
    | 0, h => simp [gk_ent] at h; subst h; exact List.mem_cons_self
    | 1, h => simp [gk_ent] at h
    | i + 2, h =>
      simp only [gk_ent, List.getElem?_cons_succ] at h
      have := gk_ent_args (ρ := ρ) l (o + 2) i v h
      rw [show o + (i + 2) = o + 2 + i by omega]
      exact List.mem_cons_of_mem _ this
theorem gk_ent_len {ρ : Nat → Nat → Nat} : ∀ (l : List gk_V), (lg_sl (l.map (gk_c ρ))).length = (gk_ent l).length
  | [] => rfl
  | .inl x :: l => by
    have := gk_ent_len (ρ := ρ) l
    simp only [lg_sl, List.map_cons, List.flatMap_cons, List.length_append, gk_ent, List.length_cons] at this ⊢
    rw [this]
    simp [gk_c, Value.category]
    omega
  | .inr (.inr x) :: l => by
    have := gk_ent_len (ρ := ρ) l
    simp only [lg_sl, List.map_cons, List.flatMap_cons, List.length_append, gk_ent, List.length_cons] at this ⊢
    rw [this]
    simp [gk_c, Value.category]
    omega
  | .inr (.inl x) :: l => by
    have := gk_ent_len (ρ := ρ) l
    simp only [lg_sl, List.map_cons, List.flatMap_cons, List.length_append, gk_ent, List.length_cons] at this ⊢
    rw [this]
    simp [gk_c, Value.category]
    omega
end
section
/-! THE JUDGEMENT: gk_G own cc nL d ret SL K pc L st M: a method of class own with the bytes cc, nL locals and room for d frames below it, at pc with locals L, stack st and memory M, comes to its end with K answer memory.
SL: the law's script (its length and contents), none in the methods. -/
def gk_Cx (own : String) (cc : ByteArray) (nL d : Nat) (ret : Option FieldType) (SL : Option (Nat × (Nat → Int32))) (p : Program) (R : Room) (s : State) (m : MethodId) (args : Array Value) (meth : Method) (c : Code) (cells slots : Nat) (D : va_G) (T : gk_T) (ρ : Nat → Nat → Nat) (A : Nat → Prop) : Prop :=
  (p.tables.exec = Jvm.exec ∧ c.code = cc ∧ c.maxLocals = nL ∧ s.vm.findClass own = some m.cls ∧ ∀ w ∈ gn_tbl, w.before args s = true) ∧ va_K D vwCl (gk_tys T) s ∧ gk_J ρ ∧ (∀ k i : Nat, i < gk_cnt k → A (ρ k i)) ∧ (meth.sig.returnType = ret ∧ meth.locks = false) ∧ (d ≤ R.frames ∧ 36 * d ≤ R.locals ∧ cells ≤ R.cells ∧ slots ≤ R.slots) ∧
  (∀ (Ls : Nat) (xs : Nat → Int32), SL = some (Ls, xs) → va_X (ρ 23 0) Ls xs s s.heap ∧ ρ 23 0 < s.heap.size ∧ ¬ A (ρ 23 0))
def gk_rt (cc : ByteArray) (pc : Nat) : Option FieldType → gk_V → Prop
  | some .int, .inl _ => decode cc pc = .ok (.ireturn, 1)
  | some .boolean, .inl x => decode cc pc = .ok (.ireturn, 1) ∧ (x = 0 ∨ x = 1)
  | some .long, .inr (.inl _) => decode cc pc = .ok (.lreturn, 1)
  | none, .inl x => decode cc pc = .ok (.return_, 1) ∧ x = 0
  | _, _ => False
def gk_ro (ρ : Nat → Nat → Nat) (ret : Option FieldType) (v : gk_V) : Option Value := match ret with
  | none => none
  | some _ => some (gk_c ρ v)
def gk_En (cc : ByteArray) (ret : Option FieldType) (K : gk_V → gk_M → Prop) (p : Program) (l : Launch) (e : Env) (R : Room) (s : State) (m : MethodId) (args : Array Value) (below : List Frame) (meth : Method) (c : Code) (cells slots : Nat) (Q : State → Prop) (D : va_G) (T : gk_T) (ρ : Nat → Nat → Nat) (A : Nat → Prop) : Prop :=
  ∀ (v : gk_V) (M : gk_M) (H : Heap) (locs : List Loc) (ls : Array Slot) (pc : Nat), K v M → gk_H D T ρ M H → va_S A s.heap H locs → gk_rt cc pc ret v → W p l e R s m args below meth c H locs cells slots Q (F0 m pc ls (gk_ro ρ ret v).toList)
def gk_G (own : String) (cc : ByteArray) (nL d : Nat) (ret : Option FieldType) (SL : Option (Nat × (Nat → Int32))) (K : gk_V → gk_M → Prop) (pc : Nat) (L : List (Option gk_V)) (st : List gk_V) (M : gk_M) : Prop :=
  ∀ (p : Program) (l : Launch) (e : Env) (R : Room) (s : State) (m : MethodId) (args : Array Value) (below : List Frame) (meth : Method) (c : Code) (cells slots : Nat) (Q : State → Prop) (D : va_G) (T : gk_T) (ρ : Nat → Nat → Nat) (A : Nat → Prop), gk_Cx own cc nL d ret SL p R s m args meth c cells slots D T ρ A → gk_En cc ret K p l e R s m args below meth c cells slots Q D T ρ A → ∀ (H : Heap) (locs : List Loc) (ls : Array Slot), gk_H D T ρ M H → va_S A s.heap H locs → gk_LR ρ ls nL L → W p l e R s m args below meth c H locs cells slots Q (F0 m pc ls (st.map (gk_c ρ)))
/-! what the pure functions are made of -/
def gk_Sat {α : Type} (ι : α → gk_V) (o : Option (α × gk_M)) (K : gk_V → gk_M → Prop) : Prop := ∃ (r : α) (M : gk_M), o = some (r, M) ∧ K (ι r) M
def gk_U (_ : Unit) : gk_V := gk_I 0
def gk_gd {α : Type} (b : Bool) (X : Option α) : Option α := bif b then X else none
def gk_in (i : Int32) (n : Nat) : Bool := decide (0 ≤ i) && decide (i.toNatClampNeg < n)
def gk_b (x : Int32) : Bool := decide (x = 0) || decide (x = 1)
def gk_nz (x : Int32) : Bool := decide (¬ x = 0)
def gk_lt (i n : Nat) : Bool := decide (i < n)
def gk_wr {α : Type} (M : gk_M) (c i j : Nat) (v : Int32) (f : gk_M → Option α) : Option α := f (gk_up M c i j v)
def gk_bnd {α β : Type} (o : Option (α × gk_M)) (f : α → gk_M → Option β) : Option β := match o with
  | none => none
  | some q => f q.1 q.2
theorem gk_Sat.gd {α : Type} {ι : α → gk_V} {b : Bool} {X : Option (α × gk_M)} {K : gk_V → gk_M → Prop} (h : gk_Sat ι (gk_gd b X) K) : b = true ∧ gk_Sat ι X K := by
  cases b with
  | false => obtain ⟨r, M, h, -⟩ := h; cases h
  | true => exact ⟨rfl, h⟩
theorem gk_Sat.no {α : Type} {ι : α → gk_V} {K : gk_V → gk_M → Prop} (h : gk_Sat ι (none : Option (α × gk_M)) K) : False := by
  obtain ⟨r, M, h, -⟩ := h
  cases h
theorem gk_Sat.ite {α : Type} {ι : α → gk_V} {K : gk_V → gk_M → Prop} {P : Prop} {hP : Decidable P} {X Y : Option (α × gk_M)} (h : gk_Sat ι (@_root_.ite _ P hP X Y) K) : (P → gk_Sat ι X K) ∧ (¬ P → gk_Sat ι Y K) :=
  ⟨fun q => by rw [if_pos q] at h; exact h, fun q => by rw [if_neg q] at h; exact h⟩
theorem gk_Sat.bnd {α β : Type} {ι : β → gk_V} {κ : α → gk_V} {K : gk_V → gk_M → Prop} {o : Option (α × gk_M)} {f : α → gk_M → Option (β × gk_M)} (h : gk_Sat ι (gk_bnd o f) K) : gk_Sat κ o (fun v M' => ∃ r, v = κ r ∧ gk_Sat ι (f r M') K) := by
  cases o with
  | none => exact h.no.elim
  | some q => exact ⟨q.1, q.2, rfl, q.1, rfl, h⟩
theorem gk_in_vp {i : Int32} {n : Nat} (h : gk_in i n = true) : vp_in i n ∧ i.toNatClampNeg < n := by
  simp only [gk_in, Bool.and_eq_true, decide_eq_true_eq] at h
  refine ⟨?_, h.2⟩
  unfold vp_in
  rintro (q | q)
  · exact absurd h.1 (Int32.not_le.mpr q)
  · omega
theorem gk_b_or {x : Int32} (h : gk_b x = true) : x = 0 ∨ x = 1 := by
  simpa [gk_b] using h
theorem gk_b_narrow {x : Int32} (h : x = 0 ∨ x = 1) : narrow .boolean (.int x) = .int x ∧ fits .boolean (.int x) = true := by
  rcases h with rfl | rfl <;> exact ⟨rfl, rfl⟩
theorem gk_nz_ne {x : Int32} (h : gk_nz x = true) : ¬ x = 0 := by
  simpa [gk_nz] using h
theorem gk_lt_of {i n : Nat} (h : gk_lt i n = true) : i < n := by
  simpa [gk_lt] using h
section GKR
variable {own : String} {cc : ByteArray} {nL d : Nat} {ret : Option FieldType} {SL : Option (Nat × (Nat → Int32))} {K : gk_V → gk_M → Prop} {pc : Nat} {L : List (Option gk_V)} {st : List gk_V} {M : gk_M} {α : Type} {ι : α → gk_V} {X Y : Option (α × gk_M)}
theorem gk_weak (L' : List (Option gk_V)) (hl : gk_le L' L) (k : gk_G own cc nL d ret SL K (pc) (L') (st) (M)) : gk_G own cc nL d ret SL K (pc) (L) (st) (M) := fun p l e R s m args below meth c cells slots Q D T ρ A C E H locs ls hH hS hL => k p l e R s m args below meth c cells slots Q D T ρ A C E H locs ls hH hS (hL.sub hl)
theorem gk_iconst {n : Int} {v : Int32} (hd : decode cc pc = .ok (.iconst n, 1)) (hv : Int32.ofInt n = v) (k : gk_G own cc nL d ret SL K (pc + 1) (L) (gk_I v :: st) (M)) : gk_G own cc nL d ret SL K (pc) (L) (st) (M) := fun p l e R s m args below meth c cells slots Q D T ρ A C E H locs ls hH hS hL => lv_iconst C.1.1 C.1.2.1 hd hv (k p l e R s m args below meth c cells slots Q D T ρ A C E H locs ls hH hS hL)
theorem gk_bipush {n : Int} {v : Int32} (hd : decode cc pc = .ok (.bipush n, 2)) (hv : (Int8.ofInt n).toInt32 = v) (k : gk_G own cc nL d ret SL K (pc + 2) (L) (gk_I v :: st) (M)) : gk_G own cc nL d ret SL K (pc) (L) (st) (M) := fun p l e R s m args below meth c cells slots Q D T ρ A C E H locs ls hH hS hL => lv_bipush C.1.1 C.1.2.1 hd hv (k p l e R s m args below meth c cells slots Q D T ρ A C E H locs ls hH hS hL)
theorem gk_sipush {n : Int} {v : Int32} (hd : decode cc pc = .ok (.sipush n, 3)) (hv : (Int16.ofInt n).toInt32 = v) (k : gk_G own cc nL d ret SL K (pc + 3) (L) (gk_I v :: st) (M)) : gk_G own cc nL d ret SL K (pc) (L) (st) (M) := fun p l e R s m args below meth c cells slots Q D T ρ A C E H locs ls hH hS hL => lv_sipush C.1.1 C.1.2.1 hd hv (k p l e R s m args below meth c cells slots Q D T ρ A C E H locs ls hH hS hL)
theorem gk_lconst {n : Fin 2} {v : Int64} (hd : decode cc pc = .ok (.lconst n, 1)) (hv : Int64.ofNat (n : Nat) = v) (k : gk_G own cc nL d ret SL K (pc + 1) (L) (gk_L v :: st) (M)) : gk_G own cc nL d ret SL K (pc) (L) (st) (M) := fun p l e R s m args below meth c cells slots Q D T ρ A C E H locs ls hH hS hL => lv_lconst C.1.1 C.1.2.1 hd hv (k p l e R s m args below meth c cells slots Q D T ρ A C E H locs ls hH hS hL)
theorem gk_ldc {index : Nat} {v : Int32} (hd : decode cc pc = .ok (.ldc index, 2)) (hw : Cond.constant own index v ∈ gn_tbl) (k : gk_G own cc nL d ret SL K (pc + 2) (L) (gk_I v :: st) (M)) : gk_G own cc nL d ret SL K (pc) (L) (st) (M) := fun p l e R s m args below meth c cells slots Q D T ρ A C E H locs ls hH hS hL => lv_ldc C.1.1 C.1.2.1 C.1.2.2.2.1 (C.1.2.2.2.2 _ hw) hd (k p l e R s m args below meth c cells slots Q D T ρ A C E H locs ls hH hS hL)
theorem gk_ldc2 {index : Nat} {v : Int64} (hd : decode cc pc = .ok (.ldc2_w index, 3)) (hw : Cond.constantLong own index v ∈ gn_tbl) (k : gk_G own cc nL d ret SL K (pc + 3) (L) (gk_L v :: st) (M)) : gk_G own cc nL d ret SL K (pc) (L) (st) (M) := fun p l e R s m args below meth c cells slots Q D T ρ A C E H locs ls hH hS hL => lv_ldc2 C.1.1 C.1.2.1 C.1.2.2.2.1 (C.1.2.2.2.2 _ hw) hd (k p l e R s m args below meth c cells slots Q D T ρ A C E H locs ls hH hS hL)
theorem gk_iload_n {k : Fin 4} {i : Nat} {x : Int32} (hd : decode cc pc = .ok (.iload_n k, 1)) (hi : (k : Nat) = i) (hl : L[i]? = some (some (gk_I x))) (kk : gk_G own cc nL d ret SL K (pc + 1) (L) (gk_I x :: st) (M)) : gk_G own cc nL d ret SL K (pc) (L) (st) (M) := fun p l e R s m args below meth c cells slots Q D T ρ A C E H locs ls hH hS hL => lv_iload_n C.1.1 C.1.2.1 hd hi (hL.2.2 _ _ hl) (kk p l e R s m args below meth c cells slots Q D T ρ A C E H locs ls hH hS hL)
theorem gk_iload {i : Nat} {x : Int32} (hd : decode cc pc = .ok (.iload i, 2)) (hl : L[i]? = some (some (gk_I x))) (kk : gk_G own cc nL d ret SL K (pc + 2) (L) (gk_I x :: st) (M)) : gk_G own cc nL d ret SL K (pc) (L) (st) (M) := fun p l e R s m args below meth c cells slots Q D T ρ A C E H locs ls hH hS hL => lv_iload C.1.1 C.1.2.1 hd (hL.2.2 _ _ hl) (kk p l e R s m args below meth c cells slots Q D T ρ A C E H locs ls hH hS hL)
theorem gk_lload_n {k : Fin 4} {i : Nat} {x : Int64} (hd : decode cc pc = .ok (.lload_n k, 1)) (hi : (k : Nat) = i) (hl : L[i]? = some (some (gk_L x))) (kk : gk_G own cc nL d ret SL K (pc + 1) (L) (gk_L x :: st) (M)) : gk_G own cc nL d ret SL K (pc) (L) (st) (M) := fun p l e R s m args below meth c cells slots Q D T ρ A C E H locs ls hH hS hL => lv_lload_n C.1.1 C.1.2.1 hd hi (hL.2.2 _ _ hl) (kk p l e R s m args below meth c cells slots Q D T ρ A C E H locs ls hH hS hL)
theorem gk_lload {i : Nat} {x : Int64} (hd : decode cc pc = .ok (.lload i, 2)) (hl : L[i]? = some (some (gk_L x))) (kk : gk_G own cc nL d ret SL K (pc + 2) (L) (gk_L x :: st) (M)) : gk_G own cc nL d ret SL K (pc) (L) (st) (M) := fun p l e R s m args below meth c cells slots Q D T ρ A C E H locs ls hH hS hL => lv_lload C.1.1 C.1.2.1 hd (hL.2.2 _ _ hl) (kk p l e R s m args below meth c cells slots Q D T ρ A C E H locs ls hH hS hL)
theorem gk_aload_n {k : Fin 4} {i c0 i0 : Nat} (hd : decode cc pc = .ok (.aload_n k, 1)) (hi : (k : Nat) = i) (hl : L[i]? = some (some (gk_R c0 i0))) (kk : gk_G own cc nL d ret SL K (pc + 1) (L) (gk_R c0 i0 :: st) (M)) : gk_G own cc nL d ret SL K (pc) (L) (st) (M) := fun p l e R s m args below meth c cells slots Q D T ρ A C E H locs ls hH hS hL => lv_aload_n C.1.1 C.1.2.1 hd hi (hL.2.2 _ _ hl) (kk p l e R s m args below meth c cells slots Q D T ρ A C E H locs ls hH hS hL)
theorem gk_aload {i c0 i0 : Nat} (hd : decode cc pc = .ok (.aload i, 2)) (hl : L[i]? = some (some (gk_R c0 i0))) (kk : gk_G own cc nL d ret SL K (pc + 2) (L) (gk_R c0 i0 :: st) (M)) : gk_G own cc nL d ret SL K (pc) (L) (st) (M) := fun p l e R s m args below meth c cells slots Q D T ρ A C E H locs ls hH hS hL => lv_aload C.1.1 C.1.2.1 hd (hL.2.2 _ _ hl) (kk p l e R s m args below meth c cells slots Q D T ρ A C E H locs ls hH hS hL)
theorem gk_istore_n {k : Fin 4} {i : Nat} {x : Int32} {L' : List (Option gk_V)} (hd : decode cc pc = .ok (.istore_n k, 1)) (hi : (k : Nat) = i) (hn : i < nL) (hk : gk_okS L i = true) (hL' : L.set i (some (gk_I x)) = L') (kk : gk_G own cc nL d ret SL K (pc + 1) (L') (st) (M)) : gk_G own cc nL d ret SL K (pc) (L) (gk_I x :: st) (M) := fun p l e R s m args below meth c cells slots Q D T ρ A C E H locs ls hH hS hL => lv_istore_n C.1.1 C.1.2.1 hd hi hL.has hn rfl (fun ls' h' => kk p l e R s m args below meth c cells slots Q D T ρ A C E H locs ls' hH hS (gk_LR.st1 (v := gk_I x) hk hL' h'))
theorem gk_istore {i : Nat} {x : Int32} {L' : List (Option gk_V)} (hd : decode cc pc = .ok (.istore i, 2)) (hn : i < nL) (hk : gk_okS L i = true) (hL' : L.set i (some (gk_I x)) = L') (kk : gk_G own cc nL d ret SL K (pc + 2) (L') (st) (M)) : gk_G own cc nL d ret SL K (pc) (L) (gk_I x :: st) (M) := fun p l e R s m args below meth c cells slots Q D T ρ A C E H locs ls hH hS hL => lv_istore C.1.1 C.1.2.1 hd hL.has hn rfl (fun ls' h' => kk p l e R s m args below meth c cells slots Q D T ρ A C E H locs ls' hH hS (gk_LR.st1 (v := gk_I x) hk hL' h'))
theorem gk_astore_n {k : Fin 4} {i : Nat} {c0 i0 : Nat} {L' : List (Option gk_V)} (hd : decode cc pc = .ok (.astore_n k, 1)) (hi : (k : Nat) = i) (hn : i < nL) (hk : gk_okS L i = true) (hL' : L.set i (some (gk_R c0 i0)) = L') (kk : gk_G own cc nL d ret SL K (pc + 1) (L') (st) (M)) : gk_G own cc nL d ret SL K (pc) (L) (gk_R c0 i0 :: st) (M) := fun p l e R s m args below meth c cells slots Q D T ρ A C E H locs ls hH hS hL => lv_astore_n C.1.1 C.1.2.1 hd hi hL.has hn rfl (fun ls' h' => kk p l e R s m args below meth c cells slots Q D T ρ A C E H locs ls' hH hS (gk_LR.st1 (v := gk_R c0 i0) hk hL' h'))
theorem gk_astore {i : Nat} {c0 i0 : Nat} {L' : List (Option gk_V)} (hd : decode cc pc = .ok (.astore i, 2)) (hn : i < nL) (hk : gk_okS L i = true) (hL' : L.set i (some (gk_R c0 i0)) = L') (kk : gk_G own cc nL d ret SL K (pc + 2) (L') (st) (M)) : gk_G own cc nL d ret SL K (pc) (L) (gk_R c0 i0 :: st) (M) := fun p l e R s m args below meth c cells slots Q D T ρ A C E H locs ls hH hS hL => lv_astore C.1.1 C.1.2.1 hd hL.has hn rfl (fun ls' h' => kk p l e R s m args below meth c cells slots Q D T ρ A C E H locs ls' hH hS (gk_LR.st1 (v := gk_R c0 i0) hk hL' h'))
theorem gk_lstore_n {k : Fin 4} {i : Nat} {x : Int64} {L' : List (Option gk_V)} (hd : decode cc pc = .ok (.lstore_n k, 1)) (hi : (k : Nat) = i) (hn : i + 1 < nL) (hk : gk_okS L i = true) (hL' : (L.set i (some (gk_L x))).set (i + 1) none = L') (kk : gk_G own cc nL d ret SL K (pc + 1) (L') (st) (M)) : gk_G own cc nL d ret SL K (pc) (L) (gk_L x :: st) (M) := fun p l e R s m args below meth c cells slots Q D T ρ A C E H locs ls hH hS hL => lv_lstore_n C.1.1 C.1.2.1 hd hi hL.has hn rfl (fun ls' h' => kk p l e R s m args below meth c cells slots Q D T ρ A C E H locs ls' hH hS (gk_LR.st2 (v := gk_L x) hk hL' h'))
theorem gk_lstore {i : Nat} {x : Int64} {L' : List (Option gk_V)} (hd : decode cc pc = .ok (.lstore i, 2)) (hn : i + 1 < nL) (hk : gk_okS L i = true) (hL' : (L.set i (some (gk_L x))).set (i + 1) none = L') (kk : gk_G own cc nL d ret SL K (pc + 2) (L') (st) (M)) : gk_G own cc nL d ret SL K (pc) (L) (gk_L x :: st) (M) := fun p l e R s m args below meth c cells slots Q D T ρ A C E H locs ls hH hS hL => lv_lstore C.1.1 C.1.2.1 hd hL.has hn rfl (fun ls' h' => kk p l e R s m args below meth c cells slots Q D T ρ A C E H locs ls' hH hS (gk_LR.st2 (v := gk_L x) hk hL' h'))
theorem gk_iinc {i : Nat} {n : Int} {x v : Int32} {L' : List (Option gk_V)} (hd : decode cc pc = .ok (.iinc i n, 3)) (hl : L[i]? = some (some (gk_I x))) (hv : x + Int32.ofInt n = v) (hn : i < nL) (hk : gk_okS L i = true) (hL' : L.set i (some (gk_I v)) = L') (kk : gk_G own cc nL d ret SL K (pc + 3) (L') (st) (M)) : gk_G own cc nL d ret SL K (pc) (L) (st) (M) := by
  intro p l e R s m args below meth c cells slots Q D T ρ A C E H locs ls hH hS hL
  obtain ⟨q, hq⟩ := List.getElem?_of_mem (gk_as_mem (ρ := ρ) hl)
  exact lv_iinc (k := q) C.1.1 C.1.2.1 hd hL.has hq hv hn rfl (fun ls' h' => kk p l e R s m args below meth c cells slots Q D T ρ A C E H locs ls' hH hS (gk_LR.st1 (v := gk_I v) hk hL' h'))
theorem gk_iadd {x y : Int32} (hd : decode cc pc = .ok (.iadd, 1)) (k : gk_G own cc nL d ret SL K (pc + 1) (L) (gk_I (x + y) :: st) (M)) : gk_G own cc nL d ret SL K (pc) (L) (gk_I y :: gk_I x :: st) (M) := fun p l e R s m args below meth c cells slots Q D T ρ A C E H locs ls hH hS hL => lv_iadd C.1.1 C.1.2.1 hd (k p l e R s m args below meth c cells slots Q D T ρ A C E H locs ls hH hS hL)
theorem gk_isub {x y : Int32} (hd : decode cc pc = .ok (.isub, 1)) (k : gk_G own cc nL d ret SL K (pc + 1) (L) (gk_I (x - y) :: st) (M)) : gk_G own cc nL d ret SL K (pc) (L) (gk_I y :: gk_I x :: st) (M) := fun p l e R s m args below meth c cells slots Q D T ρ A C E H locs ls hH hS hL => lv_isub C.1.1 C.1.2.1 hd (k p l e R s m args below meth c cells slots Q D T ρ A C E H locs ls hH hS hL)
theorem gk_imul {x y : Int32} (hd : decode cc pc = .ok (.imul, 1)) (k : gk_G own cc nL d ret SL K (pc + 1) (L) (gk_I (x * y) :: st) (M)) : gk_G own cc nL d ret SL K (pc) (L) (gk_I y :: gk_I x :: st) (M) := fun p l e R s m args below meth c cells slots Q D T ρ A C E H locs ls hH hS hL => lv_imul C.1.1 C.1.2.1 hd (k p l e R s m args below meth c cells slots Q D T ρ A C E H locs ls hH hS hL)
theorem gk_iand {x y : Int32} (hd : decode cc pc = .ok (.iand, 1)) (k : gk_G own cc nL d ret SL K (pc + 1) (L) (gk_I (x &&& y) :: st) (M)) : gk_G own cc nL d ret SL K (pc) (L) (gk_I y :: gk_I x :: st) (M) := fun p l e R s m args below meth c cells slots Q D T ρ A C E H locs ls hH hS hL => lv_iand C.1.1 C.1.2.1 hd (k p l e R s m args below meth c cells slots Q D T ρ A C E H locs ls hH hS hL)
theorem gk_ior {x y : Int32} (hd : decode cc pc = .ok (.ior, 1)) (k : gk_G own cc nL d ret SL K (pc + 1) (L) (gk_I (x ||| y) :: st) (M)) : gk_G own cc nL d ret SL K (pc) (L) (gk_I y :: gk_I x :: st) (M) := fun p l e R s m args below meth c cells slots Q D T ρ A C E H locs ls hH hS hL => lv_ior C.1.1 C.1.2.1 hd (k p l e R s m args below meth c cells slots Q D T ρ A C E H locs ls hH hS hL)
theorem gk_ixor {x y : Int32} (hd : decode cc pc = .ok (.ixor, 1)) (k : gk_G own cc nL d ret SL K (pc + 1) (L) (gk_I (x ^^^ y) :: st) (M)) : gk_G own cc nL d ret SL K (pc) (L) (gk_I y :: gk_I x :: st) (M) := fun p l e R s m args below meth c cells slots Q D T ρ A C E H locs ls hH hS hL => lv_ixor C.1.1 C.1.2.1 hd (k p l e R s m args below meth c cells slots Q D T ρ A C E H locs ls hH hS hL)
theorem gk_ishl {x y : Int32} (hd : decode cc pc = .ok (.ishl, 1)) (k : gk_G own cc nL d ret SL K (pc + 1) (L) (gk_I (x <<< (y &&& 31)) :: st) (M)) : gk_G own cc nL d ret SL K (pc) (L) (gk_I y :: gk_I x :: st) (M) := fun p l e R s m args below meth c cells slots Q D T ρ A C E H locs ls hH hS hL => lv_ishl C.1.1 C.1.2.1 hd (k p l e R s m args below meth c cells slots Q D T ρ A C E H locs ls hH hS hL)
theorem gk_ishr {x y : Int32} (hd : decode cc pc = .ok (.ishr, 1)) (k : gk_G own cc nL d ret SL K (pc + 1) (L) (gk_I (x >>> (y &&& 31)) :: st) (M)) : gk_G own cc nL d ret SL K (pc) (L) (gk_I y :: gk_I x :: st) (M) := fun p l e R s m args below meth c cells slots Q D T ρ A C E H locs ls hH hS hL => lv_ishr C.1.1 C.1.2.1 hd (k p l e R s m args below meth c cells slots Q D T ρ A C E H locs ls hH hS hL)
theorem gk_ladd {x y : Int64} (hd : decode cc pc = .ok (.ladd, 1)) (k : gk_G own cc nL d ret SL K (pc + 1) (L) (gk_L (x + y) :: st) (M)) : gk_G own cc nL d ret SL K (pc) (L) (gk_L y :: gk_L x :: st) (M) := fun p l e R s m args below meth c cells slots Q D T ρ A C E H locs ls hH hS hL => lv_ladd C.1.1 C.1.2.1 hd (k p l e R s m args below meth c cells slots Q D T ρ A C E H locs ls hH hS hL)
theorem gk_lsub {x y : Int64} (hd : decode cc pc = .ok (.lsub, 1)) (k : gk_G own cc nL d ret SL K (pc + 1) (L) (gk_L (x - y) :: st) (M)) : gk_G own cc nL d ret SL K (pc) (L) (gk_L y :: gk_L x :: st) (M) := fun p l e R s m args below meth c cells slots Q D T ρ A C E H locs ls hH hS hL => lv_lsub C.1.1 C.1.2.1 hd (k p l e R s m args below meth c cells slots Q D T ρ A C E H locs ls hH hS hL)
theorem gk_lmul {x y : Int64} (hd : decode cc pc = .ok (.lmul, 1)) (k : gk_G own cc nL d ret SL K (pc + 1) (L) (gk_L (x * y) :: st) (M)) : gk_G own cc nL d ret SL K (pc) (L) (gk_L y :: gk_L x :: st) (M) := fun p l e R s m args below meth c cells slots Q D T ρ A C E H locs ls hH hS hL => lv_lmul C.1.1 C.1.2.1 hd (k p l e R s m args below meth c cells slots Q D T ρ A C E H locs ls hH hS hL)
theorem gk_lcmp {x y : Int64} (hd : decode cc pc = .ok (.lcmp, 1)) (k : gk_G own cc nL d ret SL K (pc + 1) (L) (gk_I (lg_cmp x y) :: st) (M)) : gk_G own cc nL d ret SL K (pc) (L) (gk_L y :: gk_L x :: st) (M) := fun p l e R s m args below meth c cells slots Q D T ρ A C E H locs ls hH hS hL => W.lcmp C.1.1 C.1.2.1 hd (k p l e R s m args below meth c cells slots Q D T ρ A C E H locs ls hH hS hL)
theorem gk_ineg {x : Int32} (hd : decode cc pc = .ok (.ineg, 1)) (k : gk_G own cc nL d ret SL K (pc + 1) (L) (gk_I (-x) :: st) (M)) : gk_G own cc nL d ret SL K (pc) (L) (gk_I x :: st) (M) := fun p l e R s m args below meth c cells slots Q D T ρ A C E H locs ls hH hS hL => lv_ineg C.1.1 C.1.2.1 hd (k p l e R s m args below meth c cells slots Q D T ρ A C E H locs ls hH hS hL)
theorem gk_i2l {x : Int32} (hd : decode cc pc = .ok (.i2l, 1)) (k : gk_G own cc nL d ret SL K (pc + 1) (L) (gk_L x.toInt64 :: st) (M)) : gk_G own cc nL d ret SL K (pc) (L) (gk_I x :: st) (M) := fun p l e R s m args below meth c cells slots Q D T ρ A C E H locs ls hH hS hL => lv_i2l C.1.1 C.1.2.1 hd rfl (k p l e R s m args below meth c cells slots Q D T ρ A C E H locs ls hH hS hL)
theorem gk_idiv {x y : Int32} (hd : decode cc pc = .ok (.idiv, 1)) (hy : ¬ y = 0) (k : gk_G own cc nL d ret SL K (pc + 1) (L) (gk_I (x / y) :: st) (M)) : gk_G own cc nL d ret SL K (pc) (L) (gk_I y :: gk_I x :: st) (M) := fun p l e R s m args below meth c cells slots Q D T ρ A C E H locs ls hH hS hL => lv_idiv C.1.1 C.1.2.1 hd hy (k p l e R s m args below meth c cells slots Q D T ρ A C E H locs ls hH hS hL)
theorem gk_idiv_g {x y : Int32} (hd : decode cc pc = .ok (.idiv, 1)) (h : gk_Sat ι (gk_gd (gk_nz y) X) K) (k : gk_Sat ι X K → gk_G own cc nL d ret SL K (pc + 1) (L) (gk_I (x / y) :: st) (M)) : gk_G own cc nL d ret SL K (pc) (L) (gk_I y :: gk_I x :: st) (M) := gk_idiv hd (gk_nz_ne h.gd.1) (k h.gd.2)
theorem gk_irem {x y : Int32} (hd : decode cc pc = .ok (.irem, 1)) (hy : ¬ y = 0) (k : gk_G own cc nL d ret SL K (pc + 1) (L) (gk_I (x - x / y * y) :: st) (M)) : gk_G own cc nL d ret SL K (pc) (L) (gk_I y :: gk_I x :: st) (M) := fun p l e R s m args below meth c cells slots Q D T ρ A C E H locs ls hH hS hL => lv_irem C.1.1 C.1.2.1 hd hy (k p l e R s m args below meth c cells slots Q D T ρ A C E H locs ls hH hS hL)
theorem gk_irem_g {x y : Int32} (hd : decode cc pc = .ok (.irem, 1)) (h : gk_Sat ι (gk_gd (gk_nz y) X) K) (k : gk_Sat ι X K → gk_G own cc nL d ret SL K (pc + 1) (L) (gk_I (x - x / y * y) :: st) (M)) : gk_G own cc nL d ret SL K (pc) (L) (gk_I y :: gk_I x :: st) (M) := gk_irem hd (gk_nz_ne h.gd.1) (k h.gd.2)
theorem gk_dup {v : gk_V} (hd : decode cc pc = .ok (.dup, 1)) (hv : gk_is2 v = false) (k : gk_G own cc nL d ret SL K (pc + 1) (L) (v :: v :: st) (M)) : gk_G own cc nL d ret SL K (pc) (L) (v :: st) (M) := fun p l e R s m args below meth c cells slots Q D T ρ A C E H locs ls hH hS hL => lv_dup C.1.1 C.1.2.1 hd (gk_cat1 hv) (k p l e R s m args below meth c cells slots Q D T ρ A C E H locs ls hH hS hL)
theorem gk_pop {v : gk_V} (hd : decode cc pc = .ok (.pop, 1)) (hv : gk_is2 v = false) (k : gk_G own cc nL d ret SL K (pc + 1) (L) (st) (M)) : gk_G own cc nL d ret SL K (pc) (L) (v :: st) (M) := fun p l e R s m args below meth c cells slots Q D T ρ A C E H locs ls hH hS hL => lv_pop C.1.1 C.1.2.1 hd (gk_cat1 hv) (k p l e R s m args below meth c cells slots Q D T ρ A C E H locs ls hH hS hL)
theorem gk_dup2 {v w : gk_V} (hd : decode cc pc = .ok (.dup2, 1)) (hv : gk_is2 v = false) (hw : gk_is2 w = false) (k : gk_G own cc nL d ret SL K (pc + 1) (L) (v :: w :: v :: w :: st) (M)) : gk_G own cc nL d ret SL K (pc) (L) (v :: w :: st) (M) := fun p l e R s m args below meth c cells slots Q D T ρ A C E H locs ls hH hS hL => lv_dup2_11 C.1.1 C.1.2.1 hd (gk_cat1 hv) (gk_cat1 hw) (k p l e R s m args below meth c cells slots Q D T ρ A C E H locs ls hH hS hL)
theorem gk_if_eq {x : Int32} {off : Int} {tgt : Nat} (hd : decode cc pc = .ok (.ifCond .eq off, 3)) (ht : (pc : Int) + off = (tgt : Int)) (h : gk_Sat ι (if x = 0 then X else Y) K) (kt : gk_Sat ι X K → gk_G own cc nL d ret SL K (tgt) (L) (st) (M)) (kf : gk_Sat ι Y K → gk_G own cc nL d ret SL K (pc + 3) (L) (st) (M)) : gk_G own cc nL d ret SL K (pc) (L) (gk_I x :: st) (M) := fun p l e R s m args below meth c cells slots Q D T ρ A C E H locs ls hH hS hL => lv_if_eq C.1.1 C.1.2.1 hd ht (fun z => kt (h.ite.1 (by simpa using z)) p l e R s m args below meth c cells slots Q D T ρ A C E H locs ls hH hS hL) (fun z => kf (h.ite.2 (by simpa using z)) p l e R s m args below meth c cells slots Q D T ρ A C E H locs ls hH hS hL)
theorem gk_icmp_eq {x y : Int32} {off : Int} {tgt : Nat} (hd : decode cc pc = .ok (.if_icmp .eq off, 3)) (ht : (pc : Int) + off = (tgt : Int)) (h : gk_Sat ι (if x = y then X else Y) K) (kt : gk_Sat ι X K → gk_G own cc nL d ret SL K (tgt) (L) (st) (M)) (kf : gk_Sat ι Y K → gk_G own cc nL d ret SL K (pc + 3) (L) (st) (M)) : gk_G own cc nL d ret SL K (pc) (L) (gk_I y :: gk_I x :: st) (M) := fun p l e R s m args below meth c cells slots Q D T ρ A C E H locs ls hH hS hL => lv_icmp_eq C.1.1 C.1.2.1 hd ht (fun z => kt (h.ite.1 (by simpa using z)) p l e R s m args below meth c cells slots Q D T ρ A C E H locs ls hH hS hL) (fun z => kf (h.ite.2 (by simpa using z)) p l e R s m args below meth c cells slots Q D T ρ A C E H locs ls hH hS hL)
theorem gk_if_ne {x : Int32} {off : Int} {tgt : Nat} (hd : decode cc pc = .ok (.ifCond .ne off, 3)) (ht : (pc : Int) + off = (tgt : Int)) (h : gk_Sat ι (if ¬ x = 0 then X else Y) K) (kt : gk_Sat ι X K → gk_G own cc nL d ret SL K (tgt) (L) (st) (M)) (kf : gk_Sat ι Y K → gk_G own cc nL d ret SL K (pc + 3) (L) (st) (M)) : gk_G own cc nL d ret SL K (pc) (L) (gk_I x :: st) (M) := fun p l e R s m args below meth c cells slots Q D T ρ A C E H locs ls hH hS hL => lv_if_ne C.1.1 C.1.2.1 hd ht (fun z => kt (h.ite.1 (by simpa using z)) p l e R s m args below meth c cells slots Q D T ρ A C E H locs ls hH hS hL) (fun z => kf (h.ite.2 (by simpa using z)) p l e R s m args below meth c cells slots Q D T ρ A C E H locs ls hH hS hL)
theorem gk_icmp_ne {x y : Int32} {off : Int} {tgt : Nat} (hd : decode cc pc = .ok (.if_icmp .ne off, 3)) (ht : (pc : Int) + off = (tgt : Int)) (h : gk_Sat ι (if ¬ x = y then X else Y) K) (kt : gk_Sat ι X K → gk_G own cc nL d ret SL K (tgt) (L) (st) (M)) (kf : gk_Sat ι Y K → gk_G own cc nL d ret SL K (pc + 3) (L) (st) (M)) : gk_G own cc nL d ret SL K (pc) (L) (gk_I y :: gk_I x :: st) (M) := fun p l e R s m args below meth c cells slots Q D T ρ A C E H locs ls hH hS hL => lv_icmp_ne C.1.1 C.1.2.1 hd ht (fun z => kt (h.ite.1 (by simpa using z)) p l e R s m args below meth c cells slots Q D T ρ A C E H locs ls hH hS hL) (fun z => kf (h.ite.2 (by simpa using z)) p l e R s m args below meth c cells slots Q D T ρ A C E H locs ls hH hS hL)
theorem gk_if_lt {x : Int32} {off : Int} {tgt : Nat} (hd : decode cc pc = .ok (.ifCond .lt off, 3)) (ht : (pc : Int) + off = (tgt : Int)) (h : gk_Sat ι (if x < 0 then X else Y) K) (kt : gk_Sat ι X K → gk_G own cc nL d ret SL K (tgt) (L) (st) (M)) (kf : gk_Sat ι Y K → gk_G own cc nL d ret SL K (pc + 3) (L) (st) (M)) : gk_G own cc nL d ret SL K (pc) (L) (gk_I x :: st) (M) := fun p l e R s m args below meth c cells slots Q D T ρ A C E H locs ls hH hS hL => lv_if_lt C.1.1 C.1.2.1 hd ht (fun z => kt (h.ite.1 (by simpa using z)) p l e R s m args below meth c cells slots Q D T ρ A C E H locs ls hH hS hL) (fun z => kf (h.ite.2 (by simpa using z)) p l e R s m args below meth c cells slots Q D T ρ A C E H locs ls hH hS hL)
theorem gk_icmp_lt {x y : Int32} {off : Int} {tgt : Nat} (hd : decode cc pc = .ok (.if_icmp .lt off, 3)) (ht : (pc : Int) + off = (tgt : Int)) (h : gk_Sat ι (if x < y then X else Y) K) (kt : gk_Sat ι X K → gk_G own cc nL d ret SL K (tgt) (L) (st) (M)) (kf : gk_Sat ι Y K → gk_G own cc nL d ret SL K (pc + 3) (L) (st) (M)) : gk_G own cc nL d ret SL K (pc) (L) (gk_I y :: gk_I x :: st) (M) := fun p l e R s m args below meth c cells slots Q D T ρ A C E H locs ls hH hS hL => lv_icmp_lt C.1.1 C.1.2.1 hd ht (fun z => kt (h.ite.1 (by simpa using z)) p l e R s m args below meth c cells slots Q D T ρ A C E H locs ls hH hS hL) (fun z => kf (h.ite.2 (by simpa using z)) p l e R s m args below meth c cells slots Q D T ρ A C E H locs ls hH hS hL)
theorem gk_if_ge {x : Int32} {off : Int} {tgt : Nat} (hd : decode cc pc = .ok (.ifCond .ge off, 3)) (ht : (pc : Int) + off = (tgt : Int)) (h : gk_Sat ι (if 0 ≤ x then X else Y) K) (kt : gk_Sat ι X K → gk_G own cc nL d ret SL K (tgt) (L) (st) (M)) (kf : gk_Sat ι Y K → gk_G own cc nL d ret SL K (pc + 3) (L) (st) (M)) : gk_G own cc nL d ret SL K (pc) (L) (gk_I x :: st) (M) := fun p l e R s m args below meth c cells slots Q D T ρ A C E H locs ls hH hS hL => lv_if_ge C.1.1 C.1.2.1 hd ht (fun z => kt (h.ite.1 (by simpa using z)) p l e R s m args below meth c cells slots Q D T ρ A C E H locs ls hH hS hL) (fun z => kf (h.ite.2 (by simpa using z)) p l e R s m args below meth c cells slots Q D T ρ A C E H locs ls hH hS hL)
theorem gk_icmp_ge {x y : Int32} {off : Int} {tgt : Nat} (hd : decode cc pc = .ok (.if_icmp .ge off, 3)) (ht : (pc : Int) + off = (tgt : Int)) (h : gk_Sat ι (if y ≤ x then X else Y) K) (kt : gk_Sat ι X K → gk_G own cc nL d ret SL K (tgt) (L) (st) (M)) (kf : gk_Sat ι Y K → gk_G own cc nL d ret SL K (pc + 3) (L) (st) (M)) : gk_G own cc nL d ret SL K (pc) (L) (gk_I y :: gk_I x :: st) (M) := fun p l e R s m args below meth c cells slots Q D T ρ A C E H locs ls hH hS hL => lv_icmp_ge C.1.1 C.1.2.1 hd ht (fun z => kt (h.ite.1 (by simpa using z)) p l e R s m args below meth c cells slots Q D T ρ A C E H locs ls hH hS hL) (fun z => kf (h.ite.2 (by simpa using z)) p l e R s m args below meth c cells slots Q D T ρ A C E H locs ls hH hS hL)
theorem gk_if_gt {x : Int32} {off : Int} {tgt : Nat} (hd : decode cc pc = .ok (.ifCond .gt off, 3)) (ht : (pc : Int) + off = (tgt : Int)) (h : gk_Sat ι (if 0 < x then X else Y) K) (kt : gk_Sat ι X K → gk_G own cc nL d ret SL K (tgt) (L) (st) (M)) (kf : gk_Sat ι Y K → gk_G own cc nL d ret SL K (pc + 3) (L) (st) (M)) : gk_G own cc nL d ret SL K (pc) (L) (gk_I x :: st) (M) := fun p l e R s m args below meth c cells slots Q D T ρ A C E H locs ls hH hS hL => lv_if_gt C.1.1 C.1.2.1 hd ht (fun z => kt (h.ite.1 (by simpa using z)) p l e R s m args below meth c cells slots Q D T ρ A C E H locs ls hH hS hL) (fun z => kf (h.ite.2 (by simpa using z)) p l e R s m args below meth c cells slots Q D T ρ A C E H locs ls hH hS hL)
theorem gk_icmp_gt {x y : Int32} {off : Int} {tgt : Nat} (hd : decode cc pc = .ok (.if_icmp .gt off, 3)) (ht : (pc : Int) + off = (tgt : Int)) (h : gk_Sat ι (if y < x then X else Y) K) (kt : gk_Sat ι X K → gk_G own cc nL d ret SL K (tgt) (L) (st) (M)) (kf : gk_Sat ι Y K → gk_G own cc nL d ret SL K (pc + 3) (L) (st) (M)) : gk_G own cc nL d ret SL K (pc) (L) (gk_I y :: gk_I x :: st) (M) := fun p l e R s m args below meth c cells slots Q D T ρ A C E H locs ls hH hS hL => lv_icmp_gt C.1.1 C.1.2.1 hd ht (fun z => kt (h.ite.1 (by simpa using z)) p l e R s m args below meth c cells slots Q D T ρ A C E H locs ls hH hS hL) (fun z => kf (h.ite.2 (by simpa using z)) p l e R s m args below meth c cells slots Q D T ρ A C E H locs ls hH hS hL)
theorem gk_if_le {x : Int32} {off : Int} {tgt : Nat} (hd : decode cc pc = .ok (.ifCond .le off, 3)) (ht : (pc : Int) + off = (tgt : Int)) (h : gk_Sat ι (if x ≤ 0 then X else Y) K) (kt : gk_Sat ι X K → gk_G own cc nL d ret SL K (tgt) (L) (st) (M)) (kf : gk_Sat ι Y K → gk_G own cc nL d ret SL K (pc + 3) (L) (st) (M)) : gk_G own cc nL d ret SL K (pc) (L) (gk_I x :: st) (M) := fun p l e R s m args below meth c cells slots Q D T ρ A C E H locs ls hH hS hL => lv_if_le C.1.1 C.1.2.1 hd ht (fun z => kt (h.ite.1 (by simpa using z)) p l e R s m args below meth c cells slots Q D T ρ A C E H locs ls hH hS hL) (fun z => kf (h.ite.2 (by simpa using z)) p l e R s m args below meth c cells slots Q D T ρ A C E H locs ls hH hS hL)
theorem gk_icmp_le {x y : Int32} {off : Int} {tgt : Nat} (hd : decode cc pc = .ok (.if_icmp .le off, 3)) (ht : (pc : Int) + off = (tgt : Int)) (h : gk_Sat ι (if x ≤ y then X else Y) K) (kt : gk_Sat ι X K → gk_G own cc nL d ret SL K (tgt) (L) (st) (M)) (kf : gk_Sat ι Y K → gk_G own cc nL d ret SL K (pc + 3) (L) (st) (M)) : gk_G own cc nL d ret SL K (pc) (L) (gk_I y :: gk_I x :: st) (M) := fun p l e R s m args below meth c cells slots Q D T ρ A C E H locs ls hH hS hL => lv_icmp_le C.1.1 C.1.2.1 hd ht (fun z => kt (h.ite.1 (by simpa using z)) p l e R s m args below meth c cells slots Q D T ρ A C E H locs ls hH hS hL) (fun z => kf (h.ite.2 (by simpa using z)) p l e R s m args below meth c cells slots Q D T ρ A C E H locs ls hH hS hL)
theorem gk_goto {off : Int} {tgt : Nat} (hd : decode cc pc = .ok (.goto off, 3)) (ht : (pc : Int) + off = (tgt : Int)) (k : gk_G own cc nL d ret SL K (tgt) (L) (st) (M)) : gk_G own cc nL d ret SL K (pc) (L) (st) (M) := fun p l e R s m args below meth c cells slots Q D T ρ A C E H locs ls hH hS hL => lv_goto C.1.1 C.1.2.1 hd ht (k p l e R s m args below meth c cells slots Q D T ρ A C E H locs ls hH hS hL)
theorem gk_tabIn {dflt lo hi : Int} {offs : Array Int} {len : Nat} {x : Int32} {off : Int} {tgt : Nat} (hd : decode cc pc = .ok (.tableswitch dflt lo hi offs, len)) (v : Int32) (hx : x = v) (h1 : ¬ v.toInt < lo) (h2 : ¬ hi < v.toInt) (ho : offs[(v.toInt - lo).toNat]? = some off) (ht : (pc : Int) + off = (tgt : Int)) (k : gk_G own cc nL d ret SL K (tgt) (L) (st) (M)) : gk_G own cc nL d ret SL K (pc) (L) (gk_I x :: st) (M) := by
  subst hx
  exact fun p l e R s m args below meth c cells slots Q D T ρ A C E H locs ls hH hS hL => lv_tableIn C.1.1 C.1.2.1 hd h1 h2 ho ht (k p l e R s m args below meth c cells slots Q D T ρ A C E H locs ls hH hS hL)
theorem gk_tabOut {dflt lo hi : Int} {offs : Array Int} {len : Nat} {x : Int32} {tgt : Nat} (hd : decode cc pc = .ok (.tableswitch dflt lo hi offs, len)) (h1 : x.toInt < lo ∨ hi < x.toInt) (ht : (pc : Int) + dflt = (tgt : Int)) (k : gk_G own cc nL d ret SL K (tgt) (L) (st) (M)) : gk_G own cc nL d ret SL K (pc) (L) (gk_I x :: st) (M) := fun p l e R s m args below meth c cells slots Q D T ρ A C E H locs ls hH hS hL => lv_tableOut C.1.1 C.1.2.1 hd h1 ht (k p l e R s m args below meth c cells slots Q D T ρ A C E H locs ls hH hS hL)
theorem gk_lookup {dflt : Int} {ps : Array (Int × Int)} {len : Nat} {x : Int32} {off : Int} {tgt : Nat} (hd : decode cc pc = .ok (.lookupswitch dflt ps, len)) (hp : (ps.toList.zip (ps.toList.drop 1)).all (fun (a, next) => a.1 < next.1) = true) (ho : Op.lookupswitch.offset ps.toList dflt x.toInt = off) (ht : (pc : Int) + off = (tgt : Int)) (k : gk_G own cc nL d ret SL K (tgt) (L) (st) (M)) : gk_G own cc nL d ret SL K (pc) (L) (gk_I x :: st) (M) := fun p l e R s m args below meth c cells slots Q D T ρ A C E H locs ls hH hS hL => lv_lookup C.1.1 C.1.2.1 hd hp ho ht (k p l e R s m args below meth c cells slots Q D T ρ A C E H locs ls hH hS hL)
theorem gk_iret {r : Int32} (hd : decode cc pc = .ok (.ireturn, 1)) (hr : ret = some .int) (h : gk_Sat gk_I (some (r, M)) K) : gk_G own cc nL d ret SL K (pc) (L) ([gk_I r]) (M) := by
  intro p l e R s m args below meth c cells slots Q D T ρ A C E H locs ls hH hS hL
  obtain ⟨r', M', he, hK⟩ := h
  cases he
  subst hr
  exact E (gk_I r) M H locs ls pc hK hH hS hd
theorem gk_zret {r : Int32} (hd : decode cc pc = .ok (.ireturn, 1)) (hr : ret = some .boolean) (h : gk_Sat gk_I (gk_gd (gk_b r) (some (r, M))) K) : gk_G own cc nL d ret SL K (pc) (L) ([gk_I r]) (M) := by
  intro p l e R s m args below meth c cells slots Q D T ρ A C E H locs ls hH hS hL
  obtain ⟨hb, r', M', he, hK⟩ := h.gd
  cases he
  subst hr
  exact E (gk_I r) M H locs ls pc hK hH hS ⟨hd, gk_b_or hb⟩
theorem gk_lret {r : Int64} (hd : decode cc pc = .ok (.lreturn, 1)) (hr : ret = some .long) (h : gk_Sat gk_L (some (r, M)) K) : gk_G own cc nL d ret SL K (pc) (L) ([gk_L r]) (M) := by
  intro p l e R s m args below meth c cells slots Q D T ρ A C E H locs ls hH hS hL
  obtain ⟨r', M', he, hK⟩ := h
  cases he
  subst hr
  exact E (gk_L r) M H locs ls pc hK hH hS hd
theorem gk_vret (hd : decode cc pc = .ok (.return_, 1)) (hr : ret = none) (h : gk_Sat gk_U (some ((), M)) K) : gk_G own cc nL d ret SL K (pc) (L) ([]) (M) := by
  intro p l e R s m args below meth c cells slots Q D T ρ A C E H locs ls hH hS hL
  obtain ⟨r', M', he, hK⟩ := h
  cases he
  subst hr
  exact E (gk_I 0) M H locs ls pc hK hH hS ⟨hd, rfl⟩
theorem gk_iald {c0 i0 n : Nat} {j : Int32} (hE : ∀ (T : gk_T) (ρ : Nat → Nat → Nat) (M : gk_M) (i : Nat), gk_E T ρ M c0 i = .inl (T.1, n, .inl (M c0 i))) (hi : i0 < gk_cnt c0) (hd : decode cc pc = .ok (.iaload, 1)) (h : gk_Sat ι (gk_gd (gk_in j n) X) K) (k : gk_Sat ι X K → j.toNatClampNeg < n → gk_G own cc nL d ret SL K (pc + 1) (L) (gk_I (M c0 i0 j.toNatClampNeg) :: st) (M)) : gk_G own cc nL d ret SL K (pc) (L) (gk_I j :: gk_R c0 i0 :: st) (M) := by
  intro p l e R s m args below meth c cells slots Q D T ρ A C E H locs ls hH hS hL
  obtain ⟨hb, h⟩ := h.gd
  obtain ⟨h1, h2⟩ := gk_in_vp hb
  have hP : va_P D vwCl [(ρ c0 i0, gk_E T ρ M c0 i0)] H := fun q w hq => by
    have := List.mem_of_getElem? hq
    simp only [List.mem_singleton] at this
    subst this
    exact hH c0 i0 hi
  rw [hE] at hP
  exact va_iald C.1.1 C.1.2.1 C.2.1 hP 0 0 rfl rfl h1 hd (k h h2 p l e R s m args below meth c cells slots Q D T ρ A C E H locs ls hH hS hL)
theorem gk_iast {c0 i0 n : Nat} {j x : Int32} {F : gk_M → Option (α × gk_M)} (hE : ∀ (T : gk_T) (ρ : Nat → Nat → Nat) (M : gk_M) (i : Nat), gk_E T ρ M c0 i = .inl (T.1, n, .inl (M c0 i))) (hi : i0 < gk_cnt c0) (hd : decode cc pc = .ok (.iastore, 1)) (h : gk_Sat ι (gk_gd (gk_in j n) (gk_wr M c0 i0 j.toNatClampNeg x F)) K) (k : ∀ M' : gk_M, gk_Sat ι (F M') K → gk_G own cc nL d ret SL K (pc + 1) (L) (st) (M')) : gk_G own cc nL d ret SL K (pc) (L) (gk_I x :: gk_I j :: gk_R c0 i0 :: st) (M) := by
  intro p l e R s m args below meth c cells slots Q D T ρ A C E H locs ls hH hS hL
  obtain ⟨hb, h⟩ := h.gd
  obtain ⟨h1, h2⟩ := gk_in_vp hb
  obtain ⟨q, hq, hw⟩ := gk_at T ρ M hi
  rw [hE] at hw
  exact va_iast C.1.1 C.1.2.1 C.2.1 hH.P (gk_D C.2.2.1 C.2.2.2.1) hS q 0 hw rfl h1 hd (fun H1 locs1 hP1 _ hS1 => k (gk_up M c0 i0 j.toNatClampNeg x) h p l e R s m args below meth c cells slots Q D T ρ A C E H1 locs1 ls (gk_H.of_set hi hq hP1 (by rw [hE, gk_up_self]) (fun _ _ z => gk_up_ne z)) hS1 hL)
theorem gk_aald {c0 i0 n c1 : Nat} {f : Nat → Nat → Nat} {g : gk_T → ClassId} {CN : String} {t0 : Nat} {j : Int32} (hE : ∀ (T : gk_T) (ρ : Nat → Nat → Nat) (M : gk_M) (i : Nat), gk_E T ρ M c0 i = .inl (g T, n, .inr (.inr (.inr (.inr (fun j => some (ρ c1 (f i j)))))))) (ht : ∀ T : gk_T, (gk_tys T)[t0]? = some (g T, .object CN)) (hi : i0 < gk_cnt c0) (hd : decode cc pc = .ok (.aaload, 1)) (h : gk_Sat ι (gk_gd (gk_in j n) X) K) (k : gk_Sat ι X K → j.toNatClampNeg < n → gk_G own cc nL d ret SL K (pc + 1) (L) (gk_R c1 (f i0 j.toNatClampNeg) :: st) (M)) : gk_G own cc nL d ret SL K (pc) (L) (gk_I j :: gk_R c0 i0 :: st) (M) := by
  intro p l e R s m args below meth c cells slots Q D T ρ A C E H locs ls hH hS hL
  obtain ⟨hb, h⟩ := h.gd
  obtain ⟨h1, h2⟩ := gk_in_vp hb
  have hP : va_P D vwCl [(ρ c0 i0, gk_E T ρ M c0 i0)] H := fun q w hq => by
    have := List.mem_of_getElem? hq
    simp only [List.mem_singleton] at this
    subst this
    exact hH c0 i0 hi
  rw [hE] at hP
  exact va_aldq C.1.1 C.1.2.1 C.2.1 hP 0 t0 rfl (ht T) h1 hd (k h h2 p l e R s m args below meth c cells slots Q D T ρ A C E H locs ls hH hS hL)
theorem gk_sld {Ls : Nat} {xs : Nat → Int32} {j : Int32} (hSL : SL = some (Ls, xs)) (hd : decode cc pc = .ok (.iaload, 1)) (h : gk_Sat ι (gk_gd (gk_in j Ls) X) K) (k : gk_Sat ι X K → j.toNatClampNeg < Ls → gk_G own cc nL d ret SL K (pc + 1) (L) (gk_I (xs j.toNatClampNeg) :: st) (M)) : gk_G own cc nL d ret SL K (pc) (L) (gk_I j :: gk_R 23 0 :: st) (M) := by
  intro p l e R s m args below meth c cells slots Q D T ρ A C E H locs ls hH hS hL
  obtain ⟨hb, h⟩ := h.gd
  obtain ⟨h1, h2⟩ := gk_in_vp hb
  obtain ⟨a1, a2, a3⟩ := C.2.2.2.2.2.2 Ls xs hSL
  exact va_sld C.1.1 C.1.2.1 a1 a2 a3 hS h1 hd (k h h2 p l e R s m args below meth c cells slots Q D T ρ A C E H locs ls hH hS hL)
theorem gk_slen {Ls : Nat} {xs : Nat → Int32} (hSL : SL = some (Ls, xs)) (hd : decode cc pc = .ok (.arraylength, 1)) (k : gk_G own cc nL d ret SL K (pc + 1) (L) (gk_I (Int32.ofNat Ls) :: st) (M)) : gk_G own cc nL d ret SL K (pc) (L) (gk_R 23 0 :: st) (M) := by
  intro p l e R s m args below meth c cells slots Q D T ρ A C E H locs ls hH hS hL
  obtain ⟨a1, a2, a3⟩ := C.2.2.2.2.2.2 Ls xs hSL
  exact va_slen C.1.1 C.1.2.1 a1 a2 a3 hS hd (k p l e R s m args below meth c cells slots Q D T ρ A C E H locs ls hH hS hL)
/-- a field's reference: class own, entry idx, is slot j of the objects of kind c0 -/
def gk_FR (own : String) (idx c0 j : Nat) (ty : FieldType) (fin : Bool) : Prop := ∃ (C : String) (Tb : u_T) (N : Nat) (t0 : Nat → FieldType), (∀ w ∈ u_ws C Tb N, w ∈ gn_tbl) ∧ (∀ (T : gk_T) (ρ : Nat → Nat → Nat) (M : gk_M) (i : Nat), i < gk_cnt c0 → ∃ (ci : Nat) (fs : List Value), gk_E T ρ M c0 i = .inr (ci, fs) ∧ vwCl[ci]? = some (C, Tb, N) ∧ fs.length = N) ∧ j < N ∧ Cond.fieldLink own idx (Tb j).1 (Tb j).2.1 (Tb j).2.2.1 ∈ gn_tbl ∧ (∀ k, k < N → parseFieldDescriptor (Tb k).2.2.1 = some (t0 k)) ∧ (∀ a, a < N → ∀ b, b < N → a ≠ b → (Tb a).2.1 ≠ (Tb b).2.1) ∧ parseFieldDescriptor (Tb j).2.2.1 = some ty ∧ (Tb j).2.2.2 = fin
theorem gk_get {idx c0 i0 j : Nat} {ty : FieldType} {fin : Bool} {v : gk_V} (hF : gk_FR own idx c0 j ty fin) (hv : ∀ (T : gk_T) (ρ : Nat → Nat → Nat) (ci : Nat) (fs : List Value), gk_E T ρ M c0 i0 = .inr (ci, fs) → fs[j]? = some (gk_c ρ v)) (hi : i0 < gk_cnt c0) (hd : decode cc pc = .ok (.getfield idx, 3)) (k : gk_G own cc nL d ret SL K (pc + 3) (L) (v :: st) (M)) : gk_G own cc nL d ret SL K (pc) (L) (gk_R c0 i0 :: st) (M) := by
  intro p l e R s m args below meth c cells slots Q D T ρ A C E H locs ls hH hS hL
  obtain ⟨CN, Tb, N, t0, hin, hcl, hj, hlk, hty, hnm, hd2, hfin⟩ := hF
  obtain ⟨ci, fs, e1, e2, e3⟩ := hcl T ρ M i0 hi
  have hP : va_P D vwCl [(ρ c0 i0, gk_E T ρ M c0 i0)] H := fun q w hq => by
    have := List.mem_of_getElem? hq
    simp only [List.mem_singleton] at this
    subst this
    exact hH c0 i0 hi
  rw [e1] at hP
  exact va_get C.1.1 C.1.2.1 C.1.2.2.2.2 hin C.1.2.2.2.1 C.2.1 hP 0 rfl e2 j hj (C.1.2.2.2.2 _ hlk) (fun _ h => h) (hv T ρ ci fs e1) hd (k p l e R s m args below meth c cells slots Q D T ρ A C E H locs ls hH hS hL)
theorem gk_putV {idx c0 i0 j : Nat} {ty : FieldType} {v : gk_V} {M' : gk_M} (hF : gk_FR own idx c0 j ty false) (hM : ∀ c' i', ¬ (c' = c0 ∧ i' = i0) → M' c' i' = M c' i') (hE : ∀ (T : gk_T) (ρ : Nat → Nat → Nat) (ci : Nat) (fs : List Value), gk_E T ρ M c0 i0 = .inr (ci, fs) → gk_E T ρ M' c0 i0 = .inr (ci, fs.set j (gk_c ρ v))) (hi : i0 < gk_cnt c0) (hn : ∀ ρ, narrow ty (gk_c ρ v) = gk_c ρ v) (hf : ∀ ρ, fits ty (gk_c ρ v) = true) (hd : decode cc pc = .ok (.putfield idx, 3)) (k : gk_G own cc nL d ret SL K (pc + 3) (L) (st) (M')) : gk_G own cc nL d ret SL K (pc) (L) (v :: gk_R c0 i0 :: st) (M) := by
  intro p l e R s m args below meth c cells slots Q D T ρ A C E H locs ls hH hS hL
  obtain ⟨CN, Tb, N, t0, hin, hcl, hj, hlk, hty, hnm, hd2, hfin⟩ := hF
  obtain ⟨ci, fs, e1, e2, e3⟩ := hcl T ρ M i0 hi
  obtain ⟨q, hq, hw⟩ := gk_at T ρ M hi
  rw [e1] at hw
  exact va_put C.1.1 C.1.2.1 C.1.2.2.2.2 hin t0 hty hnm C.1.2.2.2.1 C.2.1 hH.P (gk_D C.2.2.1 C.2.2.2.1) hS q hw e2 j hj (C.1.2.2.2.2 _ hlk) (fun _ h => h) hfin hd2 (hn ρ) (hf ρ) (by rw [e3]; exact hj) hd (fun H1 locs1 hP1 _ hS1 => k p l e R s m args below meth c cells slots Q D T ρ A C E H1 locs1 ls (gk_H.of_set hi hq hP1 (hE T ρ ci fs e1).symm hM) hS1 hL)
/-- an int's slot in the cells of a kind: what an update does to the cell -/
def gk_SI (c0 j : Nat) : Prop := ∀ (T : gk_T) (ρ : Nat → Nat → Nat) (M : gk_M) (i : Nat) (ci : Nat) (fs : List Value), gk_E T ρ M c0 i = .inr (ci, fs) → fs[j]? = some (.int (M c0 i j)) ∧ ∀ v : Int32, gk_E T ρ (gk_up M c0 i j v) c0 i = .inr (ci, fs.set j (.int v))
theorem gk_getI {idx c0 i0 j : Nat} {ty : FieldType} {fin : Bool} (hF : gk_FR own idx c0 j ty fin) (hs : gk_SI c0 j) (hi : i0 < gk_cnt c0) (hd : decode cc pc = .ok (.getfield idx, 3)) (k : gk_G own cc nL d ret SL K (pc + 3) (L) (gk_I (M c0 i0 j) :: st) (M)) : gk_G own cc nL d ret SL K (pc) (L) (gk_R c0 i0 :: st) (M) :=
  gk_get (v := gk_I (M c0 i0 j)) hF (fun T ρ ci fs h => (hs T ρ M i0 ci fs h).1) hi hd k
theorem gk_putI {idx c0 i0 j : Nat} {x : Int32} {F : gk_M → Option (α × gk_M)} (hF : gk_FR own idx c0 j .int false) (hs : gk_SI c0 j) (hi : i0 < gk_cnt c0) (hd : decode cc pc = .ok (.putfield idx, 3)) (h : gk_Sat ι (gk_wr M c0 i0 j x F) K) (k : ∀ M' : gk_M, gk_Sat ι (F M') K → gk_G own cc nL d ret SL K (pc + 3) (L) (st) (M')) : gk_G own cc nL d ret SL K (pc) (L) (gk_I x :: gk_R c0 i0 :: st) (M) :=
  gk_putV (v := gk_I x) (M' := gk_up M c0 i0 j x) hF (fun _ _ z => gk_up_ne z) (fun T ρ ci fs e => (hs T ρ M i0 ci fs e).2 x) hi (fun _ => rfl) (fun _ => rfl) hd (k _ h)
theorem gk_putZ {idx c0 i0 j : Nat} {x : Int32} {F : gk_M → Option (α × gk_M)} (hF : gk_FR own idx c0 j .boolean false) (hs : gk_SI c0 j) (hi : i0 < gk_cnt c0) (hd : decode cc pc = .ok (.putfield idx, 3)) (h : gk_Sat ι (gk_gd (gk_b x) (gk_wr M c0 i0 j x F)) K) (k : ∀ M' : gk_M, gk_Sat ι (F M') K → gk_G own cc nL d ret SL K (pc + 3) (L) (st) (M')) : gk_G own cc nL d ret SL K (pc) (L) (gk_I x :: gk_R c0 i0 :: st) (M) :=
  gk_putV (v := gk_I x) (M' := gk_up M c0 i0 j x) hF (fun _ _ z => gk_up_ne z) (fun T ρ ci fs e => (hs T ρ M i0 ci fs e).2 x) hi (fun _ => (gk_b_narrow (gk_b_or h.gd.1)).1) (fun _ => (gk_b_narrow (gk_b_or h.gd.1)).2) hd (k _ h.gd.2)
end GKR
end
section
/-! METHODS: a contract out of a walk; calls -/
def gk_rm (d : Nat) : Room := { frames := d, cells := 0, slots := 0, locals := 36 * d }
def gk_rg (ρ : Nat → Nat → Nat) : Nat → Prop := fun q => ∃ c i : Nat, i < gk_cnt c ∧ q = ρ c i
def gk_Pc (D : va_G) (T : gk_T) (ρ : Nat → Nat → Nat) (As : List gk_V) (M : gk_M) : Array Value → State → Prop := fun v U => v = (As.map (gk_c ρ)).toArray ∧ gk_H D T ρ M U.heap ∧ va_K D vwCl (gk_tys T) U
def gk_Qc (D : va_G) (T : gk_T) (ρ : Nat → Nat → Nat) (ret : Option FieldType) (K : gk_V → gk_M → Prop) : Array Value → State → Outcome → State → Prop := fun _ st oc t => ∃ (v : gk_V) (M' : gk_M), oc = .returned (gk_ro ρ ret v) ∧ K v M' ∧ gk_H D T ρ M' t.heap ∧ va_F (gk_rg ρ) st t
def gk_MS (d : Nat) (y : MethodName) (b : ByteArray) (mL : Nat) (ret : Option FieldType) (As : List gk_V) (M : gk_M) (K : gk_V → gk_M → Prop) : Prop :=
  ∀ (l : Launch) (D : va_G) (T : gk_T) (ρ : Nat → Nat → Nat), gk_J ρ → Met l y (.code y b mL ret :: gn_tbl) (gk_rm d) (gk_Pc D T ρ As M) (gk_Qc D T ρ ret K) 0 0 (gk_rg ρ)
theorem gk_Pc.blind {D : va_G} {T : gk_T} {ρ : Nat → Nat → Nat} {As : List gk_V} {M : gk_M} : FrameBlind (gk_Pc D T ρ As M) := fun a U g mk q => ⟨q.1, q.2.1, va_K.moved (u := U) (U := U.calling g mk a) (Vm.Alike.refl U.vm) q.2.2⟩
theorem gk_LR.entry {ρ : Nat → Nat → Nat} {As : List gk_V} {n : Nat} {L : List (Option gk_V)} (hl : (gk_ent As).length ≤ n) (hL : gk_le L (gk_ent As ++ List.replicate (n - (gk_ent As).length) none)) : gk_LR ρ ((lg_sl (As.map (gk_c ρ)) ++ List.replicate (n - (lg_sl (As.map (gk_c ρ))).length) Slot.unset).toArray) n L := by
  have h := lv_entry (As.map (gk_c ρ)) (n := n) (by rw [gk_ent_len]; exact hl)
  refine gk_LR.sub (L := gk_ent As ++ List.replicate (n - (gk_ent As).length) none) ⟨h.1, h.2.1, fun i v hv => ?_⟩ hL
  have hi : i < (gk_ent As).length := by
    rcases Nat.lt_or_ge i (gk_ent As).length with q | q
    · exact q
    · rw [List.getElem?_append_right q] at hv
      have := List.mem_of_getElem? hv
      have := List.eq_of_mem_replicate this
      cases this
  rw [List.getElem?_append_left hi] at hv
  have := gk_ent_args (ρ := ρ) As 0 i v hv
  rw [Nat.zero_add] at this
  exact h.2.2 _ this
theorem gk_ofW {l : Launch} {y : MethodName} {ws ws' : List Cond} {rm : Room} {Pc : Array Value → State → Prop} {Qc : Array Value → State → Outcome → State → Prop} {mc ms : Nat} {free : Addr → Prop} {cc : ByteArray} {maxL : Nat} {ret : Option FieldType}
    (hy : plainFor y = true) (hw : ws = Cond.code y cc maxL ret :: ws')
    (body : ∀ p e s m args below meth c s₁, BodyLoose p l y (headSpec ws rm) cc maxL ret e s m args below meth c s₁ → c.maxLocals = maxL → Pc args s →
      W p l e (headSpec ws rm).room s m args below meth c s.heap [] 0 0 (MQ below Qc args s mc ms free) (entryFrame m args maxL)) : Met l y ws rm Pc Qc mc ms free := by
  refine MetFree.of_bodySF (code := cc) (maxLocals := maxL) (ret := ret) hy ?_ ?_
  · intro args s m h hn
    obtain ⟨meth, c, h1, h2, h3, h4, h5, h6, -, -⟩ := Cond.code_spec hn (atoms_spec (ws := ws) h _ (by rw [hw]; exact List.mem_cons_self))
    exact ⟨meth, c, h1, h2, h3, h4, h5, h6⟩
  · intro p e s m args below meth c s₁ B hml hP _
    have hh0 : s₁.heap = s.heap := by rw [B.state]; rfl
    obtain ⟨t, a1, o, b1, b2, b3⟩ := body p e s m args below meth c s₁ B hml hP s₁ hh0 (Stand.of_body B)
    exact ⟨t, o, a1, b1, b2, ⟨b3.1, b3.2⟩⟩
theorem gk_MS_of {d : Nat} {y : MethodName} {b : ByteArray} {mL : Nat} {ret : Option FieldType} {As : List gk_V} {M : gk_M} {K : gk_V → gk_M → Prop} (L : List (Option gk_V)) (hp : plainFor y = true) (hl : (gk_ent As).length ≤ mL) (hL : gk_le L (gk_ent As ++ List.replicate (mL - (gk_ent As).length) none))
    (h : gk_G y.cls b mL d ret none K 0 L [] M) : gk_MS d y b mL ret As M K := by
  intro l D T ρ hJ
  refine gk_ofW (cc := b) (maxL := mL) (ret := ret) hp rfl ?_
  intro p e s m args below meth c s₁ B hml hv
  obtain ⟨rfl, hH, hK⟩ := hv
  have hown : s.vm.findClass y.cls = some m.cls := findClass_of_methodNamed B.named
  have hts := atoms_spec (ws := .code y b mL ret :: gn_tbl) B.pre
  have hr := B.returns
  have hx := B.exec
  have hb := B.bytes
  have hlocks := B.notSynchronized
  rw [lg_entry_eq]
  refine h p l e _ s m _ below meth c 0 0 _ D T ρ (gk_rg ρ) ⟨⟨hx, hb, hml, hown, fun w hw => hts w (List.mem_cons_of_mem _ hw)⟩, hK, hJ, fun k i hi => ⟨k, i, hi, rfl⟩, ⟨hr, hlocks⟩, ⟨Nat.le_refl _, Nat.le_refl _, Nat.zero_le _, Nat.zero_le _⟩, fun _ _ q => by cases q⟩ ?_ _ [] _ hH va_S.rf (gk_LR.entry hl hL)
  intro v M' H' locs ls pc hKv hH' hS hrt
  match ret, v, hrt, hr, hKv with
  | some .int, .inl x, hrt, hr, hKv => exact W.iret hx hb hr (fun t ht hW => ⟨.inl x, M', rfl, hKv, by rw [ht]; exact hH', hS.F ht⟩) hS.2.2 hrt
  | some .boolean, .inl x, hrt, hr, hKv => exact W.zret hx hb hr (gk_b_narrow hrt.2).1 (fun t ht hW => ⟨.inl x, M', rfl, hKv, by rw [ht]; exact hH', hS.F ht⟩) hS.2.2 hrt.1
  | some .long, .inr (.inl x), hrt, hr, hKv => exact W.lret hx hb hr (fun t ht hW => ⟨.inr (.inl x), M', rfl, hKv, by rw [ht]; exact hH', hS.F ht⟩) hS.2.2 hrt
  | none, .inl x, hrt, hr, hKv => exact W.vret hx hb hr (fun t ht hW => ⟨.inl x, M', rfl, hKv, by rw [ht]; exact hH', hS.F ht⟩) hS.2.2 hrt.1
/-- a call's way: by an instruction ins of class own, the method y with the arguments As is run -/
def gk_Run (own : String) (ins : Instr) (y : MethodName) (b : ByteArray) (mL : Nat) (ret : Option FieldType) (As : List gk_V) : Prop :=
  ∀ (p : Program) (l : Launch) (e : Env) (R : Room) (s : State) (m : MethodId) (args : Array Value) (below : List Frame) (meth : Method) (c : Code) (cells slots : Nat) (D : va_G) (T : gk_T) (ρ : Nat → Nat → Nat) (cc : ByteArray) (nL pc : Nat) (ls : Array Slot) (st : List gk_V) (M : gk_M) (H : Heap) (locs : List Loc) (rm : Room) (Pc : Array Value → State → Prop) (Qc : Array Value → State → Outcome → State → Prop) (free : Addr → Prop),
    CallFix p m c cc nL s args gn_tbl own → va_K D vwCl (gk_tys T) s → gk_H D T ρ M H → Met l y (.code y b mL ret :: gn_tbl) rm Pc Qc 0 0 free → rm.cells = 0 → rm.slots = 0 → (rm.frames + 1 ≤ R.frames ∧ 8 + (mL + 11) + rm.locals ≤ R.locals) → FrameBlind Pc → (∀ U : State, U.heap = H → s.WarmedH U.vm → Pc (As.map (gk_c ρ)).toArray U) → ls.size = nL → ((st.map (gk_c ρ)).map fun v => v.category).sum ≤ 8 → (cells + 0 ≤ R.cells ∧ slots + 0 ≤ R.slots) → decode cc pc = .ok (ins, 3) →
    va_Run p l e R s m args below meth c H locs cells slots 0 0 (F0 m pc ls ((As.reverse ++ st).map (gk_c ρ))) (st.map (gk_c ρ)) (Qc (As.map (gk_c ρ)).toArray) free
theorem gk_good (y : MethodName) {b : ByteArray} {mL : Nat} {ret : Option FieldType} (hc : Cond.code y b mL ret ∈ gn_tbl) {pre : List Cond} (hpre : ∀ w ∈ pre, w ∈ gn_tbl) : GoodIn gn_tbl (pre ++ .code y b mL ret :: gn_tbl) := by
  have key : ∀ w ∈ pre ++ .code y b mL ret :: gn_tbl, w ∈ gn_tbl := by
    intro w hw
    rcases List.mem_append.mp hw with h | h
    · exact hpre w h
    · rcases List.mem_cons.mp h with h | h
      · rw [h]; exact hc
      · exact h
  exact fun w hw => ⟨key w hw, gn_good w (key w hw)⟩
/-- the receiver's class -/
def gk_Rc (c0 i0 : Nat) (C : String) : Prop := i0 < gk_cnt c0 ∧ ∀ (T : gk_T) (ρ : Nat → Nat → Nat) (M : gk_M), ∃ (ci : Nat) (fs : List Value) (q : vw_C), gk_E T ρ M c0 i0 = .inr (ci, fs) ∧ vwCl[ci]? = some q ∧ q.1 = C
theorem gk_Rc.cell {c0 i0 : Nat} {C : String} (h : gk_Rc c0 i0 C) {D : va_G} {T : gk_T} {ρ : Nat → Nat → Nat} {M : gk_M} {H : Heap} {s : State} (hH : gk_H D T ρ M H) (hK : va_K D vwCl (gk_tys T) s) : (∃ cellB : Cell, H[ρ c0 i0]? = some cellB ∧ cellB.vm.isStatics = false ∧ s.vm.findClass C = some cellB.cls) ∧ ∃ cC, ClassAt s C cC := by
  obtain ⟨hi, hE⟩ := h
  obtain ⟨ci, fs, q, e1, e2, e3⟩ := hE T ρ M
  subst e3
  have hP : va_P D vwCl [(ρ c0 i0, gk_E T ρ M c0 i0)] H := fun k w hq => by
    have := List.mem_of_getElem? hq
    simp only [List.mem_singleton] at this
    subst this
    exact hH c0 i0 hi
  rw [e1] at hP
  exact ⟨va_recv hK hP e2 (q0 := 0) rfl, _, (hK.1 ci q e2).2⟩
theorem gk_map_args {ρ : Nat → Nat → Nat} {c0 i0 : Nat} {As st : List gk_V} : ((gk_R c0 i0 :: As).reverse ++ st).map (gk_c ρ) = (As.map (gk_c ρ)).reverse ++ .ref (ρ c0 i0) :: st.map (gk_c ρ) := by
  simp [List.map_append, List.map_reverse, gk_c]
theorem gk_runV {own : String} {idx : Nat} {y : MethodName} {b : ByteArray} {mL : Nat} {ret : Option FieldType} {c0 i0 n : Nat} {As : List gk_V} (hc : Cond.code y b mL ret ∈ gn_tbl) (h1 : Cond.methodLink own idx y ∈ gn_tbl) (h2 : Cond.instanceMethod y ∈ gn_tbl) (h3 : Cond.selects y.cls y y ∈ gn_tbl) (h4 : Cond.initialized y.cls ∈ gn_tbl)
    (hd : y.cls = y.cls ∧ y.cls ≠ "java/lang/invoke/MethodHandle" ∧ y.cls ≠ "java/lang/invoke/VarHandle" ∧ (parseMethodDescriptor y.desc).map (fun d => d.parameters.length) = some n) (hR : gk_Rc c0 i0 y.cls) (hn : As.length = n) : gk_Run own (.invokevirtual idx) y b mL ret (gk_R c0 i0 :: As) := by
  intro p l e R s m args below meth c cells slots D T ρ cc nL pc ls st M H locs rm Pc Qc free S hK hH hM hrc hrs hroom hbl hPc hsz hst hf hdec
  have hg : GoodIn gn_tbl (wsV own idx y.cls y (.code y b mL ret :: gn_tbl)) := gk_good y hc (pre := [.methodLink own idx y, .instanceMethod y, .selects y.cls y y, .initialized y.cls]) (by
    intro w hw
    simp only [List.mem_cons, List.not_mem_nil, or_false] at hw
    rcases hw with rfl | rfl | rfl | rfl <;> assumption)
  rw [gk_map_args]
  exact va_runV (As := As.map (gk_c ρ)) S hM (cwV n S.2.2.2.2 hg rfl hrc hrs hd hroom) ⟨hbl, (hR.cell hH hK).1, hPc⟩ rfl (by rw [List.length_map]; exact hn) hsz rfl (lv_room hst) hdec hf
theorem gk_runS {own : String} {idx : Nat} {y : MethodName} {b : ByteArray} {mL : Nat} {ret : Option FieldType} {n : Nat} {As : List gk_V} (hc : Cond.code y b mL ret ∈ gn_tbl) (h1 : Cond.methodLink own idx y ∈ gn_tbl) (h2 : Cond.static y ∈ gn_tbl) (h4 : Cond.initialized y.cls ∈ gn_tbl)
    (hd : y.cls ≠ "java/lang/invoke/MethodHandle" ∧ y.cls ≠ "java/lang/invoke/VarHandle" ∧ (parseMethodDescriptor y.desc).map (fun d => d.parameters.length) = some n) (hn : As.length = n) : gk_Run own (.invokestatic idx) y b mL ret As := by
  intro p l e R s m args below meth c cells slots D T ρ cc nL pc ls st M H locs rm Pc Qc free S hK hH hM hrc hrs hroom hbl hPc hsz hst hf hdec
  have hg : GoodIn gn_tbl (va_wsS own idx y (.code y b mL ret :: gn_tbl)) := gk_good y hc (pre := [.methodLink own idx y, .static y, .initialized y.cls]) (by
    intro w hw
    simp only [List.mem_cons, List.not_mem_nil, or_false] at hw
    rcases hw with rfl | rfl | rfl <;> assumption)
  rw [List.map_append, List.map_reverse]
  exact va_runS (As := As.map (gk_c ρ)) S hM (va_cwS n S.2.2.2.2 hg rfl hrc hrs hd hroom) ⟨hbl, hPc⟩ rfl (by rw [List.length_map]; exact hn) hsz rfl (lv_room hst) hdec hf
theorem gk_runO {own C owner : String} {idx : Nat} {x y : MethodName} {b b0 : ByteArray} {mL m0 : Nat} {ret r0 : Option FieldType} {c0 i0 n : Nat} {As : List gk_V} (hc : Cond.code y b mL ret ∈ gn_tbl) (h0 : Cond.code ⟨owner, x.name, x.desc⟩ b0 m0 r0 ∈ gn_tbl) (h1 : Cond.methodLink own idx x ∈ gn_tbl) (h2 : Cond.sameMethod x.cls owner x.name x.desc ∈ gn_tbl) (h3 : Cond.instanceMethod ⟨owner, x.name, x.desc⟩ ∈ gn_tbl) (h4 : Cond.selects C x y ∈ gn_tbl) (h5 : Cond.instanceMethod y ∈ gn_tbl) (h6 : Cond.initialized y.cls ∈ gn_tbl)
    (hd : owner ≠ "java/lang/invoke/MethodHandle" ∧ owner ≠ "java/lang/invoke/VarHandle" ∧ (parseMethodDescriptor x.desc).map (fun d => d.parameters.length) = some n) (hR : gk_Rc c0 i0 C) (hn : As.length = n) : gk_Run own (.invokevirtual idx) y b mL ret (gk_R c0 i0 :: As) := by
  intro p l e R s m args below meth c cells slots D T ρ cc nL pc ls st M H locs rm Pc Qc free S hK hH hM hrc hrs hroom hbl hPc hsz hst hf hdec
  have hg : GoodIn gn_tbl (va_wsO own idx C owner x y (.code y b mL ret :: gn_tbl)) := gk_good y hc (pre := [.methodLink own idx x, .sameMethod x.cls owner x.name x.desc, .instanceMethod ⟨owner, x.name, x.desc⟩, .selects C x y, .instanceMethod y, .initialized y.cls]) (by
    intro w hw
    simp only [List.mem_cons, List.not_mem_nil, or_false] at hw
    rcases hw with rfl | rfl | rfl | rfl | rfl | rfl <;> assumption)
  rw [gk_map_args]
  exact va_runU (As := As.map (gk_c ρ)) S hM (va_cwO n S.2.2.2.2 hg rfl hrc hrs h0 hd hroom) ⟨hbl, (hR.cell hH hK).1, hPc⟩ rfl (by rw [List.length_map]; exact hn) hsz rfl (lv_room hst) hdec hf
theorem gk_runSU {own C : String} {idx : Nat} {y : MethodName} {b : ByteArray} {mL : Nat} {ret : Option FieldType} {c0 i0 n : Nat} {As : List gk_V} (hc : Cond.code y b mL ret ∈ gn_tbl) (h1 : Cond.methodLink own idx y ∈ gn_tbl) (h2 : Cond.sameMethod y.cls y.cls y.name y.desc ∈ gn_tbl) (h3 : Cond.superclass own y.cls ∈ gn_tbl) (h5 : Cond.instanceMethod y ∈ gn_tbl) (h6 : Cond.initialized y.cls ∈ gn_tbl)
    (hd : y.name ≠ "<init>" ∧ (parseMethodDescriptor y.desc).map (fun d => d.parameters.length) = some n) (hR : gk_Rc c0 i0 C) (hn : As.length = n) : gk_Run own (.invokespecial idx) y b mL ret (gk_R c0 i0 :: As) := by
  intro p l e R s m args below meth c cells slots D T ρ cc nL pc ls st M H locs rm Pc Qc free S hK hH hM hrc hrs hroom hbl hPc hsz hst hf hdec
  have hg : GoodIn gn_tbl (va_wsSU own idx y (.code y b mL ret :: gn_tbl)) := gk_good y hc (pre := [.methodLink own idx y, .sameMethod y.cls y.cls y.name y.desc, .superclass own y.cls, .instanceMethod y, .initialized y.cls]) (by
    intro w hw
    simp only [List.mem_cons, List.not_mem_nil, or_false] at hw
    rcases hw with rfl | rfl | rfl | rfl | rfl <;> assumption)
  rw [gk_map_args]
  obtain ⟨hrv, cC, hcC⟩ := hR.cell hH hK
  exact va_runSU (As := As.map (gk_c ρ)) hcC S hM (va_cwSU n S.2.2.2.2 hg rfl hrc hrs hd hroom) ⟨hbl, hrv, hPc⟩ rfl (by rw [List.length_map]; exact hn) hsz rfl (lv_room hst) hdec hf
section GKC
variable {own : String} {cc : ByteArray} {nL d : Nat} {ret : Option FieldType} {SL : Option (Nat × (Nat → Int32))} {K : gk_V → gk_M → Prop} {pc : Nat} {L : List (Option gk_V)} {st : List gk_V} {M : gk_M} {α : Type} {ι : α → gk_V}
theorem gk_callX {ins : Instr} {y : MethodName} {b : ByteArray} {mL d' : Nat} {ret' : Option FieldType} {As : List gk_V} {K' : gk_V → gk_M → Prop} (hr : gk_Run own ins y b mL ret' As) (hm : gk_MS d' y b mL ret' As M K') (hdd : d' + 1 ≤ d) (hmL : mL ≤ 17) (hst : ∀ ρ, ((st.map (gk_c ρ)).map fun v => v.category).sum ≤ 8) (hd : decode cc pc = .ok (ins, 3))
    (k : ∀ (v : gk_V) (M' : gk_M), K' v M' → ∀ st' : List gk_V, (∀ ρ, st'.map (gk_c ρ) = (gk_ro ρ ret' v).toList ++ st.map (gk_c ρ)) → gk_G own cc nL d ret SL K (pc + 3) (L) (st') (M')) (st1 : ∀ v : gk_V, ∃ st' : List gk_V, ∀ ρ, st'.map (gk_c ρ) = (gk_ro ρ ret' v).toList ++ st.map (gk_c ρ)) : gk_G own cc nL d ret SL K (pc) (L) (As.reverse ++ st) (M) := by
  intro p l e R s m args below meth c cells slots Q D T ρ A C E H locs ls hH hS hL
  obtain ⟨C1, hK, hJ, hA, hrl, ⟨r1, r2, r3, r4⟩, hX⟩ := id C
  have hM := hm l D T ρ hJ
  have hrun := hr p l e R s m args below meth c cells slots D T ρ cc nL pc ls st M H locs (gk_rm d') _ _ _ C1 hK hH hM rfl rfl ⟨by show d' + 1 ≤ R.frames; omega, by show 8 + (mL + 11) + 36 * d' ≤ R.locals; omega⟩ gk_Pc.blind (fun U hU hW => ⟨rfl, by rw [hU]; exact hH, va_K.moved hW.alike hK⟩) hL.1 (hst ρ) ⟨r3, r4⟩ hd
  intro T0 hT X
  obtain ⟨v, st₀, t, T', LL, h0, X', hLL, e1, e2, ⟨v', M', hoc, hK', hH', hz, hk⟩, hstep⟩ := hrun T0 hT X
  cases hoc
  rw [h0] at hz hk
  obtain ⟨st', hst'⟩ := st1 v'
  obtain ⟨t2, a1, b1⟩ := k v' M' hK' st' hst' p l e R s m args below meth c cells slots Q D T ρ A C E T'.heap (locs ++ LL) ls (by rw [e1]; exact hH')
    ⟨Nat.le_trans hS.1 (by rw [e1]; exact hz), fun q h1 h2 => by rw [e1, hk q (Nat.lt_of_lt_of_le h1 hS.1) (fun z => h2 (by obtain ⟨c1, i1, z1, rfl⟩ := z; exact hA c1 i1 z1))]; exact hS.2.1 q h1 h2, fun q hq => by
      rcases List.mem_append.mp hq with h | h
      · exact hS.2.2 q h
      · obtain ⟨c1, i1, z1, z2⟩ := hLL q h
        rw [z2]
        exact hA c1 i1 z1⟩ hL T' rfl X'
  refine ⟨t2, hstep t2 ?_, b1⟩
  rw [hst'] at a1
  exact a1
theorem gk_callI {ins : Instr} {y : MethodName} {b : ByteArray} {mL : Nat} (d' : Nat) {ft : FieldType} {As : List gk_V} {o : Option (Int32 × gk_M)} {F : Int32 → gk_M → Option (α × gk_M)} {stk : List gk_V} (hr : gk_Run own ins y b mL (some ft) As) (hm : ∀ K', gk_Sat gk_I o K' → gk_MS d' y b mL (some ft) As M K') (hs : stk = As.reverse ++ st) (hdd : d' + 1 ≤ d) (hmL : mL ≤ 17) (hst : ∀ ρ, ((st.map (gk_c ρ)).map fun v => v.category).sum ≤ 8) (hd : decode cc pc = .ok (ins, 3))
    (h : gk_Sat ι (gk_bnd o F) K) (k : ∀ (r : Int32) (M' : gk_M), gk_Sat ι (F r M') K → gk_G own cc nL d ret SL K (pc + 3) (L) (gk_I r :: st) (M')) : gk_G own cc nL d ret SL K (pc) (L) (stk) (M) := by
  subst hs
  refine gk_callX hr (hm _ (h.bnd (κ := gk_I))) hdd hmL hst hd (fun v M' hv st' hst' => ?_) (fun v => ⟨v :: st, fun ρ => rfl⟩)
  obtain ⟨r, rfl, hF⟩ := hv
  have := k r M' hF
  intro p l e R s m args below meth c cells slots Q D T ρ A C E H locs ls hH hS hL
  rw [hst' ρ]
  exact this p l e R s m args below meth c cells slots Q D T ρ A C E H locs ls hH hS hL
theorem gk_callL {ins : Instr} {y : MethodName} {b : ByteArray} {mL : Nat} (d' : Nat) {ft : FieldType} {As : List gk_V} {o : Option (Int64 × gk_M)} {F : Int64 → gk_M → Option (α × gk_M)} {stk : List gk_V} (hr : gk_Run own ins y b mL (some ft) As) (hm : ∀ K', gk_Sat gk_L o K' → gk_MS d' y b mL (some ft) As M K') (hs : stk = As.reverse ++ st) (hdd : d' + 1 ≤ d) (hmL : mL ≤ 17) (hst : ∀ ρ, ((st.map (gk_c ρ)).map fun v => v.category).sum ≤ 8) (hd : decode cc pc = .ok (ins, 3))
    (h : gk_Sat ι (gk_bnd o F) K) (k : ∀ (r : Int64) (M' : gk_M), gk_Sat ι (F r M') K → gk_G own cc nL d ret SL K (pc + 3) (L) (gk_L r :: st) (M')) : gk_G own cc nL d ret SL K (pc) (L) (stk) (M) := by
  subst hs
  refine gk_callX hr (hm _ (h.bnd (κ := gk_L))) hdd hmL hst hd (fun v M' hv st' hst' => ?_) (fun v => ⟨v :: st, fun ρ => rfl⟩)
  obtain ⟨r, rfl, hF⟩ := hv
  have := k r M' hF
  intro p l e R s m args below meth c cells slots Q D T ρ A C E H locs ls hH hS hL
  rw [hst' ρ]
  exact this p l e R s m args below meth c cells slots Q D T ρ A C E H locs ls hH hS hL
theorem gk_callV {ins : Instr} {y : MethodName} {b : ByteArray} {mL : Nat} (d' : Nat) {As : List gk_V} {o : Option (Unit × gk_M)} {F : Unit → gk_M → Option (α × gk_M)} {stk : List gk_V} (hr : gk_Run own ins y b mL none As) (hm : ∀ K', gk_Sat gk_U o K' → gk_MS d' y b mL none As M K') (hs : stk = As.reverse ++ st) (hdd : d' + 1 ≤ d) (hmL : mL ≤ 17) (hst : ∀ ρ, ((st.map (gk_c ρ)).map fun v => v.category).sum ≤ 8) (hd : decode cc pc = .ok (ins, 3))
    (h : gk_Sat ι (gk_bnd o F) K) (k : ∀ (r : Unit) (M' : gk_M), gk_Sat ι (F r M') K → gk_G own cc nL d ret SL K (pc + 3) (L) (st) (M')) : gk_G own cc nL d ret SL K (pc) (L) (stk) (M) := by
  subst hs
  refine gk_callX hr (hm _ (h.bnd (κ := gk_U))) hdd hmL hst hd (fun v M' hv st' hst' => ?_) (fun v => ⟨st, fun ρ => rfl⟩)
  obtain ⟨r, -, hF⟩ := hv
  have := k r M' hF
  intro p l e R s m args below meth c cells slots Q D T ρ A C E H locs ls hH hS hL
  rw [hst' ρ]
  exact this p l e R s m args below meth c cells slots Q D T ρ A C E H locs ls hH hS hL
end GKC
end
