section
-- ===== PART A: goes FIRST, ahead of the names: the tables' words, and 'selects' of the private methods out of them =====
/-- a private method of a class that the tables say can be made, by its rows of tables_1 -/
def lw_okq (q : MethodName × Nat) : Prop := (q.1.cls ≠ "java/lang/invoke/MethodHandle" ∧ q.1.cls ≠ "java/lang/invoke/VarHandle") ∧ Cond.instantiable q.1.cls q.2 ∈ tables_1 ∧ Cond.privateMethod q.1 ∈ tables_1 ∧ Cond.instanceMethod q.1 ∈ tables_1
theorem lw_p0 : lw_okq (⟨"MapForge", "forgetFindings", "()V"⟩, 7) := ⟨⟨by decide +kernel, by decide +kernel⟩, List.mem_of_getElem? (i := 17) (by decide +kernel), List.mem_of_getElem? (i := 395) (by decide +kernel), List.mem_of_getElem? (i := 396) (by decide +kernel)⟩
theorem lw_p1 : lw_okq (⟨"MapForge$Flow", "begin", "()V"⟩, 10) := ⟨⟨by decide +kernel, by decide +kernel⟩, List.mem_of_getElem? (i := 155) (by decide +kernel), List.mem_of_getElem? (i := 473) (by decide +kernel), List.mem_of_getElem? (i := 474) (by decide +kernel)⟩
theorem lw_p2 : lw_okq (⟨"MapForge$Flow", "arrive", "(ILMapForge$Frame;)Z"⟩, 10) := ⟨⟨by decide +kernel, by decide +kernel⟩, List.mem_of_getElem? (i := 155) (by decide +kernel), List.mem_of_getElem? (i := 492) (by decide +kernel), List.mem_of_getElem? (i := 493) (by decide +kernel)⟩
theorem lw_p3 : lw_okq (⟨"MapForge$Flow", "joinAt", "(ILMapForge$Frame;)Z"⟩, 10) := ⟨⟨by decide +kernel, by decide +kernel⟩, List.mem_of_getElem? (i := 155) (by decide +kernel), List.mem_of_getElem? (i := 496) (by decide +kernel), List.mem_of_getElem? (i := 497) (by decide +kernel)⟩
theorem lw_p4 : lw_okq (⟨"MapForge$Flow", "leaveToHandlers", "(I)Z"⟩, 10) := ⟨⟨by decide +kernel, by decide +kernel⟩, List.mem_of_getElem? (i := 155) (by decide +kernel), List.mem_of_getElem? (i := 517) (by decide +kernel), List.mem_of_getElem? (i := 518) (by decide +kernel)⟩
theorem lw_p5 : lw_okq (⟨"MapForge$Flow", "leave", "(I)Z"⟩, 10) := ⟨⟨by decide +kernel, by decide +kernel⟩, List.mem_of_getElem? (i := 155) (by decide +kernel), List.mem_of_getElem? (i := 537) (by decide +kernel), List.mem_of_getElem? (i := 538) (by decide +kernel)⟩
theorem lw_p6 : lw_okq (⟨"MapForge$Machine", "stepOnStack", "(ILMapForge$Frame;)Z"⟩, 2) := ⟨⟨by decide +kernel, by decide +kernel⟩, List.mem_of_getElem? (i := 142) (by decide +kernel), List.mem_of_getElem? (i := 545) (by decide +kernel), List.mem_of_getElem? (i := 546) (by decide +kernel)⟩
theorem lw_p7 : lw_okq (⟨"MapForge$Machine", "stepOne", "(IILMapForge$Frame;)Z"⟩, 2) := ⟨⟨by decide +kernel, by decide +kernel⟩, List.mem_of_getElem? (i := 142) (by decide +kernel), List.mem_of_getElem? (i := 569) (by decide +kernel), List.mem_of_getElem? (i := 570) (by decide +kernel)⟩
theorem lw_p8 : lw_okq (⟨"MapForge$Machine", "stepTwo", "(ILMapForge$Frame;)Z"⟩, 2) := ⟨⟨by decide +kernel, by decide +kernel⟩, List.mem_of_getElem? (i := 142) (by decide +kernel), List.mem_of_getElem? (i := 573) (by decide +kernel), List.mem_of_getElem? (i := 574) (by decide +kernel)⟩
theorem lw_p9 : lw_okq (⟨"MapForge$Machine", "stepToOther", "(ILMapForge$Frame;)Z"⟩, 2) := ⟨⟨by decide +kernel, by decide +kernel⟩, List.mem_of_getElem? (i := 142) (by decide +kernel), List.mem_of_getElem? (i := 581) (by decide +kernel), List.mem_of_getElem? (i := 582) (by decide +kernel)⟩
theorem lw_p10 : lw_okq (⟨"MapForge$Machine", "stepStore", "(IILMapForge$Frame;)Z"⟩, 2) := ⟨⟨by decide +kernel, by decide +kernel⟩, List.mem_of_getElem? (i := 142) (by decide +kernel), List.mem_of_getElem? (i := 594) (by decide +kernel), List.mem_of_getElem? (i := 595) (by decide +kernel)⟩
theorem lw_p11 : lw_okq (⟨"MapForge$Machine", "stepJump", "(ILMapForge$Frame;)Z"⟩, 2) := ⟨⟨by decide +kernel, by decide +kernel⟩, List.mem_of_getElem? (i := 142) (by decide +kernel), List.mem_of_getElem? (i := 602) (by decide +kernel), List.mem_of_getElem? (i := 603) (by decide +kernel)⟩
theorem lw_p12 : lw_okq (⟨"MapForge$Machine", "stepObject", "(ILMapForge$Frame;)Z"⟩, 2) := ⟨⟨by decide +kernel, by decide +kernel⟩, List.mem_of_getElem? (i := 142) (by decide +kernel), List.mem_of_getElem? (i := 607) (by decide +kernel), List.mem_of_getElem? (i := 608) (by decide +kernel)⟩
theorem lw_p13 : lw_okq (⟨"MapForge$Machine", "stepInit", "(IILMapForge$Frame;)Z"⟩, 2) := ⟨⟨by decide +kernel, by decide +kernel⟩, List.mem_of_getElem? (i := 142) (by decide +kernel), List.mem_of_getElem? (i := 612) (by decide +kernel), List.mem_of_getElem? (i := 613) (by decide +kernel)⟩
theorem lw_p14 : lw_okq (⟨"MapForge$Flow", "isWhole", "()Z"⟩, 10) := ⟨⟨by decide +kernel, by decide +kernel⟩, List.mem_of_getElem? (i := 155) (by decide +kernel), List.mem_of_getElem? (i := 634) (by decide +kernel), List.mem_of_getElem? (i := 635) (by decide +kernel)⟩
theorem lw_p15 : lw_okq (⟨"MapForge$Writer", "writeRow", "(LMapForge$Frame;I)V"⟩, 6) := ⟨⟨by decide +kernel, by decide +kernel⟩, List.mem_of_getElem? (i := 235) (by decide +kernel), List.mem_of_getElem? (i := 669) (by decide +kernel), List.mem_of_getElem? (i := 670) (by decide +kernel)⟩
def lw_privs_1 : List (MethodName × Nat) := [(⟨"MapForge", "forgetFindings", "()V"⟩, 7), (⟨"MapForge$Flow", "begin", "()V"⟩, 10), (⟨"MapForge$Flow", "arrive", "(ILMapForge$Frame;)Z"⟩, 10), (⟨"MapForge$Flow", "joinAt", "(ILMapForge$Frame;)Z"⟩, 10), (⟨"MapForge$Flow", "leaveToHandlers", "(I)Z"⟩, 10), (⟨"MapForge$Flow", "leave", "(I)Z"⟩, 10), (⟨"MapForge$Machine", "stepOnStack", "(ILMapForge$Frame;)Z"⟩, 2), (⟨"MapForge$Machine", "stepOne", "(IILMapForge$Frame;)Z"⟩, 2), (⟨"MapForge$Machine", "stepTwo", "(ILMapForge$Frame;)Z"⟩, 2), (⟨"MapForge$Machine", "stepToOther", "(ILMapForge$Frame;)Z"⟩, 2), (⟨"MapForge$Machine", "stepStore", "(IILMapForge$Frame;)Z"⟩, 2), (⟨"MapForge$Machine", "stepJump", "(ILMapForge$Frame;)Z"⟩, 2), (⟨"MapForge$Machine", "stepObject", "(ILMapForge$Frame;)Z"⟩, 2), (⟨"MapForge$Machine", "stepInit", "(IILMapForge$Frame;)Z"⟩, 2), (⟨"MapForge$Flow", "isWhole", "()Z"⟩, 10), (⟨"MapForge$Writer", "writeRow", "(LMapForge$Frame;I)V"⟩, 6)]
theorem lw_r1 : ∀ q ∈ lw_privs_1, lw_okq q := List.forall_mem_cons.mpr ⟨lw_p0, List.forall_mem_cons.mpr ⟨lw_p1, List.forall_mem_cons.mpr ⟨lw_p2, List.forall_mem_cons.mpr ⟨lw_p3, List.forall_mem_cons.mpr ⟨lw_p4, List.forall_mem_cons.mpr ⟨lw_p5, List.forall_mem_cons.mpr ⟨lw_p6, List.forall_mem_cons.mpr ⟨lw_p7, List.forall_mem_cons.mpr ⟨lw_p8, List.forall_mem_cons.mpr ⟨lw_p9, List.forall_mem_cons.mpr ⟨lw_p10, List.forall_mem_cons.mpr ⟨lw_p11, List.forall_mem_cons.mpr ⟨lw_p12, List.forall_mem_cons.mpr ⟨lw_p13, List.forall_mem_cons.mpr ⟨lw_p14, List.forall_mem_cons.mpr ⟨lw_p15, fun _ h => absurd h List.not_mem_nil⟩⟩⟩⟩⟩⟩⟩⟩⟩⟩⟩⟩⟩⟩⟩⟩
theorem lw_p16 : lw_okq (⟨"MapForge$Writer", "writeHead", "(III)V"⟩, 6) := ⟨⟨by decide +kernel, by decide +kernel⟩, List.mem_of_getElem? (i := 235) (by decide +kernel), List.mem_of_getElem? (i := 683) (by decide +kernel), List.mem_of_getElem? (i := 684) (by decide +kernel)⟩
theorem lw_p17 : lw_okq (⟨"MapForge$Writer", "writeTypes", "([III)V"⟩, 6) := ⟨⟨by decide +kernel, by decide +kernel⟩, List.mem_of_getElem? (i := 235) (by decide +kernel), List.mem_of_getElem? (i := 703) (by decide +kernel), List.mem_of_getElem? (i := 704) (by decide +kernel)⟩
theorem lw_p18 : lw_okq (⟨"MapForge$Writer", "writeWhole", "(LMapForge$Frame;I)V"⟩, 6) := ⟨⟨by decide +kernel, by decide +kernel⟩, List.mem_of_getElem? (i := 235) (by decide +kernel), List.mem_of_getElem? (i := 707) (by decide +kernel), List.mem_of_getElem? (i := 708) (by decide +kernel)⟩
theorem lw_p19 : lw_okq (⟨"MapForge$Reader", "begin", "()V"⟩, 12) := ⟨⟨by decide +kernel, by decide +kernel⟩, List.mem_of_getElem? (i := 284) (by decide +kernel), List.mem_of_getElem? (i := 741) (by decide +kernel), List.mem_of_getElem? (i := 742) (by decide +kernel)⟩
theorem lw_p20 : lw_okq (⟨"MapForge$Reader", "readRow", "(LMapForge$Frame;)Z"⟩, 12) := ⟨⟨by decide +kernel, by decide +kernel⟩, List.mem_of_getElem? (i := 284) (by decide +kernel), List.mem_of_getElem? (i := 748) (by decide +kernel), List.mem_of_getElem? (i := 749) (by decide +kernel)⟩
theorem lw_p21 : lw_okq (⟨"MapForge$Reader", "readByte", "()I"⟩, 12) := ⟨⟨by decide +kernel, by decide +kernel⟩, List.mem_of_getElem? (i := 284) (by decide +kernel), List.mem_of_getElem? (i := 752) (by decide +kernel), List.mem_of_getElem? (i := 753) (by decide +kernel)⟩
theorem lw_p22 : lw_okq (⟨"MapForge$Reader", "readStack", "(LMapForge$Frame;I)Z"⟩, 12) := ⟨⟨by decide +kernel, by decide +kernel⟩, List.mem_of_getElem? (i := 284) (by decide +kernel), List.mem_of_getElem? (i := 757) (by decide +kernel), List.mem_of_getElem? (i := 758) (by decide +kernel)⟩
theorem lw_p23 : lw_okq (⟨"MapForge$Reader", "readType", "()I"⟩, 12) := ⟨⟨by decide +kernel, by decide +kernel⟩, List.mem_of_getElem? (i := 284) (by decide +kernel), List.mem_of_getElem? (i := 761) (by decide +kernel), List.mem_of_getElem? (i := 762) (by decide +kernel)⟩
theorem lw_p24 : lw_okq (⟨"MapForge$Reader", "readTwo", "()I"⟩, 12) := ⟨⟨by decide +kernel, by decide +kernel⟩, List.mem_of_getElem? (i := 284) (by decide +kernel), List.mem_of_getElem? (i := 765) (by decide +kernel), List.mem_of_getElem? (i := 766) (by decide +kernel)⟩
theorem lw_p25 : lw_okq (⟨"MapForge$Reader", "readRest", "(ILMapForge$Frame;)Z"⟩, 12) := ⟨⟨by decide +kernel, by decide +kernel⟩, List.mem_of_getElem? (i := 284) (by decide +kernel), List.mem_of_getElem? (i := 772) (by decide +kernel), List.mem_of_getElem? (i := 773) (by decide +kernel)⟩
theorem lw_p26 : lw_okq (⟨"MapForge$Reader", "readList", "(I)Z"⟩, 12) := ⟨⟨by decide +kernel, by decide +kernel⟩, List.mem_of_getElem? (i := 284) (by decide +kernel), List.mem_of_getElem? (i := 777) (by decide +kernel), List.mem_of_getElem? (i := 778) (by decide +kernel)⟩
theorem lw_p27 : lw_okq (⟨"MapForge$Reader", "shorten", "(I)Z"⟩, 12) := ⟨⟨by decide +kernel, by decide +kernel⟩, List.mem_of_getElem? (i := 284) (by decide +kernel), List.mem_of_getElem? (i := 782) (by decide +kernel), List.mem_of_getElem? (i := 783) (by decide +kernel)⟩
theorem lw_p28 : lw_okq (⟨"MapForge$Checker", "begins", "(IZ)Z"⟩, 6) := ⟨⟨by decide +kernel, by decide +kernel⟩, List.mem_of_getElem? (i := 338) (by decide +kernel), List.mem_of_getElem? (i := 799) (by decide +kernel), List.mem_of_getElem? (i := 800) (by decide +kernel)⟩
theorem lw_p29 : lw_okq (⟨"MapForge$Checker", "handlersFit", "(I)Z"⟩, 6) := ⟨⟨by decide +kernel, by decide +kernel⟩, List.mem_of_getElem? (i := 338) (by decide +kernel), List.mem_of_getElem? (i := 809) (by decide +kernel), List.mem_of_getElem? (i := 810) (by decide +kernel)⟩
theorem lw_p30 : lw_okq (⟨"MapForge$Checker", "fitsAt", "(ILMapForge$Frame;)Z"⟩, 6) := ⟨⟨by decide +kernel, by decide +kernel⟩, List.mem_of_getElem? (i := 338) (by decide +kernel), List.mem_of_getElem? (i := 815) (by decide +kernel), List.mem_of_getElem? (i := 816) (by decide +kernel)⟩
theorem lw_p31 : lw_okq (⟨"MapForge$Checker", "jumpFits", "(I)Z"⟩, 6) := ⟨⟨by decide +kernel, by decide +kernel⟩, List.mem_of_getElem? (i := 338) (by decide +kernel), List.mem_of_getElem? (i := 820) (by decide +kernel), List.mem_of_getElem? (i := 821) (by decide +kernel)⟩
def lw_privs_2 : List (MethodName × Nat) := [(⟨"MapForge$Writer", "writeHead", "(III)V"⟩, 6), (⟨"MapForge$Writer", "writeTypes", "([III)V"⟩, 6), (⟨"MapForge$Writer", "writeWhole", "(LMapForge$Frame;I)V"⟩, 6), (⟨"MapForge$Reader", "begin", "()V"⟩, 12), (⟨"MapForge$Reader", "readRow", "(LMapForge$Frame;)Z"⟩, 12), (⟨"MapForge$Reader", "readByte", "()I"⟩, 12), (⟨"MapForge$Reader", "readStack", "(LMapForge$Frame;I)Z"⟩, 12), (⟨"MapForge$Reader", "readType", "()I"⟩, 12), (⟨"MapForge$Reader", "readTwo", "()I"⟩, 12), (⟨"MapForge$Reader", "readRest", "(ILMapForge$Frame;)Z"⟩, 12), (⟨"MapForge$Reader", "readList", "(I)Z"⟩, 12), (⟨"MapForge$Reader", "shorten", "(I)Z"⟩, 12), (⟨"MapForge$Checker", "begins", "(IZ)Z"⟩, 6), (⟨"MapForge$Checker", "handlersFit", "(I)Z"⟩, 6), (⟨"MapForge$Checker", "fitsAt", "(ILMapForge$Frame;)Z"⟩, 6), (⟨"MapForge$Checker", "jumpFits", "(I)Z"⟩, 6)]
theorem lw_r2 : ∀ q ∈ lw_privs_2, lw_okq q := List.forall_mem_cons.mpr ⟨lw_p16, List.forall_mem_cons.mpr ⟨lw_p17, List.forall_mem_cons.mpr ⟨lw_p18, List.forall_mem_cons.mpr ⟨lw_p19, List.forall_mem_cons.mpr ⟨lw_p20, List.forall_mem_cons.mpr ⟨lw_p21, List.forall_mem_cons.mpr ⟨lw_p22, List.forall_mem_cons.mpr ⟨lw_p23, List.forall_mem_cons.mpr ⟨lw_p24, List.forall_mem_cons.mpr ⟨lw_p25, List.forall_mem_cons.mpr ⟨lw_p26, List.forall_mem_cons.mpr ⟨lw_p27, List.forall_mem_cons.mpr ⟨lw_p28, List.forall_mem_cons.mpr ⟨lw_p29, List.forall_mem_cons.mpr ⟨lw_p30, List.forall_mem_cons.mpr ⟨lw_p31, fun _ h => absurd h List.not_mem_nil⟩⟩⟩⟩⟩⟩⟩⟩⟩⟩⟩⟩⟩⟩⟩⟩
theorem lw_p32 : lw_okq (⟨"MapForgeModel", "set", "(IIII)V"⟩, 43) := ⟨⟨by decide +kernel, by decide +kernel⟩, List.mem_of_getElem? (i := 853) (by decide +kernel), List.mem_of_getElem? (i := 1017) (by decide +kernel), List.mem_of_getElem? (i := 1018) (by decide +kernel)⟩
theorem lw_p33 : lw_okq (⟨"MapForgeModel", "isRight", "()Z"⟩, 43) := ⟨⟨by decide +kernel, by decide +kernel⟩, List.mem_of_getElem? (i := 853) (by decide +kernel), List.mem_of_getElem? (i := 1033) (by decide +kernel), List.mem_of_getElem? (i := 1034) (by decide +kernel)⟩
theorem lw_p34 : lw_okq (⟨"MapForgeModel", "first", "()V"⟩, 43) := ⟨⟨by decide +kernel, by decide +kernel⟩, List.mem_of_getElem? (i := 853) (by decide +kernel), List.mem_of_getElem? (i := 1037) (by decide +kernel), List.mem_of_getElem? (i := 1038) (by decide +kernel)⟩
theorem lw_p35 : lw_okq (⟨"MapForgeModel", "arrive", "(I)V"⟩, 43) := ⟨⟨by decide +kernel, by decide +kernel⟩, List.mem_of_getElem? (i := 853) (by decide +kernel), List.mem_of_getElem? (i := 1044) (by decide +kernel), List.mem_of_getElem? (i := 1045) (by decide +kernel)⟩
theorem lw_p36 : lw_okq (⟨"MapForgeModel", "join", "(II)I"⟩, 43) := ⟨⟨by decide +kernel, by decide +kernel⟩, List.mem_of_getElem? (i := 853) (by decide +kernel), List.mem_of_getElem? (i := 1048) (by decide +kernel), List.mem_of_getElem? (i := 1049) (by decide +kernel)⟩
theorem lw_p37 : lw_okq (⟨"MapForgeModel", "isInLine", "(II)Z"⟩, 43) := ⟨⟨by decide +kernel, by decide +kernel⟩, List.mem_of_getElem? (i := 853) (by decide +kernel), List.mem_of_getElem? (i := 1052) (by decide +kernel), List.mem_of_getElem? (i := 1053) (by decide +kernel)⟩
theorem lw_p38 : lw_okq (⟨"MapForgeModel", "fetch", "(I)V"⟩, 43) := ⟨⟨by decide +kernel, by decide +kernel⟩, List.mem_of_getElem? (i := 853) (by decide +kernel), List.mem_of_getElem? (i := 1056) (by decide +kernel), List.mem_of_getElem? (i := 1057) (by decide +kernel)⟩
theorem lw_p39 : lw_okq (⟨"MapForgeModel", "leave", "(I)Z"⟩, 43) := ⟨⟨by decide +kernel, by decide +kernel⟩, List.mem_of_getElem? (i := 853) (by decide +kernel), List.mem_of_getElem? (i := 1060) (by decide +kernel), List.mem_of_getElem? (i := 1061) (by decide +kernel)⟩
theorem lw_p40 : lw_okq (⟨"MapForgeModel", "top", "(I)I"⟩, 43) := ⟨⟨by decide +kernel, by decide +kernel⟩, List.mem_of_getElem? (i := 853) (by decide +kernel), List.mem_of_getElem? (i := 1064) (by decide +kernel), List.mem_of_getElem? (i := 1065) (by decide +kernel)⟩
theorem lw_p41 : lw_okq (⟨"MapForgeModel", "simple", "(I)Z"⟩, 43) := ⟨⟨by decide +kernel, by decide +kernel⟩, List.mem_of_getElem? (i := 853) (by decide +kernel), List.mem_of_getElem? (i := 1068) (by decide +kernel), List.mem_of_getElem? (i := 1069) (by decide +kernel)⟩
theorem lw_p42 : lw_okq (⟨"MapForgeModel", "push", "(I)Z"⟩, 43) := ⟨⟨by decide +kernel, by decide +kernel⟩, List.mem_of_getElem? (i := 853) (by decide +kernel), List.mem_of_getElem? (i := 1072) (by decide +kernel), List.mem_of_getElem? (i := 1073) (by decide +kernel)⟩
theorem lw_p43 : lw_okq (⟨"MapForgeModel", "slots", "()I"⟩, 43) := ⟨⟨by decide +kernel, by decide +kernel⟩, List.mem_of_getElem? (i := 853) (by decide +kernel), List.mem_of_getElem? (i := 1076) (by decide +kernel), List.mem_of_getElem? (i := 1077) (by decide +kernel)⟩
theorem lw_p44 : lw_okq (⟨"MapForgeModel", "takes", "(ZI)Z"⟩, 43) := ⟨⟨by decide +kernel, by decide +kernel⟩, List.mem_of_getElem? (i := 853) (by decide +kernel), List.mem_of_getElem? (i := 1083) (by decide +kernel), List.mem_of_getElem? (i := 1084) (by decide +kernel)⟩
theorem lw_p45 : lw_okq (⟨"MapForgeModel", "sum", "(I)Z"⟩, 43) := ⟨⟨by decide +kernel, by decide +kernel⟩, List.mem_of_getElem? (i := 853) (by decide +kernel), List.mem_of_getElem? (i := 1087) (by decide +kernel), List.mem_of_getElem? (i := 1088) (by decide +kernel)⟩
theorem lw_p46 : lw_okq (⟨"MapForgeModel", "swap", "(II)Z"⟩, 43) := ⟨⟨by decide +kernel, by decide +kernel⟩, List.mem_of_getElem? (i := 853) (by decide +kernel), List.mem_of_getElem? (i := 1091) (by decide +kernel), List.mem_of_getElem? (i := 1092) (by decide +kernel)⟩
theorem lw_p47 : lw_okq (⟨"MapForgeModel", "is", "(II)Z"⟩, 43) := ⟨⟨by decide +kernel, by decide +kernel⟩, List.mem_of_getElem? (i := 853) (by decide +kernel), List.mem_of_getElem? (i := 1095) (by decide +kernel), List.mem_of_getElem? (i := 1096) (by decide +kernel)⟩
def lw_privs_3 : List (MethodName × Nat) := [(⟨"MapForgeModel", "set", "(IIII)V"⟩, 43), (⟨"MapForgeModel", "isRight", "()Z"⟩, 43), (⟨"MapForgeModel", "first", "()V"⟩, 43), (⟨"MapForgeModel", "arrive", "(I)V"⟩, 43), (⟨"MapForgeModel", "join", "(II)I"⟩, 43), (⟨"MapForgeModel", "isInLine", "(II)Z"⟩, 43), (⟨"MapForgeModel", "fetch", "(I)V"⟩, 43), (⟨"MapForgeModel", "leave", "(I)Z"⟩, 43), (⟨"MapForgeModel", "top", "(I)I"⟩, 43), (⟨"MapForgeModel", "simple", "(I)Z"⟩, 43), (⟨"MapForgeModel", "push", "(I)Z"⟩, 43), (⟨"MapForgeModel", "slots", "()I"⟩, 43), (⟨"MapForgeModel", "takes", "(ZI)Z"⟩, 43), (⟨"MapForgeModel", "sum", "(I)Z"⟩, 43), (⟨"MapForgeModel", "swap", "(II)Z"⟩, 43), (⟨"MapForgeModel", "is", "(II)Z"⟩, 43)]
theorem lw_r3 : ∀ q ∈ lw_privs_3, lw_okq q := List.forall_mem_cons.mpr ⟨lw_p32, List.forall_mem_cons.mpr ⟨lw_p33, List.forall_mem_cons.mpr ⟨lw_p34, List.forall_mem_cons.mpr ⟨lw_p35, List.forall_mem_cons.mpr ⟨lw_p36, List.forall_mem_cons.mpr ⟨lw_p37, List.forall_mem_cons.mpr ⟨lw_p38, List.forall_mem_cons.mpr ⟨lw_p39, List.forall_mem_cons.mpr ⟨lw_p40, List.forall_mem_cons.mpr ⟨lw_p41, List.forall_mem_cons.mpr ⟨lw_p42, List.forall_mem_cons.mpr ⟨lw_p43, List.forall_mem_cons.mpr ⟨lw_p44, List.forall_mem_cons.mpr ⟨lw_p45, List.forall_mem_cons.mpr ⟨lw_p46, List.forall_mem_cons.mpr ⟨lw_p47, fun _ h => absurd h List.not_mem_nil⟩⟩⟩⟩⟩⟩⟩⟩⟩⟩⟩⟩⟩⟩⟩⟩
theorem lw_p48 : lw_okq (⟨"MapForgeModel", "move", "(II)Z"⟩, 43) := ⟨⟨by decide +kernel, by decide +kernel⟩, List.mem_of_getElem? (i := 853) (by decide +kernel), List.mem_of_getElem? (i := 1099) (by decide +kernel), List.mem_of_getElem? (i := 1100) (by decide +kernel)⟩
theorem lw_p49 : lw_okq (⟨"MapForgeModel", "offset", "(I)I"⟩, 43) := ⟨⟨by decide +kernel, by decide +kernel⟩, List.mem_of_getElem? (i := 853) (by decide +kernel), List.mem_of_getElem? (i := 1112) (by decide +kernel), List.mem_of_getElem? (i := 1113) (by decide +kernel)⟩
theorem lw_p50 : lw_okq (⟨"MapForgeModel", "init", "(I)Z"⟩, 43) := ⟨⟨by decide +kernel, by decide +kernel⟩, List.mem_of_getElem? (i := 853) (by decide +kernel), List.mem_of_getElem? (i := 1119) (by decide +kernel), List.mem_of_getElem? (i := 1120) (by decide +kernel)⟩
theorem lw_p51 : lw_okq (⟨"MapForgeModel", "placeAt", "(I)I"⟩, 43) := ⟨⟨by decide +kernel, by decide +kernel⟩, List.mem_of_getElem? (i := 853) (by decide +kernel), List.mem_of_getElem? (i := 1123) (by decide +kernel), List.mem_of_getElem? (i := 1124) (by decide +kernel)⟩
theorem lw_p52 : lw_okq (⟨"MapForgeModel", "goHandled", "(I)V"⟩, 43) := ⟨⟨by decide +kernel, by decide +kernel⟩, List.mem_of_getElem? (i := 853) (by decide +kernel), List.mem_of_getElem? (i := 1130) (by decide +kernel), List.mem_of_getElem? (i := 1131) (by decide +kernel)⟩
theorem lw_p53 : lw_okq (⟨"MapForgeModel", "hasRow", "(I)Z"⟩, 43) := ⟨⟨by decide +kernel, by decide +kernel⟩, List.mem_of_getElem? (i := 853) (by decide +kernel), List.mem_of_getElem? (i := 1134) (by decide +kernel), List.mem_of_getElem? (i := 1135) (by decide +kernel)⟩
theorem lw_p54 : lw_okq (⟨"MapForgeModel", "hasThis", "(I)Z"⟩, 43) := ⟨⟨by decide +kernel, by decide +kernel⟩, List.mem_of_getElem? (i := 853) (by decide +kernel), List.mem_of_getElem? (i := 1138) (by decide +kernel), List.mem_of_getElem? (i := 1139) (by decide +kernel)⟩
theorem lw_p55 : lw_okq (⟨"MapForgeModel", "enlist", "()V"⟩, 43) := ⟨⟨by decide +kernel, by decide +kernel⟩, List.mem_of_getElem? (i := 853) (by decide +kernel), List.mem_of_getElem? (i := 1146) (by decide +kernel), List.mem_of_getElem? (i := 1147) (by decide +kernel)⟩
theorem lw_p56 : lw_okq (⟨"MapForgeModel", "keep", "()V"⟩, 43) := ⟨⟨by decide +kernel, by decide +kernel⟩, List.mem_of_getElem? (i := 853) (by decide +kernel), List.mem_of_getElem? (i := 1150) (by decide +kernel), List.mem_of_getElem? (i := 1151) (by decide +kernel)⟩
theorem lw_p57 : lw_okq (⟨"MapForgeModel", "writeRow", "(I)V"⟩, 43) := ⟨⟨by decide +kernel, by decide +kernel⟩, List.mem_of_getElem? (i := 853) (by decide +kernel), List.mem_of_getElem? (i := 1154) (by decide +kernel), List.mem_of_getElem? (i := 1155) (by decide +kernel)⟩
theorem lw_p58 : lw_okq (⟨"MapForgeModel", "begins", "()Z"⟩, 43) := ⟨⟨by decide +kernel, by decide +kernel⟩, List.mem_of_getElem? (i := 853) (by decide +kernel), List.mem_of_getElem? (i := 1158) (by decide +kernel), List.mem_of_getElem? (i := 1159) (by decide +kernel)⟩
theorem lw_p59 : lw_okq (⟨"MapForgeModel", "write", "(I)V"⟩, 43) := ⟨⟨by decide +kernel, by decide +kernel⟩, List.mem_of_getElem? (i := 853) (by decide +kernel), List.mem_of_getElem? (i := 1162) (by decide +kernel), List.mem_of_getElem? (i := 1163) (by decide +kernel)⟩
theorem lw_p60 : lw_okq (⟨"MapForgeModel", "writeTwo", "(I)V"⟩, 43) := ⟨⟨by decide +kernel, by decide +kernel⟩, List.mem_of_getElem? (i := 853) (by decide +kernel), List.mem_of_getElem? (i := 1166) (by decide +kernel), List.mem_of_getElem? (i := 1167) (by decide +kernel)⟩
theorem lw_p61 : lw_okq (⟨"MapForgeModel", "writeType", "(I)V"⟩, 43) := ⟨⟨by decide +kernel, by decide +kernel⟩, List.mem_of_getElem? (i := 853) (by decide +kernel), List.mem_of_getElem? (i := 1170) (by decide +kernel), List.mem_of_getElem? (i := 1171) (by decide +kernel)⟩
theorem lw_p62 : lw_okq (⟨"MapForgeModel", "readRows", "()Z"⟩, 43) := ⟨⟨by decide +kernel, by decide +kernel⟩, List.mem_of_getElem? (i := 853) (by decide +kernel), List.mem_of_getElem? (i := 1178) (by decide +kernel), List.mem_of_getElem? (i := 1179) (by decide +kernel)⟩
theorem lw_p63 : lw_okq (⟨"MapForgeModel", "byteNext", "()I"⟩, 43) := ⟨⟨by decide +kernel, by decide +kernel⟩, List.mem_of_getElem? (i := 853) (by decide +kernel), List.mem_of_getElem? (i := 1182) (by decide +kernel), List.mem_of_getElem? (i := 1183) (by decide +kernel)⟩
def lw_privs_4 : List (MethodName × Nat) := [(⟨"MapForgeModel", "move", "(II)Z"⟩, 43), (⟨"MapForgeModel", "offset", "(I)I"⟩, 43), (⟨"MapForgeModel", "init", "(I)Z"⟩, 43), (⟨"MapForgeModel", "placeAt", "(I)I"⟩, 43), (⟨"MapForgeModel", "goHandled", "(I)V"⟩, 43), (⟨"MapForgeModel", "hasRow", "(I)Z"⟩, 43), (⟨"MapForgeModel", "hasThis", "(I)Z"⟩, 43), (⟨"MapForgeModel", "enlist", "()V"⟩, 43), (⟨"MapForgeModel", "keep", "()V"⟩, 43), (⟨"MapForgeModel", "writeRow", "(I)V"⟩, 43), (⟨"MapForgeModel", "begins", "()Z"⟩, 43), (⟨"MapForgeModel", "write", "(I)V"⟩, 43), (⟨"MapForgeModel", "writeTwo", "(I)V"⟩, 43), (⟨"MapForgeModel", "writeType", "(I)V"⟩, 43), (⟨"MapForgeModel", "readRows", "()Z"⟩, 43), (⟨"MapForgeModel", "byteNext", "()I"⟩, 43)]
theorem lw_r4 : ∀ q ∈ lw_privs_4, lw_okq q := List.forall_mem_cons.mpr ⟨lw_p48, List.forall_mem_cons.mpr ⟨lw_p49, List.forall_mem_cons.mpr ⟨lw_p50, List.forall_mem_cons.mpr ⟨lw_p51, List.forall_mem_cons.mpr ⟨lw_p52, List.forall_mem_cons.mpr ⟨lw_p53, List.forall_mem_cons.mpr ⟨lw_p54, List.forall_mem_cons.mpr ⟨lw_p55, List.forall_mem_cons.mpr ⟨lw_p56, List.forall_mem_cons.mpr ⟨lw_p57, List.forall_mem_cons.mpr ⟨lw_p58, List.forall_mem_cons.mpr ⟨lw_p59, List.forall_mem_cons.mpr ⟨lw_p60, List.forall_mem_cons.mpr ⟨lw_p61, List.forall_mem_cons.mpr ⟨lw_p62, List.forall_mem_cons.mpr ⟨lw_p63, fun _ h => absurd h List.not_mem_nil⟩⟩⟩⟩⟩⟩⟩⟩⟩⟩⟩⟩⟩⟩⟩⟩
theorem lw_p64 : lw_okq (⟨"MapForgeModel", "readForm", "(I)I"⟩, 43) := ⟨⟨by decide +kernel, by decide +kernel⟩, List.mem_of_getElem? (i := 853) (by decide +kernel), List.mem_of_getElem? (i := 1186) (by decide +kernel), List.mem_of_getElem? (i := 1187) (by decide +kernel)⟩
theorem lw_p65 : lw_okq (⟨"MapForgeModel", "twoNext", "()I"⟩, 43) := ⟨⟨by decide +kernel, by decide +kernel⟩, List.mem_of_getElem? (i := 853) (by decide +kernel), List.mem_of_getElem? (i := 1190) (by decide +kernel), List.mem_of_getElem? (i := 1191) (by decide +kernel)⟩
theorem lw_p66 : lw_okq (⟨"MapForgeModel", "stackNext", "()V"⟩, 43) := ⟨⟨by decide +kernel, by decide +kernel⟩, List.mem_of_getElem? (i := 853) (by decide +kernel), List.mem_of_getElem? (i := 1194) (by decide +kernel), List.mem_of_getElem? (i := 1195) (by decide +kernel)⟩
theorem lw_p67 : lw_okq (⟨"MapForgeModel", "typeNext", "()I"⟩, 43) := ⟨⟨by decide +kernel, by decide +kernel⟩, List.mem_of_getElem? (i := 853) (by decide +kernel), List.mem_of_getElem? (i := 1198) (by decide +kernel), List.mem_of_getElem? (i := 1199) (by decide +kernel)⟩
theorem lw_p68 : lw_okq (⟨"MapForgeModel", "enter", "(I)V"⟩, 43) := ⟨⟨by decide +kernel, by decide +kernel⟩, List.mem_of_getElem? (i := 853) (by decide +kernel), List.mem_of_getElem? (i := 1202) (by decide +kernel), List.mem_of_getElem? (i := 1203) (by decide +kernel)⟩
theorem lw_p69 : lw_okq (⟨"MapForgeModel", "readFull", "()V"⟩, 43) := ⟨⟨by decide +kernel, by decide +kernel⟩, List.mem_of_getElem? (i := 853) (by decide +kernel), List.mem_of_getElem? (i := 1206) (by decide +kernel), List.mem_of_getElem? (i := 1207) (by decide +kernel)⟩
theorem lw_p70 : lw_okq (⟨"MapForgeModel", "rowAt", "(I)I"⟩, 43) := ⟨⟨by decide +kernel, by decide +kernel⟩, List.mem_of_getElem? (i := 853) (by decide +kernel), List.mem_of_getElem? (i := 1210) (by decide +kernel), List.mem_of_getElem? (i := 1211) (by decide +kernel)⟩
theorem lw_p71 : lw_okq (⟨"MapForgeModel", "fits", "(I)Z"⟩, 43) := ⟨⟨by decide +kernel, by decide +kernel⟩, List.mem_of_getElem? (i := 853) (by decide +kernel), List.mem_of_getElem? (i := 1214) (by decide +kernel), List.mem_of_getElem? (i := 1215) (by decide +kernel)⟩
theorem lw_p72 : lw_okq (⟨"MapForgeModel", "rowIsRaw", "(I)Z"⟩, 43) := ⟨⟨by decide +kernel, by decide +kernel⟩, List.mem_of_getElem? (i := 853) (by decide +kernel), List.mem_of_getElem? (i := 1218) (by decide +kernel), List.mem_of_getElem? (i := 1219) (by decide +kernel)⟩
theorem lw_p73 : lw_okq (⟨"MapForgeModel", "take", "(I)V"⟩, 43) := ⟨⟨by decide +kernel, by decide +kernel⟩, List.mem_of_getElem? (i := 853) (by decide +kernel), List.mem_of_getElem? (i := 1222) (by decide +kernel), List.mem_of_getElem? (i := 1223) (by decide +kernel)⟩
theorem lw_p74 : lw_okq (⟨"MapForgeModel", "handled", "(I)Z"⟩, 43) := ⟨⟨by decide +kernel, by decide +kernel⟩, List.mem_of_getElem? (i := 853) (by decide +kernel), List.mem_of_getElem? (i := 1226) (by decide +kernel), List.mem_of_getElem? (i := 1227) (by decide +kernel)⟩
theorem lw_p75 : lw_okq (⟨"MapForgeModel", "fitsAt", "(I)Z"⟩, 43) := ⟨⟨by decide +kernel, by decide +kernel⟩, List.mem_of_getElem? (i := 853) (by decide +kernel), List.mem_of_getElem? (i := 1230) (by decide +kernel), List.mem_of_getElem? (i := 1231) (by decide +kernel)⟩
def lw_privs_5 : List (MethodName × Nat) := [(⟨"MapForgeModel", "readForm", "(I)I"⟩, 43), (⟨"MapForgeModel", "twoNext", "()I"⟩, 43), (⟨"MapForgeModel", "stackNext", "()V"⟩, 43), (⟨"MapForgeModel", "typeNext", "()I"⟩, 43), (⟨"MapForgeModel", "enter", "(I)V"⟩, 43), (⟨"MapForgeModel", "readFull", "()V"⟩, 43), (⟨"MapForgeModel", "rowAt", "(I)I"⟩, 43), (⟨"MapForgeModel", "fits", "(I)Z"⟩, 43), (⟨"MapForgeModel", "rowIsRaw", "(I)Z"⟩, 43), (⟨"MapForgeModel", "take", "(I)V"⟩, 43), (⟨"MapForgeModel", "handled", "(I)Z"⟩, 43), (⟨"MapForgeModel", "fitsAt", "(I)Z"⟩, 43)]
theorem lw_r5 : ∀ q ∈ lw_privs_5, lw_okq q := List.forall_mem_cons.mpr ⟨lw_p64, List.forall_mem_cons.mpr ⟨lw_p65, List.forall_mem_cons.mpr ⟨lw_p66, List.forall_mem_cons.mpr ⟨lw_p67, List.forall_mem_cons.mpr ⟨lw_p68, List.forall_mem_cons.mpr ⟨lw_p69, List.forall_mem_cons.mpr ⟨lw_p70, List.forall_mem_cons.mpr ⟨lw_p71, List.forall_mem_cons.mpr ⟨lw_p72, List.forall_mem_cons.mpr ⟨lw_p73, List.forall_mem_cons.mpr ⟨lw_p74, List.forall_mem_cons.mpr ⟨lw_p75, fun _ h => absurd h List.not_mem_nil⟩⟩⟩⟩⟩⟩⟩⟩⟩⟩⟩⟩
def lw_privs : List (MethodName × Nat) := lw_privs_1 ++ (lw_privs_2 ++ (lw_privs_3 ++ (lw_privs_4 ++ (lw_privs_5))))
def lw_tbl : List Cond := k2_sels lw_privs ++ tables_1
theorem lw_privs_ok : ∀ q ∈ lw_privs, lw_okq q := by
  show ∀ q ∈ lw_privs_1 ++ (lw_privs_2 ++ (lw_privs_3 ++ (lw_privs_4 ++ (lw_privs_5)))), lw_okq q
  exact List.forall_mem_append.mpr ⟨lw_r1, List.forall_mem_append.mpr ⟨lw_r2, List.forall_mem_append.mpr ⟨lw_r3, List.forall_mem_append.mpr ⟨lw_r4, lw_r5⟩⟩⟩⟩
end
section
/-! THE ABSTRACT MACHINE: it runs a method's decoded code over a store of numbers; every object has a sort and an index, every reference is known by the layout. -/
abbrev zm_V : Type := Int32 ⊕ (Nat × Nat)
abbrev zm_L : Type := List (Option zm_V)
abbrev zm_M : Type := Nat → Nat → Nat → Int32
abbrev zm_C : Type := List (Nat × Jvm.ClassFile.Instr × Nat × List Nat)
def zm_up (M : zm_M) (s i k : Nat) (x : Int32) : zm_M := fun s' i' k' => if s' = s ∧ i' = i ∧ k' = k then x else M s' i' k'
def zm_ua (M : zm_M) (s i : Nat) (f : Nat → Int32) : zm_M := fun s' i' k' => if s' = s ∧ i' = i then f k' else M s' i' k'
/-- the layout: kind of a sort (0 object, 1 ints, 2 booleans, 3 references, 4 constant ints), class, length, reference in a field, element, how many, how many sorts, a constant's ints, kind of a field (0 int, 1 boolean, 2 fixed) -/
abbrev zm_Y : Type := (Nat → Nat) × (Nat → Nat) × (Nat → Nat) × (Nat → Nat → Nat → Option (Nat × Nat)) × (Nat → Nat → Nat → Nat × Nat) × (Nat → Nat) × Nat × (Nat → Nat → Int32) × (Nat → Nat → Nat)
def zy_k (Y : zm_Y) : Nat → Nat := Y.1
def zy_c (Y : zm_Y) : Nat → Nat := Y.2.1
def zy_n (Y : zm_Y) : Nat → Nat := Y.2.2.1
def zy_r (Y : zm_Y) : Nat → Nat → Nat → Option (Nat × Nat) := Y.2.2.2.1
def zy_e (Y : zm_Y) : Nat → Nat → Nat → Nat × Nat := Y.2.2.2.2.1
def zy_m (Y : zm_Y) : Nat → Nat := Y.2.2.2.2.2.1
def zy_s (Y : zm_Y) : Nat := Y.2.2.2.2.2.2.1
def zy_t (Y : zm_Y) : Nat → Nat → Int32 := Y.2.2.2.2.2.2.2.1
def zy_f (Y : zm_Y) : Nat → Nat → Nat := Y.2.2.2.2.2.2.2.2
/-- a callee: how many it takes, and what it does -/
abbrev zm_F : Type := Nat × ((List zm_V → zm_M → Option (Int32 × zm_M)) ⊕ ((List zm_V → zm_M → Option zm_M) ⊕ (List zm_V → zm_M → Option ((Nat × Nat) × zm_M))))
/-- a method's links: fields, constants, statics, callees (2 * entry for static ones, 2 * entry + 1 for others) -/
abbrev zm_X : Type := (Nat → Option (Nat × Nat)) × (Nat → Option Int32) × (Nat → Option (Nat × Nat)) × (Nat → Option zm_F)
def zm_li {T : Type} (lo : zm_L) (i : Nat) (k : Int32 → Option T) : Option T := match lo[i]? with
  | some (some (.inl x)) => k x
  | _ => none
def zm_la {T : Type} (lo : zm_L) (i : Nat) (k : Nat × Nat → Option T) : Option T := match lo[i]? with
  | some (some (.inr x)) => k x
  | _ => none
def zm_sl {T : Type} (lo : zm_L) (i : Nat) (v : zm_V) (k : zm_L → Option T) : Option T := match lo[i]? with
  | some _ => k (lo.set i (some v))
  | none => none
def zm_b2 {T : Type} (st : List zm_V) (k : Int32 → Int32 → List zm_V → Option T) : Option T := match st with
  | .inl y :: .inl x :: r => k x y r
  | _ => none
def zm_b1 {T : Type} (st : List zm_V) (k : Int32 → List zm_V → Option T) : Option T := match st with
  | .inl x :: r => k x r
  | _ => none
def zm_cm {T : Type} (c : Jvm.ClassFile.Cond) (x y : Int32) (a b : Option T) : Option T := match c with
  | .eq => if x = y then a else b
  | .ne => if x = y then b else a
  | .lt => if x < y then a else b
  | .ge => if x < y then b else a
  | .gt => if y < x then a else b
  | .le => if y < x then b else a
def zm_t0 {T : Type} (ts : List Nat) (k : Nat → Option T) : Option T := match ts with
  | t :: _ => k t
  | [] => none
def zm_sw {T : Type} (x : Int32) : Int → List Nat → Nat → (Nat → Option T) → Option T
  | _, [], d, k => k d
  | v, t :: ts, d, k => if x = Int32.ofInt v then k t else zm_sw x (v + 1) ts d k
def zm_iv {T : Type} (f : Option zm_F) (K : List zm_V → zm_M → Option T) (st : List zm_V) (M : zm_M) : Option T := match f with
  | some (n, f) => match Nat.ble n st.length && Nat.ble st.length (n + 8) with
    | true => match f with
      | .inl f => (f (st.take n).reverse M).bind fun q => K (.inl q.1 :: st.drop n) q.2
      | .inr (.inl f) => (f (st.take n).reverse M).bind fun q => K (st.drop n) q
      | .inr (.inr f) => (f (st.take n).reverse M).bind fun q => K (.inr q.1 :: st.drop n) q.2
    | false => none
  | none => none
def zm_gf {T : Type} (Y : zm_Y) (f : Option (Nat × Nat)) (r : Nat × Nat) (M : zm_M) (k : zm_V → Option T) : Option T := match f with
  | some (c, j) => match Nat.beq (zy_k Y r.1) 0 && Nat.beq (zy_c Y r.1) c with
    | true => match zy_r Y r.1 r.2 j with
      | none => k (.inl (M r.1 r.2 j))
      | some q => k (.inr q)
    | false => none
  | none => none
def zm_pf {T : Type} (Y : zm_Y) (f : Option (Nat × Nat)) (r : Nat × Nat) (x : Int32) (M : zm_M) (k : zm_M → Option T) : Option T := match f with
  | some (c, j) => match Nat.beq (zy_k Y r.1) 0 && Nat.beq (zy_c Y r.1) c with
    | true => match zy_f Y c j with
      | 0 => k (zm_up M r.1 r.2 j x)
      | 1 => if x = 0 ∨ x = 1 then k (zm_up M r.1 r.2 j x) else none
      | _ => none
    | false => none
  | none => none
/-- one instruction; K goes on, ret ends -/
def zm_ex {T : Type} (Y : zm_Y) (X : zm_X) (ret : Option zm_V → zm_M → Option T) (K : Nat → zm_L → List zm_V → zm_M → Option T) (nx : Nat) (ts : List Nat) (lo : zm_L) (st : List zm_V) (M : zm_M) (ins : Jvm.ClassFile.Instr) : Option T := match ins with
  | .iconst n => K nx lo (.inl (Int32.ofInt n) :: st) M
  | .bipush n => K nx lo (.inl (Int8.ofInt n).toInt32 :: st) M
  | .sipush n => K nx lo (.inl (Int16.ofInt n).toInt32 :: st) M
  | .ldc i => match X.2.1 i with
    | some v => K nx lo (.inl v :: st) M
    | none => none
  | .iload i => zm_li lo i fun v => K nx lo (.inl v :: st) M
  | .iload_n i => zm_li lo i fun v => K nx lo (.inl v :: st) M
  | .aload i => zm_la lo i fun v => K nx lo (.inr v :: st) M
  | .aload_n i => zm_la lo i fun v => K nx lo (.inr v :: st) M
  | .istore i => zm_b1 st fun x r => zm_sl lo i (.inl x) fun lo => K nx lo r M
  | .istore_n i => zm_b1 st fun x r => zm_sl lo i (.inl x) fun lo => K nx lo r M
  | .astore i => match st with
    | .inr x :: r => zm_sl lo i (.inr x) fun lo => K nx lo r M
    | _ => none
  | .astore_n i => match st with
    | .inr x :: r => zm_sl lo i (.inr x) fun lo => K nx lo r M
    | _ => none
  | .iinc i n => zm_li lo i fun x => zm_sl lo i (.inl (x + Int32.ofInt n)) fun lo => K nx lo st M
  | .iadd => zm_b2 st fun x y r => K nx lo (.inl (x + y) :: r) M
  | .isub => zm_b2 st fun x y r => K nx lo (.inl (x - y) :: r) M
  | .imul => zm_b2 st fun x y r => K nx lo (.inl (x * y) :: r) M
  | .iand => zm_b2 st fun x y r => K nx lo (.inl (x &&& y) :: r) M
  | .ior => zm_b2 st fun x y r => K nx lo (.inl (x ||| y) :: r) M
  | .ixor => zm_b2 st fun x y r => K nx lo (.inl (x ^^^ y) :: r) M
  | .ishl => zm_b2 st fun x y r => K nx lo (.inl (x <<< (y &&& 31)) :: r) M
  | .ishr => zm_b2 st fun x y r => K nx lo (.inl (x >>> (y &&& 31)) :: r) M
  | .iushr => zm_b2 st fun x y r => K nx lo (.inl (x.toUInt32 >>> (y.toUInt32 &&& Int32.toUInt32 31)).toInt32 :: r) M
  | .idiv => zm_b2 st fun x y r => if y = 0 then none else K nx lo (.inl (x / y) :: r) M
  | .irem => zm_b2 st fun x y r => if y = 0 then none else K nx lo (.inl (x - x / y * y) :: r) M
  | .ineg => zm_b1 st fun x r => K nx lo (.inl (-x) :: r) M
  | .i2b => zm_b1 st fun x r => K nx lo (.inl x.toInt8.toInt32 :: r) M
  | .dup => match st with
    | v :: r => K nx lo (v :: v :: r) M
    | _ => none
  | .pop => match st with
    | _ :: r => K nx lo r M
    | _ => none
  | .dup_x1 => match st with
    | a :: b :: r => K nx lo (a :: b :: a :: r) M
    | _ => none
  | .dup2 => match st with
    | a :: b :: r => K nx lo (a :: b :: a :: b :: r) M
    | _ => none
  | .goto _ => zm_t0 ts fun t => K t lo st M
  | .ifCond c _ => zm_b1 st fun x r => zm_t0 ts fun t => zm_cm c x 0 (K t lo r M) (K nx lo r M)
  | .if_icmp c _ => zm_b2 st fun x y r => zm_t0 ts fun t => zm_cm c x y (K t lo r M) (K nx lo r M)
  | .tableswitch _ v _ _ => zm_b1 st fun x r => match ts with
    | d :: ts => zm_sw x v ts d fun t => K t lo r M
    | [] => none
  | .getfield i => match st with
    | .inr q :: r => zm_gf Y (X.1 i) q M fun v => K nx lo (v :: r) M
    | _ => none
  | .putfield i => match st with
    | .inl x :: .inr q :: r => zm_pf Y (X.1 i) q x M fun M => K nx lo r M
    | _ => none
  | .getstatic i => match X.2.2.1 i with
    | some q => K nx lo (.inr q :: st) M
    | none => none
  | .arraylength => match st with
    | .inr q :: r => match zy_k Y q.1 with
      | 0 => none
      | _ => K nx lo (.inl (nI (zy_n Y q.1)) :: r) M
    | _ => none
  | .iaload => match st with
    | .inl i :: .inr q :: r => match zy_k Y q.1 with
      | 1 => if i < 0 ∨ zy_n Y q.1 ≤ i.toNatClampNeg then none else K nx lo (.inl (M q.1 q.2 i.toNatClampNeg) :: r) M
      | 4 => if i < 0 ∨ zy_n Y q.1 ≤ i.toNatClampNeg then none else K nx lo (.inl (zy_t Y q.1 i.toNatClampNeg) :: r) M
      | _ => none
    | _ => none
  | .baload => match st with
    | .inl i :: .inr q :: r => match zy_k Y q.1 with
      | 2 => if i < 0 ∨ zy_n Y q.1 ≤ i.toNatClampNeg then none else K nx lo (.inl (M q.1 q.2 i.toNatClampNeg) :: r) M
      | _ => none
    | _ => none
  | .aaload => match st with
    | .inl i :: .inr q :: r => match zy_k Y q.1 with
      | 3 => if i < 0 ∨ zy_n Y q.1 ≤ i.toNatClampNeg then none else K nx lo (.inr (zy_e Y q.1 q.2 i.toNatClampNeg) :: r) M
      | _ => none
    | _ => none
  | .iastore => match st with
    | .inl x :: .inl i :: .inr q :: r => match zy_k Y q.1 with
      | 1 => if i < 0 ∨ zy_n Y q.1 ≤ i.toNatClampNeg then none else K nx lo r (zm_up M q.1 q.2 i.toNatClampNeg x)
      | _ => none
    | _ => none
  | .bastore => match st with
    | .inl x :: .inl i :: .inr q :: r => match zy_k Y q.1 with
      | 2 => if i < 0 ∨ zy_n Y q.1 ≤ i.toNatClampNeg then none else K nx lo r (zm_up M q.1 q.2 i.toNatClampNeg (x &&& 1))
      | _ => none
    | _ => none
  | .invokevirtual i => zm_iv (X.2.2.2 (2 * i + 1)) (fun st M => K nx lo st M) st M
  | .invokestatic i => zm_iv (X.2.2.2 (2 * i)) (fun st M => K nx lo st M) st M
  | .ireturn => match st with
    | [.inl x] => ret (some (.inl x)) M
    | _ => none
  | .areturn => match st with
    | [.inr x] => ret (some (.inr x)) M
    | _ => none
  | .return_ => match st with
    | [] => ret none M
    | _ => none
  | _ => none
/-- from a place on, over the rest of the code; a way back goes to 'back' -/
def zm_go {T : Type} (Y : zm_Y) (X : zm_X) (ret : Option zm_V → zm_M → Option T) (back : Nat → zm_L → List zm_V → zm_M → Option T) : zm_C → Nat → zm_L → List zm_V → zm_M → Option T
  | [], _, _, _, _ => none
  | (q, ins, nx, ts) :: code, pc, lo, st, M => match Nat.beq q pc with
    | true => zm_ex Y X ret (fun pc' lo st M => match Nat.ble pc' q with
      | true => back pc' lo st M
      | false => zm_go Y X ret back code pc' lo st M) nx ts lo st M ins
    | false => zm_go Y X ret back code pc lo st M
/-- with at most n ways back -/
def zm_rn {T : Type} (Y : zm_Y) (X : zm_X) (ret : Option zm_V → zm_M → Option T) (code : zm_C) : Nat → Nat → zm_L → List zm_V → zm_M → Option T
  | 0, _, _, _, _ => none
  | n + 1, pc, lo, st, M => zm_go Y X ret (zm_rn Y X ret code n) code pc lo st M
end
section
/-! THE ABSTRACT MACHINE IS SOUND: where it comes to an end, the machine comes to the same. -/
def zc_v (ad : Nat × Nat → Nat) : zm_V → Value
  | .inl x => .int x
  | .inr r => .ref (ad r)
theorem zc_v_cat (ad : Nat × Nat → Nat) (v : zm_V) : (zc_v ad v).category = 1 := by cases v <;> rfl
def zy_ok (Y : zm_Y) (r : Nat × Nat) : Prop := zy_k Y r.1 = 4 ∨ (r.1 < zy_s Y ∧ r.2 < zy_m Y r.1)
def zv_ok (Y : zm_Y) : zm_V → Prop
  | .inl _ => True
  | .inr r => zy_ok Y r
def zy_d (Y : zm_Y) : List (Nat × Nat) := (List.range (zy_s Y)).flatMap fun s => (List.range (zy_m Y s)).map fun i => (s, i)
theorem zy_d_mem {Y : zm_Y} {r : Nat × Nat} : r ∈ zy_d Y ↔ r.1 < zy_s Y ∧ r.2 < zy_m Y r.1 := by
  obtain ⟨s, i⟩ := r
  simp only [zy_d, List.mem_flatMap, List.mem_range, List.mem_map, Prod.mk.injEq]
  constructor
  · rintro ⟨a, h1, b, h2, rfl, rfl⟩
    exact ⟨h1, h2⟩
  · rintro ⟨h1, h2⟩
    exact ⟨s, h1, i, h2, rfl, rfl⟩
/-- a cell of the store, as the kit's worlds have it -/
def zc_e (Y : zm_Y) (ad : Nat × Nat → Nat) (cA : Nat → ClassId) (M : zm_M) (r : Nat × Nat) : va_E := match zy_k Y r.1 with
  | 0 => .inr (zy_c Y r.1, (List.range (zy_n Y r.1)).map fun k => match zy_r Y r.1 r.2 k with
    | none => .int (M r.1 r.2 k)
    | some q => .ref (ad q))
  | 3 => .inl (cA r.1, zy_n Y r.1, .inr (.inr (.inr (.inr fun j => some (ad (zy_e Y r.1 r.2 j))))))
  | _ => .inl (cA r.1, zy_n Y r.1, .inl (M r.1 r.2))
def zc_w (Y : zm_Y) (ad : Nat × Nat → Nat) (cA : Nat → ClassId) (M : zm_M) : va_W := (zy_d Y).map fun r => (ad r, zc_e Y ad cA M r)
theorem zc_at {Y : zm_Y} {ad : Nat × Nat → Nat} {cA : Nat → ClassId} {M : zm_M} {r : Nat × Nat} (h : r ∈ zy_d Y) : ∃ q0 : Nat, (zc_w Y ad cA M)[q0]? = some (ad r, zc_e Y ad cA M r) :=
  List.getElem?_of_mem (List.mem_map.mpr ⟨r, h, rfl⟩)
theorem zc_get {Y : zm_Y} {ad : Nat × Nat → Nat} {cA : Nat → ClassId} {M : zm_M} {k : Nat} : (zc_w Y ad cA M)[k]? = ((zy_d Y)[k]?).map fun r => (ad r, zc_e Y ad cA M r) := by
  simp [zc_w]
theorem zc_set {Y : zm_Y} {ad : Nat × Nat → Nat} {cA : Nat → ClassId} {M M' : zm_M} {r : Nat × Nat} {q0 : Nat} {A : Nat → Prop} (hD : va_D A (zc_w Y ad cA M)) (hi : ∀ x ∈ zy_d Y, ∀ y ∈ zy_d Y, ad x = ad y → x = y) (hr : r ∈ zy_d Y) (h : (zc_w Y ad cA M)[q0]? = some (ad r, zc_e Y ad cA M r))
    (ho : ∀ x, x ≠ r → zc_e Y ad cA M' x = zc_e Y ad cA M x) : (zc_w Y ad cA M).set q0 (ad r, zc_e Y ad cA M' r) = zc_w Y ad cA M' := by
  apply List.ext_getElem?
  intro k
  have hl := (List.getElem?_eq_some_iff.mp h).1
  by_cases hk : k = q0
  · subst hk
    rw [List.getElem?_set_self hl, zc_get]
    rw [zc_get] at h
    cases hd : (zy_d Y)[k]? with
    | none => rw [hd] at h; cases h
    | some x =>
      rw [hd] at h
      have hx : ad x = ad r := congrArg Prod.fst (Option.some.inj h)
      have hxr := hi x (List.mem_of_getElem? hd) r hr hx
      subst hxr
      rfl
  · rw [List.getElem?_set_ne (Ne.symm hk), zc_get, zc_get]
    cases hd : (zy_d Y)[k]? with
    | none => rfl
    | some x =>
      have hne : x ≠ r := by
        rintro rfl
        exact hk (hD.1 k q0 _ _ (by rw [zc_get, hd]; rfl) h rfl)
      show some (ad x, zc_e Y ad cA M x) = some (ad x, zc_e Y ad cA M' x)
      rw [ho x hne]
/-- locals -/
def zl_ok (Y : zm_Y) (ad : Nat × Nat → Nat) (ls : Array Slot) (nL : Nat) (lo : zm_L) : Prop := lo.length = nL ∧ ls.size = nL ∧ lv_wf ls ∧ ∀ (i : Nat) (v : zm_V), lo[i]? = some (some v) → ls[i]? = some (.val (zc_v ad v)) ∧ zv_ok Y v
def zl_l (ad : Nat × Nat → Nat) (lo : zm_L) : List (Nat × Value) := (List.range lo.length).filterMap fun j => match lo[j]? with
  | some (some v) => some (j, zc_v ad v)
  | _ => none
theorem zl_mem {ad : Nat × Nat → Nat} {lo : zm_L} {q : Nat × Value} : q ∈ zl_l ad lo ↔ ∃ v, lo[q.1]? = some (some v) ∧ q.2 = zc_v ad v := by
  obtain ⟨i, w⟩ := q
  simp only [zl_l, List.mem_filterMap, List.mem_range]
  constructor
  · rintro ⟨j, hj, h⟩
    split at h
    · next v hv => cases h; exact ⟨v, hv, rfl⟩
    · cases h
  · rintro ⟨v, h1, h2⟩
    refine ⟨i, (List.getElem?_eq_some_iff.mp h1).1, ?_⟩
    rw [h1]
    simp only [h2]
theorem zl_has {Y : zm_Y} {ad : Nat × Nat → Nat} {ls : Array Slot} {nL : Nat} {lo : zm_L} (h : zl_ok Y ad ls nL lo) : lv_has ls nL (zl_l ad lo) :=
  ⟨h.2.1, h.2.2.1, fun q hq => by obtain ⟨v, h1, h2⟩ := zl_mem.mp hq; rw [h2]; exact (h.2.2.2 q.1 v h1).1⟩
theorem zl_set {Y : zm_Y} {ad : Nat × Nat → Nat} {ls ls' : Array Slot} {nL i : Nat} {lo : zm_L} {v : zm_V} (h : zl_ok Y ad ls nL lo) (hv : zv_ok Y v) (h' : lv_has ls' nL ((i, zc_v ad v) :: (zl_l ad lo).filter (fun q => !(q.1 == i) && !(q.1 + 1 == i && q.2.category == 2)))) : zl_ok Y ad ls' nL (lo.set i (some v)) := by
  refine ⟨by rw [List.length_set]; exact h.1, h'.1, h'.2.1, fun j w hw => ?_⟩
  by_cases hj : j = i
  · subst hj
    have hlt : j < lo.length := by
      have := (List.getElem?_eq_some_iff.mp hw).1
      rwa [List.length_set] at this
    rw [List.getElem?_set_self hlt] at hw
    cases hw
    exact ⟨h'.2.2 (j, zc_v ad v) List.mem_cons_self, hv⟩
  · rw [List.getElem?_set_ne (Ne.symm hj)] at hw
    refine ⟨h'.2.2 (j, zc_v ad w) (List.mem_cons_of_mem _ (List.mem_filter.mpr ⟨zl_mem.mpr ⟨w, hw, rfl⟩, ?_⟩)), (h.2.2.2 j w hw).2⟩
    simp [hj, zc_v_cat]
/-! the code's table -/
def zm_ln (pc : Nat) : Jvm.ClassFile.Instr → Nat
  | .tableswitch _ _ _ offs => 13 + (3 - pc % 4) + 4 * offs.size
  | .bipush _ => 2
  | .sipush _ => 3
  | .ldc _ => 2
  | .iload _ => 2
  | .aload _ => 2
  | .istore _ => 2
  | .astore _ => 2
  | .iinc _ _ => 3
  | .goto _ => 3
  | .ifCond _ _ => 3
  | .if_icmp _ _ => 3
  | .getfield _ => 3
  | .putfield _ => 3
  | .getstatic _ => 3
  | .invokevirtual _ => 3
  | .invokestatic _ => 3
  | .invokespecial _ => 3
  | .new _ => 3
  | .anewarray _ => 3
  | .newarray _ => 2
  | _ => 1
def zm_tj (pc : Nat) (ts : List Nat) (o : Int) : Bool := match ts with
  | t :: _ => decide ((pc : Int) + o = (t : Int))
  | [] => false
def zm_tg (pc : Nat) (ts : List Nat) : Jvm.ClassFile.Instr → Bool
  | .goto o => zm_tj pc ts o
  | .ifCond _ o => zm_tj pc ts o
  | .if_icmp _ o => zm_tj pc ts o
  | .tableswitch d v w offs => match ts with
    | t :: ts => decide ((pc : Int) + d = (t : Int)) && (decide (w + 1 = v + (ts.length : Int)) && (decide (offs.toList.map (fun o => (pc : Int) + o) = ts.map (fun (t : Nat) => (t : Int))) && (decide (-2 ^ 31 ≤ v) && decide (w < 2 ^ 31))))
    | [] => false
  | _ => true
def zm_en (cc : ByteArray) (q : Nat × Jvm.ClassFile.Instr × Nat × List Nat) : Prop := decode cc q.1 = .ok (q.2.1, zm_ln q.1 q.2.1) ∧ q.2.2.1 = q.1 + zm_ln q.1 q.2.1 ∧ zm_tg q.1 q.2.2.2 q.2.1 = true
theorem zm_sw_ok {T : Type} {t : T} {x : Int32} {d : Nat} {k : Nat → Option T} : ∀ (ts : List Nat) (v : Int), zm_sw x v ts d k = some t → (∃ (j tg : Nat), ts[j]? = some tg ∧ x = Int32.ofInt (v + (j : Int)) ∧ k tg = some t) ∨ ((∀ j : Nat, j < ts.length → x ≠ Int32.ofInt (v + (j : Int))) ∧ k d = some t)
  | [], v, h => Or.inr ⟨fun j hj => absurd hj (Nat.not_lt_zero j), h⟩
  | a :: ts, v, h => by
    unfold zm_sw at h
    split at h
    · next hx => exact Or.inl ⟨0, a, rfl, by simpa using hx, h⟩
    · next hx =>
      rcases zm_sw_ok ts (v + 1) h with ⟨j, tg, h1, h2, h3⟩ | ⟨h1, h2⟩
      · exact Or.inl ⟨j + 1, tg, h1, by rw [h2]; congr 1; omega, h3⟩
      · refine Or.inr ⟨fun j hj => ?_, h2⟩
        cases j with
        | zero => simpa using hx
        | succ j =>
          have h3 := h1 j (by simpa using hj)
          rw [show v + ((j + 1 : Nat) : Int) = v + 1 + (j : Int) by omega]
          exact h3
/-! what a method's frame knows -/
def zg_ok (Y : zm_Y) (cl : List vw_C) (tys : List (ClassId × FieldType)) (ad : Nat × Nat → Nat) (cA : Nat → ClassId) (A : Nat → Prop) : Prop :=
  (∀ M, va_D A (zc_w Y ad cA M)) ∧ (∀ x ∈ zy_d Y, ∀ y ∈ zy_d Y, ad x = ad y → x = y) ∧
  (∀ s, s < zy_s Y → zy_k Y s = 1 → ∃ t0 : Nat, tys[t0]? = some (cA s, .int)) ∧ (∀ s, s < zy_s Y → zy_k Y s = 2 → ∃ t0 : Nat, tys[t0]? = some (cA s, .boolean)) ∧ (∀ s, s < zy_s Y → zy_k Y s = 3 → ∃ (t0 : Nat) (C : String), tys[t0]? = some (cA s, .object C)) ∧
  (∀ s, s < zy_s Y → zy_k Y s = 0 → ∃ (C : String) (T : u_T), cl[zy_c Y s]? = some (C, T, zy_n Y s)) ∧
  (∀ s i k q, s < zy_s Y → i < zy_m Y s → zy_r Y s i k = some q → zy_ok Y q) ∧
  (∀ s i j, s < zy_s Y → i < zy_m Y s → zy_k Y s = 3 → j < zy_n Y s → zy_ok Y (zy_e Y s i j)) ∧
  (∀ s, s < zy_s Y → zy_k Y s < 4) ∧
  (∀ s i k, s < zy_s Y → zy_k Y s = 0 → zy_f Y (zy_c Y s) k < 2 → zy_r Y s i k = none)
def zf_ok (Y : zm_Y) (cl : List vw_C) (Ts : List Cond) (own : String) (fl : Nat → Option (Nat × Nat)) : Prop := ∀ (i c k : Nat), fl i = some (c, k) → ∃ (C : String) (T : u_T) (N : Nat), cl[c]? = some (C, T, N) ∧ k < N ∧ (∀ w ∈ u_ws C T N, w ∈ Ts) ∧
  (Cond.fieldLink own i (T k).1 (T k).2.1 (T k).2.2.1 ∈ Ts ∨ ∃ host, Cond.fieldLinkNest own i (T k).1 (T k).2.1 (T k).2.2.1 host ∈ Ts) ∧
  (∃ ty0 : Nat → FieldType, ∀ k, k < N → parseFieldDescriptor (T k).2.2.1 = some (ty0 k)) ∧ (∀ a, a < N → ∀ b, b < N → a ≠ b → (T a).2.1 ≠ (T b).2.1) ∧
  (zy_f Y c k = 0 → (T k).2.2.2 = false ∧ parseFieldDescriptor (T k).2.2.1 = some .int) ∧ (zy_f Y c k = 1 → (T k).2.2.2 = false ∧ parseFieldDescriptor (T k).2.2.1 = some .boolean)
section ZS
variable {p : Program} {l : Launch} {e : Env} {R : Room} {s : State} {m : MethodId} {args : Array Value} {below : List Frame} {meth : Method} {c : Code} {H : Heap} {locs : List Loc} {cells slots : Nat} {Q : State → Prop}
variable {cc : ByteArray} {pc nL : Nat} {ls : Array Slot} {rest : List Value} {D : va_G} {cl : List vw_C} {tys : List (ClassId × FieldType)} {A : Nat → Prop} {ad : Nat × Nat → Nat} {cA : Nat → ClassId} {Y : zm_Y} {own : String} {Ts : List Cond} {M : zm_M}
/-- the world holds the store M -/
def zs_at (D : va_G) (cl : List vw_C) (Y : zm_Y) (ad : Nat × Nat → Nat) (cA : Nat → ClassId) (A : Nat → Prop) (H0 : Heap) (M : zm_M) (H : Heap) (locs : List Loc) : Prop := va_P D cl (zc_w Y ad cA M) H ∧ va_S A H0 H locs
theorem zs_gf (hx : p.tables.exec = Jvm.exec) (hb : c.code = cc) (hown : s.vm.findClass own = some m.cls) (hts : ∀ w ∈ Ts, w.before args s = true) (hG : zg_ok Y cl tys ad cA A) (hK : va_K D cl tys s) {fl : Nat → Option (Nat × Nat)} (hF : zf_ok Y cl Ts own fl) {T : Type} {t : T} {i : Nat} {r : Nat × Nat} {k : zm_V → Option T} (hr : zy_ok Y r) (h : zm_gf Y (fl i) r M k = some t) (hP : zs_at D cl Y ad cA A s.heap M H locs) (hd : decode cc pc = .ok (.getfield i, 3))
    (kk : ∀ v, zv_ok Y v → k v = some t → W p l e R s m args below meth c H locs cells slots Q (F0 m (pc + 3) ls (zc_v ad v :: rest))) : W p l e R s m args below meth c H locs cells slots Q (F0 m pc ls (.ref (ad r) :: rest)) := by
  unfold zm_gf at h
  split at h
  · next cn j hf =>
    split at h
    · next hc =>
      rw [Bool.and_eq_true, Nat.beq_eq, Nat.beq_eq] at hc
      obtain ⟨hk0, hkc⟩ := hc
      have hdm : r.1 < zy_s Y ∧ r.2 < zy_m Y r.1 := by
        rcases hr with h4 | h4
        · rw [hk0] at h4; cases h4
        · exact h4
      obtain ⟨C, T0, hcl⟩ := hG.2.2.2.2.2.1 r.1 hdm.1 hk0
      obtain ⟨C', T', N', hcl', hjN, hin, hlink, -⟩ := hF i cn j hf
      rw [hkc, hcl'] at hcl
      cases hcl
      obtain ⟨q0, hq0⟩ := zc_at (ad := ad) (cA := cA) (M := M) (zy_d_mem.mpr hdm)
      have he : zc_e Y ad cA M r = .inr (cn, (List.range (zy_n Y r.1)).map fun k => match zy_r Y r.1 r.2 k with
          | none => .int (M r.1 r.2 k)
          | some q => .ref (ad q)) := by
        unfold zc_e
        rw [hk0, hkc]
        rfl
      rw [he] at hq0
      have key : ∀ v : zm_V, zv_ok Y v → k v = some t → ((List.range (zy_n Y r.1)).map fun k => match zy_r Y r.1 r.2 k with
          | none => Value.int (M r.1 r.2 k)
          | some q => .ref (ad q))[j]? = some (zc_v ad v) → W p l e R s m args below meth c H locs cells slots Q (F0 m pc ls (.ref (ad r) :: rest)) := by
        intro v hv hkv hg
        rcases hlink with hl | ⟨host, hl⟩
        · exact va_get hx hb hts hin hown hK hP.1 q0 hq0 hcl' j hjN (hts _ hl) (fun _ h => h) hg hd (kk v hv hkv)
        · exact va_getN hx hb hts hin hown hK hP.1 q0 hq0 hcl' j hjN (hts _ hl) (fun _ h => h) hg hd (kk v hv hkv)
      cases hz : zy_r Y r.1 r.2 j with
      | none =>
        rw [hz] at h
        refine key (.inl (M r.1 r.2 j)) trivial h ?_
        simp [hjN, hz, zc_v]
      | some q =>
        rw [hz] at h
        refine key (.inr q) (hG.2.2.2.2.2.2.1 r.1 r.2 j q hdm.1 hdm.2 hz) h ?_
        simp [hjN, hz, zc_v]
    · cases h
  · cases h
theorem zc_e_ne {Y : zm_Y} {ad : Nat × Nat → Nat} {cA : Nat → ClassId} {M : zm_M} {r x : Nat × Nat} {k : Nat} {v : Int32} (h : x ≠ r) : zc_e Y ad cA (zm_up M r.1 r.2 k v) x = zc_e Y ad cA M x := by
  have hr : ∀ k', zm_up M r.1 r.2 k v x.1 x.2 k' = M x.1 x.2 k' := fun k' => by
    unfold zm_up
    rw [if_neg]
    rintro ⟨h1, h2, -⟩
    exact h (Prod.ext h1 h2)
  have hf : zm_up M r.1 r.2 k v x.1 x.2 = M x.1 x.2 := funext hr
  unfold zc_e
  rw [hf]
theorem zs_pf (hx : p.tables.exec = Jvm.exec) (hb : c.code = cc) (hown : s.vm.findClass own = some m.cls) (hts : ∀ w ∈ Ts, w.before args s = true) (hG : zg_ok Y cl tys ad cA A) (hK : va_K D cl tys s) {fl : Nat → Option (Nat × Nat)} (hF : zf_ok Y cl Ts own fl) {T : Type} {t : T} {i : Nat} {r : Nat × Nat} {x : Int32} {k : zm_M → Option T} (hr : zy_ok Y r) (h : zm_pf Y (fl i) r x M k = some t) (hP : zs_at D cl Y ad cA A s.heap M H locs) (hd : decode cc pc = .ok (.putfield i, 3))
    (kk : ∀ M' H' locs', k M' = some t → zs_at D cl Y ad cA A s.heap M' H' locs' → W p l e R s m args below meth c H' locs' cells slots Q (F0 m (pc + 3) ls rest)) : W p l e R s m args below meth c H locs cells slots Q (F0 m pc ls (.int x :: .ref (ad r) :: rest)) := by
  unfold zm_pf at h
  split at h
  · next cn j hf =>
    split at h
    · next hc =>
      rw [Bool.and_eq_true, Nat.beq_eq, Nat.beq_eq] at hc
      obtain ⟨hk0, hkc⟩ := hc
      have hdm : r.1 < zy_s Y ∧ r.2 < zy_m Y r.1 := by
        rcases hr with h4 | h4
        · rw [hk0] at h4; cases h4
        · exact h4
      obtain ⟨C, T0, hcl⟩ := hG.2.2.2.2.2.1 r.1 hdm.1 hk0
      obtain ⟨C', T', N', hcl', hjN, hin, hlink, ⟨ty0, hty⟩, hnm, hf0, hf1⟩ := hF i cn j hf
      have hcl2 := hcl
      rw [hkc, hcl'] at hcl2
      cases hcl2
      obtain ⟨q0, hq0⟩ := zc_at (ad := ad) (cA := cA) (M := M) (zy_d_mem.mpr hdm)
      have hq1 := hq0
      have he : ∀ M : zm_M, zc_e Y ad cA M r = .inr (cn, (List.range (zy_n Y r.1)).map fun k => match zy_r Y r.1 r.2 k with
          | none => .int (M r.1 r.2 k)
          | some q => .ref (ad q)) := by
        intro M
        unfold zc_e
        rw [hk0, hkc]
        rfl
      rw [he] at hq1
      have key : ∀ (ty : FieldType), (T0 j).2.2.2 = false → parseFieldDescriptor (T0 j).2.2.1 = some ty → zy_f Y cn j < 2 → narrow ty (.int x) = .int x → fits ty (.int x) = true → k (zm_up M r.1 r.2 j x) = some t → W p l e R s m args below meth c H locs cells slots Q (F0 m pc ls (.int x :: .ref (ad r) :: rest)) := by
        intro ty hfin hpd hz2 hnar hfit hk
        have hz : zy_r Y r.1 r.2 j = none := hG.2.2.2.2.2.2.2.2.2 r.1 r.2 j hdm.1 hk0 (by rw [hkc]; exact hz2)
        have hset : (List.range (zy_n Y r.1)).map (fun k => match zy_r Y r.1 r.2 k with
          | none => Value.int (zm_up M r.1 r.2 j x r.1 r.2 k)
          | some q => .ref (ad q)) = ((List.range (zy_n Y r.1)).map (fun k => match zy_r Y r.1 r.2 k with
          | none => Value.int (M r.1 r.2 k)
          | some q => .ref (ad q))).set j (.int x) := by
          apply List.ext_getElem?
          intro n
          by_cases hn : n = j
          · subst hn
            rw [List.getElem?_set_self (by simpa using hjN)]
            simp [hjN, hz, zm_up]
          · rw [List.getElem?_set_ne (Ne.symm hn)]
            simp only [List.getElem?_map, List.getElem?_range]
            by_cases hlt : n < zy_n Y r.1
            · simp [hlt, zm_up, hn]
            · simp [hlt]
        have hws : (zc_w Y ad cA M).set q0 (ad r, .inr (cn, ((List.range (zy_n Y r.1)).map (fun k => match zy_r Y r.1 r.2 k with
          | none => Value.int (M r.1 r.2 k)
          | some q => .ref (ad q))).set j (.int x))) = zc_w Y ad cA (zm_up M r.1 r.2 j x) := by
          rw [← hset, ← he (zm_up M r.1 r.2 j x)]
          exact zc_set (hG.1 M) hG.2.1 (zy_d_mem.mpr hdm) hq0 (fun y hy => zc_e_ne hy)
        rcases hlink with hl | ⟨host, hl⟩
        · refine va_put hx hb hts hin ty0 hty hnm hown hK hP.1 (hG.1 M) hP.2 q0 hq1 hcl' j hjN (hts _ hl) (fun _ h => h) hfin hpd hnar hfit (by simpa using hjN) hd (fun H1 locs1 h1 h2 h3 => ?_)
          rw [hws] at h1
          exact kk _ H1 locs1 hk ⟨h1, h3⟩
        · refine va_putN hx hb hts hin ty0 hty hnm hown hK hP.1 (hG.1 M) hP.2 q0 hq1 hcl' j hjN (hts _ hl) (fun _ h => h) hfin hpd hnar hfit (by simpa using hjN) hd (fun H1 locs1 h1 h2 h3 => ?_)
          rw [hws] at h1
          exact kk _ H1 locs1 hk ⟨h1, h3⟩
      split at h
      · next hz => exact key .int (hf0 hz).1 (hf0 hz).2 (by omega) rfl rfl h
      · next hz =>
        split at h
        · next h01 =>
          refine key .boolean (hf1 hz).1 (hf1 hz).2 (by omega) ?_ ?_ h
          · rcases h01 with rfl | rfl <;> rfl
          · rcases h01 with rfl | rfl <;> rfl
        · cases h
      · cases h
    · cases h
  · cases h
end ZS
end
section
section ZT
variable {p : Program} {l : Launch} {e : Env} {R : Room} {s : State} {m : MethodId} {args : Array Value} {below : List Frame} {meth : Method} {c : Code} {H : Heap} {locs : List Loc} {cells slots : Nat} {Q : State → Prop}
variable {cc : ByteArray} {pc nL : Nat} {ls : Array Slot} {rest : List Value} {D : va_G} {cl : List vw_C} {tys : List (ClassId × FieldType)} {A : Nat → Prop} {ad : Nat × Nat → Nat} {cA : Nat → ClassId} {Y : zm_Y} {own : String} {Ts : List Cond} {M : zm_M}
theorem zs_dom {Y : zm_Y} {r : Nat × Nat} {n : Nat} (h : zy_ok Y r) (hk : zy_k Y r.1 = n) (hn : n ≠ 4) : r.1 < zy_s Y ∧ r.2 < zy_m Y r.1 := by
  rcases h with h | h
  · exact absurd (hk.symm.trans h) hn
  · exact h
theorem zs_arr {Y : zm_Y} {r : Nat × Nat} {M : zm_M} (hk : zy_k Y r.1 = 1 ∨ zy_k Y r.1 = 2) : zc_e Y ad cA M r = .inl (cA r.1, zy_n Y r.1, .inl (M r.1 r.2)) := by
  unfold zc_e
  rcases hk with h | h <;> rw [h] <;> rfl
theorem zs_nin {i : Int32} {n : Nat} (h : ¬ (i < 0 ∨ n ≤ i.toNatClampNeg)) : vp_in i n := h
theorem zs_il (hx : p.tables.exec = Jvm.exec) (hb : c.code = cc) (hG : zg_ok Y cl tys ad cA A) (hK : va_K D cl tys s) {r : Nat × Nat} {i : Int32} (hr : zy_ok Y r) (hk : zy_k Y r.1 = 1) (hin : ¬ (i < 0 ∨ zy_n Y r.1 ≤ i.toNatClampNeg)) (hP : zs_at D cl Y ad cA A s.heap M H locs) (hd : decode cc pc = .ok (.iaload, 1))
    (kk : W p l e R s m args below meth c H locs cells slots Q (F0 m (pc + 1) ls (.int (M r.1 r.2 i.toNatClampNeg) :: rest))) : W p l e R s m args below meth c H locs cells slots Q (F0 m pc ls (.int i :: .ref (ad r) :: rest)) := by
  have hdm := zs_dom hr hk (by decide)
  obtain ⟨q0, hq0⟩ := zc_at (ad := ad) (cA := cA) (M := M) (zy_d_mem.mpr hdm)
  rw [zs_arr (Or.inl hk)] at hq0
  obtain ⟨t0, ht⟩ := hG.2.2.1 r.1 hdm.1 hk
  exact va_iald hx hb hK hP.1 q0 t0 hq0 ht hin hd kk
theorem zs_bl (hx : p.tables.exec = Jvm.exec) (hb : c.code = cc) (hG : zg_ok Y cl tys ad cA A) (hK : va_K D cl tys s) {r : Nat × Nat} {i : Int32} (hr : zy_ok Y r) (hk : zy_k Y r.1 = 2) (hin : ¬ (i < 0 ∨ zy_n Y r.1 ≤ i.toNatClampNeg)) (hP : zs_at D cl Y ad cA A s.heap M H locs) (hd : decode cc pc = .ok (.baload, 1))
    (kk : W p l e R s m args below meth c H locs cells slots Q (F0 m (pc + 1) ls (.int (M r.1 r.2 i.toNatClampNeg) :: rest))) : W p l e R s m args below meth c H locs cells slots Q (F0 m pc ls (.int i :: .ref (ad r) :: rest)) := by
  have hdm := zs_dom hr hk (by decide)
  obtain ⟨q0, hq0⟩ := zc_at (ad := ad) (cA := cA) (M := M) (zy_d_mem.mpr hdm)
  rw [zs_arr (Or.inr hk)] at hq0
  obtain ⟨t0, ht⟩ := hG.2.2.2.1 r.1 hdm.1 hk
  exact va_zald hx hb hK hP.1 q0 t0 hq0 ht hin hd kk
theorem zs_al (hx : p.tables.exec = Jvm.exec) (hb : c.code = cc) (hG : zg_ok Y cl tys ad cA A) (hK : va_K D cl tys s) {r : Nat × Nat} {i : Int32} (hr : zy_ok Y r) (hk : zy_k Y r.1 = 3) (hin : ¬ (i < 0 ∨ zy_n Y r.1 ≤ i.toNatClampNeg)) (hP : zs_at D cl Y ad cA A s.heap M H locs) (hd : decode cc pc = .ok (.aaload, 1))
    (kk : W p l e R s m args below meth c H locs cells slots Q (F0 m (pc + 1) ls (.ref (ad (zy_e Y r.1 r.2 i.toNatClampNeg)) :: rest))) : W p l e R s m args below meth c H locs cells slots Q (F0 m pc ls (.int i :: .ref (ad r) :: rest)) := by
  have hdm := zs_dom hr hk (by decide)
  obtain ⟨q0, hq0⟩ := zc_at (ad := ad) (cA := cA) (M := M) (zy_d_mem.mpr hdm)
  have he : zc_e Y ad cA M r = .inl (cA r.1, zy_n Y r.1, .inr (.inr (.inr (.inr fun j => some (ad (zy_e Y r.1 r.2 j)))))) := by
    unfold zc_e
    rw [hk]
    rfl
  rw [he] at hq0
  obtain ⟨t0, C, ht⟩ := hG.2.2.2.2.1 r.1 hdm.1 hk
  exact va_aldq hx hb hK hP.1 q0 t0 hq0 ht hin hd kk
theorem zs_up (M : zm_M) (r : Nat × Nat) (k : Nat) (x : Int32) : zm_up M r.1 r.2 k x r.1 r.2 = upd (M r.1 r.2) k x := by
  funext j
  unfold zm_up upd
  by_cases h : j = k <;> simp [h]
theorem zs_is (hx : p.tables.exec = Jvm.exec) (hb : c.code = cc) (hG : zg_ok Y cl tys ad cA A) (hK : va_K D cl tys s) {r : Nat × Nat} {i x : Int32} (hr : zy_ok Y r) (hk : zy_k Y r.1 = 1) (hin : ¬ (i < 0 ∨ zy_n Y r.1 ≤ i.toNatClampNeg)) (hP : zs_at D cl Y ad cA A s.heap M H locs) (hd : decode cc pc = .ok (.iastore, 1))
    (kk : ∀ H' locs', zs_at D cl Y ad cA A s.heap (zm_up M r.1 r.2 i.toNatClampNeg x) H' locs' → W p l e R s m args below meth c H' locs' cells slots Q (F0 m (pc + 1) ls rest)) : W p l e R s m args below meth c H locs cells slots Q (F0 m pc ls (.int x :: .int i :: .ref (ad r) :: rest)) := by
  have hdm := zs_dom hr hk (by decide)
  obtain ⟨q0, hq0⟩ := zc_at (ad := ad) (cA := cA) (M := M) (zy_d_mem.mpr hdm)
  have hq1 := hq0
  rw [zs_arr (Or.inl hk)] at hq1
  obtain ⟨t0, ht⟩ := hG.2.2.1 r.1 hdm.1 hk
  refine va_iast hx hb hK hP.1 (hG.1 M) hP.2 q0 t0 hq1 ht hin hd (fun H1 locs1 h1 h2 h3 => kk H1 locs1 ⟨?_, h3⟩)
  have hws := zc_set (M' := zm_up M r.1 r.2 i.toNatClampNeg x) (hG.1 M) hG.2.1 (zy_d_mem.mpr hdm) hq0 (fun y hy => zc_e_ne hy)
  rw [zs_arr (Or.inl hk), zs_up] at hws
  rw [← hws]
  exact h1
theorem zs_bs (hx : p.tables.exec = Jvm.exec) (hb : c.code = cc) (hG : zg_ok Y cl tys ad cA A) (hK : va_K D cl tys s) {r : Nat × Nat} {i x : Int32} (hr : zy_ok Y r) (hk : zy_k Y r.1 = 2) (hin : ¬ (i < 0 ∨ zy_n Y r.1 ≤ i.toNatClampNeg)) (hP : zs_at D cl Y ad cA A s.heap M H locs) (hd : decode cc pc = .ok (.bastore, 1))
    (kk : ∀ H' locs', zs_at D cl Y ad cA A s.heap (zm_up M r.1 r.2 i.toNatClampNeg (x &&& 1)) H' locs' → W p l e R s m args below meth c H' locs' cells slots Q (F0 m (pc + 1) ls rest)) : W p l e R s m args below meth c H locs cells slots Q (F0 m pc ls (.int x :: .int i :: .ref (ad r) :: rest)) := by
  have hdm := zs_dom hr hk (by decide)
  obtain ⟨q0, hq0⟩ := zc_at (ad := ad) (cA := cA) (M := M) (zy_d_mem.mpr hdm)
  have hq1 := hq0
  rw [zs_arr (Or.inr hk)] at hq1
  obtain ⟨t0, ht⟩ := hG.2.2.2.1 r.1 hdm.1 hk
  refine va_zast hx hb hK hP.1 (hG.1 M) hP.2 q0 t0 hq1 ht hin hd (fun H1 locs1 h1 h2 h3 => kk H1 locs1 ⟨?_, h3⟩)
  have hws := zc_set (M' := zm_up M r.1 r.2 i.toNatClampNeg (x &&& 1)) (hG.1 M) hG.2.1 (zy_d_mem.mpr hdm) hq0 (fun y hy => zc_e_ne hy)
  rw [zs_arr (Or.inr hk), zs_up] at hws
  rw [← hws]
  exact h1
theorem zs_ln (hx : p.tables.exec = Jvm.exec) (hb : c.code = cc) (hG : zg_ok Y cl tys ad cA A) (hK : va_K D cl tys s) {r : Nat × Nat} (hr : zy_ok Y r) (hk : zy_k Y r.1 ≠ 0) (hT : zy_k Y r.1 = 4 → va_T .int (ad r) (zy_n Y r.1) (fun j => .int (zy_t Y r.1 j)) A s s.heap) (hP : zs_at D cl Y ad cA A s.heap M H locs) (hd : decode cc pc = .ok (.arraylength, 1))
    (kk : W p l e R s m args below meth c H locs cells slots Q (F0 m (pc + 1) ls (.int (nI (zy_n Y r.1)) :: rest))) : W p l e R s m args below meth c H locs cells slots Q (F0 m pc ls (.ref (ad r) :: rest)) := by
  by_cases h4 : zy_k Y r.1 = 4
  · exact va_tlen hx hb (hT h4) hP.2 rfl hd kk
  · have hdm : r.1 < zy_s Y ∧ r.2 < zy_m Y r.1 := zs_dom hr rfl h4
    have hlt := hG.2.2.2.2.2.2.2.2.1 r.1 hdm.1
    obtain ⟨q0, hq0⟩ := zc_at (ad := ad) (cA := cA) (M := M) (zy_d_mem.mpr hdm)
    rcases (show zy_k Y r.1 = 1 ∨ zy_k Y r.1 = 2 ∨ zy_k Y r.1 = 3 by omega) with h | h | h
    · rw [zs_arr (Or.inl h)] at hq0
      obtain ⟨t0, ht⟩ := hG.2.2.1 r.1 hdm.1 h
      exact va_alen hx hb hK hP.1 q0 t0 hq0 ht rfl hd kk
    · rw [zs_arr (Or.inr h)] at hq0
      obtain ⟨t0, ht⟩ := hG.2.2.2.1 r.1 hdm.1 h
      exact va_alen hx hb hK hP.1 q0 t0 hq0 ht rfl hd kk
    · have he : zc_e Y ad cA M r = .inl (cA r.1, zy_n Y r.1, .inr (.inr (.inr (.inr fun j => some (ad (zy_e Y r.1 r.2 j)))))) := by
        unfold zc_e
        rw [h]
        rfl
      rw [he] at hq0
      obtain ⟨t0, C, ht⟩ := hG.2.2.2.2.1 r.1 hdm.1 h
      exact va_alen hx hb hK hP.1 q0 t0 hq0 ht rfl hd kk
end ZT
end
section
section ZU
variable {p : Program} {l : Launch} {e : Env} {R : Room} {s : State} {m : MethodId} {args : Array Value} {below : List Frame} {meth : Method} {c : Code} {H : Heap} {locs : List Loc} {cells slots : Nat} {Q : State → Prop}
variable {cc : ByteArray} {pc nL : Nat} {ls : Array Slot} {rest : List Value} {D : va_G} {cl : List vw_C} {tys : List (ClassId × FieldType)} {A : Nat → Prop} {ad : Nat × Nat → Nat} {cA : Nat → ClassId} {Y : zm_Y} {own : String} {Ts : List Cond} {M : zm_M}
/-- a call, whatever it calls: the machine comes behind it -/
def zi_ok (p : Program) (l : Launch) (e : Env) (R : Room) (s : State) (m : MethodId) (args : Array Value) (below : List Frame) (meth : Method) (c : Code) (cells slots : Nat) (Q : State → Prop) (cc : ByteArray) (nL : Nat) (D : va_G) (cl : List vw_C) (A : Nat → Prop) (ad : Nat × Nat → Nat) (cA : Nat → ClassId) (Y : zm_Y) (key : Nat) (F : Option zm_F) : Prop :=
  ∀ (i pc : Nat) (ls : Array Slot) (st : List zm_V) (M : zm_M) (H : Heap) (locs : List Loc) (ins : Jvm.ClassFile.Instr), ((key = 2 * i + 1 ∧ ins = .invokevirtual i) ∨ (key = 2 * i ∧ ins = .invokestatic i)) → decode cc pc = .ok (ins, 3) → ls.size = nL → (∀ v ∈ st, zv_ok Y v) → zs_at D cl Y ad cA A s.heap M H locs →
    ∀ (T : Type) (t : T) (K : List zm_V → zm_M → Option T), zm_iv F K st M = some t →
      (∀ (st' : List zm_V) (M' : zm_M) (H' : Heap) (locs' : List Loc), K st' M' = some t → (∀ v ∈ st', zv_ok Y v) → zs_at D cl Y ad cA A s.heap M' H' locs' → W p l e R s m args below meth c H' locs' cells slots Q (F0 m (pc + 3) ls (st'.map (zc_v ad)))) →
      W p l e R s m args below meth c H locs cells slots Q (F0 m pc ls (st.map (zc_v ad)))
def zm_rt : Option zm_V → Jvm.ClassFile.Instr
  | none => .return_
  | some (.inl _) => .ireturn
  | some (.inr _) => .areturn
set_option maxHeartbeats 4000000 in
set_option maxRecDepth 100000 in
theorem zm_ex_ok {X : zm_X} (hx : p.tables.exec = Jvm.exec) (hb : c.code = cc) (hown : s.vm.findClass own = some m.cls) (hts : ∀ w ∈ Ts, w.before args s = true) (hG : zg_ok Y cl tys ad cA A) (hK0 : va_K D cl tys s) (hF : zf_ok Y cl Ts own X.1)
    (hC : ∀ i v, X.2.1 i = some v → Cond.constant own i v ∈ Ts) (hT : ∀ r, zy_k Y r.1 = 4 → va_T .int (ad r) (zy_n Y r.1) (fun j => .int (zy_t Y r.1 j)) A s s.heap)
    (hZ : ∀ i q, X.2.2.1 i = some q → zy_ok Y q ∧ ∃ C n d, va_Z C n d (.ref (ad q)) A s s.heap ∧ (Cond.fieldLink own i C n d ∈ Ts ∨ ∃ host, Cond.fieldLinkNest own i C n d host ∈ Ts))
    (hI : ∀ i, zi_ok p l e R s m args below meth c cells slots Q cc nL D cl A ad cA Y i (X.2.2.2 i))
    {T : Type} {t : T} {ret : Option zm_V → zm_M → Option T} {K : Nat → zm_L → List zm_V → zm_M → Option T} {nx : Nat} {ts : List Nat} {lo : zm_L} {st : List zm_V} {ins : Jvm.ClassFile.Instr}
    (hR : ∀ v M' H' locs' pc' ls', ret v M' = some t → (∀ w ∈ v, zv_ok Y w) → zs_at D cl Y ad cA A s.heap M' H' locs' → decode cc pc' = .ok (zm_rt v, 1) → W p l e R s m args below meth c H' locs' cells slots Q (F0 m pc' ls' (v.toList.map (zc_v ad))))
    (hK : ∀ pc' lo' st' M' H' locs' ls', K pc' lo' st' M' = some t → zl_ok Y ad ls' nL lo' → (∀ v ∈ st', zv_ok Y v) → zs_at D cl Y ad cA A s.heap M' H' locs' → W p l e R s m args below meth c H' locs' cells slots Q (F0 m pc' ls' (st'.map (zc_v ad))))
    (hen : zm_en cc (pc, ins, nx, ts)) (hl : zl_ok Y ad ls nL lo) (hst : ∀ v ∈ st, zv_ok Y v) (hP : zs_at D cl Y ad cA A s.heap M H locs)
    (h : zm_ex Y X ret K nx ts lo st M ins = some t) : W p l e R s m args below meth c H locs cells slots Q (F0 m pc ls (st.map (zc_v ad))) := by
  obtain ⟨hd, hnx, htg⟩ := hen
  dsimp only at hd hnx htg
  have push : ∀ {v : zm_V} {r : List zm_V}, zv_ok Y v → (∀ w ∈ r, zv_ok Y w) → ∀ w ∈ v :: r, zv_ok Y w := fun hv hr w hw => by
    rcases List.mem_cons.mp hw with rfl | hw
    · exact hv
    · exact hr w hw
  have tail : ∀ {v : zm_V} {r : List zm_V}, (∀ w ∈ v :: r, zv_ok Y w) → ∀ w ∈ r, zv_ok Y w := fun h w hw => h w (List.mem_cons_of_mem _ hw)
  have li : ∀ {i : Nat} {k : Int32 → Option T}, zm_li lo i k = some t → ∃ x, ls[i]? = some (.val (.int x)) ∧ k x = some t := by
    intro i k hk
    unfold zm_li at hk
    split at hk
    · next x hx => exact ⟨x, (hl.2.2.2 i _ hx).1, hk⟩
    · cases hk
  have la : ∀ {i : Nat} {k : Nat × Nat → Option T}, zm_la lo i k = some t → ∃ x, ls[i]? = some (.val (.ref (ad x))) ∧ zy_ok Y x ∧ k x = some t := by
    intro i k hk
    unfold zm_la at hk
    split at hk
    · next x hx => exact ⟨x, (hl.2.2.2 i _ hx).1, (hl.2.2.2 i _ hx).2, hk⟩
    · cases hk
  have sl : ∀ {i : Nat} {v : zm_V} {k : zm_L → Option T}, zm_sl lo i v k = some t → i < nL ∧ k (lo.set i (some v)) = some t := by
    intro i v k hk
    unfold zm_sl at hk
    split at hk
    · next x hx => exact ⟨by rw [← hl.1]; exact (List.getElem?_eq_some_iff.mp hx).1, hk⟩
    · cases hk
  have b1 : ∀ {k : Int32 → List zm_V → Option T}, zm_b1 st k = some t → ∃ x r, st = .inl x :: r ∧ k x r = some t := by
    intro k hk
    unfold zm_b1 at hk
    split at hk
    · next x r => exact ⟨x, r, rfl, hk⟩
    · cases hk
  have b2 : ∀ {k : Int32 → Int32 → List zm_V → Option T}, zm_b2 st k = some t → ∃ x y r, st = .inl y :: .inl x :: r ∧ k x y r = some t := by
    intro k hk
    unfold zm_b2 at hk
    split at hk
    · next y x r => exact ⟨x, y, r, rfl, hk⟩
    · cases hk
  have tj : ∀ {o : Int} {k : Nat → Option T}, zm_tj pc ts o = true → zm_t0 ts k = some t → ∃ tg : Nat, (pc : Int) + o = (tg : Int) ∧ k tg = some t := by
    intro o k h1 h2
    unfold zm_tj at h1
    unfold zm_t0 at h2
    split at h1
    · next a b => exact ⟨a, of_decide_eq_true h1, h2⟩
    · cases h1
  cases ins
  case iconst n =>
    rw [hnx] at h
    exact lv_iconst hx hb hd rfl (hK _ _ _ _ _ _ _ h hl (push trivial hst) hP)
  case bipush n =>
    rw [hnx] at h
    exact lv_bipush hx hb hd rfl (hK _ _ _ _ _ _ _ h hl (push trivial hst) hP)
  case sipush n =>
    rw [hnx] at h
    exact lv_sipush hx hb hd rfl (hK _ _ _ _ _ _ _ h hl (push trivial hst) hP)
  case ldc i =>
    rw [hnx] at h
    simp only [zm_ex] at h
    split at h
    · next v hv => exact lv_ldc hx hb hown (hts _ (hC i v hv)) hd (hK _ _ _ _ _ _ _ h hl (push trivial hst) hP)
    · cases h
  case iload i =>
    rw [hnx] at h
    obtain ⟨x, hg, h⟩ := li h
    exact lv_iload hx hb hd hg (hK _ _ _ _ _ _ _ h hl (push trivial hst) hP)
  case iload_n i =>
    rw [hnx] at h
    obtain ⟨x, hg, h⟩ := li h
    exact lv_iload_n hx hb hd rfl hg (hK _ _ _ _ _ _ _ h hl (push trivial hst) hP)
  case aload i =>
    rw [hnx] at h
    obtain ⟨x, hg, hv, h⟩ := la h
    exact lv_aload hx hb hd hg (hK _ _ _ _ _ _ _ h hl (push hv hst) hP)
  case aload_n i =>
    rw [hnx] at h
    obtain ⟨x, hg, hv, h⟩ := la h
    exact lv_aload_n hx hb hd rfl hg (hK _ _ _ _ _ _ _ h hl (push hv hst) hP)
  case istore i =>
    rw [hnx] at h
    obtain ⟨x, r, rfl, h2⟩ := b1 h
    obtain ⟨hi, h3⟩ := sl h2
    exact lv_istore hx hb hd (zl_has hl) hi rfl (fun ls' hl' => hK _ _ _ _ _ _ _ h3 (zl_set (v := .inl x) hl trivial hl') (tail hst) hP)
  case istore_n i =>
    rw [hnx] at h
    obtain ⟨x, r, rfl, h2⟩ := b1 h
    obtain ⟨hi, h3⟩ := sl h2
    exact lv_istore_n hx hb hd rfl (zl_has hl) hi rfl (fun ls' hl' => hK _ _ _ _ _ _ _ h3 (zl_set (v := .inl x) hl trivial hl') (tail hst) hP)
  case astore i =>
    rw [hnx] at h
    simp only [zm_ex] at h
    split at h
    · next x r =>
      obtain ⟨hi, h⟩ := sl h
      exact lv_astore hx hb hd (zl_has hl) hi rfl (fun ls' hl' => hK _ _ _ _ _ _ _ h (zl_set (v := .inr x) hl (hst _ List.mem_cons_self) hl') (tail hst) hP)
    · cases h
  case astore_n i =>
    rw [hnx] at h
    simp only [zm_ex] at h
    split at h
    · next x r =>
      obtain ⟨hi, h⟩ := sl h
      exact lv_astore_n hx hb hd rfl (zl_has hl) hi rfl (fun ls' hl' => hK _ _ _ _ _ _ _ h (zl_set (v := .inr x) hl (hst _ List.mem_cons_self) hl') (tail hst) hP)
    · cases h
  case iinc i n =>
    rw [hnx] at h
    simp only [zm_ex] at h
    unfold zm_li at h
    split at h
    · next x hx0 =>
      obtain ⟨hi, h⟩ := sl h
      obtain ⟨k0, hk0⟩ := List.getElem?_of_mem (zl_mem.mpr ⟨.inl x, hx0, rfl⟩ : (i, zc_v ad (.inl x)) ∈ zl_l ad lo)
      exact lv_iinc hx hb hd (zl_has hl) hk0 rfl hi rfl (fun ls' hl' => hK _ _ _ _ _ _ _ h (zl_set (v := .inl (x + Int32.ofInt n)) hl trivial hl') hst hP)
    · cases h
  case iadd =>
    rw [hnx] at h
    obtain ⟨x, y, r, rfl, h⟩ := b2 h
    exact lv_iadd hx hb hd (hK _ _ _ _ _ _ _ h hl (push trivial (tail (tail hst))) hP)
  case isub =>
    rw [hnx] at h
    obtain ⟨x, y, r, rfl, h⟩ := b2 h
    exact lv_isub hx hb hd (hK _ _ _ _ _ _ _ h hl (push trivial (tail (tail hst))) hP)
  case imul =>
    rw [hnx] at h
    obtain ⟨x, y, r, rfl, h⟩ := b2 h
    exact lv_imul hx hb hd (hK _ _ _ _ _ _ _ h hl (push trivial (tail (tail hst))) hP)
  case iand =>
    rw [hnx] at h
    obtain ⟨x, y, r, rfl, h⟩ := b2 h
    exact lv_iand hx hb hd (hK _ _ _ _ _ _ _ h hl (push trivial (tail (tail hst))) hP)
  case ior =>
    rw [hnx] at h
    obtain ⟨x, y, r, rfl, h⟩ := b2 h
    exact lv_ior hx hb hd (hK _ _ _ _ _ _ _ h hl (push trivial (tail (tail hst))) hP)
  case ixor =>
    rw [hnx] at h
    obtain ⟨x, y, r, rfl, h⟩ := b2 h
    exact lv_ixor hx hb hd (hK _ _ _ _ _ _ _ h hl (push trivial (tail (tail hst))) hP)
  case ishl =>
    rw [hnx] at h
    obtain ⟨x, y, r, rfl, h⟩ := b2 h
    exact lv_ishl hx hb hd (hK _ _ _ _ _ _ _ h hl (push trivial (tail (tail hst))) hP)
  case ishr =>
    rw [hnx] at h
    obtain ⟨x, y, r, rfl, h⟩ := b2 h
    exact lv_ishr hx hb hd (hK _ _ _ _ _ _ _ h hl (push trivial (tail (tail hst))) hP)
  case iushr =>
    rw [hnx] at h
    obtain ⟨x, y, r, rfl, h⟩ := b2 h
    exact lv_iushr hx hb hd rfl (hK _ _ _ _ _ _ _ h hl (push trivial (tail (tail hst))) hP)
  case idiv =>
    rw [hnx] at h
    obtain ⟨x, y, r, rfl, h2⟩ := b2 h
    split at h2
    · cases h2
    · next hy => exact lv_idiv hx hb hd hy (hK _ _ _ _ _ _ _ h2 hl (push trivial (tail (tail hst))) hP)
  case irem =>
    rw [hnx] at h
    obtain ⟨x, y, r, rfl, h2⟩ := b2 h
    split at h2
    · cases h2
    · next hy => exact lv_irem hx hb hd hy (hK _ _ _ _ _ _ _ h2 hl (push trivial (tail (tail hst))) hP)
  case ineg =>
    rw [hnx] at h
    obtain ⟨x, r, rfl, h⟩ := b1 h
    exact lv_ineg hx hb hd (hK _ _ _ _ _ _ _ h hl (push trivial (tail hst)) hP)
  case i2b =>
    rw [hnx] at h
    obtain ⟨x, r, rfl, h⟩ := b1 h
    exact lv_i2b hx hb hd rfl (hK _ _ _ _ _ _ _ h hl (push trivial (tail hst)) hP)
  case dup =>
    rw [hnx] at h
    simp only [zm_ex] at h
    split at h
    · next v r => exact lv_dup hx hb hd (zc_v_cat ad v) (hK _ _ _ _ _ _ _ h hl (push (hst _ List.mem_cons_self) hst) hP)
    · cases h
  case pop =>
    rw [hnx] at h
    simp only [zm_ex] at h
    split at h
    · next v r => exact lv_pop hx hb hd (zc_v_cat ad v) (hK _ _ _ _ _ _ _ h hl (tail hst) hP)
    · cases h
  case dup_x1 =>
    rw [hnx] at h
    simp only [zm_ex] at h
    split at h
    · next v w r => exact lv_dup_x1 hx hb hd (zc_v_cat ad v) (zc_v_cat ad w) (hK _ _ _ _ _ _ _ h hl (push (hst _ List.mem_cons_self) (push (hst _ (List.mem_cons_of_mem _ List.mem_cons_self)) (push (hst _ List.mem_cons_self) (tail (tail hst))))) hP)
    · cases h
  case dup2 =>
    rw [hnx] at h
    simp only [zm_ex] at h
    split at h
    · next v w r => exact lv_dup2_11 hx hb hd (zc_v_cat ad v) (zc_v_cat ad w) (hK _ _ _ _ _ _ _ h hl (push (hst _ List.mem_cons_self) (push (hst _ (List.mem_cons_of_mem _ List.mem_cons_self)) hst)) hP)
    · cases h
  case goto o =>
    obtain ⟨tg, ht, h⟩ := tj htg h
    exact lv_goto hx hb hd ht (hK _ _ _ _ _ _ _ h hl hst hP)
  case ifCond cn o =>
    rw [hnx] at h
    obtain ⟨x, r, rfl, h⟩ := b1 h
    obtain ⟨tg, ht, h⟩ := tj htg h
    have go : ∀ pc', K pc' lo r M = some t → W p l e R s m args below meth c H locs cells slots Q (F0 m pc' ls (r.map (zc_v ad))) := fun pc' h => hK _ _ _ _ _ _ _ h hl (tail hst) hP
    cases cn <;> simp only [zm_cm] at h <;> split at h <;> rename_i hc
    · exact lv_if_eq hx hb hd ht (fun _ => go _ h) (fun z => absurd hc z)
    · exact lv_if_eq hx hb hd ht (fun z => absurd z hc) (fun _ => go _ h)
    · exact lv_if_ne hx hb hd ht (fun z => absurd hc z) (fun _ => go _ h)
    · exact lv_if_ne hx hb hd ht (fun _ => go _ h) (fun z => absurd z hc)
    · exact lv_if_lt hx hb hd ht (fun _ => go _ h) (fun z => absurd hc z)
    · exact lv_if_lt hx hb hd ht (fun z => absurd z hc) (fun _ => go _ h)
    · exact lv_if_ge hx hb hd ht (fun z => absurd hc (Int32.not_lt.mpr z)) (fun _ => go _ h)
    · exact lv_if_ge hx hb hd ht (fun _ => go _ h) (fun z => absurd (Int32.not_lt.mp hc) z)
    · exact lv_if_gt hx hb hd ht (fun _ => go _ h) (fun z => absurd hc z)
    · exact lv_if_gt hx hb hd ht (fun z => absurd z hc) (fun _ => go _ h)
    · exact lv_if_le hx hb hd ht (fun z => absurd hc (Int32.not_lt.mpr z)) (fun _ => go _ h)
    · exact lv_if_le hx hb hd ht (fun _ => go _ h) (fun z => absurd (Int32.not_lt.mp hc) z)
  case if_icmp cn o =>
    rw [hnx] at h
    obtain ⟨x, y, r, rfl, h⟩ := b2 h
    obtain ⟨tg, ht, h⟩ := tj htg h
    have go : ∀ pc', K pc' lo r M = some t → W p l e R s m args below meth c H locs cells slots Q (F0 m pc' ls (r.map (zc_v ad))) := fun pc' h => hK _ _ _ _ _ _ _ h hl (tail (tail hst)) hP
    cases cn <;> simp only [zm_cm] at h <;> split at h <;> rename_i hc
    · exact lv_icmp_eq hx hb hd ht (fun _ => go _ h) (fun z => absurd hc z)
    · exact lv_icmp_eq hx hb hd ht (fun z => absurd z hc) (fun _ => go _ h)
    · exact lv_icmp_ne hx hb hd ht (fun z => absurd hc z) (fun _ => go _ h)
    · exact lv_icmp_ne hx hb hd ht (fun _ => go _ h) (fun z => absurd z hc)
    · exact lv_icmp_lt hx hb hd ht (fun _ => go _ h) (fun z => absurd hc z)
    · exact lv_icmp_lt hx hb hd ht (fun z => absurd z hc) (fun _ => go _ h)
    · exact lv_icmp_ge hx hb hd ht (fun z => absurd hc (Int32.not_lt.mpr z)) (fun _ => go _ h)
    · exact lv_icmp_ge hx hb hd ht (fun _ => go _ h) (fun z => absurd (Int32.not_lt.mp hc) z)
    · exact lv_icmp_gt hx hb hd ht (fun _ => go _ h) (fun z => absurd hc z)
    · exact lv_icmp_gt hx hb hd ht (fun z => absurd z hc) (fun _ => go _ h)
    · exact lv_icmp_le hx hb hd ht (fun z => absurd hc (Int32.not_lt.mpr z)) (fun _ => go _ h)
    · exact lv_icmp_le hx hb hd ht (fun _ => go _ h) (fun z => absurd (Int32.not_lt.mp hc) z)
  case tableswitch df v w offs =>
    obtain ⟨x, r, rfl, h2⟩ := b1 h
    split at h2
    · next d ts' =>
      simp only [zm_tg, Bool.and_eq_true, decide_eq_true_eq] at htg
      obtain ⟨g1, g2, g3, g4, g5⟩ := htg
      rcases zm_sw_ok ts' v h2 with ⟨j, tg, q1, q2, q3⟩ | ⟨q1, q2⟩
      · have hj : j < ts'.length := (List.getElem?_eq_some_iff.mp q1).1
        have hxi : x.toInt = v + (j : Int) := by
          rw [q2]
          exact Int32.toInt_ofInt_of_le (by omega) (by omega)
        have hof : (offs.toList.map (fun o => (pc : Int) + o))[j]? = some (tg : Int) := by
          rw [g3, List.getElem?_map, q1]
          rfl
        rw [List.getElem?_map] at hof
        cases ho : offs.toList[j]? with
        | none => rw [ho] at hof; cases hof
        | some o =>
          rw [ho] at hof
          refine lv_tableIn (off := o) (tgt := tg) hx hb hd (by omega) (by omega) ?_ (Option.some.inj hof) (hK _ _ _ _ _ _ _ q3 hl (tail hst) hP)
          rw [show (x.toInt - v).toNat = j by omega, ← Array.getElem?_toList]
          exact ho
      · refine lv_tableOut (tgt := d) hx hb hd ?_ g1 (hK _ _ _ _ _ _ _ q2 hl (tail hst) hP)
        rcases Int.lt_or_le x.toInt v with z | z
        · exact Or.inl z
        · rcases Int.lt_or_le w x.toInt with z2 | z2
          · exact Or.inr z2
          · exact absurd (by rw [show v + ((x.toInt - v).toNat : Int) = x.toInt by omega, Int32.ofInt_toInt]) (q1 (x.toInt - v).toNat (by omega))
    · cases h2
  case getfield i =>
    rw [hnx] at h
    simp only [zm_ex] at h
    split at h
    · next q r => exact zs_gf hx hb hown hts hG hK0 hF (hst (.inr q) List.mem_cons_self) h hP hd (fun v hv hk => hK _ _ _ _ _ _ _ hk hl (push hv (tail hst)) hP)
    · cases h
  case putfield i =>
    rw [hnx] at h
    simp only [zm_ex] at h
    split at h
    · next x q r => exact zs_pf hx hb hown hts hG hK0 hF (hst (.inr q) (List.mem_cons_of_mem _ List.mem_cons_self)) h hP hd (fun M' H' locs' hk hP' => hK _ _ _ _ _ _ _ hk hl (tail (tail hst)) hP')
    · cases h
  case getstatic i =>
    rw [hnx] at h
    simp only [zm_ex] at h
    split at h
    · next q hq =>
      obtain ⟨hv, C, n, d, hz, hlk⟩ := hZ i q hq
      have k1 := hK _ _ _ _ _ _ _ h hl (push (v := .inr q) hv hst) hP
      rcases hlk with h1 | ⟨host, h1⟩
      · exact va_gets hx hb hz hP.2 hown (hts _ h1) (fun _ h => h) hd k1
      · exact va_getsN hx hb hz hP.2 hown (hts _ h1) (fun _ h => h) hd k1
    · cases h
  case arraylength =>
    rw [hnx] at h
    simp only [zm_ex] at h
    split at h
    · next q r =>
      split at h
      · cases h
      · next hk => exact zs_ln hx hb hG hK0 (hst (.inr q) List.mem_cons_self) (fun z => hk z) (fun z => hT q z) hP hd (hK _ _ _ _ _ _ _ h hl (push trivial (tail hst)) hP)
    · cases h
  case iaload =>
    rw [hnx] at h
    simp only [zm_ex] at h
    split at h
    · next i q r =>
      have hq := hst (.inr q) (List.mem_cons_of_mem _ List.mem_cons_self)
      split at h
      · next hk =>
        split at h
        · cases h
        · next hin => exact zs_il hx hb hG hK0 hq hk hin hP hd (hK _ _ _ _ _ _ _ h hl (push trivial (tail (tail hst))) hP)
      · next hk =>
        split at h
        · cases h
        · next hin => exact va_ti hx hb (hT q hk) hP.2 hin rfl hd (hK _ _ _ _ _ _ _ h hl (push trivial (tail (tail hst))) hP)
      · cases h
    · cases h
  case baload =>
    rw [hnx] at h
    simp only [zm_ex] at h
    split at h
    · next i q r =>
      have hq := hst (.inr q) (List.mem_cons_of_mem _ List.mem_cons_self)
      split at h
      · next hk =>
        split at h
        · cases h
        · next hin => exact zs_bl hx hb hG hK0 hq hk hin hP hd (hK _ _ _ _ _ _ _ h hl (push trivial (tail (tail hst))) hP)
      · cases h
    · cases h
  case aaload =>
    rw [hnx] at h
    simp only [zm_ex] at h
    split at h
    · next i q r =>
      have hq : zy_ok Y q := hst (.inr q) (List.mem_cons_of_mem _ List.mem_cons_self)
      split at h
      · next hk =>
        split at h
        · cases h
        · next hin =>
          have hdm := zs_dom hq hk (by decide)
          have hlt : i.toNatClampNeg < zy_n Y q.1 := Nat.not_le.mp fun z => hin (Or.inr z)
          exact zs_al hx hb hG hK0 hq hk hin hP hd (hK _ _ _ _ _ _ _ h hl (push (v := .inr _) (hG.2.2.2.2.2.2.2.1 q.1 q.2 _ hdm.1 hdm.2 hk hlt) (tail (tail hst))) hP)
      · cases h
    · cases h
  case iastore =>
    rw [hnx] at h
    simp only [zm_ex] at h
    split at h
    · next x i q r =>
      have hq : zy_ok Y q := hst (.inr q) (List.mem_cons_of_mem _ (List.mem_cons_of_mem _ List.mem_cons_self))
      split at h
      · next hk =>
        split at h
        · cases h
        · next hin => exact zs_is hx hb hG hK0 hq hk hin hP hd (fun H' locs' hP' => hK _ _ _ _ _ _ _ h hl (tail (tail (tail hst))) hP')
      · cases h
    · cases h
  case bastore =>
    rw [hnx] at h
    simp only [zm_ex] at h
    split at h
    · next x i q r =>
      have hq : zy_ok Y q := hst (.inr q) (List.mem_cons_of_mem _ (List.mem_cons_of_mem _ List.mem_cons_self))
      split at h
      · next hk =>
        split at h
        · cases h
        · next hin => exact zs_bs hx hb hG hK0 hq hk hin hP hd (fun H' locs' hP' => hK _ _ _ _ _ _ _ h hl (tail (tail (tail hst))) hP')
      · cases h
    · cases h
  case invokevirtual i =>
    rw [hnx] at h
    exact hI (2 * i + 1) i pc ls st M H locs _ (Or.inl ⟨rfl, rfl⟩) hd hl.2.1 hst hP T t _ h (fun st' M' H' locs' hk hs' hP' => hK _ _ _ _ _ _ _ hk hl hs' hP')
  case invokestatic i =>
    rw [hnx] at h
    exact hI (2 * i) i pc ls st M H locs _ (Or.inr ⟨rfl, rfl⟩) hd hl.2.1 hst hP T t _ h (fun st' M' H' locs' hk hs' hP' => hK _ _ _ _ _ _ _ hk hl hs' hP')
  case ireturn =>
    simp only [zm_ex] at h
    split at h
    · next x => exact hR (some (.inl x)) M H locs pc ls h (fun w hw => by cases hw; trivial) hP hd
    · cases h
  case areturn =>
    simp only [zm_ex] at h
    split at h
    · next x => exact hR (some (.inr x)) M H locs pc ls h (fun w hw => by cases hw; exact hst _ List.mem_cons_self) hP hd
    · cases h
  case return_ =>
    simp only [zm_ex] at h
    split at h
    · exact hR none M H locs pc ls h (fun w hw => by cases hw) hP hd
    · cases h
  all_goals exact nomatch (show (none : Option T) = some t from h)
set_option maxHeartbeats 4000000 in
theorem zm_go_ok {X : zm_X} (hx : p.tables.exec = Jvm.exec) (hb : c.code = cc) (hown : s.vm.findClass own = some m.cls) (hts : ∀ w ∈ Ts, w.before args s = true) (hG : zg_ok Y cl tys ad cA A) (hK0 : va_K D cl tys s) (hF : zf_ok Y cl Ts own X.1)
    (hC : ∀ i v, X.2.1 i = some v → Cond.constant own i v ∈ Ts) (hT : ∀ r, zy_k Y r.1 = 4 → va_T .int (ad r) (zy_n Y r.1) (fun j => .int (zy_t Y r.1 j)) A s s.heap)
    (hZ : ∀ i q, X.2.2.1 i = some q → zy_ok Y q ∧ ∃ C n d, va_Z C n d (.ref (ad q)) A s s.heap ∧ (Cond.fieldLink own i C n d ∈ Ts ∨ ∃ host, Cond.fieldLinkNest own i C n d host ∈ Ts))
    (hI : ∀ i, zi_ok p l e R s m args below meth c cells slots Q cc nL D cl A ad cA Y i (X.2.2.2 i))
    {T : Type} {t : T} {ret : Option zm_V → zm_M → Option T} {back : Nat → zm_L → List zm_V → zm_M → Option T}
    (hR : ∀ v M' H' locs' pc' ls', ret v M' = some t → (∀ w ∈ v, zv_ok Y w) → zs_at D cl Y ad cA A s.heap M' H' locs' → decode cc pc' = .ok (zm_rt v, 1) → W p l e R s m args below meth c H' locs' cells slots Q (F0 m pc' ls' (v.toList.map (zc_v ad))))
    (hB : ∀ pc' lo' st' M' H' locs' ls', back pc' lo' st' M' = some t → zl_ok Y ad ls' nL lo' → (∀ v ∈ st', zv_ok Y v) → zs_at D cl Y ad cA A s.heap M' H' locs' → W p l e R s m args below meth c H' locs' cells slots Q (F0 m pc' ls' (st'.map (zc_v ad)))) :
    ∀ (code : zm_C), (∀ q ∈ code, zm_en cc q) → ∀ pc lo st M H locs ls, zm_go Y X ret back code pc lo st M = some t → zl_ok Y ad ls nL lo → (∀ v ∈ st, zv_ok Y v) → zs_at D cl Y ad cA A s.heap M H locs → W p l e R s m args below meth c H locs cells slots Q (F0 m pc ls (st.map (zc_v ad)))
  | [], _, pc, lo, st, M, H, locs, ls, h, _, _, _ => by cases h
  | (q, ins, nx, ts) :: code, hen, pc, lo, st, M, H, locs, ls, h, hl, hst, hP => by
    have ih := zm_go_ok hx hb hown hts hG hK0 hF hC hT hZ hI hR hB code (fun q hq => hen q (List.mem_cons_of_mem _ hq))
    unfold zm_go at h
    split at h
    · next hq =>
      have hq' : q = pc := Nat.eq_of_beq_eq_true hq
      subst hq'
      refine zm_ex_ok hx hb hown hts hG hK0 hF hC hT hZ hI hR ?_ (hen _ List.mem_cons_self) hl hst hP h
      intro pc' lo' st' M' H' locs' ls' h' hl' hst' hP'
      split at h'
      · exact hB _ _ _ _ _ _ _ h' hl' hst' hP'
      · exact ih _ _ _ _ _ _ _ h' hl' hst' hP'
    · exact ih _ _ _ _ _ _ _ h hl hst hP
set_option maxHeartbeats 4000000 in
theorem zm_rn_ok {X : zm_X} (hx : p.tables.exec = Jvm.exec) (hb : c.code = cc) (hown : s.vm.findClass own = some m.cls) (hts : ∀ w ∈ Ts, w.before args s = true) (hG : zg_ok Y cl tys ad cA A) (hK0 : va_K D cl tys s) (hF : zf_ok Y cl Ts own X.1)
    (hC : ∀ i v, X.2.1 i = some v → Cond.constant own i v ∈ Ts) (hT : ∀ r, zy_k Y r.1 = 4 → va_T .int (ad r) (zy_n Y r.1) (fun j => .int (zy_t Y r.1 j)) A s s.heap)
    (hZ : ∀ i q, X.2.2.1 i = some q → zy_ok Y q ∧ ∃ C n d, va_Z C n d (.ref (ad q)) A s s.heap ∧ (Cond.fieldLink own i C n d ∈ Ts ∨ ∃ host, Cond.fieldLinkNest own i C n d host ∈ Ts))
    (hI : ∀ i, zi_ok p l e R s m args below meth c cells slots Q cc nL D cl A ad cA Y i (X.2.2.2 i))
    {T : Type} {t : T} {ret : Option zm_V → zm_M → Option T}
    (hR : ∀ v M' H' locs' pc' ls', ret v M' = some t → (∀ w ∈ v, zv_ok Y w) → zs_at D cl Y ad cA A s.heap M' H' locs' → decode cc pc' = .ok (zm_rt v, 1) → W p l e R s m args below meth c H' locs' cells slots Q (F0 m pc' ls' (v.toList.map (zc_v ad))))
    {code : zm_C} (hen : ∀ q ∈ code, zm_en cc q) : ∀ (n pc : Nat) (lo : zm_L) (st : List zm_V) (M : zm_M) (H : Heap) (locs : List Loc) (ls : Array Slot), zm_rn Y X ret code n pc lo st M = some t → zl_ok Y ad ls nL lo → (∀ v ∈ st, zv_ok Y v) → zs_at D cl Y ad cA A s.heap M H locs → W p l e R s m args below meth c H locs cells slots Q (F0 m pc ls (st.map (zc_v ad)))
  | 0, pc, lo, st, M, H, locs, ls, h, _, _, _ => by cases h
  | n + 1, pc, lo, st, M, H, locs, ls, h, hl, hst, hP => zm_go_ok hx hb hown hts hG hK0 hF hC hT hZ hI hR (fun pc' lo' st' M' H' locs' ls' h' hl' hst' hP' => zm_rn_ok hx hb hown hts hG hK0 hF hC hT hZ hI hR hen n pc' lo' st' M' H' locs' ls' h' hl' hst' hP') code hen pc lo st M H locs ls h hl hst hP
end ZU
end
section
/-! CONTRACTS of methods that the abstract machine runs -/
def zk_rm (d : Nat × Nat) : Room := { frames := d.1, cells := 0, slots := 0, locals := d.2 }
abbrev zk_Zs : Type := List (String × String × String × (Nat × Nat))
def zk_cs (Y : zm_Y) (Zs : zk_Zs) (ad : Nat × Nat → Nat) (A : Nat → Prop) (U : State) (H : Heap) : Prop := (∀ r : Nat × Nat, zy_k Y r.1 = 4 → va_T .int (ad r) (zy_n Y r.1) (fun j => .int (zy_t Y r.1 j)) A U H) ∧ ∀ z ∈ Zs, va_Z z.1 z.2.1 z.2.2.1 (.ref (ad z.2.2.2)) A U H
theorem zk_cs.moved {Y : zm_Y} {Zs : zk_Zs} {ad : Nat × Nat → Nat} {A : Nat → Prop} {u U : State} {H : Heap} (hvm : u.vm.Alike U.vm) (h : zk_cs Y Zs ad A u H) : zk_cs Y Zs ad A U H := ⟨fun r hr => (h.1 r hr).moved hvm, fun z hz => (h.2 z hz).moved hvm⟩
theorem zk_cs.kept {Y : zm_Y} {Zs : zk_Zs} {ad : Nat × Nat → Nat} {A : Nat → Prop} {U : State} {H H1 : Heap} (h : zk_cs Y Zs ad A U H) (hq : ∀ a : Nat, a < H.size → ¬ A a → H1[a]? = H[a]?) : zk_cs Y Zs ad A U H1 := ⟨fun r hr => (h.1 r hr).kept hq, fun z hz => (h.2 z hz).kept hq⟩
def zk_nw (w : Cond) : Bool := match w with
  | .fieldLinkNest _ _ _ _ _ _ => true
  | .methodLinkNest _ _ _ _ => true
  | w => w.onTables && w.keeps
def zk_tb (Ts : List Cond) (U : State) : Prop := ∀ w ∈ Ts, va_Nw w U
theorem zk_tb.warm {Ts : List Cond} (hT : ∀ w ∈ Ts, zk_nw w = true) {s U : State} (hW : s.WarmedH U.vm) (h : zk_tb Ts s) : zk_tb Ts U := by
  intro w hw
  have h1 := hT w hw
  have h2 := h w hw
  unfold zk_nw at h1
  split at h1
  · exact va_Nw.warmF hW h2
  · exact va_Nw.warmM hW h2
  · exact word_at hW (Or.inl h1) h2
theorem zk_tb.use {Ts : List Cond} (hT : ∀ w ∈ Ts, zk_nw w = true) {s : State} (args : Array Value) (h : zk_tb Ts s) : ∀ w ∈ Ts, w.before args s = true := by
  intro w hw
  have h1 := hT w hw
  have h2 := h w hw
  unfold zk_nw at h1
  split at h1
  · exact va_Nw.use rfl h2
  · exact va_Nw.use rfl h2
  · exact va_Nw.use (Bool.and_eq_true _ _ ▸ h1 : _ ∧ _).1 h2
def zk_pr (Ts : List Cond) (Y : zm_Y) (cl : List vw_C) (Zs : zk_Zs) (D : va_G) (tys : List (ClassId × FieldType)) (ad : Nat × Nat → Nat) (cA : Nat → ClassId) (A : Nat → Prop) (M : zm_M) (U : State) : Prop := va_P D cl (zc_w Y ad cA M) U.heap ∧ va_K D cl tys U ∧ zk_cs Y Zs ad A U U.heap ∧ zk_tb Ts U
def zk_po (Y : zm_Y) (cl : List vw_C) (D : va_G) (ad : Nat × Nat → Nat) (cA : Nat → ClassId) (A : Nat → Prop) (v : Option zm_V) (M : zm_M) : Array Value → State → Outcome → State → Prop := fun _ st oc t => oc = .returned (v.map (zc_v ad)) ∧ (∀ w ∈ v, zv_ok Y w) ∧ va_P D cl (zc_w Y ad cA M) t.heap ∧ va_F A st t
def zk_me (Ts : List Cond) (Y : zm_Y) (cl : List vw_C) (Zs : zk_Zs) (l : Launch) (d : Nat × Nat) (y : MethodName) (cc : ByteArray) (maxL : Nat) (ret : Option FieldType) {T : Type} (out : T → Option zm_V × zm_M) (F : List zm_V → zm_M → Option T) : Prop :=
  ∀ (D : va_G) (tys : List (ClassId × FieldType)) (ad : Nat × Nat → Nat) (cA : Nat → ClassId) (A : Nat → Prop), zg_ok Y cl tys ad cA A → ∀ (av : List zm_V) (M : zm_M) (t : T), (∀ v ∈ av, zv_ok Y v) → F av M = some t →
    Met l y [Cond.code y cc maxL ret] (zk_rm d) (va_Pc (av.map (zc_v ad)) (zk_pr Ts Y cl Zs D tys ad cA A M)) (zk_po Y cl D ad cA A (out t).1 (out t).2) 0 0 A
def zi_al (Ts : List Cond) (Y : zm_Y) (cl : List vw_C) (Zs : zk_Zs) (l : Launch) (d : Nat × Nat) (own : String) (cc : ByteArray) (nL : Nat) (i : Nat) (F : Option zm_F) : Prop :=
  ∀ (p : Program) (e : Env) (s : State) (m : MethodId) (args : Array Value) (below : List Frame) (meth : Method) (c : Code) (Q : State → Prop) (D : va_G) (tys : List (ClassId × FieldType)) (ad : Nat × Nat → Nat) (cA : Nat → ClassId) (A : Nat → Prop), CallFix p m c cc nL s args Ts own → zg_ok Y cl tys ad cA A → va_K D cl tys s → zk_cs Y Zs ad A s s.heap → zk_tb Ts s →
    zi_ok p l e (zk_rm d) s m args below meth c 0 0 Q cc nL D cl A ad cA Y i F
/-- how a method ends -/
def zr_ok (ret : Option FieldType) {T : Type} (rt : Option zm_V → zm_M → Option T) (out : T → Option zm_V × zm_M) : Prop := ∀ v M t, rt v M = some t → out t = (v, M) ∧ ((ret = none ∧ v = none) ∨ (ret = some .int ∧ ∃ x, v = some (.inl x)) ∨ (ret = some .boolean ∧ ∃ x, v = some (.inl x) ∧ (x = 0 ∨ x = 1)) ∨ (∃ C, ret = some (.object C) ∧ ∃ r, v = some (.inr r)))
def zr_i (v : Option zm_V) (M : zm_M) : Option (Int32 × zm_M) := match v with
  | some (.inl x) => some (x, M)
  | _ => none
def zr_z (v : Option zm_V) (M : zm_M) : Option (Int32 × zm_M) := match v with
  | some (.inl x) => if x = 0 ∨ x = 1 then some (x, M) else none
  | _ => none
def zr_v (v : Option zm_V) (M : zm_M) : Option zm_M := match v with
  | none => some M
  | _ => none
def zr_r (v : Option zm_V) (M : zm_M) : Option ((Nat × Nat) × zm_M) := match v with
  | some (.inr r) => some (r, M)
  | _ => none
def zo_i (t : Int32 × zm_M) : Option zm_V × zm_M := (some (.inl t.1), t.2)
def zo_v (M : zm_M) : Option zm_V × zm_M := (none, M)
def zo_r (t : (Nat × Nat) × zm_M) : Option zm_V × zm_M := (some (.inr t.1), t.2)
theorem zr_i_ok : zr_ok (some .int) zr_i zo_i := by
  intro v M t h
  unfold zr_i at h
  split at h
  · cases h; exact ⟨rfl, Or.inr (Or.inl ⟨rfl, _, rfl⟩)⟩
  · cases h
theorem zr_z_ok : zr_ok (some .boolean) zr_z zo_i := by
  intro v M t h
  unfold zr_z at h
  split at h
  · split at h
    · next hx => cases h; exact ⟨rfl, Or.inr (Or.inr (Or.inl ⟨rfl, _, rfl, hx⟩))⟩
    · cases h
  · cases h
theorem zr_v_ok : zr_ok none zr_v zo_v := by
  intro v M t h
  unfold zr_v at h
  split at h
  · cases h; exact ⟨rfl, Or.inl ⟨rfl, rfl⟩⟩
  · cases h
theorem zr_r_ok (C : String) : zr_ok (some (.object C)) zr_r zo_r := by
  intro v M t h
  unfold zr_r at h
  split at h
  · cases h; exact ⟨rfl, Or.inr (Or.inr (Or.inr ⟨C, rfl, _, rfl⟩))⟩
  · cases h
def zm_lo (av : List zm_V) (nL : Nat) : zm_L := av.map some ++ List.replicate (nL - av.length) none
theorem zk_ar (ad : Nat × Nat → Nat) : ∀ (av : List zm_V) (k i : Nat) (v : zm_V), av[i]? = some v → (k + i, zc_v ad v) ∈ lv_args k (av.map (zc_v ad))
  | [], k, i, v, h => by simp at h
  | a :: av, k, 0, v, h => by
    simp at h
    subst h
    exact List.mem_cons_self
  | a :: av, k, i + 1, v, h => by
    have h1 : av[i]? = some v := by simpa using h
    have h2 := zk_ar ad av (k + 1) i v h1
    refine List.mem_cons_of_mem _ ?_
    rw [zc_v_cat, if_neg (by decide)]
    rw [show k + (i + 1) = k + 1 + i by omega]
    exact h2
theorem zk_sl (ad : Nat × Nat → Nat) (av : List zm_V) : (lg_sl (av.map (zc_v ad))).length = av.length := by
  induction av with
  | nil => rfl
  | cons a av ih =>
    unfold lg_sl at ih ⊢
    rw [List.map_cons, List.flatMap_cons, List.length_append, ih, zc_v_cat, if_neg (by decide)]
    simp [Nat.add_comm]
theorem zk_en {Y : zm_Y} {ad : Nat × Nat → Nat} {av : List zm_V} {nL : Nat} (hle : av.length ≤ nL) (hv : ∀ v ∈ av, zv_ok Y v) {ls : Array Slot} (h : lv_has ls nL (lv_args 0 (av.map (zc_v ad)))) : zl_ok Y ad ls nL (zm_lo av nL) := by
  refine ⟨by simp [zm_lo]; omega, h.1, h.2.1, fun i v hi => ?_⟩
  have hlt : i < av.length := by
    rcases Nat.lt_or_ge i av.length with q | q
    · exact q
    · unfold zm_lo at hi
      rw [List.getElem?_append_right (by simpa using q)] at hi
      have := List.mem_of_getElem? hi
      simp at this
  unfold zm_lo at hi
  rw [List.getElem?_append_left (by simpa using hlt), List.getElem?_map] at hi
  cases ha : av[i]? with
  | none => rw [ha] at hi; cases hi
  | some w =>
    rw [ha] at hi
    cases hi
    have h2 := zk_ar ad av 0 i v ha
    rw [Nat.zero_add] at h2
    exact ⟨h.2.2 _ h2, hv v (List.mem_of_getElem? ha)⟩
set_option maxHeartbeats 4000000 in
theorem zk_run {Ts : List Cond} {Y : zm_Y} {cl : List vw_C} {Zs : zk_Zs} {l : Launch} {d : Nat × Nat} {y : MethodName} {cc : ByteArray} {maxL : Nat} {ret : Option FieldType} {T : Type} {out : T → Option zm_V × zm_M} {rt : Option zm_V → zm_M → Option T} {code : zm_C} {X : zm_X} {F : List zm_V → zm_M → Option T} (N : Nat)
    (hTs : ∀ w ∈ Ts, zk_nw w = true) (hy : plainName y.cls = true) (hen : ∀ q ∈ code, zm_en cc q) (hF : zf_ok Y cl Ts y.cls X.1) (hC : ∀ i v, X.2.1 i = some v → Cond.constant y.cls i v ∈ Ts)
    (hZ : ∀ i q, X.2.2.1 i = some q → zy_ok Y q ∧ ∃ C n d, (C, n, d, q) ∈ Zs ∧ (Cond.fieldLink y.cls i C n d ∈ Ts ∨ ∃ host, Cond.fieldLinkNest y.cls i C n d host ∈ Ts))
    (hI : ∀ i, zi_al Ts Y cl Zs l d y.cls cc maxL i (X.2.2.2 i)) (hr : zr_ok ret rt out) (hFe : ∀ av M t, F av M = some t → av.length ≤ maxL ∧ zm_rn Y X rt code N 0 (zm_lo av maxL) [] M = some t) : zk_me Ts Y cl Zs l d y cc maxL ret out F := by
  intro D tys ad cA A hG av M t hv hF0
  obtain ⟨hle, hrun⟩ := hFe av M t hF0
  refine Met.ofW (cc := cc) (maxL := maxL) (ret := ret) hy rfl ?_
  intro p e s m args below meth c s₁ B hml hpre
  obtain ⟨rfl, hP, hK, hcs, htb⟩ := hpre
  have hx := B.exec
  have hb := B.bytes
  have hrt := B.returns
  have hlocks := B.notSynchronized
  have hown : s.vm.findClass y.cls = some m.cls := findClass_of_methodNamed B.named
  have hts := zk_tb.use hTs (av.map (zc_v ad)).toArray htb
  have hl := lv_entry (av.map (zc_v ad)) (n := maxL) (by rw [zk_sl]; exact hle)
  rw [lg_entry_eq]
  generalize (lg_sl (av.map (zc_v ad)) ++ List.replicate (maxL - (lg_sl (av.map (zc_v ad))).length) Slot.unset).toArray = ls at hl ⊢
  refine zm_rn_ok (nL := maxL) (t := t) hx hb hown hts hG hK hF hC hcs.1 (fun i q hq => ?_) (fun i => hI i p e s m _ below meth c _ D tys ad cA A ⟨hx, hb, hml, hown, hts⟩ hG hK hcs htb) ?_ hen N 0 (zm_lo av maxL) [] M s.heap [] ls hrun (zk_en hle hv hl) (fun v hv => by cases hv) ⟨hP, va_S.rf⟩
  · obtain ⟨h1, C, n, d', h2, h3⟩ := hZ i q hq
    exact ⟨h1, C, n, d', hcs.2 _ h2, h3⟩
  · intro v M' H' locs' pc' ls' hrv hvv hP' hdc
    obtain ⟨hout, hcase⟩ := hr v M' t hrv
    have hq : ∀ t' : State, t'.heap = H' → s.WarmedH t'.vm → zk_po Y cl D ad cA A (out t).1 (out t).2 (av.map (zc_v ad)).toArray s (.returned (v.map (zc_v ad))) t' := fun t' ht _ => by
      rw [hout]
      exact ⟨rfl, hvv, by rw [ht]; exact hP'.1, hP'.2.F ht⟩
    rcases hcase with ⟨h1, rfl⟩ | ⟨h1, x, rfl⟩ | ⟨h1, x, rfl, hx01⟩ | ⟨C, h1, r, rfl⟩
    · exact W.vret hx hb (hrt.trans h1) hq hP'.2.2.2 hdc
    · exact W.iret hx hb (hrt.trans h1) hq hP'.2.2.2 hdc
    · exact W.zret hx hb (hrt.trans h1) (by rcases hx01 with rfl | rfl <;> rfl) hq hP'.2.2.2 hdc
    · exact W.aret hx hb (hrt.trans h1) (Or.inl ⟨C, rfl⟩) (Or.inr ⟨_, rfl⟩) hq hP'.2.2.2 hdc
end
section
/-! CALLS: a contract gives the rule of a call -/
def zl_up {α : Type} : List (Nat × α) → Nat → Option α
  | [], _ => none
  | (j, a) :: L, i => match Nat.beq j i with
    | true => some a
    | false => zl_up L i
theorem zl_up_mem {α : Type} : ∀ {L : List (Nat × α)} {i : Nat} {a : α}, zl_up L i = some a → (i, a) ∈ L
  | [], i, a, h => by cases h
  | (j, b) :: L, i, a, h => by
    unfold zl_up at h
    split at h
    · next hj =>
      cases h
      rw [Nat.eq_of_beq_eq_true hj]
      exact List.mem_cons_self
    · exact List.mem_cons_of_mem _ (zl_up_mem h)
/-- a method of n arguments; an instance method's receiver is of class ci -/
def zm_fs {T : Type} (n : Nat) (F : List zm_V → zm_M → Option T) (av : List zm_V) (M : zm_M) : Option T := match Nat.beq av.length n with
  | true => F av M
  | false => none
def zm_fv {T : Type} (Y : zm_Y) (ci n : Nat) (F : List zm_V → zm_M → Option T) (av : List zm_V) (M : zm_M) : Option T := match av with
  | .inr r :: as => match Nat.beq as.length n && (Nat.beq (zy_k Y r.1) 0 && Nat.beq (zy_c Y r.1) ci) with
    | true => F (.inr r :: as) M
    | false => none
  | _ => none
theorem zm_fs_spec {T : Type} {n : Nat} {F : List zm_V → zm_M → Option T} {av : List zm_V} {M : zm_M} {t : T} (h : zm_fs n F av M = some t) : av.length = n ∧ F av M = some t := by
  unfold zm_fs at h
  split at h
  · next hn => exact ⟨Nat.eq_of_beq_eq_true hn, h⟩
  · cases h
theorem zm_fv_spec {T : Type} {Y : zm_Y} {ci n : Nat} {F : List zm_V → zm_M → Option T} {av : List zm_V} {M : zm_M} {t : T} (h : zm_fv Y ci n F av M = some t) : ∃ r as, av = .inr r :: as ∧ as.length = n ∧ zy_k Y r.1 = 0 ∧ zy_c Y r.1 = ci ∧ F av M = some t := by
  unfold zm_fv at h
  split at h
  · next r as =>
    split at h
    · next hc =>
      rw [Bool.and_eq_true, Bool.and_eq_true, Nat.beq_eq, Nat.beq_eq, Nat.beq_eq] at hc
      exact ⟨r, as, rfl, hc.1, hc.2.1, hc.2.2, h⟩
    · cases h
  · cases h
section ZC
variable {p : Program} {l : Launch} {e : Env} {R : Room} {s : State} {m : MethodId} {args : Array Value} {below : List Frame} {meth : Method} {c : Code} {H : Heap} {locs : List Loc} {Q : State → Prop}
variable {cc : ByteArray} {pc nL : Nat} {ls : Array Slot} {rest st0 : List Value} {D : va_G} {cl : List vw_C} {tys : List (ClassId × FieldType)} {A : Nat → Prop} {ad : Nat × Nat → Nat} {cA : Nat → ClassId} {Y : zm_Y} {own : String} {Ts : List Cond} {M : zm_M} {Zs : zk_Zs}
theorem zk_call {v : Option zm_V} {M' : zm_M} {a : Array Value} (hr : va_Run p l e R s m args below meth c H locs 0 0 0 0 (F0 m pc ls st0) rest (zk_po Y cl D ad cA A v M' a) A) (hS : va_S A s.heap H locs)
    (kk : ∀ H1 locs1, (∀ w ∈ v, zv_ok Y w) → zs_at D cl Y ad cA A s.heap M' H1 locs1 → W p l e R s m args below meth c H1 locs1 0 0 Q (F0 m (pc + 3) ls ((v.map (zc_v ad)).toList ++ rest))) : W p l e R s m args below meth c H locs 0 0 Q (F0 m pc ls st0) := by
  intro T hT X
  obtain ⟨v', st₀, t, T', L, h0, X', hL, e1, e2, ⟨hv, hvv, hP', hz, hk⟩, st⟩ := hr T hT X
  cases hv
  rw [h0] at hz hk
  obtain ⟨t2, a1, b1⟩ := kk T'.heap (locs ++ L) hvv ⟨by rw [e1]; exact hP', Nat.le_trans hS.1 (by rw [e1]; exact hz), fun q h1 h2 => by rw [e1, hk q (Nat.lt_of_lt_of_le h1 hS.1) h2]; exact hS.2.1 q h1 h2, fun q hq => by
      rcases List.mem_append.mp hq with h | h
      · exact hS.2.2 q h
      · exact hL q h⟩ T' rfl X'
  exact ⟨t2, st t2 a1, b1⟩
theorem zk_blind (hTs : ∀ w ∈ Ts, zk_nw w = true) (av : List Value) : FrameBlind (va_Pc av (zk_pr Ts Y cl Zs D tys ad cA A M)) := by
  intro a U g mk h
  obtain ⟨h0, h1, h2, h3, h4⟩ := h
  refine ⟨h0, h1, va_K.moved (u := U) (U := U.calling g mk a) (Vm.Alike.refl U.vm) h2, zk_cs.moved (u := U) (U := U.calling g mk a) (Vm.Alike.refl U.vm) h3, fun w hw => ?_⟩
  have hw1 := hTs w hw
  have ho : w.onTables = true := by
    unfold zk_nw at hw1
    split at hw1
    · rfl
    · rfl
    · exact (Bool.and_eq_true _ _ ▸ hw1 : _ ∧ _).1
  exact va_Nw.same ho (rfl : U.vm = (U.calling g mk a).vm) (h4 w hw)
theorem zk_pre (hTs : ∀ w ∈ Ts, zk_nw w = true) (hK : va_K D cl tys s) (hcs : zk_cs Y Zs ad A s s.heap) (htb : zk_tb Ts s) (hP : zs_at D cl Y ad cA A s.heap M H locs) {U : State} (hU : U.heap = H) (hW : s.WarmedH U.vm) : zk_pr Ts Y cl Zs D tys ad cA A M U := by
  refine ⟨by rw [hU]; exact hP.1, va_K.moved hW.alike hK, ?_, zk_tb.warm hTs hW htb⟩
  rw [hU]
  exact (hcs.moved hW.alike).kept hP.2.2.1
theorem zk_sum (ad : Nat × Nat → Nat) (st : List zm_V) : ((st.map (zc_v ad)).map fun v => v.category).sum = st.length := by
  induction st with
  | nil => rfl
  | cons a st ih => simp only [List.map_cons, List.sum_cons, ih, zc_v_cat, List.length_cons]; omega
/-- what a call's rule is for, before the kinds of answers part -/
def zj_ok (p : Program) (l : Launch) (e : Env) (R : Room) (s : State) (m : MethodId) (args : Array Value) (below : List Frame) (meth : Method) (c : Code) (Q : State → Prop) (cc : ByteArray) (nL : Nat) (D : va_G) (cl : List vw_C) (A : Nat → Prop) (ad : Nat × Nat → Nat) (cA : Nat → ClassId) (Y : zm_Y) (key n : Nat) {T : Type} (out : T → Option zm_V × zm_M) (f : List zm_V → zm_M → Option T) : Prop :=
  ∀ (i pc : Nat) (ls : Array Slot) (av rs : List zm_V) (M : zm_M) (H : Heap) (locs : List Loc) (ins : Jvm.ClassFile.Instr) (q : T), ((key = 2 * i + 1 ∧ ins = .invokevirtual i) ∨ (key = 2 * i ∧ ins = .invokestatic i)) → decode cc pc = .ok (ins, 3) → ls.size = nL → (∀ v ∈ av, zv_ok Y v) → rs.length ≤ 8 → av.length = n → zs_at D cl Y ad cA A s.heap M H locs → f av M = some q →
    (∀ (H' : Heap) (locs' : List Loc), (∀ w ∈ (out q).1, zv_ok Y w) → zs_at D cl Y ad cA A s.heap (out q).2 H' locs' → W p l e R s m args below meth c H' locs' 0 0 Q (F0 m (pc + 3) ls (((out q).1.toList ++ rs).map (zc_v ad)))) →
    W p l e R s m args below meth c H locs 0 0 Q (F0 m pc ls ((av.reverse ++ rs).map (zc_v ad)))
theorem zj_split {st : List zm_V} {n : Nat} (h : n ≤ st.length) : (st.take n).reverse.reverse ++ st.drop n = st ∧ (st.take n).reverse.length = n := by
  rw [List.reverse_reverse, List.take_append_drop, List.length_reverse, List.length_take]
  exact ⟨rfl, by omega⟩
theorem zj_i {i n : Nat} {f : List zm_V → zm_M → Option (Int32 × zm_M)} (h : zj_ok p l e R s m args below meth c Q cc nL D cl A ad cA Y i n zo_i f) : zi_ok p l e R s m args below meth c 0 0 Q cc nL D cl A ad cA Y i (some (n, .inl f)) := by
  intro ix pc ls st M H locs ins hi hd hls hst hP T t K hk kk
  unfold zm_iv at hk
  dsimp only at hk
  split at hk
  · next hc =>
    rw [Bool.and_eq_true] at hc
    have h1 := Nat.le_of_ble_eq_true hc.1
    have h2 := Nat.le_of_ble_eq_true hc.2
    obtain ⟨q, hq, hk⟩ := Option.bind_eq_some_iff.mp hk
    obtain ⟨e1, e2⟩ := zj_split h1
    have := h ix pc ls (st.take n).reverse (st.drop n) M H locs ins q hi hd hls (fun v hv => hst v (List.mem_of_mem_take (List.mem_reverse.mp hv))) (by rw [List.length_drop]; omega) e2 hP hq (fun H' locs' _ hP' => kk _ _ H' locs' hk (fun v hv => by
      rcases List.mem_cons.mp hv with rfl | hv
      · exact trivial
      · exact hst v (List.mem_of_mem_drop hv)) hP')
    rw [e1] at this
    exact this
  · cases hk
theorem zj_v {i n : Nat} {f : List zm_V → zm_M → Option zm_M} (h : zj_ok p l e R s m args below meth c Q cc nL D cl A ad cA Y i n zo_v f) : zi_ok p l e R s m args below meth c 0 0 Q cc nL D cl A ad cA Y i (some (n, .inr (.inl f))) := by
  intro ix pc ls st M H locs ins hi hd hls hst hP T t K hk kk
  unfold zm_iv at hk
  dsimp only at hk
  split at hk
  · next hc =>
    rw [Bool.and_eq_true] at hc
    have h1 := Nat.le_of_ble_eq_true hc.1
    have h2 := Nat.le_of_ble_eq_true hc.2
    obtain ⟨q, hq, hk⟩ := Option.bind_eq_some_iff.mp hk
    obtain ⟨e1, e2⟩ := zj_split h1
    have := h ix pc ls (st.take n).reverse (st.drop n) M H locs ins q hi hd hls (fun v hv => hst v (List.mem_of_mem_take (List.mem_reverse.mp hv))) (by rw [List.length_drop]; omega) e2 hP hq (fun H' locs' _ hP' => kk _ _ H' locs' hk (fun v hv => hst v (List.mem_of_mem_drop hv)) hP')
    rw [e1] at this
    exact this
  · cases hk
theorem zj_r {i n : Nat} {f : List zm_V → zm_M → Option ((Nat × Nat) × zm_M)} (h : zj_ok p l e R s m args below meth c Q cc nL D cl A ad cA Y i n zo_r f) : zi_ok p l e R s m args below meth c 0 0 Q cc nL D cl A ad cA Y i (some (n, .inr (.inr f))) := by
  intro ix pc ls st M H locs ins hi hd hls hst hP T t K hk kk
  unfold zm_iv at hk
  dsimp only at hk
  split at hk
  · next hc =>
    rw [Bool.and_eq_true] at hc
    have h1 := Nat.le_of_ble_eq_true hc.1
    have h2 := Nat.le_of_ble_eq_true hc.2
    obtain ⟨q, hq, hk⟩ := Option.bind_eq_some_iff.mp hk
    obtain ⟨e1, e2⟩ := zj_split h1
    have := h ix pc ls (st.take n).reverse (st.drop n) M H locs ins q hi hd hls (fun v hv => hst v (List.mem_of_mem_take (List.mem_reverse.mp hv))) (by rw [List.length_drop]; omega) e2 hP hq (fun H' locs' hv' hP' => kk _ _ H' locs' hk (fun v hv => by
      rcases List.mem_cons.mp hv with rfl | hv
      · exact hv' _ rfl
      · exact hst v (List.mem_of_mem_drop hv)) hP')
    rw [e1] at this
    exact this
  · cases hk
end ZC
end
section
section ZD
variable {l : Launch} {cc : ByteArray} {nL : Nat} {cl : List vw_C} {Y : zm_Y} {own : String} {Ts : List Cond} {Zs : zk_Zs} {d d' : Nat × Nat} {y : MethodName} {cy : ByteArray} {maxL : Nat} {ret : Option FieldType} {T : Type} {out : T → Option zm_V × zm_M} {f F : List zm_V → zm_M → Option T} {i n ci : Nat}
/-- a rule of a call that holds in every frame of the caller -/
def zj_al (Ts : List Cond) (Y : zm_Y) (cl : List vw_C) (Zs : zk_Zs) (l : Launch) (d : Nat × Nat) (own : String) (cc : ByteArray) (nL : Nat) (i n : Nat) {T : Type} (out : T → Option zm_V × zm_M) (f : List zm_V → zm_M → Option T) : Prop :=
  ∀ (p : Program) (e : Env) (s : State) (m : MethodId) (args : Array Value) (below : List Frame) (meth : Method) (c : Code) (Q : State → Prop) (D : va_G) (tys : List (ClassId × FieldType)) (ad : Nat × Nat → Nat) (cA : Nat → ClassId) (A : Nat → Prop), CallFix p m c cc nL s args Ts own → zg_ok Y cl tys ad cA A → va_K D cl tys s → zk_cs Y Zs ad A s s.heap → zk_tb Ts s →
    zj_ok p l e (zk_rm d) s m args below meth c Q cc nL D cl A ad cA Y i n out f
theorem zj_al_i {f : List zm_V → zm_M → Option (Int32 × zm_M)} (h : zj_al Ts Y cl Zs l d own cc nL i n zo_i f) : zi_al Ts Y cl Zs l d own cc nL i (some (n, .inl f)) :=
  fun p e s m args below meth c Q D tys ad cA A a1 a2 a3 a4 a5 => zj_i (h p e s m args below meth c Q D tys ad cA A a1 a2 a3 a4 a5)
theorem zj_al_v {f : List zm_V → zm_M → Option zm_M} (h : zj_al Ts Y cl Zs l d own cc nL i n zo_v f) : zi_al Ts Y cl Zs l d own cc nL i (some (n, .inr (.inl f))) :=
  fun p e s m args below meth c Q D tys ad cA A a1 a2 a3 a4 a5 => zj_v (h p e s m args below meth c Q D tys ad cA A a1 a2 a3 a4 a5)
theorem zj_al_r {f : List zm_V → zm_M → Option ((Nat × Nat) × zm_M)} (h : zj_al Ts Y cl Zs l d own cc nL i n zo_r f) : zi_al Ts Y cl Zs l d own cc nL i (some (n, .inr (.inr f))) :=
  fun p e s m args below meth c Q D tys ad cA A a1 a2 a3 a4 a5 => zj_r (h p e s m args below meth c Q D tys ad cA A a1 a2 a3 a4 a5)
theorem zi_al_none : zi_al Ts Y cl Zs l d own cc nL i none := by
  intro p e s m args below meth c Q D tys ad cA A a1 a2 a3 a4 a5 ix pc ls st M H locs ins hi hd hls hst hP T t K hk kk
  cases hk
theorem zi_al_up {L : List (Nat × zm_F)} (h : ∀ q ∈ L, zi_al Ts Y cl Zs l d own cc nL q.1 (some q.2)) (i : Nat) : zi_al Ts Y cl Zs l d own cc nL i (zl_up L i) := by
  cases hu : zl_up L i with
  | none => exact zi_al_none
  | some a => exact h (i, a) (zl_up_mem hu)
/-- what a call needs of the callee's name -/
def zn_ok (y : MethodName) (n : Nat) : Prop := y.cls ≠ "java/lang/invoke/MethodHandle" ∧ y.cls ≠ "java/lang/invoke/VarHandle" ∧ (parseMethodDescriptor y.desc).map (fun d => d.parameters.length) = some n
theorem zk_good (hTs : ∀ w ∈ Ts, zk_nw w = true) (hc : Cond.code y cy maxL ret ∈ Ts) : GoodIn Ts [Cond.code y cy maxL ret] := by
  intro w hw
  rw [List.mem_singleton] at hw
  subst hw
  exact ⟨hc, Or.inl (hTs _ hc)⟩
theorem zk_rec {s : State} {H : Heap} {D : va_G} {tys : List (ClassId × FieldType)} {ad : Nat × Nat → Nat} {cA : Nat → ClassId} {A : Nat → Prop} {M : zm_M} {locs : List Loc} {H0 : Heap} (hG : zg_ok Y cl tys ad cA A) (hK : va_K D cl tys s) (hP : zs_at D cl Y ad cA A H0 M H locs) {r : Nat × Nat} (hr : zy_ok Y r) (hk : zy_k Y r.1 = 0) (hc : zy_c Y r.1 = ci) {C : String} (hC : (cl[ci]?).map (fun q => q.1) = some C) : ∃ cell : Cell, H[ad r]? = some cell ∧ cell.vm.isStatics = false ∧ s.vm.findClass C = some cell.cls := by
  have hdm := zs_dom hr hk (by decide)
  obtain ⟨q0, hq0⟩ := zc_at (ad := ad) (cA := cA) (M := M) (zy_d_mem.mpr hdm)
  have he : zc_e Y ad cA M r = .inr (ci, (List.range (zy_n Y r.1)).map fun k => match zy_r Y r.1 r.2 k with
      | none => .int (M r.1 r.2 k)
      | some q => .ref (ad q)) := by
    unfold zc_e
    rw [hk, hc]
    rfl
  rw [he] at hq0
  cases hcl : cl[ci]? with
  | none => rw [hcl] at hC; cases hC
  | some q =>
    rw [hcl] at hC
    cases hC
    exact va_recv hK hP.1 hcl hq0
/-- an instance method of the same class or a package mate's -/
theorem zj_V (hTs : ∀ w ∈ Ts, zk_nw w = true) (hM : zk_me Ts Y cl Zs l d' y cy maxL ret out (zm_fv Y ci n F)) (hl : Cond.methodLink own i y ∈ Ts) (hi : Cond.instanceMethod y ∈ Ts) (hs : Cond.selects y.cls y y ∈ Ts) (hin : Cond.initialized y.cls ∈ Ts) (hc : Cond.code y cy maxL ret ∈ Ts) (hC : (cl[ci]?).map (fun q => q.1) = some y.cls) (hn : zn_ok y n) (hR : d'.1 + 1 ≤ d.1 ∧ 8 + (maxL + 11) + d'.2 ≤ d.2) : zj_al Ts Y cl Zs l d own cc nL (2 * i + 1) (n + 1) out (zm_fv Y ci n F) := by
  intro p e s m args below meth c Q D tys ad cA A S hG hK hcs htb ix pc ls av rs M H locs ins q hins hd hls hv hrs hav hP hf kk
  obtain ⟨r, as, rfl, hasn, hk0, hkc, hf'⟩ := zm_fv_spec hf
  have hr : zy_ok Y r := hv (.inr r) List.mem_cons_self
  have hcb : CallB (zk_rm d) s args own i y cy maxL ret [Cond.code y cy maxL ret] (zk_rm d') 0 0 n := callB_of n S.2.2.2.2 (zk_good hTs hc) rfl rfl rfl (S.2.2.2.2 _ hin) (S.2.2.2.2 _ hl) hn hR
  have hM' := hM D tys ad cA A hG (.inr r :: as) M q hv hf
  rcases hins with ⟨hix, rfl⟩ | ⟨hix, rfl⟩
  · obtain rfl : ix = i := by omega
    have hst : ((.inr r :: as).reverse ++ rs).map (zc_v ad) = (as.map (zc_v ad)).reverse ++ .ref (ad r) :: rs.map (zc_v ad) := by simp [zc_v]
    rw [hst]
    refine zk_call (va_runV (As := as.map (zc_v ad)) (b := ad r) (rest := rs.map (zc_v ad)) (C := y.cls) S hM' ⟨hcb, S.2.2.2.2 _ hi, S.2.2.2.2 _ hs⟩ ⟨zk_blind hTs _, zk_rec hG hK hP hr hk0 hkc hC, fun U hU hW => ⟨rfl, zk_pre hTs hK hcs htb hP hU hW⟩⟩ rfl (by rw [List.length_map]; exact hasn) hls rfl (lv_room (by rw [zk_sum]; exact hrs)) hd ⟨Nat.zero_le _, Nat.zero_le _⟩) hP.2 (fun H1 locs1 hvv hP1 => ?_)
    have := kk H1 locs1 hvv hP1
    rw [List.map_append] at this
    cases ho : (out q).1 with
    | none => rw [ho] at this; exact this
    | some w => rw [ho] at this; exact this
  · omega
/-- a nest mate's instance method -/
theorem zj_VN (hTs : ∀ w ∈ Ts, zk_nw w = true) {host : String} (hM : zk_me Ts Y cl Zs l d' y cy maxL ret out (zm_fv Y ci n F)) (hl : Cond.methodLinkNest own i y host ∈ Ts) (hi : Cond.instanceMethod y ∈ Ts) (hs : Cond.selects y.cls y y ∈ Ts) (hin : Cond.initialized y.cls ∈ Ts) (hc : Cond.code y cy maxL ret ∈ Ts) (hC : (cl[ci]?).map (fun q => q.1) = some y.cls) (hn : zn_ok y n) (hR : d'.1 + 1 ≤ d.1 ∧ 8 + (maxL + 11) + d'.2 ≤ d.2) : zj_al Ts Y cl Zs l d own cc nL (2 * i + 1) (n + 1) out (zm_fv Y ci n F) := by
  intro p e s m args below meth c Q D tys ad cA A S hG hK hcs htb ix pc ls av rs M H locs ins q hins hd hls hv hrs hav hP hf kk
  obtain ⟨r, as, rfl, hasn, hk0, hkc, hf'⟩ := zm_fv_spec hf
  have hr : zy_ok Y r := hv (.inr r) List.mem_cons_self
  have hM' := hM D tys ad cA A hG (.inr r :: as) M q hv hf
  rcases hins with ⟨hix, rfl⟩ | ⟨hix, rfl⟩
  · obtain rfl : ix = i := by omega
    have hst : ((.inr r :: as).reverse ++ rs).map (zc_v ad) = (as.map (zc_v ad)).reverse ++ .ref (ad r) :: rs.map (zc_v ad) := by simp [zc_v]
    rw [hst]
    refine zk_call (va_runVN (As := as.map (zc_v ad)) (b := ad r) (rest := rs.map (zc_v ad)) (C := y.cls) S hM' ⟨va_cnB (R := zk_rm d) (rm := zk_rm d') n S.2.2.2.2 (zk_good hTs hc) rfl rfl rfl (htb _ hl) (S.2.2.2.2 _ hin) hn hR, S.2.2.2.2 _ hi, S.2.2.2.2 _ hs⟩ ⟨zk_blind hTs _, zk_rec hG hK hP hr hk0 hkc hC, fun U hU hW => ⟨rfl, zk_pre hTs hK hcs htb hP hU hW⟩⟩ rfl (by rw [List.length_map]; exact hasn) hls rfl (lv_room (by rw [zk_sum]; exact hrs)) hd ⟨Nat.zero_le _, Nat.zero_le _⟩) hP.2 (fun H1 locs1 hvv hP1 => ?_)
    have := kk H1 locs1 hvv hP1
    rw [List.map_append] at this
    cases ho : (out q).1 with
    | none => rw [ho] at this; exact this
    | some w => rw [ho] at this; exact this
  · omega
/-- a static method -/
theorem zj_S (hTs : ∀ w ∈ Ts, zk_nw w = true) (hM : zk_me Ts Y cl Zs l d' y cy maxL ret out (zm_fs n F)) (hl : Cond.methodLink own i y ∈ Ts) (hi : Cond.static y ∈ Ts) (hin : Cond.initialized y.cls ∈ Ts) (hc : Cond.code y cy maxL ret ∈ Ts) (hn : zn_ok y n) (hR : d'.1 + 1 ≤ d.1 ∧ 8 + (maxL + 11) + d'.2 ≤ d.2) : zj_al Ts Y cl Zs l d own cc nL (2 * i) n out (zm_fs n F) := by
  intro p e s m args below meth c Q D tys ad cA A S hG hK hcs htb ix pc ls av rs M H locs ins q hins hd hls hv hrs hav hP hf kk
  have hcb : CallB (zk_rm d) s args own i y cy maxL ret [Cond.code y cy maxL ret] (zk_rm d') 0 0 n := callB_of n S.2.2.2.2 (zk_good hTs hc) rfl rfl rfl (S.2.2.2.2 _ hin) (S.2.2.2.2 _ hl) hn hR
  have hM' := hM D tys ad cA A hG av M q hv hf
  rcases hins with ⟨hix, rfl⟩ | ⟨hix, rfl⟩
  · omega
  · obtain rfl : ix = i := by omega
    have hst : (av.reverse ++ rs).map (zc_v ad) = (av.map (zc_v ad)).reverse ++ rs.map (zc_v ad) := by simp
    rw [hst]
    refine zk_call (va_runS (As := av.map (zc_v ad)) (rest := rs.map (zc_v ad)) S hM' ⟨hcb, S.2.2.2.2 _ hi⟩ ⟨zk_blind hTs _, fun U hU hW => ⟨rfl, zk_pre hTs hK hcs htb hP hU hW⟩⟩ rfl (by rw [List.length_map]; exact hav) hls rfl (lv_room (by rw [zk_sum]; exact hrs)) hd ⟨Nat.zero_le _, Nat.zero_le _⟩) hP.2 (fun H1 locs1 hvv hP1 => ?_)
    have := kk H1 locs1 hvv hP1
    rw [List.map_append] at this
    cases ho : (out q).1 with
    | none => rw [ho] at this; exact this
    | some w => rw [ho] at this; exact this
/-- a nest mate's static method -/
theorem zj_SN (hTs : ∀ w ∈ Ts, zk_nw w = true) {host : String} (hM : zk_me Ts Y cl Zs l d' y cy maxL ret out (zm_fs n F)) (hl : Cond.methodLinkNest own i y host ∈ Ts) (hi : Cond.static y ∈ Ts) (hin : Cond.initialized y.cls ∈ Ts) (hc : Cond.code y cy maxL ret ∈ Ts) (hn : zn_ok y n) (hR : d'.1 + 1 ≤ d.1 ∧ 8 + (maxL + 11) + d'.2 ≤ d.2) : zj_al Ts Y cl Zs l d own cc nL (2 * i) n out (zm_fs n F) := by
  intro p e s m args below meth c Q D tys ad cA A S hG hK hcs htb ix pc ls av rs M H locs ins q hins hd hls hv hrs hav hP hf kk
  have hM' := hM D tys ad cA A hG av M q hv hf
  rcases hins with ⟨hix, rfl⟩ | ⟨hix, rfl⟩
  · omega
  · obtain rfl : ix = i := by omega
    have hst : (av.reverse ++ rs).map (zc_v ad) = (av.map (zc_v ad)).reverse ++ rs.map (zc_v ad) := by simp
    rw [hst]
    refine zk_call (va_runSN (As := av.map (zc_v ad)) (rest := rs.map (zc_v ad)) S hM' ⟨va_cnB (R := zk_rm d) (rm := zk_rm d') n S.2.2.2.2 (zk_good hTs hc) rfl rfl rfl (htb _ hl) (S.2.2.2.2 _ hin) hn hR, S.2.2.2.2 _ hi, trivial⟩ ⟨zk_blind hTs _, fun U hU hW => ⟨rfl, zk_pre hTs hK hcs htb hP hU hW⟩⟩ rfl (by rw [List.length_map]; exact hav) hls rfl (lv_room (by rw [zk_sum]; exact hrs)) hd ⟨Nat.zero_le _, Nat.zero_le _⟩) hP.2 (fun H1 locs1 hvv hP1 => ?_)
    have := kk H1 locs1 hvv hP1
    rw [List.map_append] at this
    cases ho : (out q).1 with
    | none => rw [ho] at this; exact this
    | some w => rw [ho] at this; exact this
end ZD
/-! System.arraycopy between arrays of ints -/
def zm_ac (Y : zm_Y) (av : List zm_V) (M : zm_M) : Option zm_M := match av with
  | [.inr a, .inl sp, .inr b, .inl dp, .inl n] => match Nat.beq (zy_k Y a.1) 1 && Nat.beq (zy_k Y b.1) 1 with
    | true => if sp < 0 ∨ dp < 0 ∨ n < 0 ∨ zy_n Y a.1 < sp.toNatClampNeg + n.toNatClampNeg ∨ zy_n Y b.1 < dp.toNatClampNeg + n.toNatClampNeg then none else some (zm_ua M b.1 b.2 (va_cpy (M a.1 a.2) (M b.1 b.2) sp.toNatClampNeg dp.toNatClampNeg n.toNatClampNeg))
    | false => none
  | _ => none
theorem zc_e_na {Y : zm_Y} {ad : Nat × Nat → Nat} {cA : Nat → ClassId} {M : zm_M} {r x : Nat × Nat} {g : Nat → Int32} (h : x ≠ r) : zc_e Y ad cA (zm_ua M r.1 r.2 g) x = zc_e Y ad cA M x := by
  have hf : zm_ua M r.1 r.2 g x.1 x.2 = M x.1 x.2 := funext fun k => by
    unfold zm_ua
    rw [if_neg]
    rintro ⟨h1, h2⟩
    exact h (Prod.ext h1 h2)
  unfold zc_e
  rw [hf]
theorem zj_ac {l : Launch} {cc : ByteArray} {nL : Nat} {cl : List vw_C} {Y : zm_Y} {own : String} {Ts : List Cond} {Zs : zk_Zs} {d : Nat × Nat} {i : Nat} (hl : Cond.methodLink own i arraycopyName ∈ Ts) (hna : Cond.native arraycopyName ∈ Ts) (hi : Cond.static arraycopyName ∈ Ts) (hin : Cond.initialized "java/lang/System" ∈ Ts) (hR : 1 ≤ d.1 ∧ 26 ≤ d.2) : zj_al Ts Y cl Zs l d own cc nL (2 * i) 5 zo_v (zm_ac Y) := by
  intro p e s m args below meth c Q D tys ad cA A S hG hK hcs htb ix pc ls av rs M H locs ins q hins hd hls hv hrs hav hP hf kk
  rcases hins with ⟨hix, rfl⟩ | ⟨hix, rfl⟩
  · omega
  · obtain rfl : ix = i := by omega
    unfold zm_ac at hf
    split at hf
    · next a sp b dp n =>
      split at hf
      · next hc =>
        rw [Bool.and_eq_true, Nat.beq_eq, Nat.beq_eq] at hc
        split at hf
        · cases hf
        · next hb =>
          simp only [not_or] at hb
          obtain ⟨b1, b2, b3, b4, b5⟩ := hb
          cases hf
          have ha := zs_dom (hv (.inr a) List.mem_cons_self) hc.1 (by decide)
          have hbd := zs_dom (hv (.inr b) (by simp)) hc.2 (by decide)
          obtain ⟨q0, hq0⟩ := zc_at (ad := ad) (cA := cA) (M := M) (zy_d_mem.mpr ha)
          obtain ⟨q1, hq1⟩ := zc_at (ad := ad) (cA := cA) (M := M) (zy_d_mem.mpr hbd)
          have hq1' := hq1
          rw [zs_arr (Or.inl hc.1)] at hq0
          rw [zs_arr (Or.inl hc.2)] at hq1'
          obtain ⟨t0, ht0⟩ := hG.2.2.1 a.1 ha.1 hc.1
          obtain ⟨t1, ht1⟩ := hG.2.2.1 b.1 hbd.1 hc.2
          have hst : (([.inr a, .inl sp, .inr b, .inl dp, .inl n] : List zm_V).reverse ++ rs).map (zc_v ad) = .int n :: .int dp :: .ref (ad b) :: .int sp :: .ref (ad a) :: rs.map (zc_v ad) := by simp [zc_v]
          rw [hst]
          refine va_copyi S.1 S.2.1 (S.2.2.1.trans hls.symm) S.2.2.2.1 (S.2.2.2.2 _ hl) (S.2.2.2.2 _ hna) (S.2.2.2.2 _ hi) (S.2.2.2.2 _ hin) hK hP.1 (hG.1 M) hP.2 q0 q1 t0 t1 hq0 hq1' ht0 ht1 rfl b1 b2 b3 (by omega) (by omega) (fun _ _ => rfl) hR.1 ?_ hd (fun H1 locs1 h1 h2 h3 => ?_)
          · rw [zk_sum]
            have : nativeFrameWords "java/lang/System" "arraycopy" 5 + 11 = 18 := by decide +kernel
            rw [this]
            exact Nat.le_trans (by omega) hR.2
          · refine kk H1 locs1 (fun w hw => by cases hw) ⟨?_, h3⟩
            have hws := zc_set (M' := zm_ua M b.1 b.2 (va_cpy (M a.1 a.2) (M b.1 b.2) sp.toNatClampNeg dp.toNatClampNeg n.toNatClampNeg)) (hG.1 M) hG.2.1 (zy_d_mem.mpr hbd) hq1 (fun y hy => zc_e_na hy)
            rw [zs_arr (Or.inl hc.2)] at hws
            have he : zm_ua M b.1 b.2 (va_cpy (M a.1 a.2) (M b.1 b.2) sp.toNatClampNeg dp.toNatClampNeg n.toNatClampNeg) b.1 b.2 = va_cpy (M a.1 a.2) (M b.1 b.2) sp.toNatClampNeg dp.toNatClampNeg n.toNatClampNeg := by
              funext k
              unfold zm_ua
              rw [if_pos ⟨rfl, rfl⟩]
            rw [he] at hws
            show va_P D cl (zc_w Y ad cA (zm_ua M b.1 b.2 _)) H1
            rw [← hws]
            exact h1
      · cases hf
    · cases hf
end
section
/-! the words of the tables that go with a call; the classes; the layout of the store (written by wip/whole/gen3.py) -/
def zt_Ts : List Cond := lw_tbl.filter zk_nw
theorem zt_ok : ∀ w ∈ zt_Ts, zk_nw w = true := fun w h => (List.mem_filter.mp h).2
theorem zt_m {w : Cond} (i : Nat) (h : lw_tbl[i]? = some w) (h2 : zk_nw w = true) : w ∈ zt_Ts := List.mem_filter.mpr ⟨List.mem_of_getElem? h, h2⟩
def zm_eb (cc : ByteArray) (q : Nat × Jvm.ClassFile.Instr × Nat × List Nat) : Bool := decide (decode cc q.1 = .ok (q.2.1, zm_ln q.1 q.2.1)) && (decide (q.2.2.1 = q.1 + zm_ln q.1 q.2.1) && zm_tg q.1 q.2.2.2 q.2.1)
theorem zm_eb_ok {cc : ByteArray} {code : zm_C} (h : code.all (zm_eb cc) = true) : ∀ q ∈ code, zm_en cc q := by
  intro q hq
  have h1 := List.all_eq_true.mp h q hq
  unfold zm_eb at h1
  rw [Bool.and_eq_true, Bool.and_eq_true] at h1
  exact ⟨of_decide_eq_true h1.1, of_decide_eq_true h1.2.1, h1.2.2⟩
def zn_at {α : Type} : List α → Nat → α → α
  | [], _, d => d
  | a :: _, 0, _ => a
  | _ :: L, n + 1, d => zn_at L n d
def rn_fa : String := "MapForge$Family"
def tn_fa : u_T := fun k => match k with
  | 0 => ("MapForge$Family", "above", "[I", true)
  | 1 => ("MapForge$Family", "face", "[Z", true)
  | _ => ("MapForge$Family", "line", "[I", true)
def ty_fa : Nat → FieldType := fun k => match k with
  | 0 => .array .int
  | 1 => .array .boolean
  | _ => .array .int
def rn_pr : String := "MapForge$Program"
def tn_pr : u_T := fun k => match k with
  | 0 => ("MapForge$Program", "own", "I", false)
  | 1 => ("MapForge$Program", "mode", "I", false)
  | 2 => ("MapForge$Program", "gives", "Z", false)
  | 3 => ("MapForge$Program", "arguments", "[I", true)
  | 4 => ("MapForge$Program", "argumentCount", "I", false)
  | 5 => ("MapForge$Program", "ops", "[I", true)
  | 6 => ("MapForge$Program", "as", "[I", true)
  | 7 => ("MapForge$Program", "bs", "[I", true)
  | 8 => ("MapForge$Program", "offsets", "[I", true)
  | 9 => ("MapForge$Program", "size", "I", false)
  | 10 => ("MapForge$Program", "from", "[I", true)
  | 11 => ("MapForge$Program", "to", "[I", true)
  | 12 => ("MapForge$Program", "at", "[I", true)
  | 13 => ("MapForge$Program", "caught", "[I", true)
  | _ => ("MapForge$Program", "handlers", "I", false)
def ty_pr : Nat → FieldType := fun k => match k with
  | 0 => .int
  | 1 => .int
  | 2 => .boolean
  | 3 => .array .int
  | 4 => .int
  | 5 => .array .int
  | 6 => .array .int
  | 7 => .array .int
  | 8 => .array .int
  | 9 => .int
  | 10 => .array .int
  | 11 => .array .int
  | 12 => .array .int
  | 13 => .array .int
  | _ => .int
def rn_by : String := "MapForge$Bytes"
def tn_by : u_T := fun k => match k with
  | 0 => ("MapForge$Bytes", "cells", "[I", true)
  | _ => ("MapForge$Bytes", "size", "I", false)
def ty_by : Nat → FieldType := fun k => match k with
  | 0 => .array .int
  | _ => .int
def rn_ma : String := "MapForge$Machine"
def tn_ma : u_T := fun k => match k with
  | 0 => ("MapForge$Machine", "family", "LMapForge$Family;", true)
  | _ => ("MapForge$Machine", "program", "LMapForge$Program;", true)
def ty_ma : Nat → FieldType := fun k => match k with
  | 0 => .object "MapForge$Family"
  | _ => .object "MapForge$Program"
def rn_fr : String := "MapForge$Frame"
def tn_fr : u_T := fun k => match k with
  | 0 => ("MapForge$Frame", "locals", "[I", true)
  | 1 => ("MapForge$Frame", "stack", "[I", true)
  | 2 => ("MapForge$Frame", "depth", "I", false)
  | 3 => ("MapForge$Frame", "slots", "I", false)
  | _ => ("MapForge$Frame", "raw", "Z", false)
def ty_fr : Nat → FieldType := fun k => match k with
  | 0 => .array .int
  | 1 => .array .int
  | 2 => .int
  | 3 => .int
  | _ => .boolean
def rn_fl : String := "MapForge$Flow"
def tn_fl : u_T := fun k => match k with
  | 0 => ("MapForge$Flow", "family", "LMapForge$Family;", true)
  | 1 => ("MapForge$Flow", "program", "LMapForge$Program;", true)
  | 2 => ("MapForge$Flow", "machine", "LMapForge$Machine;", true)
  | 3 => ("MapForge$Flow", "frames", "[LMapForge$Frame;", true)
  | 4 => ("MapForge$Flow", "rowHere", "[Z", true)
  | 5 => ("MapForge$Flow", "reached", "[Z", true)
  | 6 => ("MapForge$Flow", "waiting", "[Z", true)
  | 7 => ("MapForge$Flow", "work", "LMapForge$Frame;", true)
  | 8 => ("MapForge$Flow", "known", "Z", false)
  | _ => ("MapForge$Flow", "right", "Z", false)
def ty_fl : Nat → FieldType := fun k => match k with
  | 0 => .object "MapForge$Family"
  | 1 => .object "MapForge$Program"
  | 2 => .object "MapForge$Machine"
  | 3 => .array (.object "MapForge$Frame")
  | 4 => .array .boolean
  | 5 => .array .boolean
  | 6 => .array .boolean
  | 7 => .object "MapForge$Frame"
  | 8 => .boolean
  | _ => .boolean
def rn_tl : String := "MapForge$TypeList"
def tn_tl : u_T := fun k => match k with
  | 0 => ("MapForge$TypeList", "types", "[I", true)
  | 1 => ("MapForge$TypeList", "size", "I", false)
  | _ => ("MapForge$TypeList", "width", "I", false)
def ty_tl : Nat → FieldType := fun k => match k with
  | 0 => .array .int
  | 1 => .int
  | _ => .int
def rn_wr : String := "MapForge$Writer"
def tn_wr : u_T := fun k => match k with
  | 0 => ("MapForge$Writer", "program", "LMapForge$Program;", true)
  | 1 => ("MapForge$Writer", "flow", "LMapForge$Flow;", true)
  | 2 => ("MapForge$Writer", "first", "LMapForge$Frame;", true)
  | 3 => ("MapForge$Writer", "before", "LMapForge$TypeList;", true)
  | 4 => ("MapForge$Writer", "list", "LMapForge$TypeList;", true)
  | _ => ("MapForge$Writer", "written", "LMapForge$Bytes;", true)
def ty_wr : Nat → FieldType := fun k => match k with
  | 0 => .object "MapForge$Program"
  | 1 => .object "MapForge$Flow"
  | 2 => .object "MapForge$Frame"
  | 3 => .object "MapForge$TypeList"
  | 4 => .object "MapForge$TypeList"
  | _ => .object "MapForge$Bytes"
def rn_re : String := "MapForge$Reader"
def tn_re : u_T := fun k => match k with
  | 0 => ("MapForge$Reader", "program", "LMapForge$Program;", true)
  | 1 => ("MapForge$Reader", "bytes", "LMapForge$Bytes;", true)
  | 2 => ("MapForge$Reader", "first", "LMapForge$Frame;", true)
  | 3 => ("MapForge$Reader", "list", "LMapForge$TypeList;", true)
  | 4 => ("MapForge$Reader", "frames", "[LMapForge$Frame;", true)
  | 5 => ("MapForge$Reader", "offsets", "[I", true)
  | 6 => ("MapForge$Reader", "firstBytes", "[I", true)
  | 7 => ("MapForge$Reader", "rowAt", "[I", true)
  | 8 => ("MapForge$Reader", "rows", "I", false)
  | 9 => ("MapForge$Reader", "known", "Z", false)
  | 10 => ("MapForge$Reader", "sound", "Z", false)
  | _ => ("MapForge$Reader", "next", "I", false)
def ty_re : Nat → FieldType := fun k => match k with
  | 0 => .object "MapForge$Program"
  | 1 => .object "MapForge$Bytes"
  | 2 => .object "MapForge$Frame"
  | 3 => .object "MapForge$TypeList"
  | 4 => .array (.object "MapForge$Frame")
  | 5 => .array .int
  | 6 => .array .int
  | 7 => .array .int
  | 8 => .int
  | 9 => .boolean
  | 10 => .boolean
  | _ => .int
def rn_ck : String := "MapForge$Checker"
def tn_ck : u_T := fun k => match k with
  | 0 => ("MapForge$Checker", "family", "LMapForge$Family;", true)
  | 1 => ("MapForge$Checker", "program", "LMapForge$Program;", true)
  | 2 => ("MapForge$Checker", "machine", "LMapForge$Machine;", true)
  | 3 => ("MapForge$Checker", "reader", "LMapForge$Reader;", true)
  | 4 => ("MapForge$Checker", "now", "LMapForge$Frame;", true)
  | _ => ("MapForge$Checker", "thrown", "LMapForge$Frame;", true)
def ty_ck : Nat → FieldType := fun k => match k with
  | 0 => .object "MapForge$Family"
  | 1 => .object "MapForge$Program"
  | 2 => .object "MapForge$Machine"
  | 3 => .object "MapForge$Reader"
  | 4 => .object "MapForge$Frame"
  | _ => .object "MapForge$Frame"
def rn_mf : String := "MapForge"
def tn_mf : u_T := fun k => match k with
  | 0 => ("MapForge", "family", "LMapForge$Family;", true)
  | 1 => ("MapForge", "program", "LMapForge$Program;", true)
  | 2 => ("MapForge", "bytes", "LMapForge$Bytes;", true)
  | 3 => ("MapForge", "flow", "LMapForge$Flow;", true)
  | 4 => ("MapForge", "writer", "LMapForge$Writer;", true)
  | 5 => ("MapForge", "reader", "LMapForge$Reader;", true)
  | _ => ("MapForge", "checker", "LMapForge$Checker;", true)
def ty_mf : Nat → FieldType := fun k => match k with
  | 0 => .object "MapForge$Family"
  | 1 => .object "MapForge$Program"
  | 2 => .object "MapForge$Bytes"
  | 3 => .object "MapForge$Flow"
  | 4 => .object "MapForge$Writer"
  | 5 => .object "MapForge$Reader"
  | _ => .object "MapForge$Checker"
def rn_mo : String := "MapForgeModel"
def tn_mo : u_T := fun k => match k with
  | 0 => ("MapForgeModel", "sup", "[I", true)
  | 1 => ("MapForgeModel", "face", "[Z", true)
  | 2 => ("MapForgeModel", "own", "I", false)
  | 3 => ("MapForgeModel", "mode", "I", false)
  | 4 => ("MapForgeModel", "arguments", "I", false)
  | 5 => ("MapForgeModel", "many", "I", false)
  | 6 => ("MapForgeModel", "handlers", "I", false)
  | 7 => ("MapForgeModel", "bytes", "I", false)
  | 8 => ("MapForgeModel", "gives", "Z", false)
  | 9 => ("MapForgeModel", "argument", "[I", true)
  | 10 => ("MapForgeModel", "op", "[I", true)
  | 11 => ("MapForgeModel", "one", "[I", true)
  | 12 => ("MapForgeModel", "two", "[I", true)
  | 13 => ("MapForgeModel", "hFrom", "[I", true)
  | 14 => ("MapForgeModel", "hTo", "[I", true)
  | 15 => ("MapForgeModel", "hAt", "[I", true)
  | 16 => ("MapForgeModel", "hClass", "[I", true)
  | 17 => ("MapForgeModel", "map", "[I", true)
  | 18 => ("MapForgeModel", "local", "[I", true)
  | 19 => ("MapForgeModel", "stack", "[I", true)
  | 20 => ("MapForgeModel", "depth", "I", false)
  | 21 => ("MapForgeModel", "raw", "Z", false)
  | 22 => ("MapForgeModel", "come", "[Z", true)
  | 23 => ("MapForgeModel", "isRaw", "[Z", true)
  | 24 => ("MapForgeModel", "deep", "[I", true)
  | 25 => ("MapForgeModel", "fLocal", "[I", true)
  | 26 => ("MapForgeModel", "fStack", "[I", true)
  | 27 => ("MapForgeModel", "right", "Z", false)
  | 28 => ("MapForgeModel", "changed", "Z", false)
  | 29 => ("MapForgeModel", "rowOffset", "[I", true)
  | 30 => ("MapForgeModel", "rowByte", "[I", true)
  | 31 => ("MapForgeModel", "rowDeep", "[I", true)
  | 32 => ("MapForgeModel", "rowLocal", "[I", true)
  | 33 => ("MapForgeModel", "rowStack", "[I", true)
  | 34 => ("MapForgeModel", "rows", "I", false)
  | 35 => ("MapForgeModel", "list", "[I", true)
  | 36 => ("MapForgeModel", "before", "[I", true)
  | 37 => ("MapForgeModel", "listed", "I", false)
  | 38 => ("MapForgeModel", "listedBefore", "I", false)
  | 39 => ("MapForgeModel", "made", "[I", true)
  | 40 => ("MapForgeModel", "length", "I", false)
  | 41 => ("MapForgeModel", "place", "I", false)
  | _ => ("MapForgeModel", "broken", "Z", false)
def ty_mo : Nat → FieldType := fun k => match k with
  | 0 => .array .int
  | 1 => .array .boolean
  | 2 => .int
  | 3 => .int
  | 4 => .int
  | 5 => .int
  | 6 => .int
  | 7 => .int
  | 8 => .boolean
  | 9 => .array .int
  | 10 => .array .int
  | 11 => .array .int
  | 12 => .array .int
  | 13 => .array .int
  | 14 => .array .int
  | 15 => .array .int
  | 16 => .array .int
  | 17 => .array .int
  | 18 => .array .int
  | 19 => .array .int
  | 20 => .int
  | 21 => .boolean
  | 22 => .array .boolean
  | 23 => .array .boolean
  | 24 => .array .int
  | 25 => .array .int
  | 26 => .array .int
  | 27 => .boolean
  | 28 => .boolean
  | 29 => .array .int
  | 30 => .array .int
  | 31 => .array .int
  | 32 => .array .int
  | 33 => .array .int
  | 34 => .int
  | 35 => .array .int
  | 36 => .array .int
  | 37 => .int
  | 38 => .int
  | 39 => .array .int
  | 40 => .int
  | 41 => .int
  | _ => .boolean
def zt_cl : List vw_C := [(rn_fa, tn_fa, 3), (rn_pr, tn_pr, 15), (rn_by, tn_by, 2), (rn_ma, tn_ma, 2), (rn_fr, tn_fr, 5), (rn_fl, tn_fl, 10), (rn_tl, tn_tl, 3), (rn_wr, tn_wr, 6), (rn_re, tn_re, 12), (rn_ck, tn_ck, 6), (rn_mf, tn_mf, 7), (rn_mo, tn_mo, 43)]
def ly_k : List Nat := [0, 0, 1, 2, 1, 0, 1, 1, 1, 1, 1, 1, 1, 1, 1, 0, 1, 0, 0, 3, 2, 2, 2, 0, 1, 1, 0, 0, 1, 0, 3, 1, 1, 1, 0, 0, 1, 2, 1, 1, 1, 1, 1, 1, 1, 1, 1, 1, 1, 2, 2, 1, 1, 1, 1, 1, 1, 1, 1, 1, 1, 1, 4, 4]
def ly_c : List Nat := [10, 0, 99, 99, 99, 1, 99, 99, 99, 99, 99, 99, 99, 99, 99, 2, 99, 3, 5, 99, 99, 99, 99, 4, 99, 99, 7, 6, 99, 8, 99, 99, 99, 99, 9, 11, 99, 99, 99, 99, 99, 99, 99, 99, 99, 99, 99, 99, 99, 99, 99, 99, 99, 99, 99, 99, 99, 99, 99, 99, 99, 99]
def ly_n : List Nat := [7, 3, 8, 8, 8, 15, 4, 50, 50, 50, 51, 4, 4, 4, 4, 2, 400, 2, 10, 50, 50, 50, 50, 5, 10, 8, 6, 3, 10, 12, 50, 50, 50, 50, 6, 43, 8, 8, 4, 50, 50, 50, 4, 4, 4, 4, 400, 10, 9, 50, 50, 50, 500, 400, 400, 400, 400, 4000, 3200, 12, 12, 2500, 5]
def ly_m : List Nat := [1, 1, 1, 1, 1, 1, 1, 1, 1, 1, 1, 1, 1, 1, 1, 2, 2, 1, 1, 1, 1, 1, 1, 105, 105, 105, 1, 3, 3, 1, 1, 1, 1, 1, 1, 1, 1, 1, 1, 1, 1, 1, 1, 1, 1, 1, 1, 1, 1, 1, 1, 1, 1, 1, 1, 1, 1, 1, 1, 1, 1, 1]
def ly_r : List (List (Option (Nat × (Nat → Nat)))) := [[some (1, fun _ => 0), some (5, fun _ => 0), some (15, fun _ => 0), some (18, fun _ => 0), some (26, fun _ => 0), some (29, fun _ => 0), some (34, fun _ => 0)],
  [some (2, fun _ => 0), some (3, fun _ => 0), some (4, fun _ => 0)],
  [],
  [],
  [],
  [none, none, none, some (6, fun _ => 0), none, some (7, fun _ => 0), some (8, fun _ => 0), some (9, fun _ => 0), some (10, fun _ => 0), none, some (11, fun _ => 0), some (12, fun _ => 0), some (13, fun _ => 0), some (14, fun _ => 0), none],
  [],
  [],
  [],
  [],
  [],
  [],
  [],
  [],
  [],
  [some (16, fun i => i), none],
  [],
  [some (1, fun _ => 0), some (5, fun _ => 0)],
  [some (1, fun _ => 0), some (5, fun _ => 0), some (17, fun _ => 0), some (19, fun _ => 0), some (20, fun _ => 0), some (21, fun _ => 0), some (22, fun _ => 0), some (23, fun _ => 100), none, none],
  [],
  [],
  [],
  [],
  [some (24, fun i => i), some (25, fun i => i), none, none, none],
  [],
  [],
  [some (5, fun _ => 0), some (18, fun _ => 0), some (23, fun _ => 101), some (27, fun _ => 0), some (27, fun _ => 1), some (15, fun _ => 1)],
  [some (28, fun i => i), none, none],
  [],
  [some (5, fun _ => 0), some (15, fun _ => 0), some (23, fun _ => 102), some (27, fun _ => 2), some (30, fun _ => 0), some (31, fun _ => 0), some (32, fun _ => 0), some (33, fun _ => 0), none, none, none, none],
  [],
  [],
  [],
  [],
  [some (1, fun _ => 0), some (5, fun _ => 0), some (17, fun _ => 0), some (29, fun _ => 0), some (23, fun _ => 103), some (23, fun _ => 104)],
  [some (36, fun _ => 0), some (37, fun _ => 0), none, none, none, none, none, none, none, some (38, fun _ => 0), some (39, fun _ => 0), some (40, fun _ => 0), some (41, fun _ => 0), some (42, fun _ => 0), some (43, fun _ => 0), some (44, fun _ => 0), some (45, fun _ => 0), some (46, fun _ => 0), some (47, fun _ => 0), some (48, fun _ => 0), none, none, some (49, fun _ => 0), some (50, fun _ => 0), some (51, fun _ => 0), some (52, fun _ => 0), some (53, fun _ => 0), none, none, some (54, fun _ => 0), some (55, fun _ => 0), some (56, fun _ => 0), some (57, fun _ => 0), some (58, fun _ => 0), none, some (59, fun _ => 0), some (60, fun _ => 0), none, none, some (61, fun _ => 0), none, none, none],
  [],
  [],
  [],
  [],
  [],
  [],
  [],
  [],
  [],
  [],
  [],
  [],
  [],
  [],
  [],
  [],
  [],
  [],
  [],
  [],
  [],
  [],
  [],
  [],
  [],
  []]
def ly_f : List (List Nat) := [[2, 2, 2], [0, 0, 1, 2, 0, 2, 2, 2, 2, 0, 2, 2, 2, 2, 0], [2, 0], [2, 2], [2, 2, 0, 0, 1], [2, 2, 2, 2, 2, 2, 2, 2, 1, 1], [2, 0, 0], [2, 2, 2, 2, 2, 2], [2, 2, 2, 2, 2, 2, 2, 2, 0, 1, 1, 0], [2, 2, 2, 2, 2, 2], [2, 2, 2, 2, 2, 2, 2], [2, 2, 0, 0, 0, 0, 0, 0, 1, 2, 2, 2, 2, 2, 2, 2, 2, 2, 2, 2, 0, 1, 2, 2, 2, 2, 2, 1, 1, 2, 2, 2, 2, 2, 0, 2, 2, 0, 0, 2, 0, 0, 1]]
def ly_e : Nat → Nat → Nat → Nat × Nat := fun s _ j => match Nat.beq s 19 with
  | true => (23, j)
  | false => (23, 50 + j)
def ly_t : List Int32 := [1, 4, 2, 3, 7]
/-- the script is the constant of sort 63 -/
def zt_Yx (len : Nat) (xs : Nat → Int32) : zm_Y := (fun s => zn_at ly_k s 9, fun s => zn_at ly_c s 99, fun s => match Nat.beq s 63 with
  | true => len
  | false => zn_at ly_n s 0, fun s i k => match zn_at (zn_at ly_r s []) k none with
  | none => none
  | some (t, f) => some (t, f i), ly_e, fun s => zn_at ly_m s 0, 62, fun s j => match Nat.beq s 63 with
  | true => xs j
  | false => zn_at ly_t j 0, fun c k => zn_at (zn_at ly_f c []) k 2)
def zt_Y : zm_Y := zt_Yx 0 (fun _ => 0)
def zt_Zs : zk_Zs := [("MapForge", "KINDS", "[I", (62, 0))]
end
section
def cd_fa_describe : zm_C := [(0, .aload_n 0, 1, []), (1, .getfield 9, 4, []), (4, .iload_n 1, 5, []), (5, .iload_n 2, 6, []), (6, .iastore, 7, []), (7, .aload_n 0, 8, []), (8, .getfield 15, 11, []), (11, .iload_n 1, 12, []), (12, .iload_n 3, 13, []), (13, .bastore, 14, []), (14, .iload_n 1, 15, []), (15, .istore 4, 17, []), (17, .iload 4, 19, []), (19, .bipush (8), 21, []), (21, .if_icmp .ge (33), 24, [54]), (24, .aload_n 0, 25, []), (25, .getfield 19, 28, []), (28, .iload 4, 30, []), (30, .aload_n 0, 31, []), (31, .getfield 19, 34, []), (34, .aload_n 0, 35, []), (35, .getfield 9, 38, []), (38, .iload 4, 40, []), (40, .iaload, 41, []), (41, .iaload, 42, []), (42, .iconst 1, 43, []), (43, .iload 4, 45, []), (45, .ishl, 46, []), (46, .ior, 47, []), (47, .iastore, 48, []), (48, .iinc 4 (1), 51, []), (51, .goto (-34), 54, [17]), (54, .return_, 55, [])]
def cd_mf_forgetFindings : zm_C := [(0, .aload_n 0, 1, []), (1, .getfield 40, 4, []), (4, .iconst 0, 5, []), (5, .putfield 188, 8, []), (8, .aload_n 0, 9, []), (9, .getfield 58, 12, []), (12, .iconst 0, 13, []), (13, .putfield 136, 16, []), (16, .return_, 17, [])]
def cd_mf_type : zm_C := [(0, .iload_n 1, 1, []), (1, .iconst 1, 2, []), (2, .if_icmp .lt (18), 5, [20]), (5, .iload_n 1, 6, []), (6, .bipush (8), 8, []), (8, .if_icmp .ge (12), 11, [20]), (11, .iload_n 2, 12, []), (12, .ifCond .lt (8), 15, [20]), (15, .iload_n 2, 16, []), (16, .iload_n 1, 17, []), (17, .if_icmp .lt (5), 20, [22]), (20, .iconst 0, 21, []), (21, .ireturn, 22, []), (22, .aload_n 0, 23, []), (23, .getfield 12, 26, []), (26, .iload_n 1, 27, []), (27, .iload_n 2, 28, []), (28, .iload_n 3, 29, []), (29, .invokevirtual 71, 32, []), (32, .aload_n 0, 33, []), (33, .invokevirtual 75, 36, []), (36, .iconst 1, 37, []), (37, .ireturn, 38, [])]
def cd_mf_isClass : zm_C := [(0, .iload_n 0, 1, []), (1, .ifCond .lt (13), 4, [14]), (4, .iload_n 0, 5, []), (5, .bipush (8), 7, []), (7, .if_icmp .ge (7), 10, [14]), (10, .iconst 1, 11, []), (11, .goto (4), 14, [15]), (14, .iconst 0, 15, []), (15, .ireturn, 16, [])]
def cd_pr_begin : zm_C := [(0, .aload_n 0, 1, []), (1, .iload_n 1, 2, []), (2, .putfield 39, 5, []), (5, .aload_n 0, 6, []), (6, .iload_n 2, 7, []), (7, .putfield 43, 10, []), (10, .aload_n 0, 11, []), (11, .iload_n 3, 12, []), (12, .ifCond .eq (12), 15, [24]), (15, .iload_n 2, 16, []), (16, .iconst 2, 17, []), (17, .if_icmp .eq (7), 20, [24]), (20, .iconst 1, 21, []), (21, .goto (4), 24, [25]), (24, .iconst 0, 25, []), (25, .putfield 46, 28, []), (28, .aload_n 0, 29, []), (29, .iconst 0, 30, []), (30, .putfield 50, 33, []), (33, .aload_n 0, 34, []), (34, .iconst 0, 35, []), (35, .putfield 53, 38, []), (38, .aload_n 0, 39, []), (39, .iconst 0, 40, []), (40, .putfield 56, 43, []), (43, .return_, 44, [])]
def cd_mf_method : zm_C := [(0, .iload_n 1, 1, []), (1, .invokestatic 78, 4, []), (4, .ifCond .eq (12), 7, [16]), (7, .iload_n 2, 8, []), (8, .ifCond .lt (8), 11, [16]), (11, .iload_n 2, 12, []), (12, .iconst 2, 13, []), (13, .if_icmp .le (5), 16, [18]), (16, .iconst 0, 17, []), (17, .ireturn, 18, []), (18, .aload_n 0, 19, []), (19, .getfield 19, 22, []), (22, .iload_n 1, 23, []), (23, .iload_n 2, 24, []), (24, .iload_n 3, 25, []), (25, .invokevirtual 82, 28, []), (28, .aload_n 0, 29, []), (29, .invokevirtual 75, 32, []), (32, .iconst 1, 33, []), (33, .ireturn, 34, [])]
def cd_mf_kindOf : zm_C := [(0, .iload_n 0, 1, []), (1, .bipush (15), 3, []), (3, .iand, 4, []), (4, .ireturn, 5, [])]
def cd_mf_partOf : zm_C := [(0, .iload_n 0, 1, []), (1, .iconst 4, 2, []), (2, .ishr, 3, []), (3, .ireturn, 4, [])]
def cd_mf_argument : zm_C := [(0, .iload_n 1, 1, []), (1, .iconst 1, 2, []), (2, .if_icmp .lt (12), 5, [14]), (5, .iload_n 1, 6, []), (6, .iconst 4, 7, []), (7, .if_icmp .gt (7), 10, [14]), (10, .iconst 1, 11, []), (11, .goto (4), 14, [15]), (14, .iconst 0, 15, []), (15, .istore_n 2, 16, []), (16, .iload_n 1, 17, []), (17, .ifCond .lt (26), 20, [43]), (20, .iload_n 1, 21, []), (21, .invokestatic 85, 24, []), (24, .bipush (7), 26, []), (26, .if_icmp .ne (17), 29, [43]), (29, .iload_n 1, 30, []), (30, .invokestatic 89, 33, []), (33, .invokestatic 78, 36, []), (36, .ifCond .eq (7), 39, [43]), (39, .iconst 1, 40, []), (40, .goto (4), 43, [44]), (43, .iconst 0, 44, []), (44, .istore_n 3, 45, []), (45, .iload_n 2, 46, []), (46, .ifCond .ne (9), 49, [55]), (49, .iload_n 3, 50, []), (50, .ifCond .ne (5), 53, [55]), (53, .iconst (-1), 54, []), (54, .ireturn, 55, []), (55, .aload_n 0, 56, []), (56, .getfield 19, 59, []), (59, .getfield 92, 62, []), (62, .iconst 4, 63, []), (63, .if_icmp .ne (6), 66, [69]), (66, .bipush (-3), 68, []), (68, .ireturn, 69, []), (69, .aload_n 0, 70, []), (70, .getfield 19, 73, []), (73, .getfield 96, 76, []), (76, .aload_n 0, 77, []), (77, .getfield 19, 80, []), (80, .getfield 92, 83, []), (83, .iload_n 1, 84, []), (84, .iastore, 85, []), (85, .aload_n 0, 86, []), (86, .getfield 19, 89, []), (89, .dup, 90, []), (90, .getfield 92, 93, []), (93, .iconst 1, 94, []), (94, .iadd, 95, []), (95, .putfield 92, 98, []), (98, .aload_n 0, 99, []), (99, .invokevirtual 75, 102, []), (102, .aload_n 0, 103, []), (103, .getfield 19, 106, []), (106, .getfield 92, 109, []), (109, .ireturn, 110, [])]
def cd_mf_hasLocal : zm_C := [(0, .iload_n 0, 1, []), (1, .bipush (21), 3, []), (3, .if_icmp .lt (13), 6, [16]), (6, .iload_n 0, 7, []), (7, .bipush (30), 9, []), (9, .if_icmp .gt (7), 12, [16]), (12, .iconst 1, 13, []), (13, .goto (4), 16, [17]), (16, .iconst 0, 17, []), (17, .ireturn, 18, [])]
def cd_mf_localKindOf : zm_C := [(0, .getstatic 201, 3, []), (3, .iload_n 0, 4, []), (4, .bipush (25), 6, []), (6, .if_icmp .gt (10), 9, [16]), (9, .iload_n 0, 10, []), (10, .bipush (21), 12, []), (12, .isub, 13, []), (13, .goto (7), 16, [20]), (16, .iload_n 0, 17, []), (17, .bipush (26), 19, []), (19, .isub, 20, []), (20, .iaload, 21, []), (21, .ireturn, 22, [])]
def cd_mf_widthOf : zm_C := [(0, .iload_n 0, 1, []), (1, .iconst 3, 2, []), (2, .if_icmp .eq (8), 5, [10]), (5, .iload_n 0, 6, []), (6, .iconst 4, 7, []), (7, .if_icmp .ne (7), 10, [14]), (10, .iconst 2, 11, []), (11, .goto (4), 14, [15]), (14, .iconst 1, 15, []), (15, .ireturn, 16, [])]
def cd_mf_isJump : zm_C := [(0, .iload_n 0, 1, []), (1, .bipush (31), 3, []), (3, .if_icmp .lt (13), 6, [16]), (6, .iload_n 0, 7, []), (7, .bipush (34), 9, []), (9, .if_icmp .gt (7), 12, [16]), (12, .iconst 1, 13, []), (13, .goto (4), 16, [17]), (16, .iconst 0, 17, []), (17, .ireturn, 18, [])]
def cd_mf_isPlace : zm_C := [(0, .iload_n 0, 1, []), (1, .ifCond .lt (13), 4, [14]), (4, .iload_n 0, 5, []), (5, .bipush (50), 7, []), (7, .if_icmp .ge (7), 10, [14]), (10, .iconst 1, 11, []), (11, .goto (4), 14, [15]), (14, .iconst 0, 15, []), (15, .ireturn, 16, [])]
def cd_mf_isInstruction : zm_C := [(0, .iload_n 0, 1, []), (1, .ifCond .lt (9), 4, [10]), (4, .iload_n 0, 5, []), (5, .bipush (39), 7, []), (7, .if_icmp .le (5), 10, [12]), (10, .iconst 0, 11, []), (11, .ireturn, 12, []), (12, .iload_n 0, 13, []), (13, .invokestatic 189, 16, []), (16, .ifCond .eq (27), 19, [43]), (19, .iload_n 1, 20, []), (20, .ifCond .lt (21), 23, [41]), (23, .iload_n 1, 24, []), (24, .bipush (10), 26, []), (26, .iload_n 0, 27, []), (27, .invokestatic 192, 30, []), (30, .invokestatic 195, 33, []), (33, .isub, 34, []), (34, .if_icmp .gt (7), 37, [41]), (37, .iconst 1, 38, []), (38, .goto (4), 41, [42]), (41, .iconst 0, 42, []), (42, .ireturn, 43, []), (43, .iload_n 0, 44, []), (44, .invokestatic 198, 47, []), (47, .ifCond .eq (8), 50, [55]), (50, .iload_n 2, 51, []), (51, .invokestatic 111, 54, []), (54, .ireturn, 55, []), (55, .iload_n 0, 56, []), (56, .bipush (35), 58, []), (58, .if_icmp .lt (23), 61, [81]), (61, .iload_n 1, 62, []), (62, .invokestatic 78, 65, []), (65, .ifCond .eq (20), 68, [85]), (68, .iload_n 0, 69, []), (69, .bipush (38), 71, []), (71, .if_icmp .ne (10), 74, [81]), (74, .iload_n 2, 75, []), (75, .invokestatic 78, 78, []), (78, .ifCond .eq (7), 81, [85]), (81, .iconst 1, 82, []), (82, .goto (4), 85, [86]), (85, .iconst 0, 86, []), (86, .ireturn, 87, [])]
def cd_mf_lengthOf : zm_C := [(0, .iload_n 0, 1, []), (1, .bipush (20), 3, []), (3, .if_icmp .gt (5), 6, [8]), (6, .iconst 1, 7, []), (7, .ireturn, 8, []), (8, .iload_n 0, 9, []), (9, .bipush (30), 11, []), (11, .if_icmp .gt (7), 14, [18]), (14, .iconst 2, 15, []), (15, .goto (4), 18, [19]), (18, .iconst 3, 19, []), (19, .ireturn, 20, [])]
def cd_pr_write : zm_C := [(0, .aload_n 0, 1, []), (1, .getfield 15, 4, []), (4, .iload_n 1, 5, []), (5, .iload_n 2, 6, []), (6, .iastore, 7, []), (7, .aload_n 0, 8, []), (8, .getfield 18, 11, []), (11, .iload_n 1, 12, []), (12, .iload_n 2, 13, []), (13, .invokestatic 59, 16, []), (16, .ifCond .ne (9), 19, [25]), (19, .iload_n 2, 20, []), (20, .bipush (35), 22, []), (22, .if_icmp .lt (7), 25, [29]), (25, .iload_n 3, 26, []), (26, .goto (4), 29, [30]), (29, .iconst 0, 30, []), (30, .iastore, 31, []), (31, .aload_n 0, 32, []), (32, .getfield 21, 35, []), (35, .iload_n 1, 36, []), (36, .iload_n 2, 37, []), (37, .invokestatic 63, 40, []), (40, .ifCond .ne (9), 43, [49]), (43, .iload_n 2, 44, []), (44, .bipush (38), 46, []), (46, .if_icmp .ne (8), 49, [54]), (49, .iload 4, 51, []), (51, .goto (4), 54, [55]), (54, .iconst 0, 55, []), (55, .iastore, 56, []), (56, .iload_n 1, 57, []), (57, .istore 5, 59, []), (59, .iload 5, 61, []), (61, .aload_n 0, 62, []), (62, .getfield 53, 65, []), (65, .if_icmp .ge (36), 68, [101]), (68, .aload_n 0, 69, []), (69, .getfield 24, 72, []), (72, .iload 5, 74, []), (74, .iconst 1, 75, []), (75, .iadd, 76, []), (76, .aload_n 0, 77, []), (77, .getfield 24, 80, []), (80, .iload 5, 82, []), (82, .iaload, 83, []), (83, .aload_n 0, 84, []), (84, .getfield 15, 87, []), (87, .iload 5, 89, []), (89, .iaload, 90, []), (90, .invokestatic 66, 93, []), (93, .iadd, 94, []), (94, .iastore, 95, []), (95, .iinc 5 (1), 98, []), (98, .goto (-39), 101, [59]), (101, .return_, 102, [])]
def cd_mf_add : zm_C := [(0, .iload_n 1, 1, []), (1, .iload_n 2, 2, []), (2, .iload_n 3, 3, []), (3, .invokestatic 100, 6, []), (6, .ifCond .ne (5), 9, [11]), (9, .iconst (-1), 10, []), (10, .ireturn, 11, []), (11, .aload_n 0, 12, []), (12, .getfield 19, 15, []), (15, .getfield 104, 18, []), (18, .bipush (50), 20, []), (20, .if_icmp .ne (6), 23, [26]), (23, .bipush (-3), 25, []), (25, .ireturn, 26, []), (26, .aload_n 0, 27, []), (27, .getfield 19, 30, []), (30, .dup, 31, []), (31, .getfield 104, 34, []), (34, .iconst 1, 35, []), (35, .iadd, 36, []), (36, .putfield 104, 39, []), (39, .aload_n 0, 40, []), (40, .getfield 19, 43, []), (43, .aload_n 0, 44, []), (44, .getfield 19, 47, []), (47, .getfield 104, 50, []), (50, .iconst 1, 51, []), (51, .isub, 52, []), (52, .iload_n 1, 53, []), (53, .iload_n 2, 54, []), (54, .iload_n 3, 55, []), (55, .invokevirtual 107, 58, []), (58, .aload_n 0, 59, []), (59, .invokevirtual 75, 62, []), (62, .aload_n 0, 63, []), (63, .getfield 19, 66, []), (66, .getfield 104, 69, []), (69, .ireturn, 70, [])]
def cd_mf_change : zm_C := [(0, .iload_n 1, 1, []), (1, .ifCond .lt (24), 4, [25]), (4, .iload_n 1, 5, []), (5, .aload_n 0, 6, []), (6, .getfield 19, 9, []), (9, .getfield 104, 12, []), (12, .if_icmp .ge (13), 15, [25]), (15, .iload_n 2, 16, []), (16, .iload_n 3, 17, []), (17, .iload 4, 19, []), (19, .invokestatic 100, 22, []), (22, .ifCond .ne (5), 25, [27]), (25, .iconst 0, 26, []), (26, .ireturn, 27, []), (27, .aload_n 0, 28, []), (28, .getfield 19, 31, []), (31, .iload_n 1, 32, []), (32, .iload_n 2, 33, []), (33, .iload_n 3, 34, []), (34, .iload 4, 36, []), (36, .invokevirtual 107, 39, []), (39, .aload_n 0, 40, []), (40, .invokevirtual 75, 43, []), (43, .iconst 1, 44, []), (44, .ireturn, 45, [])]
def cd_pr_guard : zm_C := [(0, .aload_n 0, 1, []), (1, .getfield 27, 4, []), (4, .aload_n 0, 5, []), (5, .getfield 56, 8, []), (8, .iload_n 1, 9, []), (9, .iastore, 10, []), (10, .aload_n 0, 11, []), (11, .getfield 30, 14, []), (14, .aload_n 0, 15, []), (15, .getfield 56, 18, []), (18, .iload_n 2, 19, []), (19, .iastore, 20, []), (20, .aload_n 0, 21, []), (21, .getfield 33, 24, []), (24, .aload_n 0, 25, []), (25, .getfield 56, 28, []), (28, .iload_n 3, 29, []), (29, .iastore, 30, []), (30, .aload_n 0, 31, []), (31, .getfield 36, 34, []), (34, .aload_n 0, 35, []), (35, .getfield 56, 38, []), (38, .iload 4, 40, []), (40, .iastore, 41, []), (41, .aload_n 0, 42, []), (42, .dup, 43, []), (43, .getfield 56, 46, []), (46, .iconst 1, 47, []), (47, .iadd, 48, []), (48, .putfield 56, 51, []), (51, .return_, 52, [])]
def cd_mf_handle : zm_C := [(0, .iload_n 1, 1, []), (1, .invokestatic 111, 4, []), (4, .ifCond .eq (29), 7, [33]), (7, .iload_n 3, 8, []), (8, .invokestatic 111, 11, []), (11, .ifCond .eq (22), 14, [33]), (14, .iload_n 2, 15, []), (15, .iload_n 1, 16, []), (16, .if_icmp .le (17), 19, [33]), (19, .iload_n 2, 20, []), (20, .bipush (50), 22, []), (22, .if_icmp .gt (11), 25, [33]), (25, .iload 4, 27, []), (27, .invokestatic 78, 30, []), (30, .ifCond .ne (5), 33, [35]), (33, .iconst (-1), 34, []), (34, .ireturn, 35, []), (35, .aload_n 0, 36, []), (36, .getfield 19, 39, []), (39, .getfield 114, 42, []), (42, .iconst 4, 43, []), (43, .if_icmp .ne (6), 46, [49]), (46, .bipush (-3), 48, []), (48, .ireturn, 49, []), (49, .aload_n 0, 50, []), (50, .getfield 19, 53, []), (53, .iload_n 1, 54, []), (54, .iload_n 2, 55, []), (55, .iload_n 3, 56, []), (56, .iload 4, 58, []), (58, .invokevirtual 117, 61, []), (61, .aload_n 0, 62, []), (62, .invokevirtual 75, 65, []), (65, .aload_n 0, 66, []), (66, .getfield 19, 69, []), (69, .getfield 114, 72, []), (72, .ireturn, 73, [])]
def cd_ja_fill : zm_C := [(0, .iconst 0, 1, []), (1, .istore_n 2, 2, []), (2, .aload_n 0, 3, []), (3, .arraylength, 4, []), (4, .istore_n 3, 5, []), (5, .iload_n 2, 6, []), (6, .iload_n 3, 7, []), (7, .if_icmp .ge (13), 10, [20]), (10, .aload_n 0, 11, []), (11, .iload_n 2, 12, []), (12, .iload_n 1, 13, []), (13, .iastore, 14, []), (14, .iinc 2 (1), 17, []), (17, .goto (-12), 20, [5]), (20, .return_, 21, [])]
def cd_fr_emptyStack : zm_C := [(0, .aload_n 0, 1, []), (1, .iconst 0, 2, []), (2, .putfield 24, 5, []), (5, .aload_n 0, 6, []), (6, .iconst 0, 7, []), (7, .putfield 28, 10, []), (10, .return_, 11, [])]
def cd_mf_typeOf : zm_C := [(0, .bipush (16), 2, []), (2, .iload_n 1, 3, []), (3, .imul, 4, []), (4, .iload_n 0, 5, []), (5, .iadd, 6, []), (6, .ireturn, 7, [])]
def cd_pr_enter : zm_C := [(0, .aload_n 1, 1, []), (1, .getfield 73, 4, []), (4, .iconst 0, 5, []), (5, .invokestatic 78, 8, []), (8, .aload_n 1, 9, []), (9, .invokevirtual 84, 12, []), (12, .aload_n 1, 13, []), (13, .aload_n 0, 14, []), (14, .getfield 43, 17, []), (17, .iconst 2, 18, []), (18, .if_icmp .ne (7), 21, [25]), (21, .iconst 1, 22, []), (22, .goto (4), 25, [26]), (25, .iconst 0, 26, []), (26, .putfield 87, 29, []), (29, .iconst 0, 30, []), (30, .istore_n 2, 31, []), (31, .aload_n 0, 32, []), (32, .getfield 43, 35, []), (35, .ifCond .eq (32), 38, [67]), (38, .aload_n 1, 39, []), (39, .getfield 73, 42, []), (42, .iconst 0, 43, []), (43, .aload_n 1, 44, []), (44, .getfield 87, 47, []), (47, .ifCond .eq (8), 50, [55]), (50, .bipush (6), 52, []), (52, .goto (12), 55, [64]), (55, .bipush (7), 57, []), (57, .aload_n 0, 58, []), (58, .getfield 39, 61, []), (61, .invokestatic 90, 64, []), (64, .iastore, 65, []), (65, .iconst 1, 66, []), (66, .istore_n 2, 67, []), (67, .iconst 0, 68, []), (68, .istore_n 3, 69, []), (69, .iload_n 3, 70, []), (70, .aload_n 0, 71, []), (71, .getfield 50, 74, []), (74, .if_icmp .ge (33), 77, [107]), (77, .aload_n 1, 78, []), (78, .getfield 73, 81, []), (81, .iload_n 2, 82, []), (82, .aload_n 0, 83, []), (83, .getfield 9, 86, []), (86, .iload_n 3, 87, []), (87, .iaload, 88, []), (88, .iastore, 89, []), (89, .iload_n 2, 90, []), (90, .aload_n 0, 91, []), (91, .getfield 9, 94, []), (94, .iload_n 3, 95, []), (95, .iaload, 96, []), (96, .invokestatic 94, 99, []), (99, .iadd, 100, []), (100, .istore_n 2, 101, []), (101, .iinc 3 (1), 104, []), (104, .goto (-35), 107, [69]), (107, .return_, 108, [])]
def cd_mf_isObjectOrNull : zm_C := [(0, .iload_n 0, 1, []), (1, .iconst 5, 2, []), (2, .if_icmp .eq (12), 5, [14]), (5, .iload_n 0, 6, []), (6, .invokestatic 85, 9, []), (9, .bipush (7), 11, []), (11, .if_icmp .ne (7), 14, [18]), (14, .iconst 1, 15, []), (15, .goto (4), 18, [19]), (18, .iconst 0, 19, []), (19, .ireturn, 20, [])]
def cd_fa_join : zm_C := [(0, .iload_n 1, 1, []), (1, .iload_n 2, 2, []), (2, .if_icmp .ne (5), 5, [7]), (5, .iload_n 1, 6, []), (6, .ireturn, 7, []), (7, .iload_n 1, 8, []), (8, .invokestatic 29, 11, []), (11, .ifCond .eq (10), 14, [21]), (14, .iload_n 2, 15, []), (15, .invokestatic 29, 18, []), (18, .ifCond .ne (5), 21, [23]), (21, .iconst 0, 22, []), (22, .ireturn, 23, []), (23, .iload_n 1, 24, []), (24, .iconst 5, 25, []), (25, .if_icmp .eq (8), 28, [33]), (28, .iload_n 2, 29, []), (29, .iconst 5, 30, []), (30, .if_icmp .ne (14), 33, [44]), (33, .iload_n 1, 34, []), (34, .iconst 5, 35, []), (35, .if_icmp .ne (7), 38, [42]), (38, .iload_n 2, 39, []), (39, .goto (4), 42, [43]), (42, .iload_n 1, 43, []), (43, .ireturn, 44, []), (44, .iload_n 1, 45, []), (45, .invokestatic 26, 48, []), (48, .istore_n 3, 49, []), (49, .iconst 0, 50, []), (50, .istore 4, 52, []), (52, .iload 4, 54, []), (54, .bipush (8), 56, []), (56, .if_icmp .ge (32), 59, [88]), (59, .aload_n 0, 60, []), (60, .getfield 19, 63, []), (63, .iload_n 2, 64, []), (64, .invokestatic 26, 67, []), (67, .iaload, 68, []), (68, .iload_n 3, 69, []), (69, .ishr, 70, []), (70, .iconst 1, 71, []), (71, .iand, 72, []), (72, .ifCond .ne (16), 75, [88]), (75, .aload_n 0, 76, []), (76, .getfield 9, 79, []), (79, .iload_n 3, 80, []), (80, .iaload, 81, []), (81, .istore_n 3, 82, []), (82, .iinc 4 (1), 85, []), (85, .goto (-33), 88, [52]), (88, .bipush (7), 90, []), (90, .iload_n 3, 91, []), (91, .invokestatic 33, 94, []), (94, .ireturn, 95, [])]
def cd_fl_joinAt : zm_C := [(0, .aload_n 0, 1, []), (1, .getfield 11, 4, []), (4, .iload_n 1, 5, []), (5, .aaload, 6, []), (6, .astore_n 3, 7, []), (7, .aload_n 3, 8, []), (8, .getfield 121, 11, []), (11, .aload_n 2, 12, []), (12, .getfield 121, 15, []), (15, .if_icmp .eq (5), 18, [20]), (18, .iconst 0, 19, []), (19, .ireturn, 20, []), (20, .aload_n 2, 21, []), (21, .getfield 124, 24, []), (24, .ifCond .eq (22), 27, [46]), (27, .aload_n 3, 28, []), (28, .getfield 124, 31, []), (31, .ifCond .ne (15), 34, [46]), (34, .aload_n 3, 35, []), (35, .iconst 1, 36, []), (36, .putfield 124, 39, []), (39, .aload_n 0, 40, []), (40, .getfield 24, 43, []), (43, .iload_n 1, 44, []), (44, .iconst 1, 45, []), (45, .bastore, 46, []), (46, .iconst 0, 47, []), (47, .istore 4, 49, []), (49, .iload 4, 51, []), (51, .bipush (10), 53, []), (53, .if_icmp .ge (67), 56, [120]), (56, .aload_n 0, 57, []), (57, .getfield 32, 60, []), (60, .aload_n 3, 61, []), (61, .getfield 127, 64, []), (64, .iload 4, 66, []), (66, .iaload, 67, []), (67, .aload_n 2, 68, []), (68, .getfield 127, 71, []), (71, .iload 4, 73, []), (73, .iaload, 74, []), (74, .invokevirtual 130, 77, []), (77, .istore 5, 79, []), (79, .aload_n 0, 80, []), (80, .getfield 24, 83, []), (83, .iload_n 1, 84, []), (84, .dup2, 85, []), (85, .baload, 86, []), (86, .iload 5, 88, []), (88, .aload_n 3, 89, []), (89, .getfield 127, 92, []), (92, .iload 4, 94, []), (94, .iaload, 95, []), (95, .if_icmp .eq (7), 98, [102]), (98, .iconst 1, 99, []), (99, .goto (4), 102, [103]), (102, .iconst 0, 103, []), (103, .ior, 104, []), (104, .bastore, 105, []), (105, .aload_n 3, 106, []), (106, .getfield 127, 109, []), (109, .iload 4, 111, []), (111, .iload 5, 113, []), (113, .iastore, 114, []), (114, .iinc 4 (1), 117, []), (117, .goto (-68), 120, [49]), (120, .iconst 0, 121, []), (121, .istore 4, 123, []), (123, .iload 4, 125, []), (125, .aload_n 3, 126, []), (126, .getfield 121, 129, []), (129, .if_icmp .ge (74), 132, [203]), (132, .aload_n 0, 133, []), (133, .getfield 32, 136, []), (136, .aload_n 3, 137, []), (137, .getfield 136, 140, []), (140, .iload 4, 142, []), (142, .iaload, 143, []), (143, .aload_n 2, 144, []), (144, .getfield 136, 147, []), (147, .iload 4, 149, []), (149, .iaload, 150, []), (150, .invokevirtual 130, 153, []), (153, .istore 5, 155, []), (155, .iload 5, 157, []), (157, .ifCond .ne (5), 160, [162]), (160, .iconst 0, 161, []), (161, .ireturn, 162, []), (162, .aload_n 0, 163, []), (163, .getfield 24, 166, []), (166, .iload_n 1, 167, []), (167, .dup2, 168, []), (168, .baload, 169, []), (169, .iload 5, 171, []), (171, .aload_n 3, 172, []), (172, .getfield 136, 175, []), (175, .iload 4, 177, []), (177, .iaload, 178, []), (178, .if_icmp .eq (7), 181, [185]), (181, .iconst 1, 182, []), (182, .goto (4), 185, [186]), (185, .iconst 0, 186, []), (186, .ior, 187, []), (187, .bastore, 188, []), (188, .aload_n 3, 189, []), (189, .getfield 136, 192, []), (192, .iload 4, 194, []), (194, .iload 5, 196, []), (196, .iastore, 197, []), (197, .iinc 4 (1), 200, []), (200, .goto (-77), 203, [123]), (203, .iconst 1, 204, []), (204, .ireturn, 205, [])]
def cd_fr_takeOver : zm_C := [(0, .aload_n 1, 1, []), (1, .getfield 9, 4, []), (4, .iconst 0, 5, []), (5, .aload_n 0, 6, []), (6, .getfield 9, 9, []), (9, .iconst 0, 10, []), (10, .bipush (10), 12, []), (12, .invokestatic 18, 15, []), (15, .aload_n 1, 16, []), (16, .getfield 15, 19, []), (19, .iconst 0, 20, []), (20, .aload_n 0, 21, []), (21, .getfield 15, 24, []), (24, .iconst 0, 25, []), (25, .aload_n 1, 26, []), (26, .getfield 24, 29, []), (29, .invokestatic 18, 32, []), (32, .aload_n 0, 33, []), (33, .aload_n 1, 34, []), (34, .getfield 24, 37, []), (37, .putfield 24, 40, []), (40, .aload_n 0, 41, []), (41, .aload_n 1, 42, []), (42, .getfield 28, 45, []), (45, .putfield 28, 48, []), (48, .aload_n 0, 49, []), (49, .aload_n 1, 50, []), (50, .getfield 31, 53, []), (53, .putfield 31, 56, []), (56, .return_, 57, [])]
def cd_fl_arrive : zm_C := [(0, .iload_n 1, 1, []), (1, .aload_n 0, 2, []), (2, .getfield 36, 5, []), (5, .getfield 55, 8, []), (8, .if_icmp .lt (5), 11, [13]), (11, .iconst 0, 12, []), (12, .ireturn, 13, []), (13, .aload_n 0, 14, []), (14, .getfield 21, 17, []), (17, .iload_n 1, 18, []), (18, .baload, 19, []), (19, .ifCond .eq (10), 22, [29]), (22, .aload_n 0, 23, []), (23, .iload_n 1, 24, []), (24, .aload_n 2, 25, []), (25, .invokevirtual 118, 28, []), (28, .ireturn, 29, []), (29, .aload_n 0, 30, []), (30, .getfield 21, 33, []), (33, .iload_n 1, 34, []), (34, .iconst 1, 35, []), (35, .bastore, 36, []), (36, .aload_n 0, 37, []), (37, .getfield 24, 40, []), (40, .iload_n 1, 41, []), (41, .iconst 1, 42, []), (42, .bastore, 43, []), (43, .aload_n 0, 44, []), (44, .getfield 11, 47, []), (47, .iload_n 1, 48, []), (48, .aaload, 49, []), (49, .aload_n 2, 50, []), (50, .invokevirtual 98, 53, []), (53, .iconst 1, 54, []), (54, .ireturn, 55, [])]
def cd_fl_begin : zm_C := [(0, .iconst 0, 1, []), (1, .istore_n 1, 2, []), (2, .iload_n 1, 3, []), (3, .bipush (50), 5, []), (5, .if_icmp .ge (23), 8, [28]), (8, .aload_n 0, 9, []), (9, .getfield 21, 12, []), (12, .iload_n 1, 13, []), (13, .iconst 0, 14, []), (14, .bastore, 15, []), (15, .aload_n 0, 16, []), (16, .getfield 24, 19, []), (19, .iload_n 1, 20, []), (20, .iconst 0, 21, []), (21, .bastore, 22, []), (22, .iinc 1 (1), 25, []), (25, .goto (-23), 28, [2]), (28, .aload_n 0, 29, []), (29, .getfield 36, 32, []), (32, .aload_n 0, 33, []), (33, .getfield 28, 36, []), (36, .invokevirtual 72, 39, []), (39, .aload_n 0, 40, []), (40, .iconst 0, 41, []), (41, .aload_n 0, 42, []), (42, .getfield 28, 45, []), (45, .invokevirtual 76, 48, []), (48, .pop, 49, []), (49, .return_, 50, [])]
def cd_pr_isGuarded : zm_C := [(0, .iload_n 1, 1, []), (1, .aload_n 0, 2, []), (2, .getfield 27, 5, []), (5, .iload_n 2, 6, []), (6, .iaload, 7, []), (7, .if_icmp .lt (17), 10, [24]), (10, .iload_n 1, 11, []), (11, .aload_n 0, 12, []), (12, .getfield 30, 15, []), (15, .iload_n 2, 16, []), (16, .iaload, 17, []), (17, .if_icmp .ge (7), 20, [24]), (20, .iconst 1, 21, []), (21, .goto (4), 24, [25]), (24, .iconst 0, 25, []), (25, .ireturn, 26, [])]
def cd_fr_push : zm_C := [(0, .iload_n 1, 1, []), (1, .invokestatic 50, 4, []), (4, .istore_n 2, 5, []), (5, .aload_n 0, 6, []), (6, .getfield 28, 9, []), (9, .iload_n 2, 10, []), (10, .iadd, 11, []), (11, .bipush (8), 13, []), (13, .if_icmp .le (5), 16, [18]), (16, .iconst 0, 17, []), (17, .ireturn, 18, []), (18, .aload_n 0, 19, []), (19, .getfield 15, 22, []), (22, .aload_n 0, 23, []), (23, .getfield 24, 26, []), (26, .iload_n 1, 27, []), (27, .iastore, 28, []), (28, .aload_n 0, 29, []), (29, .dup, 30, []), (30, .getfield 24, 33, []), (33, .iconst 1, 34, []), (34, .iadd, 35, []), (35, .putfield 24, 38, []), (38, .aload_n 0, 39, []), (39, .dup, 40, []), (40, .getfield 28, 43, []), (43, .iload_n 2, 44, []), (44, .iadd, 45, []), (45, .putfield 28, 48, []), (48, .iconst 1, 49, []), (49, .ireturn, 50, [])]
def cd_fr_takeOverForHandler : zm_C := [(0, .aload_n 0, 1, []), (1, .aload_n 1, 2, []), (2, .invokevirtual 35, 5, []), (5, .aload_n 0, 6, []), (6, .invokevirtual 39, 9, []), (9, .aload_n 0, 10, []), (10, .bipush (7), 12, []), (12, .iload_n 2, 13, []), (13, .invokestatic 42, 16, []), (16, .invokevirtual 46, 19, []), (19, .pop, 20, []), (20, .return_, 21, [])]
def cd_fl_leaveToHandlers : zm_C := [(0, .iconst 0, 1, []), (1, .istore_n 2, 2, []), (2, .iload_n 2, 3, []), (3, .aload_n 0, 4, []), (4, .getfield 36, 7, []), (7, .getfield 80, 10, []), (10, .if_icmp .ge (65), 13, [75]), (13, .aload_n 0, 14, []), (14, .getfield 36, 17, []), (17, .iload_n 1, 18, []), (18, .iload_n 2, 19, []), (19, .invokevirtual 83, 22, []), (22, .ifCond .eq (47), 25, [69]), (25, .aload_n 0, 26, []), (26, .getfield 28, 29, []), (29, .aload_n 0, 30, []), (30, .getfield 11, 33, []), (33, .iload_n 1, 34, []), (34, .aaload, 35, []), (35, .aload_n 0, 36, []), (36, .getfield 36, 39, []), (39, .getfield 87, 42, []), (42, .iload_n 2, 43, []), (43, .iaload, 44, []), (44, .invokevirtual 91, 47, []), (47, .aload_n 0, 48, []), (48, .aload_n 0, 49, []), (49, .getfield 36, 52, []), (52, .getfield 95, 55, []), (55, .iload_n 2, 56, []), (56, .iaload, 57, []), (57, .aload_n 0, 58, []), (58, .getfield 28, 61, []), (61, .invokevirtual 76, 64, []), (64, .ifCond .ne (5), 67, [69]), (67, .iconst 0, 68, []), (68, .ireturn, 69, []), (69, .iinc 2 (1), 72, []), (72, .goto (-70), 75, [2]), (75, .iconst 1, 76, []), (76, .ireturn, 77, [])]
def cd_fr_peek : zm_C := [(0, .iload_n 1, 1, []), (1, .aload_n 0, 2, []), (2, .getfield 24, 5, []), (5, .if_icmp .ge (19), 8, [24]), (8, .aload_n 0, 9, []), (9, .getfield 15, 12, []), (12, .aload_n 0, 13, []), (13, .getfield 24, 16, []), (16, .iconst 1, 17, []), (17, .isub, 18, []), (18, .iload_n 1, 19, []), (19, .isub, 20, []), (20, .iaload, 21, []), (21, .goto (4), 24, [25]), (24, .iconst (-1), 25, []), (25, .ireturn, 26, [])]
def cd_fr_drop : zm_C := [(0, .aload_n 0, 1, []), (1, .getfield 24, 4, []), (4, .ifCond .le (34), 7, [38]), (7, .aload_n 0, 8, []), (8, .dup, 9, []), (9, .getfield 24, 12, []), (12, .iconst 1, 13, []), (13, .isub, 14, []), (14, .putfield 24, 17, []), (17, .aload_n 0, 18, []), (18, .dup, 19, []), (19, .getfield 28, 22, []), (22, .aload_n 0, 23, []), (23, .getfield 15, 26, []), (26, .aload_n 0, 27, []), (27, .getfield 24, 30, []), (30, .iaload, 31, []), (31, .invokestatic 50, 34, []), (34, .isub, 35, []), (35, .putfield 28, 38, []), (38, .return_, 39, [])]
def cd_fr_take : zm_C := [(0, .aload_n 0, 1, []), (1, .iconst 0, 2, []), (2, .invokevirtual 54, 5, []), (5, .iload_n 1, 6, []), (6, .if_icmp .eq (5), 9, [11]), (9, .iconst 0, 10, []), (10, .ireturn, 11, []), (11, .aload_n 0, 12, []), (12, .invokevirtual 57, 15, []), (15, .iconst 1, 16, []), (16, .ireturn, 17, [])]
def cd_mf_isSmall : zm_C := [(0, .iload_n 0, 1, []), (1, .invokestatic 85, 4, []), (4, .istore_n 1, 5, []), (5, .iload_n 1, 6, []), (6, .iconst 1, 7, []), (7, .if_icmp .eq (19), 10, [26]), (10, .iload_n 1, 11, []), (11, .iconst 2, 12, []), (12, .if_icmp .eq (14), 15, [26]), (15, .iload_n 1, 16, []), (16, .iconst 5, 17, []), (17, .if_icmp .lt (13), 20, [30]), (20, .iload_n 1, 21, []), (21, .bipush (8), 23, []), (23, .if_icmp .gt (7), 26, [30]), (26, .iconst 1, 27, []), (27, .goto (4), 30, [31]), (30, .iconst 0, 31, []), (31, .ireturn, 32, [])]
def cd_ma_stepOne : zm_C := [(0, .iload_n 1, 1, []), (1, .bipush (8), 3, []), (3, .if_icmp .ne (9), 6, [12]), (6, .aload_n 3, 7, []), (7, .iload_n 2, 8, []), (8, .invokevirtual 48, 11, []), (11, .ireturn, 12, []), (12, .aload_n 3, 13, []), (13, .invokevirtual 74, 16, []), (16, .iconst 1, 17, []), (17, .ireturn, 18, [])]
def cd_fr_swap : zm_C := [(0, .aload_n 0, 1, []), (1, .getfield 24, 4, []), (4, .iconst 1, 5, []), (5, .if_icmp .le (49), 8, [54]), (8, .aload_n 0, 9, []), (9, .getfield 15, 12, []), (12, .aload_n 0, 13, []), (13, .getfield 24, 16, []), (16, .iconst 1, 17, []), (17, .isub, 18, []), (18, .iaload, 19, []), (19, .istore_n 1, 20, []), (20, .aload_n 0, 21, []), (21, .getfield 15, 24, []), (24, .aload_n 0, 25, []), (25, .getfield 24, 28, []), (28, .iconst 1, 29, []), (29, .isub, 30, []), (30, .aload_n 0, 31, []), (31, .getfield 15, 34, []), (34, .aload_n 0, 35, []), (35, .getfield 24, 38, []), (38, .iconst 2, 39, []), (39, .isub, 40, []), (40, .iaload, 41, []), (41, .iastore, 42, []), (42, .aload_n 0, 43, []), (43, .getfield 15, 46, []), (46, .aload_n 0, 47, []), (47, .getfield 24, 50, []), (50, .iconst 2, 51, []), (51, .isub, 52, []), (52, .iload_n 1, 53, []), (53, .iastore, 54, []), (54, .return_, 55, [])]
def cd_ma_stepTwo : zm_C := [(0, .aload_n 2, 1, []), (1, .iconst 1, 2, []), (2, .invokevirtual 68, 5, []), (5, .invokestatic 77, 8, []), (8, .ifCond .ne (5), 11, [13]), (11, .iconst 0, 12, []), (12, .ireturn, 13, []), (13, .iload_n 1, 14, []), (14, .bipush (9), 16, []), (16, .if_icmp .ne (10), 19, [26]), (19, .aload_n 2, 20, []), (20, .invokevirtual 86, 23, []), (23, .goto (11), 26, [34]), (26, .aload_n 2, 27, []), (27, .invokevirtual 74, 30, []), (30, .aload_n 2, 31, []), (31, .invokevirtual 74, 34, []), (34, .iconst 1, 35, []), (35, .ireturn, 36, [])]
def cd_ma_stepOnStack : zm_C := [(0, .iload_n 1, 1, []), (1, .ifCond .ne (5), 4, [6]), (4, .iconst 1, 5, []), (5, .ireturn, 6, []), (6, .iload_n 1, 7, []), (7, .iconst 5, 8, []), (8, .if_icmp .gt (9), 11, [17]), (11, .aload_n 2, 12, []), (12, .iload_n 1, 13, []), (13, .invokevirtual 48, 16, []), (16, .ireturn, 17, []), (17, .iload_n 1, 18, []), (18, .bipush (10), 20, []), (20, .if_icmp .lt (42), 23, [62]), (23, .getstatic 62, 26, []), (26, .iload_n 1, 27, []), (27, .bipush (10), 29, []), (29, .isub, 30, []), (30, .iaload, 31, []), (31, .istore_n 3, 32, []), (32, .aload_n 2, 33, []), (33, .iload_n 3, 34, []), (34, .invokevirtual 65, 37, []), (37, .ifCond .eq (23), 40, [60]), (40, .aload_n 2, 41, []), (41, .iload_n 3, 42, []), (42, .invokevirtual 65, 45, []), (45, .ifCond .eq (15), 48, [60]), (48, .aload_n 2, 49, []), (49, .iload_n 3, 50, []), (50, .invokevirtual 48, 53, []), (53, .ifCond .eq (7), 56, [60]), (56, .iconst 1, 57, []), (57, .goto (4), 60, [61]), (60, .iconst 0, 61, []), (61, .ireturn, 62, []), (62, .aload_n 2, 63, []), (63, .iconst 0, 64, []), (64, .invokevirtual 68, 67, []), (67, .istore_n 3, 68, []), (68, .iload_n 1, 69, []), (69, .bipush (7), 71, []), (71, .if_icmp .ne (17), 74, [88]), (74, .iload_n 3, 75, []), (75, .invokestatic 71, 78, []), (78, .iconst 2, 79, []), (79, .if_icmp .ne (9), 82, [88]), (82, .aload_n 2, 83, []), (83, .invokevirtual 74, 86, []), (86, .iconst 1, 87, []), (87, .ireturn, 88, []), (88, .iload_n 3, 89, []), (89, .invokestatic 77, 92, []), (92, .ifCond .ne (5), 95, [97]), (95, .iconst 0, 96, []), (96, .ireturn, 97, []), (97, .iload_n 1, 98, []), (98, .bipush (6), 100, []), (100, .if_icmp .eq (9), 103, [109]), (103, .iload_n 1, 104, []), (104, .bipush (8), 106, []), (106, .if_icmp .ne (13), 109, [119]), (109, .aload_n 0, 110, []), (110, .iload_n 1, 111, []), (111, .iload_n 3, 112, []), (112, .aload_n 2, 113, []), (113, .invokevirtual 80, 116, []), (116, .goto (9), 119, [125]), (119, .aload_n 0, 120, []), (120, .iload_n 1, 121, []), (121, .aload_n 2, 122, []), (122, .invokevirtual 83, 125, []), (125, .ireturn, 126, [])]
def cd_fa_is : zm_C := [(0, .iload_n 1, 1, []), (1, .iload_n 2, 2, []), (2, .if_icmp .eq (7), 5, [9]), (5, .iload_n 2, 6, []), (6, .ifCond .ne (5), 9, [11]), (9, .iconst 1, 10, []), (10, .ireturn, 11, []), (11, .iload_n 2, 12, []), (12, .invokestatic 22, 15, []), (15, .bipush (7), 17, []), (17, .if_icmp .eq (5), 20, [22]), (20, .iconst 0, 21, []), (21, .ireturn, 22, []), (22, .iload_n 2, 23, []), (23, .invokestatic 26, 26, []), (26, .istore_n 3, 27, []), (27, .iload_n 1, 28, []), (28, .iconst 5, 29, []), (29, .if_icmp .eq (38), 32, [67]), (32, .iload_n 1, 33, []), (33, .invokestatic 22, 36, []), (36, .bipush (7), 38, []), (38, .if_icmp .ne (33), 41, [71]), (41, .aload_n 0, 42, []), (42, .getfield 15, 45, []), (45, .iload_n 3, 46, []), (46, .baload, 47, []), (47, .ifCond .ne (20), 50, [67]), (50, .aload_n 0, 51, []), (51, .getfield 19, 54, []), (54, .iload_n 1, 55, []), (55, .invokestatic 26, 58, []), (58, .iaload, 59, []), (59, .iload_n 3, 60, []), (60, .ishr, 61, []), (61, .iconst 1, 62, []), (62, .iand, 63, []), (63, .iconst 1, 64, []), (64, .if_icmp .ne (7), 67, [71]), (67, .iconst 1, 68, []), (68, .goto (4), 71, [72]), (71, .iconst 0, 72, []), (72, .ireturn, 73, [])]
def cd_ma_stepToOther : zm_C := [(0, .iload_n 1, 1, []), (1, .tableswitch (185) 14 19 #[39, 61, 83, 105, 127, 161], 40, [186, 40, 62, 84, 106, 128, 162]), (40, .aload_n 2, 41, []), (41, .iconst 1, 42, []), (42, .invokevirtual 65, 45, []), (45, .ifCond .eq (15), 48, [60]), (48, .aload_n 2, 49, []), (49, .iconst 4, 50, []), (50, .invokevirtual 48, 53, []), (53, .ifCond .eq (7), 56, [60]), (56, .iconst 1, 57, []), (57, .goto (4), 60, [61]), (60, .iconst 0, 61, []), (61, .ireturn, 62, []), (62, .aload_n 2, 63, []), (63, .iconst 4, 64, []), (64, .invokevirtual 65, 67, []), (67, .ifCond .eq (15), 70, [82]), (70, .aload_n 2, 71, []), (71, .iconst 1, 72, []), (72, .invokevirtual 48, 75, []), (75, .ifCond .eq (7), 78, [82]), (78, .iconst 1, 79, []), (79, .goto (4), 82, [83]), (82, .iconst 0, 83, []), (83, .ireturn, 84, []), (84, .aload_n 2, 85, []), (85, .iconst 1, 86, []), (86, .invokevirtual 65, 89, []), (89, .ifCond .eq (15), 92, [104]), (92, .aload_n 2, 93, []), (93, .iconst 3, 94, []), (94, .invokevirtual 48, 97, []), (97, .ifCond .eq (7), 100, [104]), (100, .iconst 1, 101, []), (101, .goto (4), 104, [105]), (104, .iconst 0, 105, []), (105, .ireturn, 106, []), (106, .aload_n 2, 107, []), (107, .iconst 3, 108, []), (108, .invokevirtual 65, 111, []), (111, .ifCond .eq (15), 114, [126]), (114, .aload_n 2, 115, []), (115, .iconst 1, 116, []), (116, .invokevirtual 48, 119, []), (119, .ifCond .eq (7), 122, [126]), (122, .iconst 1, 123, []), (123, .goto (4), 126, [127]), (126, .iconst 0, 127, []), (127, .ireturn, 128, []), (128, .aload_n 0, 129, []), (129, .getfield 15, 132, []), (132, .getfield 89, 135, []), (135, .ifCond .ne (25), 138, [160]), (138, .aload_n 0, 139, []), (139, .getfield 15, 142, []), (142, .getfield 93, 145, []), (145, .iconst 2, 146, []), (146, .if_icmp .ne (10), 149, [156]), (149, .aload_n 2, 150, []), (150, .getfield 97, 153, []), (153, .ifCond .ne (7), 156, [160]), (156, .iconst 1, 157, []), (157, .goto (4), 160, [161]), (160, .iconst 0, 161, []), (161, .ireturn, 162, []), (162, .aload_n 0, 163, []), (163, .getfield 15, 166, []), (166, .getfield 89, 169, []), (169, .ifCond .eq (15), 172, [184]), (172, .aload_n 2, 173, []), (173, .iconst 1, 174, []), (174, .invokevirtual 65, 177, []), (177, .ifCond .eq (7), 180, [184]), (180, .iconst 1, 181, []), (181, .goto (4), 184, [185]), (184, .iconst 0, 185, []), (185, .ireturn, 186, []), (186, .aload_n 0, 187, []), (187, .getfield 9, 190, []), (190, .aload_n 2, 191, []), (191, .iconst 0, 192, []), (192, .invokevirtual 68, 195, []), (195, .bipush (7), 197, []), (197, .invokevirtual 100, 200, []), (200, .ireturn, 201, [])]
def cd_mf_isOfKind : zm_C := [(0, .iload_n 1, 1, []), (1, .bipush (7), 3, []), (3, .if_icmp .eq (14), 6, [17]), (6, .iload_n 0, 7, []), (7, .iload_n 1, 8, []), (8, .if_icmp .ne (7), 11, [15]), (11, .iconst 1, 12, []), (12, .goto (4), 15, [16]), (15, .iconst 0, 16, []), (16, .ireturn, 17, []), (17, .iload_n 0, 18, []), (18, .invokestatic 85, 21, []), (21, .iconst 5, 22, []), (22, .if_icmp .lt (16), 25, [38]), (25, .iload_n 0, 26, []), (26, .invokestatic 85, 29, []), (29, .bipush (8), 31, []), (31, .if_icmp .gt (7), 34, [38]), (34, .iconst 1, 35, []), (35, .goto (4), 38, [39]), (38, .iconst 0, 39, []), (39, .ireturn, 40, [])]
def cd_fr_store : zm_C := [(0, .iload_n 1, 1, []), (1, .ifCond .le (27), 4, [28]), (4, .aload_n 0, 5, []), (5, .getfield 9, 8, []), (8, .iload_n 1, 9, []), (9, .iconst 1, 10, []), (10, .isub, 11, []), (11, .iaload, 12, []), (12, .invokestatic 50, 15, []), (15, .iconst 2, 16, []), (16, .if_icmp .ne (12), 19, [28]), (19, .aload_n 0, 20, []), (20, .getfield 9, 23, []), (23, .iload_n 1, 24, []), (24, .iconst 1, 25, []), (25, .isub, 26, []), (26, .iconst 0, 27, []), (27, .iastore, 28, []), (28, .aload_n 0, 29, []), (29, .getfield 9, 32, []), (32, .iload_n 1, 33, []), (33, .iload_n 2, 34, []), (34, .iastore, 35, []), (35, .iload_n 2, 36, []), (36, .invokestatic 50, 39, []), (39, .iconst 2, 40, []), (40, .if_icmp .ne (20), 43, [60]), (43, .iload_n 1, 44, []), (44, .iconst 1, 45, []), (45, .iadd, 46, []), (46, .bipush (10), 48, []), (48, .if_icmp .ge (12), 51, [60]), (51, .aload_n 0, 52, []), (52, .getfield 9, 55, []), (55, .iload_n 1, 56, []), (56, .iconst 1, 57, []), (57, .iadd, 58, []), (58, .iconst 0, 59, []), (59, .iastore, 60, []), (60, .return_, 61, [])]
def cd_ma_stepStore : zm_C := [(0, .aload_n 3, 1, []), (1, .iconst 0, 2, []), (2, .invokevirtual 68, 5, []), (5, .istore 4, 7, []), (7, .iload 4, 9, []), (9, .iload_n 1, 10, []), (10, .invokestatic 40, 13, []), (13, .invokestatic 44, 16, []), (16, .ifCond .ne (5), 19, [21]), (19, .iconst 0, 20, []), (20, .ireturn, 21, []), (21, .aload_n 3, 22, []), (22, .invokevirtual 74, 25, []), (25, .aload_n 3, 26, []), (26, .iload_n 2, 27, []), (27, .iload 4, 29, []), (29, .invokevirtual 105, 32, []), (32, .iconst 1, 33, []), (33, .ireturn, 34, [])]
def cd_ma_stepJump : zm_C := [(0, .iload_n 1, 1, []), (1, .bipush (31), 3, []), (3, .if_icmp .ne (5), 6, [8]), (6, .iconst 1, 7, []), (7, .ireturn, 8, []), (8, .iload_n 1, 9, []), (9, .bipush (32), 11, []), (11, .if_icmp .ne (9), 14, [20]), (14, .aload_n 2, 15, []), (15, .iconst 1, 16, []), (16, .invokevirtual 65, 19, []), (19, .ireturn, 20, []), (20, .aload_n 2, 21, []), (21, .iconst 0, 22, []), (22, .invokevirtual 68, 25, []), (25, .invokestatic 109, 28, []), (28, .ifCond .eq (20), 31, [48]), (31, .iload_n 1, 32, []), (32, .bipush (34), 34, []), (34, .if_icmp .ne (16), 37, [50]), (37, .aload_n 2, 38, []), (38, .iconst 1, 39, []), (39, .invokevirtual 68, 42, []), (42, .invokestatic 109, 45, []), (45, .ifCond .ne (5), 48, [50]), (48, .iconst 0, 49, []), (49, .ireturn, 50, []), (50, .aload_n 2, 51, []), (51, .invokevirtual 74, 54, []), (54, .iload_n 1, 55, []), (55, .bipush (34), 57, []), (57, .if_icmp .ne (7), 60, [64]), (60, .aload_n 2, 61, []), (61, .invokevirtual 74, 64, []), (64, .iconst 1, 65, []), (65, .ireturn, 66, [])]
def cd_fa_isAbove : zm_C := [(0, .iload_n 2, 1, []), (1, .ifCond .le (17), 4, [18]), (4, .aload_n 0, 5, []), (5, .getfield 9, 8, []), (8, .iload_n 2, 9, []), (9, .iaload, 10, []), (10, .iload_n 1, 11, []), (11, .if_icmp .ne (7), 14, [18]), (14, .iconst 1, 15, []), (15, .goto (4), 18, [19]), (18, .iconst 0, 19, []), (19, .ireturn, 20, [])]
def cd_fr_replaceAll : zm_C := [(0, .iconst 0, 1, []), (1, .istore_n 3, 2, []), (2, .iload_n 3, 3, []), (3, .bipush (10), 5, []), (5, .if_icmp .ge (26), 8, [31]), (8, .aload_n 0, 9, []), (9, .getfield 9, 12, []), (12, .iload_n 3, 13, []), (13, .iaload, 14, []), (14, .iload_n 1, 15, []), (15, .if_icmp .ne (10), 18, [25]), (18, .aload_n 0, 19, []), (19, .getfield 9, 22, []), (22, .iload_n 3, 23, []), (23, .iload_n 2, 24, []), (24, .iastore, 25, []), (25, .iinc 3 (1), 28, []), (28, .goto (-26), 31, [2]), (31, .iconst 0, 32, []), (32, .istore_n 3, 33, []), (33, .iload_n 3, 34, []), (34, .aload_n 0, 35, []), (35, .getfield 24, 38, []), (38, .if_icmp .ge (26), 41, [64]), (41, .aload_n 0, 42, []), (42, .getfield 15, 45, []), (45, .iload_n 3, 46, []), (46, .iaload, 47, []), (47, .iload_n 1, 48, []), (48, .if_icmp .ne (10), 51, [58]), (51, .aload_n 0, 52, []), (52, .getfield 15, 55, []), (55, .iload_n 3, 56, []), (56, .iload_n 2, 57, []), (57, .iastore, 58, []), (58, .iinc 3 (1), 61, []), (61, .goto (-28), 64, [33]), (64, .return_, 65, [])]
def cd_pr_placeAt : zm_C := [(0, .iconst 0, 1, []), (1, .istore_n 2, 2, []), (2, .iload_n 2, 3, []), (3, .aload_n 0, 4, []), (4, .getfield 53, 7, []), (7, .if_icmp .ge (21), 10, [28]), (10, .aload_n 0, 11, []), (11, .getfield 24, 14, []), (14, .iload_n 2, 15, []), (15, .iaload, 16, []), (16, .iload_n 1, 17, []), (17, .if_icmp .ne (5), 20, [22]), (20, .iload_n 2, 21, []), (21, .ireturn, 22, []), (22, .iinc 2 (1), 25, []), (25, .goto (-23), 28, [2]), (28, .bipush (-2), 30, []), (30, .ireturn, 31, [])]
def cd_ma_stepInit : zm_C := [(0, .iload_n 2, 1, []), (1, .bipush (6), 3, []), (3, .if_icmp .ne (60), 6, [63]), (6, .iload_n 1, 7, []), (7, .aload_n 0, 8, []), (8, .getfield 15, 11, []), (11, .getfield 125, 14, []), (14, .if_icmp .eq (21), 17, [35]), (17, .aload_n 0, 18, []), (18, .getfield 9, 21, []), (21, .iload_n 1, 22, []), (22, .aload_n 0, 23, []), (23, .getfield 15, 26, []), (26, .getfield 125, 29, []), (29, .invokevirtual 128, 32, []), (32, .ifCond .eq (31), 35, [63]), (35, .aload_n 3, 36, []), (36, .invokevirtual 74, 39, []), (39, .aload_n 3, 40, []), (40, .iload_n 2, 41, []), (41, .bipush (7), 43, []), (43, .aload_n 0, 44, []), (44, .getfield 15, 47, []), (47, .getfield 125, 50, []), (50, .invokestatic 115, 53, []), (53, .invokevirtual 131, 56, []), (56, .aload_n 3, 57, []), (57, .iconst 0, 58, []), (58, .putfield 97, 61, []), (61, .iconst 1, 62, []), (62, .ireturn, 63, []), (63, .iload_n 2, 64, []), (64, .invokestatic 134, 67, []), (67, .bipush (8), 69, []), (69, .if_icmp .eq (5), 72, [74]), (72, .iconst 0, 73, []), (73, .ireturn, 74, []), (74, .aload_n 0, 75, []), (75, .getfield 15, 78, []), (78, .iload_n 2, 79, []), (79, .invokestatic 137, 82, []), (82, .invokevirtual 140, 85, []), (85, .istore 4, 87, []), (87, .iload 4, 89, []), (89, .bipush (-2), 91, []), (91, .if_icmp .eq (32), 94, [123]), (94, .aload_n 0, 95, []), (95, .getfield 15, 98, []), (98, .getfield 19, 101, []), (101, .iload 4, 103, []), (103, .iaload, 104, []), (104, .bipush (35), 106, []), (106, .if_icmp .ne (17), 109, [123]), (109, .aload_n 0, 110, []), (110, .getfield 15, 113, []), (113, .getfield 37, 116, []), (116, .iload 4, 118, []), (118, .iaload, 119, []), (119, .iload_n 1, 120, []), (120, .if_icmp .eq (5), 123, [125]), (123, .iconst 0, 124, []), (124, .ireturn, 125, []), (125, .aload_n 3, 126, []), (126, .invokevirtual 74, 129, []), (129, .aload_n 3, 130, []), (130, .iload_n 2, 131, []), (131, .bipush (7), 133, []), (133, .iload_n 1, 134, []), (134, .invokestatic 115, 137, []), (137, .invokevirtual 131, 140, []), (140, .iconst 1, 141, []), (141, .ireturn, 142, [])]
def cd_ma_stepObject : zm_C := [(0, .aload_n 0, 1, []), (1, .getfield 15, 4, []), (4, .getfield 19, 7, []), (7, .iload_n 1, 8, []), (8, .iaload, 9, []), (9, .istore_n 3, 10, []), (10, .aload_n 0, 11, []), (11, .getfield 15, 14, []), (14, .getfield 37, 17, []), (17, .iload_n 1, 18, []), (18, .iaload, 19, []), (19, .istore 4, 21, []), (21, .iload_n 3, 22, []), (22, .bipush (35), 24, []), (24, .if_icmp .ne (22), 27, [46]), (27, .aload_n 2, 28, []), (28, .bipush (8), 30, []), (30, .aload_n 0, 31, []), (31, .getfield 15, 34, []), (34, .getfield 112, 37, []), (37, .iload_n 1, 38, []), (38, .iaload, 39, []), (39, .invokestatic 115, 42, []), (42, .invokevirtual 48, 45, []), (45, .ireturn, 46, []), (46, .aload_n 2, 47, []), (47, .iconst 0, 48, []), (48, .invokevirtual 68, 51, []), (51, .istore 5, 53, []), (53, .iload_n 3, 54, []), (54, .bipush (36), 56, []), (56, .if_icmp .ne (13), 59, [69]), (59, .aload_n 0, 60, []), (60, .iload 4, 62, []), (62, .iload 5, 64, []), (64, .aload_n 2, 65, []), (65, .invokevirtual 119, 68, []), (68, .ireturn, 69, []), (69, .aload_n 0, 70, []), (70, .getfield 9, 73, []), (73, .iload 5, 75, []), (75, .bipush (7), 77, []), (77, .iload_n 3, 78, []), (78, .bipush (39), 80, []), (80, .if_icmp .ne (7), 83, [87]), (83, .iconst 0, 84, []), (84, .goto (5), 87, [89]), (87, .iload 4, 89, []), (89, .invokestatic 115, 92, []), (92, .invokevirtual 100, 95, []), (95, .ifCond .ne (5), 98, [100]), (98, .iconst 0, 99, []), (99, .ireturn, 100, []), (100, .aload_n 2, 101, []), (101, .invokevirtual 74, 104, []), (104, .iload_n 3, 105, []), (105, .bipush (37), 107, []), (107, .if_icmp .ne (9), 110, [116]), (110, .aload_n 2, 111, []), (111, .iconst 1, 112, []), (112, .invokevirtual 48, 115, []), (115, .ireturn, 116, []), (116, .aload_n 2, 117, []), (117, .bipush (7), 119, []), (119, .iload_n 3, 120, []), (120, .bipush (38), 122, []), (122, .if_icmp .ne (15), 125, [137]), (125, .aload_n 0, 126, []), (126, .getfield 15, 129, []), (129, .getfield 122, 132, []), (132, .iload_n 1, 133, []), (133, .iaload, 134, []), (134, .goto (5), 137, [139]), (137, .iload 4, 139, []), (139, .invokestatic 115, 142, []), (142, .invokevirtual 48, 145, []), (145, .ireturn, 146, [])]
def cd_ma_step : zm_C := [(0, .aload_n 0, 1, []), (1, .getfield 15, 4, []), (4, .getfield 19, 7, []), (7, .iload_n 1, 8, []), (8, .iaload, 9, []), (9, .istore_n 3, 10, []), (10, .iload_n 3, 11, []), (11, .bipush (13), 13, []), (13, .if_icmp .gt (10), 16, [23]), (16, .aload_n 0, 17, []), (17, .iload_n 3, 18, []), (18, .aload_n 2, 19, []), (19, .invokevirtual 25, 22, []), (22, .ireturn, 23, []), (23, .iload_n 3, 24, []), (24, .bipush (20), 26, []), (26, .if_icmp .gt (10), 29, [36]), (29, .aload_n 0, 30, []), (30, .iload_n 3, 31, []), (31, .aload_n 2, 32, []), (32, .invokevirtual 29, 35, []), (35, .ireturn, 36, []), (36, .iload_n 3, 37, []), (37, .bipush (25), 39, []), (39, .if_icmp .gt (46), 42, [85]), (42, .aload_n 2, 43, []), (43, .getfield 32, 46, []), (46, .aload_n 0, 47, []), (47, .getfield 15, 50, []), (50, .getfield 37, 53, []), (53, .iload_n 1, 54, []), (54, .iaload, 55, []), (55, .iaload, 56, []), (56, .istore 4, 58, []), (58, .iload 4, 60, []), (60, .iload_n 3, 61, []), (61, .invokestatic 40, 64, []), (64, .invokestatic 44, 67, []), (67, .ifCond .eq (16), 70, [83]), (70, .aload_n 2, 71, []), (71, .iload 4, 73, []), (73, .invokevirtual 48, 76, []), (76, .ifCond .eq (7), 79, [83]), (79, .iconst 1, 80, []), (80, .goto (4), 83, [84]), (83, .iconst 0, 84, []), (84, .ireturn, 85, []), (85, .iload_n 3, 86, []), (86, .bipush (30), 88, []), (88, .if_icmp .gt (19), 91, [107]), (91, .aload_n 0, 92, []), (92, .iload_n 3, 93, []), (93, .aload_n 0, 94, []), (94, .getfield 15, 97, []), (97, .getfield 37, 100, []), (100, .iload_n 1, 101, []), (101, .iaload, 102, []), (102, .aload_n 2, 103, []), (103, .invokevirtual 52, 106, []), (106, .ireturn, 107, []), (107, .iload_n 3, 108, []), (108, .bipush (34), 110, []), (110, .if_icmp .gt (12), 113, [122]), (113, .aload_n 0, 114, []), (114, .iload_n 3, 115, []), (115, .aload_n 2, 116, []), (116, .invokevirtual 56, 119, []), (119, .goto (9), 122, [128]), (122, .aload_n 0, 123, []), (123, .iload_n 1, 124, []), (124, .aload_n 2, 125, []), (125, .invokevirtual 59, 128, []), (128, .ireturn, 129, [])]
def cd_mf_isEnd : zm_C := [(0, .iload_n 0, 1, []), (1, .bipush (18), 3, []), (3, .if_icmp .lt (9), 6, [12]), (6, .iload_n 0, 7, []), (7, .bipush (20), 9, []), (9, .if_icmp .le (9), 12, [18]), (12, .iload_n 0, 13, []), (13, .bipush (31), 15, []), (15, .if_icmp .ne (7), 18, [22]), (18, .iconst 1, 19, []), (19, .goto (4), 22, [23]), (22, .iconst 0, 23, []), (23, .ireturn, 24, [])]
def cd_fl_leave : zm_C := [(0, .aload_n 0, 1, []), (1, .getfield 28, 4, []), (4, .aload_n 0, 5, []), (5, .getfield 11, 8, []), (8, .iload_n 1, 9, []), (9, .aaload, 10, []), (10, .invokevirtual 98, 13, []), (13, .aload_n 0, 14, []), (14, .getfield 40, 17, []), (17, .iload_n 1, 18, []), (18, .aload_n 0, 19, []), (19, .getfield 28, 22, []), (22, .invokevirtual 101, 25, []), (25, .ifCond .ne (5), 28, [30]), (28, .iconst 0, 29, []), (29, .ireturn, 30, []), (30, .aload_n 0, 31, []), (31, .getfield 36, 34, []), (34, .getfield 106, 37, []), (37, .iload_n 1, 38, []), (38, .iaload, 39, []), (39, .istore_n 2, 40, []), (40, .iload_n 2, 41, []), (41, .invokestatic 109, 44, []), (44, .ifCond .eq (25), 47, [69]), (47, .aload_n 0, 48, []), (48, .aload_n 0, 49, []), (49, .getfield 36, 52, []), (52, .getfield 112, 55, []), (55, .iload_n 1, 56, []), (56, .iaload, 57, []), (57, .aload_n 0, 58, []), (58, .getfield 28, 61, []), (61, .invokevirtual 76, 64, []), (64, .ifCond .ne (5), 67, [69]), (67, .iconst 0, 68, []), (68, .ireturn, 69, []), (69, .iload_n 2, 70, []), (70, .invokestatic 115, 73, []), (73, .ifCond .ne (17), 76, [90]), (76, .aload_n 0, 77, []), (77, .iload_n 1, 78, []), (78, .iconst 1, 79, []), (79, .iadd, 80, []), (80, .aload_n 0, 81, []), (81, .getfield 28, 84, []), (84, .invokevirtual 76, 87, []), (87, .ifCond .eq (7), 90, [94]), (90, .iconst 1, 91, []), (91, .goto (4), 94, [95]), (94, .iconst 0, 95, []), (95, .ireturn, 96, [])]
def cd_pr_markRows : zm_C := [(0, .iconst 0, 1, []), (1, .istore_n 2, 2, []), (2, .iload_n 2, 3, []), (3, .bipush (50), 5, []), (5, .if_icmp .ge (43), 8, [48]), (8, .aload_n 1, 9, []), (9, .iload_n 2, 10, []), (10, .iload_n 2, 11, []), (11, .ifCond .le (29), 14, [40]), (14, .iload_n 2, 15, []), (15, .aload_n 0, 16, []), (16, .getfield 53, 19, []), (19, .if_icmp .ge (21), 22, [40]), (22, .aload_n 0, 23, []), (23, .getfield 15, 26, []), (26, .iload_n 2, 27, []), (27, .iconst 1, 28, []), (28, .isub, 29, []), (29, .iaload, 30, []), (30, .invokestatic 70, 33, []), (33, .ifCond .eq (7), 36, [40]), (36, .iconst 1, 37, []), (37, .goto (4), 40, [41]), (40, .iconst 0, 41, []), (41, .bastore, 42, []), (42, .iinc 2 (1), 45, []), (45, .goto (-43), 48, [2]), (48, .iconst 0, 49, []), (49, .istore_n 2, 50, []), (50, .iload_n 2, 51, []), (51, .aload_n 0, 52, []), (52, .getfield 53, 55, []), (55, .if_icmp .ge (30), 58, [85]), (58, .aload_n 0, 59, []), (59, .getfield 15, 62, []), (62, .iload_n 2, 63, []), (63, .iaload, 64, []), (64, .invokestatic 63, 67, []), (67, .ifCond .eq (12), 70, [79]), (70, .aload_n 1, 71, []), (71, .aload_n 0, 72, []), (72, .getfield 21, 75, []), (75, .iload_n 2, 76, []), (76, .iaload, 77, []), (77, .iconst 1, 78, []), (78, .bastore, 79, []), (79, .iinc 2 (1), 82, []), (82, .goto (-32), 85, [50]), (85, .iconst 0, 86, []), (86, .istore_n 2, 87, []), (87, .iload_n 2, 88, []), (88, .aload_n 0, 89, []), (89, .getfield 56, 92, []), (92, .if_icmp .ge (18), 95, [110]), (95, .aload_n 1, 96, []), (96, .aload_n 0, 97, []), (97, .getfield 33, 100, []), (100, .iload_n 2, 101, []), (101, .iaload, 102, []), (102, .iconst 1, 103, []), (103, .bastore, 104, []), (104, .iinc 2 (1), 107, []), (107, .goto (-20), 110, [87]), (110, .return_, 111, [])]
def cd_fr_hasRawThisInLocal : zm_C := [(0, .iconst 0, 1, []), (1, .istore_n 1, 2, []), (2, .iload_n 1, 3, []), (3, .bipush (10), 5, []), (5, .if_icmp .ge (22), 8, [27]), (8, .aload_n 0, 9, []), (9, .getfield 9, 12, []), (12, .iload_n 1, 13, []), (13, .iaload, 14, []), (14, .bipush (6), 16, []), (16, .if_icmp .ne (5), 19, [21]), (19, .iconst 1, 20, []), (20, .ireturn, 21, []), (21, .iinc 1 (1), 24, []), (24, .goto (-22), 27, [2]), (27, .iconst 0, 28, []), (28, .ireturn, 29, [])]
def cd_fl_isWhole : zm_C := [(0, .aload_n 0, 1, []), (1, .getfield 36, 4, []), (4, .aload_n 0, 5, []), (5, .getfield 17, 8, []), (8, .invokevirtual 139, 11, []), (11, .iconst 0, 12, []), (12, .istore_n 1, 13, []), (13, .iload_n 1, 14, []), (14, .aload_n 0, 15, []), (15, .getfield 36, 18, []), (18, .getfield 55, 21, []), (21, .if_icmp .ge (53), 24, [74]), (24, .aload_n 0, 25, []), (25, .getfield 21, 28, []), (28, .iload_n 1, 29, []), (29, .baload, 30, []), (30, .ifCond .eq (36), 33, [66]), (33, .aload_n 0, 34, []), (34, .getfield 17, 37, []), (37, .iload_n 1, 38, []), (38, .baload, 39, []), (39, .ifCond .eq (29), 42, [68]), (42, .aload_n 0, 43, []), (43, .getfield 11, 46, []), (46, .iload_n 1, 47, []), (47, .aaload, 48, []), (48, .getfield 124, 51, []), (51, .ifCond .eq (17), 54, [68]), (54, .aload_n 0, 55, []), (55, .getfield 11, 58, []), (58, .iload_n 1, 59, []), (59, .aaload, 60, []), (60, .invokevirtual 143, 63, []), (63, .ifCond .ne (5), 66, [68]), (66, .iconst 0, 67, []), (67, .ireturn, 68, []), (68, .iinc 1 (1), 71, []), (71, .goto (-58), 74, [13]), (74, .aload_n 0, 75, []), (75, .getfield 36, 78, []), (78, .getfield 55, 81, []), (81, .ifCond .le (7), 84, [88]), (84, .iconst 1, 85, []), (85, .goto (4), 88, [89]), (88, .iconst 0, 89, []), (89, .ireturn, 90, [])]
def cd_fl_isRight : zm_C := [(0, .aload_n 0, 1, []), (1, .getfield 44, 4, []), (4, .ifCond .eq (8), 7, [12]), (7, .aload_n 0, 8, []), (8, .getfield 48, 11, []), (11, .ireturn, 12, []), (12, .aload_n 0, 13, []), (13, .iconst 1, 14, []), (14, .putfield 44, 17, []), (17, .aload_n 0, 18, []), (18, .iconst 0, 19, []), (19, .putfield 48, 22, []), (22, .aload_n 0, 23, []), (23, .invokevirtual 51, 26, []), (26, .iconst 1, 27, []), (27, .istore_n 1, 28, []), (28, .iconst 0, 29, []), (29, .istore_n 2, 30, []), (30, .iload_n 1, 31, []), (31, .ifCond .eq (72), 34, [103]), (34, .iload_n 2, 35, []), (35, .ldc 54, 37, []), (37, .if_icmp .ge (66), 40, [103]), (40, .iconst 0, 41, []), (41, .istore_n 1, 42, []), (42, .iconst 0, 43, []), (43, .istore_n 3, 44, []), (44, .iload_n 3, 45, []), (45, .aload_n 0, 46, []), (46, .getfield 36, 49, []), (49, .getfield 55, 52, []), (52, .if_icmp .ge (45), 55, [97]), (55, .aload_n 0, 56, []), (56, .getfield 24, 59, []), (59, .iload_n 3, 60, []), (60, .baload, 61, []), (61, .ifCond .eq (30), 64, [91]), (64, .aload_n 0, 65, []), (65, .getfield 24, 68, []), (68, .iload_n 3, 69, []), (69, .iconst 0, 70, []), (70, .bastore, 71, []), (71, .iconst 1, 72, []), (72, .istore_n 1, 73, []), (73, .aload_n 0, 74, []), (74, .iload_n 3, 75, []), (75, .invokevirtual 61, 78, []), (78, .ifCond .eq (11), 81, [89]), (81, .aload_n 0, 82, []), (82, .iload_n 3, 83, []), (83, .invokevirtual 65, 86, []), (86, .ifCond .ne (5), 89, [91]), (89, .iconst 0, 90, []), (90, .ireturn, 91, []), (91, .iinc 3 (1), 94, []), (94, .goto (-50), 97, [44]), (97, .iinc 2 (1), 100, []), (100, .goto (-70), 103, [30]), (103, .aload_n 0, 104, []), (104, .aload_n 0, 105, []), (105, .invokevirtual 68, 108, []), (108, .putfield 48, 111, []), (111, .aload_n 0, 112, []), (112, .getfield 48, 115, []), (115, .ireturn, 116, [])]
def cd_tl_empty : zm_C := [(0, .aload_n 0, 1, []), (1, .iconst 0, 2, []), (2, .putfield 15, 5, []), (5, .aload_n 0, 6, []), (6, .iconst 0, 7, []), (7, .putfield 19, 10, []), (10, .return_, 11, [])]
def cd_tl_append : zm_C := [(0, .iload_n 1, 1, []), (1, .invokestatic 22, 4, []), (4, .istore_n 2, 5, []), (5, .aload_n 0, 6, []), (6, .getfield 19, 9, []), (9, .iload_n 2, 10, []), (10, .iadd, 11, []), (11, .bipush (10), 13, []), (13, .if_icmp .le (5), 16, [18]), (16, .iconst 0, 17, []), (17, .ireturn, 18, []), (18, .aload_n 0, 19, []), (19, .getfield 9, 22, []), (22, .aload_n 0, 23, []), (23, .getfield 15, 26, []), (26, .iload_n 1, 27, []), (27, .iastore, 28, []), (28, .aload_n 0, 29, []), (29, .dup, 30, []), (30, .getfield 15, 33, []), (33, .iconst 1, 34, []), (34, .iadd, 35, []), (35, .putfield 15, 38, []), (38, .aload_n 0, 39, []), (39, .dup, 40, []), (40, .getfield 19, 43, []), (43, .iload_n 2, 44, []), (44, .iadd, 45, []), (45, .putfield 19, 48, []), (48, .iconst 1, 49, []), (49, .ireturn, 50, [])]
def cd_tl_drop : zm_C := [(0, .aload_n 0, 1, []), (1, .getfield 15, 4, []), (4, .ifCond .le (34), 7, [38]), (7, .aload_n 0, 8, []), (8, .dup, 9, []), (9, .getfield 15, 12, []), (12, .iconst 1, 13, []), (13, .isub, 14, []), (14, .putfield 15, 17, []), (17, .aload_n 0, 18, []), (18, .dup, 19, []), (19, .getfield 19, 22, []), (22, .aload_n 0, 23, []), (23, .getfield 9, 26, []), (26, .aload_n 0, 27, []), (27, .getfield 15, 30, []), (30, .iaload, 31, []), (31, .invokestatic 22, 34, []), (34, .isub, 35, []), (35, .putfield 19, 38, []), (38, .return_, 39, [])]
def cd_tl_gather : zm_C := [(0, .aload_n 0, 1, []), (1, .invokevirtual 32, 4, []), (4, .iconst 0, 5, []), (5, .istore_n 2, 6, []), (6, .iload_n 2, 7, []), (7, .bipush (10), 9, []), (9, .if_icmp .ge (29), 12, [38]), (12, .aload_n 0, 13, []), (13, .aload_n 1, 14, []), (14, .getfield 35, 17, []), (17, .iload_n 2, 18, []), (18, .iaload, 19, []), (19, .invokevirtual 40, 22, []), (22, .pop, 23, []), (23, .iload_n 2, 24, []), (24, .aload_n 1, 25, []), (25, .getfield 35, 28, []), (28, .iload_n 2, 29, []), (29, .iaload, 30, []), (30, .invokestatic 22, 33, []), (33, .iadd, 34, []), (34, .istore_n 2, 35, []), (35, .goto (-29), 38, [6]), (38, .iconst 0, 39, []), (39, .istore_n 2, 40, []), (40, .iload_n 2, 41, []), (41, .bipush (10), 43, []), (43, .if_icmp .ge (34), 46, [77]), (46, .aload_n 0, 47, []), (47, .getfield 15, 50, []), (50, .ifCond .le (27), 53, [77]), (53, .aload_n 0, 54, []), (54, .getfield 9, 57, []), (57, .aload_n 0, 58, []), (58, .getfield 15, 61, []), (61, .iconst 1, 62, []), (62, .isub, 63, []), (63, .iaload, 64, []), (64, .ifCond .ne (13), 67, [77]), (67, .aload_n 0, 68, []), (68, .invokevirtual 44, 71, []), (71, .iinc 2 (1), 74, []), (74, .goto (-34), 77, [40]), (77, .return_, 78, [])]
def cd_tl_sharedStart : zm_C := [(0, .iconst 0, 1, []), (1, .istore_n 2, 2, []), (2, .iload_n 2, 3, []), (3, .aload_n 0, 4, []), (4, .getfield 15, 7, []), (7, .if_icmp .ge (32), 10, [39]), (10, .iload_n 2, 11, []), (11, .aload_n 1, 12, []), (12, .getfield 15, 15, []), (15, .if_icmp .ge (24), 18, [39]), (18, .aload_n 0, 19, []), (19, .getfield 9, 22, []), (22, .iload_n 2, 23, []), (23, .iaload, 24, []), (24, .aload_n 1, 25, []), (25, .getfield 9, 28, []), (28, .iload_n 2, 29, []), (29, .iaload, 30, []), (30, .if_icmp .ne (9), 33, [39]), (33, .iinc 2 (1), 36, []), (36, .goto (-34), 39, [2]), (39, .iload_n 2, 40, []), (40, .ireturn, 41, [])]
def cd_jm_abs : zm_C := [(0, .iload_n 0, 1, []), (1, .ifCond .ge (8), 4, [9]), (4, .iload_n 0, 5, []), (5, .ineg, 6, []), (6, .goto (4), 9, [10]), (9, .iload_n 0, 10, []), (10, .ireturn, 11, [])]
def cd_jm_min : zm_C := [(0, .iload_n 0, 1, []), (1, .iload_n 1, 2, []), (2, .if_icmp .gt (7), 5, [9]), (5, .iload_n 0, 6, []), (6, .goto (4), 9, [10]), (9, .iload_n 1, 10, []), (10, .ireturn, 11, [])]
def cd_by_put : zm_C := [(0, .aload_n 0, 1, []), (1, .getfield 15, 4, []), (4, .sipush (400), 7, []), (7, .if_icmp .ge (13), 10, [20]), (10, .aload_n 0, 11, []), (11, .getfield 9, 14, []), (14, .aload_n 0, 15, []), (15, .getfield 15, 18, []), (18, .iload_n 1, 19, []), (19, .iastore, 20, []), (20, .aload_n 0, 21, []), (21, .dup, 22, []), (22, .getfield 15, 25, []), (25, .iconst 1, 26, []), (26, .iadd, 27, []), (27, .putfield 15, 30, []), (30, .return_, 31, [])]
def cd_by_putTwo : zm_C := [(0, .aload_n 0, 1, []), (1, .iload_n 1, 2, []), (2, .bipush (8), 4, []), (4, .ishr, 5, []), (5, .sipush (255), 8, []), (8, .iand, 9, []), (9, .invokevirtual 19, 12, []), (12, .aload_n 0, 13, []), (13, .iload_n 1, 14, []), (14, .sipush (255), 17, []), (17, .iand, 18, []), (18, .invokevirtual 19, 21, []), (21, .return_, 22, [])]
def cd_wr_writeHead : zm_C := [(0, .iload_n 3, 1, []), (1, .bipush (64), 3, []), (3, .if_icmp .ge (16), 6, [19]), (6, .aload_n 0, 7, []), (7, .getfield 31, 10, []), (10, .iload_n 1, 11, []), (11, .iload_n 3, 12, []), (12, .iadd, 13, []), (13, .invokevirtual 108, 16, []), (16, .goto (19), 19, [35]), (19, .aload_n 0, 20, []), (20, .getfield 31, 23, []), (23, .iload_n 2, 24, []), (24, .invokevirtual 108, 27, []), (27, .aload_n 0, 28, []), (28, .getfield 31, 31, []), (31, .iload_n 3, 32, []), (32, .invokevirtual 111, 35, []), (35, .return_, 36, [])]
def cd_by_putType : zm_C := [(0, .iload_n 1, 1, []), (1, .invokestatic 23, 4, []), (4, .istore_n 2, 5, []), (5, .aload_n 0, 6, []), (6, .iload_n 2, 7, []), (7, .invokevirtual 19, 10, []), (10, .iload_n 2, 11, []), (11, .bipush (7), 13, []), (13, .if_icmp .eq (9), 16, [22]), (16, .iload_n 2, 17, []), (17, .bipush (8), 19, []), (19, .if_icmp .ne (11), 22, [30]), (22, .aload_n 0, 23, []), (23, .iload_n 1, 24, []), (24, .invokestatic 27, 27, []), (27, .invokevirtual 30, 30, []), (30, .return_, 31, [])]
def cd_wr_writeTypes : zm_C := [(0, .iload_n 2, 1, []), (1, .istore 4, 3, []), (3, .iload 4, 5, []), (5, .iload_n 3, 6, []), (6, .if_icmp .ge (20), 9, [26]), (9, .aload_n 0, 10, []), (10, .getfield 31, 13, []), (13, .aload_n 1, 14, []), (14, .iload 4, 16, []), (16, .iaload, 17, []), (17, .invokevirtual 104, 20, []), (20, .iinc 4 (1), 23, []), (23, .goto (-20), 26, [3]), (26, .return_, 27, [])]
def cd_wr_writeWhole : zm_C := [(0, .aload_n 0, 1, []), (1, .getfield 31, 4, []), (4, .sipush (255), 7, []), (7, .invokevirtual 108, 10, []), (10, .aload_n 0, 11, []), (11, .getfield 31, 14, []), (14, .iload_n 2, 15, []), (15, .invokevirtual 111, 18, []), (18, .aload_n 0, 19, []), (19, .getfield 31, 22, []), (22, .aload_n 0, 23, []), (23, .getfield 25, 26, []), (26, .getfield 83, 29, []), (29, .invokevirtual 111, 32, []), (32, .aload_n 0, 33, []), (33, .aload_n 0, 34, []), (34, .getfield 25, 37, []), (37, .getfield 114, 40, []), (40, .iconst 0, 41, []), (41, .aload_n 0, 42, []), (42, .getfield 25, 45, []), (45, .getfield 83, 48, []), (48, .invokevirtual 117, 51, []), (51, .aload_n 0, 52, []), (52, .getfield 31, 55, []), (55, .aload_n 1, 56, []), (56, .getfield 94, 59, []), (59, .invokevirtual 111, 62, []), (62, .aload_n 0, 63, []), (63, .aload_n 1, 64, []), (64, .getfield 101, 67, []), (67, .iconst 0, 68, []), (68, .aload_n 1, 69, []), (69, .getfield 94, 72, []), (72, .invokevirtual 117, 75, []), (75, .return_, 76, [])]
def cd_wr_writeRow : zm_C := [(0, .aload_n 0, 1, []), (1, .getfield 25, 4, []), (4, .aload_n 0, 5, []), (5, .getfield 21, 8, []), (8, .invokevirtual 79, 11, []), (11, .istore_n 3, 12, []), (12, .aload_n 0, 13, []), (13, .getfield 25, 16, []), (16, .getfield 83, 19, []), (19, .aload_n 0, 20, []), (20, .getfield 21, 23, []), (23, .getfield 83, 26, []), (26, .isub, 27, []), (27, .istore 4, 29, []), (29, .iload 4, 31, []), (31, .ifCond .ne (18), 34, [49]), (34, .iload_n 3, 35, []), (35, .aload_n 0, 36, []), (36, .getfield 25, 39, []), (39, .getfield 83, 42, []), (42, .if_icmp .ne (7), 45, [49]), (45, .iconst 1, 46, []), (46, .goto (4), 49, [50]), (49, .iconst 0, 50, []), (50, .istore 5, 52, []), (52, .iload 4, 54, []), (54, .invokestatic 84, 57, []), (57, .iconst 3, 58, []), (58, .if_icmp .gt (28), 61, [86]), (61, .iload_n 3, 62, []), (62, .aload_n 0, 63, []), (63, .getfield 25, 66, []), (66, .getfield 83, 69, []), (69, .aload_n 0, 70, []), (70, .getfield 21, 73, []), (73, .getfield 83, 76, []), (76, .invokestatic 90, 79, []), (79, .if_icmp .ne (7), 82, [86]), (82, .iconst 1, 83, []), (83, .goto (4), 86, [87]), (86, .iconst 0, 87, []), (87, .istore 6, 89, []), (89, .iload 5, 91, []), (91, .ifCond .eq (22), 94, [113]), (94, .aload_n 1, 95, []), (95, .getfield 94, 98, []), (98, .ifCond .ne (15), 101, [113]), (101, .aload_n 0, 102, []), (102, .iconst 0, 103, []), (103, .sipush (251), 106, []), (106, .iload_n 2, 107, []), (107, .invokevirtual 97, 110, []), (110, .goto (109), 113, [219]), (113, .iload 5, 115, []), (115, .ifCond .eq (37), 118, [152]), (118, .aload_n 1, 119, []), (119, .getfield 94, 122, []), (122, .iconst 1, 123, []), (123, .if_icmp .ne (29), 126, [152]), (126, .aload_n 0, 127, []), (127, .bipush (64), 129, []), (129, .sipush (247), 132, []), (132, .iload_n 2, 133, []), (133, .invokevirtual 97, 136, []), (136, .aload_n 0, 137, []), (137, .getfield 31, 140, []), (140, .aload_n 1, 141, []), (141, .getfield 101, 144, []), (144, .iconst 0, 145, []), (145, .iaload, 146, []), (146, .invokevirtual 104, 149, []), (149, .goto (70), 152, [219]), (152, .iload 6, 154, []), (154, .ifCond .eq (59), 157, [213]), (157, .aload_n 1, 158, []), (158, .getfield 94, 161, []), (161, .ifCond .ne (52), 164, [213]), (164, .aload_n 0, 165, []), (165, .getfield 31, 168, []), (168, .sipush (251), 171, []), (171, .iload 4, 173, []), (173, .iadd, 174, []), (174, .invokevirtual 108, 177, []), (177, .aload_n 0, 178, []), (178, .getfield 31, 181, []), (181, .iload_n 2, 182, []), (182, .invokevirtual 111, 185, []), (185, .aload_n 0, 186, []), (186, .aload_n 0, 187, []), (187, .getfield 25, 190, []), (190, .getfield 114, 193, []), (193, .aload_n 0, 194, []), (194, .getfield 21, 197, []), (197, .getfield 83, 200, []), (200, .aload_n 0, 201, []), (201, .getfield 25, 204, []), (204, .getfield 83, 207, []), (207, .invokevirtual 117, 210, []), (210, .goto (9), 213, [219]), (213, .aload_n 0, 214, []), (214, .aload_n 1, 215, []), (215, .iload_n 2, 216, []), (216, .invokevirtual 121, 219, []), (219, .return_, 220, [])]
def cd_tl_takeOver : zm_C := [(0, .aload_n 1, 1, []), (1, .getfield 9, 4, []), (4, .iconst 0, 5, []), (5, .aload_n 0, 6, []), (6, .getfield 9, 9, []), (9, .iconst 0, 10, []), (10, .aload_n 1, 11, []), (11, .getfield 15, 14, []), (14, .invokestatic 26, 17, []), (17, .aload_n 0, 18, []), (18, .aload_n 1, 19, []), (19, .getfield 15, 22, []), (22, .putfield 15, 25, []), (25, .aload_n 0, 26, []), (26, .aload_n 1, 27, []), (27, .getfield 19, 30, []), (30, .putfield 19, 33, []), (33, .return_, 34, [])]
def cd_wr_writeRows : zm_C := [(0, .aload_n 0, 1, []), (1, .getfield 35, 4, []), (4, .aload_n 0, 5, []), (5, .getfield 12, 8, []), (8, .invokevirtual 43, 11, []), (11, .aload_n 0, 12, []), (12, .getfield 21, 15, []), (15, .aload_n 0, 16, []), (16, .getfield 12, 19, []), (19, .invokevirtual 49, 22, []), (22, .aload_n 0, 23, []), (23, .getfield 31, 26, []), (26, .iconst 0, 27, []), (27, .putfield 52, 30, []), (30, .iconst 0, 31, []), (31, .istore_n 1, 32, []), (32, .iconst (-1), 33, []), (33, .istore_n 2, 34, []), (34, .iconst 0, 35, []), (35, .istore_n 3, 36, []), (36, .iload_n 3, 37, []), (37, .aload_n 0, 38, []), (38, .getfield 35, 41, []), (41, .getfield 56, 44, []), (44, .if_icmp .ge (87), 47, [131]), (47, .aload_n 0, 48, []), (48, .getfield 39, 51, []), (51, .getfield 57, 54, []), (54, .iload_n 3, 55, []), (55, .baload, 56, []), (56, .ifCond .eq (69), 59, [125]), (59, .aload_n 0, 60, []), (60, .getfield 25, 63, []), (63, .aload_n 0, 64, []), (64, .getfield 39, 67, []), (67, .getfield 63, 70, []), (70, .iload_n 3, 71, []), (71, .aaload, 72, []), (72, .invokevirtual 49, 75, []), (75, .aload_n 0, 76, []), (76, .aload_n 0, 77, []), (77, .getfield 39, 80, []), (80, .getfield 63, 83, []), (83, .iload_n 3, 84, []), (84, .aaload, 85, []), (85, .aload_n 0, 86, []), (86, .getfield 35, 89, []), (89, .getfield 67, 92, []), (92, .iload_n 3, 93, []), (93, .iaload, 94, []), (94, .iload_n 2, 95, []), (95, .isub, 96, []), (96, .iconst 1, 97, []), (97, .isub, 98, []), (98, .invokevirtual 71, 101, []), (101, .aload_n 0, 102, []), (102, .getfield 21, 105, []), (105, .aload_n 0, 106, []), (106, .getfield 25, 109, []), (109, .invokevirtual 75, 112, []), (112, .aload_n 0, 113, []), (113, .getfield 35, 116, []), (116, .getfield 67, 119, []), (119, .iload_n 3, 120, []), (120, .iaload, 121, []), (121, .istore_n 2, 122, []), (122, .iinc 1 (1), 125, []), (125, .iinc 3 (1), 128, []), (128, .goto (-92), 131, [36]), (131, .iload_n 1, 132, []), (132, .ireturn, 133, [])]
def cd_by_takeOver : zm_C := [(0, .aload_n 0, 1, []), (1, .aload_n 1, 2, []), (2, .getfield 15, 5, []), (5, .sipush (400), 8, []), (8, .invokestatic 33, 11, []), (11, .putfield 15, 14, []), (14, .aload_n 1, 15, []), (15, .getfield 9, 18, []), (18, .iconst 0, 19, []), (19, .aload_n 0, 20, []), (20, .getfield 9, 23, []), (23, .iconst 0, 24, []), (24, .aload_n 0, 25, []), (25, .getfield 15, 28, []), (28, .invokestatic 39, 31, []), (31, .return_, 32, [])]
def cd_mf_make : zm_C := [(0, .aload_n 0, 1, []), (1, .getfield 40, 4, []), (4, .invokevirtual 120, 7, []), (7, .ifCond .ne (6), 10, [13]), (10, .bipush (-4), 12, []), (12, .ireturn, 13, []), (13, .aload_n 0, 14, []), (14, .getfield 49, 17, []), (17, .invokevirtual 124, 20, []), (20, .istore_n 1, 21, []), (21, .aload_n 0, 22, []), (22, .getfield 49, 25, []), (25, .getfield 128, 28, []), (28, .getfield 131, 31, []), (31, .sipush (400), 34, []), (34, .if_icmp .le (6), 37, [40]), (37, .bipush (-3), 39, []), (39, .ireturn, 40, []), (40, .aload_n 0, 41, []), (41, .getfield 26, 44, []), (44, .aload_n 0, 45, []), (45, .getfield 49, 48, []), (48, .getfield 128, 51, []), (51, .invokevirtual 132, 54, []), (54, .aload_n 0, 55, []), (55, .getfield 58, 58, []), (58, .iconst 0, 59, []), (59, .putfield 136, 62, []), (62, .iload_n 1, 63, []), (63, .ireturn, 64, [])]
def cd_mf_isQuestion : zm_C := [(0, .iload_n 0, 1, []), (1, .ifCond .lt (9), 4, [10]), (4, .iload_n 0, 5, []), (5, .bipush (18), 7, []), (7, .if_icmp .lt (14), 10, [21]), (10, .iload_n 0, 11, []), (11, .bipush (20), 13, []), (13, .if_icmp .lt (12), 16, [25]), (16, .iload_n 0, 17, []), (17, .iload_n 1, 18, []), (18, .if_icmp .gt (7), 21, [25]), (21, .iconst 1, 22, []), (22, .goto (4), 25, [26]), (25, .iconst 0, 26, []), (26, .ireturn, 27, [])]
def cd_fr_tell : zm_C := [(0, .iload_n 1, 1, []), (1, .bipush (10), 3, []), (3, .if_icmp .ge (10), 6, [13]), (6, .aload_n 0, 7, []), (7, .getfield 9, 10, []), (10, .iload_n 1, 11, []), (11, .iaload, 12, []), (12, .ireturn, 13, []), (13, .iload_n 1, 14, []), (14, .bipush (18), 16, []), (16, .if_icmp .ge (29), 19, [45]), (19, .iload_n 1, 20, []), (20, .bipush (10), 22, []), (22, .isub, 23, []), (23, .aload_n 0, 24, []), (24, .getfield 24, 27, []), (27, .if_icmp .ge (15), 30, [42]), (30, .aload_n 0, 31, []), (31, .getfield 15, 34, []), (34, .iload_n 1, 35, []), (35, .bipush (10), 37, []), (37, .isub, 38, []), (38, .iaload, 39, []), (39, .goto (5), 42, [44]), (42, .bipush (-2), 44, []), (44, .ireturn, 45, []), (45, .iload_n 1, 46, []), (46, .bipush (20), 48, []), (48, .if_icmp .ne (8), 51, [56]), (51, .aload_n 0, 52, []), (52, .getfield 24, 55, []), (55, .ireturn, 56, []), (56, .aload_n 0, 57, []), (57, .getfield 31, 60, []), (60, .ifCond .eq (7), 63, [67]), (63, .iconst 1, 64, []), (64, .goto (4), 67, [68]), (67, .iconst 0, 68, []), (68, .ireturn, 69, [])]
def cd_mf_flow : zm_C := [(0, .iload_n 2, 1, []), (1, .bipush (21), 3, []), (3, .invokestatic 140, 6, []), (6, .ifCond .ne (5), 9, [11]), (9, .iconst (-1), 10, []), (10, .ireturn, 11, []), (11, .iload_n 1, 12, []), (12, .ifCond .lt (24), 15, [36]), (15, .iload_n 1, 16, []), (16, .aload_n 0, 17, []), (17, .getfield 19, 20, []), (20, .getfield 104, 23, []), (23, .if_icmp .ge (13), 26, [36]), (26, .aload_n 0, 27, []), (27, .getfield 40, 30, []), (30, .invokevirtual 120, 33, []), (33, .ifCond .ne (6), 36, [39]), (36, .bipush (-2), 38, []), (38, .ireturn, 39, []), (39, .aload_n 0, 40, []), (40, .getfield 40, 43, []), (43, .getfield 144, 46, []), (46, .iload_n 1, 47, []), (47, .aaload, 48, []), (48, .iload_n 2, 49, []), (49, .invokevirtual 148, 52, []), (52, .ireturn, 53, [])]
def cd_re_begin : zm_C := [(0, .aload_n 0, 1, []), (1, .getfield 39, 4, []), (4, .aload_n 0, 5, []), (5, .getfield 12, 8, []), (8, .invokevirtual 79, 11, []), (11, .aload_n 0, 12, []), (12, .getfield 21, 15, []), (15, .aload_n 0, 16, []), (16, .getfield 12, 19, []), (19, .invokevirtual 83, 22, []), (22, .aload_n 0, 23, []), (23, .getfield 36, 26, []), (26, .bipush (-2), 28, []), (28, .invokestatic 86, 31, []), (31, .aload_n 0, 32, []), (32, .iconst 0, 33, []), (33, .putfield 57, 36, []), (36, .aload_n 0, 37, []), (37, .iconst 0, 38, []), (38, .putfield 61, 41, []), (41, .return_, 42, [])]
def cd_re_readByte : zm_C := [(0, .aload_n 0, 1, []), (1, .getfield 61, 4, []), (4, .aload_n 0, 5, []), (5, .getfield 43, 8, []), (8, .getfield 64, 11, []), (11, .if_icmp .lt (5), 14, [16]), (14, .iconst (-1), 15, []), (15, .ireturn, 16, []), (16, .aload_n 0, 17, []), (17, .dup, 18, []), (18, .getfield 61, 21, []), (21, .iconst 1, 22, []), (22, .iadd, 23, []), (23, .putfield 61, 26, []), (26, .aload_n 0, 27, []), (27, .getfield 43, 30, []), (30, .getfield 150, 33, []), (33, .aload_n 0, 34, []), (34, .getfield 61, 37, []), (37, .iconst 1, 38, []), (38, .isub, 39, []), (39, .iaload, 40, []), (40, .ireturn, 41, [])]
def cd_re_readTwo : zm_C := [(0, .aload_n 0, 1, []), (1, .invokevirtual 92, 4, []), (4, .istore_n 1, 5, []), (5, .aload_n 0, 6, []), (6, .invokevirtual 92, 9, []), (9, .istore_n 2, 10, []), (10, .iload_n 1, 11, []), (11, .ifCond .lt (7), 14, [18]), (14, .iload_n 2, 15, []), (15, .ifCond .ge (7), 18, [22]), (18, .iconst (-1), 19, []), (19, .goto (9), 22, [28]), (22, .iload_n 1, 23, []), (23, .bipush (8), 25, []), (25, .ishl, 26, []), (26, .iload_n 2, 27, []), (27, .ior, 28, []), (28, .ireturn, 29, [])]
def cd_re_readType : zm_C := [(0, .aload_n 0, 1, []), (1, .invokevirtual 92, 4, []), (4, .istore_n 1, 5, []), (5, .iload_n 1, 6, []), (6, .ifCond .lt (9), 9, [15]), (9, .iload_n 1, 10, []), (10, .bipush (8), 12, []), (12, .if_icmp .le (5), 15, [17]), (15, .iconst (-1), 16, []), (16, .ireturn, 17, []), (17, .iload_n 1, 18, []), (18, .bipush (7), 20, []), (20, .if_icmp .ge (5), 23, [25]), (23, .iload_n 1, 24, []), (24, .ireturn, 25, []), (25, .aload_n 0, 26, []), (26, .invokevirtual 103, 29, []), (29, .istore_n 2, 30, []), (30, .iload_n 2, 31, []), (31, .ifCond .lt (16), 34, [47]), (34, .iload_n 1, 35, []), (35, .bipush (7), 37, []), (37, .if_icmp .ne (12), 40, [49]), (40, .iload_n 2, 41, []), (41, .invokestatic 143, 44, []), (44, .ifCond .ne (5), 47, [49]), (47, .iconst (-1), 48, []), (48, .ireturn, 49, []), (49, .iload_n 1, 50, []), (50, .iload_n 2, 51, []), (51, .invokestatic 146, 54, []), (54, .ireturn, 55, [])]
def cd_re_readStack : zm_C := [(0, .iconst 0, 1, []), (1, .istore_n 3, 2, []), (2, .iload_n 3, 3, []), (3, .iload_n 2, 4, []), (4, .if_icmp .ge (32), 7, [36]), (7, .aload_n 0, 8, []), (8, .invokevirtual 134, 11, []), (11, .istore 4, 13, []), (13, .iload 4, 15, []), (15, .iconst (-1), 16, []), (16, .if_icmp .eq (12), 19, [28]), (19, .aload_n 1, 20, []), (20, .iload 4, 22, []), (22, .invokevirtual 140, 25, []), (25, .ifCond .ne (5), 28, [30]), (28, .iconst 0, 29, []), (29, .ireturn, 30, []), (30, .iinc 3 (1), 33, []), (33, .goto (-31), 36, [2]), (36, .iload_n 2, 37, []), (37, .ifCond .lt (7), 40, [44]), (40, .iconst 1, 41, []), (41, .goto (4), 44, [45]), (44, .iconst 0, 45, []), (45, .ireturn, 46, [])]
def cd_re_readList : zm_C := [(0, .iconst 0, 1, []), (1, .istore_n 2, 2, []), (2, .iload_n 2, 3, []), (3, .iload_n 1, 4, []), (4, .if_icmp .ge (32), 7, [36]), (7, .aload_n 0, 8, []), (8, .invokevirtual 134, 11, []), (11, .istore_n 3, 12, []), (12, .iload_n 3, 13, []), (13, .iconst (-1), 14, []), (14, .if_icmp .eq (14), 17, [28]), (17, .aload_n 0, 18, []), (18, .getfield 21, 21, []), (21, .iload_n 3, 22, []), (22, .invokevirtual 137, 25, []), (25, .ifCond .ne (5), 28, [30]), (28, .iconst 0, 29, []), (29, .ireturn, 30, []), (30, .iinc 2 (1), 33, []), (33, .goto (-31), 36, [2]), (36, .iload_n 1, 37, []), (37, .ifCond .lt (7), 40, [44]), (40, .iconst 1, 41, []), (41, .goto (4), 44, [45]), (44, .iconst 0, 45, []), (45, .ireturn, 46, [])]
def cd_re_shorten : zm_C := [(0, .iload_n 1, 1, []), (1, .aload_n 0, 2, []), (2, .getfield 21, 5, []), (5, .getfield 130, 8, []), (8, .if_icmp .le (5), 11, [13]), (11, .iconst 0, 12, []), (12, .ireturn, 13, []), (13, .iconst 0, 14, []), (14, .istore_n 2, 15, []), (15, .iload_n 2, 16, []), (16, .iload_n 1, 17, []), (17, .if_icmp .ge (16), 20, [33]), (20, .aload_n 0, 21, []), (21, .getfield 21, 24, []), (24, .invokevirtual 131, 27, []), (27, .iinc 2 (1), 30, []), (30, .goto (-15), 33, [15]), (33, .iconst 1, 34, []), (34, .ireturn, 35, [])]
def cd_re_readRest : zm_C := [(0, .iload_n 1, 1, []), (1, .sipush (247), 4, []), (4, .if_icmp .ne (10), 7, [14]), (7, .aload_n 0, 8, []), (8, .aload_n 2, 9, []), (9, .iconst 1, 10, []), (10, .invokevirtual 99, 13, []), (13, .ireturn, 14, []), (14, .iload_n 1, 15, []), (15, .sipush (255), 18, []), (18, .if_icmp .ne (39), 21, [57]), (21, .aload_n 0, 22, []), (22, .getfield 21, 25, []), (25, .invokevirtual 120, 28, []), (28, .aload_n 0, 29, []), (29, .aload_n 0, 30, []), (30, .invokevirtual 103, 33, []), (33, .invokevirtual 123, 36, []), (36, .ifCond .eq (19), 39, [55]), (39, .aload_n 0, 40, []), (40, .aload_n 2, 41, []), (41, .aload_n 0, 42, []), (42, .invokevirtual 103, 45, []), (45, .invokevirtual 99, 48, []), (48, .ifCond .eq (7), 51, [55]), (51, .iconst 1, 52, []), (52, .goto (4), 55, [56]), (55, .iconst 0, 56, []), (56, .ireturn, 57, []), (57, .iload_n 1, 58, []), (58, .sipush (251), 61, []), (61, .if_icmp .ge (15), 64, [76]), (64, .aload_n 0, 65, []), (65, .sipush (251), 68, []), (68, .iload_n 1, 69, []), (69, .isub, 70, []), (70, .invokevirtual 127, 73, []), (73, .goto (12), 76, [85]), (76, .aload_n 0, 77, []), (77, .iload_n 1, 78, []), (78, .sipush (251), 81, []), (81, .isub, 82, []), (82, .invokevirtual 123, 85, []), (85, .ireturn, 86, [])]
def cd_tl_spread : zm_C := [(0, .aload_n 1, 1, []), (1, .getfield 35, 4, []), (4, .iconst 0, 5, []), (5, .invokestatic 47, 8, []), (8, .iconst 0, 9, []), (9, .istore_n 2, 10, []), (10, .iconst 0, 11, []), (11, .istore_n 3, 12, []), (12, .iload_n 3, 13, []), (13, .aload_n 0, 14, []), (14, .getfield 15, 17, []), (17, .if_icmp .ge (33), 20, [50]), (20, .aload_n 1, 21, []), (21, .getfield 35, 24, []), (24, .iload_n 2, 25, []), (25, .aload_n 0, 26, []), (26, .getfield 9, 29, []), (29, .iload_n 3, 30, []), (30, .iaload, 31, []), (31, .iastore, 32, []), (32, .iload_n 2, 33, []), (33, .aload_n 0, 34, []), (34, .getfield 9, 37, []), (37, .iload_n 3, 38, []), (38, .iaload, 39, []), (39, .invokestatic 22, 42, []), (42, .iadd, 43, []), (43, .istore_n 2, 44, []), (44, .iinc 3 (1), 47, []), (47, .goto (-35), 50, [12]), (50, .return_, 51, [])]
def cd_re_readRow : zm_C := [(0, .aload_n 0, 1, []), (1, .invokevirtual 92, 4, []), (4, .istore_n 2, 5, []), (5, .aload_n 0, 6, []), (6, .getfield 33, 9, []), (9, .aload_n 0, 10, []), (10, .getfield 57, 13, []), (13, .iload_n 2, 14, []), (14, .iastore, 15, []), (15, .aload_n 1, 16, []), (16, .invokevirtual 96, 19, []), (19, .iload_n 2, 20, []), (20, .sipush (128), 23, []), (23, .if_icmp .ge (29), 26, [52]), (26, .aload_n 0, 27, []), (27, .getfield 29, 30, []), (30, .aload_n 0, 31, []), (31, .getfield 57, 34, []), (34, .iload_n 2, 35, []), (35, .bipush (64), 37, []), (37, .irem, 38, []), (38, .iastore, 39, []), (39, .aload_n 0, 40, []), (40, .aload_n 1, 41, []), (41, .iload_n 2, 42, []), (42, .bipush (64), 44, []), (44, .idiv, 45, []), (45, .invokevirtual 99, 48, []), (48, .istore_n 3, 49, []), (49, .goto (55), 52, [104]), (52, .iload_n 2, 53, []), (53, .sipush (247), 56, []), (56, .if_icmp .ge (8), 59, [64]), (59, .iconst 0, 60, []), (60, .istore_n 3, 61, []), (61, .goto (43), 64, [104]), (64, .aload_n 0, 65, []), (65, .getfield 29, 68, []), (68, .aload_n 0, 69, []), (69, .getfield 57, 72, []), (72, .aload_n 0, 73, []), (73, .invokevirtual 103, 76, []), (76, .iastore, 77, []), (77, .aload_n 0, 78, []), (78, .getfield 29, 81, []), (81, .aload_n 0, 82, []), (82, .getfield 57, 85, []), (85, .iaload, 86, []), (86, .ifCond .lt (16), 89, [102]), (89, .aload_n 0, 90, []), (90, .iload_n 2, 91, []), (91, .aload_n 1, 92, []), (92, .invokevirtual 106, 95, []), (95, .ifCond .eq (7), 98, [102]), (98, .iconst 1, 99, []), (99, .goto (4), 102, [103]), (102, .iconst 0, 103, []), (103, .istore_n 3, 104, []), (104, .aload_n 0, 105, []), (105, .getfield 21, 108, []), (108, .aload_n 1, 109, []), (109, .invokevirtual 110, 112, []), (112, .aload_n 1, 113, []), (113, .aload_n 1, 114, []), (114, .invokevirtual 113, 117, []), (117, .putfield 117, 120, []), (120, .iload_n 3, 121, []), (121, .ireturn, 122, [])]
def cd_re_isSound : zm_C := [(0, .aload_n 0, 1, []), (1, .getfield 47, 4, []), (4, .ifCond .eq (8), 7, [12]), (7, .aload_n 0, 8, []), (8, .getfield 51, 11, []), (11, .ireturn, 12, []), (12, .aload_n 0, 13, []), (13, .iconst 1, 14, []), (14, .putfield 47, 17, []), (17, .aload_n 0, 18, []), (18, .iconst 0, 19, []), (19, .putfield 51, 22, []), (22, .aload_n 0, 23, []), (23, .invokevirtual 54, 26, []), (26, .iconst (-1), 27, []), (27, .istore_n 1, 28, []), (28, .aload_n 0, 29, []), (29, .getfield 57, 32, []), (32, .bipush (50), 34, []), (34, .if_icmp .ge (99), 37, [133]), (37, .aload_n 0, 38, []), (38, .getfield 61, 41, []), (41, .aload_n 0, 42, []), (42, .getfield 43, 45, []), (45, .getfield 64, 48, []), (48, .if_icmp .ge (85), 51, [133]), (51, .aload_n 0, 52, []), (52, .aload_n 0, 53, []), (53, .getfield 25, 56, []), (56, .aload_n 0, 57, []), (57, .getfield 57, 60, []), (60, .aaload, 61, []), (61, .invokevirtual 69, 64, []), (64, .ifCond .ne (5), 67, [69]), (67, .iconst 0, 68, []), (68, .ireturn, 69, []), (69, .iload_n 1, 70, []), (70, .aload_n 0, 71, []), (71, .getfield 29, 74, []), (74, .aload_n 0, 75, []), (75, .getfield 57, 78, []), (78, .iaload, 79, []), (79, .iconst 1, 80, []), (80, .iadd, 81, []), (81, .iadd, 82, []), (82, .istore_n 1, 83, []), (83, .aload_n 0, 84, []), (84, .getfield 39, 87, []), (87, .iload_n 1, 88, []), (88, .invokevirtual 73, 91, []), (91, .istore_n 2, 92, []), (92, .iload_n 2, 93, []), (93, .bipush (-2), 95, []), (95, .if_icmp .ne (5), 98, [100]), (98, .iconst 0, 99, []), (99, .ireturn, 100, []), (100, .aload_n 0, 101, []), (101, .getfield 29, 104, []), (104, .aload_n 0, 105, []), (105, .getfield 57, 108, []), (108, .iload_n 1, 109, []), (109, .iastore, 110, []), (110, .aload_n 0, 111, []), (111, .getfield 36, 114, []), (114, .iload_n 2, 115, []), (115, .aload_n 0, 116, []), (116, .getfield 57, 119, []), (119, .iastore, 120, []), (120, .aload_n 0, 121, []), (121, .dup, 122, []), (122, .getfield 57, 125, []), (125, .iconst 1, 126, []), (126, .iadd, 127, []), (127, .putfield 57, 130, []), (130, .goto (-102), 133, [28]), (133, .aload_n 0, 134, []), (134, .aload_n 0, 135, []), (135, .getfield 61, 138, []), (138, .aload_n 0, 139, []), (139, .getfield 43, 142, []), (142, .getfield 64, 145, []), (145, .if_icmp .ne (7), 148, [152]), (148, .iconst 1, 149, []), (149, .goto (4), 152, [153]), (152, .iconst 0, 153, []), (153, .putfield 51, 156, []), (156, .aload_n 0, 157, []), (157, .getfield 51, 160, []), (160, .ireturn, 161, [])]
def cd_fa_fits : zm_C := [(0, .aload_n 1, 1, []), (1, .getfield 37, 4, []), (4, .aload_n 2, 5, []), (5, .getfield 37, 8, []), (8, .if_icmp .ne (14), 11, [22]), (11, .aload_n 1, 12, []), (12, .getfield 43, 15, []), (15, .aload_n 2, 16, []), (16, .getfield 43, 19, []), (19, .if_icmp .eq (5), 22, [24]), (22, .iconst 0, 23, []), (23, .ireturn, 24, []), (24, .iconst 0, 25, []), (25, .istore_n 3, 26, []), (26, .iload_n 3, 27, []), (27, .bipush (10), 29, []), (29, .if_icmp .ge (30), 32, [59]), (32, .aload_n 0, 33, []), (33, .aload_n 1, 34, []), (34, .getfield 47, 37, []), (37, .iload_n 3, 38, []), (38, .iaload, 39, []), (39, .aload_n 2, 40, []), (40, .getfield 47, 43, []), (43, .iload_n 3, 44, []), (44, .iaload, 45, []), (45, .invokevirtual 50, 48, []), (48, .ifCond .ne (5), 51, [53]), (51, .iconst 0, 52, []), (52, .ireturn, 53, []), (53, .iinc 3 (1), 56, []), (56, .goto (-30), 59, [26]), (59, .iconst 0, 60, []), (60, .istore_n 3, 61, []), (61, .iload_n 3, 62, []), (62, .aload_n 1, 63, []), (63, .getfield 43, 66, []), (66, .if_icmp .ge (30), 69, [96]), (69, .aload_n 0, 70, []), (70, .aload_n 1, 71, []), (71, .getfield 54, 74, []), (74, .iload_n 3, 75, []), (75, .iaload, 76, []), (76, .aload_n 2, 77, []), (77, .getfield 54, 80, []), (80, .iload_n 3, 81, []), (81, .iaload, 82, []), (82, .invokevirtual 50, 85, []), (85, .ifCond .ne (5), 88, [90]), (88, .iconst 0, 89, []), (89, .ireturn, 90, []), (90, .iinc 3 (1), 93, []), (93, .goto (-32), 96, [61]), (96, .iconst 1, 97, []), (97, .ireturn, 98, [])]
def cd_ck_begins : zm_C := [(0, .aload_n 0, 1, []), (1, .getfield 33, 4, []), (4, .getfield 71, 7, []), (7, .iload_n 1, 8, []), (8, .iaload, 9, []), (9, .istore_n 3, 10, []), (10, .iload_n 3, 11, []), (11, .bipush (-2), 13, []), (13, .if_icmp .ne (5), 16, [18]), (16, .iload_n 2, 17, []), (17, .ireturn, 18, []), (18, .iload_n 2, 19, []), (19, .ifCond .eq (28), 22, [47]), (22, .aload_n 0, 23, []), (23, .getfield 21, 26, []), (26, .aload_n 0, 27, []), (27, .getfield 12, 30, []), (30, .aload_n 0, 31, []), (31, .getfield 33, 34, []), (34, .getfield 76, 37, []), (37, .iload_n 3, 38, []), (38, .aaload, 39, []), (39, .invokevirtual 80, 42, []), (42, .ifCond .ne (5), 45, [47]), (45, .iconst 0, 46, []), (46, .ireturn, 47, []), (47, .aload_n 0, 48, []), (48, .getfield 12, 51, []), (51, .aload_n 0, 52, []), (52, .getfield 33, 55, []), (55, .getfield 76, 58, []), (58, .iload_n 3, 59, []), (59, .aaload, 60, []), (60, .invokevirtual 86, 63, []), (63, .iconst 1, 64, []), (64, .ireturn, 65, [])]
def cd_ck_fitsAt : zm_C := [(0, .aload_n 0, 1, []), (1, .getfield 33, 4, []), (4, .getfield 71, 7, []), (7, .iload_n 1, 8, []), (8, .iaload, 9, []), (9, .istore_n 3, 10, []), (10, .iload_n 3, 11, []), (11, .bipush (-2), 13, []), (13, .if_icmp .eq (27), 16, [40]), (16, .aload_n 0, 17, []), (17, .getfield 21, 20, []), (20, .aload_n 2, 21, []), (21, .aload_n 0, 22, []), (22, .getfield 33, 25, []), (25, .getfield 76, 28, []), (28, .iload_n 3, 29, []), (29, .aaload, 30, []), (30, .invokevirtual 80, 33, []), (33, .ifCond .eq (7), 36, [40]), (36, .iconst 1, 37, []), (37, .goto (4), 40, [41]), (40, .iconst 0, 41, []), (41, .ireturn, 42, [])]
def cd_ck_handlersFit : zm_C := [(0, .iconst 0, 1, []), (1, .istore_n 2, 2, []), (2, .iload_n 2, 3, []), (3, .aload_n 0, 4, []), (4, .getfield 25, 7, []), (7, .getfield 89, 10, []), (10, .if_icmp .ge (63), 13, [73]), (13, .aload_n 0, 14, []), (14, .getfield 25, 17, []), (17, .iload_n 1, 18, []), (18, .iload_n 2, 19, []), (19, .invokevirtual 92, 22, []), (22, .ifCond .eq (45), 25, [67]), (25, .aload_n 0, 26, []), (26, .getfield 18, 29, []), (29, .aload_n 0, 30, []), (30, .getfield 12, 33, []), (33, .aload_n 0, 34, []), (34, .getfield 25, 37, []), (37, .getfield 96, 40, []), (40, .iload_n 2, 41, []), (41, .iaload, 42, []), (42, .invokevirtual 99, 45, []), (45, .aload_n 0, 46, []), (46, .aload_n 0, 47, []), (47, .getfield 25, 50, []), (50, .getfield 103, 53, []), (53, .iload_n 2, 54, []), (54, .iaload, 55, []), (55, .aload_n 0, 56, []), (56, .getfield 18, 59, []), (59, .invokevirtual 106, 62, []), (62, .ifCond .ne (5), 65, [67]), (65, .iconst 0, 66, []), (66, .ireturn, 67, []), (67, .iinc 2 (1), 70, []), (70, .goto (-68), 73, [2]), (73, .iconst 1, 74, []), (74, .ireturn, 75, [])]
def cd_ck_jumpFits : zm_C := [(0, .aload_n 0, 1, []), (1, .getfield 25, 4, []), (4, .getfield 64, 7, []), (7, .iload_n 1, 8, []), (8, .iaload, 9, []), (9, .invokestatic 109, 12, []), (12, .ifCond .eq (23), 15, [35]), (15, .aload_n 0, 16, []), (16, .aload_n 0, 17, []), (17, .getfield 25, 20, []), (20, .getfield 112, 23, []), (23, .iload_n 1, 24, []), (24, .iaload, 25, []), (25, .aload_n 0, 26, []), (26, .getfield 12, 29, []), (29, .invokevirtual 106, 32, []), (32, .ifCond .eq (7), 35, [39]), (35, .iconst 1, 36, []), (36, .goto (4), 39, [40]), (39, .iconst 0, 40, []), (40, .ireturn, 41, [])]
def cd_ck_firstBad : zm_C := [(0, .aload_n 0, 1, []), (1, .getfield 25, 4, []), (4, .aload_n 0, 5, []), (5, .getfield 12, 8, []), (8, .invokevirtual 37, 11, []), (11, .iconst 1, 12, []), (12, .istore_n 1, 13, []), (13, .iconst 0, 14, []), (14, .istore_n 2, 15, []), (15, .iload_n 2, 16, []), (16, .aload_n 0, 17, []), (17, .getfield 25, 20, []), (20, .getfield 43, 23, []), (23, .if_icmp .ge (72), 26, [95]), (26, .aload_n 0, 27, []), (27, .iload_n 2, 28, []), (28, .iload_n 1, 29, []), (29, .invokevirtual 47, 32, []), (32, .ifCond .eq (34), 35, [66]), (35, .aload_n 0, 36, []), (36, .iload_n 2, 37, []), (37, .invokevirtual 51, 40, []), (40, .ifCond .eq (26), 43, [66]), (43, .aload_n 0, 44, []), (44, .getfield 29, 47, []), (47, .iload_n 2, 48, []), (48, .aload_n 0, 49, []), (49, .getfield 12, 52, []), (52, .invokevirtual 55, 55, []), (55, .ifCond .eq (11), 58, [66]), (58, .aload_n 0, 59, []), (59, .iload_n 2, 60, []), (60, .invokevirtual 61, 63, []), (63, .ifCond .ne (5), 66, [68]), (66, .iload_n 2, 67, []), (67, .ireturn, 68, []), (68, .aload_n 0, 69, []), (69, .getfield 25, 72, []), (72, .getfield 64, 75, []), (75, .iload_n 2, 76, []), (76, .iaload, 77, []), (77, .invokestatic 68, 80, []), (80, .ifCond .ne (7), 83, [87]), (83, .iconst 1, 84, []), (84, .goto (4), 87, [88]), (87, .iconst 0, 88, []), (88, .istore_n 1, 89, []), (89, .iinc 2 (1), 92, []), (92, .goto (-77), 95, [15]), (95, .iload_n 1, 96, []), (96, .ifCond .eq (13), 99, [109]), (99, .aload_n 0, 100, []), (100, .getfield 25, 103, []), (103, .getfield 43, 106, []), (106, .goto (5), 109, [111]), (109, .bipush (-2), 111, []), (111, .ireturn, 112, [])]
def cd_mf_check : zm_C := [(0, .aload_n 0, 1, []), (1, .getfield 19, 4, []), (4, .getfield 104, 7, []), (7, .ifCond .ne (6), 10, [13]), (10, .bipush (-4), 12, []), (12, .ireturn, 13, []), (13, .aload_n 0, 14, []), (14, .getfield 58, 17, []), (17, .invokevirtual 153, 20, []), (20, .ifCond .eq (13), 23, [33]), (23, .aload_n 0, 24, []), (24, .getfield 67, 27, []), (27, .invokevirtual 156, 30, []), (30, .goto (5), 33, [35]), (33, .bipush (-5), 35, []), (35, .ireturn, 36, [])]
def cd_mf_map : zm_C := [(0, .iload_n 1, 1, []), (1, .iconst (-1), 2, []), (2, .if_icmp .ne (11), 5, [13]), (5, .aload_n 0, 6, []), (6, .getfield 26, 9, []), (9, .getfield 131, 12, []), (12, .ireturn, 13, []), (13, .iload_n 1, 14, []), (14, .ifCond .lt (26), 17, [40]), (17, .iload_n 1, 18, []), (18, .aload_n 0, 19, []), (19, .getfield 26, 22, []), (22, .getfield 131, 25, []), (25, .if_icmp .ge (15), 28, [40]), (28, .aload_n 0, 29, []), (29, .getfield 26, 32, []), (32, .getfield 159, 35, []), (35, .iload_n 1, 36, []), (36, .iaload, 37, []), (37, .goto (5), 40, [42]), (40, .bipush (-2), 42, []), (42, .ireturn, 43, [])]
def cd_jm_max : zm_C := [(0, .iload_n 0, 1, []), (1, .iload_n 1, 2, []), (2, .if_icmp .lt (7), 5, [9]), (5, .iload_n 0, 6, []), (6, .goto (4), 9, [10]), (9, .iload_n 1, 10, []), (10, .ireturn, 11, [])]
def cd_mf_patch : zm_C := [(0, .iload_n 1, 1, []), (1, .ifCond .lt (32), 4, [33]), (4, .iload_n 1, 5, []), (5, .aload_n 0, 6, []), (6, .getfield 26, 9, []), (9, .getfield 131, 12, []), (12, .if_icmp .gt (21), 15, [33]), (15, .iload_n 1, 16, []), (16, .sipush (400), 19, []), (19, .if_icmp .ge (14), 22, [33]), (22, .iload_n 2, 23, []), (23, .ifCond .lt (10), 26, [33]), (26, .iload_n 2, 27, []), (27, .sipush (255), 30, []), (30, .if_icmp .le (5), 33, [35]), (33, .iconst 0, 34, []), (34, .ireturn, 35, []), (35, .aload_n 0, 36, []), (36, .getfield 26, 39, []), (39, .getfield 159, 42, []), (42, .iload_n 1, 43, []), (43, .iload_n 2, 44, []), (44, .iastore, 45, []), (45, .aload_n 0, 46, []), (46, .getfield 26, 49, []), (49, .aload_n 0, 50, []), (50, .getfield 26, 53, []), (53, .getfield 131, 56, []), (56, .iload_n 1, 57, []), (57, .iconst 1, 58, []), (58, .iadd, 59, []), (59, .invokestatic 162, 62, []), (62, .putfield 131, 65, []), (65, .aload_n 0, 66, []), (66, .getfield 58, 69, []), (69, .iconst 0, 70, []), (70, .putfield 136, 73, []), (73, .iconst 1, 74, []), (74, .ireturn, 75, [])]
def cd_mf_cut : zm_C := [(0, .iload_n 1, 1, []), (1, .ifCond .lt (14), 4, [15]), (4, .iload_n 1, 5, []), (5, .aload_n 0, 6, []), (6, .getfield 26, 9, []), (9, .getfield 131, 12, []), (12, .if_icmp .le (5), 15, [17]), (15, .iconst (-1), 16, []), (16, .ireturn, 17, []), (17, .aload_n 0, 18, []), (18, .getfield 26, 21, []), (21, .getfield 131, 24, []), (24, .iload_n 1, 25, []), (25, .isub, 26, []), (26, .istore_n 2, 27, []), (27, .aload_n 0, 28, []), (28, .getfield 26, 31, []), (31, .iload_n 1, 32, []), (32, .putfield 131, 35, []), (35, .aload_n 0, 36, []), (36, .getfield 58, 39, []), (39, .iconst 0, 40, []), (40, .putfield 136, 43, []), (43, .iload_n 2, 44, []), (44, .ireturn, 45, [])]
def cd_mf_row : zm_C := [(0, .iload_n 2, 1, []), (1, .bipush (22), 3, []), (3, .invokestatic 140, 6, []), (6, .ifCond .ne (5), 9, [11]), (9, .iconst (-1), 10, []), (10, .ireturn, 11, []), (11, .iload_n 1, 12, []), (12, .ifCond .lt (24), 15, [36]), (15, .aload_n 0, 16, []), (16, .getfield 58, 19, []), (19, .invokevirtual 153, 22, []), (22, .ifCond .eq (14), 25, [36]), (25, .iload_n 1, 26, []), (26, .aload_n 0, 27, []), (27, .getfield 58, 30, []), (30, .getfield 168, 33, []), (33, .if_icmp .lt (6), 36, [39]), (36, .bipush (-2), 38, []), (38, .ireturn, 39, []), (39, .iload_n 2, 40, []), (40, .bipush (21), 42, []), (42, .if_icmp .ne (13), 45, [55]), (45, .aload_n 0, 46, []), (46, .getfield 58, 49, []), (49, .getfield 171, 52, []), (52, .iload_n 1, 53, []), (53, .iaload, 54, []), (54, .ireturn, 55, []), (55, .iload_n 2, 56, []), (56, .bipush (22), 58, []), (58, .if_icmp .ne (15), 61, [73]), (61, .aload_n 0, 62, []), (62, .getfield 58, 65, []), (65, .getfield 174, 68, []), (68, .iload_n 1, 69, []), (69, .iaload, 70, []), (70, .goto (16), 73, [86]), (73, .aload_n 0, 74, []), (74, .getfield 58, 77, []), (77, .getfield 177, 80, []), (80, .iload_n 1, 81, []), (81, .aaload, 82, []), (82, .iload_n 2, 83, []), (83, .invokevirtual 148, 86, []), (86, .ireturn, 87, [])]
def cd_mf_code : zm_C := [(0, .iload_n 2, 1, []), (1, .ifCond .lt (8), 4, [9]), (4, .iload_n 2, 5, []), (5, .iconst 3, 6, []), (6, .if_icmp .le (5), 9, [11]), (9, .iconst (-1), 10, []), (10, .ireturn, 11, []), (11, .iload_n 1, 12, []), (12, .ifCond .lt (14), 15, [26]), (15, .iload_n 1, 16, []), (16, .aload_n 0, 17, []), (17, .getfield 19, 20, []), (20, .getfield 104, 23, []), (23, .if_icmp .lt (6), 26, [29]), (26, .bipush (-2), 28, []), (28, .ireturn, 29, []), (29, .iload_n 2, 30, []), (30, .tableswitch (56) 0 2 #[26, 36, 46], 56, [86, 56, 66, 76]), (56, .aload_n 0, 57, []), (57, .getfield 19, 60, []), (60, .getfield 178, 63, []), (63, .iload_n 1, 64, []), (64, .iaload, 65, []), (65, .ireturn, 66, []), (66, .aload_n 0, 67, []), (67, .getfield 19, 70, []), (70, .getfield 181, 73, []), (73, .iload_n 1, 74, []), (74, .iaload, 75, []), (75, .ireturn, 76, []), (76, .aload_n 0, 77, []), (77, .getfield 19, 80, []), (80, .getfield 184, 83, []), (83, .iload_n 1, 84, []), (84, .iaload, 85, []), (85, .ireturn, 86, []), (86, .aload_n 0, 87, []), (87, .getfield 19, 90, []), (90, .getfield 187, 93, []), (93, .iload_n 1, 94, []), (94, .iaload, 95, []), (95, .ireturn, 96, [])]
def cd_mf_count : zm_C := [(0, .iload_n 1, 1, []), (1, .tableswitch (98) 0 4 #[35, 43, 51, 59, 75], 36, [99, 36, 44, 52, 60, 76]), (36, .aload_n 0, 37, []), (37, .getfield 19, 40, []), (40, .getfield 104, 43, []), (43, .ireturn, 44, []), (44, .aload_n 0, 45, []), (45, .getfield 19, 48, []), (48, .getfield 114, 51, []), (51, .ireturn, 52, []), (52, .aload_n 0, 53, []), (53, .getfield 19, 56, []), (56, .getfield 92, 59, []), (59, .ireturn, 60, []), (60, .aload_n 0, 61, []), (61, .getfield 19, 64, []), (64, .getfield 187, 67, []), (67, .aload_n 0, 68, []), (68, .getfield 19, 71, []), (71, .getfield 104, 74, []), (74, .iaload, 75, []), (75, .ireturn, 76, []), (76, .aload_n 0, 77, []), (77, .getfield 58, 80, []), (80, .invokevirtual 153, 83, []), (83, .ifCond .eq (13), 86, [96]), (86, .aload_n 0, 87, []), (87, .getfield 58, 90, []), (90, .getfield 168, 93, []), (93, .goto (5), 96, [98]), (96, .bipush (-5), 98, []), (98, .ireturn, 99, []), (99, .iconst (-1), 100, []), (100, .ireturn, 101, [])]
def cd_mo_in : zm_C := [(0, .iload_n 0, 1, []), (1, .iload_n 1, 2, []), (2, .if_icmp .lt (12), 5, [14]), (5, .iload_n 0, 6, []), (6, .iload_n 2, 7, []), (7, .if_icmp .gt (7), 10, [14]), (10, .iconst 1, 11, []), (11, .goto (4), 14, [15]), (14, .iconst 0, 15, []), (15, .ireturn, 16, [])]
def cd_mo_type : zm_C := [(0, .iload_n 1, 1, []), (1, .iconst 1, 2, []), (2, .bipush (7), 4, []), (4, .invokestatic 97, 7, []), (7, .ifCond .eq (14), 10, [21]), (10, .iload_n 2, 11, []), (11, .iconst 0, 12, []), (12, .iload_n 1, 13, []), (13, .iconst 1, 14, []), (14, .isub, 15, []), (15, .invokestatic 97, 18, []), (18, .ifCond .ne (5), 21, [23]), (21, .iconst 0, 22, []), (22, .ireturn, 23, []), (23, .aload_n 0, 24, []), (24, .getfield 7, 27, []), (27, .iload_n 1, 28, []), (28, .iload_n 2, 29, []), (29, .iastore, 30, []), (30, .aload_n 0, 31, []), (31, .getfield 13, 34, []), (34, .iload_n 1, 35, []), (35, .iload_n 3, 36, []), (36, .bastore, 37, []), (37, .iconst 1, 38, []), (38, .ireturn, 39, [])]
def cd_mo_method : zm_C := [(0, .iload_n 1, 1, []), (1, .iconst 0, 2, []), (2, .bipush (7), 4, []), (4, .invokestatic 97, 7, []), (7, .ifCond .eq (12), 10, [19]), (10, .iload_n 2, 11, []), (11, .iconst 0, 12, []), (12, .iconst 2, 13, []), (13, .invokestatic 97, 16, []), (16, .ifCond .ne (5), 19, [21]), (19, .iconst 0, 20, []), (20, .ireturn, 21, []), (21, .aload_n 0, 22, []), (22, .iload_n 1, 23, []), (23, .putfield 101, 26, []), (26, .aload_n 0, 27, []), (27, .iload_n 2, 28, []), (28, .putfield 105, 31, []), (31, .aload_n 0, 32, []), (32, .iload_n 3, 33, []), (33, .ifCond .eq (12), 36, [45]), (36, .iload_n 2, 37, []), (37, .iconst 2, 38, []), (38, .if_icmp .ge (7), 41, [45]), (41, .iconst 1, 42, []), (42, .goto (4), 45, [46]), (45, .iconst 0, 46, []), (46, .putfield 108, 49, []), (49, .aload_n 0, 50, []), (50, .iconst 0, 51, []), (51, .putfield 112, 54, []), (54, .aload_n 0, 55, []), (55, .iconst 0, 56, []), (56, .putfield 115, 59, []), (59, .aload_n 0, 60, []), (60, .iconst 0, 61, []), (61, .putfield 118, 64, []), (64, .iconst 1, 65, []), (65, .ireturn, 66, [])]
def cd_mo_kind : zm_C := [(0, .iload_n 0, 1, []), (1, .bipush (15), 3, []), (3, .iand, 4, []), (4, .ireturn, 5, [])]
def cd_mo_argument : zm_C := [(0, .iload_n 1, 1, []), (1, .iconst 1, 2, []), (2, .iconst 4, 3, []), (3, .invokestatic 97, 6, []), (6, .ifCond .ne (26), 9, [32]), (9, .iload_n 1, 10, []), (10, .invokestatic 89, 13, []), (13, .bipush (7), 15, []), (15, .if_icmp .ne (15), 18, [30]), (18, .iload_n 1, 19, []), (19, .iconst 4, 20, []), (20, .ishr, 21, []), (21, .iconst 0, 22, []), (22, .bipush (7), 24, []), (24, .invokestatic 97, 27, []), (27, .ifCond .ne (5), 30, [32]), (30, .iconst (-1), 31, []), (31, .ireturn, 32, []), (32, .aload_n 0, 33, []), (33, .getfield 112, 36, []), (36, .iconst 4, 37, []), (37, .if_icmp .ne (6), 40, [43]), (40, .bipush (-3), 42, []), (42, .ireturn, 43, []), (43, .aload_n 0, 44, []), (44, .getfield 17, 47, []), (47, .aload_n 0, 48, []), (48, .getfield 112, 51, []), (51, .iload_n 1, 52, []), (52, .iastore, 53, []), (53, .aload_n 0, 54, []), (54, .dup, 55, []), (55, .getfield 112, 58, []), (58, .iconst 1, 59, []), (59, .iadd, 60, []), (60, .putfield 112, 63, []), (63, .aload_n 0, 64, []), (64, .getfield 112, 67, []), (67, .ireturn, 68, [])]
def cd_mo_isWideLocal : zm_C := [(0, .iload_n 0, 1, []), (1, .bipush (22), 3, []), (3, .if_icmp .eq (21), 6, [24]), (6, .iload_n 0, 7, []), (7, .bipush (24), 9, []), (9, .if_icmp .eq (15), 12, [24]), (12, .iload_n 0, 13, []), (13, .bipush (27), 15, []), (15, .if_icmp .eq (9), 18, [24]), (18, .iload_n 0, 19, []), (19, .bipush (29), 21, []), (21, .if_icmp .ne (7), 24, [28]), (24, .iconst 1, 25, []), (25, .goto (4), 28, [29]), (28, .iconst 0, 29, []), (29, .ireturn, 30, [])]
def cd_mo_isGood : zm_C := [(0, .iload_n 0, 1, []), (1, .iconst 0, 2, []), (2, .bipush (39), 4, []), (4, .invokestatic 97, 7, []), (7, .ifCond .ne (5), 10, [12]), (10, .iconst 0, 11, []), (11, .ireturn, 12, []), (12, .iload_n 0, 13, []), (13, .bipush (21), 15, []), (15, .bipush (30), 17, []), (17, .invokestatic 97, 20, []), (20, .ifCond .eq (23), 23, [43]), (23, .iload_n 1, 24, []), (24, .iconst 0, 25, []), (25, .iload_n 0, 26, []), (26, .invokestatic 121, 29, []), (29, .ifCond .eq (8), 32, [37]), (32, .bipush (8), 34, []), (34, .goto (5), 37, [39]), (37, .bipush (9), 39, []), (39, .invokestatic 97, 42, []), (42, .ireturn, 43, []), (43, .iload_n 0, 44, []), (44, .bipush (31), 46, []), (46, .bipush (34), 48, []), (48, .invokestatic 97, 51, []), (51, .ifCond .eq (11), 54, [62]), (54, .iload_n 2, 55, []), (55, .iconst 0, 56, []), (56, .bipush (49), 58, []), (58, .invokestatic 97, 61, []), (61, .ireturn, 62, []), (62, .iload_n 0, 63, []), (63, .bipush (35), 65, []), (65, .if_icmp .lt (29), 68, [94]), (68, .iload_n 1, 69, []), (69, .iconst 0, 70, []), (70, .bipush (7), 72, []), (72, .invokestatic 97, 75, []), (75, .ifCond .eq (23), 78, [98]), (78, .iload_n 0, 79, []), (79, .bipush (38), 81, []), (81, .if_icmp .ne (13), 84, [94]), (84, .iload_n 2, 85, []), (85, .iconst 0, 86, []), (86, .bipush (7), 88, []), (88, .invokestatic 97, 91, []), (91, .ifCond .eq (7), 94, [98]), (94, .iconst 1, 95, []), (95, .goto (4), 98, [99]), (98, .iconst 0, 99, []), (99, .ireturn, 100, [])]
def cd_mo_set : zm_C := [(0, .aload_n 0, 1, []), (1, .getfield 20, 4, []), (4, .iload_n 1, 5, []), (5, .iload_n 2, 6, []), (6, .iastore, 7, []), (7, .aload_n 0, 8, []), (8, .getfield 23, 11, []), (11, .iload_n 1, 12, []), (12, .iload_n 2, 13, []), (13, .bipush (21), 15, []), (15, .bipush (30), 17, []), (17, .invokestatic 97, 20, []), (20, .ifCond .ne (9), 23, [29]), (23, .iload_n 2, 24, []), (24, .bipush (34), 26, []), (26, .if_icmp .le (7), 29, [33]), (29, .iload_n 3, 30, []), (30, .goto (4), 33, [34]), (33, .iconst 0, 34, []), (34, .iastore, 35, []), (35, .aload_n 0, 36, []), (36, .getfield 26, 39, []), (39, .iload_n 1, 40, []), (40, .iload_n 2, 41, []), (41, .bipush (31), 43, []), (43, .bipush (34), 45, []), (45, .invokestatic 97, 48, []), (48, .ifCond .ne (9), 51, [57]), (51, .iload_n 2, 52, []), (52, .bipush (38), 54, []), (54, .if_icmp .ne (8), 57, [62]), (57, .iload 4, 59, []), (59, .goto (4), 62, [63]), (62, .iconst 0, 63, []), (63, .iastore, 64, []), (64, .return_, 65, [])]
def cd_mo_add : zm_C := [(0, .iload_n 1, 1, []), (1, .iload_n 2, 2, []), (2, .iload_n 3, 3, []), (3, .invokestatic 125, 6, []), (6, .istore 4, 8, []), (8, .iload 4, 10, []), (10, .ifCond .ne (5), 13, [15]), (13, .iconst (-1), 14, []), (14, .ireturn, 15, []), (15, .aload_n 0, 16, []), (16, .getfield 115, 19, []), (19, .bipush (50), 21, []), (21, .if_icmp .ne (6), 24, [27]), (24, .bipush (-3), 26, []), (26, .ireturn, 27, []), (27, .aload_n 0, 28, []), (28, .aload_n 0, 29, []), (29, .getfield 115, 32, []), (32, .iload_n 1, 33, []), (33, .iload_n 2, 34, []), (34, .iload_n 3, 35, []), (35, .invokevirtual 128, 38, []), (38, .aload_n 0, 39, []), (39, .dup, 40, []), (40, .getfield 115, 43, []), (43, .iconst 1, 44, []), (44, .iadd, 45, []), (45, .putfield 115, 48, []), (48, .aload_n 0, 49, []), (49, .getfield 115, 52, []), (52, .ireturn, 53, [])]
def cd_mo_change : zm_C := [(0, .iload_n 2, 1, []), (1, .iload_n 3, 2, []), (2, .iload 4, 4, []), (4, .invokestatic 125, 7, []), (7, .istore 5, 9, []), (9, .iload 5, 11, []), (11, .ifCond .eq (17), 14, [28]), (14, .iload_n 1, 15, []), (15, .iconst 0, 16, []), (16, .aload_n 0, 17, []), (17, .getfield 115, 20, []), (20, .iconst 1, 21, []), (21, .isub, 22, []), (22, .invokestatic 97, 25, []), (25, .ifCond .ne (5), 28, [30]), (28, .iconst 0, 29, []), (29, .ireturn, 30, []), (30, .aload_n 0, 31, []), (31, .iload_n 1, 32, []), (32, .iload_n 2, 33, []), (33, .iload_n 3, 34, []), (34, .iload 4, 36, []), (36, .invokevirtual 128, 39, []), (39, .iconst 1, 40, []), (40, .ireturn, 41, [])]
def cd_mo_handle : zm_C := [(0, .iload_n 1, 1, []), (1, .iconst 0, 2, []), (2, .bipush (49), 4, []), (4, .invokestatic 97, 7, []), (7, .ifCond .eq (36), 10, [43]), (10, .iload_n 3, 11, []), (11, .iconst 0, 12, []), (12, .bipush (49), 14, []), (14, .invokestatic 97, 17, []), (17, .ifCond .eq (26), 20, [43]), (20, .iload_n 2, 21, []), (21, .iload_n 1, 22, []), (22, .iconst 1, 23, []), (23, .iadd, 24, []), (24, .bipush (50), 26, []), (26, .invokestatic 97, 29, []), (29, .ifCond .eq (14), 32, [43]), (32, .iload 4, 34, []), (34, .iconst 0, 35, []), (35, .bipush (7), 37, []), (37, .invokestatic 97, 40, []), (40, .ifCond .ne (5), 43, [45]), (43, .iconst (-1), 44, []), (44, .ireturn, 45, []), (45, .aload_n 0, 46, []), (46, .getfield 118, 49, []), (49, .iconst 4, 50, []), (50, .if_icmp .ne (6), 53, [56]), (53, .bipush (-3), 55, []), (55, .ireturn, 56, []), (56, .aload_n 0, 57, []), (57, .getfield 29, 60, []), (60, .aload_n 0, 61, []), (61, .getfield 118, 64, []), (64, .iload_n 1, 65, []), (65, .iastore, 66, []), (66, .aload_n 0, 67, []), (67, .getfield 32, 70, []), (70, .aload_n 0, 71, []), (71, .getfield 118, 74, []), (74, .iload_n 2, 75, []), (75, .iastore, 76, []), (76, .aload_n 0, 77, []), (77, .getfield 35, 80, []), (80, .aload_n 0, 81, []), (81, .getfield 118, 84, []), (84, .iload_n 3, 85, []), (85, .iastore, 86, []), (86, .aload_n 0, 87, []), (87, .getfield 38, 90, []), (90, .aload_n 0, 91, []), (91, .getfield 118, 94, []), (94, .iload 4, 96, []), (96, .iastore, 97, []), (97, .aload_n 0, 98, []), (98, .dup, 99, []), (99, .getfield 118, 102, []), (102, .iconst 1, 103, []), (103, .iadd, 104, []), (104, .putfield 118, 107, []), (107, .aload_n 0, 108, []), (108, .getfield 118, 111, []), (111, .ireturn, 112, [])]
def cd_mo_isWide : zm_C := [(0, .iload_n 0, 1, []), (1, .iconst 3, 2, []), (2, .if_icmp .eq (8), 5, [10]), (5, .iload_n 0, 6, []), (6, .iconst 4, 7, []), (7, .if_icmp .ne (7), 10, [14]), (10, .iconst 1, 11, []), (11, .goto (4), 14, [15]), (14, .iconst 0, 15, []), (15, .ireturn, 16, [])]
def cd_mo_first : zm_C := [(0, .iconst 0, 1, []), (1, .istore_n 1, 2, []), (2, .iconst 0, 3, []), (3, .istore_n 2, 4, []), (4, .iload_n 2, 5, []), (5, .bipush (10), 7, []), (7, .if_icmp .ge (16), 10, [23]), (10, .aload_n 0, 11, []), (11, .getfield 44, 14, []), (14, .iload_n 2, 15, []), (15, .iconst 0, 16, []), (16, .iastore, 17, []), (17, .iinc 2 (1), 20, []), (20, .goto (-16), 23, [4]), (23, .aload_n 0, 24, []), (24, .getfield 105, 27, []), (27, .ifCond .le (34), 30, [61]), (30, .aload_n 0, 31, []), (31, .getfield 44, 34, []), (34, .iconst 0, 35, []), (35, .aload_n 0, 36, []), (36, .getfield 105, 39, []), (39, .iconst 2, 40, []), (40, .if_icmp .ne (8), 43, [48]), (43, .bipush (6), 45, []), (45, .goto (13), 48, [58]), (48, .bipush (16), 50, []), (50, .aload_n 0, 51, []), (51, .getfield 101, 54, []), (54, .imul, 55, []), (55, .bipush (7), 57, []), (57, .iadd, 58, []), (58, .iastore, 59, []), (59, .iconst 1, 60, []), (60, .istore_n 1, 61, []), (61, .iconst 0, 62, []), (62, .istore_n 2, 63, []), (63, .iload_n 2, 64, []), (64, .aload_n 0, 65, []), (65, .getfield 112, 68, []), (68, .if_icmp .ge (41), 71, [109]), (71, .aload_n 0, 72, []), (72, .getfield 44, 75, []), (75, .iload_n 1, 76, []), (76, .aload_n 0, 77, []), (77, .getfield 17, 80, []), (80, .iload_n 2, 81, []), (81, .iaload, 82, []), (82, .iastore, 83, []), (83, .iload_n 1, 84, []), (84, .aload_n 0, 85, []), (85, .getfield 17, 88, []), (88, .iload_n 2, 89, []), (89, .iaload, 90, []), (90, .invokestatic 135, 93, []), (93, .ifCond .eq (7), 96, [100]), (96, .iconst 2, 97, []), (97, .goto (4), 100, [101]), (100, .iconst 1, 101, []), (101, .iadd, 102, []), (102, .istore_n 1, 103, []), (103, .iinc 2 (1), 106, []), (106, .goto (-43), 109, [63]), (109, .aload_n 0, 110, []), (110, .iconst 0, 111, []), (111, .putfield 138, 114, []), (114, .aload_n 0, 115, []), (115, .aload_n 0, 116, []), (116, .getfield 105, 119, []), (119, .iconst 2, 120, []), (120, .if_icmp .ne (7), 123, [127]), (123, .iconst 1, 124, []), (124, .goto (4), 127, [128]), (127, .iconst 0, 128, []), (128, .putfield 141, 131, []), (131, .return_, 132, [])]
def cd_mo_isInLine : zm_C := [(0, .iload_n 2, 1, []), (1, .istore_n 3, 2, []), (2, .iload_n 3, 3, []), (3, .ifCond .le (18), 6, [21]), (6, .iload_n 3, 7, []), (7, .iload_n 1, 8, []), (8, .if_icmp .eq (13), 11, [21]), (11, .aload_n 0, 12, []), (12, .getfield 7, 15, []), (15, .iload_n 3, 16, []), (16, .iaload, 17, []), (17, .istore_n 3, 18, []), (18, .goto (-16), 21, [2]), (21, .iload_n 3, 22, []), (22, .iload_n 1, 23, []), (23, .if_icmp .ne (7), 26, [30]), (26, .iconst 1, 27, []), (27, .goto (4), 30, [31]), (30, .iconst 0, 31, []), (31, .ireturn, 32, [])]
def cd_mo_join : zm_C := [(0, .iload_n 1, 1, []), (1, .iload_n 2, 2, []), (2, .if_icmp .ne (5), 5, [7]), (5, .iload_n 1, 6, []), (6, .ireturn, 7, []), (7, .iload_n 1, 8, []), (8, .invokestatic 89, 11, []), (11, .bipush (7), 13, []), (13, .if_icmp .ne (7), 16, [20]), (16, .iconst 1, 17, []), (17, .goto (4), 20, [21]), (20, .iconst 0, 21, []), (21, .istore_n 3, 22, []), (22, .iload_n 2, 23, []), (23, .invokestatic 89, 26, []), (26, .bipush (7), 28, []), (28, .if_icmp .ne (7), 31, [35]), (31, .iconst 1, 32, []), (32, .goto (4), 35, [36]), (35, .iconst 0, 36, []), (36, .istore 4, 38, []), (38, .iload_n 3, 39, []), (39, .ifCond .eq (10), 42, [49]), (42, .iload_n 2, 43, []), (43, .iconst 5, 44, []), (44, .if_icmp .ne (5), 47, [49]), (47, .iload_n 1, 48, []), (48, .ireturn, 49, []), (49, .iload 4, 51, []), (51, .ifCond .eq (10), 54, [61]), (54, .iload_n 1, 55, []), (55, .iconst 5, 56, []), (56, .if_icmp .ne (5), 59, [61]), (59, .iload_n 2, 60, []), (60, .ireturn, 61, []), (61, .iload_n 3, 62, []), (62, .ifCond .eq (8), 65, [70]), (65, .iload 4, 67, []), (67, .ifCond .ne (5), 70, [72]), (70, .iconst 0, 71, []), (71, .ireturn, 72, []), (72, .iload_n 1, 73, []), (73, .iconst 4, 74, []), (74, .ishr, 75, []), (75, .istore 5, 77, []), (77, .aload_n 0, 78, []), (78, .iload 5, 80, []), (80, .iload_n 2, 81, []), (81, .iconst 4, 82, []), (82, .ishr, 83, []), (83, .invokevirtual 93, 86, []), (86, .istore 6, 88, []), (88, .iload 6, 90, []), (90, .ifCond .ne (26), 93, [116]), (93, .aload_n 0, 94, []), (94, .getfield 7, 97, []), (97, .iload 5, 99, []), (99, .iaload, 100, []), (100, .istore 5, 102, []), (102, .aload_n 0, 103, []), (103, .iload 5, 105, []), (105, .iload_n 2, 106, []), (106, .iconst 4, 107, []), (107, .ishr, 108, []), (108, .invokevirtual 93, 111, []), (111, .istore 6, 113, []), (113, .goto (-25), 116, [88]), (116, .bipush (16), 118, []), (118, .iload 5, 120, []), (120, .imul, 121, []), (121, .bipush (7), 123, []), (123, .iadd, 124, []), (124, .ireturn, 125, [])]
def cd_mo_arrive : zm_C := [(0, .iload_n 1, 1, []), (1, .aload_n 0, 2, []), (2, .getfield 115, 5, []), (5, .if_icmp .ge (25), 8, [30]), (8, .aload_n 0, 9, []), (9, .getfield 50, 12, []), (12, .iload_n 1, 13, []), (13, .baload, 14, []), (14, .ifCond .eq (22), 17, [36]), (17, .aload_n 0, 18, []), (18, .getfield 56, 21, []), (21, .iload_n 1, 22, []), (22, .iaload, 23, []), (23, .aload_n 0, 24, []), (24, .getfield 138, 27, []), (27, .if_icmp .eq (9), 30, [36]), (30, .aload_n 0, 31, []), (31, .iconst 0, 32, []), (32, .putfield 194, 35, []), (35, .return_, 36, []), (36, .aload_n 0, 37, []), (37, .getfield 50, 40, []), (40, .iload_n 1, 41, []), (41, .baload, 42, []), (42, .ifCond .ne (7), 45, [49]), (45, .iconst 1, 46, []), (46, .goto (4), 49, [50]), (49, .iconst 0, 50, []), (50, .istore_n 2, 51, []), (51, .iconst 0, 52, []), (52, .istore_n 3, 53, []), (53, .iload_n 3, 54, []), (54, .bipush (10), 56, []), (56, .if_icmp .ge (79), 59, [135]), (59, .bipush (10), 61, []), (61, .iload_n 1, 62, []), (62, .imul, 63, []), (63, .iload_n 3, 64, []), (64, .iadd, 65, []), (65, .istore 4, 67, []), (67, .iload_n 2, 68, []), (68, .ifCond .eq (12), 71, [80]), (71, .aload_n 0, 72, []), (72, .getfield 44, 75, []), (75, .iload_n 3, 76, []), (76, .iaload, 77, []), (77, .goto (20), 80, [97]), (80, .aload_n 0, 81, []), (81, .aload_n 0, 82, []), (82, .getfield 59, 85, []), (85, .iload 4, 87, []), (87, .iaload, 88, []), (88, .aload_n 0, 89, []), (89, .getfield 44, 92, []), (92, .iload_n 3, 93, []), (93, .iaload, 94, []), (94, .invokevirtual 197, 97, []), (97, .istore 5, 99, []), (99, .iload_n 2, 100, []), (100, .ifCond .ne (15), 103, [115]), (103, .iload 5, 105, []), (105, .aload_n 0, 106, []), (106, .getfield 59, 109, []), (109, .iload 4, 111, []), (111, .iaload, 112, []), (112, .if_icmp .eq (8), 115, [120]), (115, .aload_n 0, 116, []), (116, .iconst 1, 117, []), (117, .putfield 201, 120, []), (120, .aload_n 0, 121, []), (121, .getfield 59, 124, []), (124, .iload 4, 126, []), (126, .iload 5, 128, []), (128, .iastore, 129, []), (129, .iinc 3 (1), 132, []), (132, .goto (-79), 135, [53]), (135, .iconst 0, 136, []), (136, .istore_n 3, 137, []), (137, .iload_n 3, 138, []), (138, .aload_n 0, 139, []), (139, .getfield 138, 142, []), (142, .if_icmp .ge (89), 145, [231]), (145, .bipush (8), 147, []), (147, .iload_n 1, 148, []), (148, .imul, 149, []), (149, .iload_n 3, 150, []), (150, .iadd, 151, []), (151, .istore 4, 153, []), (153, .iload_n 2, 154, []), (154, .ifCond .eq (12), 157, [166]), (157, .aload_n 0, 158, []), (158, .getfield 47, 161, []), (161, .iload_n 3, 162, []), (162, .iaload, 163, []), (163, .goto (20), 166, [183]), (166, .aload_n 0, 167, []), (167, .aload_n 0, 168, []), (168, .getfield 62, 171, []), (171, .iload 4, 173, []), (173, .iaload, 174, []), (174, .aload_n 0, 175, []), (175, .getfield 47, 178, []), (178, .iload_n 3, 179, []), (179, .iaload, 180, []), (180, .invokevirtual 197, 183, []), (183, .istore 5, 185, []), (185, .iload_n 2, 186, []), (186, .ifCond .ne (15), 189, [201]), (189, .iload 5, 191, []), (191, .aload_n 0, 192, []), (192, .getfield 62, 195, []), (195, .iload 4, 197, []), (197, .iaload, 198, []), (198, .if_icmp .eq (8), 201, [206]), (201, .aload_n 0, 202, []), (202, .iconst 1, 203, []), (203, .putfield 201, 206, []), (206, .iload 5, 208, []), (208, .ifCond .ne (8), 211, [216]), (211, .aload_n 0, 212, []), (212, .iconst 0, 213, []), (213, .putfield 194, 216, []), (216, .aload_n 0, 217, []), (217, .getfield 62, 220, []), (220, .iload 4, 222, []), (222, .iload 5, 224, []), (224, .iastore, 225, []), (225, .iinc 3 (1), 228, []), (228, .goto (-91), 231, [137]), (231, .aload_n 0, 232, []), (232, .getfield 141, 235, []), (235, .ifCond .ne (16), 238, [251]), (238, .iload_n 2, 239, []), (239, .ifCond .ne (16), 242, [255]), (242, .aload_n 0, 243, []), (243, .getfield 53, 246, []), (246, .iload_n 1, 247, []), (247, .baload, 248, []), (248, .ifCond .eq (7), 251, [255]), (251, .iconst 1, 252, []), (252, .goto (4), 255, [256]), (255, .iconst 0, 256, []), (256, .istore_n 3, 257, []), (257, .iload_n 2, 258, []), (258, .ifCond .ne (13), 261, [271]), (261, .iload_n 3, 262, []), (262, .aload_n 0, 263, []), (263, .getfield 53, 266, []), (266, .iload_n 1, 267, []), (267, .baload, 268, []), (268, .if_icmp .eq (8), 271, [276]), (271, .aload_n 0, 272, []), (272, .iconst 1, 273, []), (273, .putfield 201, 276, []), (276, .aload_n 0, 277, []), (277, .getfield 53, 280, []), (280, .iload_n 1, 281, []), (281, .iload_n 3, 282, []), (282, .bastore, 283, []), (283, .aload_n 0, 284, []), (284, .getfield 50, 287, []), (287, .iload_n 1, 288, []), (288, .iconst 1, 289, []), (289, .bastore, 290, []), (290, .aload_n 0, 291, []), (291, .getfield 56, 294, []), (294, .iload_n 1, 295, []), (295, .aload_n 0, 296, []), (296, .getfield 138, 299, []), (299, .iastore, 300, []), (300, .return_, 301, [])]
def cd_mo_fetch : zm_C := [(0, .aload_n 0, 1, []), (1, .aload_n 0, 2, []), (2, .getfield 56, 5, []), (5, .iload_n 1, 6, []), (6, .iaload, 7, []), (7, .putfield 138, 10, []), (10, .aload_n 0, 11, []), (11, .aload_n 0, 12, []), (12, .getfield 53, 15, []), (15, .iload_n 1, 16, []), (16, .baload, 17, []), (17, .putfield 141, 20, []), (20, .iconst 0, 21, []), (21, .istore_n 2, 22, []), (22, .iload_n 2, 23, []), (23, .bipush (10), 25, []), (25, .if_icmp .ge (26), 28, [51]), (28, .aload_n 0, 29, []), (29, .getfield 44, 32, []), (32, .iload_n 2, 33, []), (33, .aload_n 0, 34, []), (34, .getfield 59, 37, []), (37, .bipush (10), 39, []), (39, .iload_n 1, 40, []), (40, .imul, 41, []), (41, .iload_n 2, 42, []), (42, .iadd, 43, []), (43, .iaload, 44, []), (44, .iastore, 45, []), (45, .iinc 2 (1), 48, []), (48, .goto (-26), 51, [22]), (51, .iconst 0, 52, []), (52, .istore_n 2, 53, []), (53, .iload_n 2, 54, []), (54, .aload_n 0, 55, []), (55, .getfield 138, 58, []), (58, .if_icmp .ge (26), 61, [84]), (61, .aload_n 0, 62, []), (62, .getfield 47, 65, []), (65, .iload_n 2, 66, []), (66, .aload_n 0, 67, []), (67, .getfield 62, 70, []), (70, .bipush (8), 72, []), (72, .iload_n 1, 73, []), (73, .imul, 74, []), (74, .iload_n 2, 75, []), (75, .iadd, 76, []), (76, .iaload, 77, []), (77, .iastore, 78, []), (78, .iinc 2 (1), 81, []), (81, .goto (-28), 84, [53]), (84, .return_, 85, [])]
def cd_mo_top : zm_C := [(0, .aload_n 0, 1, []), (1, .getfield 138, 4, []), (4, .iload_n 1, 5, []), (5, .if_icmp .lt (17), 8, [22]), (8, .aload_n 0, 9, []), (9, .getfield 47, 12, []), (12, .aload_n 0, 13, []), (13, .getfield 138, 16, []), (16, .iload_n 1, 17, []), (17, .isub, 18, []), (18, .iaload, 19, []), (19, .goto (4), 22, [23]), (22, .iconst (-1), 23, []), (23, .ireturn, 24, [])]
def cd_mo_slots : zm_C := [(0, .iconst 0, 1, []), (1, .istore_n 1, 2, []), (2, .iconst 0, 3, []), (3, .istore_n 2, 4, []), (4, .iload_n 2, 5, []), (5, .aload_n 0, 6, []), (6, .getfield 138, 9, []), (9, .if_icmp .ge (29), 12, [38]), (12, .iload_n 1, 13, []), (13, .aload_n 0, 14, []), (14, .getfield 47, 17, []), (17, .iload_n 2, 18, []), (18, .iaload, 19, []), (19, .invokestatic 135, 22, []), (22, .ifCond .eq (7), 25, [29]), (25, .iconst 2, 26, []), (26, .goto (4), 29, [30]), (29, .iconst 1, 30, []), (30, .iadd, 31, []), (31, .istore_n 1, 32, []), (32, .iinc 2 (1), 35, []), (35, .goto (-31), 38, [4]), (38, .iload_n 1, 39, []), (39, .ireturn, 40, [])]
def cd_mo_push : zm_C := [(0, .aload_n 0, 1, []), (1, .invokevirtual 144, 4, []), (4, .iload_n 1, 5, []), (5, .invokestatic 135, 8, []), (8, .ifCond .eq (7), 11, [15]), (11, .iconst 2, 12, []), (12, .goto (4), 15, [16]), (15, .iconst 1, 16, []), (16, .iadd, 17, []), (17, .bipush (8), 19, []), (19, .if_icmp .le (5), 22, [24]), (22, .iconst 0, 23, []), (23, .ireturn, 24, []), (24, .aload_n 0, 25, []), (25, .getfield 47, 28, []), (28, .aload_n 0, 29, []), (29, .getfield 138, 32, []), (32, .iload_n 1, 33, []), (33, .iastore, 34, []), (34, .aload_n 0, 35, []), (35, .dup, 36, []), (36, .getfield 138, 39, []), (39, .iconst 1, 40, []), (40, .iadd, 41, []), (41, .putfield 138, 44, []), (44, .iconst 1, 45, []), (45, .ireturn, 46, [])]
def cd_mo_isSmall : zm_C := [(0, .iload_n 0, 1, []), (1, .ifCond .le (14), 4, [15]), (4, .iload_n 0, 5, []), (5, .invokestatic 135, 8, []), (8, .ifCond .ne (7), 11, [15]), (11, .iconst 1, 12, []), (12, .goto (4), 15, [16]), (15, .iconst 0, 16, []), (16, .ireturn, 17, [])]
def cd_mo_takes : zm_C := [(0, .iload_n 1, 1, []), (1, .ifCond .ne (5), 4, [6]), (4, .iconst 0, 5, []), (5, .ireturn, 6, []), (6, .aload_n 0, 7, []), (7, .dup, 8, []), (8, .getfield 138, 11, []), (11, .iload_n 2, 12, []), (12, .isub, 13, []), (13, .putfield 138, 16, []), (16, .iconst 1, 17, []), (17, .ireturn, 18, [])]
def cd_mo_sum : zm_C := [(0, .aload_n 0, 1, []), (1, .iconst 1, 2, []), (2, .invokevirtual 151, 5, []), (5, .iload_n 1, 6, []), (6, .if_icmp .ne (12), 9, [18]), (9, .aload_n 0, 10, []), (10, .iconst 2, 11, []), (11, .invokevirtual 151, 14, []), (14, .iload_n 1, 15, []), (15, .if_icmp .eq (5), 18, [20]), (18, .iconst 0, 19, []), (19, .ireturn, 20, []), (20, .aload_n 0, 21, []), (21, .dup, 22, []), (22, .getfield 138, 25, []), (25, .iconst 1, 26, []), (26, .isub, 27, []), (27, .putfield 138, 30, []), (30, .iconst 1, 31, []), (31, .ireturn, 32, [])]
def cd_mo_swap : zm_C := [(0, .aload_n 0, 1, []), (1, .iconst 1, 2, []), (2, .invokevirtual 151, 5, []), (5, .iload_n 1, 6, []), (6, .if_icmp .eq (5), 9, [11]), (9, .iconst 0, 10, []), (10, .ireturn, 11, []), (11, .aload_n 0, 12, []), (12, .dup, 13, []), (13, .getfield 138, 16, []), (16, .iconst 1, 17, []), (17, .isub, 18, []), (18, .putfield 138, 21, []), (21, .aload_n 0, 22, []), (22, .iload_n 2, 23, []), (23, .invokevirtual 154, 26, []), (26, .ireturn, 27, [])]
def cd_mo_is : zm_C := [(0, .iload_n 1, 1, []), (1, .iload_n 2, 2, []), (2, .if_icmp .eq (7), 5, [9]), (5, .iload_n 2, 6, []), (6, .ifCond .ne (5), 9, [11]), (9, .iconst 1, 10, []), (10, .ireturn, 11, []), (11, .iload_n 2, 12, []), (12, .invokestatic 89, 15, []), (15, .bipush (7), 17, []), (17, .if_icmp .eq (5), 20, [22]), (20, .iconst 0, 21, []), (21, .ireturn, 22, []), (22, .iload_n 1, 23, []), (23, .iconst 5, 24, []), (24, .if_icmp .ne (5), 27, [29]), (27, .iconst 1, 28, []), (28, .ireturn, 29, []), (29, .iload_n 1, 30, []), (30, .invokestatic 89, 33, []), (33, .bipush (7), 35, []), (35, .if_icmp .ne (31), 38, [66]), (38, .aload_n 0, 39, []), (39, .getfield 13, 42, []), (42, .iload_n 2, 43, []), (43, .iconst 4, 44, []), (44, .ishr, 45, []), (45, .baload, 46, []), (46, .ifCond .ne (16), 49, [62]), (49, .aload_n 0, 50, []), (50, .iload_n 2, 51, []), (51, .iconst 4, 52, []), (52, .ishr, 53, []), (53, .iload_n 1, 54, []), (54, .iconst 4, 55, []), (55, .ishr, 56, []), (56, .invokevirtual 93, 59, []), (59, .ifCond .eq (7), 62, [66]), (62, .iconst 1, 63, []), (63, .goto (4), 66, [67]), (66, .iconst 0, 67, []), (67, .ireturn, 68, [])]
def cd_mo_simple : zm_C := [(0, .aload_n 0, 1, []), (1, .iconst 1, 2, []), (2, .invokevirtual 151, 5, []), (5, .istore_n 2, 6, []), (6, .aload_n 0, 7, []), (7, .iconst 2, 8, []), (8, .invokevirtual 151, 11, []), (11, .istore_n 3, 12, []), (12, .iload_n 1, 13, []), (13, .tableswitch (352) 0 19 #[95, 97, 103, 109, 115, 121, 127, 137, 178, 199, 241, 247, 253, 259, 265, 272, 279, 286, 293, 321], 108, [365, 108, 110, 116, 122, 128, 134, 140, 150, 191, 212, 254, 260, 266, 272, 278, 285, 292, 299, 306, 334]), (108, .iconst 1, 109, []), (109, .ireturn, 110, []), (110, .aload_n 0, 111, []), (111, .iconst 1, 112, []), (112, .invokevirtual 154, 115, []), (115, .ireturn, 116, []), (116, .aload_n 0, 117, []), (117, .iconst 2, 118, []), (118, .invokevirtual 154, 121, []), (121, .ireturn, 122, []), (122, .aload_n 0, 123, []), (123, .iconst 3, 124, []), (124, .invokevirtual 154, 127, []), (127, .ireturn, 128, []), (128, .aload_n 0, 129, []), (129, .iconst 4, 130, []), (130, .invokevirtual 154, 133, []), (133, .ireturn, 134, []), (134, .aload_n 0, 135, []), (135, .iconst 5, 136, []), (136, .invokevirtual 154, 139, []), (139, .ireturn, 140, []), (140, .aload_n 0, 141, []), (141, .iload_n 2, 142, []), (142, .invokestatic 157, 145, []), (145, .iconst 1, 146, []), (146, .invokevirtual 160, 149, []), (149, .ireturn, 150, []), (150, .iload_n 2, 151, []), (151, .invokestatic 135, 154, []), (154, .ifCond .eq (12), 157, [166]), (157, .aload_n 0, 158, []), (158, .iconst 1, 159, []), (159, .iconst 1, 160, []), (160, .invokevirtual 160, 163, []), (163, .goto (27), 166, [190]), (166, .aload_n 0, 167, []), (167, .iload_n 2, 168, []), (168, .invokestatic 157, 171, []), (171, .ifCond .eq (14), 174, [185]), (174, .iload_n 3, 175, []), (175, .invokestatic 157, 178, []), (178, .ifCond .eq (7), 181, [185]), (181, .iconst 1, 182, []), (182, .goto (4), 185, [186]), (185, .iconst 0, 186, []), (186, .iconst 2, 187, []), (187, .invokevirtual 160, 190, []), (190, .ireturn, 191, []), (191, .iload_n 2, 192, []), (192, .invokestatic 157, 195, []), (195, .ifCond .eq (15), 198, [210]), (198, .aload_n 0, 199, []), (199, .iload_n 2, 200, []), (200, .invokevirtual 154, 203, []), (203, .ifCond .eq (7), 206, [210]), (206, .iconst 1, 207, []), (207, .goto (4), 210, [211]), (210, .iconst 0, 211, []), (211, .ireturn, 212, []), (212, .iload_n 2, 213, []), (213, .invokestatic 157, 216, []), (216, .ifCond .eq (10), 219, [226]), (219, .iload_n 3, 220, []), (220, .invokestatic 157, 223, []), (223, .ifCond .ne (5), 226, [228]), (226, .iconst 0, 227, []), (227, .ireturn, 228, []), (228, .aload_n 0, 229, []), (229, .getfield 47, 232, []), (232, .aload_n 0, 233, []), (233, .getfield 138, 236, []), (236, .iconst 1, 237, []), (237, .isub, 238, []), (238, .iload_n 3, 239, []), (239, .iastore, 240, []), (240, .aload_n 0, 241, []), (241, .getfield 47, 244, []), (244, .aload_n 0, 245, []), (245, .getfield 138, 248, []), (248, .iconst 2, 249, []), (249, .isub, 250, []), (250, .iload_n 2, 251, []), (251, .iastore, 252, []), (252, .iconst 1, 253, []), (253, .ireturn, 254, []), (254, .aload_n 0, 255, []), (255, .iconst 1, 256, []), (256, .invokevirtual 164, 259, []), (259, .ireturn, 260, []), (260, .aload_n 0, 261, []), (261, .iconst 4, 262, []), (262, .invokevirtual 164, 265, []), (265, .ireturn, 266, []), (266, .aload_n 0, 267, []), (267, .iconst 2, 268, []), (268, .invokevirtual 164, 271, []), (271, .ireturn, 272, []), (272, .aload_n 0, 273, []), (273, .iconst 3, 274, []), (274, .invokevirtual 164, 277, []), (277, .ireturn, 278, []), (278, .aload_n 0, 279, []), (279, .iconst 1, 280, []), (280, .iconst 4, 281, []), (281, .invokevirtual 167, 284, []), (284, .ireturn, 285, []), (285, .aload_n 0, 286, []), (286, .iconst 4, 287, []), (287, .iconst 1, 288, []), (288, .invokevirtual 167, 291, []), (291, .ireturn, 292, []), (292, .aload_n 0, 293, []), (293, .iconst 1, 294, []), (294, .iconst 3, 295, []), (295, .invokevirtual 167, 298, []), (298, .ireturn, 299, []), (299, .aload_n 0, 300, []), (300, .iconst 3, 301, []), (301, .iconst 1, 302, []), (302, .invokevirtual 167, 305, []), (305, .ireturn, 306, []), (306, .aload_n 0, 307, []), (307, .getfield 108, 310, []), (310, .ifCond .ne (22), 313, [332]), (313, .aload_n 0, 314, []), (314, .getfield 105, 317, []), (317, .iconst 2, 318, []), (318, .if_icmp .ne (10), 321, [328]), (321, .aload_n 0, 322, []), (322, .getfield 141, 325, []), (325, .ifCond .ne (7), 328, [332]), (328, .iconst 1, 329, []), (329, .goto (4), 332, [333]), (332, .iconst 0, 333, []), (333, .ireturn, 334, []), (334, .aload_n 0, 335, []), (335, .getfield 108, 338, []), (338, .ifCond .eq (25), 341, [363]), (341, .aload_n 0, 342, []), (342, .iload_n 2, 343, []), (343, .iconst 1, 344, []), (344, .if_icmp .ne (7), 347, [351]), (347, .iconst 1, 348, []), (348, .goto (4), 351, [352]), (351, .iconst 0, 352, []), (352, .iconst 1, 353, []), (353, .invokevirtual 160, 356, []), (356, .ifCond .eq (7), 359, [363]), (359, .iconst 1, 360, []), (360, .goto (4), 363, [364]), (363, .iconst 0, 364, []), (364, .ireturn, 365, []), (365, .iload_n 2, 366, []), (366, .ifCond .lt (34), 369, [400]), (369, .aload_n 0, 370, []), (370, .aload_n 0, 371, []), (371, .iload_n 2, 372, []), (372, .bipush (7), 374, []), (374, .invokevirtual 170, 377, []), (377, .ifCond .eq (11), 380, [388]), (380, .iload_n 2, 381, []), (381, .ifCond .eq (7), 384, [388]), (384, .iconst 1, 385, []), (385, .goto (4), 388, [389]), (388, .iconst 0, 389, []), (389, .iconst 1, 390, []), (390, .invokevirtual 160, 393, []), (393, .ifCond .eq (7), 396, [400]), (396, .iconst 1, 397, []), (397, .goto (4), 400, [401]), (400, .iconst 0, 401, []), (401, .ireturn, 402, [])]
def cd_mo_typeFor : zm_C := [(0, .iload_n 0, 1, []), (1, .ifCond .ne (7), 4, [8]), (4, .iconst 1, 5, []), (5, .goto (31), 8, [36]), (8, .iload_n 0, 9, []), (9, .iconst 1, 10, []), (10, .if_icmp .ne (7), 13, [17]), (13, .iconst 4, 14, []), (14, .goto (22), 17, [36]), (17, .iload_n 0, 18, []), (18, .iconst 2, 19, []), (19, .if_icmp .ne (7), 22, [26]), (22, .iconst 2, 23, []), (23, .goto (13), 26, [36]), (26, .iload_n 0, 27, []), (27, .iconst 3, 28, []), (28, .if_icmp .ne (7), 31, [35]), (31, .iconst 3, 32, []), (32, .goto (4), 35, [36]), (35, .iconst (-1), 36, []), (36, .ireturn, 37, [])]
def cd_mo_isPointer : zm_C := [(0, .iload_n 0, 1, []), (1, .iconst 5, 2, []), (2, .if_icmp .eq (16), 5, [18]), (5, .iload_n 0, 6, []), (6, .ifCond .le (16), 9, [22]), (9, .iload_n 0, 10, []), (10, .invokestatic 89, 13, []), (13, .bipush (7), 15, []), (15, .if_icmp .ne (7), 18, [22]), (18, .iconst 1, 19, []), (19, .goto (4), 22, [23]), (22, .iconst 0, 23, []), (23, .ireturn, 24, [])]
def cd_mo_isReference : zm_C := [(0, .iload_n 0, 1, []), (1, .invokestatic 148, 4, []), (4, .ifCond .ne (22), 7, [26]), (7, .iload_n 0, 8, []), (8, .bipush (6), 10, []), (10, .if_icmp .eq (16), 13, [26]), (13, .iload_n 0, 14, []), (14, .ifCond .le (16), 17, [30]), (17, .iload_n 0, 18, []), (18, .invokestatic 89, 21, []), (21, .bipush (8), 23, []), (23, .if_icmp .ne (7), 26, [30]), (26, .iconst 1, 27, []), (27, .goto (4), 30, [31]), (30, .iconst 0, 31, []), (31, .ireturn, 32, [])]
def cd_mo_move : zm_C := [(0, .iload_n 1, 1, []), (1, .bipush (26), 3, []), (3, .if_icmp .ge (10), 6, [13]), (6, .iload_n 1, 7, []), (7, .bipush (21), 9, []), (9, .isub, 10, []), (10, .goto (7), 13, [17]), (13, .iload_n 1, 14, []), (14, .bipush (26), 16, []), (16, .isub, 17, []), (17, .invokestatic 173, 20, []), (20, .istore_n 3, 21, []), (21, .iload_n 1, 22, []), (22, .bipush (26), 24, []), (24, .if_icmp .ge (51), 27, [75]), (27, .iload_n 3, 28, []), (28, .ifCond .ge (18), 31, [46]), (31, .aload_n 0, 32, []), (32, .getfield 44, 35, []), (35, .iload_n 2, 36, []), (36, .iaload, 37, []), (37, .invokestatic 176, 40, []), (40, .ifCond .eq (33), 43, [73]), (43, .goto (13), 46, [56]), (46, .aload_n 0, 47, []), (47, .getfield 44, 50, []), (50, .iload_n 2, 51, []), (51, .iaload, 52, []), (52, .iload_n 3, 53, []), (53, .if_icmp .ne (20), 56, [73]), (56, .aload_n 0, 57, []), (57, .aload_n 0, 58, []), (58, .getfield 44, 61, []), (61, .iload_n 2, 62, []), (62, .iaload, 63, []), (63, .invokevirtual 154, 66, []), (66, .ifCond .eq (7), 69, [73]), (69, .iconst 1, 70, []), (70, .goto (4), 73, [74]), (73, .iconst 0, 74, []), (74, .ireturn, 75, []), (75, .aload_n 0, 76, []), (76, .iconst 1, 77, []), (77, .invokevirtual 151, 80, []), (80, .istore 4, 82, []), (82, .iload_n 3, 83, []), (83, .ifCond .ge (14), 86, [97]), (86, .iload 4, 88, []), (88, .invokestatic 176, 91, []), (91, .ifCond .ne (14), 94, [105]), (94, .goto (9), 97, [103]), (97, .iload 4, 99, []), (99, .iload_n 3, 100, []), (100, .if_icmp .eq (5), 103, [105]), (103, .iconst 0, 104, []), (104, .ireturn, 105, []), (105, .aload_n 0, 106, []), (106, .dup, 107, []), (107, .getfield 138, 110, []), (110, .iconst 1, 111, []), (111, .isub, 112, []), (112, .putfield 138, 115, []), (115, .iload_n 2, 116, []), (116, .ifCond .le (26), 119, [142]), (119, .aload_n 0, 120, []), (120, .getfield 44, 123, []), (123, .iload_n 2, 124, []), (124, .iconst 1, 125, []), (125, .isub, 126, []), (126, .iaload, 127, []), (127, .invokestatic 135, 130, []), (130, .ifCond .eq (12), 133, [142]), (133, .aload_n 0, 134, []), (134, .getfield 44, 137, []), (137, .iload_n 2, 138, []), (138, .iconst 1, 139, []), (139, .isub, 140, []), (140, .iconst 0, 141, []), (141, .iastore, 142, []), (142, .aload_n 0, 143, []), (143, .getfield 44, 146, []), (146, .iload_n 2, 147, []), (147, .iload 4, 149, []), (149, .iastore, 150, []), (150, .iload 4, 152, []), (152, .invokestatic 135, 155, []), (155, .ifCond .eq (12), 158, [167]), (158, .aload_n 0, 159, []), (159, .getfield 44, 162, []), (162, .iload_n 2, 163, []), (163, .iconst 1, 164, []), (164, .iadd, 165, []), (165, .iconst 0, 166, []), (166, .iastore, 167, []), (167, .iconst 1, 168, []), (168, .ireturn, 169, [])]
def cd_mo_sizeOf : zm_C := [(0, .iload_n 0, 1, []), (1, .bipush (20), 3, []), (3, .if_icmp .gt (7), 6, [10]), (6, .iconst 1, 7, []), (7, .goto (14), 10, [21]), (10, .iload_n 0, 11, []), (11, .bipush (30), 13, []), (13, .if_icmp .gt (7), 16, [20]), (16, .iconst 2, 17, []), (17, .goto (4), 20, [21]), (20, .iconst 3, 21, []), (21, .ireturn, 22, [])]
def cd_mo_offset : zm_C := [(0, .iconst 0, 1, []), (1, .istore_n 2, 2, []), (2, .iconst 0, 3, []), (3, .istore_n 3, 4, []), (4, .iload_n 3, 5, []), (5, .iload_n 1, 6, []), (6, .if_icmp .ge (21), 9, [27]), (9, .iload_n 2, 10, []), (10, .aload_n 0, 11, []), (11, .getfield 20, 14, []), (14, .iload_n 3, 15, []), (15, .iaload, 16, []), (16, .invokestatic 132, 19, []), (19, .iadd, 20, []), (20, .istore_n 2, 21, []), (21, .iinc 3 (1), 24, []), (24, .goto (-20), 27, [4]), (27, .iload_n 2, 28, []), (28, .ireturn, 29, [])]
def cd_mo_placeAt : zm_C := [(0, .iconst 0, 1, []), (1, .istore_n 2, 2, []), (2, .iconst 0, 3, []), (3, .istore_n 3, 4, []), (4, .iload_n 3, 5, []), (5, .aload_n 0, 6, []), (6, .getfield 115, 9, []), (9, .if_icmp .ge (28), 12, [37]), (12, .iload_n 2, 13, []), (13, .iload_n 1, 14, []), (14, .if_icmp .ne (5), 17, [19]), (17, .iload_n 3, 18, []), (18, .ireturn, 19, []), (19, .iload_n 2, 20, []), (20, .aload_n 0, 21, []), (21, .getfield 20, 24, []), (24, .iload_n 3, 25, []), (25, .iaload, 26, []), (26, .invokestatic 132, 29, []), (29, .iadd, 30, []), (30, .istore_n 2, 31, []), (31, .iinc 3 (1), 34, []), (34, .goto (-30), 37, [4]), (37, .iconst (-1), 38, []), (38, .ireturn, 39, [])]
def cd_mo_init : zm_C := [(0, .aload_n 0, 1, []), (1, .iconst 1, 2, []), (2, .invokevirtual 151, 5, []), (5, .istore_n 2, 6, []), (6, .iload_n 2, 7, []), (7, .bipush (6), 9, []), (9, .if_icmp .ne (7), 12, [16]), (12, .iconst 1, 13, []), (13, .goto (4), 16, [17]), (16, .iconst 0, 17, []), (17, .istore_n 3, 18, []), (18, .iload_n 3, 19, []), (19, .ifCond .eq (34), 22, [53]), (22, .iload_n 1, 23, []), (23, .aload_n 0, 24, []), (24, .getfield 101, 27, []), (27, .if_icmp .eq (42), 30, [69]), (30, .aload_n 0, 31, []), (31, .getfield 101, 34, []), (34, .ifCond .eq (33), 37, [67]), (37, .iload_n 1, 38, []), (38, .aload_n 0, 39, []), (39, .getfield 7, 42, []), (42, .aload_n 0, 43, []), (43, .getfield 101, 46, []), (46, .iaload, 47, []), (47, .if_icmp .eq (22), 50, [69]), (50, .goto (17), 53, [67]), (53, .iload_n 2, 54, []), (54, .iconst 1, 55, []), (55, .if_icmp .lt (12), 58, [67]), (58, .iload_n 2, 59, []), (59, .invokestatic 89, 62, []), (62, .bipush (8), 64, []), (64, .if_icmp .eq (5), 67, [69]), (67, .iconst 0, 68, []), (68, .ireturn, 69, []), (69, .iload_n 3, 70, []), (70, .ifCond .ne (42), 73, [112]), (73, .aload_n 0, 74, []), (74, .iload_n 2, 75, []), (75, .iconst 4, 76, []), (76, .ishr, 77, []), (77, .invokevirtual 179, 80, []), (80, .istore 4, 82, []), (82, .iload 4, 84, []), (84, .ifCond .lt (26), 87, [110]), (87, .aload_n 0, 88, []), (88, .getfield 20, 91, []), (91, .iload 4, 93, []), (93, .iaload, 94, []), (94, .bipush (35), 96, []), (96, .if_icmp .ne (14), 99, [110]), (99, .aload_n 0, 100, []), (100, .getfield 23, 103, []), (103, .iload 4, 105, []), (105, .iaload, 106, []), (106, .iload_n 1, 107, []), (107, .if_icmp .eq (5), 110, [112]), (110, .iconst 0, 111, []), (111, .ireturn, 112, []), (112, .bipush (16), 114, []), (114, .iload_n 3, 115, []), (115, .ifCond .eq (10), 118, [125]), (118, .aload_n 0, 119, []), (119, .getfield 101, 122, []), (122, .goto (4), 125, [126]), (125, .iload_n 1, 126, []), (126, .imul, 127, []), (127, .bipush (7), 129, []), (129, .iadd, 130, []), (130, .istore 4, 132, []), (132, .aload_n 0, 133, []), (133, .dup, 134, []), (134, .getfield 138, 137, []), (137, .iconst 1, 138, []), (138, .isub, 139, []), (139, .putfield 138, 142, []), (142, .iconst 0, 143, []), (143, .istore 5, 145, []), (145, .iload 5, 147, []), (147, .aload_n 0, 148, []), (148, .getfield 138, 151, []), (151, .if_icmp .ge (29), 154, [180]), (154, .aload_n 0, 155, []), (155, .getfield 47, 158, []), (158, .iload 5, 160, []), (160, .iaload, 161, []), (161, .iload_n 2, 162, []), (162, .if_icmp .ne (12), 165, [174]), (165, .aload_n 0, 166, []), (166, .getfield 47, 169, []), (169, .iload 5, 171, []), (171, .iload 4, 173, []), (173, .iastore, 174, []), (174, .iinc 5 (1), 177, []), (177, .goto (-32), 180, [145]), (180, .iconst 0, 181, []), (181, .istore 5, 183, []), (183, .iload 5, 185, []), (185, .bipush (10), 187, []), (187, .if_icmp .ge (29), 190, [216]), (190, .aload_n 0, 191, []), (191, .getfield 44, 194, []), (194, .iload 5, 196, []), (196, .iaload, 197, []), (197, .iload_n 2, 198, []), (198, .if_icmp .ne (12), 201, [210]), (201, .aload_n 0, 202, []), (202, .getfield 44, 205, []), (205, .iload 5, 207, []), (207, .iload 4, 209, []), (209, .iastore, 210, []), (210, .iinc 5 (1), 213, []), (213, .goto (-30), 216, [183]), (216, .iload_n 3, 217, []), (217, .ifCond .eq (8), 220, [225]), (220, .aload_n 0, 221, []), (221, .iconst 0, 222, []), (222, .putfield 141, 225, []), (225, .iconst 1, 226, []), (226, .ireturn, 227, [])]
def cd_mo_leave : zm_C := [(0, .aload_n 0, 1, []), (1, .getfield 20, 4, []), (4, .iload_n 1, 5, []), (5, .iaload, 6, []), (6, .istore_n 2, 7, []), (7, .aload_n 0, 8, []), (8, .getfield 23, 11, []), (11, .iload_n 1, 12, []), (12, .iaload, 13, []), (13, .istore_n 3, 14, []), (14, .aload_n 0, 15, []), (15, .iconst 1, 16, []), (16, .invokevirtual 151, 19, []), (19, .istore 4, 21, []), (21, .iload_n 2, 22, []), (22, .bipush (20), 24, []), (24, .if_icmp .gt (9), 27, [33]), (27, .aload_n 0, 28, []), (28, .iload_n 2, 29, []), (29, .invokevirtual 182, 32, []), (32, .ireturn, 33, []), (33, .iload_n 2, 34, []), (34, .bipush (30), 36, []), (36, .if_icmp .gt (10), 39, [46]), (39, .aload_n 0, 40, []), (40, .iload_n 2, 41, []), (41, .iload_n 3, 42, []), (42, .invokevirtual 185, 45, []), (45, .ireturn, 46, []), (46, .iload_n 2, 47, []), (47, .tableswitch (119) 31 36 #[37, 39, 56, 67, 97, 113], 84, [166, 84, 86, 103, 114, 144, 160]), (84, .iconst 1, 85, []), (85, .ireturn, 86, []), (86, .aload_n 0, 87, []), (87, .iload 4, 89, []), (89, .iconst 1, 90, []), (90, .if_icmp .ne (7), 93, [97]), (93, .iconst 1, 94, []), (94, .goto (4), 97, [98]), (97, .iconst 0, 98, []), (98, .iconst 1, 99, []), (99, .invokevirtual 160, 102, []), (102, .ireturn, 103, []), (103, .aload_n 0, 104, []), (104, .iload 4, 106, []), (106, .invokestatic 148, 109, []), (109, .iconst 1, 110, []), (110, .invokevirtual 160, 113, []), (113, .ireturn, 114, []), (114, .aload_n 0, 115, []), (115, .iload 4, 117, []), (117, .invokestatic 148, 120, []), (120, .ifCond .eq (18), 123, [138]), (123, .aload_n 0, 124, []), (124, .iconst 2, 125, []), (125, .invokevirtual 151, 128, []), (128, .invokestatic 148, 131, []), (131, .ifCond .eq (7), 134, [138]), (134, .iconst 1, 135, []), (135, .goto (4), 138, [139]), (138, .iconst 0, 139, []), (139, .iconst 2, 140, []), (140, .invokevirtual 160, 143, []), (143, .ireturn, 144, []), (144, .aload_n 0, 145, []), (145, .bipush (16), 147, []), (147, .aload_n 0, 148, []), (148, .iload_n 1, 149, []), (149, .invokevirtual 188, 152, []), (152, .imul, 153, []), (153, .bipush (8), 155, []), (155, .iadd, 156, []), (156, .invokevirtual 154, 159, []), (159, .ireturn, 160, []), (160, .aload_n 0, 161, []), (161, .iload_n 3, 162, []), (162, .invokevirtual 191, 165, []), (165, .ireturn, 166, []), (166, .iload_n 2, 167, []), (167, .bipush (39), 169, []), (169, .if_icmp .ne (7), 172, [176]), (172, .iconst 0, 173, []), (173, .goto (4), 176, [177]), (176, .iload_n 3, 177, []), (177, .istore 5, 179, []), (179, .iload 4, 181, []), (181, .invokestatic 148, 184, []), (184, .ifCond .eq (20), 187, [204]), (187, .aload_n 0, 188, []), (188, .iload 4, 190, []), (190, .bipush (16), 192, []), (192, .iload 5, 194, []), (194, .imul, 195, []), (195, .bipush (7), 197, []), (197, .iadd, 198, []), (198, .invokevirtual 170, 201, []), (201, .ifCond .ne (5), 204, [206]), (204, .iconst 0, 205, []), (205, .ireturn, 206, []), (206, .aload_n 0, 207, []), (207, .dup, 208, []), (208, .getfield 138, 211, []), (211, .iconst 1, 212, []), (212, .isub, 213, []), (213, .putfield 138, 216, []), (216, .aload_n 0, 217, []), (217, .iload_n 2, 218, []), (218, .bipush (37), 220, []), (220, .if_icmp .ne (7), 223, [227]), (223, .iconst 1, 224, []), (224, .goto (25), 227, [249]), (227, .bipush (16), 229, []), (229, .iload_n 2, 230, []), (230, .bipush (38), 232, []), (232, .if_icmp .ne (12), 235, [244]), (235, .aload_n 0, 236, []), (236, .getfield 26, 239, []), (239, .iload_n 1, 240, []), (240, .iaload, 241, []), (241, .goto (4), 244, [245]), (244, .iload_n 3, 245, []), (245, .imul, 246, []), (246, .bipush (7), 248, []), (248, .iadd, 249, []), (249, .invokevirtual 154, 252, []), (252, .ireturn, 253, [])]
def cd_mo_isEnd : zm_C := [(0, .iload_n 0, 1, []), (1, .bipush (18), 3, []), (3, .bipush (20), 5, []), (5, .invokestatic 97, 8, []), (8, .ifCond .ne (9), 11, [17]), (11, .iload_n 0, 12, []), (12, .bipush (31), 14, []), (14, .if_icmp .ne (7), 17, [21]), (17, .iconst 1, 18, []), (18, .goto (4), 21, [22]), (21, .iconst 0, 22, []), (22, .ireturn, 23, [])]
def cd_mo_goHandled : zm_C := [(0, .iconst 0, 1, []), (1, .istore_n 2, 2, []), (2, .iload_n 2, 3, []), (3, .aload_n 0, 4, []), (4, .getfield 118, 7, []), (7, .if_icmp .ge (77), 10, [84]), (10, .aload_n 0, 11, []), (11, .getfield 194, 14, []), (14, .ifCond .eq (70), 17, [84]), (17, .iload_n 1, 18, []), (18, .aload_n 0, 19, []), (19, .getfield 29, 22, []), (22, .iload_n 2, 23, []), (23, .iaload, 24, []), (24, .if_icmp .lt (54), 27, [78]), (27, .iload_n 1, 28, []), (28, .aload_n 0, 29, []), (29, .getfield 32, 32, []), (32, .iload_n 2, 33, []), (33, .iaload, 34, []), (34, .if_icmp .lt (6), 37, [40]), (37, .goto (41), 40, [78]), (40, .aload_n 0, 41, []), (41, .iload_n 1, 42, []), (42, .invokevirtual 207, 45, []), (45, .aload_n 0, 46, []), (46, .iconst 1, 47, []), (47, .putfield 138, 50, []), (50, .aload_n 0, 51, []), (51, .getfield 47, 54, []), (54, .iconst 0, 55, []), (55, .bipush (16), 57, []), (57, .aload_n 0, 58, []), (58, .getfield 38, 61, []), (61, .iload_n 2, 62, []), (62, .iaload, 63, []), (63, .imul, 64, []), (64, .bipush (7), 66, []), (66, .iadd, 67, []), (67, .iastore, 68, []), (68, .aload_n 0, 69, []), (69, .aload_n 0, 70, []), (70, .getfield 35, 73, []), (73, .iload_n 2, 74, []), (74, .iaload, 75, []), (75, .invokevirtual 211, 78, []), (78, .iinc 2 (1), 81, []), (81, .goto (-79), 84, [2]), (84, .return_, 85, [])]
def cd_mo_hasRow : zm_C := [(0, .iload_n 1, 1, []), (1, .ifCond .le (19), 4, [20]), (4, .aload_n 0, 5, []), (5, .getfield 20, 8, []), (8, .iload_n 1, 9, []), (9, .iconst 1, 10, []), (10, .isub, 11, []), (11, .iaload, 12, []), (12, .invokestatic 204, 15, []), (15, .ifCond .eq (5), 18, [20]), (18, .iconst 1, 19, []), (19, .ireturn, 20, []), (20, .iconst 0, 21, []), (21, .istore_n 2, 22, []), (22, .iload_n 2, 23, []), (23, .aload_n 0, 24, []), (24, .getfield 115, 27, []), (27, .if_icmp .ge (37), 30, [64]), (30, .aload_n 0, 31, []), (31, .getfield 20, 34, []), (34, .iload_n 2, 35, []), (35, .iaload, 36, []), (36, .bipush (31), 38, []), (38, .bipush (34), 40, []), (40, .invokestatic 97, 43, []), (43, .ifCond .eq (15), 46, [58]), (46, .aload_n 0, 47, []), (47, .getfield 26, 50, []), (50, .iload_n 2, 51, []), (51, .iaload, 52, []), (52, .iload_n 1, 53, []), (53, .if_icmp .ne (5), 56, [58]), (56, .iconst 1, 57, []), (57, .ireturn, 58, []), (58, .iinc 2 (1), 61, []), (61, .goto (-39), 64, [22]), (64, .iconst 0, 65, []), (65, .istore_n 2, 66, []), (66, .iload_n 2, 67, []), (67, .aload_n 0, 68, []), (68, .getfield 118, 71, []), (71, .if_icmp .ge (21), 74, [92]), (74, .aload_n 0, 75, []), (75, .getfield 35, 78, []), (78, .iload_n 2, 79, []), (79, .iaload, 80, []), (80, .iload_n 1, 81, []), (81, .if_icmp .ne (5), 84, [86]), (84, .iconst 1, 85, []), (85, .ireturn, 86, []), (86, .iinc 2 (1), 89, []), (89, .goto (-23), 92, [66]), (92, .iconst 0, 93, []), (93, .ireturn, 94, [])]
def cd_mo_hasThis : zm_C := [(0, .iconst 0, 1, []), (1, .istore_n 2, 2, []), (2, .iload_n 2, 3, []), (3, .bipush (10), 5, []), (5, .if_icmp .ge (27), 8, [32]), (8, .aload_n 0, 9, []), (9, .getfield 59, 12, []), (12, .bipush (10), 14, []), (14, .iload_n 1, 15, []), (15, .imul, 16, []), (16, .iload_n 2, 17, []), (17, .iadd, 18, []), (18, .iaload, 19, []), (19, .bipush (6), 21, []), (21, .if_icmp .ne (5), 24, [26]), (24, .iconst 1, 25, []), (25, .ireturn, 26, []), (26, .iinc 2 (1), 29, []), (29, .goto (-27), 32, [2]), (32, .iconst 0, 33, []), (33, .ireturn, 34, [])]
def cd_mo_isRight : zm_C := [(0, .aload_n 0, 1, []), (1, .aload_n 0, 2, []), (2, .getfield 115, 5, []), (5, .ifCond .le (7), 8, [12]), (8, .iconst 1, 9, []), (9, .goto (4), 12, [13]), (12, .iconst 0, 13, []), (13, .putfield 194, 16, []), (16, .iconst 0, 17, []), (17, .istore_n 1, 18, []), (18, .iload_n 1, 19, []), (19, .bipush (50), 21, []), (21, .if_icmp .ge (16), 24, [37]), (24, .aload_n 0, 25, []), (25, .getfield 50, 28, []), (28, .iload_n 1, 29, []), (29, .iconst 0, 30, []), (30, .bastore, 31, []), (31, .iinc 1 (1), 34, []), (34, .goto (-16), 37, [18]), (37, .aload_n 0, 38, []), (38, .getfield 194, 41, []), (41, .ifCond .ne (5), 44, [46]), (44, .iconst 0, 45, []), (45, .ireturn, 46, []), (46, .aload_n 0, 47, []), (47, .invokevirtual 214, 50, []), (50, .aload_n 0, 51, []), (51, .iconst 0, 52, []), (52, .invokevirtual 211, 55, []), (55, .aload_n 0, 56, []), (56, .iconst 1, 57, []), (57, .putfield 201, 60, []), (60, .aload_n 0, 61, []), (61, .getfield 201, 64, []), (64, .ifCond .eq (138), 67, [202]), (67, .aload_n 0, 68, []), (68, .getfield 194, 71, []), (71, .ifCond .eq (131), 74, [202]), (74, .aload_n 0, 75, []), (75, .iconst 0, 76, []), (76, .putfield 201, 79, []), (79, .iconst 0, 80, []), (80, .istore_n 1, 81, []), (81, .iload_n 1, 82, []), (82, .aload_n 0, 83, []), (83, .getfield 115, 86, []), (86, .if_icmp .ge (113), 89, [199]), (89, .aload_n 0, 90, []), (90, .getfield 194, 93, []), (93, .ifCond .eq (106), 96, [199]), (96, .aload_n 0, 97, []), (97, .getfield 50, 100, []), (100, .iload_n 1, 101, []), (101, .baload, 102, []), (102, .ifCond .ne (6), 105, [108]), (105, .goto (88), 108, [193]), (108, .aload_n 0, 109, []), (109, .iload_n 1, 110, []), (110, .invokevirtual 207, 113, []), (113, .aload_n 0, 114, []), (114, .aload_n 0, 115, []), (115, .iload_n 1, 116, []), (116, .invokevirtual 217, 119, []), (119, .putfield 194, 122, []), (122, .aload_n 0, 123, []), (123, .getfield 194, 126, []), (126, .ifCond .eq (29), 129, [155]), (129, .aload_n 0, 130, []), (130, .getfield 20, 133, []), (133, .iload_n 1, 134, []), (134, .iaload, 135, []), (135, .bipush (31), 137, []), (137, .bipush (34), 139, []), (139, .invokestatic 97, 142, []), (142, .ifCond .eq (13), 145, [155]), (145, .aload_n 0, 146, []), (146, .aload_n 0, 147, []), (147, .getfield 26, 150, []), (150, .iload_n 1, 151, []), (151, .iaload, 152, []), (152, .invokevirtual 211, 155, []), (155, .aload_n 0, 156, []), (156, .getfield 194, 159, []), (159, .ifCond .eq (22), 162, [181]), (162, .aload_n 0, 163, []), (163, .getfield 20, 166, []), (166, .iload_n 1, 167, []), (167, .iaload, 168, []), (168, .invokestatic 204, 171, []), (171, .ifCond .ne (10), 174, [181]), (174, .aload_n 0, 175, []), (175, .iload_n 1, 176, []), (176, .iconst 1, 177, []), (177, .iadd, 178, []), (178, .invokevirtual 211, 181, []), (181, .aload_n 0, 182, []), (182, .getfield 194, 185, []), (185, .ifCond .eq (8), 188, [193]), (188, .aload_n 0, 189, []), (189, .iload_n 1, 190, []), (190, .invokevirtual 220, 193, []), (193, .iinc 1 (1), 196, []), (196, .goto (-115), 199, [81]), (199, .goto (-139), 202, [60]), (202, .iconst 0, 203, []), (203, .istore_n 1, 204, []), (204, .iload_n 1, 205, []), (205, .aload_n 0, 206, []), (206, .getfield 115, 209, []), (209, .if_icmp .ge (55), 212, [264]), (212, .aload_n 0, 213, []), (213, .getfield 194, 216, []), (216, .ifCond .eq (48), 219, [264]), (219, .aload_n 0, 220, []), (220, .getfield 50, 223, []), (223, .iload_n 1, 224, []), (224, .baload, 225, []), (225, .ifCond .eq (28), 228, [253]), (228, .aload_n 0, 229, []), (229, .getfield 53, 232, []), (232, .iload_n 1, 233, []), (233, .baload, 234, []), (234, .ifCond .eq (24), 237, [258]), (237, .aload_n 0, 238, []), (238, .iload_n 1, 239, []), (239, .invokevirtual 223, 242, []), (242, .ifCond .eq (16), 245, [258]), (245, .aload_n 0, 246, []), (246, .iload_n 1, 247, []), (247, .invokevirtual 226, 250, []), (250, .ifCond .ne (8), 253, [258]), (253, .aload_n 0, 254, []), (254, .iconst 0, 255, []), (255, .putfield 194, 258, []), (258, .iinc 1 (1), 261, []), (261, .goto (-57), 264, [204]), (264, .aload_n 0, 265, []), (265, .getfield 194, 268, []), (268, .ireturn, 269, [])]
def cd_mo_enlist : zm_C := [(0, .aload_n 0, 1, []), (1, .iconst 0, 2, []), (2, .putfield 233, 5, []), (5, .iconst 0, 6, []), (6, .istore_n 1, 7, []), (7, .iload_n 1, 8, []), (8, .bipush (10), 10, []), (10, .if_icmp .ge (49), 13, [59]), (13, .aload_n 0, 14, []), (14, .getfield 80, 17, []), (17, .aload_n 0, 18, []), (18, .getfield 233, 21, []), (21, .aload_n 0, 22, []), (22, .getfield 44, 25, []), (25, .iload_n 1, 26, []), (26, .iaload, 27, []), (27, .iastore, 28, []), (28, .aload_n 0, 29, []), (29, .dup, 30, []), (30, .getfield 233, 33, []), (33, .iconst 1, 34, []), (34, .iadd, 35, []), (35, .putfield 233, 38, []), (38, .aload_n 0, 39, []), (39, .getfield 44, 42, []), (42, .iload_n 1, 43, []), (43, .iaload, 44, []), (44, .invokestatic 135, 47, []), (47, .ifCond .eq (6), 50, [53]), (50, .iinc 1 (1), 53, []), (53, .iinc 1 (1), 56, []), (56, .goto (-49), 59, [7]), (59, .aload_n 0, 60, []), (60, .getfield 233, 63, []), (63, .ifCond .le (30), 66, [93]), (66, .aload_n 0, 67, []), (67, .getfield 80, 70, []), (70, .aload_n 0, 71, []), (71, .getfield 233, 74, []), (74, .iconst 1, 75, []), (75, .isub, 76, []), (76, .iaload, 77, []), (77, .ifCond .ne (16), 80, [93]), (80, .aload_n 0, 81, []), (81, .dup, 82, []), (82, .getfield 233, 85, []), (85, .iconst 1, 86, []), (86, .isub, 87, []), (87, .putfield 233, 90, []), (90, .goto (-31), 93, [59]), (93, .return_, 94, [])]
def cd_mo_keep : zm_C := [(0, .iconst 0, 1, []), (1, .istore_n 1, 2, []), (2, .iload_n 1, 3, []), (3, .aload_n 0, 4, []), (4, .getfield 233, 7, []), (7, .if_icmp .ge (21), 10, [28]), (10, .aload_n 0, 11, []), (11, .getfield 83, 14, []), (14, .iload_n 1, 15, []), (15, .aload_n 0, 16, []), (16, .getfield 80, 19, []), (19, .iload_n 1, 20, []), (20, .iaload, 21, []), (21, .iastore, 22, []), (22, .iinc 1 (1), 25, []), (25, .goto (-23), 28, [2]), (28, .aload_n 0, 29, []), (29, .aload_n 0, 30, []), (30, .getfield 233, 33, []), (33, .putfield 236, 36, []), (36, .return_, 37, [])]
def cd_mo_begins : zm_C := [(0, .aload_n 0, 1, []), (1, .getfield 233, 4, []), (4, .aload_n 0, 5, []), (5, .getfield 236, 8, []), (8, .if_icmp .ge (10), 11, [18]), (11, .aload_n 0, 12, []), (12, .getfield 233, 15, []), (15, .goto (7), 18, [22]), (18, .aload_n 0, 19, []), (19, .getfield 236, 22, []), (22, .istore_n 1, 23, []), (23, .iconst 0, 24, []), (24, .istore_n 2, 25, []), (25, .iload_n 2, 26, []), (26, .iload_n 1, 27, []), (27, .if_icmp .ge (26), 30, [53]), (30, .aload_n 0, 31, []), (31, .getfield 80, 34, []), (34, .iload_n 2, 35, []), (35, .iaload, 36, []), (36, .aload_n 0, 37, []), (37, .getfield 83, 40, []), (40, .iload_n 2, 41, []), (41, .iaload, 42, []), (42, .if_icmp .eq (5), 45, [47]), (45, .iconst 0, 46, []), (46, .ireturn, 47, []), (47, .iinc 2 (1), 50, []), (50, .goto (-25), 53, [25]), (53, .iconst 1, 54, []), (54, .ireturn, 55, [])]
def cd_mo_write : zm_C := [(0, .aload_n 0, 1, []), (1, .getfield 86, 4, []), (4, .aload_n 0, 5, []), (5, .getfield 239, 8, []), (8, .iload_n 1, 9, []), (9, .iastore, 10, []), (10, .aload_n 0, 11, []), (11, .dup, 12, []), (12, .getfield 239, 15, []), (15, .iconst 1, 16, []), (16, .iadd, 17, []), (17, .putfield 239, 20, []), (20, .return_, 21, [])]
def cd_mo_writeTwo : zm_C := [(0, .aload_n 0, 1, []), (1, .iload_n 1, 2, []), (2, .bipush (8), 4, []), (4, .ishr, 5, []), (5, .sipush (255), 8, []), (8, .iand, 9, []), (9, .invokevirtual 242, 12, []), (12, .aload_n 0, 13, []), (13, .iload_n 1, 14, []), (14, .sipush (255), 17, []), (17, .iand, 18, []), (18, .invokevirtual 242, 21, []), (21, .return_, 22, [])]
def cd_mo_writeType : zm_C := [(0, .aload_n 0, 1, []), (1, .iload_n 1, 2, []), (2, .invokestatic 89, 5, []), (5, .invokevirtual 242, 8, []), (8, .iload_n 1, 9, []), (9, .invokestatic 89, 12, []), (12, .bipush (6), 14, []), (14, .if_icmp .le (10), 17, [24]), (17, .aload_n 0, 18, []), (18, .iload_n 1, 19, []), (19, .iconst 4, 20, []), (20, .ishr, 21, []), (21, .invokevirtual 245, 24, []), (24, .return_, 25, [])]
def cd_mo_writeRow : zm_C := [(0, .aload_n 0, 1, []), (1, .invokevirtual 248, 4, []), (4, .istore_n 2, 5, []), (5, .aload_n 0, 6, []), (6, .getfield 233, 9, []), (9, .aload_n 0, 10, []), (10, .getfield 236, 13, []), (13, .isub, 14, []), (14, .istore_n 3, 15, []), (15, .iload_n 2, 16, []), (16, .ifCond .eq (43), 19, [59]), (19, .iload_n 3, 20, []), (20, .ifCond .ne (39), 23, [59]), (23, .aload_n 0, 24, []), (24, .getfield 138, 27, []), (27, .ifCond .ne (32), 30, [59]), (30, .iload_n 1, 31, []), (31, .bipush (64), 33, []), (33, .if_icmp .ge (11), 36, [44]), (36, .aload_n 0, 37, []), (37, .iload_n 1, 38, []), (38, .invokevirtual 242, 41, []), (41, .goto (232), 44, [273]), (44, .aload_n 0, 45, []), (45, .sipush (251), 48, []), (48, .invokevirtual 242, 51, []), (51, .aload_n 0, 52, []), (52, .iload_n 1, 53, []), (53, .invokevirtual 245, 56, []), (56, .goto (217), 59, [273]), (59, .iload_n 2, 60, []), (60, .ifCond .eq (57), 63, [117]), (63, .iload_n 3, 64, []), (64, .ifCond .ne (53), 67, [117]), (67, .aload_n 0, 68, []), (68, .getfield 138, 71, []), (71, .iconst 1, 72, []), (72, .if_icmp .ne (45), 75, [117]), (75, .iload_n 1, 76, []), (76, .bipush (64), 78, []), (78, .if_icmp .ge (14), 81, [92]), (81, .aload_n 0, 82, []), (82, .bipush (64), 84, []), (84, .iload_n 1, 85, []), (85, .iadd, 86, []), (86, .invokevirtual 242, 89, []), (89, .goto (15), 92, [104]), (92, .aload_n 0, 93, []), (93, .sipush (247), 96, []), (96, .invokevirtual 242, 99, []), (99, .aload_n 0, 100, []), (100, .iload_n 1, 101, []), (101, .invokevirtual 245, 104, []), (104, .aload_n 0, 105, []), (105, .aload_n 0, 106, []), (106, .getfield 47, 109, []), (109, .iconst 0, 110, []), (110, .iaload, 111, []), (111, .invokevirtual 251, 114, []), (114, .goto (159), 117, [273]), (117, .iload_n 2, 118, []), (118, .ifCond .eq (69), 121, [187]), (121, .iload_n 3, 122, []), (122, .bipush (-3), 124, []), (124, .iconst 3, 125, []), (125, .invokestatic 97, 128, []), (128, .ifCond .eq (59), 131, [187]), (131, .aload_n 0, 132, []), (132, .getfield 138, 135, []), (135, .ifCond .ne (52), 138, [187]), (138, .aload_n 0, 139, []), (139, .sipush (251), 142, []), (142, .iload_n 3, 143, []), (143, .iadd, 144, []), (144, .invokevirtual 242, 147, []), (147, .aload_n 0, 148, []), (148, .iload_n 1, 149, []), (149, .invokevirtual 245, 152, []), (152, .aload_n 0, 153, []), (153, .getfield 236, 156, []), (156, .istore 4, 158, []), (158, .iload 4, 160, []), (160, .aload_n 0, 161, []), (161, .getfield 233, 164, []), (164, .if_icmp .ge (20), 167, [184]), (167, .aload_n 0, 168, []), (168, .aload_n 0, 169, []), (169, .getfield 80, 172, []), (172, .iload 4, 174, []), (174, .iaload, 175, []), (175, .invokevirtual 251, 178, []), (178, .iinc 4 (1), 181, []), (181, .goto (-23), 184, [158]), (184, .goto (89), 187, [273]), (187, .aload_n 0, 188, []), (188, .sipush (255), 191, []), (191, .invokevirtual 242, 194, []), (194, .aload_n 0, 195, []), (195, .iload_n 1, 196, []), (196, .invokevirtual 245, 199, []), (199, .aload_n 0, 200, []), (200, .aload_n 0, 201, []), (201, .getfield 233, 204, []), (204, .invokevirtual 245, 207, []), (207, .iconst 0, 208, []), (208, .istore 4, 210, []), (210, .iload 4, 212, []), (212, .aload_n 0, 213, []), (213, .getfield 233, 216, []), (216, .if_icmp .ge (20), 219, [236]), (219, .aload_n 0, 220, []), (220, .aload_n 0, 221, []), (221, .getfield 80, 224, []), (224, .iload 4, 226, []), (226, .iaload, 227, []), (227, .invokevirtual 251, 230, []), (230, .iinc 4 (1), 233, []), (233, .goto (-23), 236, [210]), (236, .aload_n 0, 237, []), (237, .aload_n 0, 238, []), (238, .getfield 138, 241, []), (241, .invokevirtual 245, 244, []), (244, .iconst 0, 245, []), (245, .istore 4, 247, []), (247, .iload 4, 249, []), (249, .aload_n 0, 250, []), (250, .getfield 138, 253, []), (253, .if_icmp .ge (20), 256, [273]), (256, .aload_n 0, 257, []), (257, .aload_n 0, 258, []), (258, .getfield 47, 261, []), (261, .iload 4, 263, []), (263, .iaload, 264, []), (264, .invokevirtual 251, 267, []), (267, .iinc 4 (1), 270, []), (270, .goto (-23), 273, [247]), (273, .return_, 274, [])]
def cd_mo_make : zm_C := [(0, .aload_n 0, 1, []), (1, .invokevirtual 229, 4, []), (4, .istore_n 1, 5, []), (5, .iload_n 1, 6, []), (6, .ifCond .ne (6), 9, [12]), (9, .bipush (-4), 11, []), (11, .ireturn, 12, []), (12, .iconst 0, 13, []), (13, .istore_n 2, 14, []), (14, .iconst (-1), 15, []), (15, .istore_n 3, 16, []), (16, .aload_n 0, 17, []), (17, .iconst 0, 18, []), (18, .putfield 239, 21, []), (21, .aload_n 0, 22, []), (22, .invokevirtual 214, 25, []), (25, .aload_n 0, 26, []), (26, .invokevirtual 254, 29, []), (29, .aload_n 0, 30, []), (30, .invokevirtual 257, 33, []), (33, .iconst 0, 34, []), (34, .istore 4, 36, []), (36, .iload 4, 38, []), (38, .aload_n 0, 39, []), (39, .getfield 115, 42, []), (42, .if_icmp .ge (63), 45, [105]), (45, .aload_n 0, 46, []), (46, .iload 4, 48, []), (48, .invokevirtual 223, 51, []), (51, .istore 5, 53, []), (53, .iload 5, 55, []), (55, .ifCond .ne (6), 58, [61]), (58, .goto (41), 61, [99]), (61, .aload_n 0, 62, []), (62, .iload 4, 64, []), (64, .invokevirtual 188, 67, []), (67, .istore 6, 69, []), (69, .aload_n 0, 70, []), (70, .iload 4, 72, []), (72, .invokevirtual 207, 75, []), (75, .aload_n 0, 76, []), (76, .invokevirtual 254, 79, []), (79, .aload_n 0, 80, []), (80, .iload 6, 82, []), (82, .iload_n 3, 83, []), (83, .isub, 84, []), (84, .iconst 1, 85, []), (85, .isub, 86, []), (86, .invokevirtual 260, 89, []), (89, .aload_n 0, 90, []), (90, .invokevirtual 257, 93, []), (93, .iload 6, 95, []), (95, .istore_n 3, 96, []), (96, .iinc 2 (1), 99, []), (99, .iinc 4 (1), 102, []), (102, .goto (-66), 105, [36]), (105, .aload_n 0, 106, []), (106, .getfield 239, 109, []), (109, .sipush (400), 112, []), (112, .if_icmp .le (6), 115, [118]), (115, .bipush (-3), 117, []), (117, .ireturn, 118, []), (118, .iconst 0, 119, []), (119, .istore 4, 121, []), (121, .iload 4, 123, []), (123, .aload_n 0, 124, []), (124, .getfield 239, 127, []), (127, .if_icmp .ge (23), 130, [150]), (130, .aload_n 0, 131, []), (131, .getfield 41, 134, []), (134, .iload 4, 136, []), (136, .aload_n 0, 137, []), (137, .getfield 86, 140, []), (140, .iload 4, 142, []), (142, .iaload, 143, []), (143, .iastore, 144, []), (144, .iinc 4 (1), 147, []), (147, .goto (-26), 150, [121]), (150, .aload_n 0, 151, []), (151, .aload_n 0, 152, []), (152, .getfield 239, 155, []), (155, .putfield 263, 158, []), (158, .iload_n 2, 159, []), (159, .ireturn, 160, [])]
def cd_mo_flow : zm_C := [(0, .iload_n 2, 1, []), (1, .iconst 0, 2, []), (2, .bipush (17), 4, []), (4, .invokestatic 97, 7, []), (7, .ifCond .ne (16), 10, [23]), (10, .iload_n 2, 11, []), (11, .bipush (20), 13, []), (13, .bipush (21), 15, []), (15, .invokestatic 97, 18, []), (18, .ifCond .ne (5), 21, [23]), (21, .iconst (-1), 22, []), (22, .ireturn, 23, []), (23, .aload_n 0, 24, []), (24, .invokevirtual 229, 27, []), (27, .istore_n 3, 28, []), (28, .iload_n 3, 29, []), (29, .ifCond .eq (17), 32, [46]), (32, .iload_n 1, 33, []), (33, .iconst 0, 34, []), (34, .aload_n 0, 35, []), (35, .getfield 115, 38, []), (38, .iconst 1, 39, []), (39, .isub, 40, []), (40, .invokestatic 97, 43, []), (43, .ifCond .ne (6), 46, [49]), (46, .bipush (-2), 48, []), (48, .ireturn, 49, []), (49, .iload_n 2, 50, []), (50, .bipush (10), 52, []), (52, .if_icmp .ge (15), 55, [67]), (55, .aload_n 0, 56, []), (56, .getfield 59, 59, []), (59, .bipush (10), 61, []), (61, .iload_n 1, 62, []), (62, .imul, 63, []), (63, .iload_n 2, 64, []), (64, .iadd, 65, []), (65, .iaload, 66, []), (66, .ireturn, 67, []), (67, .iload_n 2, 68, []), (68, .bipush (18), 70, []), (70, .if_icmp .ge (36), 73, [106]), (73, .iload_n 2, 74, []), (74, .bipush (10), 76, []), (76, .isub, 77, []), (77, .aload_n 0, 78, []), (78, .getfield 56, 81, []), (81, .iload_n 1, 82, []), (82, .iaload, 83, []), (83, .if_icmp .ge (20), 86, [103]), (86, .aload_n 0, 87, []), (87, .getfield 62, 90, []), (90, .bipush (8), 92, []), (92, .iload_n 1, 93, []), (93, .imul, 94, []), (94, .iload_n 2, 95, []), (95, .iadd, 96, []), (96, .bipush (10), 98, []), (98, .isub, 99, []), (99, .iaload, 100, []), (100, .goto (5), 103, [105]), (103, .bipush (-2), 105, []), (105, .ireturn, 106, []), (106, .iload_n 2, 107, []), (107, .bipush (20), 109, []), (109, .if_icmp .ne (12), 112, [121]), (112, .aload_n 0, 113, []), (113, .getfield 56, 116, []), (116, .iload_n 1, 117, []), (117, .iaload, 118, []), (118, .goto (17), 121, [135]), (121, .aload_n 0, 122, []), (122, .getfield 53, 125, []), (125, .iload_n 1, 126, []), (126, .baload, 127, []), (127, .ifCond .eq (7), 130, [134]), (130, .iconst 1, 131, []), (131, .goto (4), 134, [135]), (134, .iconst 0, 135, []), (135, .ireturn, 136, [])]
def cd_mo_byteNext : zm_C := [(0, .aload_n 0, 1, []), (1, .getfield 266, 4, []), (4, .aload_n 0, 5, []), (5, .getfield 263, 8, []), (8, .if_icmp .lt (10), 11, [18]), (11, .aload_n 0, 12, []), (12, .iconst 1, 13, []), (13, .putfield 269, 16, []), (16, .iconst 0, 17, []), (17, .ireturn, 18, []), (18, .aload_n 0, 19, []), (19, .dup, 20, []), (20, .getfield 266, 23, []), (23, .iconst 1, 24, []), (24, .iadd, 25, []), (25, .putfield 266, 28, []), (28, .aload_n 0, 29, []), (29, .getfield 41, 32, []), (32, .aload_n 0, 33, []), (33, .getfield 266, 36, []), (36, .iconst 1, 37, []), (37, .isub, 38, []), (38, .iaload, 39, []), (39, .ireturn, 40, [])]
def cd_mo_twoNext : zm_C := [(0, .aload_n 0, 1, []), (1, .invokevirtual 272, 4, []), (4, .istore_n 1, 5, []), (5, .iload_n 1, 6, []), (6, .sipush (256), 9, []), (9, .imul, 10, []), (10, .aload_n 0, 11, []), (11, .invokevirtual 272, 14, []), (14, .iadd, 15, []), (15, .ireturn, 16, [])]
def cd_mo_typeNext : zm_C := [(0, .aload_n 0, 1, []), (1, .invokevirtual 272, 4, []), (4, .istore_n 1, 5, []), (5, .iload_n 1, 6, []), (6, .bipush (7), 8, []), (8, .if_icmp .eq (9), 11, [17]), (11, .iload_n 1, 12, []), (12, .bipush (8), 14, []), (14, .if_icmp .ne (10), 17, [24]), (17, .aload_n 0, 18, []), (18, .invokevirtual 275, 21, []), (21, .goto (4), 24, [25]), (24, .iconst 0, 25, []), (25, .istore_n 2, 26, []), (26, .iload_n 1, 27, []), (27, .bipush (8), 29, []), (29, .if_icmp .gt (15), 32, [44]), (32, .iload_n 1, 33, []), (33, .bipush (7), 35, []), (35, .if_icmp .ne (14), 38, [49]), (38, .iload_n 2, 39, []), (39, .bipush (7), 41, []), (41, .if_icmp .le (8), 44, [49]), (44, .aload_n 0, 45, []), (45, .iconst 1, 46, []), (46, .putfield 269, 49, []), (49, .bipush (16), 51, []), (51, .iload_n 2, 52, []), (52, .imul, 53, []), (53, .iload_n 1, 54, []), (54, .iadd, 55, []), (55, .ireturn, 56, [])]
def cd_mo_stackNext : zm_C := [(0, .aload_n 0, 1, []), (1, .invokevirtual 278, 4, []), (4, .istore_n 1, 5, []), (5, .aload_n 0, 6, []), (6, .iload_n 1, 7, []), (7, .invokevirtual 154, 10, []), (10, .istore_n 2, 11, []), (11, .iload_n 2, 12, []), (12, .ifCond .ne (8), 15, [20]), (15, .aload_n 0, 16, []), (16, .iconst 1, 17, []), (17, .putfield 269, 20, []), (20, .return_, 21, [])]
def cd_mo_enter : zm_C := [(0, .iload_n 1, 1, []), (1, .invokestatic 135, 4, []), (4, .ifCond .eq (7), 7, [11]), (7, .iconst 2, 8, []), (8, .goto (4), 11, [12]), (11, .iconst 1, 12, []), (12, .istore_n 2, 13, []), (13, .iconst 0, 14, []), (14, .istore_n 3, 15, []), (15, .iload_n 3, 16, []), (16, .aload_n 0, 17, []), (17, .getfield 233, 20, []), (20, .if_icmp .ge (29), 23, [49]), (23, .iload_n 2, 24, []), (24, .aload_n 0, 25, []), (25, .getfield 80, 28, []), (28, .iload_n 3, 29, []), (29, .iaload, 30, []), (30, .invokestatic 135, 33, []), (33, .ifCond .eq (7), 36, [40]), (36, .iconst 2, 37, []), (37, .goto (4), 40, [41]), (40, .iconst 1, 41, []), (41, .iadd, 42, []), (42, .istore_n 2, 43, []), (43, .iinc 3 (1), 46, []), (46, .goto (-31), 49, [15]), (49, .iload_n 2, 50, []), (50, .bipush (10), 52, []), (52, .if_icmp .le (9), 55, [61]), (55, .aload_n 0, 56, []), (56, .iconst 1, 57, []), (57, .putfield 269, 60, []), (60, .return_, 61, []), (61, .aload_n 0, 62, []), (62, .getfield 80, 65, []), (65, .aload_n 0, 66, []), (66, .getfield 233, 69, []), (69, .iload_n 1, 70, []), (70, .iastore, 71, []), (71, .aload_n 0, 72, []), (72, .dup, 73, []), (73, .getfield 233, 76, []), (76, .iconst 1, 77, []), (77, .iadd, 78, []), (78, .putfield 233, 81, []), (81, .return_, 82, [])]
def cd_mo_readFull : zm_C := [(0, .aload_n 0, 1, []), (1, .iconst 0, 2, []), (2, .putfield 233, 5, []), (5, .aload_n 0, 6, []), (6, .invokevirtual 275, 9, []), (9, .istore_n 1, 10, []), (10, .iconst 0, 11, []), (11, .istore_n 2, 12, []), (12, .iload_n 2, 13, []), (13, .iload_n 1, 14, []), (14, .if_icmp .ge (26), 17, [40]), (17, .aload_n 0, 18, []), (18, .getfield 269, 21, []), (21, .ifCond .ne (19), 24, [40]), (24, .aload_n 0, 25, []), (25, .invokevirtual 278, 28, []), (28, .istore_n 3, 29, []), (29, .aload_n 0, 30, []), (30, .iload_n 3, 31, []), (31, .invokevirtual 284, 34, []), (34, .iinc 2 (1), 37, []), (37, .goto (-25), 40, [12]), (40, .aload_n 0, 41, []), (41, .invokevirtual 275, 44, []), (44, .istore_n 1, 45, []), (45, .iconst 0, 46, []), (46, .istore_n 2, 47, []), (47, .iload_n 2, 48, []), (48, .iload_n 1, 49, []), (49, .if_icmp .ge (20), 52, [69]), (52, .aload_n 0, 53, []), (53, .getfield 269, 56, []), (56, .ifCond .ne (13), 59, [69]), (59, .aload_n 0, 60, []), (60, .invokevirtual 281, 63, []), (63, .iinc 2 (1), 66, []), (66, .goto (-19), 69, [47]), (69, .return_, 70, [])]
def cd_mo_readForm : zm_C := [(0, .iload_n 1, 1, []), (1, .bipush (64), 3, []), (3, .if_icmp .ge (7), 6, [10]), (6, .iload_n 1, 7, []), (7, .goto (18), 10, [25]), (10, .iload_n 1, 11, []), (11, .sipush (128), 14, []), (14, .if_icmp .ge (10), 17, [24]), (17, .iload_n 1, 18, []), (18, .bipush (64), 20, []), (20, .isub, 21, []), (21, .goto (4), 24, [25]), (24, .iconst 0, 25, []), (25, .istore_n 2, 26, []), (26, .iload_n 1, 27, []), (27, .sipush (128), 30, []), (30, .sipush (246), 33, []), (33, .invokestatic 97, 36, []), (36, .ifCond .eq (11), 39, [47]), (39, .aload_n 0, 40, []), (40, .iconst 1, 41, []), (41, .putfield 269, 44, []), (44, .goto (15), 47, [59]), (47, .iload_n 1, 48, []), (48, .sipush (246), 51, []), (51, .if_icmp .le (8), 54, [59]), (54, .aload_n 0, 55, []), (55, .invokevirtual 275, 58, []), (58, .istore_n 2, 59, []), (59, .iload_n 1, 60, []), (60, .bipush (64), 62, []), (62, .bipush (127), 64, []), (64, .invokestatic 97, 67, []), (67, .ifCond .ne (10), 70, [77]), (70, .iload_n 1, 71, []), (71, .sipush (247), 74, []), (74, .if_icmp .ne (7), 77, [81]), (77, .aload_n 0, 78, []), (78, .invokevirtual 281, 81, []), (81, .iload_n 1, 82, []), (82, .sipush (248), 85, []), (85, .sipush (250), 88, []), (88, .invokestatic 97, 91, []), (91, .ifCond .eq (34), 94, [125]), (94, .aload_n 0, 95, []), (95, .dup, 96, []), (96, .getfield 233, 99, []), (99, .sipush (251), 102, []), (102, .iload_n 1, 103, []), (103, .isub, 104, []), (104, .isub, 105, []), (105, .putfield 233, 108, []), (108, .aload_n 0, 109, []), (109, .getfield 233, 112, []), (112, .ifCond .ge (13), 115, [125]), (115, .aload_n 0, 116, []), (116, .iconst 1, 117, []), (117, .putfield 269, 120, []), (120, .aload_n 0, 121, []), (121, .iconst 0, 122, []), (122, .putfield 233, 125, []), (125, .sipush (251), 128, []), (128, .istore_n 3, 129, []), (129, .iload_n 3, 130, []), (130, .iload_n 1, 131, []), (131, .if_icmp .ge (35), 134, [166]), (134, .iload_n 1, 135, []), (135, .sipush (255), 138, []), (138, .if_icmp .ge (28), 141, [166]), (141, .aload_n 0, 142, []), (142, .getfield 269, 145, []), (145, .ifCond .ne (21), 148, [166]), (148, .aload_n 0, 149, []), (149, .invokevirtual 278, 152, []), (152, .istore 4, 154, []), (154, .aload_n 0, 155, []), (155, .iload 4, 157, []), (157, .invokevirtual 284, 160, []), (160, .iinc 3 (1), 163, []), (163, .goto (-34), 166, [129]), (166, .iload_n 1, 167, []), (167, .sipush (255), 170, []), (170, .if_icmp .ne (7), 173, [177]), (173, .aload_n 0, 174, []), (174, .invokevirtual 287, 177, []), (177, .iload_n 2, 178, []), (178, .ireturn, 179, [])]
def cd_mo_readRows : zm_C := [(0, .aload_n 0, 1, []), (1, .iconst 0, 2, []), (2, .putfield 290, 5, []), (5, .aload_n 0, 6, []), (6, .iconst 0, 7, []), (7, .putfield 266, 10, []), (10, .aload_n 0, 11, []), (11, .iconst 0, 12, []), (12, .putfield 269, 15, []), (15, .iconst (-1), 16, []), (16, .istore_n 1, 17, []), (17, .aload_n 0, 18, []), (18, .invokevirtual 214, 21, []), (21, .aload_n 0, 22, []), (22, .invokevirtual 254, 25, []), (25, .aload_n 0, 26, []), (26, .getfield 266, 29, []), (29, .aload_n 0, 30, []), (30, .getfield 263, 33, []), (33, .if_icmp .ge (239), 36, [272]), (36, .aload_n 0, 37, []), (37, .getfield 269, 40, []), (40, .ifCond .ne (232), 43, [272]), (43, .aload_n 0, 44, []), (44, .iconst 0, 45, []), (45, .putfield 138, 48, []), (48, .aload_n 0, 49, []), (49, .invokevirtual 272, 52, []), (52, .istore_n 2, 53, []), (53, .aload_n 0, 54, []), (54, .iload_n 2, 55, []), (55, .invokevirtual 293, 58, []), (58, .istore_n 3, 59, []), (59, .iload_n 1, 60, []), (60, .iconst 1, 61, []), (61, .iadd, 62, []), (62, .iload_n 3, 63, []), (63, .iadd, 64, []), (64, .istore 4, 66, []), (66, .aload_n 0, 67, []), (67, .getfield 269, 70, []), (70, .ifCond .ne (12), 73, [82]), (73, .aload_n 0, 74, []), (74, .iload 4, 76, []), (76, .invokevirtual 179, 79, []), (79, .ifCond .ge (5), 82, [84]), (82, .iconst 0, 83, []), (83, .ireturn, 84, []), (84, .iload 4, 86, []), (86, .istore_n 1, 87, []), (87, .aload_n 0, 88, []), (88, .getfield 65, 91, []), (91, .aload_n 0, 92, []), (92, .getfield 290, 95, []), (95, .iload 4, 97, []), (97, .iastore, 98, []), (98, .aload_n 0, 99, []), (99, .getfield 68, 102, []), (102, .aload_n 0, 103, []), (103, .getfield 290, 106, []), (106, .iload_n 2, 107, []), (107, .iastore, 108, []), (108, .aload_n 0, 109, []), (109, .getfield 71, 112, []), (112, .aload_n 0, 113, []), (113, .getfield 290, 116, []), (116, .aload_n 0, 117, []), (117, .getfield 138, 120, []), (120, .iastore, 121, []), (121, .iconst 0, 122, []), (122, .istore 5, 124, []), (124, .iload 5, 126, []), (126, .aload_n 0, 127, []), (127, .getfield 138, 130, []), (130, .if_icmp .ge (31), 133, [161]), (133, .aload_n 0, 134, []), (134, .getfield 77, 137, []), (137, .bipush (8), 139, []), (139, .aload_n 0, 140, []), (140, .getfield 290, 143, []), (143, .imul, 144, []), (144, .iload 5, 146, []), (146, .iadd, 147, []), (147, .aload_n 0, 148, []), (148, .getfield 47, 151, []), (151, .iload 5, 153, []), (153, .iaload, 154, []), (154, .iastore, 155, []), (155, .iinc 5 (1), 158, []), (158, .goto (-34), 161, [124]), (161, .iconst 0, 162, []), (162, .istore 5, 164, []), (164, .iconst 0, 165, []), (165, .istore 6, 167, []), (167, .iload 6, 169, []), (169, .bipush (10), 171, []), (171, .if_icmp .ge (25), 174, [196]), (174, .aload_n 0, 175, []), (175, .getfield 74, 178, []), (178, .bipush (10), 180, []), (180, .aload_n 0, 181, []), (181, .getfield 290, 184, []), (184, .imul, 185, []), (185, .iload 6, 187, []), (187, .iadd, 188, []), (188, .iconst 0, 189, []), (189, .iastore, 190, []), (190, .iinc 6 (1), 193, []), (193, .goto (-26), 196, [167]), (196, .iconst 0, 197, []), (197, .istore 6, 199, []), (199, .iload 6, 201, []), (201, .aload_n 0, 202, []), (202, .getfield 233, 205, []), (205, .if_icmp .ge (54), 208, [259]), (208, .aload_n 0, 209, []), (209, .getfield 74, 212, []), (212, .bipush (10), 214, []), (214, .aload_n 0, 215, []), (215, .getfield 290, 218, []), (218, .imul, 219, []), (219, .iload 5, 221, []), (221, .iadd, 222, []), (222, .aload_n 0, 223, []), (223, .getfield 80, 226, []), (226, .iload 6, 228, []), (228, .iaload, 229, []), (229, .iastore, 230, []), (230, .iload 5, 232, []), (232, .aload_n 0, 233, []), (233, .getfield 80, 236, []), (236, .iload 6, 238, []), (238, .iaload, 239, []), (239, .invokestatic 135, 242, []), (242, .ifCond .eq (7), 245, [249]), (245, .iconst 2, 246, []), (246, .goto (4), 249, [250]), (249, .iconst 1, 250, []), (250, .iadd, 251, []), (251, .istore 5, 253, []), (253, .iinc 6 (1), 256, []), (256, .goto (-57), 259, [199]), (259, .aload_n 0, 260, []), (260, .dup, 261, []), (261, .getfield 290, 264, []), (264, .iconst 1, 265, []), (265, .iadd, 266, []), (266, .putfield 290, 269, []), (269, .goto (-244), 272, [25]), (272, .aload_n 0, 273, []), (273, .getfield 269, 276, []), (276, .ifCond .ne (7), 279, [283]), (279, .iconst 1, 280, []), (280, .goto (4), 283, [284]), (283, .iconst 0, 284, []), (284, .ireturn, 285, [])]
def cd_mo_rowAt : zm_C := [(0, .iconst 0, 1, []), (1, .istore_n 2, 2, []), (2, .iload_n 2, 3, []), (3, .aload_n 0, 4, []), (4, .getfield 290, 7, []), (7, .if_icmp .ge (21), 10, [28]), (10, .aload_n 0, 11, []), (11, .getfield 65, 14, []), (14, .iload_n 2, 15, []), (15, .iaload, 16, []), (16, .iload_n 1, 17, []), (17, .if_icmp .ne (5), 20, [22]), (20, .iload_n 2, 21, []), (21, .ireturn, 22, []), (22, .iinc 2 (1), 25, []), (25, .goto (-23), 28, [2]), (28, .iconst (-1), 29, []), (29, .ireturn, 30, [])]
def cd_mo_rowIsRaw : zm_C := [(0, .iconst 0, 1, []), (1, .istore_n 2, 2, []), (2, .iload_n 2, 3, []), (3, .bipush (10), 5, []), (5, .if_icmp .ge (27), 8, [32]), (8, .aload_n 0, 9, []), (9, .getfield 74, 12, []), (12, .bipush (10), 14, []), (14, .iload_n 1, 15, []), (15, .imul, 16, []), (16, .iload_n 2, 17, []), (17, .iadd, 18, []), (18, .iaload, 19, []), (19, .bipush (6), 21, []), (21, .if_icmp .ne (5), 24, [26]), (24, .iconst 1, 25, []), (25, .ireturn, 26, []), (26, .iinc 2 (1), 29, []), (29, .goto (-27), 32, [2]), (32, .iconst 0, 33, []), (33, .ireturn, 34, [])]
def cd_mo_fits : zm_C := [(0, .aload_n 0, 1, []), (1, .getfield 138, 4, []), (4, .aload_n 0, 5, []), (5, .getfield 71, 8, []), (8, .iload_n 1, 9, []), (9, .iaload, 10, []), (10, .if_icmp .ne (15), 13, [25]), (13, .aload_n 0, 14, []), (14, .getfield 141, 17, []), (17, .aload_n 0, 18, []), (18, .iload_n 1, 19, []), (19, .invokevirtual 296, 22, []), (22, .if_icmp .eq (5), 25, [27]), (25, .iconst 0, 26, []), (26, .ireturn, 27, []), (27, .iconst 0, 28, []), (28, .istore_n 2, 29, []), (29, .iload_n 2, 30, []), (30, .bipush (10), 32, []), (32, .if_icmp .ge (37), 35, [69]), (35, .aload_n 0, 36, []), (36, .aload_n 0, 37, []), (37, .getfield 44, 40, []), (40, .iload_n 2, 41, []), (41, .iaload, 42, []), (42, .aload_n 0, 43, []), (43, .getfield 74, 46, []), (46, .bipush (10), 48, []), (48, .iload_n 1, 49, []), (49, .imul, 50, []), (50, .iload_n 2, 51, []), (51, .iadd, 52, []), (52, .iaload, 53, []), (53, .invokevirtual 170, 56, []), (56, .istore_n 3, 57, []), (57, .iload_n 3, 58, []), (58, .ifCond .ne (5), 61, [63]), (61, .iconst 0, 62, []), (62, .ireturn, 63, []), (63, .iinc 2 (1), 66, []), (66, .goto (-37), 69, [29]), (69, .iconst 0, 70, []), (70, .istore_n 2, 71, []), (71, .iload_n 2, 72, []), (72, .aload_n 0, 73, []), (73, .getfield 138, 76, []), (76, .if_icmp .ge (37), 79, [113]), (79, .aload_n 0, 80, []), (80, .aload_n 0, 81, []), (81, .getfield 47, 84, []), (84, .iload_n 2, 85, []), (85, .iaload, 86, []), (86, .aload_n 0, 87, []), (87, .getfield 77, 90, []), (90, .bipush (8), 92, []), (92, .iload_n 1, 93, []), (93, .imul, 94, []), (94, .iload_n 2, 95, []), (95, .iadd, 96, []), (96, .iaload, 97, []), (97, .invokevirtual 170, 100, []), (100, .istore_n 3, 101, []), (101, .iload_n 3, 102, []), (102, .ifCond .ne (5), 105, [107]), (105, .iconst 0, 106, []), (106, .ireturn, 107, []), (107, .iinc 2 (1), 110, []), (110, .goto (-39), 113, [71]), (113, .iconst 1, 114, []), (114, .ireturn, 115, [])]
def cd_mo_take : zm_C := [(0, .aload_n 0, 1, []), (1, .aload_n 0, 2, []), (2, .getfield 71, 5, []), (5, .iload_n 1, 6, []), (6, .iaload, 7, []), (7, .putfield 138, 10, []), (10, .aload_n 0, 11, []), (11, .aload_n 0, 12, []), (12, .iload_n 1, 13, []), (13, .invokevirtual 296, 16, []), (16, .putfield 141, 19, []), (19, .iconst 0, 20, []), (20, .istore_n 2, 21, []), (21, .iload_n 2, 22, []), (22, .bipush (10), 24, []), (24, .if_icmp .ge (26), 27, [50]), (27, .aload_n 0, 28, []), (28, .getfield 44, 31, []), (31, .iload_n 2, 32, []), (32, .aload_n 0, 33, []), (33, .getfield 74, 36, []), (36, .bipush (10), 38, []), (38, .iload_n 1, 39, []), (39, .imul, 40, []), (40, .iload_n 2, 41, []), (41, .iadd, 42, []), (42, .iaload, 43, []), (43, .iastore, 44, []), (44, .iinc 2 (1), 47, []), (47, .goto (-26), 50, [21]), (50, .iconst 0, 51, []), (51, .istore_n 2, 52, []), (52, .iload_n 2, 53, []), (53, .aload_n 0, 54, []), (54, .getfield 138, 57, []), (57, .if_icmp .ge (26), 60, [83]), (60, .aload_n 0, 61, []), (61, .getfield 47, 64, []), (64, .iload_n 2, 65, []), (65, .aload_n 0, 66, []), (66, .getfield 77, 69, []), (69, .bipush (8), 71, []), (71, .iload_n 1, 72, []), (72, .imul, 73, []), (73, .iload_n 2, 74, []), (74, .iadd, 75, []), (75, .iaload, 76, []), (76, .iastore, 77, []), (77, .iinc 2 (1), 80, []), (80, .goto (-28), 83, [52]), (83, .return_, 84, [])]
def cd_mo_fitsAt : zm_C := [(0, .iload_n 1, 1, []), (1, .aload_n 0, 2, []), (2, .getfield 115, 5, []), (5, .if_icmp .lt (5), 8, [10]), (8, .iconst 0, 9, []), (9, .ireturn, 10, []), (10, .aload_n 0, 11, []), (11, .aload_n 0, 12, []), (12, .iload_n 1, 13, []), (13, .invokevirtual 188, 16, []), (16, .invokevirtual 299, 19, []), (19, .istore_n 2, 20, []), (20, .iload_n 2, 21, []), (21, .ifCond .lt (15), 24, [36]), (24, .aload_n 0, 25, []), (25, .iload_n 2, 26, []), (26, .invokevirtual 302, 29, []), (29, .ifCond .eq (7), 32, [36]), (32, .iconst 1, 33, []), (33, .goto (4), 36, [37]), (36, .iconst 0, 37, []), (37, .ireturn, 38, [])]
def cd_mo_handled : zm_C := [(0, .iconst 0, 1, []), (1, .istore_n 2, 2, []), (2, .iload_n 2, 3, []), (3, .aload_n 0, 4, []), (4, .getfield 118, 7, []), (7, .if_icmp .ge (100), 10, [107]), (10, .iload_n 1, 11, []), (11, .aload_n 0, 12, []), (12, .getfield 29, 15, []), (15, .iload_n 2, 16, []), (16, .iaload, 17, []), (17, .if_icmp .lt (84), 20, [101]), (20, .iload_n 1, 21, []), (21, .aload_n 0, 22, []), (22, .getfield 32, 25, []), (25, .iload_n 2, 26, []), (26, .iaload, 27, []), (27, .if_icmp .lt (6), 30, [33]), (30, .goto (71), 33, [101]), (33, .aload_n 0, 34, []), (34, .getfield 138, 37, []), (37, .istore_n 3, 38, []), (38, .aload_n 0, 39, []), (39, .getfield 47, 42, []), (42, .iconst 0, 43, []), (43, .iaload, 44, []), (44, .istore 4, 46, []), (46, .aload_n 0, 47, []), (47, .iconst 1, 48, []), (48, .putfield 138, 51, []), (51, .aload_n 0, 52, []), (52, .getfield 47, 55, []), (55, .iconst 0, 56, []), (56, .bipush (16), 58, []), (58, .aload_n 0, 59, []), (59, .getfield 38, 62, []), (62, .iload_n 2, 63, []), (63, .iaload, 64, []), (64, .imul, 65, []), (65, .bipush (7), 67, []), (67, .iadd, 68, []), (68, .iastore, 69, []), (69, .aload_n 0, 70, []), (70, .aload_n 0, 71, []), (71, .getfield 35, 74, []), (74, .iload_n 2, 75, []), (75, .iaload, 76, []), (76, .invokevirtual 305, 79, []), (79, .istore 5, 81, []), (81, .aload_n 0, 82, []), (82, .iload_n 3, 83, []), (83, .putfield 138, 86, []), (86, .aload_n 0, 87, []), (87, .getfield 47, 90, []), (90, .iconst 0, 91, []), (91, .iload 4, 93, []), (93, .iastore, 94, []), (94, .iload 5, 96, []), (96, .ifCond .ne (5), 99, [101]), (99, .iconst 0, 100, []), (100, .ireturn, 101, []), (101, .iinc 2 (1), 104, []), (104, .goto (-102), 107, [2]), (107, .iconst 1, 108, []), (108, .ireturn, 109, [])]
def cd_mo_check : zm_C := [(0, .aload_n 0, 1, []), (1, .getfield 115, 4, []), (4, .ifCond .ne (6), 7, [10]), (7, .bipush (-4), 9, []), (9, .ireturn, 10, []), (10, .aload_n 0, 11, []), (11, .invokevirtual 308, 14, []), (14, .istore_n 1, 15, []), (15, .iload_n 1, 16, []), (16, .ifCond .ne (6), 19, [22]), (19, .bipush (-5), 21, []), (21, .ireturn, 22, []), (22, .iconst 1, 23, []), (23, .istore_n 2, 24, []), (24, .aload_n 0, 25, []), (25, .invokevirtual 214, 28, []), (28, .iconst 0, 29, []), (29, .istore_n 3, 30, []), (30, .iload_n 3, 31, []), (31, .aload_n 0, 32, []), (32, .getfield 115, 35, []), (35, .if_icmp .ge (139), 38, [174]), (38, .aload_n 0, 39, []), (39, .aload_n 0, 40, []), (40, .iload_n 3, 41, []), (41, .invokevirtual 188, 44, []), (44, .invokevirtual 299, 47, []), (47, .istore 4, 49, []), (49, .iload 4, 51, []), (51, .ifCond .ge (10), 54, [61]), (54, .iload_n 2, 55, []), (55, .ifCond .ne (21), 58, [76]), (58, .goto (16), 61, [74]), (61, .iload_n 2, 62, []), (62, .ifCond .eq (14), 65, [76]), (65, .aload_n 0, 66, []), (66, .iload 4, 68, []), (68, .invokevirtual 302, 71, []), (71, .ifCond .ne (5), 74, [76]), (74, .iload_n 3, 75, []), (75, .ireturn, 76, []), (76, .iload 4, 78, []), (78, .ifCond .lt (9), 81, [87]), (81, .aload_n 0, 82, []), (82, .iload 4, 84, []), (84, .invokevirtual 311, 87, []), (87, .aload_n 0, 88, []), (88, .iload_n 3, 89, []), (89, .invokevirtual 314, 92, []), (92, .ifCond .eq (15), 95, [107]), (95, .aload_n 0, 96, []), (96, .iload_n 3, 97, []), (97, .invokevirtual 217, 100, []), (100, .ifCond .eq (7), 103, [107]), (103, .iconst 1, 104, []), (104, .goto (4), 107, [108]), (107, .iconst 0, 108, []), (108, .istore_n 1, 109, []), (109, .iload_n 1, 110, []), (110, .ifCond .ne (5), 113, [115]), (113, .iload_n 3, 114, []), (114, .ireturn, 115, []), (115, .aload_n 0, 116, []), (116, .getfield 20, 119, []), (119, .iload_n 3, 120, []), (120, .iaload, 121, []), (121, .bipush (31), 123, []), (123, .bipush (34), 125, []), (125, .invokestatic 97, 128, []), (128, .ifCond .eq (22), 131, [150]), (131, .aload_n 0, 132, []), (132, .aload_n 0, 133, []), (133, .getfield 26, 136, []), (136, .iload_n 3, 137, []), (137, .iaload, 138, []), (138, .invokevirtual 305, 141, []), (141, .istore 5, 143, []), (143, .iload 5, 145, []), (145, .ifCond .ne (5), 148, [150]), (148, .iload_n 3, 149, []), (149, .ireturn, 150, []), (150, .aload_n 0, 151, []), (151, .getfield 20, 154, []), (154, .iload_n 3, 155, []), (155, .iaload, 156, []), (156, .invokestatic 204, 159, []), (159, .ifCond .ne (7), 162, [166]), (162, .iconst 1, 163, []), (163, .goto (4), 166, [167]), (166, .iconst 0, 167, []), (167, .istore_n 2, 168, []), (168, .iinc 3 (1), 171, []), (171, .goto (-141), 174, [30]), (174, .iload_n 2, 175, []), (175, .ifCond .eq (10), 178, [185]), (178, .aload_n 0, 179, []), (179, .getfield 115, 182, []), (182, .goto (5), 185, [187]), (185, .bipush (-2), 187, []), (187, .ireturn, 188, [])]
def cd_mo_map : zm_C := [(0, .iload_n 1, 1, []), (1, .iconst (-1), 2, []), (2, .if_icmp .ne (10), 5, [12]), (5, .aload_n 0, 6, []), (6, .getfield 263, 9, []), (9, .goto (28), 12, [37]), (12, .iload_n 1, 13, []), (13, .iconst 0, 14, []), (14, .aload_n 0, 15, []), (15, .getfield 263, 18, []), (18, .iconst 1, 19, []), (19, .isub, 20, []), (20, .invokestatic 97, 23, []), (23, .ifCond .eq (12), 26, [35]), (26, .aload_n 0, 27, []), (27, .getfield 41, 30, []), (30, .iload_n 1, 31, []), (31, .iaload, 32, []), (32, .goto (5), 35, [37]), (35, .bipush (-2), 37, []), (37, .ireturn, 38, [])]
def cd_mo_patch : zm_C := [(0, .iload_n 1, 1, []), (1, .iconst 0, 2, []), (2, .aload_n 0, 3, []), (3, .getfield 263, 6, []), (6, .invokestatic 97, 9, []), (9, .ifCond .eq (21), 12, [30]), (12, .iload_n 2, 13, []), (13, .iconst 0, 14, []), (14, .sipush (255), 17, []), (17, .invokestatic 97, 20, []), (20, .ifCond .eq (10), 23, [30]), (23, .iload_n 1, 24, []), (24, .sipush (400), 27, []), (27, .if_icmp .ne (5), 30, [32]), (30, .iconst 0, 31, []), (31, .ireturn, 32, []), (32, .aload_n 0, 33, []), (33, .getfield 41, 36, []), (36, .iload_n 1, 37, []), (37, .iload_n 2, 38, []), (38, .iastore, 39, []), (39, .iload_n 1, 40, []), (40, .aload_n 0, 41, []), (41, .getfield 263, 44, []), (44, .if_icmp .ne (13), 47, [57]), (47, .aload_n 0, 48, []), (48, .dup, 49, []), (49, .getfield 263, 52, []), (52, .iconst 1, 53, []), (53, .iadd, 54, []), (54, .putfield 263, 57, []), (57, .iconst 1, 58, []), (58, .ireturn, 59, [])]
def cd_mo_cut : zm_C := [(0, .iload_n 1, 1, []), (1, .iconst 0, 2, []), (2, .aload_n 0, 3, []), (3, .getfield 263, 6, []), (6, .invokestatic 97, 9, []), (9, .ifCond .ne (5), 12, [14]), (12, .iconst (-1), 13, []), (13, .ireturn, 14, []), (14, .aload_n 0, 15, []), (15, .getfield 263, 18, []), (18, .iload_n 1, 19, []), (19, .isub, 20, []), (20, .istore_n 2, 21, []), (21, .aload_n 0, 22, []), (22, .iload_n 1, 23, []), (23, .putfield 263, 26, []), (26, .iload_n 2, 27, []), (27, .ireturn, 28, [])]
def cd_mo_row : zm_C := [(0, .iload_n 2, 1, []), (1, .iconst 0, 2, []), (2, .bipush (17), 4, []), (4, .invokestatic 97, 7, []), (7, .ifCond .ne (16), 10, [23]), (10, .iload_n 2, 11, []), (11, .bipush (20), 13, []), (13, .bipush (22), 15, []), (15, .invokestatic 97, 18, []), (18, .ifCond .ne (5), 21, [23]), (21, .iconst (-1), 22, []), (22, .ireturn, 23, []), (23, .aload_n 0, 24, []), (24, .invokevirtual 308, 27, []), (27, .istore_n 3, 28, []), (28, .iload_n 3, 29, []), (29, .ifCond .eq (17), 32, [46]), (32, .iload_n 1, 33, []), (33, .iconst 0, 34, []), (34, .aload_n 0, 35, []), (35, .getfield 290, 38, []), (38, .iconst 1, 39, []), (39, .isub, 40, []), (40, .invokestatic 97, 43, []), (43, .ifCond .ne (6), 46, [49]), (46, .bipush (-2), 48, []), (48, .ireturn, 49, []), (49, .iload_n 2, 50, []), (50, .bipush (10), 52, []), (52, .if_icmp .ge (15), 55, [67]), (55, .aload_n 0, 56, []), (56, .getfield 74, 59, []), (59, .bipush (10), 61, []), (61, .iload_n 1, 62, []), (62, .imul, 63, []), (63, .iload_n 2, 64, []), (64, .iadd, 65, []), (65, .iaload, 66, []), (66, .ireturn, 67, []), (67, .iload_n 2, 68, []), (68, .bipush (18), 70, []), (70, .if_icmp .ge (36), 73, [106]), (73, .iload_n 2, 74, []), (74, .bipush (10), 76, []), (76, .isub, 77, []), (77, .aload_n 0, 78, []), (78, .getfield 71, 81, []), (81, .iload_n 1, 82, []), (82, .iaload, 83, []), (83, .if_icmp .ge (20), 86, [103]), (86, .aload_n 0, 87, []), (87, .getfield 77, 90, []), (90, .bipush (8), 92, []), (92, .iload_n 1, 93, []), (93, .imul, 94, []), (94, .iload_n 2, 95, []), (95, .iadd, 96, []), (96, .bipush (10), 98, []), (98, .isub, 99, []), (99, .iaload, 100, []), (100, .goto (5), 103, [105]), (103, .bipush (-2), 105, []), (105, .ireturn, 106, []), (106, .iload_n 2, 107, []), (107, .bipush (20), 109, []), (109, .if_icmp .ne (12), 112, [121]), (112, .aload_n 0, 113, []), (113, .getfield 71, 116, []), (116, .iload_n 1, 117, []), (117, .iaload, 118, []), (118, .goto (24), 121, [142]), (121, .iload_n 2, 122, []), (122, .bipush (21), 124, []), (124, .if_icmp .ne (12), 127, [136]), (127, .aload_n 0, 128, []), (128, .getfield 65, 131, []), (131, .iload_n 1, 132, []), (132, .iaload, 133, []), (133, .goto (9), 136, [142]), (136, .aload_n 0, 137, []), (137, .getfield 68, 140, []), (140, .iload_n 1, 141, []), (141, .iaload, 142, []), (142, .ireturn, 143, [])]
def cd_mo_code : zm_C := [(0, .iload_n 2, 1, []), (1, .iconst 0, 2, []), (2, .iconst 3, 3, []), (3, .invokestatic 97, 6, []), (6, .ifCond .ne (5), 9, [11]), (9, .iconst (-1), 10, []), (10, .ireturn, 11, []), (11, .iload_n 1, 12, []), (12, .iconst 0, 13, []), (13, .aload_n 0, 14, []), (14, .getfield 115, 17, []), (17, .iconst 1, 18, []), (18, .isub, 19, []), (19, .invokestatic 97, 22, []), (22, .ifCond .ne (6), 25, [28]), (25, .bipush (-2), 27, []), (27, .ireturn, 28, []), (28, .iload_n 2, 29, []), (29, .ifCond .ne (12), 32, [41]), (32, .aload_n 0, 33, []), (33, .getfield 20, 36, []), (36, .iload_n 1, 37, []), (37, .iaload, 38, []), (38, .goto (36), 41, [74]), (41, .iload_n 2, 42, []), (42, .iconst 1, 43, []), (43, .if_icmp .ne (12), 46, [55]), (46, .aload_n 0, 47, []), (47, .getfield 23, 50, []), (50, .iload_n 1, 51, []), (51, .iaload, 52, []), (52, .goto (22), 55, [74]), (55, .iload_n 2, 56, []), (56, .iconst 2, 57, []), (57, .if_icmp .ne (12), 60, [69]), (60, .aload_n 0, 61, []), (61, .getfield 26, 64, []), (64, .iload_n 1, 65, []), (65, .iaload, 66, []), (66, .goto (8), 69, [74]), (69, .aload_n 0, 70, []), (70, .iload_n 1, 71, []), (71, .invokevirtual 188, 74, []), (74, .ireturn, 75, [])]
def cd_mo_count : zm_C := [(0, .iload_n 1, 1, []), (1, .iconst 4, 2, []), (2, .if_icmp .ne (22), 5, [24]), (5, .aload_n 0, 6, []), (6, .invokevirtual 308, 9, []), (9, .istore_n 2, 10, []), (10, .iload_n 2, 11, []), (11, .ifCond .eq (10), 14, [21]), (14, .aload_n 0, 15, []), (15, .getfield 290, 18, []), (18, .goto (5), 21, [23]), (21, .bipush (-5), 23, []), (23, .ireturn, 24, []), (24, .iload_n 1, 25, []), (25, .ifCond .ne (10), 28, [35]), (28, .aload_n 0, 29, []), (29, .getfield 115, 32, []), (32, .goto (44), 35, [76]), (35, .iload_n 1, 36, []), (36, .iconst 1, 37, []), (37, .if_icmp .ne (10), 40, [47]), (40, .aload_n 0, 41, []), (41, .getfield 118, 44, []), (44, .goto (32), 47, [76]), (47, .iload_n 1, 48, []), (48, .iconst 2, 49, []), (49, .if_icmp .ne (10), 52, [59]), (52, .aload_n 0, 53, []), (53, .getfield 112, 56, []), (56, .goto (20), 59, [76]), (59, .iload_n 1, 60, []), (60, .iconst 3, 61, []), (61, .if_icmp .ne (14), 64, [75]), (64, .aload_n 0, 65, []), (65, .aload_n 0, 66, []), (66, .getfield 115, 69, []), (69, .invokevirtual 188, 72, []), (72, .goto (4), 75, [76]), (75, .iconst (-1), 76, []), (76, .ireturn, 77, [])]
end
section
def lx_fa_describe : zm_X := (zl_up [(9, (0, 0)), (15, (0, 1)), (19, (0, 2))], zl_up [], zl_up [], zl_up [])
def fn_fa_describe : List zm_V → zm_M → Option zm_M := zm_fv zt_Y 0 3 (fun av M => zm_rn zt_Y lx_fa_describe zr_v cd_fa_describe 1073741824 0 (zm_lo av 5) [] M)
def lx_mf_forgetFindings : zm_X := (zl_up [(40, (10, 3)), (188, (5, 8)), (58, (10, 5)), (136, (8, 9))], zl_up [], zl_up [], zl_up [])
def fn_mf_forgetFindings : List zm_V → zm_M → Option zm_M := zm_fv zt_Y 10 0 (fun av M => zm_rn zt_Y lx_mf_forgetFindings zr_v cd_mf_forgetFindings 1 0 (zm_lo av 1) [] M)
def lx_mf_type : zm_X := (zl_up [(12, (10, 0))], zl_up [], zl_up [], zl_up [(143, (4, .inr (.inl fn_fa_describe))), (151, (1, .inr (.inl fn_mf_forgetFindings)))])
def fn_mf_type : List zm_V → zm_M → Option (Int32 × zm_M) := zm_fv zt_Y 10 3 (fun av M => zm_rn zt_Y lx_mf_type zr_z cd_mf_type 1 0 (zm_lo av 4) [] M)
def lx_mf_isClass : zm_X := (zl_up [], zl_up [], zl_up [], zl_up [])
def fn_mf_isClass : List zm_V → zm_M → Option (Int32 × zm_M) := zm_fs 1 (fun av M => zm_rn zt_Y lx_mf_isClass zr_z cd_mf_isClass 1 0 (zm_lo av 1) [] M)
def lx_pr_begin : zm_X := (zl_up [(39, (1, 0)), (43, (1, 1)), (46, (1, 2)), (50, (1, 4)), (53, (1, 9)), (56, (1, 14))], zl_up [], zl_up [], zl_up [])
def fn_pr_begin : List zm_V → zm_M → Option zm_M := zm_fv zt_Y 1 3 (fun av M => zm_rn zt_Y lx_pr_begin zr_v cd_pr_begin 1 0 (zm_lo av 4) [] M)
def lx_mf_method : zm_X := (zl_up [(19, (10, 1))], zl_up [], zl_up [], zl_up [(156, (1, .inl fn_mf_isClass)), (165, (4, .inr (.inl fn_pr_begin))), (151, (1, .inr (.inl fn_mf_forgetFindings)))])
def fn_mf_method : List zm_V → zm_M → Option (Int32 × zm_M) := zm_fv zt_Y 10 3 (fun av M => zm_rn zt_Y lx_mf_method zr_z cd_mf_method 1 0 (zm_lo av 4) [] M)
def lx_mf_kindOf : zm_X := (zl_up [], zl_up [], zl_up [], zl_up [])
def fn_mf_kindOf : List zm_V → zm_M → Option (Int32 × zm_M) := zm_fs 1 (fun av M => zm_rn zt_Y lx_mf_kindOf zr_i cd_mf_kindOf 1 0 (zm_lo av 1) [] M)
def lx_mf_partOf : zm_X := (zl_up [], zl_up [], zl_up [], zl_up [])
def fn_mf_partOf : List zm_V → zm_M → Option (Int32 × zm_M) := zm_fs 1 (fun av M => zm_rn zt_Y lx_mf_partOf zr_i cd_mf_partOf 1 0 (zm_lo av 1) [] M)
def lx_mf_argument : zm_X := (zl_up [(19, (10, 1)), (92, (1, 4)), (96, (1, 3))], zl_up [], zl_up [], zl_up [(170, (1, .inl fn_mf_kindOf)), (178, (1, .inl fn_mf_partOf)), (156, (1, .inl fn_mf_isClass)), (151, (1, .inr (.inl fn_mf_forgetFindings)))])
def fn_mf_argument : List zm_V → zm_M → Option (Int32 × zm_M) := zm_fv zt_Y 10 1 (fun av M => zm_rn zt_Y lx_mf_argument zr_i cd_mf_argument 1 0 (zm_lo av 4) [] M)
def lx_mf_hasLocal : zm_X := (zl_up [], zl_up [], zl_up [], zl_up [])
def fn_mf_hasLocal : List zm_V → zm_M → Option (Int32 × zm_M) := zm_fs 1 (fun av M => zm_rn zt_Y lx_mf_hasLocal zr_z cd_mf_hasLocal 1 0 (zm_lo av 1) [] M)
def lx_mf_localKindOf : zm_X := (zl_up [], zl_up [], zl_up [(201, (62, 0))], zl_up [])
def fn_mf_localKindOf : List zm_V → zm_M → Option (Int32 × zm_M) := zm_fs 1 (fun av M => zm_rn zt_Y lx_mf_localKindOf zr_i cd_mf_localKindOf 1 0 (zm_lo av 1) [] M)
def lx_mf_widthOf : zm_X := (zl_up [], zl_up [], zl_up [], zl_up [])
def fn_mf_widthOf : List zm_V → zm_M → Option (Int32 × zm_M) := zm_fs 1 (fun av M => zm_rn zt_Y lx_mf_widthOf zr_i cd_mf_widthOf 1 0 (zm_lo av 1) [] M)
def lx_mf_isJump : zm_X := (zl_up [], zl_up [], zl_up [], zl_up [])
def fn_mf_isJump : List zm_V → zm_M → Option (Int32 × zm_M) := zm_fs 1 (fun av M => zm_rn zt_Y lx_mf_isJump zr_z cd_mf_isJump 1 0 (zm_lo av 1) [] M)
def lx_mf_isPlace : zm_X := (zl_up [], zl_up [], zl_up [], zl_up [])
def fn_mf_isPlace : List zm_V → zm_M → Option (Int32 × zm_M) := zm_fs 1 (fun av M => zm_rn zt_Y lx_mf_isPlace zr_z cd_mf_isPlace 1 0 (zm_lo av 1) [] M)
def lx_mf_isInstruction : zm_X := (zl_up [], zl_up [], zl_up [], zl_up [(378, (1, .inl fn_mf_hasLocal)), (384, (1, .inl fn_mf_localKindOf)), (390, (1, .inl fn_mf_widthOf)), (396, (1, .inl fn_mf_isJump)), (222, (1, .inl fn_mf_isPlace)), (156, (1, .inl fn_mf_isClass))])
def fn_mf_isInstruction : List zm_V → zm_M → Option (Int32 × zm_M) := zm_fs 3 (fun av M => zm_rn zt_Y lx_mf_isInstruction zr_z cd_mf_isInstruction 1 0 (zm_lo av 3) [] M)
def lx_mf_lengthOf : zm_X := (zl_up [], zl_up [], zl_up [], zl_up [])
def fn_mf_lengthOf : List zm_V → zm_M → Option (Int32 × zm_M) := zm_fs 1 (fun av M => zm_rn zt_Y lx_mf_lengthOf zr_i cd_mf_lengthOf 1 0 (zm_lo av 1) [] M)
def lx_pr_write : zm_X := (zl_up [(15, (1, 5)), (18, (1, 6)), (21, (1, 7)), (53, (1, 9)), (24, (1, 8))], zl_up [], zl_up [], zl_up [(118, (1, .inl fn_mf_hasLocal)), (126, (1, .inl fn_mf_isJump)), (132, (1, .inl fn_mf_lengthOf))])
def fn_pr_write : List zm_V → zm_M → Option zm_M := zm_fv zt_Y 1 4 (fun av M => zm_rn zt_Y lx_pr_write zr_v cd_pr_write 1073741824 0 (zm_lo av 6) [] M)
def lx_mf_add : zm_X := (zl_up [(19, (10, 1)), (104, (1, 9))], zl_up [], zl_up [], zl_up [(200, (3, .inl fn_mf_isInstruction)), (215, (5, .inr (.inl fn_pr_write))), (151, (1, .inr (.inl fn_mf_forgetFindings)))])
def fn_mf_add : List zm_V → zm_M → Option (Int32 × zm_M) := zm_fv zt_Y 10 3 (fun av M => zm_rn zt_Y lx_mf_add zr_i cd_mf_add 1 0 (zm_lo av 4) [] M)
def lx_mf_change : zm_X := (zl_up [(19, (10, 1)), (104, (1, 9))], zl_up [], zl_up [], zl_up [(200, (3, .inl fn_mf_isInstruction)), (215, (5, .inr (.inl fn_pr_write))), (151, (1, .inr (.inl fn_mf_forgetFindings)))])
def fn_mf_change : List zm_V → zm_M → Option (Int32 × zm_M) := zm_fv zt_Y 10 4 (fun av M => zm_rn zt_Y lx_mf_change zr_z cd_mf_change 1 0 (zm_lo av 5) [] M)
def lx_pr_guard : zm_X := (zl_up [(27, (1, 10)), (56, (1, 14)), (30, (1, 11)), (33, (1, 12)), (36, (1, 13))], zl_up [], zl_up [], zl_up [])
def fn_pr_guard : List zm_V → zm_M → Option zm_M := zm_fv zt_Y 1 4 (fun av M => zm_rn zt_Y lx_pr_guard zr_v cd_pr_guard 1 0 (zm_lo av 5) [] M)
def lx_mf_handle : zm_X := (zl_up [(19, (10, 1)), (114, (1, 14))], zl_up [], zl_up [], zl_up [(222, (1, .inl fn_mf_isPlace)), (156, (1, .inl fn_mf_isClass)), (235, (5, .inr (.inl fn_pr_guard))), (151, (1, .inr (.inl fn_mf_forgetFindings)))])
def fn_mf_handle : List zm_V → zm_M → Option (Int32 × zm_M) := zm_fv zt_Y 10 4 (fun av M => zm_rn zt_Y lx_mf_handle zr_i cd_mf_handle 1 0 (zm_lo av 5) [] M)
def lx_ja_fill : zm_X := (zl_up [], zl_up [], zl_up [], zl_up [])
def fn_ja_fill : List zm_V → zm_M → Option zm_M := zm_fs 2 (fun av M => zm_rn zt_Y lx_ja_fill zr_v cd_ja_fill 1073741824 0 (zm_lo av 4) [] M)
def lx_fr_emptyStack : zm_X := (zl_up [(24, (4, 2)), (28, (4, 3))], zl_up [], zl_up [], zl_up [])
def fn_fr_emptyStack : List zm_V → zm_M → Option zm_M := zm_fv zt_Y 4 0 (fun av M => zm_rn zt_Y lx_fr_emptyStack zr_v cd_fr_emptyStack 1 0 (zm_lo av 1) [] M)
def lx_mf_typeOf : zm_X := (zl_up [], zl_up [], zl_up [], zl_up [])
def fn_mf_typeOf : List zm_V → zm_M → Option (Int32 × zm_M) := zm_fs 2 (fun av M => zm_rn zt_Y lx_mf_typeOf zr_i cd_mf_typeOf 1 0 (zm_lo av 2) [] M)
def lx_pr_enter : zm_X := (zl_up [(73, (4, 0)), (43, (1, 1)), (87, (4, 4)), (39, (1, 0)), (50, (1, 4)), (9, (1, 3))], zl_up [], zl_up [], zl_up [(156, (2, .inr (.inl fn_ja_fill))), (169, (1, .inr (.inl fn_fr_emptyStack))), (180, (2, .inl fn_mf_typeOf)), (188, (1, .inl fn_mf_widthOf))])
def fn_pr_enter : List zm_V → zm_M → Option zm_M := zm_fv zt_Y 1 1 (fun av M => zm_rn zt_Y lx_pr_enter zr_v cd_pr_enter 1073741824 0 (zm_lo av 4) [] M)
def lx_mf_isObjectOrNull : zm_X := (zl_up [], zl_up [], zl_up [], zl_up [(170, (1, .inl fn_mf_kindOf))])
def fn_mf_isObjectOrNull : List zm_V → zm_M → Option (Int32 × zm_M) := zm_fs 1 (fun av M => zm_rn zt_Y lx_mf_isObjectOrNull zr_z cd_mf_isObjectOrNull 1 0 (zm_lo av 1) [] M)
def lx_fa_join : zm_X := (zl_up [(19, (0, 2)), (9, (0, 0))], zl_up [], zl_up [], zl_up [(58, (1, .inl fn_mf_isObjectOrNull)), (52, (1, .inl fn_mf_partOf)), (66, (2, .inl fn_mf_typeOf))])
def fn_fa_join : List zm_V → zm_M → Option (Int32 × zm_M) := zm_fv zt_Y 0 2 (fun av M => zm_rn zt_Y lx_fa_join zr_i cd_fa_join 1073741824 0 (zm_lo av 5) [] M)
def lx_fl_joinAt : zm_X := (zl_up [(11, (5, 3)), (121, (4, 2)), (124, (4, 4)), (24, (5, 6)), (32, (5, 0)), (127, (4, 0)), (136, (4, 1))], zl_up [], zl_up [], zl_up [(261, (3, .inl fn_fa_join))])
def fn_fl_joinAt : List zm_V → zm_M → Option (Int32 × zm_M) := zm_fv zt_Y 5 2 (fun av M => zm_rn zt_Y lx_fl_joinAt zr_z cd_fl_joinAt 1073741824 0 (zm_lo av 6) [] M)
def lx_fr_takeOver : zm_X := (zl_up [(9, (4, 0)), (15, (4, 1)), (24, (4, 2)), (28, (4, 3)), (31, (4, 4))], zl_up [], zl_up [], zl_up [(36, (5, .inr (.inl (zm_ac zt_Y))))])
def fn_fr_takeOver : List zm_V → zm_M → Option zm_M := zm_fv zt_Y 4 1 (fun av M => zm_rn zt_Y lx_fr_takeOver zr_v cd_fr_takeOver 1 0 (zm_lo av 2) [] M)
def lx_fl_arrive : zm_X := (zl_up [(36, (5, 1)), (55, (1, 9)), (21, (5, 5)), (24, (5, 6)), (11, (5, 3))], zl_up [], zl_up [], zl_up [(237, (3, .inl fn_fl_joinAt)), (197, (2, .inr (.inl fn_fr_takeOver)))])
def fn_fl_arrive : List zm_V → zm_M → Option (Int32 × zm_M) := zm_fv zt_Y 5 2 (fun av M => zm_rn zt_Y lx_fl_arrive zr_z cd_fl_arrive 1 0 (zm_lo av 3) [] M)
def lx_fl_begin : zm_X := (zl_up [(21, (5, 5)), (24, (5, 6)), (36, (5, 1)), (28, (5, 7))], zl_up [], zl_up [], zl_up [(145, (2, .inr (.inl fn_pr_enter))), (153, (3, .inl fn_fl_arrive))])
def fn_fl_begin : List zm_V → zm_M → Option zm_M := zm_fv zt_Y 5 0 (fun av M => zm_rn zt_Y lx_fl_begin zr_v cd_fl_begin 1073741824 0 (zm_lo av 2) [] M)
def lx_pr_isGuarded : zm_X := (zl_up [(27, (1, 10)), (30, (1, 11))], zl_up [], zl_up [], zl_up [])
def fn_pr_isGuarded : List zm_V → zm_M → Option (Int32 × zm_M) := zm_fv zt_Y 1 2 (fun av M => zm_rn zt_Y lx_pr_isGuarded zr_z cd_pr_isGuarded 1 0 (zm_lo av 3) [] M)
def lx_fr_push : zm_X := (zl_up [(28, (4, 3)), (15, (4, 1)), (24, (4, 2))], zl_up [], zl_up [], zl_up [(100, (1, .inl fn_mf_widthOf))])
def fn_fr_push : List zm_V → zm_M → Option (Int32 × zm_M) := zm_fv zt_Y 4 1 (fun av M => zm_rn zt_Y lx_fr_push zr_z cd_fr_push 1 0 (zm_lo av 3) [] M)
def lx_fr_takeOverForHandler : zm_X := (zl_up [], zl_up [], zl_up [], zl_up [(71, (2, .inr (.inl fn_fr_takeOver))), (79, (1, .inr (.inl fn_fr_emptyStack))), (84, (2, .inl fn_mf_typeOf)), (93, (2, .inl fn_fr_push))])
def fn_fr_takeOverForHandler : List zm_V → zm_M → Option zm_M := zm_fv zt_Y 4 2 (fun av M => zm_rn zt_Y lx_fr_takeOverForHandler zr_v cd_fr_takeOverForHandler 1 0 (zm_lo av 3) [] M)
def lx_fl_leaveToHandlers : zm_X := (zl_up [(36, (5, 1)), (80, (1, 14)), (28, (5, 7)), (11, (5, 3)), (87, (1, 13)), (95, (1, 12))], zl_up [], zl_up [], zl_up [(167, (3, .inl fn_pr_isGuarded)), (183, (3, .inr (.inl fn_fr_takeOverForHandler))), (153, (3, .inl fn_fl_arrive))])
def fn_fl_leaveToHandlers : List zm_V → zm_M → Option (Int32 × zm_M) := zm_fv zt_Y 5 1 (fun av M => zm_rn zt_Y lx_fl_leaveToHandlers zr_z cd_fl_leaveToHandlers 1073741824 0 (zm_lo av 3) [] M)
def lx_fr_peek : zm_X := (zl_up [(24, (4, 2)), (15, (4, 1))], zl_up [], zl_up [], zl_up [])
def fn_fr_peek : List zm_V → zm_M → Option (Int32 × zm_M) := zm_fv zt_Y 4 1 (fun av M => zm_rn zt_Y lx_fr_peek zr_i cd_fr_peek 1 0 (zm_lo av 2) [] M)
def lx_fr_drop : zm_X := (zl_up [(24, (4, 2)), (28, (4, 3)), (15, (4, 1))], zl_up [], zl_up [], zl_up [(100, (1, .inl fn_mf_widthOf))])
def fn_fr_drop : List zm_V → zm_M → Option zm_M := zm_fv zt_Y 4 0 (fun av M => zm_rn zt_Y lx_fr_drop zr_v cd_fr_drop 1 0 (zm_lo av 1) [] M)
def lx_fr_take : zm_X := (zl_up [], zl_up [], zl_up [], zl_up [(109, (2, .inl fn_fr_peek)), (115, (1, .inr (.inl fn_fr_drop)))])
def fn_fr_take : List zm_V → zm_M → Option (Int32 × zm_M) := zm_fv zt_Y 4 1 (fun av M => zm_rn zt_Y lx_fr_take zr_z cd_fr_take 1 0 (zm_lo av 2) [] M)
def lx_mf_isSmall : zm_X := (zl_up [], zl_up [], zl_up [], zl_up [(170, (1, .inl fn_mf_kindOf))])
def fn_mf_isSmall : List zm_V → zm_M → Option (Int32 × zm_M) := zm_fs 1 (fun av M => zm_rn zt_Y lx_mf_isSmall zr_z cd_mf_isSmall 1 0 (zm_lo av 2) [] M)
def lx_ma_stepOne : zm_X := (zl_up [], zl_up [], zl_up [], zl_up [(97, (2, .inl fn_fr_push)), (149, (1, .inr (.inl fn_fr_drop)))])
def fn_ma_stepOne : List zm_V → zm_M → Option (Int32 × zm_M) := zm_fv zt_Y 3 3 (fun av M => zm_rn zt_Y lx_ma_stepOne zr_z cd_ma_stepOne 1 0 (zm_lo av 4) [] M)
def lx_fr_swap : zm_X := (zl_up [(24, (4, 2)), (15, (4, 1))], zl_up [], zl_up [], zl_up [])
def fn_fr_swap : List zm_V → zm_M → Option zm_M := zm_fv zt_Y 4 0 (fun av M => zm_rn zt_Y lx_fr_swap zr_v cd_fr_swap 1 0 (zm_lo av 2) [] M)
def lx_ma_stepTwo : zm_X := (zl_up [], zl_up [], zl_up [], zl_up [(137, (2, .inl fn_fr_peek)), (154, (1, .inl fn_mf_isSmall)), (173, (1, .inr (.inl fn_fr_swap))), (149, (1, .inr (.inl fn_fr_drop)))])
def fn_ma_stepTwo : List zm_V → zm_M → Option (Int32 × zm_M) := zm_fv zt_Y 3 2 (fun av M => zm_rn zt_Y lx_ma_stepTwo zr_z cd_ma_stepTwo 1 0 (zm_lo av 3) [] M)
def lx_ma_stepOnStack : zm_X := (zl_up [], zl_up [], zl_up [(62, (62, 0))], zl_up [(97, (2, .inl fn_fr_push)), (131, (2, .inl fn_fr_take)), (137, (2, .inl fn_fr_peek)), (142, (1, .inl fn_mf_widthOf)), (149, (1, .inr (.inl fn_fr_drop))), (154, (1, .inl fn_mf_isSmall)), (161, (4, .inl fn_ma_stepOne)), (167, (3, .inl fn_ma_stepTwo))])
def fn_ma_stepOnStack : List zm_V → zm_M → Option (Int32 × zm_M) := zm_fv zt_Y 3 2 (fun av M => zm_rn zt_Y lx_ma_stepOnStack zr_z cd_ma_stepOnStack 1 0 (zm_lo av 4) [] M)
def lx_fa_is : zm_X := (zl_up [(15, (0, 1)), (19, (0, 2))], zl_up [], zl_up [], zl_up [(44, (1, .inl fn_mf_kindOf)), (52, (1, .inl fn_mf_partOf))])
def fn_fa_is : List zm_V → zm_M → Option (Int32 × zm_M) := zm_fv zt_Y 0 2 (fun av M => zm_rn zt_Y lx_fa_is zr_z cd_fa_is 1 0 (zm_lo av 4) [] M)
def lx_ma_stepToOther : zm_X := (zl_up [(15, (3, 1)), (89, (1, 2)), (93, (1, 1)), (97, (4, 4)), (9, (3, 0))], zl_up [], zl_up [], zl_up [(131, (2, .inl fn_fr_take)), (97, (2, .inl fn_fr_push)), (137, (2, .inl fn_fr_peek)), (201, (3, .inl fn_fa_is))])
def fn_ma_stepToOther : List zm_V → zm_M → Option (Int32 × zm_M) := zm_fv zt_Y 3 2 (fun av M => zm_rn zt_Y lx_ma_stepToOther zr_z cd_ma_stepToOther 1 0 (zm_lo av 3) [] M)
def lx_mf_isOfKind : zm_X := (zl_up [], zl_up [], zl_up [], zl_up [(170, (1, .inl fn_mf_kindOf))])
def fn_mf_isOfKind : List zm_V → zm_M → Option (Int32 × zm_M) := zm_fs 2 (fun av M => zm_rn zt_Y lx_mf_isOfKind zr_z cd_mf_isOfKind 1 0 (zm_lo av 2) [] M)
def lx_fr_store : zm_X := (zl_up [(9, (4, 0))], zl_up [], zl_up [], zl_up [(100, (1, .inl fn_mf_widthOf))])
def fn_fr_store : List zm_V → zm_M → Option zm_M := zm_fv zt_Y 4 2 (fun av M => zm_rn zt_Y lx_fr_store zr_v cd_fr_store 1 0 (zm_lo av 3) [] M)
def lx_ma_stepStore : zm_X := (zl_up [], zl_up [], zl_up [], zl_up [(137, (2, .inl fn_fr_peek)), (80, (1, .inl fn_mf_localKindOf)), (88, (2, .inl fn_mf_isOfKind)), (149, (1, .inr (.inl fn_fr_drop))), (211, (3, .inr (.inl fn_fr_store)))])
def fn_ma_stepStore : List zm_V → zm_M → Option (Int32 × zm_M) := zm_fv zt_Y 3 3 (fun av M => zm_rn zt_Y lx_ma_stepStore zr_z cd_ma_stepStore 1 0 (zm_lo av 5) [] M)
def lx_ma_stepJump : zm_X := (zl_up [], zl_up [], zl_up [], zl_up [(131, (2, .inl fn_fr_take)), (137, (2, .inl fn_fr_peek)), (218, (1, .inl fn_mf_isObjectOrNull)), (149, (1, .inr (.inl fn_fr_drop)))])
def fn_ma_stepJump : List zm_V → zm_M → Option (Int32 × zm_M) := zm_fv zt_Y 3 2 (fun av M => zm_rn zt_Y lx_ma_stepJump zr_z cd_ma_stepJump 1 0 (zm_lo av 3) [] M)
def lx_fa_isAbove : zm_X := (zl_up [(9, (0, 0))], zl_up [], zl_up [], zl_up [])
def fn_fa_isAbove : List zm_V → zm_M → Option (Int32 × zm_M) := zm_fv zt_Y 0 2 (fun av M => zm_rn zt_Y lx_fa_isAbove zr_z cd_fa_isAbove 1 0 (zm_lo av 3) [] M)
def lx_fr_replaceAll : zm_X := (zl_up [(9, (4, 0)), (24, (4, 2)), (15, (4, 1))], zl_up [], zl_up [], zl_up [])
def fn_fr_replaceAll : List zm_V → zm_M → Option zm_M := zm_fv zt_Y 4 2 (fun av M => zm_rn zt_Y lx_fr_replaceAll zr_v cd_fr_replaceAll 1073741824 0 (zm_lo av 4) [] M)
def lx_pr_placeAt : zm_X := (zl_up [(53, (1, 9)), (24, (1, 8))], zl_up [], zl_up [], zl_up [])
def fn_pr_placeAt : List zm_V → zm_M → Option (Int32 × zm_M) := zm_fv zt_Y 1 1 (fun av M => zm_rn zt_Y lx_pr_placeAt zr_i cd_pr_placeAt 1073741824 0 (zm_lo av 3) [] M)
def lx_ma_stepInit : zm_X := (zl_up [(15, (3, 1)), (125, (1, 0)), (9, (3, 0)), (97, (4, 4)), (19, (1, 5)), (37, (1, 6))], zl_up [], zl_up [], zl_up [(257, (3, .inl fn_fa_isAbove)), (149, (1, .inr (.inl fn_fr_drop))), (230, (2, .inl fn_mf_typeOf)), (263, (3, .inr (.inl fn_fr_replaceAll))), (268, (1, .inl fn_mf_kindOf)), (274, (1, .inl fn_mf_partOf)), (281, (2, .inl fn_pr_placeAt))])
def fn_ma_stepInit : List zm_V → zm_M → Option (Int32 × zm_M) := zm_fv zt_Y 3 3 (fun av M => zm_rn zt_Y lx_ma_stepInit zr_z cd_ma_stepInit 1 0 (zm_lo av 5) [] M)
def lx_ma_stepObject : zm_X := (zl_up [(15, (3, 1)), (19, (1, 5)), (37, (1, 6)), (112, (1, 8)), (9, (3, 0)), (122, (1, 7))], zl_up [], zl_up [], zl_up [(230, (2, .inl fn_mf_typeOf)), (97, (2, .inl fn_fr_push)), (137, (2, .inl fn_fr_peek)), (239, (4, .inl fn_ma_stepInit)), (201, (3, .inl fn_fa_is)), (149, (1, .inr (.inl fn_fr_drop)))])
def fn_ma_stepObject : List zm_V → zm_M → Option (Int32 × zm_M) := zm_fv zt_Y 3 2 (fun av M => zm_rn zt_Y lx_ma_stepObject zr_z cd_ma_stepObject 1 0 (zm_lo av 6) [] M)
def lx_ma_step : zm_X := (zl_up [(15, (3, 1)), (19, (1, 5)), (32, (4, 0)), (37, (1, 6))], zl_up [], zl_up [], zl_up [(51, (3, .inl fn_ma_stepOnStack)), (59, (3, .inl fn_ma_stepToOther)), (80, (1, .inl fn_mf_localKindOf)), (88, (2, .inl fn_mf_isOfKind)), (97, (2, .inl fn_fr_push)), (105, (4, .inl fn_ma_stepStore)), (113, (3, .inl fn_ma_stepJump)), (119, (3, .inl fn_ma_stepObject))])
def fn_ma_step : List zm_V → zm_M → Option (Int32 × zm_M) := zm_fv zt_Y 3 2 (fun av M => zm_rn zt_Y lx_ma_step zr_z cd_ma_step 1 0 (zm_lo av 5) [] M)
def lx_mf_isEnd : zm_X := (zl_up [], zl_up [], zl_up [], zl_up [])
def fn_mf_isEnd : List zm_V → zm_M → Option (Int32 × zm_M) := zm_fs 1 (fun av M => zm_rn zt_Y lx_mf_isEnd zr_z cd_mf_isEnd 1 0 (zm_lo av 1) [] M)
def lx_fl_leave : zm_X := (zl_up [(28, (5, 7)), (11, (5, 3)), (40, (5, 2)), (36, (5, 1)), (106, (1, 5)), (112, (1, 7))], zl_up [], zl_up [], zl_up [(197, (2, .inr (.inl fn_fr_takeOver))), (203, (3, .inl fn_ma_step)), (218, (1, .inl fn_mf_isJump)), (153, (3, .inl fn_fl_arrive)), (230, (1, .inl fn_mf_isEnd))])
def fn_fl_leave : List zm_V → zm_M → Option (Int32 × zm_M) := zm_fv zt_Y 5 1 (fun av M => zm_rn zt_Y lx_fl_leave zr_z cd_fl_leave 1 0 (zm_lo av 3) [] M)
def lx_pr_markRows : zm_X := (zl_up [(53, (1, 9)), (15, (1, 5)), (21, (1, 7)), (56, (1, 14)), (33, (1, 12))], zl_up [], zl_up [], zl_up [(140, (1, .inl fn_mf_isEnd)), (126, (1, .inl fn_mf_isJump))])
def fn_pr_markRows : List zm_V → zm_M → Option zm_M := zm_fv zt_Y 1 1 (fun av M => zm_rn zt_Y lx_pr_markRows zr_v cd_pr_markRows 1073741824 0 (zm_lo av 3) [] M)
def lx_fr_hasRawThisInLocal : zm_X := (zl_up [(9, (4, 0))], zl_up [], zl_up [], zl_up [])
def fn_fr_hasRawThisInLocal : List zm_V → zm_M → Option (Int32 × zm_M) := zm_fv zt_Y 4 0 (fun av M => zm_rn zt_Y lx_fr_hasRawThisInLocal zr_z cd_fr_hasRawThisInLocal 1073741824 0 (zm_lo av 2) [] M)
def lx_fl_isWhole : zm_X := (zl_up [(36, (5, 1)), (17, (5, 4)), (55, (1, 9)), (21, (5, 5)), (11, (5, 3)), (124, (4, 4))], zl_up [], zl_up [], zl_up [(279, (2, .inr (.inl fn_pr_markRows))), (287, (1, .inl fn_fr_hasRawThisInLocal))])
def fn_fl_isWhole : List zm_V → zm_M → Option (Int32 × zm_M) := zm_fv zt_Y 5 0 (fun av M => zm_rn zt_Y lx_fl_isWhole zr_z cd_fl_isWhole 1073741824 0 (zm_lo av 2) [] M)
def lx_fl_isRight : zm_X := (zl_up [(44, (5, 8)), (48, (5, 9)), (36, (5, 1)), (55, (1, 9)), (24, (5, 6))], zl_up [(54, 100000)], zl_up [], zl_up [(103, (1, .inr (.inl fn_fl_begin))), (123, (2, .inl fn_fl_leaveToHandlers)), (131, (2, .inl fn_fl_leave)), (137, (1, .inl fn_fl_isWhole))])
def fn_fl_isRight : List zm_V → zm_M → Option (Int32 × zm_M) := zm_fv zt_Y 5 0 (fun av M => zm_rn zt_Y lx_fl_isRight zr_z cd_fl_isRight 1073741824 0 (zm_lo av 4) [] M)
def lx_tl_empty : zm_X := (zl_up [(15, (6, 1)), (19, (6, 2))], zl_up [], zl_up [], zl_up [])
def fn_tl_empty : List zm_V → zm_M → Option zm_M := zm_fv zt_Y 6 0 (fun av M => zm_rn zt_Y lx_tl_empty zr_v cd_tl_empty 1 0 (zm_lo av 1) [] M)
def lx_tl_append : zm_X := (zl_up [(19, (6, 2)), (9, (6, 0)), (15, (6, 1))], zl_up [], zl_up [], zl_up [(44, (1, .inl fn_mf_widthOf))])
def fn_tl_append : List zm_V → zm_M → Option (Int32 × zm_M) := zm_fv zt_Y 6 1 (fun av M => zm_rn zt_Y lx_tl_append zr_z cd_tl_append 1 0 (zm_lo av 3) [] M)
def lx_tl_drop : zm_X := (zl_up [(15, (6, 1)), (19, (6, 2)), (9, (6, 0))], zl_up [], zl_up [], zl_up [(44, (1, .inl fn_mf_widthOf))])
def fn_tl_drop : List zm_V → zm_M → Option zm_M := zm_fv zt_Y 6 0 (fun av M => zm_rn zt_Y lx_tl_drop zr_v cd_tl_drop 1 0 (zm_lo av 1) [] M)
def lx_tl_gather : zm_X := (zl_up [(35, (4, 0)), (15, (6, 1)), (9, (6, 0))], zl_up [], zl_up [], zl_up [(65, (1, .inr (.inl fn_tl_empty))), (81, (2, .inl fn_tl_append)), (44, (1, .inl fn_mf_widthOf)), (89, (1, .inr (.inl fn_tl_drop)))])
def fn_tl_gather : List zm_V → zm_M → Option zm_M := zm_fv zt_Y 6 1 (fun av M => zm_rn zt_Y lx_tl_gather zr_v cd_tl_gather 1073741824 0 (zm_lo av 3) [] M)
def lx_tl_sharedStart : zm_X := (zl_up [(15, (6, 1)), (9, (6, 0))], zl_up [], zl_up [], zl_up [])
def fn_tl_sharedStart : List zm_V → zm_M → Option (Int32 × zm_M) := zm_fv zt_Y 6 1 (fun av M => zm_rn zt_Y lx_tl_sharedStart zr_i cd_tl_sharedStart 1073741824 0 (zm_lo av 3) [] M)
def lx_jm_abs : zm_X := (zl_up [], zl_up [], zl_up [], zl_up [])
def fn_jm_abs : List zm_V → zm_M → Option (Int32 × zm_M) := zm_fs 1 (fun av M => zm_rn zt_Y lx_jm_abs zr_i cd_jm_abs 1 0 (zm_lo av 1) [] M)
def lx_jm_min : zm_X := (zl_up [], zl_up [], zl_up [], zl_up [])
def fn_jm_min : List zm_V → zm_M → Option (Int32 × zm_M) := zm_fs 2 (fun av M => zm_rn zt_Y lx_jm_min zr_i cd_jm_min 1 0 (zm_lo av 2) [] M)
def lx_by_put : zm_X := (zl_up [(15, (2, 1)), (9, (2, 0))], zl_up [], zl_up [], zl_up [])
def fn_by_put : List zm_V → zm_M → Option zm_M := zm_fv zt_Y 2 1 (fun av M => zm_rn zt_Y lx_by_put zr_v cd_by_put 1 0 (zm_lo av 2) [] M)
def lx_by_putTwo : zm_X := (zl_up [], zl_up [], zl_up [], zl_up [(39, (2, .inr (.inl fn_by_put)))])
def fn_by_putTwo : List zm_V → zm_M → Option zm_M := zm_fv zt_Y 2 1 (fun av M => zm_rn zt_Y lx_by_putTwo zr_v cd_by_putTwo 1 0 (zm_lo av 2) [] M)
def lx_wr_writeHead : zm_X := (zl_up [(31, (7, 5))], zl_up [], zl_up [], zl_up [(217, (2, .inr (.inl fn_by_put))), (223, (2, .inr (.inl fn_by_putTwo)))])
def fn_wr_writeHead : List zm_V → zm_M → Option zm_M := zm_fv zt_Y 7 3 (fun av M => zm_rn zt_Y lx_wr_writeHead zr_v cd_wr_writeHead 1 0 (zm_lo av 4) [] M)
def lx_by_putType : zm_X := (zl_up [], zl_up [], zl_up [], zl_up [(46, (1, .inl fn_mf_kindOf)), (39, (2, .inr (.inl fn_by_put))), (54, (1, .inl fn_mf_partOf)), (61, (2, .inr (.inl fn_by_putTwo)))])
def fn_by_putType : List zm_V → zm_M → Option zm_M := zm_fv zt_Y 2 1 (fun av M => zm_rn zt_Y lx_by_putType zr_v cd_by_putType 1 0 (zm_lo av 3) [] M)
def lx_wr_writeTypes : zm_X := (zl_up [(31, (7, 5))], zl_up [], zl_up [], zl_up [(209, (2, .inr (.inl fn_by_putType)))])
def fn_wr_writeTypes : List zm_V → zm_M → Option zm_M := zm_fv zt_Y 7 3 (fun av M => zm_rn zt_Y lx_wr_writeTypes zr_v cd_wr_writeTypes 1073741824 0 (zm_lo av 5) [] M)
def lx_wr_writeWhole : zm_X := (zl_up [(31, (7, 5)), (25, (7, 4)), (83, (6, 1)), (114, (6, 0)), (94, (4, 2)), (101, (4, 1))], zl_up [], zl_up [], zl_up [(217, (2, .inr (.inl fn_by_put))), (223, (2, .inr (.inl fn_by_putTwo))), (235, (4, .inr (.inl fn_wr_writeTypes)))])
def fn_wr_writeWhole : List zm_V → zm_M → Option zm_M := zm_fv zt_Y 7 2 (fun av M => zm_rn zt_Y lx_wr_writeWhole zr_v cd_wr_writeWhole 1 0 (zm_lo av 3) [] M)
def lx_wr_writeRow : zm_X := (zl_up [(25, (7, 4)), (21, (7, 3)), (83, (6, 1)), (94, (4, 2)), (31, (7, 5)), (101, (4, 1)), (114, (6, 0))], zl_up [], zl_up [], zl_up [(159, (2, .inl fn_tl_sharedStart)), (168, (1, .inl fn_jm_abs)), (180, (2, .inl fn_jm_min)), (195, (4, .inr (.inl fn_wr_writeHead))), (209, (2, .inr (.inl fn_by_putType))), (217, (2, .inr (.inl fn_by_put))), (223, (2, .inr (.inl fn_by_putTwo))), (235, (4, .inr (.inl fn_wr_writeTypes))), (243, (3, .inr (.inl fn_wr_writeWhole)))])
def fn_wr_writeRow : List zm_V → zm_M → Option zm_M := zm_fv zt_Y 7 2 (fun av M => zm_rn zt_Y lx_wr_writeRow zr_v cd_wr_writeRow 1 0 (zm_lo av 7) [] M)
def lx_tl_takeOver : zm_X := (zl_up [(9, (6, 0)), (15, (6, 1)), (19, (6, 2))], zl_up [], zl_up [], zl_up [(52, (5, .inr (.inl (zm_ac zt_Y))))])
def fn_tl_takeOver : List zm_V → zm_M → Option zm_M := zm_fv zt_Y 6 1 (fun av M => zm_rn zt_Y lx_tl_takeOver zr_v cd_tl_takeOver 1 0 (zm_lo av 2) [] M)
def lx_wr_writeRows : zm_X := (zl_up [(35, (7, 0)), (12, (7, 2)), (21, (7, 3)), (31, (7, 5)), (52, (2, 1)), (56, (1, 9)), (39, (7, 1)), (57, (5, 4)), (25, (7, 4)), (63, (5, 3)), (67, (1, 8))], zl_up [], zl_up [], zl_up [(87, (2, .inr (.inl fn_pr_enter))), (99, (2, .inr (.inl fn_tl_gather))), (143, (3, .inr (.inl fn_wr_writeRow))), (151, (2, .inr (.inl fn_tl_takeOver)))])
def fn_wr_writeRows : List zm_V → zm_M → Option (Int32 × zm_M) := zm_fv zt_Y 7 0 (fun av M => zm_rn zt_Y lx_wr_writeRows zr_i cd_wr_writeRows 1073741824 0 (zm_lo av 4) [] M)
def lx_by_takeOver : zm_X := (zl_up [(15, (2, 1)), (9, (2, 0))], zl_up [], zl_up [], zl_up [(66, (2, .inl fn_jm_min)), (78, (5, .inr (.inl (zm_ac zt_Y))))])
def fn_by_takeOver : List zm_V → zm_M → Option zm_M := zm_fv zt_Y 2 1 (fun av M => zm_rn zt_Y lx_by_takeOver zr_v cd_by_takeOver 1 0 (zm_lo av 2) [] M)
def lx_mf_make : zm_X := (zl_up [(40, (10, 3)), (49, (10, 4)), (128, (7, 5)), (131, (2, 1)), (26, (10, 2)), (58, (10, 5)), (136, (8, 9))], zl_up [], zl_up [], zl_up [(241, (1, .inl fn_fl_isRight)), (249, (1, .inl fn_wr_writeRows)), (265, (2, .inr (.inl fn_by_takeOver)))])
def fn_mf_make : List zm_V → zm_M → Option (Int32 × zm_M) := zm_fv zt_Y 10 0 (fun av M => zm_rn zt_Y lx_mf_make zr_i cd_mf_make 1 0 (zm_lo av 2) [] M)
def lx_mf_isQuestion : zm_X := (zl_up [], zl_up [], zl_up [], zl_up [])
def fn_mf_isQuestion : List zm_V → zm_M → Option (Int32 × zm_M) := zm_fs 2 (fun av M => zm_rn zt_Y lx_mf_isQuestion zr_z cd_mf_isQuestion 1 0 (zm_lo av 2) [] M)
def lx_fr_tell : zm_X := (zl_up [(9, (4, 0)), (24, (4, 2)), (15, (4, 1)), (31, (4, 4))], zl_up [], zl_up [], zl_up [])
def fn_fr_tell : List zm_V → zm_M → Option (Int32 × zm_M) := zm_fv zt_Y 4 1 (fun av M => zm_rn zt_Y lx_fr_tell zr_i cd_fr_tell 1 0 (zm_lo av 2) [] M)
def lx_mf_flow : zm_X := (zl_up [(19, (10, 1)), (104, (1, 9)), (40, (10, 3)), (144, (5, 3))], zl_up [], zl_up [], zl_up [(280, (2, .inl fn_mf_isQuestion)), (241, (1, .inl fn_fl_isRight)), (297, (2, .inl fn_fr_tell))])
def fn_mf_flow : List zm_V → zm_M → Option (Int32 × zm_M) := zm_fv zt_Y 10 2 (fun av M => zm_rn zt_Y lx_mf_flow zr_i cd_mf_flow 1 0 (zm_lo av 3) [] M)
def lx_re_begin : zm_X := (zl_up [(39, (8, 0)), (12, (8, 2)), (21, (8, 3)), (36, (8, 7)), (57, (8, 8)), (61, (8, 11))], zl_up [], zl_up [], zl_up [(159, (2, .inr (.inl fn_pr_enter))), (167, (2, .inr (.inl fn_tl_gather))), (172, (2, .inr (.inl fn_ja_fill)))])
def fn_re_begin : List zm_V → zm_M → Option zm_M := zm_fv zt_Y 8 0 (fun av M => zm_rn zt_Y lx_re_begin zr_v cd_re_begin 1 0 (zm_lo av 1) [] M)
def lx_re_readByte : zm_X := (zl_up [(61, (8, 11)), (43, (8, 1)), (64, (2, 1)), (150, (2, 0))], zl_up [], zl_up [], zl_up [])
def fn_re_readByte : List zm_V → zm_M → Option (Int32 × zm_M) := zm_fv zt_Y 8 0 (fun av M => zm_rn zt_Y lx_re_readByte zr_i cd_re_readByte 1 0 (zm_lo av 1) [] M)
def lx_re_readTwo : zm_X := (zl_up [], zl_up [], zl_up [], zl_up [(185, (1, .inl fn_re_readByte))])
def fn_re_readTwo : List zm_V → zm_M → Option (Int32 × zm_M) := zm_fv zt_Y 8 0 (fun av M => zm_rn zt_Y lx_re_readTwo zr_i cd_re_readTwo 1 0 (zm_lo av 3) [] M)
def lx_re_readType : zm_X := (zl_up [], zl_up [], zl_up [], zl_up [(185, (1, .inl fn_re_readByte)), (207, (1, .inl fn_re_readTwo)), (286, (1, .inl fn_mf_isClass)), (292, (2, .inl fn_mf_typeOf))])
def fn_re_readType : List zm_V → zm_M → Option (Int32 × zm_M) := zm_fv zt_Y 8 0 (fun av M => zm_rn zt_Y lx_re_readType zr_i cd_re_readType 1 0 (zm_lo av 3) [] M)
def lx_re_readStack : zm_X := (zl_up [], zl_up [], zl_up [], zl_up [(269, (1, .inl fn_re_readType)), (281, (2, .inl fn_fr_push))])
def fn_re_readStack : List zm_V → zm_M → Option (Int32 × zm_M) := zm_fv zt_Y 8 2 (fun av M => zm_rn zt_Y lx_re_readStack zr_z cd_re_readStack 1073741824 0 (zm_lo av 5) [] M)
def lx_re_readList : zm_X := (zl_up [(21, (8, 3))], zl_up [], zl_up [], zl_up [(269, (1, .inl fn_re_readType)), (275, (2, .inl fn_tl_append))])
def fn_re_readList : List zm_V → zm_M → Option (Int32 × zm_M) := zm_fv zt_Y 8 1 (fun av M => zm_rn zt_Y lx_re_readList zr_z cd_re_readList 1073741824 0 (zm_lo av 4) [] M)
def lx_re_shorten : zm_X := (zl_up [(21, (8, 3)), (130, (6, 1))], zl_up [], zl_up [], zl_up [(263, (1, .inr (.inl fn_tl_drop)))])
def fn_re_shorten : List zm_V → zm_M → Option (Int32 × zm_M) := zm_fv zt_Y 8 1 (fun av M => zm_rn zt_Y lx_re_shorten zr_z cd_re_shorten 1073741824 0 (zm_lo av 3) [] M)
def lx_re_readRest : zm_X := (zl_up [(21, (8, 3))], zl_up [], zl_up [], zl_up [(199, (3, .inl fn_re_readStack)), (241, (1, .inr (.inl fn_tl_empty))), (207, (1, .inl fn_re_readTwo)), (247, (2, .inl fn_re_readList)), (255, (2, .inl fn_re_shorten))])
def fn_re_readRest : List zm_V → zm_M → Option (Int32 × zm_M) := zm_fv zt_Y 8 2 (fun av M => zm_rn zt_Y lx_re_readRest zr_z cd_re_readRest 1 0 (zm_lo av 3) [] M)
def lx_tl_spread : zm_X := (zl_up [(35, (4, 0)), (15, (6, 1)), (9, (6, 0))], zl_up [], zl_up [], zl_up [(94, (2, .inr (.inl fn_ja_fill))), (44, (1, .inl fn_mf_widthOf))])
def fn_tl_spread : List zm_V → zm_M → Option zm_M := zm_fv zt_Y 6 1 (fun av M => zm_rn zt_Y lx_tl_spread zr_v cd_tl_spread 1073741824 0 (zm_lo av 4) [] M)
def lx_re_readRow : zm_X := (zl_up [(33, (8, 6)), (57, (8, 8)), (29, (8, 5)), (21, (8, 3)), (117, (4, 4))], zl_up [], zl_up [], zl_up [(185, (1, .inl fn_re_readByte)), (193, (1, .inr (.inl fn_fr_emptyStack))), (199, (3, .inl fn_re_readStack)), (207, (1, .inl fn_re_readTwo)), (213, (3, .inl fn_re_readRest)), (221, (2, .inr (.inl fn_tl_spread))), (227, (1, .inl fn_fr_hasRawThisInLocal))])
def fn_re_readRow : List zm_V → zm_M → Option (Int32 × zm_M) := zm_fv zt_Y 8 1 (fun av M => zm_rn zt_Y lx_re_readRow zr_z cd_re_readRow 1 0 (zm_lo av 4) [] M)
def lx_re_isSound : zm_X := (zl_up [(47, (8, 9)), (51, (8, 10)), (57, (8, 8)), (61, (8, 11)), (43, (8, 1)), (64, (2, 1)), (25, (8, 4)), (29, (8, 5)), (39, (8, 0)), (36, (8, 7))], zl_up [], zl_up [], zl_up [(109, (1, .inr (.inl fn_re_begin))), (139, (2, .inl fn_re_readRow)), (147, (2, .inl fn_pr_placeAt))])
def fn_re_isSound : List zm_V → zm_M → Option (Int32 × zm_M) := zm_fv zt_Y 8 0 (fun av M => zm_rn zt_Y lx_re_isSound zr_z cd_re_isSound 1073741824 0 (zm_lo av 3) [] M)
def lx_fa_fits : zm_X := (zl_up [(37, (4, 4)), (43, (4, 2)), (47, (4, 0)), (54, (4, 1))], zl_up [], zl_up [], zl_up [(101, (3, .inl fn_fa_is))])
def fn_fa_fits : List zm_V → zm_M → Option (Int32 × zm_M) := zm_fv zt_Y 0 2 (fun av M => zm_rn zt_Y lx_fa_fits zr_z cd_fa_fits 1073741824 0 (zm_lo av 4) [] M)
def lx_ck_begins : zm_X := (zl_up [(33, (9, 3)), (71, (8, 7)), (21, (9, 0)), (12, (9, 4)), (76, (8, 4))], zl_up [], zl_up [], zl_up [(161, (3, .inl fn_fa_fits)), (173, (2, .inr (.inl fn_fr_takeOver)))])
def fn_ck_begins : List zm_V → zm_M → Option (Int32 × zm_M) := zm_fv zt_Y 9 2 (fun av M => zm_rn zt_Y lx_ck_begins zr_z cd_ck_begins 1 0 (zm_lo av 4) [] M)
def lx_ck_fitsAt : zm_X := (zl_up [(33, (9, 3)), (71, (8, 7)), (21, (9, 0)), (76, (8, 4))], zl_up [], zl_up [], zl_up [(161, (3, .inl fn_fa_fits))])
def fn_ck_fitsAt : List zm_V → zm_M → Option (Int32 × zm_M) := zm_fv zt_Y 9 2 (fun av M => zm_rn zt_Y lx_ck_fitsAt zr_z cd_ck_fitsAt 1 0 (zm_lo av 4) [] M)
def lx_ck_handlersFit : zm_X := (zl_up [(25, (9, 1)), (89, (1, 14)), (18, (9, 5)), (12, (9, 4)), (96, (1, 13)), (103, (1, 12))], zl_up [], zl_up [], zl_up [(185, (3, .inl fn_pr_isGuarded)), (199, (3, .inr (.inl fn_fr_takeOverForHandler))), (213, (3, .inl fn_ck_fitsAt))])
def fn_ck_handlersFit : List zm_V → zm_M → Option (Int32 × zm_M) := zm_fv zt_Y 9 1 (fun av M => zm_rn zt_Y lx_ck_handlersFit zr_z cd_ck_handlersFit 1073741824 0 (zm_lo av 3) [] M)
def lx_ck_jumpFits : zm_X := (zl_up [(25, (9, 1)), (64, (1, 5)), (112, (1, 7)), (12, (9, 4))], zl_up [], zl_up [], zl_up [(218, (1, .inl fn_mf_isJump)), (213, (3, .inl fn_ck_fitsAt))])
def fn_ck_jumpFits : List zm_V → zm_M → Option (Int32 × zm_M) := zm_fv zt_Y 9 1 (fun av M => zm_rn zt_Y lx_ck_jumpFits zr_z cd_ck_jumpFits 1 0 (zm_lo av 2) [] M)
def lx_ck_firstBad : zm_X := (zl_up [(25, (9, 1)), (12, (9, 4)), (43, (1, 9)), (29, (9, 2)), (64, (1, 5))], zl_up [], zl_up [], zl_up [(75, (2, .inr (.inl fn_pr_enter))), (95, (3, .inl fn_ck_begins)), (103, (2, .inl fn_ck_handlersFit)), (111, (3, .inl fn_ma_step)), (123, (2, .inl fn_ck_jumpFits)), (136, (1, .inl fn_mf_isEnd))])
def fn_ck_firstBad : List zm_V → zm_M → Option (Int32 × zm_M) := zm_fv zt_Y 9 0 (fun av M => zm_rn zt_Y lx_ck_firstBad zr_i cd_ck_firstBad 1073741824 0 (zm_lo av 3) [] M)
def lx_mf_check : zm_X := (zl_up [(19, (10, 1)), (104, (1, 9)), (58, (10, 5)), (67, (10, 6))], zl_up [], zl_up [], zl_up [(307, (1, .inl fn_re_isSound)), (313, (1, .inl fn_ck_firstBad))])
def fn_mf_check : List zm_V → zm_M → Option (Int32 × zm_M) := zm_fv zt_Y 10 0 (fun av M => zm_rn zt_Y lx_mf_check zr_i cd_mf_check 1 0 (zm_lo av 1) [] M)
def lx_mf_map : zm_X := (zl_up [(26, (10, 2)), (131, (2, 1)), (159, (2, 0))], zl_up [], zl_up [], zl_up [])
def fn_mf_map : List zm_V → zm_M → Option (Int32 × zm_M) := zm_fv zt_Y 10 1 (fun av M => zm_rn zt_Y lx_mf_map zr_i cd_mf_map 1 0 (zm_lo av 2) [] M)
def lx_jm_max : zm_X := (zl_up [], zl_up [], zl_up [], zl_up [])
def fn_jm_max : List zm_V → zm_M → Option (Int32 × zm_M) := zm_fs 2 (fun av M => zm_rn zt_Y lx_jm_max zr_i cd_jm_max 1 0 (zm_lo av 2) [] M)
def lx_mf_patch : zm_X := (zl_up [(26, (10, 2)), (131, (2, 1)), (159, (2, 0)), (58, (10, 5)), (136, (8, 9))], zl_up [], zl_up [], zl_up [(324, (2, .inl fn_jm_max))])
def fn_mf_patch : List zm_V → zm_M → Option (Int32 × zm_M) := zm_fv zt_Y 10 2 (fun av M => zm_rn zt_Y lx_mf_patch zr_z cd_mf_patch 1 0 (zm_lo av 3) [] M)
def lx_mf_cut : zm_X := (zl_up [(26, (10, 2)), (131, (2, 1)), (58, (10, 5)), (136, (8, 9))], zl_up [], zl_up [], zl_up [])
def fn_mf_cut : List zm_V → zm_M → Option (Int32 × zm_M) := zm_fv zt_Y 10 1 (fun av M => zm_rn zt_Y lx_mf_cut zr_i cd_mf_cut 1 0 (zm_lo av 3) [] M)
def lx_mf_row : zm_X := (zl_up [(58, (10, 5)), (168, (8, 8)), (171, (8, 5)), (174, (8, 6)), (177, (8, 4))], zl_up [], zl_up [], zl_up [(280, (2, .inl fn_mf_isQuestion)), (307, (1, .inl fn_re_isSound)), (297, (2, .inl fn_fr_tell))])
def fn_mf_row : List zm_V → zm_M → Option (Int32 × zm_M) := zm_fv zt_Y 10 2 (fun av M => zm_rn zt_Y lx_mf_row zr_i cd_mf_row 1 0 (zm_lo av 3) [] M)
def lx_mf_code : zm_X := (zl_up [(19, (10, 1)), (104, (1, 9)), (178, (1, 5)), (181, (1, 6)), (184, (1, 7)), (187, (1, 8))], zl_up [], zl_up [], zl_up [])
def fn_mf_code : List zm_V → zm_M → Option (Int32 × zm_M) := zm_fv zt_Y 10 2 (fun av M => zm_rn zt_Y lx_mf_code zr_i cd_mf_code 1 0 (zm_lo av 3) [] M)
def lx_mf_count : zm_X := (zl_up [(19, (10, 1)), (104, (1, 9)), (114, (1, 14)), (92, (1, 4)), (187, (1, 8)), (58, (10, 5)), (168, (8, 8))], zl_up [], zl_up [], zl_up [(307, (1, .inl fn_re_isSound))])
def fn_mf_count : List zm_V → zm_M → Option (Int32 × zm_M) := zm_fv zt_Y 10 1 (fun av M => zm_rn zt_Y lx_mf_count zr_i cd_mf_count 1 0 (zm_lo av 2) [] M)
def lx_mo_in : zm_X := (zl_up [], zl_up [], zl_up [], zl_up [])
def fn_mo_in : List zm_V → zm_M → Option (Int32 × zm_M) := zm_fs 3 (fun av M => zm_rn zt_Y lx_mo_in zr_z cd_mo_in 1 0 (zm_lo av 3) [] M)
def lx_mo_type : zm_X := (zl_up [(7, (11, 0)), (13, (11, 1))], zl_up [], zl_up [], zl_up [(194, (3, .inl fn_mo_in))])
def fn_mo_type : List zm_V → zm_M → Option (Int32 × zm_M) := zm_fv zt_Y 11 3 (fun av M => zm_rn zt_Y lx_mo_type zr_z cd_mo_type 1 0 (zm_lo av 4) [] M)
def lx_mo_method : zm_X := (zl_up [(101, (11, 2)), (105, (11, 3)), (108, (11, 8)), (112, (11, 4)), (115, (11, 5)), (118, (11, 6))], zl_up [], zl_up [], zl_up [(194, (3, .inl fn_mo_in))])
def fn_mo_method : List zm_V → zm_M → Option (Int32 × zm_M) := zm_fv zt_Y 11 3 (fun av M => zm_rn zt_Y lx_mo_method zr_z cd_mo_method 1 0 (zm_lo av 4) [] M)
def lx_mo_kind : zm_X := (zl_up [], zl_up [], zl_up [], zl_up [])
def fn_mo_kind : List zm_V → zm_M → Option (Int32 × zm_M) := zm_fs 1 (fun av M => zm_rn zt_Y lx_mo_kind zr_i cd_mo_kind 1 0 (zm_lo av 1) [] M)
def lx_mo_argument : zm_X := (zl_up [(112, (11, 4)), (17, (11, 9))], zl_up [], zl_up [], zl_up [(194, (3, .inl fn_mo_in)), (178, (1, .inl fn_mo_kind))])
def fn_mo_argument : List zm_V → zm_M → Option (Int32 × zm_M) := zm_fv zt_Y 11 1 (fun av M => zm_rn zt_Y lx_mo_argument zr_i cd_mo_argument 1 0 (zm_lo av 2) [] M)
def lx_mo_isWideLocal : zm_X := (zl_up [], zl_up [], zl_up [], zl_up [])
def fn_mo_isWideLocal : List zm_V → zm_M → Option (Int32 × zm_M) := zm_fs 1 (fun av M => zm_rn zt_Y lx_mo_isWideLocal zr_z cd_mo_isWideLocal 1 0 (zm_lo av 1) [] M)
def lx_mo_isGood : zm_X := (zl_up [], zl_up [], zl_up [], zl_up [(194, (3, .inl fn_mo_in)), (242, (1, .inl fn_mo_isWideLocal))])
def fn_mo_isGood : List zm_V → zm_M → Option (Int32 × zm_M) := zm_fs 3 (fun av M => zm_rn zt_Y lx_mo_isGood zr_z cd_mo_isGood 1 0 (zm_lo av 3) [] M)
def lx_mo_set : zm_X := (zl_up [(20, (11, 10)), (23, (11, 11)), (26, (11, 12))], zl_up [], zl_up [], zl_up [(194, (3, .inl fn_mo_in))])
def fn_mo_set : List zm_V → zm_M → Option zm_M := zm_fv zt_Y 11 4 (fun av M => zm_rn zt_Y lx_mo_set zr_v cd_mo_set 1 0 (zm_lo av 5) [] M)
def lx_mo_add : zm_X := (zl_up [(115, (11, 5))], zl_up [], zl_up [], zl_up [(250, (3, .inl fn_mo_isGood)), (257, (5, .inr (.inl fn_mo_set)))])
def fn_mo_add : List zm_V → zm_M → Option (Int32 × zm_M) := zm_fv zt_Y 11 3 (fun av M => zm_rn zt_Y lx_mo_add zr_i cd_mo_add 1 0 (zm_lo av 5) [] M)
def lx_mo_change : zm_X := (zl_up [(115, (11, 5))], zl_up [], zl_up [], zl_up [(250, (3, .inl fn_mo_isGood)), (194, (3, .inl fn_mo_in)), (257, (5, .inr (.inl fn_mo_set)))])
def fn_mo_change : List zm_V → zm_M → Option (Int32 × zm_M) := zm_fv zt_Y 11 4 (fun av M => zm_rn zt_Y lx_mo_change zr_z cd_mo_change 1 0 (zm_lo av 6) [] M)
def lx_mo_handle : zm_X := (zl_up [(118, (11, 6)), (29, (11, 13)), (32, (11, 14)), (35, (11, 15)), (38, (11, 16))], zl_up [], zl_up [], zl_up [(194, (3, .inl fn_mo_in))])
def fn_mo_handle : List zm_V → zm_M → Option (Int32 × zm_M) := zm_fv zt_Y 11 4 (fun av M => zm_rn zt_Y lx_mo_handle zr_i cd_mo_handle 1 0 (zm_lo av 5) [] M)
def lx_mo_isWide : zm_X := (zl_up [], zl_up [], zl_up [], zl_up [])
def fn_mo_isWide : List zm_V → zm_M → Option (Int32 × zm_M) := zm_fs 1 (fun av M => zm_rn zt_Y lx_mo_isWide zr_z cd_mo_isWide 1 0 (zm_lo av 1) [] M)
def lx_mo_first : zm_X := (zl_up [(44, (11, 18)), (105, (11, 3)), (101, (11, 2)), (112, (11, 4)), (17, (11, 9)), (138, (11, 20)), (141, (11, 21))], zl_up [], zl_up [], zl_up [(270, (1, .inl fn_mo_isWide))])
def fn_mo_first : List zm_V → zm_M → Option zm_M := zm_fv zt_Y 11 0 (fun av M => zm_rn zt_Y lx_mo_first zr_v cd_mo_first 1073741824 0 (zm_lo av 3) [] M)
def lx_mo_isInLine : zm_X := (zl_up [(7, (11, 0))], zl_up [], zl_up [], zl_up [])
def fn_mo_isInLine : List zm_V → zm_M → Option (Int32 × zm_M) := zm_fv zt_Y 11 2 (fun av M => zm_rn zt_Y lx_mo_isInLine zr_z cd_mo_isInLine 1073741824 0 (zm_lo av 4) [] M)
def lx_mo_join : zm_X := (zl_up [(7, (11, 0))], zl_up [], zl_up [], zl_up [(178, (1, .inl fn_mo_kind)), (187, (3, .inl fn_mo_isInLine))])
def fn_mo_join : List zm_V → zm_M → Option (Int32 × zm_M) := zm_fv zt_Y 11 2 (fun av M => zm_rn zt_Y lx_mo_join zr_i cd_mo_join 1073741824 0 (zm_lo av 7) [] M)
def lx_mo_arrive : zm_X := (zl_up [(115, (11, 5)), (50, (11, 22)), (56, (11, 24)), (138, (11, 20)), (194, (11, 27)), (44, (11, 18)), (59, (11, 25)), (201, (11, 28)), (47, (11, 19)), (62, (11, 26)), (141, (11, 21)), (53, (11, 23))], zl_up [], zl_up [], zl_up [(395, (3, .inl fn_mo_join))])
def fn_mo_arrive : List zm_V → zm_M → Option zm_M := zm_fv zt_Y 11 1 (fun av M => zm_rn zt_Y lx_mo_arrive zr_v cd_mo_arrive 1073741824 0 (zm_lo av 6) [] M)
def lx_mo_fetch : zm_X := (zl_up [(56, (11, 24)), (138, (11, 20)), (53, (11, 23)), (141, (11, 21)), (44, (11, 18)), (59, (11, 25)), (47, (11, 19)), (62, (11, 26))], zl_up [], zl_up [], zl_up [])
def fn_mo_fetch : List zm_V → zm_M → Option zm_M := zm_fv zt_Y 11 1 (fun av M => zm_rn zt_Y lx_mo_fetch zr_v cd_mo_fetch 1073741824 0 (zm_lo av 3) [] M)
def lx_mo_top : zm_X := (zl_up [(138, (11, 20)), (47, (11, 19))], zl_up [], zl_up [], zl_up [])
def fn_mo_top : List zm_V → zm_M → Option (Int32 × zm_M) := zm_fv zt_Y 11 1 (fun av M => zm_rn zt_Y lx_mo_top zr_i cd_mo_top 1 0 (zm_lo av 2) [] M)
def lx_mo_slots : zm_X := (zl_up [(138, (11, 20)), (47, (11, 19))], zl_up [], zl_up [], zl_up [(270, (1, .inl fn_mo_isWide))])
def fn_mo_slots : List zm_V → zm_M → Option (Int32 × zm_M) := zm_fv zt_Y 11 0 (fun av M => zm_rn zt_Y lx_mo_slots zr_i cd_mo_slots 1073741824 0 (zm_lo av 3) [] M)
def lx_mo_push : zm_X := (zl_up [(47, (11, 19)), (138, (11, 20))], zl_up [], zl_up [], zl_up [(289, (1, .inl fn_mo_slots)), (270, (1, .inl fn_mo_isWide))])
def fn_mo_push : List zm_V → zm_M → Option (Int32 × zm_M) := zm_fv zt_Y 11 1 (fun av M => zm_rn zt_Y lx_mo_push zr_z cd_mo_push 1 0 (zm_lo av 2) [] M)
def lx_mo_isSmall : zm_X := (zl_up [], zl_up [], zl_up [], zl_up [(270, (1, .inl fn_mo_isWide))])
def fn_mo_isSmall : List zm_V → zm_M → Option (Int32 × zm_M) := zm_fs 1 (fun av M => zm_rn zt_Y lx_mo_isSmall zr_z cd_mo_isSmall 1 0 (zm_lo av 1) [] M)
def lx_mo_takes : zm_X := (zl_up [(138, (11, 20))], zl_up [], zl_up [], zl_up [])
def fn_mo_takes : List zm_V → zm_M → Option (Int32 × zm_M) := zm_fv zt_Y 11 2 (fun av M => zm_rn zt_Y lx_mo_takes zr_z cd_mo_takes 1 0 (zm_lo av 3) [] M)
def lx_mo_sum : zm_X := (zl_up [(138, (11, 20))], zl_up [], zl_up [], zl_up [(303, (2, .inl fn_mo_top))])
def fn_mo_sum : List zm_V → zm_M → Option (Int32 × zm_M) := zm_fv zt_Y 11 1 (fun av M => zm_rn zt_Y lx_mo_sum zr_z cd_mo_sum 1 0 (zm_lo av 2) [] M)
def lx_mo_swap : zm_X := (zl_up [(138, (11, 20))], zl_up [], zl_up [], zl_up [(303, (2, .inl fn_mo_top)), (309, (2, .inl fn_mo_push))])
def fn_mo_swap : List zm_V → zm_M → Option (Int32 × zm_M) := zm_fv zt_Y 11 2 (fun av M => zm_rn zt_Y lx_mo_swap zr_z cd_mo_swap 1 0 (zm_lo av 3) [] M)
def lx_mo_is : zm_X := (zl_up [(13, (11, 1))], zl_up [], zl_up [], zl_up [(178, (1, .inl fn_mo_kind)), (187, (3, .inl fn_mo_isInLine))])
def fn_mo_is : List zm_V → zm_M → Option (Int32 × zm_M) := zm_fv zt_Y 11 2 (fun av M => zm_rn zt_Y lx_mo_is zr_z cd_mo_is 1 0 (zm_lo av 3) [] M)
def lx_mo_simple : zm_X := (zl_up [(47, (11, 19)), (138, (11, 20)), (108, (11, 8)), (105, (11, 3)), (141, (11, 21))], zl_up [], zl_up [], zl_up [(303, (2, .inl fn_mo_top)), (309, (2, .inl fn_mo_push)), (314, (1, .inl fn_mo_isSmall)), (321, (3, .inl fn_mo_takes)), (270, (1, .inl fn_mo_isWide)), (329, (2, .inl fn_mo_sum)), (335, (3, .inl fn_mo_swap)), (341, (3, .inl fn_mo_is))])
def fn_mo_simple : List zm_V → zm_M → Option (Int32 × zm_M) := zm_fv zt_Y 11 1 (fun av M => zm_rn zt_Y lx_mo_simple zr_z cd_mo_simple 1 0 (zm_lo av 4) [] M)
def lx_mo_typeFor : zm_X := (zl_up [], zl_up [], zl_up [], zl_up [])
def fn_mo_typeFor : List zm_V → zm_M → Option (Int32 × zm_M) := zm_fs 1 (fun av M => zm_rn zt_Y lx_mo_typeFor zr_i cd_mo_typeFor 1 0 (zm_lo av 1) [] M)
def lx_mo_isPointer : zm_X := (zl_up [], zl_up [], zl_up [], zl_up [(178, (1, .inl fn_mo_kind))])
def fn_mo_isPointer : List zm_V → zm_M → Option (Int32 × zm_M) := zm_fs 1 (fun av M => zm_rn zt_Y lx_mo_isPointer zr_z cd_mo_isPointer 1 0 (zm_lo av 1) [] M)
def lx_mo_isReference : zm_X := (zl_up [], zl_up [], zl_up [], zl_up [(296, (1, .inl fn_mo_isPointer)), (178, (1, .inl fn_mo_kind))])
def fn_mo_isReference : List zm_V → zm_M → Option (Int32 × zm_M) := zm_fs 1 (fun av M => zm_rn zt_Y lx_mo_isReference zr_z cd_mo_isReference 1 0 (zm_lo av 1) [] M)
def lx_mo_move : zm_X := (zl_up [(44, (11, 18)), (138, (11, 20))], zl_up [], zl_up [], zl_up [(346, (1, .inl fn_mo_typeFor)), (352, (1, .inl fn_mo_isReference)), (309, (2, .inl fn_mo_push)), (303, (2, .inl fn_mo_top)), (270, (1, .inl fn_mo_isWide))])
def fn_mo_move : List zm_V → zm_M → Option (Int32 × zm_M) := zm_fv zt_Y 11 2 (fun av M => zm_rn zt_Y lx_mo_move zr_z cd_mo_move 1 0 (zm_lo av 5) [] M)
def lx_mo_sizeOf : zm_X := (zl_up [], zl_up [], zl_up [], zl_up [])
def fn_mo_sizeOf : List zm_V → zm_M → Option (Int32 × zm_M) := zm_fs 1 (fun av M => zm_rn zt_Y lx_mo_sizeOf zr_i cd_mo_sizeOf 1 0 (zm_lo av 1) [] M)
def lx_mo_offset : zm_X := (zl_up [(20, (11, 10))], zl_up [], zl_up [], zl_up [(264, (1, .inl fn_mo_sizeOf))])
def fn_mo_offset : List zm_V → zm_M → Option (Int32 × zm_M) := zm_fv zt_Y 11 1 (fun av M => zm_rn zt_Y lx_mo_offset zr_i cd_mo_offset 1073741824 0 (zm_lo av 4) [] M)
def lx_mo_placeAt : zm_X := (zl_up [(115, (11, 5)), (20, (11, 10))], zl_up [], zl_up [], zl_up [(264, (1, .inl fn_mo_sizeOf))])
def fn_mo_placeAt : List zm_V → zm_M → Option (Int32 × zm_M) := zm_fv zt_Y 11 1 (fun av M => zm_rn zt_Y lx_mo_placeAt zr_i cd_mo_placeAt 1073741824 0 (zm_lo av 4) [] M)
def lx_mo_init : zm_X := (zl_up [(101, (11, 2)), (7, (11, 0)), (20, (11, 10)), (23, (11, 11)), (138, (11, 20)), (47, (11, 19)), (44, (11, 18)), (141, (11, 21))], zl_up [], zl_up [], zl_up [(303, (2, .inl fn_mo_top)), (178, (1, .inl fn_mo_kind)), (359, (2, .inl fn_mo_placeAt))])
def fn_mo_init : List zm_V → zm_M → Option (Int32 × zm_M) := zm_fv zt_Y 11 1 (fun av M => zm_rn zt_Y lx_mo_init zr_z cd_mo_init 1073741824 0 (zm_lo av 6) [] M)
def lx_mo_leave : zm_X := (zl_up [(20, (11, 10)), (23, (11, 11)), (138, (11, 20)), (26, (11, 12))], zl_up [], zl_up [], zl_up [(303, (2, .inl fn_mo_top)), (365, (2, .inl fn_mo_simple)), (371, (3, .inl fn_mo_move)), (321, (3, .inl fn_mo_takes)), (296, (1, .inl fn_mo_isPointer)), (377, (2, .inl fn_mo_offset)), (309, (2, .inl fn_mo_push)), (383, (2, .inl fn_mo_init)), (341, (3, .inl fn_mo_is))])
def fn_mo_leave : List zm_V → zm_M → Option (Int32 × zm_M) := zm_fv zt_Y 11 1 (fun av M => zm_rn zt_Y lx_mo_leave zr_z cd_mo_leave 1 0 (zm_lo av 6) [] M)
def lx_mo_isEnd : zm_X := (zl_up [], zl_up [], zl_up [], zl_up [(194, (3, .inl fn_mo_in))])
def fn_mo_isEnd : List zm_V → zm_M → Option (Int32 × zm_M) := zm_fs 1 (fun av M => zm_rn zt_Y lx_mo_isEnd zr_z cd_mo_isEnd 1 0 (zm_lo av 1) [] M)
def lx_mo_goHandled : zm_X := (zl_up [(118, (11, 6)), (194, (11, 27)), (29, (11, 13)), (32, (11, 14)), (138, (11, 20)), (47, (11, 19)), (38, (11, 16)), (35, (11, 15))], zl_up [], zl_up [], zl_up [(415, (2, .inr (.inl fn_mo_fetch))), (423, (2, .inr (.inl fn_mo_arrive)))])
def fn_mo_goHandled : List zm_V → zm_M → Option zm_M := zm_fv zt_Y 11 1 (fun av M => zm_rn zt_Y lx_mo_goHandled zr_v cd_mo_goHandled 1073741824 0 (zm_lo av 3) [] M)
def lx_mo_hasRow : zm_X := (zl_up [(20, (11, 10)), (115, (11, 5)), (26, (11, 12)), (118, (11, 6)), (35, (11, 15))], zl_up [], zl_up [], zl_up [(408, (1, .inl fn_mo_isEnd)), (194, (3, .inl fn_mo_in))])
def fn_mo_hasRow : List zm_V → zm_M → Option (Int32 × zm_M) := zm_fv zt_Y 11 1 (fun av M => zm_rn zt_Y lx_mo_hasRow zr_z cd_mo_hasRow 1073741824 0 (zm_lo av 3) [] M)
def lx_mo_hasThis : zm_X := (zl_up [(59, (11, 25))], zl_up [], zl_up [], zl_up [])
def fn_mo_hasThis : List zm_V → zm_M → Option (Int32 × zm_M) := zm_fv zt_Y 11 1 (fun av M => zm_rn zt_Y lx_mo_hasThis zr_z cd_mo_hasThis 1073741824 0 (zm_lo av 3) [] M)
def lx_mo_isRight : zm_X := (zl_up [(115, (11, 5)), (194, (11, 27)), (50, (11, 22)), (201, (11, 28)), (20, (11, 10)), (26, (11, 12)), (53, (11, 23))], zl_up [], zl_up [], zl_up [(429, (1, .inr (.inl fn_mo_first))), (423, (2, .inr (.inl fn_mo_arrive))), (415, (2, .inr (.inl fn_mo_fetch))), (435, (2, .inl fn_mo_leave)), (194, (3, .inl fn_mo_in)), (408, (1, .inl fn_mo_isEnd)), (441, (2, .inr (.inl fn_mo_goHandled))), (447, (2, .inl fn_mo_hasRow)), (453, (2, .inl fn_mo_hasThis))])
def fn_mo_isRight : List zm_V → zm_M → Option (Int32 × zm_M) := zm_fv zt_Y 11 0 (fun av M => zm_rn zt_Y lx_mo_isRight zr_z cd_mo_isRight 1073741824 0 (zm_lo av 2) [] M)
def lx_mo_enlist : zm_X := (zl_up [(233, (11, 37)), (80, (11, 35)), (44, (11, 18))], zl_up [], zl_up [], zl_up [(270, (1, .inl fn_mo_isWide))])
def fn_mo_enlist : List zm_V → zm_M → Option zm_M := zm_fv zt_Y 11 0 (fun av M => zm_rn zt_Y lx_mo_enlist zr_v cd_mo_enlist 1073741824 0 (zm_lo av 2) [] M)
def lx_mo_keep : zm_X := (zl_up [(233, (11, 37)), (83, (11, 36)), (80, (11, 35)), (236, (11, 38))], zl_up [], zl_up [], zl_up [])
def fn_mo_keep : List zm_V → zm_M → Option zm_M := zm_fv zt_Y 11 0 (fun av M => zm_rn zt_Y lx_mo_keep zr_v cd_mo_keep 1073741824 0 (zm_lo av 2) [] M)
def lx_mo_begins : zm_X := (zl_up [(233, (11, 37)), (236, (11, 38)), (80, (11, 35)), (83, (11, 36))], zl_up [], zl_up [], zl_up [])
def fn_mo_begins : List zm_V → zm_M → Option (Int32 × zm_M) := zm_fv zt_Y 11 0 (fun av M => zm_rn zt_Y lx_mo_begins zr_z cd_mo_begins 1073741824 0 (zm_lo av 3) [] M)
def lx_mo_write : zm_X := (zl_up [(86, (11, 39)), (239, (11, 40))], zl_up [], zl_up [], zl_up [])
def fn_mo_write : List zm_V → zm_M → Option zm_M := zm_fv zt_Y 11 1 (fun av M => zm_rn zt_Y lx_mo_write zr_v cd_mo_write 1 0 (zm_lo av 2) [] M)
def lx_mo_writeTwo : zm_X := (zl_up [], zl_up [], zl_up [], zl_up [(485, (2, .inr (.inl fn_mo_write)))])
def fn_mo_writeTwo : List zm_V → zm_M → Option zm_M := zm_fv zt_Y 11 1 (fun av M => zm_rn zt_Y lx_mo_writeTwo zr_v cd_mo_writeTwo 1 0 (zm_lo av 2) [] M)
def lx_mo_writeType : zm_X := (zl_up [], zl_up [], zl_up [], zl_up [(178, (1, .inl fn_mo_kind)), (485, (2, .inr (.inl fn_mo_write))), (491, (2, .inr (.inl fn_mo_writeTwo)))])
def fn_mo_writeType : List zm_V → zm_M → Option zm_M := zm_fv zt_Y 11 1 (fun av M => zm_rn zt_Y lx_mo_writeType zr_v cd_mo_writeType 1 0 (zm_lo av 2) [] M)
def lx_mo_writeRow : zm_X := (zl_up [(233, (11, 37)), (236, (11, 38)), (138, (11, 20)), (47, (11, 19)), (80, (11, 35))], zl_up [], zl_up [], zl_up [(497, (1, .inl fn_mo_begins)), (485, (2, .inr (.inl fn_mo_write))), (491, (2, .inr (.inl fn_mo_writeTwo))), (503, (2, .inr (.inl fn_mo_writeType))), (194, (3, .inl fn_mo_in))])
def fn_mo_writeRow : List zm_V → zm_M → Option zm_M := zm_fv zt_Y 11 1 (fun av M => zm_rn zt_Y lx_mo_writeRow zr_v cd_mo_writeRow 1073741824 0 (zm_lo av 5) [] M)
def lx_mo_make : zm_X := (zl_up [(239, (11, 40)), (115, (11, 5)), (41, (11, 17)), (86, (11, 39)), (263, (11, 7))], zl_up [], zl_up [], zl_up [(459, (1, .inl fn_mo_isRight)), (429, (1, .inr (.inl fn_mo_first))), (509, (1, .inr (.inl fn_mo_enlist))), (515, (1, .inr (.inl fn_mo_keep))), (447, (2, .inl fn_mo_hasRow)), (377, (2, .inl fn_mo_offset)), (415, (2, .inr (.inl fn_mo_fetch))), (521, (2, .inr (.inl fn_mo_writeRow)))])
def fn_mo_make : List zm_V → zm_M → Option (Int32 × zm_M) := zm_fv zt_Y 11 0 (fun av M => zm_rn zt_Y lx_mo_make zr_i cd_mo_make 1073741824 0 (zm_lo av 7) [] M)
def lx_mo_flow : zm_X := (zl_up [(115, (11, 5)), (59, (11, 25)), (56, (11, 24)), (62, (11, 26)), (53, (11, 23))], zl_up [], zl_up [], zl_up [(194, (3, .inl fn_mo_in)), (459, (1, .inl fn_mo_isRight))])
def fn_mo_flow : List zm_V → zm_M → Option (Int32 × zm_M) := zm_fv zt_Y 11 2 (fun av M => zm_rn zt_Y lx_mo_flow zr_i cd_mo_flow 1 0 (zm_lo av 4) [] M)
def lx_mo_byteNext : zm_X := (zl_up [(266, (11, 41)), (263, (11, 7)), (269, (11, 42)), (41, (11, 17))], zl_up [], zl_up [], zl_up [])
def fn_mo_byteNext : List zm_V → zm_M → Option (Int32 × zm_M) := zm_fv zt_Y 11 0 (fun av M => zm_rn zt_Y lx_mo_byteNext zr_i cd_mo_byteNext 1 0 (zm_lo av 1) [] M)
def lx_mo_twoNext : zm_X := (zl_up [], zl_up [], zl_up [], zl_up [(545, (1, .inl fn_mo_byteNext))])
def fn_mo_twoNext : List zm_V → zm_M → Option (Int32 × zm_M) := zm_fv zt_Y 11 0 (fun av M => zm_rn zt_Y lx_mo_twoNext zr_i cd_mo_twoNext 1 0 (zm_lo av 2) [] M)
def lx_mo_typeNext : zm_X := (zl_up [(269, (11, 42))], zl_up [], zl_up [], zl_up [(545, (1, .inl fn_mo_byteNext)), (551, (1, .inl fn_mo_twoNext))])
def fn_mo_typeNext : List zm_V → zm_M → Option (Int32 × zm_M) := zm_fv zt_Y 11 0 (fun av M => zm_rn zt_Y lx_mo_typeNext zr_i cd_mo_typeNext 1 0 (zm_lo av 3) [] M)
def lx_mo_stackNext : zm_X := (zl_up [(269, (11, 42))], zl_up [], zl_up [], zl_up [(557, (1, .inl fn_mo_typeNext)), (309, (2, .inl fn_mo_push))])
def fn_mo_stackNext : List zm_V → zm_M → Option zm_M := zm_fv zt_Y 11 0 (fun av M => zm_rn zt_Y lx_mo_stackNext zr_v cd_mo_stackNext 1 0 (zm_lo av 3) [] M)
def lx_mo_enter : zm_X := (zl_up [(233, (11, 37)), (80, (11, 35)), (269, (11, 42))], zl_up [], zl_up [], zl_up [(270, (1, .inl fn_mo_isWide))])
def fn_mo_enter : List zm_V → zm_M → Option zm_M := zm_fv zt_Y 11 1 (fun av M => zm_rn zt_Y lx_mo_enter zr_v cd_mo_enter 1073741824 0 (zm_lo av 4) [] M)
def lx_mo_readFull : zm_X := (zl_up [(233, (11, 37)), (269, (11, 42))], zl_up [], zl_up [], zl_up [(551, (1, .inl fn_mo_twoNext)), (557, (1, .inl fn_mo_typeNext)), (569, (2, .inr (.inl fn_mo_enter))), (563, (1, .inr (.inl fn_mo_stackNext)))])
def fn_mo_readFull : List zm_V → zm_M → Option zm_M := zm_fv zt_Y 11 0 (fun av M => zm_rn zt_Y lx_mo_readFull zr_v cd_mo_readFull 1073741824 0 (zm_lo av 4) [] M)
def lx_mo_readForm : zm_X := (zl_up [(269, (11, 42)), (233, (11, 37))], zl_up [], zl_up [], zl_up [(194, (3, .inl fn_mo_in)), (551, (1, .inl fn_mo_twoNext)), (563, (1, .inr (.inl fn_mo_stackNext))), (557, (1, .inl fn_mo_typeNext)), (569, (2, .inr (.inl fn_mo_enter))), (575, (1, .inr (.inl fn_mo_readFull)))])
def fn_mo_readForm : List zm_V → zm_M → Option (Int32 × zm_M) := zm_fv zt_Y 11 1 (fun av M => zm_rn zt_Y lx_mo_readForm zr_i cd_mo_readForm 1073741824 0 (zm_lo av 5) [] M)
def lx_mo_readRows : zm_X := (zl_up [(290, (11, 34)), (266, (11, 41)), (269, (11, 42)), (263, (11, 7)), (138, (11, 20)), (65, (11, 29)), (68, (11, 30)), (71, (11, 31)), (77, (11, 33)), (47, (11, 19)), (74, (11, 32)), (233, (11, 37)), (80, (11, 35))], zl_up [], zl_up [], zl_up [(429, (1, .inr (.inl fn_mo_first))), (509, (1, .inr (.inl fn_mo_enlist))), (545, (1, .inl fn_mo_byteNext)), (587, (2, .inl fn_mo_readForm)), (359, (2, .inl fn_mo_placeAt)), (270, (1, .inl fn_mo_isWide))])
def fn_mo_readRows : List zm_V → zm_M → Option (Int32 × zm_M) := zm_fv zt_Y 11 0 (fun av M => zm_rn zt_Y lx_mo_readRows zr_z cd_mo_readRows 1073741824 0 (zm_lo av 7) [] M)
def lx_mo_rowAt : zm_X := (zl_up [(290, (11, 34)), (65, (11, 29))], zl_up [], zl_up [], zl_up [])
def fn_mo_rowAt : List zm_V → zm_M → Option (Int32 × zm_M) := zm_fv zt_Y 11 1 (fun av M => zm_rn zt_Y lx_mo_rowAt zr_i cd_mo_rowAt 1073741824 0 (zm_lo av 3) [] M)
def lx_mo_rowIsRaw : zm_X := (zl_up [(74, (11, 32))], zl_up [], zl_up [], zl_up [])
def fn_mo_rowIsRaw : List zm_V → zm_M → Option (Int32 × zm_M) := zm_fv zt_Y 11 1 (fun av M => zm_rn zt_Y lx_mo_rowIsRaw zr_z cd_mo_rowIsRaw 1073741824 0 (zm_lo av 3) [] M)
def lx_mo_fits : zm_X := (zl_up [(138, (11, 20)), (71, (11, 31)), (141, (11, 21)), (44, (11, 18)), (74, (11, 32)), (47, (11, 19)), (77, (11, 33))], zl_up [], zl_up [], zl_up [(593, (2, .inl fn_mo_rowIsRaw)), (341, (3, .inl fn_mo_is))])
def fn_mo_fits : List zm_V → zm_M → Option (Int32 × zm_M) := zm_fv zt_Y 11 1 (fun av M => zm_rn zt_Y lx_mo_fits zr_z cd_mo_fits 1073741824 0 (zm_lo av 4) [] M)
def lx_mo_take : zm_X := (zl_up [(71, (11, 31)), (138, (11, 20)), (141, (11, 21)), (44, (11, 18)), (74, (11, 32)), (47, (11, 19)), (77, (11, 33))], zl_up [], zl_up [], zl_up [(593, (2, .inl fn_mo_rowIsRaw))])
def fn_mo_take : List zm_V → zm_M → Option zm_M := zm_fv zt_Y 11 1 (fun av M => zm_rn zt_Y lx_mo_take zr_v cd_mo_take 1073741824 0 (zm_lo av 3) [] M)
def lx_mo_fitsAt : zm_X := (zl_up [(115, (11, 5))], zl_up [], zl_up [], zl_up [(377, (2, .inl fn_mo_offset)), (599, (2, .inl fn_mo_rowAt)), (605, (2, .inl fn_mo_fits))])
def fn_mo_fitsAt : List zm_V → zm_M → Option (Int32 × zm_M) := zm_fv zt_Y 11 1 (fun av M => zm_rn zt_Y lx_mo_fitsAt zr_z cd_mo_fitsAt 1 0 (zm_lo av 3) [] M)
def lx_mo_handled : zm_X := (zl_up [(118, (11, 6)), (29, (11, 13)), (32, (11, 14)), (138, (11, 20)), (47, (11, 19)), (38, (11, 16)), (35, (11, 15))], zl_up [], zl_up [], zl_up [(611, (2, .inl fn_mo_fitsAt))])
def fn_mo_handled : List zm_V → zm_M → Option (Int32 × zm_M) := zm_fv zt_Y 11 1 (fun av M => zm_rn zt_Y lx_mo_handled zr_z cd_mo_handled 1073741824 0 (zm_lo av 6) [] M)
def lx_mo_check : zm_X := (zl_up [(115, (11, 5)), (20, (11, 10)), (26, (11, 12))], zl_up [], zl_up [], zl_up [(617, (1, .inl fn_mo_readRows)), (429, (1, .inr (.inl fn_mo_first))), (377, (2, .inl fn_mo_offset)), (599, (2, .inl fn_mo_rowAt)), (605, (2, .inl fn_mo_fits)), (623, (2, .inr (.inl fn_mo_take))), (629, (2, .inl fn_mo_handled)), (435, (2, .inl fn_mo_leave)), (194, (3, .inl fn_mo_in)), (611, (2, .inl fn_mo_fitsAt)), (408, (1, .inl fn_mo_isEnd))])
def fn_mo_check : List zm_V → zm_M → Option (Int32 × zm_M) := zm_fv zt_Y 11 0 (fun av M => zm_rn zt_Y lx_mo_check zr_i cd_mo_check 1073741824 0 (zm_lo av 6) [] M)
def lx_mo_map : zm_X := (zl_up [(263, (11, 7)), (41, (11, 17))], zl_up [], zl_up [], zl_up [(194, (3, .inl fn_mo_in))])
def fn_mo_map : List zm_V → zm_M → Option (Int32 × zm_M) := zm_fv zt_Y 11 1 (fun av M => zm_rn zt_Y lx_mo_map zr_i cd_mo_map 1 0 (zm_lo av 2) [] M)
def lx_mo_patch : zm_X := (zl_up [(263, (11, 7)), (41, (11, 17))], zl_up [], zl_up [], zl_up [(194, (3, .inl fn_mo_in))])
def fn_mo_patch : List zm_V → zm_M → Option (Int32 × zm_M) := zm_fv zt_Y 11 2 (fun av M => zm_rn zt_Y lx_mo_patch zr_z cd_mo_patch 1 0 (zm_lo av 3) [] M)
def lx_mo_cut : zm_X := (zl_up [(263, (11, 7))], zl_up [], zl_up [], zl_up [(194, (3, .inl fn_mo_in))])
def fn_mo_cut : List zm_V → zm_M → Option (Int32 × zm_M) := zm_fv zt_Y 11 1 (fun av M => zm_rn zt_Y lx_mo_cut zr_i cd_mo_cut 1 0 (zm_lo av 3) [] M)
def lx_mo_row : zm_X := (zl_up [(290, (11, 34)), (74, (11, 32)), (71, (11, 31)), (77, (11, 33)), (65, (11, 29)), (68, (11, 30))], zl_up [], zl_up [], zl_up [(194, (3, .inl fn_mo_in)), (617, (1, .inl fn_mo_readRows))])
def fn_mo_row : List zm_V → zm_M → Option (Int32 × zm_M) := zm_fv zt_Y 11 2 (fun av M => zm_rn zt_Y lx_mo_row zr_i cd_mo_row 1 0 (zm_lo av 4) [] M)
def lx_mo_code : zm_X := (zl_up [(115, (11, 5)), (20, (11, 10)), (23, (11, 11)), (26, (11, 12))], zl_up [], zl_up [], zl_up [(194, (3, .inl fn_mo_in)), (377, (2, .inl fn_mo_offset))])
def fn_mo_code : List zm_V → zm_M → Option (Int32 × zm_M) := zm_fv zt_Y 11 2 (fun av M => zm_rn zt_Y lx_mo_code zr_i cd_mo_code 1 0 (zm_lo av 3) [] M)
def lx_mo_count : zm_X := (zl_up [(290, (11, 34)), (115, (11, 5)), (118, (11, 6)), (112, (11, 4))], zl_up [], zl_up [], zl_up [(617, (1, .inl fn_mo_readRows)), (377, (2, .inl fn_mo_offset))])
def fn_mo_count : List zm_V → zm_M → Option (Int32 × zm_M) := zm_fv zt_Y 11 1 (fun av M => zm_rn zt_Y lx_mo_count zr_i cd_mo_count 1 0 (zm_lo av 3) [] M)
end
