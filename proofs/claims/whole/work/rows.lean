section
-- ===== PART A: goes FIRST, ahead of the names: the tables' words, and 'selects' of the private methods out of them =====
/-- a private method of a class that the tables say can be made, by its rows of tables_1 -/
def lw_okq (q : MethodName × Nat) : Prop := (q.1.cls ≠ "java/lang/invoke/MethodHandle" ∧ q.1.cls ≠ "java/lang/invoke/VarHandle") ∧ Cond.instantiable q.1.cls q.2 ∈ tables_1 ∧ Cond.privateMethod q.1 ∈ tables_1 ∧ Cond.instanceMethod q.1 ∈ tables_1
theorem lw_p0 : lw_okq (⟨"MapForge", "forgetFindings", "()V"⟩, 7) := ⟨⟨by decide +kernel, by decide +kernel⟩, List.mem_of_getElem? (i := 17) (by decide +kernel), List.mem_of_getElem? (i := 395) (by decide +kernel), List.mem_of_getElem? (i := 396) (by decide +kernel)⟩
theorem lw_p1 : lw_okq (⟨"MapForge$Flow", "begin", "()V"⟩, 10) := ⟨⟨by decide +kernel, by decide +kernel⟩, List.mem_of_getElem? (i := 155) (by decide +kernel), List.mem_of_getElem? (i := 473) (by decide +kernel), List.mem_of_getElem? (i := 474) (by decide +kernel)⟩
theorem lw_p2 : lw_okq (⟨"MapForge$Flow", "arrive", "(ILMapForge$Frame;)Z"⟩, 10) := ⟨⟨by decide +kernel, by decide +kernel⟩, List.mem_of_getElem? (i := 155) (by decide +kernel), List.mem_of_getElem? (i := 492) (by decide +kernel), List.mem_of_getElem? (i := 493) (by decide +kernel)⟩
theorem lw_p3 : lw_okq (⟨"MapForge$Flow", "joinAt", "(ILMapForge$Frame;)Z"⟩, 10) := ⟨⟨by decide +kernel, by decide +kernel⟩, List.mem_of_getElem? (i := 155) (by decide +kernel), List.mem_of_getElem? (i := 496) (by decide +kernel), List.mem_of_getElem? (i := 497) (by decide +kernel)⟩
theorem lw_p4 : lw_okq (⟨"MapForge$Flow", "leaveToHandlers", "(I)Z"⟩, 10) := ⟨⟨by decide +kernel, by decide +kernel⟩, List.mem_of_getElem? (i := 155) (by decide +kernel), List.mem_of_getElem? (i := 517) (by decide +kernel), List.mem_of_getElem? (i := 518) (by decide +kernel)⟩
theorem lw_p5 : lw_okq (⟨"MapForge$Flow", "leave", "(I)Z"⟩, 10) := ⟨⟨by decide +kernel, by decide +kernel⟩, List.mem_of_getElem? (i := 155) (by decide +kernel), List.mem_of_getElem? (i := 537) (by decide +kernel), List.mem_of_getElem? (i := 538) (by decide +kernel)⟩
theorem lw_p6 : lw_okq (⟨"MapForge$Machine", "stepOnStack", "(ILMapForge$Frame;)Z"⟩, 2) := ⟨⟨by decide +kernel, by decide +kernel⟩, List.mem_of_getElem? (i := 142) (by decide +kernel), List.mem_of_getElem? (i := 545) (by decide +kernel), List.mem_of_getElem? (i := 546) (by decide +kernel)⟩
theorem lw_p7 : lw_okq (⟨"MapForge$Machine", "stepOne", "(IILMapForge$Frame;)Z"⟩, 2) := ⟨⟨by decide +kernel, by decide +kernel⟩, List.mem_of_getElem? (i := 142) (by decide +kernel), List.mem_of_getElem? (i := 569) (by decide +kernel), List.mem_of_getElem? (i := 570) (by decide +kernel)⟩
theorem lw_p8 : lw_okq (⟨"MapForge$Machine", "stepTwo", "(ILMapForge$Frame;)Z"⟩, 2) := ⟨⟨by decide +kernel, by decide +kernel⟩, List.mem_of_getElem? (i := 142) (by decide +kernel), List.mem_of_getElem? (i := 573) (by decide +kernel), List.mem_of_getElem? (i := 574) (by decide +kernel)⟩
theorem lw_p9 : lw_okq (⟨"MapForge$Machine", "stepToOther", "(ILMapForge$Frame;)Z"⟩, 2) := ⟨⟨by decide +kernel, by decide +kernel⟩, List.mem_of_getElem? (i := 142) (by decide +kernel), List.mem_of_getElem? (i := 581) (by decide +kernel), List.mem_of_getElem? (i := 582) (by decide +kernel)⟩
theorem lw_p10 : lw_okq (⟨"MapForge$Machine", "stepStore", "(IILMapForge$Frame;)Z"⟩, 2) := ⟨⟨by decide +kernel, by decide +kernel⟩, List.mem_of_getElem? (i := 142) (by decide +kernel), List.mem_of_getElem? (i := 594) (by decide +kernel), List.mem_of_getElem? (i := 595) (by decide +kernel)⟩
theorem lw_p11 : lw_okq (⟨"MapForge$Machine", "stepJump", "(ILMapForge$Frame;)Z"⟩, 2) := ⟨⟨by decide +kernel, by decide +kernel⟩, List.mem_of_getElem? (i := 142) (by decide +kernel), List.mem_of_getElem? (i := 602) (by decide +kernel), List.mem_of_getElem? (i := 603) (by decide +kernel)⟩
theorem lw_p12 : lw_okq (⟨"MapForge$Machine", "stepObject", "(ILMapForge$Frame;)Z"⟩, 2) := ⟨⟨by decide +kernel, by decide +kernel⟩, List.mem_of_getElem? (i := 142) (by decide +kernel), List.mem_of_getElem? (i := 607) (by decide +kernel), List.mem_of_getElem? (i := 608) (by decide +kernel)⟩
theorem lw_p13 : lw_okq (⟨"MapForge$Machine", "stepInit", "(IILMapForge$Frame;)Z"⟩, 2) := ⟨⟨by decide +kernel, by decide +kernel⟩, List.mem_of_getElem? (i := 142) (by decide +kernel), List.mem_of_getElem? (i := 612) (by decide +kernel), List.mem_of_getElem? (i := 613) (by decide +kernel)⟩
theorem lw_p14 : lw_okq (⟨"MapForge$Flow", "isWhole", "()Z"⟩, 10) := ⟨⟨by decide +kernel, by decide +kernel⟩, List.mem_of_getElem? (i := 155) (by decide +kernel), List.mem_of_getElem? (i := 634) (by decide +kernel), List.mem_of_getElem? (i := 635) (by decide +kernel)⟩
theorem lw_p15 : lw_okq (⟨"MapForge$Writer", "writeRow", "(LMapForge$Frame;I)V"⟩, 6) := ⟨⟨by decide +kernel, by decide +kernel⟩, List.mem_of_getElem? (i := 235) (by decide +kernel), List.mem_of_getElem? (i := 669) (by decide +kernel), List.mem_of_getElem? (i := 670) (by decide +kernel)⟩
def lw_privs_1 : List (MethodName × Nat) := [(⟨"MapForge", "forgetFindings", "()V"⟩, 7), (⟨"MapForge$Flow", "begin", "()V"⟩, 10), (⟨"MapForge$Flow", "arrive", "(ILMapForge$Frame;)Z"⟩, 10), (⟨"MapForge$Flow", "joinAt", "(ILMapForge$Frame;)Z"⟩, 10), (⟨"MapForge$Flow", "leaveToHandlers", "(I)Z"⟩, 10), (⟨"MapForge$Flow", "leave", "(I)Z"⟩, 10), (⟨"MapForge$Machine", "stepOnStack", "(ILMapForge$Frame;)Z"⟩, 2), (⟨"MapForge$Machine", "stepOne", "(IILMapForge$Frame;)Z"⟩, 2), (⟨"MapForge$Machine", "stepTwo", "(ILMapForge$Frame;)Z"⟩, 2), (⟨"MapForge$Machine", "stepToOther", "(ILMapForge$Frame;)Z"⟩, 2), (⟨"MapForge$Machine", "stepStore", "(IILMapForge$Frame;)Z"⟩, 2), (⟨"MapForge$Machine", "stepJump", "(ILMapForge$Frame;)Z"⟩, 2), (⟨"MapForge$Machine", "stepObject", "(ILMapForge$Frame;)Z"⟩, 2), (⟨"MapForge$Machine", "stepInit", "(IILMapForge$Frame;)Z"⟩, 2), (⟨"MapForge$Flow", "isWhole", "()Z"⟩, 10), (⟨"MapForge$Writer", "writeRow", "(LMapForge$Frame;I)V"⟩, 6)]
theorem lw_r1 : ∀ q ∈ lw_privs_1, lw_okq q := List.forall_mem_cons.mpr ⟨lw_p0, List.forall_mem_cons.mpr ⟨lw_p1, List.forall_mem_cons.mpr ⟨lw_p2, List.forall_mem_cons.mpr ⟨lw_p3, List.forall_mem_cons.mpr ⟨lw_p4, List.forall_mem_cons.mpr ⟨lw_p5, List.forall_mem_cons.mpr ⟨lw_p6, List.forall_mem_cons.mpr ⟨lw_p7, List.forall_mem_cons.mpr ⟨lw_p8, List.forall_mem_cons.mpr ⟨lw_p9, List.forall_mem_cons.mpr ⟨lw_p10, List.forall_mem_cons.mpr ⟨lw_p11, List.forall_mem_cons.mpr ⟨lw_p12, List.forall_mem_cons.mpr ⟨lw_p13, List.forall_mem_cons.mpr ⟨lw_p14, List.forall_mem_cons.mpr ⟨lw_p15, fun _ h => absurd h List.not_mem_nil⟩⟩⟩⟩⟩⟩⟩⟩⟩⟩⟩⟩⟩⟩⟩⟩
theorem lw_p16 : lw_okq (⟨"MapForge$Writer", "writeHead", "(III)V"⟩, 6) := ⟨⟨by decide +kernel, by decide +kernel⟩, List.mem_of_getElem? (i := 235) (by decide +kernel), List.mem_of_getElem? (i := 683) (by decide +kernel), List.mem_of_getElem? (i := 684) (by decide +kernel)⟩
theorem lw_p17 : lw_okq (⟨"MapForge$Writer", "writeTypes", "([III)V"⟩, 6) := ⟨⟨by decide +kernel, by decide +kernel⟩, List.mem_of_getElem? (i := 235) (by decide +kernel), List.mem_of_getElem? (i := 703) (by decide +kernel), List.mem_of_getElem? (i := 704) (by decide +kernel)⟩
theorem lw_p18 : lw_okq (⟨"MapForge$Writer", "writeWhole", "(LMapForge$Frame;I)V"⟩, 6) := ⟨⟨by decide +kernel, by decide +kernel⟩, List.mem_of_getElem? (i := 235) (by decide +kernel), List.mem_of_getElem? (i := 707) (by decide +kernel), List.mem_of_getElem? (i := 708) (by decide +kernel)⟩
theorem lw_p19 : lw_okq (⟨"MapForge$Reader", "begin", "()V"⟩, 12) := ⟨⟨by decide +kernel, by decide +kernel⟩, List.mem_of_getElem? (i := 284) (by decide +kernel), List.mem_of_getElem? (i := 741) (by decide +kernel), List.mem_of_getElem? (i := 742) (by decide +kernel)⟩
theorem lw_p20 : lw_okq (⟨"MapForge$Reader", "readRow", "(LMapForge$Frame;)Z"⟩, 12) := ⟨⟨by decide +kernel, by decide +kernel⟩, List.mem_of_getElem? (i := 284) (by decide +kernel), List.mem_of_getElem? (i := 748) (by decide +kernel), List.mem_of_getElem? (i := 749) (by decide +kernel)⟩
theorem lw_p21 : lw_okq (⟨"MapForge$Reader", "readByte", "()I"⟩, 12) := ⟨⟨by decide +kernel, by decide +kernel⟩, List.mem_of_getElem? (i := 284) (by decide +kernel), List.mem_of_getElem? (i := 752) (by decide +kernel), List.mem_of_getElem? (i := 753) (by decide +kernel)⟩
theorem lw_p22 : lw_okq (⟨"MapForge$Reader", "readStack", "(LMapForge$Frame;I)Z"⟩, 12) := ⟨⟨by decide +kernel, by decide +kernel⟩, List.mem_of_getElem? (i := 284) (by decide +kernel), List.mem_of_getElem? (i := 757) (by decide +kernel), List.mem_of_getElem? (i := 758) (by decide +kernel)⟩
theorem lw_p23 : lw_okq (⟨"MapForge$Reader", "readType", "()I"⟩, 12) := ⟨⟨by decide +kernel, by decide +kernel⟩, List.mem_of_getElem? (i := 284) (by decide +kernel), List.mem_of_getElem? (i := 761) (by decide +kernel), List.mem_of_getElem? (i := 762) (by decide +kernel)⟩
theorem lw_p24 : lw_okq (⟨"MapForge$Reader", "readTwo", "()I"⟩, 12) := ⟨⟨by decide +kernel, by decide +kernel⟩, List.mem_of_getElem? (i := 284) (by decide +kernel), List.mem_of_getElem? (i := 765) (by decide +kernel), List.mem_of_getElem? (i := 766) (by decide +kernel)⟩
theorem lw_p25 : lw_okq (⟨"MapForge$Reader", "readRest", "(ILMapForge$Frame;)Z"⟩, 12) := ⟨⟨by decide +kernel, by decide +kernel⟩, List.mem_of_getElem? (i := 284) (by decide +kernel), List.mem_of_getElem? (i := 772) (by decide +kernel), List.mem_of_getElem? (i := 773) (by decide +kernel)⟩
theorem lw_p26 : lw_okq (⟨"MapForge$Reader", "readList", "(I)Z"⟩, 12) := ⟨⟨by decide +kernel, by decide +kernel⟩, List.mem_of_getElem? (i := 284) (by decide +kernel), List.mem_of_getElem? (i := 777) (by decide +kernel), List.mem_of_getElem? (i := 778) (by decide +kernel)⟩
theorem lw_p27 : lw_okq (⟨"MapForge$Reader", "shorten", "(I)Z"⟩, 12) := ⟨⟨by decide +kernel, by decide +kernel⟩, List.mem_of_getElem? (i := 284) (by decide +kernel), List.mem_of_getElem? (i := 782) (by decide +kernel), List.mem_of_getElem? (i := 783) (by decide +kernel)⟩
theorem lw_p28 : lw_okq (⟨"MapForge$Checker", "begins", "(IZ)Z"⟩, 6) := ⟨⟨by decide +kernel, by decide +kernel⟩, List.mem_of_getElem? (i := 338) (by decide +kernel), List.mem_of_getElem? (i := 799) (by decide +kernel), List.mem_of_getElem? (i := 800) (by decide +kernel)⟩
theorem lw_p29 : lw_okq (⟨"MapForge$Checker", "handlersFit", "(I)Z"⟩, 6) := ⟨⟨by decide +kernel, by decide +kernel⟩, List.mem_of_getElem? (i := 338) (by decide +kernel), List.mem_of_getElem? (i := 809) (by decide +kernel), List.mem_of_getElem? (i := 810) (by decide +kernel)⟩
theorem lw_p30 : lw_okq (⟨"MapForge$Checker", "fitsAt", "(ILMapForge$Frame;)Z"⟩, 6) := ⟨⟨by decide +kernel, by decide +kernel⟩, List.mem_of_getElem? (i := 338) (by decide +kernel), List.mem_of_getElem? (i := 815) (by decide +kernel), List.mem_of_getElem? (i := 816) (by decide +kernel)⟩
theorem lw_p31 : lw_okq (⟨"MapForge$Checker", "jumpFits", "(I)Z"⟩, 6) := ⟨⟨by decide +kernel, by decide +kernel⟩, List.mem_of_getElem? (i := 338) (by decide +kernel), List.mem_of_getElem? (i := 820) (by decide +kernel), List.mem_of_getElem? (i := 821) (by decide +kernel)⟩
def lw_privs_2 : List (MethodName × Nat) := [(⟨"MapForge$Writer", "writeHead", "(III)V"⟩, 6), (⟨"MapForge$Writer", "writeTypes", "([III)V"⟩, 6), (⟨"MapForge$Writer", "writeWhole", "(LMapForge$Frame;I)V"⟩, 6), (⟨"MapForge$Reader", "begin", "()V"⟩, 12), (⟨"MapForge$Reader", "readRow", "(LMapForge$Frame;)Z"⟩, 12), (⟨"MapForge$Reader", "readByte", "()I"⟩, 12), (⟨"MapForge$Reader", "readStack", "(LMapForge$Frame;I)Z"⟩, 12), (⟨"MapForge$Reader", "readType", "()I"⟩, 12), (⟨"MapForge$Reader", "readTwo", "()I"⟩, 12), (⟨"MapForge$Reader", "readRest", "(ILMapForge$Frame;)Z"⟩, 12), (⟨"MapForge$Reader", "readList", "(I)Z"⟩, 12), (⟨"MapForge$Reader", "shorten", "(I)Z"⟩, 12), (⟨"MapForge$Checker", "begins", "(IZ)Z"⟩, 6), (⟨"MapForge$Checker", "handlersFit", "(I)Z"⟩, 6), (⟨"MapForge$Checker", "fitsAt", "(ILMapForge$Frame;)Z"⟩, 6), (⟨"MapForge$Checker", "jumpFits", "(I)Z"⟩, 6)]
theorem lw_r2 : ∀ q ∈ lw_privs_2, lw_okq q := List.forall_mem_cons.mpr ⟨lw_p16, List.forall_mem_cons.mpr ⟨lw_p17, List.forall_mem_cons.mpr ⟨lw_p18, List.forall_mem_cons.mpr ⟨lw_p19, List.forall_mem_cons.mpr ⟨lw_p20, List.forall_mem_cons.mpr ⟨lw_p21, List.forall_mem_cons.mpr ⟨lw_p22, List.forall_mem_cons.mpr ⟨lw_p23, List.forall_mem_cons.mpr ⟨lw_p24, List.forall_mem_cons.mpr ⟨lw_p25, List.forall_mem_cons.mpr ⟨lw_p26, List.forall_mem_cons.mpr ⟨lw_p27, List.forall_mem_cons.mpr ⟨lw_p28, List.forall_mem_cons.mpr ⟨lw_p29, List.forall_mem_cons.mpr ⟨lw_p30, List.forall_mem_cons.mpr ⟨lw_p31, fun _ h => absurd h List.not_mem_nil⟩⟩⟩⟩⟩⟩⟩⟩⟩⟩⟩⟩⟩⟩⟩⟩
theorem lw_p32 : lw_okq (⟨"MapForgeModel", "set", "(IIII)V"⟩, 43) := ⟨⟨by decide +kernel, by decide +kernel⟩, List.mem_of_getElem? (i := 853) (by decide +kernel), List.mem_of_getElem? (i := 1017) (by decide +kernel), List.mem_of_getElem? (i := 1018) (by decide +kernel)⟩
theorem lw_p33 : lw_okq (⟨"MapForgeModel", "isRight", "()Z"⟩, 43) := ⟨⟨by decide +kernel, by decide +kernel⟩, List.mem_of_getElem? (i := 853) (by decide +kernel), List.mem_of_getElem? (i := 1033) (by decide +kernel), List.mem_of_getElem? (i := 1034) (by decide +kernel)⟩
theorem lw_p34 : lw_okq (⟨"MapForgeModel", "first", "()V"⟩, 43) := ⟨⟨by decide +kernel, by decide +kernel⟩, List.mem_of_getElem? (i := 853) (by decide +kernel), List.mem_of_getElem? (i := 1037) (by decide +kernel), List.mem_of_getElem? (i := 1038) (by decide +kernel)⟩
theorem lw_p35 : lw_okq (⟨"MapForgeModel", "arrive", "(I)V"⟩, 43) := ⟨⟨by decide +kernel, by decide +kernel⟩, List.mem_of_getElem? (i := 853) (by decide +kernel), List.mem_of_getElem? (i := 1044) (by decide +kernel), List.mem_of_getElem? (i := 1045) (by decide +kernel)⟩
theorem lw_p36 : lw_okq (⟨"MapForgeModel", "join", "(II)I"⟩, 43) := ⟨⟨by decide +kernel, by decide +kernel⟩, List.mem_of_getElem? (i := 853) (by decide +kernel), List.mem_of_getElem? (i := 1048) (by decide +kernel), List.mem_of_getElem? (i := 1049) (by decide +kernel)⟩
theorem lw_p37 : lw_okq (⟨"MapForgeModel", "isInLine", "(II)Z"⟩, 43) := ⟨⟨by decide +kernel, by decide +kernel⟩, List.mem_of_getElem? (i := 853) (by decide +kernel), List.mem_of_getElem? (i := 1052) (by decide +kernel), List.mem_of_getElem? (i := 1053) (by decide +kernel)⟩
theorem lw_p38 : lw_okq (⟨"MapForgeModel", "fetch", "(I)V"⟩, 43) := ⟨⟨by decide +kernel, by decide +kernel⟩, List.mem_of_getElem? (i := 853) (by decide +kernel), List.mem_of_getElem? (i := 1056) (by decide +kernel), List.mem_of_getElem? (i := 1057) (by decide +kernel)⟩
theorem lw_p39 : lw_okq (⟨"MapForgeModel", "leave", "(I)Z"⟩, 43) := ⟨⟨by decide +kernel, by decide +kernel⟩, List.mem_of_getElem? (i := 853) (by decide +kernel), List.mem_of_getElem? (i := 1060) (by decide +kernel), List.mem_of_getElem? (i := 1061) (by decide +kernel)⟩
theorem lw_p40 : lw_okq (⟨"MapForgeModel", "top", "(I)I"⟩, 43) := ⟨⟨by decide +kernel, by decide +kernel⟩, List.mem_of_getElem? (i := 853) (by decide +kernel), List.mem_of_getElem? (i := 1064) (by decide +kernel), List.mem_of_getElem? (i := 1065) (by decide +kernel)⟩
theorem lw_p41 : lw_okq (⟨"MapForgeModel", "simple", "(I)Z"⟩, 43) := ⟨⟨by decide +kernel, by decide +kernel⟩, List.mem_of_getElem? (i := 853) (by decide +kernel), List.mem_of_getElem? (i := 1068) (by decide +kernel), List.mem_of_getElem? (i := 1069) (by decide +kernel)⟩
theorem lw_p42 : lw_okq (⟨"MapForgeModel", "push", "(I)Z"⟩, 43) := ⟨⟨by decide +kernel, by decide +kernel⟩, List.mem_of_getElem? (i := 853) (by decide +kernel), List.mem_of_getElem? (i := 1072) (by decide +kernel), List.mem_of_getElem? (i := 1073) (by decide +kernel)⟩
theorem lw_p43 : lw_okq (⟨"MapForgeModel", "slots", "()I"⟩, 43) := ⟨⟨by decide +kernel, by decide +kernel⟩, List.mem_of_getElem? (i := 853) (by decide +kernel), List.mem_of_getElem? (i := 1076) (by decide +kernel), List.mem_of_getElem? (i := 1077) (by decide +kernel)⟩
theorem lw_p44 : lw_okq (⟨"MapForgeModel", "takes", "(ZI)Z"⟩, 43) := ⟨⟨by decide +kernel, by decide +kernel⟩, List.mem_of_getElem? (i := 853) (by decide +kernel), List.mem_of_getElem? (i := 1083) (by decide +kernel), List.mem_of_getElem? (i := 1084) (by decide +kernel)⟩
theorem lw_p45 : lw_okq (⟨"MapForgeModel", "sum", "(I)Z"⟩, 43) := ⟨⟨by decide +kernel, by decide +kernel⟩, List.mem_of_getElem? (i := 853) (by decide +kernel), List.mem_of_getElem? (i := 1087) (by decide +kernel), List.mem_of_getElem? (i := 1088) (by decide +kernel)⟩
theorem lw_p46 : lw_okq (⟨"MapForgeModel", "swap", "(II)Z"⟩, 43) := ⟨⟨by decide +kernel, by decide +kernel⟩, List.mem_of_getElem? (i := 853) (by decide +kernel), List.mem_of_getElem? (i := 1091) (by decide +kernel), List.mem_of_getElem? (i := 1092) (by decide +kernel)⟩
theorem lw_p47 : lw_okq (⟨"MapForgeModel", "is", "(II)Z"⟩, 43) := ⟨⟨by decide +kernel, by decide +kernel⟩, List.mem_of_getElem? (i := 853) (by decide +kernel), List.mem_of_getElem? (i := 1095) (by decide +kernel), List.mem_of_getElem? (i := 1096) (by decide +kernel)⟩
def lw_privs_3 : List (MethodName × Nat) := [(⟨"MapForgeModel", "set", "(IIII)V"⟩, 43), (⟨"MapForgeModel", "isRight", "()Z"⟩, 43), (⟨"MapForgeModel", "first", "()V"⟩, 43), (⟨"MapForgeModel", "arrive", "(I)V"⟩, 43), (⟨"MapForgeModel", "join", "(II)I"⟩, 43), (⟨"MapForgeModel", "isInLine", "(II)Z"⟩, 43), (⟨"MapForgeModel", "fetch", "(I)V"⟩, 43), (⟨"MapForgeModel", "leave", "(I)Z"⟩, 43), (⟨"MapForgeModel", "top", "(I)I"⟩, 43), (⟨"MapForgeModel", "simple", "(I)Z"⟩, 43), (⟨"MapForgeModel", "push", "(I)Z"⟩, 43), (⟨"MapForgeModel", "slots", "()I"⟩, 43), (⟨"MapForgeModel", "takes", "(ZI)Z"⟩, 43), (⟨"MapForgeModel", "sum", "(I)Z"⟩, 43), (⟨"MapForgeModel", "swap", "(II)Z"⟩, 43), (⟨"MapForgeModel", "is", "(II)Z"⟩, 43)]
theorem lw_r3 : ∀ q ∈ lw_privs_3, lw_okq q := List.forall_mem_cons.mpr ⟨lw_p32, List.forall_mem_cons.mpr ⟨lw_p33, List.forall_mem_cons.mpr ⟨lw_p34, List.forall_mem_cons.mpr ⟨lw_p35, List.forall_mem_cons.mpr ⟨lw_p36, List.forall_mem_cons.mpr ⟨lw_p37, List.forall_mem_cons.mpr ⟨lw_p38, List.forall_mem_cons.mpr ⟨lw_p39, List.forall_mem_cons.mpr ⟨lw_p40, List.forall_mem_cons.mpr ⟨lw_p41, List.forall_mem_cons.mpr ⟨lw_p42, List.forall_mem_cons.mpr ⟨lw_p43, List.forall_mem_cons.mpr ⟨lw_p44, List.forall_mem_cons.mpr ⟨lw_p45, List.forall_mem_cons.mpr ⟨lw_p46, List.forall_mem_cons.mpr ⟨lw_p47, fun _ h => absurd h List.not_mem_nil⟩⟩⟩⟩⟩⟩⟩⟩⟩⟩⟩⟩⟩⟩⟩⟩
theorem lw_p48 : lw_okq (⟨"MapForgeModel", "move", "(II)Z"⟩, 43) := ⟨⟨by decide +kernel, by decide +kernel⟩, List.mem_of_getElem? (i := 853) (by decide +kernel), List.mem_of_getElem? (i := 1099) (by decide +kernel), List.mem_of_getElem? (i := 1100) (by decide +kernel)⟩
theorem lw_p49 : lw_okq (⟨"MapForgeModel", "offset", "(I)I"⟩, 43) := ⟨⟨by decide +kernel, by decide +kernel⟩, List.mem_of_getElem? (i := 853) (by decide +kernel), List.mem_of_getElem? (i := 1112) (by decide +kernel), List.mem_of_getElem? (i := 1113) (by decide +kernel)⟩
theorem lw_p50 : lw_okq (⟨"MapForgeModel", "init", "(I)Z"⟩, 43) := ⟨⟨by decide +kernel, by decide +kernel⟩, List.mem_of_getElem? (i := 853) (by decide +kernel), List.mem_of_getElem? (i := 1119) (by decide +kernel), List.mem_of_getElem? (i := 1120) (by decide +kernel)⟩
theorem lw_p51 : lw_okq (⟨"MapForgeModel", "placeAt", "(I)I"⟩, 43) := ⟨⟨by decide +kernel, by decide +kernel⟩, List.mem_of_getElem? (i := 853) (by decide +kernel), List.mem_of_getElem? (i := 1123) (by decide +kernel), List.mem_of_getElem? (i := 1124) (by decide +kernel)⟩
theorem lw_p52 : lw_okq (⟨"MapForgeModel", "goHandled", "(I)V"⟩, 43) := ⟨⟨by decide +kernel, by decide +kernel⟩, List.mem_of_getElem? (i := 853) (by decide +kernel), List.mem_of_getElem? (i := 1130) (by decide +kernel), List.mem_of_getElem? (i := 1131) (by decide +kernel)⟩
theorem lw_p53 : lw_okq (⟨"MapForgeModel", "hasRow", "(I)Z"⟩, 43) := ⟨⟨by decide +kernel, by decide +kernel⟩, List.mem_of_getElem? (i := 853) (by decide +kernel), List.mem_of_getElem? (i := 1134) (by decide +kernel), List.mem_of_getElem? (i := 1135) (by decide +kernel)⟩
theorem lw_p54 : lw_okq (⟨"MapForgeModel", "hasThis", "(I)Z"⟩, 43) := ⟨⟨by decide +kernel, by decide +kernel⟩, List.mem_of_getElem? (i := 853) (by decide +kernel), List.mem_of_getElem? (i := 1138) (by decide +kernel), List.mem_of_getElem? (i := 1139) (by decide +kernel)⟩
theorem lw_p55 : lw_okq (⟨"MapForgeModel", "enlist", "()V"⟩, 43) := ⟨⟨by decide +kernel, by decide +kernel⟩, List.mem_of_getElem? (i := 853) (by decide +kernel), List.mem_of_getElem? (i := 1146) (by decide +kernel), List.mem_of_getElem? (i := 1147) (by decide +kernel)⟩
theorem lw_p56 : lw_okq (⟨"MapForgeModel", "keep", "()V"⟩, 43) := ⟨⟨by decide +kernel, by decide +kernel⟩, List.mem_of_getElem? (i := 853) (by decide +kernel), List.mem_of_getElem? (i := 1150) (by decide +kernel), List.mem_of_getElem? (i := 1151) (by decide +kernel)⟩
theorem lw_p57 : lw_okq (⟨"MapForgeModel", "writeRow", "(I)V"⟩, 43) := ⟨⟨by decide +kernel, by decide +kernel⟩, List.mem_of_getElem? (i := 853) (by decide +kernel), List.mem_of_getElem? (i := 1154) (by decide +kernel), List.mem_of_getElem? (i := 1155) (by decide +kernel)⟩
theorem lw_p58 : lw_okq (⟨"MapForgeModel", "begins", "()Z"⟩, 43) := ⟨⟨by decide +kernel, by decide +kernel⟩, List.mem_of_getElem? (i := 853) (by decide +kernel), List.mem_of_getElem? (i := 1158) (by decide +kernel), List.mem_of_getElem? (i := 1159) (by decide +kernel)⟩
theorem lw_p59 : lw_okq (⟨"MapForgeModel", "write", "(I)V"⟩, 43) := ⟨⟨by decide +kernel, by decide +kernel⟩, List.mem_of_getElem? (i := 853) (by decide +kernel), List.mem_of_getElem? (i := 1162) (by decide +kernel), List.mem_of_getElem? (i := 1163) (by decide +kernel)⟩
theorem lw_p60 : lw_okq (⟨"MapForgeModel", "writeTwo", "(I)V"⟩, 43) := ⟨⟨by decide +kernel, by decide +kernel⟩, List.mem_of_getElem? (i := 853) (by decide +kernel), List.mem_of_getElem? (i := 1166) (by decide +kernel), List.mem_of_getElem? (i := 1167) (by decide +kernel)⟩
theorem lw_p61 : lw_okq (⟨"MapForgeModel", "writeType", "(I)V"⟩, 43) := ⟨⟨by decide +kernel, by decide +kernel⟩, List.mem_of_getElem? (i := 853) (by decide +kernel), List.mem_of_getElem? (i := 1170) (by decide +kernel), List.mem_of_getElem? (i := 1171) (by decide +kernel)⟩
theorem lw_p62 : lw_okq (⟨"MapForgeModel", "readRows", "()Z"⟩, 43) := ⟨⟨by decide +kernel, by decide +kernel⟩, List.mem_of_getElem? (i := 853) (by decide +kernel), List.mem_of_getElem? (i := 1178) (by decide +kernel), List.mem_of_getElem? (i := 1179) (by decide +kernel)⟩
theorem lw_p63 : lw_okq (⟨"MapForgeModel", "byteNext", "()I"⟩, 43) := ⟨⟨by decide +kernel, by decide +kernel⟩, List.mem_of_getElem? (i := 853) (by decide +kernel), List.mem_of_getElem? (i := 1182) (by decide +kernel), List.mem_of_getElem? (i := 1183) (by decide +kernel)⟩
def lw_privs_4 : List (MethodName × Nat) := [(⟨"MapForgeModel", "move", "(II)Z"⟩, 43), (⟨"MapForgeModel", "offset", "(I)I"⟩, 43), (⟨"MapForgeModel", "init", "(I)Z"⟩, 43), (⟨"MapForgeModel", "placeAt", "(I)I"⟩, 43), (⟨"MapForgeModel", "goHandled", "(I)V"⟩, 43), (⟨"MapForgeModel", "hasRow", "(I)Z"⟩, 43), (⟨"MapForgeModel", "hasThis", "(I)Z"⟩, 43), (⟨"MapForgeModel", "enlist", "()V"⟩, 43), (⟨"MapForgeModel", "keep", "()V"⟩, 43), (⟨"MapForgeModel", "writeRow", "(I)V"⟩, 43), (⟨"MapForgeModel", "begins", "()Z"⟩, 43), (⟨"MapForgeModel", "write", "(I)V"⟩, 43), (⟨"MapForgeModel", "writeTwo", "(I)V"⟩, 43), (⟨"MapForgeModel", "writeType", "(I)V"⟩, 43), (⟨"MapForgeModel", "readRows", "()Z"⟩, 43), (⟨"MapForgeModel", "byteNext", "()I"⟩, 43)]
theorem lw_r4 : ∀ q ∈ lw_privs_4, lw_okq q := List.forall_mem_cons.mpr ⟨lw_p48, List.forall_mem_cons.mpr ⟨lw_p49, List.forall_mem_cons.mpr ⟨lw_p50, List.forall_mem_cons.mpr ⟨lw_p51, List.forall_mem_cons.mpr ⟨lw_p52, List.forall_mem_cons.mpr ⟨lw_p53, List.forall_mem_cons.mpr ⟨lw_p54, List.forall_mem_cons.mpr ⟨lw_p55, List.forall_mem_cons.mpr ⟨lw_p56, List.forall_mem_cons.mpr ⟨lw_p57, List.forall_mem_cons.mpr ⟨lw_p58, List.forall_mem_cons.mpr ⟨lw_p59, List.forall_mem_cons.mpr ⟨lw_p60, List.forall_mem_cons.mpr ⟨lw_p61, List.forall_mem_cons.mpr ⟨lw_p62, List.forall_mem_cons.mpr ⟨lw_p63, fun _ h => absurd h List.not_mem_nil⟩⟩⟩⟩⟩⟩⟩⟩⟩⟩⟩⟩⟩⟩⟩⟩
theorem lw_p64 : lw_okq (⟨"MapForgeModel", "readForm", "(I)I"⟩, 43) := ⟨⟨by decide +kernel, by decide +kernel⟩, List.mem_of_getElem? (i := 853) (by decide +kernel), List.mem_of_getElem? (i := 1186) (by decide +kernel), List.mem_of_getElem? (i := 1187) (by decide +kernel)⟩
theorem lw_p65 : lw_okq (⟨"MapForgeModel", "twoNext", "()I"⟩, 43) := ⟨⟨by decide +kernel, by decide +kernel⟩, List.mem_of_getElem? (i := 853) (by decide +kernel), List.mem_of_getElem? (i := 1190) (by decide +kernel), List.mem_of_getElem? (i := 1191) (by decide +kernel)⟩
theorem lw_p66 : lw_okq (⟨"MapForgeModel", "stackNext", "()V"⟩, 43) := ⟨⟨by decide +kernel, by decide +kernel⟩, List.mem_of_getElem? (i := 853) (by decide +kernel), List.mem_of_getElem? (i := 1194) (by decide +kernel), List.mem_of_getElem? (i := 1195) (by decide +kernel)⟩
theorem lw_p67 : lw_okq (⟨"MapForgeModel", "typeNext", "()I"⟩, 43) := ⟨⟨by decide +kernel, by decide +kernel⟩, List.mem_of_getElem? (i := 853) (by decide +kernel), List.mem_of_getElem? (i := 1198) (by decide +kernel), List.mem_of_getElem? (i := 1199) (by decide +kernel)⟩
theorem lw_p68 : lw_okq (⟨"MapForgeModel", "enter", "(I)V"⟩, 43) := ⟨⟨by decide +kernel, by decide +kernel⟩, List.mem_of_getElem? (i := 853) (by decide +kernel), List.mem_of_getElem? (i := 1202) (by decide +kernel), List.mem_of_getElem? (i := 1203) (by decide +kernel)⟩
theorem lw_p69 : lw_okq (⟨"MapForgeModel", "readFull", "()V"⟩, 43) := ⟨⟨by decide +kernel, by decide +kernel⟩, List.mem_of_getElem? (i := 853) (by decide +kernel), List.mem_of_getElem? (i := 1206) (by decide +kernel), List.mem_of_getElem? (i := 1207) (by decide +kernel)⟩
theorem lw_p70 : lw_okq (⟨"MapForgeModel", "rowAt", "(I)I"⟩, 43) := ⟨⟨by decide +kernel, by decide +kernel⟩, List.mem_of_getElem? (i := 853) (by decide +kernel), List.mem_of_getElem? (i := 1210) (by decide +kernel), List.mem_of_getElem? (i := 1211) (by decide +kernel)⟩
theorem lw_p71 : lw_okq (⟨"MapForgeModel", "fits", "(I)Z"⟩, 43) := ⟨⟨by decide +kernel, by decide +kernel⟩, List.mem_of_getElem? (i := 853) (by decide +kernel), List.mem_of_getElem? (i := 1214) (by decide +kernel), List.mem_of_getElem? (i := 1215) (by decide +kernel)⟩
theorem lw_p72 : lw_okq (⟨"MapForgeModel", "rowIsRaw", "(I)Z"⟩, 43) := ⟨⟨by decide +kernel, by decide +kernel⟩, List.mem_of_getElem? (i := 853) (by decide +kernel), List.mem_of_getElem? (i := 1218) (by decide +kernel), List.mem_of_getElem? (i := 1219) (by decide +kernel)⟩
theorem lw_p73 : lw_okq (⟨"MapForgeModel", "take", "(I)V"⟩, 43) := ⟨⟨by decide +kernel, by decide +kernel⟩, List.mem_of_getElem? (i := 853) (by decide +kernel), List.mem_of_getElem? (i := 1222) (by decide +kernel), List.mem_of_getElem? (i := 1223) (by decide +kernel)⟩
theorem lw_p74 : lw_okq (⟨"MapForgeModel", "handled", "(I)Z"⟩, 43) := ⟨⟨by decide +kernel, by decide +kernel⟩, List.mem_of_getElem? (i := 853) (by decide +kernel), List.mem_of_getElem? (i := 1226) (by decide +kernel), List.mem_of_getElem? (i := 1227) (by decide +kernel)⟩
theorem lw_p75 : lw_okq (⟨"MapForgeModel", "fitsAt", "(I)Z"⟩, 43) := ⟨⟨by decide +kernel, by decide +kernel⟩, List.mem_of_getElem? (i := 853) (by decide +kernel), List.mem_of_getElem? (i := 1230) (by decide +kernel), List.mem_of_getElem? (i := 1231) (by decide +kernel)⟩
def lw_privs_5 : List (MethodName × Nat) := [(⟨"MapForgeModel", "readForm", "(I)I"⟩, 43), (⟨"MapForgeModel", "twoNext", "()I"⟩, 43), (⟨"MapForgeModel", "stackNext", "()V"⟩, 43), (⟨"MapForgeModel", "typeNext", "()I"⟩, 43), (⟨"MapForgeModel", "enter", "(I)V"⟩, 43), (⟨"MapForgeModel", "readFull", "()V"⟩, 43), (⟨"MapForgeModel", "rowAt", "(I)I"⟩, 43), (⟨"MapForgeModel", "fits", "(I)Z"⟩, 43), (⟨"MapForgeModel", "rowIsRaw", "(I)Z"⟩, 43), (⟨"MapForgeModel", "take", "(I)V"⟩, 43), (⟨"MapForgeModel", "handled", "(I)Z"⟩, 43), (⟨"MapForgeModel", "fitsAt", "(I)Z"⟩, 43)]
theorem lw_r5 : ∀ q ∈ lw_privs_5, lw_okq q := List.forall_mem_cons.mpr ⟨lw_p64, List.forall_mem_cons.mpr ⟨lw_p65, List.forall_mem_cons.mpr ⟨lw_p66, List.forall_mem_cons.mpr ⟨lw_p67, List.forall_mem_cons.mpr ⟨lw_p68, List.forall_mem_cons.mpr ⟨lw_p69, List.forall_mem_cons.mpr ⟨lw_p70, List.forall_mem_cons.mpr ⟨lw_p71, List.forall_mem_cons.mpr ⟨lw_p72, List.forall_mem_cons.mpr ⟨lw_p73, List.forall_mem_cons.mpr ⟨lw_p74, List.forall_mem_cons.mpr ⟨lw_p75, fun _ h => absurd h List.not_mem_nil⟩⟩⟩⟩⟩⟩⟩⟩⟩⟩⟩⟩
def lw_privs : List (MethodName × Nat) := lw_privs_1 ++ (lw_privs_2 ++ (lw_privs_3 ++ (lw_privs_4 ++ (lw_privs_5))))
def lw_tbl : List Cond := k2_sels lw_privs ++ tables_1
theorem lw_privs_ok : ∀ q ∈ lw_privs, lw_okq q := by
  show ∀ q ∈ lw_privs_1 ++ (lw_privs_2 ++ (lw_privs_3 ++ (lw_privs_4 ++ (lw_privs_5)))), lw_okq q
  exact List.forall_mem_append.mpr ⟨lw_r1, List.forall_mem_append.mpr ⟨lw_r2, List.forall_mem_append.mpr ⟨lw_r3, List.forall_mem_append.mpr ⟨lw_r4, lw_r5⟩⟩⟩⟩
end
section
/-! THE ABSTRACT MACHINE: it runs a method's decoded code over a store of numbers; every object has a sort and an index, every reference is known by the layout. -/
abbrev zm_V : Type := Int32 ⊕ (Nat × Nat)
abbrev zm_L : Type := List (Option zm_V)
abbrev zm_M : Type := Nat → Nat → Nat → Int32
abbrev zm_C : Type := List (Nat × Jvm.ClassFile.Instr × Nat × List Nat)
def zm_up (M : zm_M) (s i k : Nat) (x : Int32) : zm_M := fun s' i' k' => if s' = s then if k' = k then if i' = i then x else M s' i' k' else M s' i' k' else M s' i' k'
def zm_ua (M : zm_M) (s i : Nat) (f : Nat → Int32) : zm_M := fun s' i' k' => if s' = s then if i' = i then f k' else M s' i' k' else M s' i' k'
/-- the layout: kind of a sort (0 object, 1 ints, 2 booleans, 3 references, 4 constant ints), class, length, reference in a field, element, how many, how many sorts, a constant's ints, kind of a field (0 int, 1 boolean, 2 fixed) -/
abbrev zm_Y : Type := (Nat → Nat) × (Nat → Nat) × (Nat → Nat) × (Nat → Nat → Nat → Option (Nat × Nat)) × (Nat → Nat → Nat → Nat × Nat) × (Nat → Nat) × Nat × (Nat → Nat → Int32) × (Nat → Nat → Nat)
def zy_k (Y : zm_Y) : Nat → Nat := Y.1
def zy_c (Y : zm_Y) : Nat → Nat := Y.2.1
def zy_n (Y : zm_Y) : Nat → Nat := Y.2.2.1
def zy_r (Y : zm_Y) : Nat → Nat → Nat → Option (Nat × Nat) := Y.2.2.2.1
def zy_e (Y : zm_Y) : Nat → Nat → Nat → Nat × Nat := Y.2.2.2.2.1
def zy_m (Y : zm_Y) : Nat → Nat := Y.2.2.2.2.2.1
def zy_s (Y : zm_Y) : Nat := Y.2.2.2.2.2.2.1
def zy_t (Y : zm_Y) : Nat → Nat → Int32 := Y.2.2.2.2.2.2.2.1
def zy_f (Y : zm_Y) : Nat → Nat → Nat := Y.2.2.2.2.2.2.2.2
/-- a callee: how many it takes, and what it does -/
abbrev zm_F : Type := Nat × ((List zm_V → zm_M → Option (Int32 × zm_M)) ⊕ ((List zm_V → zm_M → Option zm_M) ⊕ (List zm_V → zm_M → Option ((Nat × Nat) × zm_M))))
/-- a method's links: fields, constants, statics, callees (2 * entry for static ones, 2 * entry + 1 for others) -/
abbrev zm_X : Type := (Nat → Option (Nat × Nat)) × (Nat → Option Int32) × (Nat → Option (Nat × Nat)) × (Nat → Option zm_F)
def zm_li {T : Type} (lo : zm_L) (i : Nat) (k : Int32 → Option T) : Option T := match lo[i]? with
  | some (some (.inl x)) => k x
  | _ => none
def zm_la {T : Type} (lo : zm_L) (i : Nat) (k : Nat × Nat → Option T) : Option T := match lo[i]? with
  | some (some (.inr x)) => k x
  | _ => none
def zm_sl {T : Type} (lo : zm_L) (i : Nat) (v : zm_V) (k : zm_L → Option T) : Option T := match lo[i]? with
  | some _ => k (lo.set i (some v))
  | none => none
def zm_b2 {T : Type} (st : List zm_V) (k : Int32 → Int32 → List zm_V → Option T) : Option T := match st with
  | .inl y :: .inl x :: r => k x y r
  | _ => none
def zm_b1 {T : Type} (st : List zm_V) (k : Int32 → List zm_V → Option T) : Option T := match st with
  | .inl x :: r => k x r
  | _ => none
def zm_cm {T : Type} (c : Jvm.ClassFile.Cond) (x y : Int32) (a b : Option T) : Option T := match c with
  | .eq => if x = y then a else b
  | .ne => if x = y then b else a
  | .lt => if x < y then a else b
  | .ge => if x < y then b else a
  | .gt => if y < x then a else b
  | .le => if y < x then b else a
def zm_t0 {T : Type} (ts : List Nat) (k : Nat → Option T) : Option T := match ts with
  | t :: _ => k t
  | [] => none
def zm_sw {T : Type} (x : Int32) : Int → List Nat → Nat → (Nat → Option T) → Option T
  | _, [], d, k => k d
  | v, t :: ts, d, k => if x = Int32.ofInt v then k t else zm_sw x (v + 1) ts d k
def zm_iv {T : Type} (f : Option zm_F) (K : List zm_V → zm_M → Option T) (st : List zm_V) (M : zm_M) : Option T := match f with
  | some (n, f) => match Nat.ble n st.length && Nat.ble st.length (n + 8) with
    | true => match f with
      | .inl f => (f (st.take n).reverse M).bind fun q => K (.inl q.1 :: st.drop n) q.2
      | .inr (.inl f) => (f (st.take n).reverse M).bind fun q => K (st.drop n) q
      | .inr (.inr f) => (f (st.take n).reverse M).bind fun q => K (.inr q.1 :: st.drop n) q.2
    | false => none
  | none => none
def zm_gf {T : Type} (Y : zm_Y) (f : Option (Nat × Nat)) (r : Nat × Nat) (M : zm_M) (k : zm_V → Option T) : Option T := match f with
  | some (c, j) => match Nat.beq (zy_k Y r.1) 0 && Nat.beq (zy_c Y r.1) c with
    | true => match zy_r Y r.1 r.2 j with
      | none => k (.inl (M r.1 r.2 j))
      | some q => k (.inr q)
    | false => none
  | none => none
def zm_pf {T : Type} (Y : zm_Y) (f : Option (Nat × Nat)) (r : Nat × Nat) (x : Int32) (M : zm_M) (k : zm_M → Option T) : Option T := match f with
  | some (c, j) => match Nat.beq (zy_k Y r.1) 0 && Nat.beq (zy_c Y r.1) c with
    | true => match zy_f Y c j with
      | 0 => k (zm_up M r.1 r.2 j x)
      | 1 => if x = 0 ∨ x = 1 then k (zm_up M r.1 r.2 j x) else none
      | _ => none
    | false => none
  | none => none
/-- one instruction; K goes on, ret ends -/
def zm_ex {T : Type} (Y : zm_Y) (X : zm_X) (ret : Option zm_V → zm_M → Option T) (K : Nat → zm_L → List zm_V → zm_M → Option T) (nx : Nat) (ts : List Nat) (lo : zm_L) (st : List zm_V) (M : zm_M) (ins : Jvm.ClassFile.Instr) : Option T := match ins with
  | .iconst n => K nx lo (.inl (Int32.ofInt n) :: st) M
  | .bipush n => K nx lo (.inl (Int8.ofInt n).toInt32 :: st) M
  | .sipush n => K nx lo (.inl (Int16.ofInt n).toInt32 :: st) M
  | .ldc i => match X.2.1 i with
    | some v => K nx lo (.inl v :: st) M
    | none => none
  | .iload i => zm_li lo i fun v => K nx lo (.inl v :: st) M
  | .iload_n i => zm_li lo i fun v => K nx lo (.inl v :: st) M
  | .aload i => zm_la lo i fun v => K nx lo (.inr v :: st) M
  | .aload_n i => zm_la lo i fun v => K nx lo (.inr v :: st) M
  | .istore i => zm_b1 st fun x r => zm_sl lo i (.inl x) fun lo => K nx lo r M
  | .istore_n i => zm_b1 st fun x r => zm_sl lo i (.inl x) fun lo => K nx lo r M
  | .astore i => match st with
    | .inr x :: r => zm_sl lo i (.inr x) fun lo => K nx lo r M
    | _ => none
  | .astore_n i => match st with
    | .inr x :: r => zm_sl lo i (.inr x) fun lo => K nx lo r M
    | _ => none
  | .iinc i n => zm_li lo i fun x => zm_sl lo i (.inl (x + Int32.ofInt n)) fun lo => K nx lo st M
  | .iadd => zm_b2 st fun x y r => K nx lo (.inl (x + y) :: r) M
  | .isub => zm_b2 st fun x y r => K nx lo (.inl (x - y) :: r) M
  | .imul => zm_b2 st fun x y r => K nx lo (.inl (x * y) :: r) M
  | .iand => zm_b2 st fun x y r => K nx lo (.inl (x &&& y) :: r) M
  | .ior => zm_b2 st fun x y r => K nx lo (.inl (x ||| y) :: r) M
  | .ixor => zm_b2 st fun x y r => K nx lo (.inl (x ^^^ y) :: r) M
  | .ishl => zm_b2 st fun x y r => K nx lo (.inl (x <<< (y &&& 31)) :: r) M
  | .ishr => zm_b2 st fun x y r => K nx lo (.inl (x >>> (y &&& 31)) :: r) M
  | .iushr => zm_b2 st fun x y r => K nx lo (.inl (x.toUInt32 >>> (y.toUInt32 &&& Int32.toUInt32 31)).toInt32 :: r) M
  | .idiv => zm_b2 st fun x y r => if y = 0 then none else K nx lo (.inl (x / y) :: r) M
  | .irem => zm_b2 st fun x y r => if y = 0 then none else K nx lo (.inl (x - x / y * y) :: r) M
  | .ineg => zm_b1 st fun x r => K nx lo (.inl (-x) :: r) M
  | .i2b => zm_b1 st fun x r => K nx lo (.inl x.toInt8.toInt32 :: r) M
  | .dup => match st with
    | v :: r => K nx lo (v :: v :: r) M
    | _ => none
  | .pop => match st with
    | _ :: r => K nx lo r M
    | _ => none
  | .dup_x1 => match st with
    | a :: b :: r => K nx lo (a :: b :: a :: r) M
    | _ => none
  | .dup2 => match st with
    | a :: b :: r => K nx lo (a :: b :: a :: b :: r) M
    | _ => none
  | .goto _ => zm_t0 ts fun t => K t lo st M
  | .ifCond c _ => zm_b1 st fun x r => zm_t0 ts fun t => zm_cm c x 0 (K t lo r M) (K nx lo r M)
  | .if_icmp c _ => zm_b2 st fun x y r => zm_t0 ts fun t => zm_cm c x y (K t lo r M) (K nx lo r M)
  | .tableswitch _ v _ _ => zm_b1 st fun x r => match ts with
    | d :: ts => zm_sw x v ts d fun t => K t lo r M
    | [] => none
  | .getfield i => match st with
    | .inr q :: r => zm_gf Y (X.1 i) q M fun v => K nx lo (v :: r) M
    | _ => none
  | .putfield i => match st with
    | .inl x :: .inr q :: r => zm_pf Y (X.1 i) q x M fun M => K nx lo r M
    | _ => none
  | .getstatic i => match X.2.2.1 i with
    | some q => K nx lo (.inr q :: st) M
    | none => none
  | .arraylength => match st with
    | .inr q :: r => match zy_k Y q.1 with
      | 0 => none
      | _ => K nx lo (.inl (nI (zy_n Y q.1)) :: r) M
    | _ => none
  | .iaload => match st with
    | .inl i :: .inr q :: r => match zy_k Y q.1 with
      | 1 => if i < 0 ∨ zy_n Y q.1 ≤ i.toNatClampNeg then none else K nx lo (.inl (M q.1 q.2 i.toNatClampNeg) :: r) M
      | 4 => if i < 0 ∨ zy_n Y q.1 ≤ i.toNatClampNeg then none else K nx lo (.inl (zy_t Y q.1 i.toNatClampNeg) :: r) M
      | _ => none
    | _ => none
  | .baload => match st with
    | .inl i :: .inr q :: r => match zy_k Y q.1 with
      | 2 => if i < 0 ∨ zy_n Y q.1 ≤ i.toNatClampNeg then none else K nx lo (.inl (M q.1 q.2 i.toNatClampNeg) :: r) M
      | _ => none
    | _ => none
  | .aaload => match st with
    | .inl i :: .inr q :: r => match zy_k Y q.1 with
      | 3 => if i < 0 ∨ zy_n Y q.1 ≤ i.toNatClampNeg then none else K nx lo (.inr (zy_e Y q.1 q.2 i.toNatClampNeg) :: r) M
      | _ => none
    | _ => none
  | .iastore => match st with
    | .inl x :: .inl i :: .inr q :: r => match zy_k Y q.1 with
      | 1 => if i < 0 ∨ zy_n Y q.1 ≤ i.toNatClampNeg then none else K nx lo r (zm_up M q.1 q.2 i.toNatClampNeg x)
      | _ => none
    | _ => none
  | .bastore => match st with
    | .inl x :: .inl i :: .inr q :: r => match zy_k Y q.1 with
      | 2 => if i < 0 ∨ zy_n Y q.1 ≤ i.toNatClampNeg then none else K nx lo r (zm_up M q.1 q.2 i.toNatClampNeg (x &&& 1))
      | _ => none
    | _ => none
  | .invokevirtual i => zm_iv (X.2.2.2 (2 * i + 1)) (fun st M => K nx lo st M) st M
  | .invokestatic i => zm_iv (X.2.2.2 (2 * i)) (fun st M => K nx lo st M) st M
  | .ireturn => match st with
    | [.inl x] => ret (some (.inl x)) M
    | _ => none
  | .areturn => match st with
    | [.inr x] => ret (some (.inr x)) M
    | _ => none
  | .return_ => match st with
    | [] => ret none M
    | _ => none
  | _ => none
/-- from a place on, over the rest of the code; a way back goes to 'back' -/
def zm_go {T : Type} (Y : zm_Y) (X : zm_X) (ret : Option zm_V → zm_M → Option T) (back : Nat → zm_L → List zm_V → zm_M → Option T) : zm_C → Nat → zm_L → List zm_V → zm_M → Option T
  | [], _, _, _, _ => none
  | (q, ins, nx, ts) :: code, pc, lo, st, M => match Nat.beq q pc with
    | true => zm_ex Y X ret (fun pc' lo st M => match Nat.ble pc' q with
      | true => back pc' lo st M
      | false => zm_go Y X ret back code pc' lo st M) nx ts lo st M ins
    | false => zm_go Y X ret back code pc lo st M
/-- with at most n ways back -/
def zm_rn {T : Type} (Y : zm_Y) (X : zm_X) (ret : Option zm_V → zm_M → Option T) (code : zm_C) : Nat → Nat → zm_L → List zm_V → zm_M → Option T
  | 0, _, _, _, _ => none
  | n + 1, pc, lo, st, M => zm_go Y X ret (zm_rn Y X ret code n) code pc lo st M
end
section
/-! THE ABSTRACT MACHINE IS SOUND: where it comes to an end, the machine comes to the same. -/
def zc_v (ad : Nat × Nat → Nat) : zm_V → Value
  | .inl x => .int x
  | .inr r => .ref (ad r)
theorem zc_v_cat (ad : Nat × Nat → Nat) (v : zm_V) : (zc_v ad v).category = 1 := by cases v <;> rfl
def zy_ok (Y : zm_Y) (r : Nat × Nat) : Prop := zy_k Y r.1 = 4 ∨ (r.1 < zy_s Y ∧ r.2 < zy_m Y r.1)
def zv_ok (Y : zm_Y) : zm_V → Prop
  | .inl _ => True
  | .inr r => zy_ok Y r
def zy_d (Y : zm_Y) : List (Nat × Nat) := (List.range (zy_s Y)).flatMap fun s => (List.range (zy_m Y s)).map fun i => (s, i)
theorem zy_d_mem {Y : zm_Y} {r : Nat × Nat} : r ∈ zy_d Y ↔ r.1 < zy_s Y ∧ r.2 < zy_m Y r.1 := by
  obtain ⟨s, i⟩ := r
  simp only [zy_d, List.mem_flatMap, List.mem_range, List.mem_map, Prod.mk.injEq]
  constructor
  · rintro ⟨a, h1, b, h2, rfl, rfl⟩
    exact ⟨h1, h2⟩
  · rintro ⟨h1, h2⟩
    exact ⟨s, h1, i, h2, rfl, rfl⟩
/-- a cell of the store, as the kit's worlds have it -/
def zc_e (Y : zm_Y) (ad : Nat × Nat → Nat) (cA : Nat → ClassId) (M : zm_M) (r : Nat × Nat) : va_E := match zy_k Y r.1 with
  | 0 => .inr (zy_c Y r.1, (List.range (zy_n Y r.1)).map fun k => match zy_r Y r.1 r.2 k with
    | none => .int (M r.1 r.2 k)
    | some q => .ref (ad q))
  | 3 => .inl (cA r.1, zy_n Y r.1, .inr (.inr (.inr (.inr fun j => some (ad (zy_e Y r.1 r.2 j))))))
  | _ => .inl (cA r.1, zy_n Y r.1, .inl (M r.1 r.2))
def zc_w (Y : zm_Y) (ad : Nat × Nat → Nat) (cA : Nat → ClassId) (M : zm_M) : va_W := (zy_d Y).map fun r => (ad r, zc_e Y ad cA M r)
theorem zc_at {Y : zm_Y} {ad : Nat × Nat → Nat} {cA : Nat → ClassId} {M : zm_M} {r : Nat × Nat} (h : r ∈ zy_d Y) : ∃ q0 : Nat, (zc_w Y ad cA M)[q0]? = some (ad r, zc_e Y ad cA M r) :=
  List.getElem?_of_mem (List.mem_map.mpr ⟨r, h, rfl⟩)
theorem zc_get {Y : zm_Y} {ad : Nat × Nat → Nat} {cA : Nat → ClassId} {M : zm_M} {k : Nat} : (zc_w Y ad cA M)[k]? = ((zy_d Y)[k]?).map fun r => (ad r, zc_e Y ad cA M r) := by
  simp [zc_w]
theorem zc_set {Y : zm_Y} {ad : Nat × Nat → Nat} {cA : Nat → ClassId} {M M' : zm_M} {r : Nat × Nat} {q0 : Nat} {A : Nat → Prop} (hD : va_D A (zc_w Y ad cA M)) (hi : ∀ x ∈ zy_d Y, ∀ y ∈ zy_d Y, ad x = ad y → x = y) (hr : r ∈ zy_d Y) (h : (zc_w Y ad cA M)[q0]? = some (ad r, zc_e Y ad cA M r))
    (ho : ∀ x, x ≠ r → zc_e Y ad cA M' x = zc_e Y ad cA M x) : (zc_w Y ad cA M).set q0 (ad r, zc_e Y ad cA M' r) = zc_w Y ad cA M' := by
  apply List.ext_getElem?
  intro k
  have hl := (List.getElem?_eq_some_iff.mp h).1
  by_cases hk : k = q0
  · subst hk
    rw [List.getElem?_set_self hl, zc_get]
    rw [zc_get] at h
    cases hd : (zy_d Y)[k]? with
    | none => rw [hd] at h; cases h
    | some x =>
      rw [hd] at h
      have hx : ad x = ad r := congrArg Prod.fst (Option.some.inj h)
      have hxr := hi x (List.mem_of_getElem? hd) r hr hx
      subst hxr
      rfl
  · rw [List.getElem?_set_ne (Ne.symm hk), zc_get, zc_get]
    cases hd : (zy_d Y)[k]? with
    | none => rfl
    | some x =>
      have hne : x ≠ r := by
        rintro rfl
        exact hk (hD.1 k q0 _ _ (by rw [zc_get, hd]; rfl) h rfl)
      show some (ad x, zc_e Y ad cA M x) = some (ad x, zc_e Y ad cA M' x)
      rw [ho x hne]
/-- locals -/
def zl_ok (Y : zm_Y) (ad : Nat × Nat → Nat) (ls : Array Slot) (nL : Nat) (lo : zm_L) : Prop := lo.length = nL ∧ ls.size = nL ∧ lv_wf ls ∧ ∀ (i : Nat) (v : zm_V), lo[i]? = some (some v) → ls[i]? = some (.val (zc_v ad v)) ∧ zv_ok Y v
def zl_l (ad : Nat × Nat → Nat) (lo : zm_L) : List (Nat × Value) := (List.range lo.length).filterMap fun j => match lo[j]? with
  | some (some v) => some (j, zc_v ad v)
  | _ => none
theorem zl_mem {ad : Nat × Nat → Nat} {lo : zm_L} {q : Nat × Value} : q ∈ zl_l ad lo ↔ ∃ v, lo[q.1]? = some (some v) ∧ q.2 = zc_v ad v := by
  obtain ⟨i, w⟩ := q
  simp only [zl_l, List.mem_filterMap, List.mem_range]
  constructor
  · rintro ⟨j, hj, h⟩
    split at h
    · next v hv => cases h; exact ⟨v, hv, rfl⟩
    · cases h
  · rintro ⟨v, h1, h2⟩
    refine ⟨i, (List.getElem?_eq_some_iff.mp h1).1, ?_⟩
    rw [h1]
    simp only [h2]
theorem zl_has {Y : zm_Y} {ad : Nat × Nat → Nat} {ls : Array Slot} {nL : Nat} {lo : zm_L} (h : zl_ok Y ad ls nL lo) : lv_has ls nL (zl_l ad lo) :=
  ⟨h.2.1, h.2.2.1, fun q hq => by obtain ⟨v, h1, h2⟩ := zl_mem.mp hq; rw [h2]; exact (h.2.2.2 q.1 v h1).1⟩
theorem zl_set {Y : zm_Y} {ad : Nat × Nat → Nat} {ls ls' : Array Slot} {nL i : Nat} {lo : zm_L} {v : zm_V} (h : zl_ok Y ad ls nL lo) (hv : zv_ok Y v) (h' : lv_has ls' nL ((i, zc_v ad v) :: (zl_l ad lo).filter (fun q => !(q.1 == i) && !(q.1 + 1 == i && q.2.category == 2)))) : zl_ok Y ad ls' nL (lo.set i (some v)) := by
  refine ⟨by rw [List.length_set]; exact h.1, h'.1, h'.2.1, fun j w hw => ?_⟩
  by_cases hj : j = i
  · subst hj
    have hlt : j < lo.length := by
      have := (List.getElem?_eq_some_iff.mp hw).1
      rwa [List.length_set] at this
    rw [List.getElem?_set_self hlt] at hw
    cases hw
    exact ⟨h'.2.2 (j, zc_v ad v) List.mem_cons_self, hv⟩
  · rw [List.getElem?_set_ne (Ne.symm hj)] at hw
    refine ⟨h'.2.2 (j, zc_v ad w) (List.mem_cons_of_mem _ (List.mem_filter.mpr ⟨zl_mem.mpr ⟨w, hw, rfl⟩, ?_⟩)), (h.2.2.2 j w hw).2⟩
    simp [hj, zc_v_cat]
/-! the code's table -/
def zm_ln (pc : Nat) : Jvm.ClassFile.Instr → Nat
  | .tableswitch _ _ _ offs => 13 + (3 - pc % 4) + 4 * offs.size
  | .bipush _ => 2
  | .sipush _ => 3
  | .ldc _ => 2
  | .iload _ => 2
  | .aload _ => 2
  | .istore _ => 2
  | .astore _ => 2
  | .iinc _ _ => 3
  | .goto _ => 3
  | .ifCond _ _ => 3
  | .if_icmp _ _ => 3
  | .getfield _ => 3
  | .putfield _ => 3
  | .getstatic _ => 3
  | .invokevirtual _ => 3
  | .invokestatic _ => 3
  | .invokespecial _ => 3
  | .new _ => 3
  | .anewarray _ => 3
  | .newarray _ => 2
  | _ => 1
def zm_tj (pc : Nat) (ts : List Nat) (o : Int) : Bool := match ts with
  | t :: _ => decide ((pc : Int) + o = (t : Int))
  | [] => false
def zm_tg (pc : Nat) (ts : List Nat) : Jvm.ClassFile.Instr → Bool
  | .goto o => zm_tj pc ts o
  | .ifCond _ o => zm_tj pc ts o
  | .if_icmp _ o => zm_tj pc ts o
  | .tableswitch d v w offs => match ts with
    | t :: ts => decide ((pc : Int) + d = (t : Int)) && (decide (w + 1 = v + (ts.length : Int)) && (decide (offs.toList.map (fun o => (pc : Int) + o) = ts.map (fun (t : Nat) => (t : Int))) && (decide (-2 ^ 31 ≤ v) && decide (w < 2 ^ 31))))
    | [] => false
  | _ => true
def zm_en (cc : ByteArray) (q : Nat × Jvm.ClassFile.Instr × Nat × List Nat) : Prop := decode cc q.1 = .ok (q.2.1, zm_ln q.1 q.2.1) ∧ q.2.2.1 = q.1 + zm_ln q.1 q.2.1 ∧ zm_tg q.1 q.2.2.2 q.2.1 = true
theorem zm_sw_ok {T : Type} {t : T} {x : Int32} {d : Nat} {k : Nat → Option T} : ∀ (ts : List Nat) (v : Int), zm_sw x v ts d k = some t → (∃ (j tg : Nat), ts[j]? = some tg ∧ x = Int32.ofInt (v + (j : Int)) ∧ k tg = some t) ∨ ((∀ j : Nat, j < ts.length → x ≠ Int32.ofInt (v + (j : Int))) ∧ k d = some t)
  | [], v, h => Or.inr ⟨fun j hj => absurd hj (Nat.not_lt_zero j), h⟩
  | a :: ts, v, h => by
    unfold zm_sw at h
    split at h
    · next hx => exact Or.inl ⟨0, a, rfl, by simpa using hx, h⟩
    · next hx =>
      rcases zm_sw_ok ts (v + 1) h with ⟨j, tg, h1, h2, h3⟩ | ⟨h1, h2⟩
      · exact Or.inl ⟨j + 1, tg, h1, by rw [h2]; congr 1; omega, h3⟩
      · refine Or.inr ⟨fun j hj => ?_, h2⟩
        cases j with
        | zero => simpa using hx
        | succ j =>
          have h3 := h1 j (by simpa using hj)
          rw [show v + ((j + 1 : Nat) : Int) = v + 1 + (j : Int) by omega]
          exact h3
/-! what a method's frame knows -/
def zg_ok (Y : zm_Y) (cl : List vw_C) (tys : List (ClassId × FieldType)) (ad : Nat × Nat → Nat) (cA : Nat → ClassId) (A : Nat → Prop) : Prop :=
  (∀ M, va_D A (zc_w Y ad cA M)) ∧ (∀ x ∈ zy_d Y, ∀ y ∈ zy_d Y, ad x = ad y → x = y) ∧
  (∀ s, s < zy_s Y → zy_k Y s = 1 → ∃ t0 : Nat, tys[t0]? = some (cA s, .int)) ∧ (∀ s, s < zy_s Y → zy_k Y s = 2 → ∃ t0 : Nat, tys[t0]? = some (cA s, .boolean)) ∧ (∀ s, s < zy_s Y → zy_k Y s = 3 → ∃ (t0 : Nat) (C : String), tys[t0]? = some (cA s, .object C)) ∧
  (∀ s, s < zy_s Y → zy_k Y s = 0 → ∃ (C : String) (T : u_T), cl[zy_c Y s]? = some (C, T, zy_n Y s)) ∧
  (∀ s i k q, s < zy_s Y → i < zy_m Y s → zy_r Y s i k = some q → zy_ok Y q) ∧
  (∀ s i j, s < zy_s Y → i < zy_m Y s → zy_k Y s = 3 → j < zy_n Y s → zy_ok Y (zy_e Y s i j)) ∧
  (∀ s, s < zy_s Y → zy_k Y s < 4) ∧
  (∀ s i k, s < zy_s Y → zy_k Y s = 0 → zy_f Y (zy_c Y s) k < 2 → zy_r Y s i k = none)
def zf_ok (Y : zm_Y) (cl : List vw_C) (Ts : List Cond) (own : String) (fl : Nat → Option (Nat × Nat)) : Prop := ∀ (i c k : Nat), fl i = some (c, k) → ∃ (C : String) (T : u_T) (N : Nat), cl[c]? = some (C, T, N) ∧ k < N ∧ (∀ w ∈ u_ws C T N, w ∈ Ts) ∧
  (Cond.fieldLink own i (T k).1 (T k).2.1 (T k).2.2.1 ∈ Ts ∨ ∃ host, Cond.fieldLinkNest own i (T k).1 (T k).2.1 (T k).2.2.1 host ∈ Ts) ∧
  (∃ ty0 : Nat → FieldType, ∀ k, k < N → parseFieldDescriptor (T k).2.2.1 = some (ty0 k)) ∧ (∀ a, a < N → ∀ b, b < N → a ≠ b → (T a).2.1 ≠ (T b).2.1) ∧
  (zy_f Y c k = 0 → (T k).2.2.2 = false ∧ parseFieldDescriptor (T k).2.2.1 = some .int) ∧ (zy_f Y c k = 1 → (T k).2.2.2 = false ∧ parseFieldDescriptor (T k).2.2.1 = some .boolean)
section ZS
variable {p : Program} {l : Launch} {e : Env} {R : Room} {s : State} {m : MethodId} {args : Array Value} {below : List Frame} {meth : Method} {c : Code} {H : Heap} {locs : List Loc} {cells slots : Nat} {Q : State → Prop}
variable {cc : ByteArray} {pc nL : Nat} {ls : Array Slot} {rest : List Value} {D : va_G} {cl : List vw_C} {tys : List (ClassId × FieldType)} {A : Nat → Prop} {ad : Nat × Nat → Nat} {cA : Nat → ClassId} {Y : zm_Y} {own : String} {Ts : List Cond} {M : zm_M}
/-- the world holds the store M -/
def zs_at (D : va_G) (cl : List vw_C) (Y : zm_Y) (ad : Nat × Nat → Nat) (cA : Nat → ClassId) (A : Nat → Prop) (H0 : Heap) (M : zm_M) (H : Heap) (locs : List Loc) : Prop := va_P D cl (zc_w Y ad cA M) H ∧ va_S A H0 H locs
theorem zs_gf (hx : p.tables.exec = Jvm.exec) (hb : c.code = cc) (hown : s.vm.findClass own = some m.cls) (hts : ∀ w ∈ Ts, w.before args s = true) (hG : zg_ok Y cl tys ad cA A) (hK : va_K D cl tys s) {fl : Nat → Option (Nat × Nat)} (hF : zf_ok Y cl Ts own fl) {T : Type} {t : T} {i : Nat} {r : Nat × Nat} {k : zm_V → Option T} (hr : zy_ok Y r) (h : zm_gf Y (fl i) r M k = some t) (hP : zs_at D cl Y ad cA A s.heap M H locs) (hd : decode cc pc = .ok (.getfield i, 3))
    (kk : ∀ v, zv_ok Y v → k v = some t → W p l e R s m args below meth c H locs cells slots Q (F0 m (pc + 3) ls (zc_v ad v :: rest))) : W p l e R s m args below meth c H locs cells slots Q (F0 m pc ls (.ref (ad r) :: rest)) := by
  unfold zm_gf at h
  split at h
  · next cn j hf =>
    split at h
    · next hc =>
      rw [Bool.and_eq_true, Nat.beq_eq, Nat.beq_eq] at hc
      obtain ⟨hk0, hkc⟩ := hc
      have hdm : r.1 < zy_s Y ∧ r.2 < zy_m Y r.1 := by
        rcases hr with h4 | h4
        · rw [hk0] at h4; cases h4
        · exact h4
      obtain ⟨C, T0, hcl⟩ := hG.2.2.2.2.2.1 r.1 hdm.1 hk0
      obtain ⟨C', T', N', hcl', hjN, hin, hlink, -⟩ := hF i cn j hf
      rw [hkc, hcl'] at hcl
      cases hcl
      obtain ⟨q0, hq0⟩ := zc_at (ad := ad) (cA := cA) (M := M) (zy_d_mem.mpr hdm)
      have he : zc_e Y ad cA M r = .inr (cn, (List.range (zy_n Y r.1)).map fun k => match zy_r Y r.1 r.2 k with
          | none => .int (M r.1 r.2 k)
          | some q => .ref (ad q)) := by
        unfold zc_e
        rw [hk0, hkc]
        rfl
      rw [he] at hq0
      have key : ∀ v : zm_V, zv_ok Y v → k v = some t → ((List.range (zy_n Y r.1)).map fun k => match zy_r Y r.1 r.2 k with
          | none => Value.int (M r.1 r.2 k)
          | some q => .ref (ad q))[j]? = some (zc_v ad v) → W p l e R s m args below meth c H locs cells slots Q (F0 m pc ls (.ref (ad r) :: rest)) := by
        intro v hv hkv hg
        rcases hlink with hl | ⟨host, hl⟩
        · exact va_get hx hb hts hin hown hK hP.1 q0 hq0 hcl' j hjN (hts _ hl) (fun _ h => h) hg hd (kk v hv hkv)
        · exact va_getN hx hb hts hin hown hK hP.1 q0 hq0 hcl' j hjN (hts _ hl) (fun _ h => h) hg hd (kk v hv hkv)
      cases hz : zy_r Y r.1 r.2 j with
      | none =>
        rw [hz] at h
        refine key (.inl (M r.1 r.2 j)) trivial h ?_
        simp [hjN, hz, zc_v]
      | some q =>
        rw [hz] at h
        refine key (.inr q) (hG.2.2.2.2.2.2.1 r.1 r.2 j q hdm.1 hdm.2 hz) h ?_
        simp [hjN, hz, zc_v]
    · cases h
  · cases h
theorem zc_e_ne {Y : zm_Y} {ad : Nat × Nat → Nat} {cA : Nat → ClassId} {M : zm_M} {r x : Nat × Nat} {k : Nat} {v : Int32} (h : x ≠ r) : zc_e Y ad cA (zm_up M r.1 r.2 k v) x = zc_e Y ad cA M x := by
  have hr : ∀ k', zm_up M r.1 r.2 k v x.1 x.2 k' = M x.1 x.2 k' := fun k' => by
    unfold zm_up
    by_cases h1 : x.1 = r.1
    · by_cases h2 : x.2 = r.2
      · exact absurd (Prod.ext h1 h2) h
      · simp [h2]
    · simp [h1]
  have hf : zm_up M r.1 r.2 k v x.1 x.2 = M x.1 x.2 := funext hr
  unfold zc_e
  rw [hf]
theorem zs_pf (hx : p.tables.exec = Jvm.exec) (hb : c.code = cc) (hown : s.vm.findClass own = some m.cls) (hts : ∀ w ∈ Ts, w.before args s = true) (hG : zg_ok Y cl tys ad cA A) (hK : va_K D cl tys s) {fl : Nat → Option (Nat × Nat)} (hF : zf_ok Y cl Ts own fl) {T : Type} {t : T} {i : Nat} {r : Nat × Nat} {x : Int32} {k : zm_M → Option T} (hr : zy_ok Y r) (h : zm_pf Y (fl i) r x M k = some t) (hP : zs_at D cl Y ad cA A s.heap M H locs) (hd : decode cc pc = .ok (.putfield i, 3))
    (kk : ∀ M' H' locs', k M' = some t → zs_at D cl Y ad cA A s.heap M' H' locs' → W p l e R s m args below meth c H' locs' cells slots Q (F0 m (pc + 3) ls rest)) : W p l e R s m args below meth c H locs cells slots Q (F0 m pc ls (.int x :: .ref (ad r) :: rest)) := by
  unfold zm_pf at h
  split at h
  · next cn j hf =>
    split at h
    · next hc =>
      rw [Bool.and_eq_true, Nat.beq_eq, Nat.beq_eq] at hc
      obtain ⟨hk0, hkc⟩ := hc
      have hdm : r.1 < zy_s Y ∧ r.2 < zy_m Y r.1 := by
        rcases hr with h4 | h4
        · rw [hk0] at h4; cases h4
        · exact h4
      obtain ⟨C, T0, hcl⟩ := hG.2.2.2.2.2.1 r.1 hdm.1 hk0
      obtain ⟨C', T', N', hcl', hjN, hin, hlink, ⟨ty0, hty⟩, hnm, hf0, hf1⟩ := hF i cn j hf
      have hcl2 := hcl
      rw [hkc, hcl'] at hcl2
      cases hcl2
      obtain ⟨q0, hq0⟩ := zc_at (ad := ad) (cA := cA) (M := M) (zy_d_mem.mpr hdm)
      have hq1 := hq0
      have he : ∀ M : zm_M, zc_e Y ad cA M r = .inr (cn, (List.range (zy_n Y r.1)).map fun k => match zy_r Y r.1 r.2 k with
          | none => .int (M r.1 r.2 k)
          | some q => .ref (ad q)) := by
        intro M
        unfold zc_e
        rw [hk0, hkc]
        rfl
      rw [he] at hq1
      have key : ∀ (ty : FieldType), (T0 j).2.2.2 = false → parseFieldDescriptor (T0 j).2.2.1 = some ty → zy_f Y cn j < 2 → narrow ty (.int x) = .int x → fits ty (.int x) = true → k (zm_up M r.1 r.2 j x) = some t → W p l e R s m args below meth c H locs cells slots Q (F0 m pc ls (.int x :: .ref (ad r) :: rest)) := by
        intro ty hfin hpd hz2 hnar hfit hk
        have hz : zy_r Y r.1 r.2 j = none := hG.2.2.2.2.2.2.2.2.2 r.1 r.2 j hdm.1 hk0 (by rw [hkc]; exact hz2)
        have hset : (List.range (zy_n Y r.1)).map (fun k => match zy_r Y r.1 r.2 k with
          | none => Value.int (zm_up M r.1 r.2 j x r.1 r.2 k)
          | some q => .ref (ad q)) = ((List.range (zy_n Y r.1)).map (fun k => match zy_r Y r.1 r.2 k with
          | none => Value.int (M r.1 r.2 k)
          | some q => .ref (ad q))).set j (.int x) := by
          apply List.ext_getElem?
          intro n
          by_cases hn : n = j
          · subst hn
            rw [List.getElem?_set_self (by simpa using hjN)]
            simp [hjN, hz, zm_up]
          · rw [List.getElem?_set_ne (Ne.symm hn)]
            simp only [List.getElem?_map, List.getElem?_range]
            by_cases hlt : n < zy_n Y r.1
            · simp [hlt, zm_up, hn]
            · simp [hlt]
        have hws : (zc_w Y ad cA M).set q0 (ad r, .inr (cn, ((List.range (zy_n Y r.1)).map (fun k => match zy_r Y r.1 r.2 k with
          | none => Value.int (M r.1 r.2 k)
          | some q => .ref (ad q))).set j (.int x))) = zc_w Y ad cA (zm_up M r.1 r.2 j x) := by
          rw [← hset, ← he (zm_up M r.1 r.2 j x)]
          exact zc_set (hG.1 M) hG.2.1 (zy_d_mem.mpr hdm) hq0 (fun y hy => zc_e_ne hy)
        rcases hlink with hl | ⟨host, hl⟩
        · refine va_put hx hb hts hin ty0 hty hnm hown hK hP.1 (hG.1 M) hP.2 q0 hq1 hcl' j hjN (hts _ hl) (fun _ h => h) hfin hpd hnar hfit (by simpa using hjN) hd (fun H1 locs1 h1 h2 h3 => ?_)
          rw [hws] at h1
          exact kk _ H1 locs1 hk ⟨h1, h3⟩
        · refine va_putN hx hb hts hin ty0 hty hnm hown hK hP.1 (hG.1 M) hP.2 q0 hq1 hcl' j hjN (hts _ hl) (fun _ h => h) hfin hpd hnar hfit (by simpa using hjN) hd (fun H1 locs1 h1 h2 h3 => ?_)
          rw [hws] at h1
          exact kk _ H1 locs1 hk ⟨h1, h3⟩
      split at h
      · next hz => exact key .int (hf0 hz).1 (hf0 hz).2 (by omega) rfl rfl h
      · next hz =>
        split at h
        · next h01 =>
          refine key .boolean (hf1 hz).1 (hf1 hz).2 (by omega) ?_ ?_ h
          · rcases h01 with rfl | rfl <;> rfl
          · rcases h01 with rfl | rfl <;> rfl
        · cases h
      · cases h
    · cases h
  · cases h
end ZS
end
section
section ZT
variable {p : Program} {l : Launch} {e : Env} {R : Room} {s : State} {m : MethodId} {args : Array Value} {below : List Frame} {meth : Method} {c : Code} {H : Heap} {locs : List Loc} {cells slots : Nat} {Q : State → Prop}
variable {cc : ByteArray} {pc nL : Nat} {ls : Array Slot} {rest : List Value} {D : va_G} {cl : List vw_C} {tys : List (ClassId × FieldType)} {A : Nat → Prop} {ad : Nat × Nat → Nat} {cA : Nat → ClassId} {Y : zm_Y} {own : String} {Ts : List Cond} {M : zm_M}
theorem zs_dom {Y : zm_Y} {r : Nat × Nat} {n : Nat} (h : zy_ok Y r) (hk : zy_k Y r.1 = n) (hn : n ≠ 4) : r.1 < zy_s Y ∧ r.2 < zy_m Y r.1 := by
  rcases h with h | h
  · exact absurd (hk.symm.trans h) hn
  · exact h
theorem zs_arr {Y : zm_Y} {r : Nat × Nat} {M : zm_M} (hk : zy_k Y r.1 = 1 ∨ zy_k Y r.1 = 2) : zc_e Y ad cA M r = .inl (cA r.1, zy_n Y r.1, .inl (M r.1 r.2)) := by
  unfold zc_e
  rcases hk with h | h <;> rw [h] <;> rfl
theorem zs_nin {i : Int32} {n : Nat} (h : ¬ (i < 0 ∨ n ≤ i.toNatClampNeg)) : vp_in i n := h
theorem zs_il (hx : p.tables.exec = Jvm.exec) (hb : c.code = cc) (hG : zg_ok Y cl tys ad cA A) (hK : va_K D cl tys s) {r : Nat × Nat} {i : Int32} (hr : zy_ok Y r) (hk : zy_k Y r.1 = 1) (hin : ¬ (i < 0 ∨ zy_n Y r.1 ≤ i.toNatClampNeg)) (hP : zs_at D cl Y ad cA A s.heap M H locs) (hd : decode cc pc = .ok (.iaload, 1))
    (kk : W p l e R s m args below meth c H locs cells slots Q (F0 m (pc + 1) ls (.int (M r.1 r.2 i.toNatClampNeg) :: rest))) : W p l e R s m args below meth c H locs cells slots Q (F0 m pc ls (.int i :: .ref (ad r) :: rest)) := by
  have hdm := zs_dom hr hk (by decide)
  obtain ⟨q0, hq0⟩ := zc_at (ad := ad) (cA := cA) (M := M) (zy_d_mem.mpr hdm)
  rw [zs_arr (Or.inl hk)] at hq0
  obtain ⟨t0, ht⟩ := hG.2.2.1 r.1 hdm.1 hk
  exact va_iald hx hb hK hP.1 q0 t0 hq0 ht hin hd kk
theorem zs_bl (hx : p.tables.exec = Jvm.exec) (hb : c.code = cc) (hG : zg_ok Y cl tys ad cA A) (hK : va_K D cl tys s) {r : Nat × Nat} {i : Int32} (hr : zy_ok Y r) (hk : zy_k Y r.1 = 2) (hin : ¬ (i < 0 ∨ zy_n Y r.1 ≤ i.toNatClampNeg)) (hP : zs_at D cl Y ad cA A s.heap M H locs) (hd : decode cc pc = .ok (.baload, 1))
    (kk : W p l e R s m args below meth c H locs cells slots Q (F0 m (pc + 1) ls (.int (M r.1 r.2 i.toNatClampNeg) :: rest))) : W p l e R s m args below meth c H locs cells slots Q (F0 m pc ls (.int i :: .ref (ad r) :: rest)) := by
  have hdm := zs_dom hr hk (by decide)
  obtain ⟨q0, hq0⟩ := zc_at (ad := ad) (cA := cA) (M := M) (zy_d_mem.mpr hdm)
  rw [zs_arr (Or.inr hk)] at hq0
  obtain ⟨t0, ht⟩ := hG.2.2.2.1 r.1 hdm.1 hk
  exact va_zald hx hb hK hP.1 q0 t0 hq0 ht hin hd kk
theorem zs_al (hx : p.tables.exec = Jvm.exec) (hb : c.code = cc) (hG : zg_ok Y cl tys ad cA A) (hK : va_K D cl tys s) {r : Nat × Nat} {i : Int32} (hr : zy_ok Y r) (hk : zy_k Y r.1 = 3) (hin : ¬ (i < 0 ∨ zy_n Y r.1 ≤ i.toNatClampNeg)) (hP : zs_at D cl Y ad cA A s.heap M H locs) (hd : decode cc pc = .ok (.aaload, 1))
    (kk : W p l e R s m args below meth c H locs cells slots Q (F0 m (pc + 1) ls (.ref (ad (zy_e Y r.1 r.2 i.toNatClampNeg)) :: rest))) : W p l e R s m args below meth c H locs cells slots Q (F0 m pc ls (.int i :: .ref (ad r) :: rest)) := by
  have hdm := zs_dom hr hk (by decide)
  obtain ⟨q0, hq0⟩ := zc_at (ad := ad) (cA := cA) (M := M) (zy_d_mem.mpr hdm)
  have he : zc_e Y ad cA M r = .inl (cA r.1, zy_n Y r.1, .inr (.inr (.inr (.inr fun j => some (ad (zy_e Y r.1 r.2 j)))))) := by
    unfold zc_e
    rw [hk]
    rfl
  rw [he] at hq0
  obtain ⟨t0, C, ht⟩ := hG.2.2.2.2.1 r.1 hdm.1 hk
  exact va_aldq hx hb hK hP.1 q0 t0 hq0 ht hin hd kk
theorem zs_up (M : zm_M) (r : Nat × Nat) (k : Nat) (x : Int32) : zm_up M r.1 r.2 k x r.1 r.2 = upd (M r.1 r.2) k x := by
  funext j
  unfold zm_up upd
  by_cases h : j = k <;> simp [h]
theorem zs_is (hx : p.tables.exec = Jvm.exec) (hb : c.code = cc) (hG : zg_ok Y cl tys ad cA A) (hK : va_K D cl tys s) {r : Nat × Nat} {i x : Int32} (hr : zy_ok Y r) (hk : zy_k Y r.1 = 1) (hin : ¬ (i < 0 ∨ zy_n Y r.1 ≤ i.toNatClampNeg)) (hP : zs_at D cl Y ad cA A s.heap M H locs) (hd : decode cc pc = .ok (.iastore, 1))
    (kk : ∀ H' locs', zs_at D cl Y ad cA A s.heap (zm_up M r.1 r.2 i.toNatClampNeg x) H' locs' → W p l e R s m args below meth c H' locs' cells slots Q (F0 m (pc + 1) ls rest)) : W p l e R s m args below meth c H locs cells slots Q (F0 m pc ls (.int x :: .int i :: .ref (ad r) :: rest)) := by
  have hdm := zs_dom hr hk (by decide)
  obtain ⟨q0, hq0⟩ := zc_at (ad := ad) (cA := cA) (M := M) (zy_d_mem.mpr hdm)
  have hq1 := hq0
  rw [zs_arr (Or.inl hk)] at hq1
  obtain ⟨t0, ht⟩ := hG.2.2.1 r.1 hdm.1 hk
  refine va_iast hx hb hK hP.1 (hG.1 M) hP.2 q0 t0 hq1 ht hin hd (fun H1 locs1 h1 h2 h3 => kk H1 locs1 ⟨?_, h3⟩)
  have hws := zc_set (M' := zm_up M r.1 r.2 i.toNatClampNeg x) (hG.1 M) hG.2.1 (zy_d_mem.mpr hdm) hq0 (fun y hy => zc_e_ne hy)
  rw [zs_arr (Or.inl hk), zs_up] at hws
  rw [← hws]
  exact h1
theorem zs_bs (hx : p.tables.exec = Jvm.exec) (hb : c.code = cc) (hG : zg_ok Y cl tys ad cA A) (hK : va_K D cl tys s) {r : Nat × Nat} {i x : Int32} (hr : zy_ok Y r) (hk : zy_k Y r.1 = 2) (hin : ¬ (i < 0 ∨ zy_n Y r.1 ≤ i.toNatClampNeg)) (hP : zs_at D cl Y ad cA A s.heap M H locs) (hd : decode cc pc = .ok (.bastore, 1))
    (kk : ∀ H' locs', zs_at D cl Y ad cA A s.heap (zm_up M r.1 r.2 i.toNatClampNeg (x &&& 1)) H' locs' → W p l e R s m args below meth c H' locs' cells slots Q (F0 m (pc + 1) ls rest)) : W p l e R s m args below meth c H locs cells slots Q (F0 m pc ls (.int x :: .int i :: .ref (ad r) :: rest)) := by
  have hdm := zs_dom hr hk (by decide)
  obtain ⟨q0, hq0⟩ := zc_at (ad := ad) (cA := cA) (M := M) (zy_d_mem.mpr hdm)
  have hq1 := hq0
  rw [zs_arr (Or.inr hk)] at hq1
  obtain ⟨t0, ht⟩ := hG.2.2.2.1 r.1 hdm.1 hk
  refine va_zast hx hb hK hP.1 (hG.1 M) hP.2 q0 t0 hq1 ht hin hd (fun H1 locs1 h1 h2 h3 => kk H1 locs1 ⟨?_, h3⟩)
  have hws := zc_set (M' := zm_up M r.1 r.2 i.toNatClampNeg (x &&& 1)) (hG.1 M) hG.2.1 (zy_d_mem.mpr hdm) hq0 (fun y hy => zc_e_ne hy)
  rw [zs_arr (Or.inr hk), zs_up] at hws
  rw [← hws]
  exact h1
theorem zs_ln (hx : p.tables.exec = Jvm.exec) (hb : c.code = cc) (hG : zg_ok Y cl tys ad cA A) (hK : va_K D cl tys s) {r : Nat × Nat} (hr : zy_ok Y r) (hk : zy_k Y r.1 ≠ 0) (hT : zy_k Y r.1 = 4 → va_T .int (ad r) (zy_n Y r.1) (fun j => .int (zy_t Y r.1 j)) A s s.heap) (hP : zs_at D cl Y ad cA A s.heap M H locs) (hd : decode cc pc = .ok (.arraylength, 1))
    (kk : W p l e R s m args below meth c H locs cells slots Q (F0 m (pc + 1) ls (.int (nI (zy_n Y r.1)) :: rest))) : W p l e R s m args below meth c H locs cells slots Q (F0 m pc ls (.ref (ad r) :: rest)) := by
  by_cases h4 : zy_k Y r.1 = 4
  · exact va_tlen hx hb (hT h4) hP.2 rfl hd kk
  · have hdm : r.1 < zy_s Y ∧ r.2 < zy_m Y r.1 := zs_dom hr rfl h4
    have hlt := hG.2.2.2.2.2.2.2.2.1 r.1 hdm.1
    obtain ⟨q0, hq0⟩ := zc_at (ad := ad) (cA := cA) (M := M) (zy_d_mem.mpr hdm)
    rcases (show zy_k Y r.1 = 1 ∨ zy_k Y r.1 = 2 ∨ zy_k Y r.1 = 3 by omega) with h | h | h
    · rw [zs_arr (Or.inl h)] at hq0
      obtain ⟨t0, ht⟩ := hG.2.2.1 r.1 hdm.1 h
      exact va_alen hx hb hK hP.1 q0 t0 hq0 ht rfl hd kk
    · rw [zs_arr (Or.inr h)] at hq0
      obtain ⟨t0, ht⟩ := hG.2.2.2.1 r.1 hdm.1 h
      exact va_alen hx hb hK hP.1 q0 t0 hq0 ht rfl hd kk
    · have he : zc_e Y ad cA M r = .inl (cA r.1, zy_n Y r.1, .inr (.inr (.inr (.inr fun j => some (ad (zy_e Y r.1 r.2 j)))))) := by
        unfold zc_e
        rw [h]
        rfl
      rw [he] at hq0
      obtain ⟨t0, C, ht⟩ := hG.2.2.2.2.1 r.1 hdm.1 h
      exact va_alen hx hb hK hP.1 q0 t0 hq0 ht rfl hd kk
end ZT
end
section
section ZU
variable {p : Program} {l : Launch} {e : Env} {R : Room} {s : State} {m : MethodId} {args : Array Value} {below : List Frame} {meth : Method} {c : Code} {H : Heap} {locs : List Loc} {cells slots : Nat} {Q : State → Prop}
variable {cc : ByteArray} {pc nL : Nat} {ls : Array Slot} {rest : List Value} {D : va_G} {cl : List vw_C} {tys : List (ClassId × FieldType)} {A : Nat → Prop} {ad : Nat × Nat → Nat} {cA : Nat → ClassId} {Y : zm_Y} {own : String} {Ts : List Cond} {M : zm_M}
/-- a call, whatever it calls: the machine comes behind it -/
def zi_ok (p : Program) (l : Launch) (e : Env) (R : Room) (s : State) (m : MethodId) (args : Array Value) (below : List Frame) (meth : Method) (c : Code) (cells slots : Nat) (Q : State → Prop) (cc : ByteArray) (nL : Nat) (D : va_G) (cl : List vw_C) (A : Nat → Prop) (ad : Nat × Nat → Nat) (cA : Nat → ClassId) (Y : zm_Y) (key : Nat) (F : Option zm_F) : Prop :=
  ∀ (i pc : Nat) (ls : Array Slot) (st : List zm_V) (M : zm_M) (H : Heap) (locs : List Loc) (ins : Jvm.ClassFile.Instr), ((key = 2 * i + 1 ∧ ins = .invokevirtual i) ∨ (key = 2 * i ∧ ins = .invokestatic i)) → decode cc pc = .ok (ins, 3) → ls.size = nL → (∀ v ∈ st, zv_ok Y v) → zs_at D cl Y ad cA A s.heap M H locs →
    ∀ (T : Type) (t : T) (K : List zm_V → zm_M → Option T), zm_iv F K st M = some t →
      (∀ (st' : List zm_V) (M' : zm_M) (H' : Heap) (locs' : List Loc), K st' M' = some t → (∀ v ∈ st', zv_ok Y v) → zs_at D cl Y ad cA A s.heap M' H' locs' → W p l e R s m args below meth c H' locs' cells slots Q (F0 m (pc + 3) ls (st'.map (zc_v ad)))) →
      W p l e R s m args below meth c H locs cells slots Q (F0 m pc ls (st.map (zc_v ad)))
def zm_rt : Option zm_V → Jvm.ClassFile.Instr
  | none => .return_
  | some (.inl _) => .ireturn
  | some (.inr _) => .areturn
set_option maxHeartbeats 4000000 in
set_option maxRecDepth 100000 in
theorem zm_ex_ok {X : zm_X} (hx : p.tables.exec = Jvm.exec) (hb : c.code = cc) (hown : s.vm.findClass own = some m.cls) (hts : ∀ w ∈ Ts, w.before args s = true) (hG : zg_ok Y cl tys ad cA A) (hK0 : va_K D cl tys s) (hF : zf_ok Y cl Ts own X.1)
    (hC : ∀ i v, X.2.1 i = some v → Cond.constant own i v ∈ Ts) (hT : ∀ r, zy_k Y r.1 = 4 → va_T .int (ad r) (zy_n Y r.1) (fun j => .int (zy_t Y r.1 j)) A s s.heap)
    (hZ : ∀ i q, X.2.2.1 i = some q → zy_ok Y q ∧ ∃ C n d, va_Z C n d (.ref (ad q)) A s s.heap ∧ (Cond.fieldLink own i C n d ∈ Ts ∨ ∃ host, Cond.fieldLinkNest own i C n d host ∈ Ts))
    (hI : ∀ i, zi_ok p l e R s m args below meth c cells slots Q cc nL D cl A ad cA Y i (X.2.2.2 i))
    {T : Type} {t : T} {ret : Option zm_V → zm_M → Option T} {K : Nat → zm_L → List zm_V → zm_M → Option T} {nx : Nat} {ts : List Nat} {lo : zm_L} {st : List zm_V} {ins : Jvm.ClassFile.Instr}
    (hR : ∀ v M' H' locs' pc' ls', ret v M' = some t → (∀ w ∈ v, zv_ok Y w) → zs_at D cl Y ad cA A s.heap M' H' locs' → decode cc pc' = .ok (zm_rt v, 1) → W p l e R s m args below meth c H' locs' cells slots Q (F0 m pc' ls' (v.toList.map (zc_v ad))))
    (hK : ∀ pc' lo' st' M' H' locs' ls', K pc' lo' st' M' = some t → zl_ok Y ad ls' nL lo' → (∀ v ∈ st', zv_ok Y v) → zs_at D cl Y ad cA A s.heap M' H' locs' → W p l e R s m args below meth c H' locs' cells slots Q (F0 m pc' ls' (st'.map (zc_v ad))))
    (hen : zm_en cc (pc, ins, nx, ts)) (hl : zl_ok Y ad ls nL lo) (hst : ∀ v ∈ st, zv_ok Y v) (hP : zs_at D cl Y ad cA A s.heap M H locs)
    (h : zm_ex Y X ret K nx ts lo st M ins = some t) : W p l e R s m args below meth c H locs cells slots Q (F0 m pc ls (st.map (zc_v ad))) := by
  obtain ⟨hd, hnx, htg⟩ := hen
  dsimp only at hd hnx htg
  have push : ∀ {v : zm_V} {r : List zm_V}, zv_ok Y v → (∀ w ∈ r, zv_ok Y w) → ∀ w ∈ v :: r, zv_ok Y w := fun hv hr w hw => by
    rcases List.mem_cons.mp hw with rfl | hw
    · exact hv
    · exact hr w hw
  have tail : ∀ {v : zm_V} {r : List zm_V}, (∀ w ∈ v :: r, zv_ok Y w) → ∀ w ∈ r, zv_ok Y w := fun h w hw => h w (List.mem_cons_of_mem _ hw)
  have li : ∀ {i : Nat} {k : Int32 → Option T}, zm_li lo i k = some t → ∃ x, ls[i]? = some (.val (.int x)) ∧ k x = some t := by
    intro i k hk
    unfold zm_li at hk
    split at hk
    · next x hx => exact ⟨x, (hl.2.2.2 i _ hx).1, hk⟩
    · cases hk
  have la : ∀ {i : Nat} {k : Nat × Nat → Option T}, zm_la lo i k = some t → ∃ x, ls[i]? = some (.val (.ref (ad x))) ∧ zy_ok Y x ∧ k x = some t := by
    intro i k hk
    unfold zm_la at hk
    split at hk
    · next x hx => exact ⟨x, (hl.2.2.2 i _ hx).1, (hl.2.2.2 i _ hx).2, hk⟩
    · cases hk
  have sl : ∀ {i : Nat} {v : zm_V} {k : zm_L → Option T}, zm_sl lo i v k = some t → i < nL ∧ k (lo.set i (some v)) = some t := by
    intro i v k hk
    unfold zm_sl at hk
    split at hk
    · next x hx => exact ⟨by rw [← hl.1]; exact (List.getElem?_eq_some_iff.mp hx).1, hk⟩
    · cases hk
  have b1 : ∀ {k : Int32 → List zm_V → Option T}, zm_b1 st k = some t → ∃ x r, st = .inl x :: r ∧ k x r = some t := by
    intro k hk
    unfold zm_b1 at hk
    split at hk
    · next x r => exact ⟨x, r, rfl, hk⟩
    · cases hk
  have b2 : ∀ {k : Int32 → Int32 → List zm_V → Option T}, zm_b2 st k = some t → ∃ x y r, st = .inl y :: .inl x :: r ∧ k x y r = some t := by
    intro k hk
    unfold zm_b2 at hk
    split at hk
    · next y x r => exact ⟨x, y, r, rfl, hk⟩
    · cases hk
  have tj : ∀ {o : Int} {k : Nat → Option T}, zm_tj pc ts o = true → zm_t0 ts k = some t → ∃ tg : Nat, (pc : Int) + o = (tg : Int) ∧ k tg = some t := by
    intro o k h1 h2
    unfold zm_tj at h1
    unfold zm_t0 at h2
    split at h1
    · next a b => exact ⟨a, of_decide_eq_true h1, h2⟩
    · cases h1
  cases ins
  case iconst n =>
    rw [hnx] at h
    exact lv_iconst hx hb hd rfl (hK _ _ _ _ _ _ _ h hl (push trivial hst) hP)
  case bipush n =>
    rw [hnx] at h
    exact lv_bipush hx hb hd rfl (hK _ _ _ _ _ _ _ h hl (push trivial hst) hP)
  case sipush n =>
    rw [hnx] at h
    exact lv_sipush hx hb hd rfl (hK _ _ _ _ _ _ _ h hl (push trivial hst) hP)
  case ldc i =>
    rw [hnx] at h
    simp only [zm_ex] at h
    split at h
    · next v hv => exact lv_ldc hx hb hown (hts _ (hC i v hv)) hd (hK _ _ _ _ _ _ _ h hl (push trivial hst) hP)
    · cases h
  case iload i =>
    rw [hnx] at h
    obtain ⟨x, hg, h⟩ := li h
    exact lv_iload hx hb hd hg (hK _ _ _ _ _ _ _ h hl (push trivial hst) hP)
  case iload_n i =>
    rw [hnx] at h
    obtain ⟨x, hg, h⟩ := li h
    exact lv_iload_n hx hb hd rfl hg (hK _ _ _ _ _ _ _ h hl (push trivial hst) hP)
  case aload i =>
    rw [hnx] at h
    obtain ⟨x, hg, hv, h⟩ := la h
    exact lv_aload hx hb hd hg (hK _ _ _ _ _ _ _ h hl (push hv hst) hP)
  case aload_n i =>
    rw [hnx] at h
    obtain ⟨x, hg, hv, h⟩ := la h
    exact lv_aload_n hx hb hd rfl hg (hK _ _ _ _ _ _ _ h hl (push hv hst) hP)
  case istore i =>
    rw [hnx] at h
    obtain ⟨x, r, rfl, h2⟩ := b1 h
    obtain ⟨hi, h3⟩ := sl h2
    exact lv_istore hx hb hd (zl_has hl) hi rfl (fun ls' hl' => hK _ _ _ _ _ _ _ h3 (zl_set (v := .inl x) hl trivial hl') (tail hst) hP)
  case istore_n i =>
    rw [hnx] at h
    obtain ⟨x, r, rfl, h2⟩ := b1 h
    obtain ⟨hi, h3⟩ := sl h2
    exact lv_istore_n hx hb hd rfl (zl_has hl) hi rfl (fun ls' hl' => hK _ _ _ _ _ _ _ h3 (zl_set (v := .inl x) hl trivial hl') (tail hst) hP)
  case astore i =>
    rw [hnx] at h
    simp only [zm_ex] at h
    split at h
    · next x r =>
      obtain ⟨hi, h⟩ := sl h
      exact lv_astore hx hb hd (zl_has hl) hi rfl (fun ls' hl' => hK _ _ _ _ _ _ _ h (zl_set (v := .inr x) hl (hst _ List.mem_cons_self) hl') (tail hst) hP)
    · cases h
  case astore_n i =>
    rw [hnx] at h
    simp only [zm_ex] at h
    split at h
    · next x r =>
      obtain ⟨hi, h⟩ := sl h
      exact lv_astore_n hx hb hd rfl (zl_has hl) hi rfl (fun ls' hl' => hK _ _ _ _ _ _ _ h (zl_set (v := .inr x) hl (hst _ List.mem_cons_self) hl') (tail hst) hP)
    · cases h
  case iinc i n =>
    rw [hnx] at h
    simp only [zm_ex] at h
    unfold zm_li at h
    split at h
    · next x hx0 =>
      obtain ⟨hi, h⟩ := sl h
      obtain ⟨k0, hk0⟩ := List.getElem?_of_mem (zl_mem.mpr ⟨.inl x, hx0, rfl⟩ : (i, zc_v ad (.inl x)) ∈ zl_l ad lo)
      exact lv_iinc hx hb hd (zl_has hl) hk0 rfl hi rfl (fun ls' hl' => hK _ _ _ _ _ _ _ h (zl_set (v := .inl (x + Int32.ofInt n)) hl trivial hl') hst hP)
    · cases h
  case iadd =>
    rw [hnx] at h
    obtain ⟨x, y, r, rfl, h⟩ := b2 h
    exact lv_iadd hx hb hd (hK _ _ _ _ _ _ _ h hl (push trivial (tail (tail hst))) hP)
  case isub =>
    rw [hnx] at h
    obtain ⟨x, y, r, rfl, h⟩ := b2 h
    exact lv_isub hx hb hd (hK _ _ _ _ _ _ _ h hl (push trivial (tail (tail hst))) hP)
  case imul =>
    rw [hnx] at h
    obtain ⟨x, y, r, rfl, h⟩ := b2 h
    exact lv_imul hx hb hd (hK _ _ _ _ _ _ _ h hl (push trivial (tail (tail hst))) hP)
  case iand =>
    rw [hnx] at h
    obtain ⟨x, y, r, rfl, h⟩ := b2 h
    exact lv_iand hx hb hd (hK _ _ _ _ _ _ _ h hl (push trivial (tail (tail hst))) hP)
  case ior =>
    rw [hnx] at h
    obtain ⟨x, y, r, rfl, h⟩ := b2 h
    exact lv_ior hx hb hd (hK _ _ _ _ _ _ _ h hl (push trivial (tail (tail hst))) hP)
  case ixor =>
    rw [hnx] at h
    obtain ⟨x, y, r, rfl, h⟩ := b2 h
    exact lv_ixor hx hb hd (hK _ _ _ _ _ _ _ h hl (push trivial (tail (tail hst))) hP)
  case ishl =>
    rw [hnx] at h
    obtain ⟨x, y, r, rfl, h⟩ := b2 h
    exact lv_ishl hx hb hd (hK _ _ _ _ _ _ _ h hl (push trivial (tail (tail hst))) hP)
  case ishr =>
    rw [hnx] at h
    obtain ⟨x, y, r, rfl, h⟩ := b2 h
    exact lv_ishr hx hb hd (hK _ _ _ _ _ _ _ h hl (push trivial (tail (tail hst))) hP)
  case iushr =>
    rw [hnx] at h
    obtain ⟨x, y, r, rfl, h⟩ := b2 h
    exact lv_iushr hx hb hd rfl (hK _ _ _ _ _ _ _ h hl (push trivial (tail (tail hst))) hP)
  case idiv =>
    rw [hnx] at h
    obtain ⟨x, y, r, rfl, h2⟩ := b2 h
    split at h2
    · cases h2
    · next hy => exact lv_idiv hx hb hd hy (hK _ _ _ _ _ _ _ h2 hl (push trivial (tail (tail hst))) hP)
  case irem =>
    rw [hnx] at h
    obtain ⟨x, y, r, rfl, h2⟩ := b2 h
    split at h2
    · cases h2
    · next hy => exact lv_irem hx hb hd hy (hK _ _ _ _ _ _ _ h2 hl (push trivial (tail (tail hst))) hP)
  case ineg =>
    rw [hnx] at h
    obtain ⟨x, r, rfl, h⟩ := b1 h
    exact lv_ineg hx hb hd (hK _ _ _ _ _ _ _ h hl (push trivial (tail hst)) hP)
  case i2b =>
    rw [hnx] at h
    obtain ⟨x, r, rfl, h⟩ := b1 h
    exact lv_i2b hx hb hd rfl (hK _ _ _ _ _ _ _ h hl (push trivial (tail hst)) hP)
  case dup =>
    rw [hnx] at h
    simp only [zm_ex] at h
    split at h
    · next v r => exact lv_dup hx hb hd (zc_v_cat ad v) (hK _ _ _ _ _ _ _ h hl (push (hst _ List.mem_cons_self) hst) hP)
    · cases h
  case pop =>
    rw [hnx] at h
    simp only [zm_ex] at h
    split at h
    · next v r => exact lv_pop hx hb hd (zc_v_cat ad v) (hK _ _ _ _ _ _ _ h hl (tail hst) hP)
    · cases h
  case dup_x1 =>
    rw [hnx] at h
    simp only [zm_ex] at h
    split at h
    · next v w r => exact lv_dup_x1 hx hb hd (zc_v_cat ad v) (zc_v_cat ad w) (hK _ _ _ _ _ _ _ h hl (push (hst _ List.mem_cons_self) (push (hst _ (List.mem_cons_of_mem _ List.mem_cons_self)) (push (hst _ List.mem_cons_self) (tail (tail hst))))) hP)
    · cases h
  case dup2 =>
    rw [hnx] at h
    simp only [zm_ex] at h
    split at h
    · next v w r => exact lv_dup2_11 hx hb hd (zc_v_cat ad v) (zc_v_cat ad w) (hK _ _ _ _ _ _ _ h hl (push (hst _ List.mem_cons_self) (push (hst _ (List.mem_cons_of_mem _ List.mem_cons_self)) hst)) hP)
    · cases h
  case goto o =>
    obtain ⟨tg, ht, h⟩ := tj htg h
    exact lv_goto hx hb hd ht (hK _ _ _ _ _ _ _ h hl hst hP)
  case ifCond cn o =>
    rw [hnx] at h
    obtain ⟨x, r, rfl, h⟩ := b1 h
    obtain ⟨tg, ht, h⟩ := tj htg h
    have go : ∀ pc', K pc' lo r M = some t → W p l e R s m args below meth c H locs cells slots Q (F0 m pc' ls (r.map (zc_v ad))) := fun pc' h => hK _ _ _ _ _ _ _ h hl (tail hst) hP
    cases cn <;> simp only [zm_cm] at h <;> split at h <;> rename_i hc
    · exact lv_if_eq hx hb hd ht (fun _ => go _ h) (fun z => absurd hc z)
    · exact lv_if_eq hx hb hd ht (fun z => absurd z hc) (fun _ => go _ h)
    · exact lv_if_ne hx hb hd ht (fun z => absurd hc z) (fun _ => go _ h)
    · exact lv_if_ne hx hb hd ht (fun _ => go _ h) (fun z => absurd z hc)
    · exact lv_if_lt hx hb hd ht (fun _ => go _ h) (fun z => absurd hc z)
    · exact lv_if_lt hx hb hd ht (fun z => absurd z hc) (fun _ => go _ h)
    · exact lv_if_ge hx hb hd ht (fun z => absurd hc (Int32.not_lt.mpr z)) (fun _ => go _ h)
    · exact lv_if_ge hx hb hd ht (fun _ => go _ h) (fun z => absurd (Int32.not_lt.mp hc) z)
    · exact lv_if_gt hx hb hd ht (fun _ => go _ h) (fun z => absurd hc z)
    · exact lv_if_gt hx hb hd ht (fun z => absurd z hc) (fun _ => go _ h)
    · exact lv_if_le hx hb hd ht (fun z => absurd hc (Int32.not_lt.mpr z)) (fun _ => go _ h)
    · exact lv_if_le hx hb hd ht (fun _ => go _ h) (fun z => absurd (Int32.not_lt.mp hc) z)
  case if_icmp cn o =>
    rw [hnx] at h
    obtain ⟨x, y, r, rfl, h⟩ := b2 h
    obtain ⟨tg, ht, h⟩ := tj htg h
    have go : ∀ pc', K pc' lo r M = some t → W p l e R s m args below meth c H locs cells slots Q (F0 m pc' ls (r.map (zc_v ad))) := fun pc' h => hK _ _ _ _ _ _ _ h hl (tail (tail hst)) hP
    cases cn <;> simp only [zm_cm] at h <;> split at h <;> rename_i hc
    · exact lv_icmp_eq hx hb hd ht (fun _ => go _ h) (fun z => absurd hc z)
    · exact lv_icmp_eq hx hb hd ht (fun z => absurd z hc) (fun _ => go _ h)
    · exact lv_icmp_ne hx hb hd ht (fun z => absurd hc z) (fun _ => go _ h)
    · exact lv_icmp_ne hx hb hd ht (fun _ => go _ h) (fun z => absurd z hc)
    · exact lv_icmp_lt hx hb hd ht (fun _ => go _ h) (fun z => absurd hc z)
    · exact lv_icmp_lt hx hb hd ht (fun z => absurd z hc) (fun _ => go _ h)
    · exact lv_icmp_ge hx hb hd ht (fun z => absurd hc (Int32.not_lt.mpr z)) (fun _ => go _ h)
    · exact lv_icmp_ge hx hb hd ht (fun _ => go _ h) (fun z => absurd (Int32.not_lt.mp hc) z)
    · exact lv_icmp_gt hx hb hd ht (fun _ => go _ h) (fun z => absurd hc z)
    · exact lv_icmp_gt hx hb hd ht (fun z => absurd z hc) (fun _ => go _ h)
    · exact lv_icmp_le hx hb hd ht (fun z => absurd hc (Int32.not_lt.mpr z)) (fun _ => go _ h)
    · exact lv_icmp_le hx hb hd ht (fun _ => go _ h) (fun z => absurd (Int32.not_lt.mp hc) z)
  case tableswitch df v w offs =>
    obtain ⟨x, r, rfl, h2⟩ := b1 h
    split at h2
    · next d ts' =>
      simp only [zm_tg, Bool.and_eq_true, decide_eq_true_eq] at htg
      obtain ⟨g1, g2, g3, g4, g5⟩ := htg
      rcases zm_sw_ok ts' v h2 with ⟨j, tg, q1, q2, q3⟩ | ⟨q1, q2⟩
      · have hj : j < ts'.length := (List.getElem?_eq_some_iff.mp q1).1
        have hxi : x.toInt = v + (j : Int) := by
          rw [q2]
          exact Int32.toInt_ofInt_of_le (by omega) (by omega)
        have hof : (offs.toList.map (fun o => (pc : Int) + o))[j]? = some (tg : Int) := by
          rw [g3, List.getElem?_map, q1]
          rfl
        rw [List.getElem?_map] at hof
        cases ho : offs.toList[j]? with
        | none => rw [ho] at hof; cases hof
        | some o =>
          rw [ho] at hof
          refine lv_tableIn (off := o) (tgt := tg) hx hb hd (by omega) (by omega) ?_ (Option.some.inj hof) (hK _ _ _ _ _ _ _ q3 hl (tail hst) hP)
          rw [show (x.toInt - v).toNat = j by omega, ← Array.getElem?_toList]
          exact ho
      · refine lv_tableOut (tgt := d) hx hb hd ?_ g1 (hK _ _ _ _ _ _ _ q2 hl (tail hst) hP)
        rcases Int.lt_or_le x.toInt v with z | z
        · exact Or.inl z
        · rcases Int.lt_or_le w x.toInt with z2 | z2
          · exact Or.inr z2
          · exact absurd (by rw [show v + ((x.toInt - v).toNat : Int) = x.toInt by omega, Int32.ofInt_toInt]) (q1 (x.toInt - v).toNat (by omega))
    · cases h2
  case getfield i =>
    rw [hnx] at h
    simp only [zm_ex] at h
    split at h
    · next q r => exact zs_gf hx hb hown hts hG hK0 hF (hst (.inr q) List.mem_cons_self) h hP hd (fun v hv hk => hK _ _ _ _ _ _ _ hk hl (push hv (tail hst)) hP)
    · cases h
  case putfield i =>
    rw [hnx] at h
    simp only [zm_ex] at h
    split at h
    · next x q r => exact zs_pf hx hb hown hts hG hK0 hF (hst (.inr q) (List.mem_cons_of_mem _ List.mem_cons_self)) h hP hd (fun M' H' locs' hk hP' => hK _ _ _ _ _ _ _ hk hl (tail (tail hst)) hP')
    · cases h
  case getstatic i =>
    rw [hnx] at h
    simp only [zm_ex] at h
    split at h
    · next q hq =>
      obtain ⟨hv, C, n, d, hz, hlk⟩ := hZ i q hq
      have k1 := hK _ _ _ _ _ _ _ h hl (push (v := .inr q) hv hst) hP
      rcases hlk with h1 | ⟨host, h1⟩
      · exact va_gets hx hb hz hP.2 hown (hts _ h1) (fun _ h => h) hd k1
      · exact va_getsN hx hb hz hP.2 hown (hts _ h1) (fun _ h => h) hd k1
    · cases h
  case arraylength =>
    rw [hnx] at h
    simp only [zm_ex] at h
    split at h
    · next q r =>
      split at h
      · cases h
      · next hk => exact zs_ln hx hb hG hK0 (hst (.inr q) List.mem_cons_self) (fun z => hk z) (fun z => hT q z) hP hd (hK _ _ _ _ _ _ _ h hl (push trivial (tail hst)) hP)
    · cases h
  case iaload =>
    rw [hnx] at h
    simp only [zm_ex] at h
    split at h
    · next i q r =>
      have hq := hst (.inr q) (List.mem_cons_of_mem _ List.mem_cons_self)
      split at h
      · next hk =>
        split at h
        · cases h
        · next hin => exact zs_il hx hb hG hK0 hq hk hin hP hd (hK _ _ _ _ _ _ _ h hl (push trivial (tail (tail hst))) hP)
      · next hk =>
        split at h
        · cases h
        · next hin => exact va_ti hx hb (hT q hk) hP.2 hin rfl hd (hK _ _ _ _ _ _ _ h hl (push trivial (tail (tail hst))) hP)
      · cases h
    · cases h
  case baload =>
    rw [hnx] at h
    simp only [zm_ex] at h
    split at h
    · next i q r =>
      have hq := hst (.inr q) (List.mem_cons_of_mem _ List.mem_cons_self)
      split at h
      · next hk =>
        split at h
        · cases h
        · next hin => exact zs_bl hx hb hG hK0 hq hk hin hP hd (hK _ _ _ _ _ _ _ h hl (push trivial (tail (tail hst))) hP)
      · cases h
    · cases h
  case aaload =>
    rw [hnx] at h
    simp only [zm_ex] at h
    split at h
    · next i q r =>
      have hq : zy_ok Y q := hst (.inr q) (List.mem_cons_of_mem _ List.mem_cons_self)
      split at h
      · next hk =>
        split at h
        · cases h
        · next hin =>
          have hdm := zs_dom hq hk (by decide)
          have hlt : i.toNatClampNeg < zy_n Y q.1 := Nat.not_le.mp fun z => hin (Or.inr z)
          exact zs_al hx hb hG hK0 hq hk hin hP hd (hK _ _ _ _ _ _ _ h hl (push (v := .inr _) (hG.2.2.2.2.2.2.2.1 q.1 q.2 _ hdm.1 hdm.2 hk hlt) (tail (tail hst))) hP)
      · cases h
    · cases h
  case iastore =>
    rw [hnx] at h
    simp only [zm_ex] at h
    split at h
    · next x i q r =>
      have hq : zy_ok Y q := hst (.inr q) (List.mem_cons_of_mem _ (List.mem_cons_of_mem _ List.mem_cons_self))
      split at h
      · next hk =>
        split at h
        · cases h
        · next hin => exact zs_is hx hb hG hK0 hq hk hin hP hd (fun H' locs' hP' => hK _ _ _ _ _ _ _ h hl (tail (tail (tail hst))) hP')
      · cases h
    · cases h
  case bastore =>
    rw [hnx] at h
    simp only [zm_ex] at h
    split at h
    · next x i q r =>
      have hq : zy_ok Y q := hst (.inr q) (List.mem_cons_of_mem _ (List.mem_cons_of_mem _ List.mem_cons_self))
      split at h
      · next hk =>
        split at h
        · cases h
        · next hin => exact zs_bs hx hb hG hK0 hq hk hin hP hd (fun H' locs' hP' => hK _ _ _ _ _ _ _ h hl (tail (tail (tail hst))) hP')
      · cases h
    · cases h
  case invokevirtual i =>
    rw [hnx] at h
    exact hI (2 * i + 1) i pc ls st M H locs _ (Or.inl ⟨rfl, rfl⟩) hd hl.2.1 hst hP T t _ h (fun st' M' H' locs' hk hs' hP' => hK _ _ _ _ _ _ _ hk hl hs' hP')
  case invokestatic i =>
    rw [hnx] at h
    exact hI (2 * i) i pc ls st M H locs _ (Or.inr ⟨rfl, rfl⟩) hd hl.2.1 hst hP T t _ h (fun st' M' H' locs' hk hs' hP' => hK _ _ _ _ _ _ _ hk hl hs' hP')
  case ireturn =>
    simp only [zm_ex] at h
    split at h
    · next x => exact hR (some (.inl x)) M H locs pc ls h (fun w hw => by cases hw; trivial) hP hd
    · cases h
  case areturn =>
    simp only [zm_ex] at h
    split at h
    · next x => exact hR (some (.inr x)) M H locs pc ls h (fun w hw => by cases hw; exact hst _ List.mem_cons_self) hP hd
    · cases h
  case return_ =>
    simp only [zm_ex] at h
    split at h
    · exact hR none M H locs pc ls h (fun w hw => by cases hw) hP hd
    · cases h
  all_goals exact nomatch (show (none : Option T) = some t from h)
set_option maxHeartbeats 4000000 in
theorem zm_go_ok {X : zm_X} (hx : p.tables.exec = Jvm.exec) (hb : c.code = cc) (hown : s.vm.findClass own = some m.cls) (hts : ∀ w ∈ Ts, w.before args s = true) (hG : zg_ok Y cl tys ad cA A) (hK0 : va_K D cl tys s) (hF : zf_ok Y cl Ts own X.1)
    (hC : ∀ i v, X.2.1 i = some v → Cond.constant own i v ∈ Ts) (hT : ∀ r, zy_k Y r.1 = 4 → va_T .int (ad r) (zy_n Y r.1) (fun j => .int (zy_t Y r.1 j)) A s s.heap)
    (hZ : ∀ i q, X.2.2.1 i = some q → zy_ok Y q ∧ ∃ C n d, va_Z C n d (.ref (ad q)) A s s.heap ∧ (Cond.fieldLink own i C n d ∈ Ts ∨ ∃ host, Cond.fieldLinkNest own i C n d host ∈ Ts))
    (hI : ∀ i, zi_ok p l e R s m args below meth c cells slots Q cc nL D cl A ad cA Y i (X.2.2.2 i))
    {T : Type} {t : T} {ret : Option zm_V → zm_M → Option T} {back : Nat → zm_L → List zm_V → zm_M → Option T}
    (hR : ∀ v M' H' locs' pc' ls', ret v M' = some t → (∀ w ∈ v, zv_ok Y w) → zs_at D cl Y ad cA A s.heap M' H' locs' → decode cc pc' = .ok (zm_rt v, 1) → W p l e R s m args below meth c H' locs' cells slots Q (F0 m pc' ls' (v.toList.map (zc_v ad))))
    (hB : ∀ pc' lo' st' M' H' locs' ls', back pc' lo' st' M' = some t → zl_ok Y ad ls' nL lo' → (∀ v ∈ st', zv_ok Y v) → zs_at D cl Y ad cA A s.heap M' H' locs' → W p l e R s m args below meth c H' locs' cells slots Q (F0 m pc' ls' (st'.map (zc_v ad)))) :
    ∀ (code : zm_C), (∀ q ∈ code, zm_en cc q) → ∀ pc lo st M H locs ls, zm_go Y X ret back code pc lo st M = some t → zl_ok Y ad ls nL lo → (∀ v ∈ st, zv_ok Y v) → zs_at D cl Y ad cA A s.heap M H locs → W p l e R s m args below meth c H locs cells slots Q (F0 m pc ls (st.map (zc_v ad)))
  | [], _, pc, lo, st, M, H, locs, ls, h, _, _, _ => by cases h
  | (q, ins, nx, ts) :: code, hen, pc, lo, st, M, H, locs, ls, h, hl, hst, hP => by
    have ih := zm_go_ok hx hb hown hts hG hK0 hF hC hT hZ hI hR hB code (fun q hq => hen q (List.mem_cons_of_mem _ hq))
    unfold zm_go at h
    split at h
    · next hq =>
      have hq' : q = pc := Nat.eq_of_beq_eq_true hq
      subst hq'
      refine zm_ex_ok hx hb hown hts hG hK0 hF hC hT hZ hI hR ?_ (hen _ List.mem_cons_self) hl hst hP h
      intro pc' lo' st' M' H' locs' ls' h' hl' hst' hP'
      split at h'
      · exact hB _ _ _ _ _ _ _ h' hl' hst' hP'
      · exact ih _ _ _ _ _ _ _ h' hl' hst' hP'
    · exact ih _ _ _ _ _ _ _ h hl hst hP
set_option maxHeartbeats 4000000 in
theorem zm_rn_ok {X : zm_X} (hx : p.tables.exec = Jvm.exec) (hb : c.code = cc) (hown : s.vm.findClass own = some m.cls) (hts : ∀ w ∈ Ts, w.before args s = true) (hG : zg_ok Y cl tys ad cA A) (hK0 : va_K D cl tys s) (hF : zf_ok Y cl Ts own X.1)
    (hC : ∀ i v, X.2.1 i = some v → Cond.constant own i v ∈ Ts) (hT : ∀ r, zy_k Y r.1 = 4 → va_T .int (ad r) (zy_n Y r.1) (fun j => .int (zy_t Y r.1 j)) A s s.heap)
    (hZ : ∀ i q, X.2.2.1 i = some q → zy_ok Y q ∧ ∃ C n d, va_Z C n d (.ref (ad q)) A s s.heap ∧ (Cond.fieldLink own i C n d ∈ Ts ∨ ∃ host, Cond.fieldLinkNest own i C n d host ∈ Ts))
    (hI : ∀ i, zi_ok p l e R s m args below meth c cells slots Q cc nL D cl A ad cA Y i (X.2.2.2 i))
    {T : Type} {t : T} {ret : Option zm_V → zm_M → Option T}
    (hR : ∀ v M' H' locs' pc' ls', ret v M' = some t → (∀ w ∈ v, zv_ok Y w) → zs_at D cl Y ad cA A s.heap M' H' locs' → decode cc pc' = .ok (zm_rt v, 1) → W p l e R s m args below meth c H' locs' cells slots Q (F0 m pc' ls' (v.toList.map (zc_v ad))))
    {code : zm_C} (hen : ∀ q ∈ code, zm_en cc q) : ∀ (n pc : Nat) (lo : zm_L) (st : List zm_V) (M : zm_M) (H : Heap) (locs : List Loc) (ls : Array Slot), zm_rn Y X ret code n pc lo st M = some t → zl_ok Y ad ls nL lo → (∀ v ∈ st, zv_ok Y v) → zs_at D cl Y ad cA A s.heap M H locs → W p l e R s m args below meth c H locs cells slots Q (F0 m pc ls (st.map (zc_v ad)))
  | 0, pc, lo, st, M, H, locs, ls, h, _, _, _ => by cases h
  | n + 1, pc, lo, st, M, H, locs, ls, h, hl, hst, hP => zm_go_ok hx hb hown hts hG hK0 hF hC hT hZ hI hR (fun pc' lo' st' M' H' locs' ls' h' hl' hst' hP' => zm_rn_ok hx hb hown hts hG hK0 hF hC hT hZ hI hR hen n pc' lo' st' M' H' locs' ls' h' hl' hst' hP') code hen pc lo st M H locs ls h hl hst hP
end ZU
end
section
/-! CONTRACTS of methods that the abstract machine runs -/
def zk_rm (d : Nat × Nat) : Room := { frames := d.1, cells := 0, slots := 0, locals := d.2 }
abbrev zk_Zs : Type := List (String × String × String × (Nat × Nat))
def zk_cs (Y : zm_Y) (Zs : zk_Zs) (ad : Nat × Nat → Nat) (A : Nat → Prop) (U : State) (H : Heap) : Prop := (∀ r : Nat × Nat, zy_k Y r.1 = 4 → va_T .int (ad r) (zy_n Y r.1) (fun j => .int (zy_t Y r.1 j)) A U H) ∧ ∀ z ∈ Zs, va_Z z.1 z.2.1 z.2.2.1 (.ref (ad z.2.2.2)) A U H
theorem zk_cs.moved {Y : zm_Y} {Zs : zk_Zs} {ad : Nat × Nat → Nat} {A : Nat → Prop} {u U : State} {H : Heap} (hvm : u.vm.Alike U.vm) (h : zk_cs Y Zs ad A u H) : zk_cs Y Zs ad A U H := ⟨fun r hr => (h.1 r hr).moved hvm, fun z hz => (h.2 z hz).moved hvm⟩
theorem zk_cs.kept {Y : zm_Y} {Zs : zk_Zs} {ad : Nat × Nat → Nat} {A : Nat → Prop} {U : State} {H H1 : Heap} (h : zk_cs Y Zs ad A U H) (hq : ∀ a : Nat, a < H.size → ¬ A a → H1[a]? = H[a]?) : zk_cs Y Zs ad A U H1 := ⟨fun r hr => (h.1 r hr).kept hq, fun z hz => (h.2 z hz).kept hq⟩
def zk_nw (w : Cond) : Bool := match w with
  | .fieldLinkNest _ _ _ _ _ _ => true
  | .methodLinkNest _ _ _ _ => true
  | w => w.onTables && w.keeps
def zk_tb (Ts : List Cond) (U : State) : Prop := ∀ w ∈ Ts, va_Nw w U
theorem zk_tb.warm {Ts : List Cond} (hT : ∀ w ∈ Ts, zk_nw w = true) {s U : State} (hW : s.WarmedH U.vm) (h : zk_tb Ts s) : zk_tb Ts U := by
  intro w hw
  have h1 := hT w hw
  have h2 := h w hw
  unfold zk_nw at h1
  split at h1
  · exact va_Nw.warmF hW h2
  · exact va_Nw.warmM hW h2
  · exact word_at hW (Or.inl h1) h2
theorem zk_tb.use {Ts : List Cond} (hT : ∀ w ∈ Ts, zk_nw w = true) {s : State} (args : Array Value) (h : zk_tb Ts s) : ∀ w ∈ Ts, w.before args s = true := by
  intro w hw
  have h1 := hT w hw
  have h2 := h w hw
  unfold zk_nw at h1
  split at h1
  · exact va_Nw.use rfl h2
  · exact va_Nw.use rfl h2
  · exact va_Nw.use (Bool.and_eq_true _ _ ▸ h1 : _ ∧ _).1 h2
def zk_pr (Ts : List Cond) (Y : zm_Y) (cl : List vw_C) (Zs : zk_Zs) (D : va_G) (tys : List (ClassId × FieldType)) (ad : Nat × Nat → Nat) (cA : Nat → ClassId) (A : Nat → Prop) (M : zm_M) (U : State) : Prop := va_P D cl (zc_w Y ad cA M) U.heap ∧ va_K D cl tys U ∧ zk_cs Y Zs ad A U U.heap ∧ zk_tb Ts U
def zk_po (Y : zm_Y) (cl : List vw_C) (D : va_G) (ad : Nat × Nat → Nat) (cA : Nat → ClassId) (A : Nat → Prop) (v : Option zm_V) (M : zm_M) : Array Value → State → Outcome → State → Prop := fun _ st oc t => oc = .returned (v.map (zc_v ad)) ∧ (∀ w ∈ v, zv_ok Y w) ∧ va_P D cl (zc_w Y ad cA M) t.heap ∧ va_F A st t
def zk_me (Ts : List Cond) (Y : zm_Y) (cl : List vw_C) (Zs : zk_Zs) (l : Launch) (d : Nat × Nat) (y : MethodName) (cc : ByteArray) (maxL : Nat) (ret : Option FieldType) {T : Type} (out : T → Option zm_V × zm_M) (F : List zm_V → zm_M → Option T) : Prop :=
  ∀ (D : va_G) (tys : List (ClassId × FieldType)) (ad : Nat × Nat → Nat) (cA : Nat → ClassId) (A : Nat → Prop), zg_ok Y cl tys ad cA A → ∀ (av : List zm_V) (M : zm_M) (t : T), (∀ v ∈ av, zv_ok Y v) → F av M = some t →
    Met l y [Cond.code y cc maxL ret] (zk_rm d) (va_Pc (av.map (zc_v ad)) (zk_pr Ts Y cl Zs D tys ad cA A M)) (zk_po Y cl D ad cA A (out t).1 (out t).2) 0 0 A
def zi_al (Ts : List Cond) (Y : zm_Y) (cl : List vw_C) (Zs : zk_Zs) (l : Launch) (d : Nat × Nat) (own : String) (cc : ByteArray) (nL : Nat) (i : Nat) (F : Option zm_F) : Prop :=
  ∀ (p : Program) (e : Env) (s : State) (m : MethodId) (args : Array Value) (below : List Frame) (meth : Method) (c : Code) (Q : State → Prop) (D : va_G) (tys : List (ClassId × FieldType)) (ad : Nat × Nat → Nat) (cA : Nat → ClassId) (A : Nat → Prop), CallFix p m c cc nL s args Ts own → zg_ok Y cl tys ad cA A → va_K D cl tys s → zk_cs Y Zs ad A s s.heap → zk_tb Ts s →
    zi_ok p l e (zk_rm d) s m args below meth c 0 0 Q cc nL D cl A ad cA Y i F
/-- how a method ends -/
def zr_ok (ret : Option FieldType) {T : Type} (rt : Option zm_V → zm_M → Option T) (out : T → Option zm_V × zm_M) : Prop := ∀ v M t, rt v M = some t → out t = (v, M) ∧ ((ret = none ∧ v = none) ∨ (ret = some .int ∧ ∃ x, v = some (.inl x)) ∨ (ret = some .boolean ∧ ∃ x, v = some (.inl x) ∧ (x = 0 ∨ x = 1)) ∨ (∃ C, ret = some (.object C) ∧ ∃ r, v = some (.inr r)))
def zr_i (v : Option zm_V) (M : zm_M) : Option (Int32 × zm_M) := match v with
  | some (.inl x) => some (x, M)
  | _ => none
def zr_z (v : Option zm_V) (M : zm_M) : Option (Int32 × zm_M) := match v with
  | some (.inl x) => if x = 0 ∨ x = 1 then some (x, M) else none
  | _ => none
def zr_v (v : Option zm_V) (M : zm_M) : Option zm_M := match v with
  | none => some M
  | _ => none
def zr_r (v : Option zm_V) (M : zm_M) : Option ((Nat × Nat) × zm_M) := match v with
  | some (.inr r) => some (r, M)
  | _ => none
def zo_i (t : Int32 × zm_M) : Option zm_V × zm_M := (some (.inl t.1), t.2)
def zo_v (M : zm_M) : Option zm_V × zm_M := (none, M)
def zo_r (t : (Nat × Nat) × zm_M) : Option zm_V × zm_M := (some (.inr t.1), t.2)
theorem zr_i_ok : zr_ok (some .int) zr_i zo_i := by
  intro v M t h
  unfold zr_i at h
  split at h
  · cases h; exact ⟨rfl, Or.inr (Or.inl ⟨rfl, _, rfl⟩)⟩
  · cases h
theorem zr_z_ok : zr_ok (some .boolean) zr_z zo_i := by
  intro v M t h
  unfold zr_z at h
  split at h
  · split at h
    · next hx => cases h; exact ⟨rfl, Or.inr (Or.inr (Or.inl ⟨rfl, _, rfl, hx⟩))⟩
    · cases h
  · cases h
theorem zr_v_ok : zr_ok none zr_v zo_v := by
  intro v M t h
  unfold zr_v at h
  split at h
  · cases h; exact ⟨rfl, Or.inl ⟨rfl, rfl⟩⟩
  · cases h
theorem zr_r_ok (C : String) : zr_ok (some (.object C)) zr_r zo_r := by
  intro v M t h
  unfold zr_r at h
  split at h
  · cases h; exact ⟨rfl, Or.inr (Or.inr (Or.inr ⟨C, rfl, _, rfl⟩))⟩
  · cases h
def zm_lo (av : List zm_V) (nL : Nat) : zm_L := av.map some ++ List.replicate (nL - av.length) none
theorem zk_ar (ad : Nat × Nat → Nat) : ∀ (av : List zm_V) (k i : Nat) (v : zm_V), av[i]? = some v → (k + i, zc_v ad v) ∈ lv_args k (av.map (zc_v ad))
  | [], k, i, v, h => by simp at h
  | a :: av, k, 0, v, h => by
    simp at h
    subst h
    exact List.mem_cons_self
  | a :: av, k, i + 1, v, h => by
    have h1 : av[i]? = some v := by simpa using h
    have h2 := zk_ar ad av (k + 1) i v h1
    refine List.mem_cons_of_mem _ ?_
    rw [zc_v_cat, if_neg (by decide)]
    rw [show k + (i + 1) = k + 1 + i by omega]
    exact h2
theorem zk_sl (ad : Nat × Nat → Nat) (av : List zm_V) : (lg_sl (av.map (zc_v ad))).length = av.length := by
  induction av with
  | nil => rfl
  | cons a av ih =>
    unfold lg_sl at ih ⊢
    rw [List.map_cons, List.flatMap_cons, List.length_append, ih, zc_v_cat, if_neg (by decide)]
    simp [Nat.add_comm]
theorem zk_en {Y : zm_Y} {ad : Nat × Nat → Nat} {av : List zm_V} {nL : Nat} (hle : av.length ≤ nL) (hv : ∀ v ∈ av, zv_ok Y v) {ls : Array Slot} (h : lv_has ls nL (lv_args 0 (av.map (zc_v ad)))) : zl_ok Y ad ls nL (zm_lo av nL) := by
  refine ⟨by simp [zm_lo]; omega, h.1, h.2.1, fun i v hi => ?_⟩
  have hlt : i < av.length := by
    rcases Nat.lt_or_ge i av.length with q | q
    · exact q
    · unfold zm_lo at hi
      rw [List.getElem?_append_right (by simpa using q)] at hi
      have := List.mem_of_getElem? hi
      simp at this
  unfold zm_lo at hi
  rw [List.getElem?_append_left (by simpa using hlt), List.getElem?_map] at hi
  cases ha : av[i]? with
  | none => rw [ha] at hi; cases hi
  | some w =>
    rw [ha] at hi
    cases hi
    have h2 := zk_ar ad av 0 i v ha
    rw [Nat.zero_add] at h2
    exact ⟨h.2.2 _ h2, hv v (List.mem_of_getElem? ha)⟩
set_option maxHeartbeats 4000000 in
theorem zk_run {Ts : List Cond} {Y : zm_Y} {cl : List vw_C} {Zs : zk_Zs} {l : Launch} {d : Nat × Nat} {y : MethodName} {cc : ByteArray} {maxL : Nat} {ret : Option FieldType} {T : Type} {out : T → Option zm_V × zm_M} {rt : Option zm_V → zm_M → Option T} {code : zm_C} {X : zm_X} {F : List zm_V → zm_M → Option T} (N : Nat)
    (hTs : ∀ w ∈ Ts, zk_nw w = true) (hy : plainName y.cls = true) (hen : ∀ q ∈ code, zm_en cc q) (hF : zf_ok Y cl Ts y.cls X.1) (hC : ∀ i v, X.2.1 i = some v → Cond.constant y.cls i v ∈ Ts)
    (hZ : ∀ i q, X.2.2.1 i = some q → zy_ok Y q ∧ ∃ C n d, (C, n, d, q) ∈ Zs ∧ (Cond.fieldLink y.cls i C n d ∈ Ts ∨ ∃ host, Cond.fieldLinkNest y.cls i C n d host ∈ Ts))
    (hI : ∀ i, zi_al Ts Y cl Zs l d y.cls cc maxL i (X.2.2.2 i)) (hr : zr_ok ret rt out) (hFe : ∀ av M t, F av M = some t → av.length ≤ maxL ∧ zm_rn Y X rt code N 0 (zm_lo av maxL) [] M = some t) : zk_me Ts Y cl Zs l d y cc maxL ret out F := by
  intro D tys ad cA A hG av M t hv hF0
  obtain ⟨hle, hrun⟩ := hFe av M t hF0
  refine Met.ofW (cc := cc) (maxL := maxL) (ret := ret) hy rfl ?_
  intro p e s m args below meth c s₁ B hml hpre
  obtain ⟨rfl, hP, hK, hcs, htb⟩ := hpre
  have hx := B.exec
  have hb := B.bytes
  have hrt := B.returns
  have hlocks := B.notSynchronized
  have hown : s.vm.findClass y.cls = some m.cls := findClass_of_methodNamed B.named
  have hts := zk_tb.use hTs (av.map (zc_v ad)).toArray htb
  have hl := lv_entry (av.map (zc_v ad)) (n := maxL) (by rw [zk_sl]; exact hle)
  rw [lg_entry_eq]
  generalize (lg_sl (av.map (zc_v ad)) ++ List.replicate (maxL - (lg_sl (av.map (zc_v ad))).length) Slot.unset).toArray = ls at hl ⊢
  refine zm_rn_ok (nL := maxL) (t := t) hx hb hown hts hG hK hF hC hcs.1 (fun i q hq => ?_) (fun i => hI i p e s m _ below meth c _ D tys ad cA A ⟨hx, hb, hml, hown, hts⟩ hG hK hcs htb) ?_ hen N 0 (zm_lo av maxL) [] M s.heap [] ls hrun (zk_en hle hv hl) (fun v hv => by cases hv) ⟨hP, va_S.rf⟩
  · obtain ⟨h1, C, n, d', h2, h3⟩ := hZ i q hq
    exact ⟨h1, C, n, d', hcs.2 _ h2, h3⟩
  · intro v M' H' locs' pc' ls' hrv hvv hP' hdc
    obtain ⟨hout, hcase⟩ := hr v M' t hrv
    have hq : ∀ t' : State, t'.heap = H' → s.WarmedH t'.vm → zk_po Y cl D ad cA A (out t).1 (out t).2 (av.map (zc_v ad)).toArray s (.returned (v.map (zc_v ad))) t' := fun t' ht _ => by
      rw [hout]
      exact ⟨rfl, hvv, by rw [ht]; exact hP'.1, hP'.2.F ht⟩
    rcases hcase with ⟨h1, rfl⟩ | ⟨h1, x, rfl⟩ | ⟨h1, x, rfl, hx01⟩ | ⟨C, h1, r, rfl⟩
    · exact W.vret hx hb (hrt.trans h1) hq hP'.2.2.2 hdc
    · exact W.iret hx hb (hrt.trans h1) hq hP'.2.2.2 hdc
    · exact W.zret hx hb (hrt.trans h1) (by rcases hx01 with rfl | rfl <;> rfl) hq hP'.2.2.2 hdc
    · exact W.aret hx hb (hrt.trans h1) (Or.inl ⟨C, rfl⟩) (Or.inr ⟨_, rfl⟩) hq hP'.2.2.2 hdc
end
section
/-! CALLS: a contract gives the rule of a call -/
def zl_up {α : Type} : List (Nat × α) → Nat → Option α
  | [], _ => none
  | (j, a) :: L, i => match Nat.beq j i with
    | true => some a
    | false => zl_up L i
theorem zl_up_mem {α : Type} : ∀ {L : List (Nat × α)} {i : Nat} {a : α}, zl_up L i = some a → (i, a) ∈ L
  | [], i, a, h => by cases h
  | (j, b) :: L, i, a, h => by
    unfold zl_up at h
    split at h
    · next hj =>
      cases h
      rw [Nat.eq_of_beq_eq_true hj]
      exact List.mem_cons_self
    · exact List.mem_cons_of_mem _ (zl_up_mem h)
/-- a method of n arguments; an instance method's receiver is of class ci -/
def zm_fs {T : Type} (n : Nat) (F : List zm_V → zm_M → Option T) (av : List zm_V) (M : zm_M) : Option T := match Nat.beq av.length n with
  | true => F av M
  | false => none
def zm_fv {T : Type} (Y : zm_Y) (ci n : Nat) (F : List zm_V → zm_M → Option T) (av : List zm_V) (M : zm_M) : Option T := match av with
  | .inr r :: as => match Nat.beq as.length n && (Nat.beq (zy_k Y r.1) 0 && Nat.beq (zy_c Y r.1) ci) with
    | true => F (.inr r :: as) M
    | false => none
  | _ => none
theorem zm_fs_spec {T : Type} {n : Nat} {F : List zm_V → zm_M → Option T} {av : List zm_V} {M : zm_M} {t : T} (h : zm_fs n F av M = some t) : av.length = n ∧ F av M = some t := by
  unfold zm_fs at h
  split at h
  · next hn => exact ⟨Nat.eq_of_beq_eq_true hn, h⟩
  · cases h
theorem zm_fv_spec {T : Type} {Y : zm_Y} {ci n : Nat} {F : List zm_V → zm_M → Option T} {av : List zm_V} {M : zm_M} {t : T} (h : zm_fv Y ci n F av M = some t) : ∃ r as, av = .inr r :: as ∧ as.length = n ∧ zy_k Y r.1 = 0 ∧ zy_c Y r.1 = ci ∧ F av M = some t := by
  unfold zm_fv at h
  split at h
  · next r as =>
    split at h
    · next hc =>
      rw [Bool.and_eq_true, Bool.and_eq_true, Nat.beq_eq, Nat.beq_eq, Nat.beq_eq] at hc
      exact ⟨r, as, rfl, hc.1, hc.2.1, hc.2.2, h⟩
    · cases h
  · cases h
section ZC
variable {p : Program} {l : Launch} {e : Env} {R : Room} {s : State} {m : MethodId} {args : Array Value} {below : List Frame} {meth : Method} {c : Code} {H : Heap} {locs : List Loc} {Q : State → Prop}
variable {cc : ByteArray} {pc nL : Nat} {ls : Array Slot} {rest st0 : List Value} {D : va_G} {cl : List vw_C} {tys : List (ClassId × FieldType)} {A : Nat → Prop} {ad : Nat × Nat → Nat} {cA : Nat → ClassId} {Y : zm_Y} {own : String} {Ts : List Cond} {M : zm_M} {Zs : zk_Zs}
theorem zk_call {v : Option zm_V} {M' : zm_M} {a : Array Value} (hr : va_Run p l e R s m args below meth c H locs 0 0 0 0 (F0 m pc ls st0) rest (zk_po Y cl D ad cA A v M' a) A) (hS : va_S A s.heap H locs)
    (kk : ∀ H1 locs1, (∀ w ∈ v, zv_ok Y w) → zs_at D cl Y ad cA A s.heap M' H1 locs1 → W p l e R s m args below meth c H1 locs1 0 0 Q (F0 m (pc + 3) ls ((v.map (zc_v ad)).toList ++ rest))) : W p l e R s m args below meth c H locs 0 0 Q (F0 m pc ls st0) := by
  intro T hT X
  obtain ⟨v', st₀, t, T', L, h0, X', hL, e1, e2, ⟨hv, hvv, hP', hz, hk⟩, st⟩ := hr T hT X
  cases hv
  rw [h0] at hz hk
  obtain ⟨t2, a1, b1⟩ := kk T'.heap (locs ++ L) hvv ⟨by rw [e1]; exact hP', Nat.le_trans hS.1 (by rw [e1]; exact hz), fun q h1 h2 => by rw [e1, hk q (Nat.lt_of_lt_of_le h1 hS.1) h2]; exact hS.2.1 q h1 h2, fun q hq => by
      rcases List.mem_append.mp hq with h | h
      · exact hS.2.2 q h
      · exact hL q h⟩ T' rfl X'
  exact ⟨t2, st t2 a1, b1⟩
theorem zk_blind (hTs : ∀ w ∈ Ts, zk_nw w = true) (av : List Value) : FrameBlind (va_Pc av (zk_pr Ts Y cl Zs D tys ad cA A M)) := by
  intro a U g mk h
  obtain ⟨h0, h1, h2, h3, h4⟩ := h
  refine ⟨h0, h1, va_K.moved (u := U) (U := U.calling g mk a) (Vm.Alike.refl U.vm) h2, zk_cs.moved (u := U) (U := U.calling g mk a) (Vm.Alike.refl U.vm) h3, fun w hw => ?_⟩
  have hw1 := hTs w hw
  have ho : w.onTables = true := by
    unfold zk_nw at hw1
    split at hw1
    · rfl
    · rfl
    · exact (Bool.and_eq_true _ _ ▸ hw1 : _ ∧ _).1
  exact va_Nw.same ho (rfl : U.vm = (U.calling g mk a).vm) (h4 w hw)
theorem zk_pre (hTs : ∀ w ∈ Ts, zk_nw w = true) (hK : va_K D cl tys s) (hcs : zk_cs Y Zs ad A s s.heap) (htb : zk_tb Ts s) (hP : zs_at D cl Y ad cA A s.heap M H locs) {U : State} (hU : U.heap = H) (hW : s.WarmedH U.vm) : zk_pr Ts Y cl Zs D tys ad cA A M U := by
  refine ⟨by rw [hU]; exact hP.1, va_K.moved hW.alike hK, ?_, zk_tb.warm hTs hW htb⟩
  rw [hU]
  exact (hcs.moved hW.alike).kept hP.2.2.1
theorem zk_sum (ad : Nat × Nat → Nat) (st : List zm_V) : ((st.map (zc_v ad)).map fun v => v.category).sum = st.length := by
  induction st with
  | nil => rfl
  | cons a st ih => simp only [List.map_cons, List.sum_cons, ih, zc_v_cat, List.length_cons]; omega
/-- what a call's rule is for, before the kinds of answers part -/
def zj_ok (p : Program) (l : Launch) (e : Env) (R : Room) (s : State) (m : MethodId) (args : Array Value) (below : List Frame) (meth : Method) (c : Code) (Q : State → Prop) (cc : ByteArray) (nL : Nat) (D : va_G) (cl : List vw_C) (A : Nat → Prop) (ad : Nat × Nat → Nat) (cA : Nat → ClassId) (Y : zm_Y) (key n : Nat) {T : Type} (out : T → Option zm_V × zm_M) (f : List zm_V → zm_M → Option T) : Prop :=
  ∀ (i pc : Nat) (ls : Array Slot) (av rs : List zm_V) (M : zm_M) (H : Heap) (locs : List Loc) (ins : Jvm.ClassFile.Instr) (q : T), ((key = 2 * i + 1 ∧ ins = .invokevirtual i) ∨ (key = 2 * i ∧ ins = .invokestatic i)) → decode cc pc = .ok (ins, 3) → ls.size = nL → (∀ v ∈ av, zv_ok Y v) → rs.length ≤ 8 → av.length = n → zs_at D cl Y ad cA A s.heap M H locs → f av M = some q →
    (∀ (H' : Heap) (locs' : List Loc), (∀ w ∈ (out q).1, zv_ok Y w) → zs_at D cl Y ad cA A s.heap (out q).2 H' locs' → W p l e R s m args below meth c H' locs' 0 0 Q (F0 m (pc + 3) ls (((out q).1.toList ++ rs).map (zc_v ad)))) →
    W p l e R s m args below meth c H locs 0 0 Q (F0 m pc ls ((av.reverse ++ rs).map (zc_v ad)))
theorem zj_split {st : List zm_V} {n : Nat} (h : n ≤ st.length) : (st.take n).reverse.reverse ++ st.drop n = st ∧ (st.take n).reverse.length = n := by
  rw [List.reverse_reverse, List.take_append_drop, List.length_reverse, List.length_take]
  exact ⟨rfl, by omega⟩
theorem zj_i {i n : Nat} {f : List zm_V → zm_M → Option (Int32 × zm_M)} (h : zj_ok p l e R s m args below meth c Q cc nL D cl A ad cA Y i n zo_i f) : zi_ok p l e R s m args below meth c 0 0 Q cc nL D cl A ad cA Y i (some (n, .inl f)) := by
  intro ix pc ls st M H locs ins hi hd hls hst hP T t K hk kk
  unfold zm_iv at hk
  dsimp only at hk
  split at hk
  · next hc =>
    rw [Bool.and_eq_true] at hc
    have h1 := Nat.le_of_ble_eq_true hc.1
    have h2 := Nat.le_of_ble_eq_true hc.2
    obtain ⟨q, hq, hk⟩ := Option.bind_eq_some_iff.mp hk
    obtain ⟨e1, e2⟩ := zj_split h1
    have := h ix pc ls (st.take n).reverse (st.drop n) M H locs ins q hi hd hls (fun v hv => hst v (List.mem_of_mem_take (List.mem_reverse.mp hv))) (by rw [List.length_drop]; omega) e2 hP hq (fun H' locs' _ hP' => kk _ _ H' locs' hk (fun v hv => by
      rcases List.mem_cons.mp hv with rfl | hv
      · exact trivial
      · exact hst v (List.mem_of_mem_drop hv)) hP')
    rw [e1] at this
    exact this
  · cases hk
theorem zj_v {i n : Nat} {f : List zm_V → zm_M → Option zm_M} (h : zj_ok p l e R s m args below meth c Q cc nL D cl A ad cA Y i n zo_v f) : zi_ok p l e R s m args below meth c 0 0 Q cc nL D cl A ad cA Y i (some (n, .inr (.inl f))) := by
  intro ix pc ls st M H locs ins hi hd hls hst hP T t K hk kk
  unfold zm_iv at hk
  dsimp only at hk
  split at hk
  · next hc =>
    rw [Bool.and_eq_true] at hc
    have h1 := Nat.le_of_ble_eq_true hc.1
    have h2 := Nat.le_of_ble_eq_true hc.2
    obtain ⟨q, hq, hk⟩ := Option.bind_eq_some_iff.mp hk
    obtain ⟨e1, e2⟩ := zj_split h1
    have := h ix pc ls (st.take n).reverse (st.drop n) M H locs ins q hi hd hls (fun v hv => hst v (List.mem_of_mem_take (List.mem_reverse.mp hv))) (by rw [List.length_drop]; omega) e2 hP hq (fun H' locs' _ hP' => kk _ _ H' locs' hk (fun v hv => hst v (List.mem_of_mem_drop hv)) hP')
    rw [e1] at this
    exact this
  · cases hk
theorem zj_r {i n : Nat} {f : List zm_V → zm_M → Option ((Nat × Nat) × zm_M)} (h : zj_ok p l e R s m args below meth c Q cc nL D cl A ad cA Y i n zo_r f) : zi_ok p l e R s m args below meth c 0 0 Q cc nL D cl A ad cA Y i (some (n, .inr (.inr f))) := by
  intro ix pc ls st M H locs ins hi hd hls hst hP T t K hk kk
  unfold zm_iv at hk
  dsimp only at hk
  split at hk
  · next hc =>
    rw [Bool.and_eq_true] at hc
    have h1 := Nat.le_of_ble_eq_true hc.1
    have h2 := Nat.le_of_ble_eq_true hc.2
    obtain ⟨q, hq, hk⟩ := Option.bind_eq_some_iff.mp hk
    obtain ⟨e1, e2⟩ := zj_split h1
    have := h ix pc ls (st.take n).reverse (st.drop n) M H locs ins q hi hd hls (fun v hv => hst v (List.mem_of_mem_take (List.mem_reverse.mp hv))) (by rw [List.length_drop]; omega) e2 hP hq (fun H' locs' hv' hP' => kk _ _ H' locs' hk (fun v hv => by
      rcases List.mem_cons.mp hv with rfl | hv
      · exact hv' _ rfl
      · exact hst v (List.mem_of_mem_drop hv)) hP')
    rw [e1] at this
    exact this
  · cases hk
end ZC
end
section
section ZD
variable {l : Launch} {cc : ByteArray} {nL : Nat} {cl : List vw_C} {Y : zm_Y} {own : String} {Ts : List Cond} {Zs : zk_Zs} {d d' : Nat × Nat} {y : MethodName} {cy : ByteArray} {maxL : Nat} {ret : Option FieldType} {T : Type} {out : T → Option zm_V × zm_M} {f F : List zm_V → zm_M → Option T} {i n ci : Nat}
/-- a rule of a call that holds in every frame of the caller -/
def zj_al (Ts : List Cond) (Y : zm_Y) (cl : List vw_C) (Zs : zk_Zs) (l : Launch) (d : Nat × Nat) (own : String) (cc : ByteArray) (nL : Nat) (i n : Nat) {T : Type} (out : T → Option zm_V × zm_M) (f : List zm_V → zm_M → Option T) : Prop :=
  ∀ (p : Program) (e : Env) (s : State) (m : MethodId) (args : Array Value) (below : List Frame) (meth : Method) (c : Code) (Q : State → Prop) (D : va_G) (tys : List (ClassId × FieldType)) (ad : Nat × Nat → Nat) (cA : Nat → ClassId) (A : Nat → Prop), CallFix p m c cc nL s args Ts own → zg_ok Y cl tys ad cA A → va_K D cl tys s → zk_cs Y Zs ad A s s.heap → zk_tb Ts s →
    zj_ok p l e (zk_rm d) s m args below meth c Q cc nL D cl A ad cA Y i n out f
theorem zj_al_i {f : List zm_V → zm_M → Option (Int32 × zm_M)} (h : zj_al Ts Y cl Zs l d own cc nL i n zo_i f) : zi_al Ts Y cl Zs l d own cc nL i (some (n, .inl f)) :=
  fun p e s m args below meth c Q D tys ad cA A a1 a2 a3 a4 a5 => zj_i (h p e s m args below meth c Q D tys ad cA A a1 a2 a3 a4 a5)
theorem zj_al_v {f : List zm_V → zm_M → Option zm_M} (h : zj_al Ts Y cl Zs l d own cc nL i n zo_v f) : zi_al Ts Y cl Zs l d own cc nL i (some (n, .inr (.inl f))) :=
  fun p e s m args below meth c Q D tys ad cA A a1 a2 a3 a4 a5 => zj_v (h p e s m args below meth c Q D tys ad cA A a1 a2 a3 a4 a5)
theorem zj_al_r {f : List zm_V → zm_M → Option ((Nat × Nat) × zm_M)} (h : zj_al Ts Y cl Zs l d own cc nL i n zo_r f) : zi_al Ts Y cl Zs l d own cc nL i (some (n, .inr (.inr f))) :=
  fun p e s m args below meth c Q D tys ad cA A a1 a2 a3 a4 a5 => zj_r (h p e s m args below meth c Q D tys ad cA A a1 a2 a3 a4 a5)
theorem zi_al_none : zi_al Ts Y cl Zs l d own cc nL i none := by
  intro p e s m args below meth c Q D tys ad cA A a1 a2 a3 a4 a5 ix pc ls st M H locs ins hi hd hls hst hP T t K hk kk
  cases hk
theorem zi_al_up {L : List (Nat × zm_F)} (h : ∀ q ∈ L, zi_al Ts Y cl Zs l d own cc nL q.1 (some q.2)) (i : Nat) : zi_al Ts Y cl Zs l d own cc nL i (zl_up L i) := by
  cases hu : zl_up L i with
  | none => exact zi_al_none
  | some a => exact h (i, a) (zl_up_mem hu)
/-- what a call needs of the callee's name -/
def zn_ok (y : MethodName) (n : Nat) : Prop := y.cls ≠ "java/lang/invoke/MethodHandle" ∧ y.cls ≠ "java/lang/invoke/VarHandle" ∧ (parseMethodDescriptor y.desc).map (fun d => d.parameters.length) = some n
theorem zk_good (hTs : ∀ w ∈ Ts, zk_nw w = true) (hc : Cond.code y cy maxL ret ∈ Ts) : GoodIn Ts [Cond.code y cy maxL ret] := by
  intro w hw
  rw [List.mem_singleton] at hw
  subst hw
  exact ⟨hc, Or.inl (hTs _ hc)⟩
theorem zk_rec {s : State} {H : Heap} {D : va_G} {tys : List (ClassId × FieldType)} {ad : Nat × Nat → Nat} {cA : Nat → ClassId} {A : Nat → Prop} {M : zm_M} {locs : List Loc} {H0 : Heap} (hG : zg_ok Y cl tys ad cA A) (hK : va_K D cl tys s) (hP : zs_at D cl Y ad cA A H0 M H locs) {r : Nat × Nat} (hr : zy_ok Y r) (hk : zy_k Y r.1 = 0) (hc : zy_c Y r.1 = ci) {C : String} (hC : (cl[ci]?).map (fun q => q.1) = some C) : ∃ cell : Cell, H[ad r]? = some cell ∧ cell.vm.isStatics = false ∧ s.vm.findClass C = some cell.cls := by
  have hdm := zs_dom hr hk (by decide)
  obtain ⟨q0, hq0⟩ := zc_at (ad := ad) (cA := cA) (M := M) (zy_d_mem.mpr hdm)
  have he : zc_e Y ad cA M r = .inr (ci, (List.range (zy_n Y r.1)).map fun k => match zy_r Y r.1 r.2 k with
      | none => .int (M r.1 r.2 k)
      | some q => .ref (ad q)) := by
    unfold zc_e
    rw [hk, hc]
    rfl
  rw [he] at hq0
  cases hcl : cl[ci]? with
  | none => rw [hcl] at hC; cases hC
  | some q =>
    rw [hcl] at hC
    cases hC
    exact va_recv hK hP.1 hcl hq0
/-- an instance method of the same class or a package mate's -/
theorem zj_V (hTs : ∀ w ∈ Ts, zk_nw w = true) (hM : zk_me Ts Y cl Zs l d' y cy maxL ret out (zm_fv Y ci n F)) (hl : Cond.methodLink own i y ∈ Ts) (hi : Cond.instanceMethod y ∈ Ts) (hs : Cond.selects y.cls y y ∈ Ts) (hin : Cond.initialized y.cls ∈ Ts) (hc : Cond.code y cy maxL ret ∈ Ts) (hC : (cl[ci]?).map (fun q => q.1) = some y.cls) (hn : zn_ok y n) (hR : d'.1 + 1 ≤ d.1 ∧ 8 + (maxL + 11) + d'.2 ≤ d.2) : zj_al Ts Y cl Zs l d own cc nL (2 * i + 1) (n + 1) out (zm_fv Y ci n F) := by
  intro p e s m args below meth c Q D tys ad cA A S hG hK hcs htb ix pc ls av rs M H locs ins q hins hd hls hv hrs hav hP hf kk
  obtain ⟨r, as, rfl, hasn, hk0, hkc, hf'⟩ := zm_fv_spec hf
  have hr : zy_ok Y r := hv (.inr r) List.mem_cons_self
  have hcb : CallB (zk_rm d) s args own i y cy maxL ret [Cond.code y cy maxL ret] (zk_rm d') 0 0 n := callB_of n S.2.2.2.2 (zk_good hTs hc) rfl rfl rfl (S.2.2.2.2 _ hin) (S.2.2.2.2 _ hl) hn hR
  have hM' := hM D tys ad cA A hG (.inr r :: as) M q hv hf
  rcases hins with ⟨hix, rfl⟩ | ⟨hix, rfl⟩
  · obtain rfl : ix = i := by omega
    have hst : ((.inr r :: as).reverse ++ rs).map (zc_v ad) = (as.map (zc_v ad)).reverse ++ .ref (ad r) :: rs.map (zc_v ad) := by simp [zc_v]
    rw [hst]
    refine zk_call (va_runV (As := as.map (zc_v ad)) (b := ad r) (rest := rs.map (zc_v ad)) (C := y.cls) S hM' ⟨hcb, S.2.2.2.2 _ hi, S.2.2.2.2 _ hs⟩ ⟨zk_blind hTs _, zk_rec hG hK hP hr hk0 hkc hC, fun U hU hW => ⟨rfl, zk_pre hTs hK hcs htb hP hU hW⟩⟩ rfl (by rw [List.length_map]; exact hasn) hls rfl (lv_room (by rw [zk_sum]; exact hrs)) hd ⟨Nat.zero_le _, Nat.zero_le _⟩) hP.2 (fun H1 locs1 hvv hP1 => ?_)
    have := kk H1 locs1 hvv hP1
    rw [List.map_append] at this
    cases ho : (out q).1 with
    | none => rw [ho] at this; exact this
    | some w => rw [ho] at this; exact this
  · omega
/-- a nest mate's instance method -/
theorem zj_VN (hTs : ∀ w ∈ Ts, zk_nw w = true) {host : String} (hM : zk_me Ts Y cl Zs l d' y cy maxL ret out (zm_fv Y ci n F)) (hl : Cond.methodLinkNest own i y host ∈ Ts) (hi : Cond.instanceMethod y ∈ Ts) (hs : Cond.selects y.cls y y ∈ Ts) (hin : Cond.initialized y.cls ∈ Ts) (hc : Cond.code y cy maxL ret ∈ Ts) (hC : (cl[ci]?).map (fun q => q.1) = some y.cls) (hn : zn_ok y n) (hR : d'.1 + 1 ≤ d.1 ∧ 8 + (maxL + 11) + d'.2 ≤ d.2) : zj_al Ts Y cl Zs l d own cc nL (2 * i + 1) (n + 1) out (zm_fv Y ci n F) := by
  intro p e s m args below meth c Q D tys ad cA A S hG hK hcs htb ix pc ls av rs M H locs ins q hins hd hls hv hrs hav hP hf kk
  obtain ⟨r, as, rfl, hasn, hk0, hkc, hf'⟩ := zm_fv_spec hf
  have hr : zy_ok Y r := hv (.inr r) List.mem_cons_self
  have hM' := hM D tys ad cA A hG (.inr r :: as) M q hv hf
  rcases hins with ⟨hix, rfl⟩ | ⟨hix, rfl⟩
  · obtain rfl : ix = i := by omega
    have hst : ((.inr r :: as).reverse ++ rs).map (zc_v ad) = (as.map (zc_v ad)).reverse ++ .ref (ad r) :: rs.map (zc_v ad) := by simp [zc_v]
    rw [hst]
    refine zk_call (va_runVN (As := as.map (zc_v ad)) (b := ad r) (rest := rs.map (zc_v ad)) (C := y.cls) S hM' ⟨va_cnB (R := zk_rm d) (rm := zk_rm d') n S.2.2.2.2 (zk_good hTs hc) rfl rfl rfl (htb _ hl) (S.2.2.2.2 _ hin) hn hR, S.2.2.2.2 _ hi, S.2.2.2.2 _ hs⟩ ⟨zk_blind hTs _, zk_rec hG hK hP hr hk0 hkc hC, fun U hU hW => ⟨rfl, zk_pre hTs hK hcs htb hP hU hW⟩⟩ rfl (by rw [List.length_map]; exact hasn) hls rfl (lv_room (by rw [zk_sum]; exact hrs)) hd ⟨Nat.zero_le _, Nat.zero_le _⟩) hP.2 (fun H1 locs1 hvv hP1 => ?_)
    have := kk H1 locs1 hvv hP1
    rw [List.map_append] at this
    cases ho : (out q).1 with
    | none => rw [ho] at this; exact this
    | some w => rw [ho] at this; exact this
  · omega
/-- a static method -/
theorem zj_S (hTs : ∀ w ∈ Ts, zk_nw w = true) (hM : zk_me Ts Y cl Zs l d' y cy maxL ret out (zm_fs n F)) (hl : Cond.methodLink own i y ∈ Ts) (hi : Cond.static y ∈ Ts) (hin : Cond.initialized y.cls ∈ Ts) (hc : Cond.code y cy maxL ret ∈ Ts) (hn : zn_ok y n) (hR : d'.1 + 1 ≤ d.1 ∧ 8 + (maxL + 11) + d'.2 ≤ d.2) : zj_al Ts Y cl Zs l d own cc nL (2 * i) n out (zm_fs n F) := by
  intro p e s m args below meth c Q D tys ad cA A S hG hK hcs htb ix pc ls av rs M H locs ins q hins hd hls hv hrs hav hP hf kk
  have hcb : CallB (zk_rm d) s args own i y cy maxL ret [Cond.code y cy maxL ret] (zk_rm d') 0 0 n := callB_of n S.2.2.2.2 (zk_good hTs hc) rfl rfl rfl (S.2.2.2.2 _ hin) (S.2.2.2.2 _ hl) hn hR
  have hM' := hM D tys ad cA A hG av M q hv hf
  rcases hins with ⟨hix, rfl⟩ | ⟨hix, rfl⟩
  · omega
  · obtain rfl : ix = i := by omega
    have hst : (av.reverse ++ rs).map (zc_v ad) = (av.map (zc_v ad)).reverse ++ rs.map (zc_v ad) := by simp
    rw [hst]
    refine zk_call (va_runS (As := av.map (zc_v ad)) (rest := rs.map (zc_v ad)) S hM' ⟨hcb, S.2.2.2.2 _ hi⟩ ⟨zk_blind hTs _, fun U hU hW => ⟨rfl, zk_pre hTs hK hcs htb hP hU hW⟩⟩ rfl (by rw [List.length_map]; exact hav) hls rfl (lv_room (by rw [zk_sum]; exact hrs)) hd ⟨Nat.zero_le _, Nat.zero_le _⟩) hP.2 (fun H1 locs1 hvv hP1 => ?_)
    have := kk H1 locs1 hvv hP1
    rw [List.map_append] at this
    cases ho : (out q).1 with
    | none => rw [ho] at this; exact this
    | some w => rw [ho] at this; exact this
/-- a nest mate's static method -/
theorem zj_SN (hTs : ∀ w ∈ Ts, zk_nw w = true) {host : String} (hM : zk_me Ts Y cl Zs l d' y cy maxL ret out (zm_fs n F)) (hl : Cond.methodLinkNest own i y host ∈ Ts) (hi : Cond.static y ∈ Ts) (hin : Cond.initialized y.cls ∈ Ts) (hc : Cond.code y cy maxL ret ∈ Ts) (hn : zn_ok y n) (hR : d'.1 + 1 ≤ d.1 ∧ 8 + (maxL + 11) + d'.2 ≤ d.2) : zj_al Ts Y cl Zs l d own cc nL (2 * i) n out (zm_fs n F) := by
  intro p e s m args below meth c Q D tys ad cA A S hG hK hcs htb ix pc ls av rs M H locs ins q hins hd hls hv hrs hav hP hf kk
  have hM' := hM D tys ad cA A hG av M q hv hf
  rcases hins with ⟨hix, rfl⟩ | ⟨hix, rfl⟩
  · omega
  · obtain rfl : ix = i := by omega
    have hst : (av.reverse ++ rs).map (zc_v ad) = (av.map (zc_v ad)).reverse ++ rs.map (zc_v ad) := by simp
    rw [hst]
    refine zk_call (va_runSN (As := av.map (zc_v ad)) (rest := rs.map (zc_v ad)) S hM' ⟨va_cnB (R := zk_rm d) (rm := zk_rm d') n S.2.2.2.2 (zk_good hTs hc) rfl rfl rfl (htb _ hl) (S.2.2.2.2 _ hin) hn hR, S.2.2.2.2 _ hi, trivial⟩ ⟨zk_blind hTs _, fun U hU hW => ⟨rfl, zk_pre hTs hK hcs htb hP hU hW⟩⟩ rfl (by rw [List.length_map]; exact hav) hls rfl (lv_room (by rw [zk_sum]; exact hrs)) hd ⟨Nat.zero_le _, Nat.zero_le _⟩) hP.2 (fun H1 locs1 hvv hP1 => ?_)
    have := kk H1 locs1 hvv hP1
    rw [List.map_append] at this
    cases ho : (out q).1 with
    | none => rw [ho] at this; exact this
    | some w => rw [ho] at this; exact this
end ZD
/-! System.arraycopy between arrays of ints -/
def zm_ac (Y : zm_Y) (av : List zm_V) (M : zm_M) : Option zm_M := match av with
  | [.inr a, .inl sp, .inr b, .inl dp, .inl n] => match Nat.beq (zy_k Y a.1) 1 && Nat.beq (zy_k Y b.1) 1 with
    | true => if sp < 0 ∨ dp < 0 ∨ n < 0 ∨ zy_n Y a.1 < sp.toNatClampNeg + n.toNatClampNeg ∨ zy_n Y b.1 < dp.toNatClampNeg + n.toNatClampNeg then none else some (zm_ua M b.1 b.2 (va_cpy (M a.1 a.2) (M b.1 b.2) sp.toNatClampNeg dp.toNatClampNeg n.toNatClampNeg))
    | false => none
  | _ => none
theorem zc_e_na {Y : zm_Y} {ad : Nat × Nat → Nat} {cA : Nat → ClassId} {M : zm_M} {r x : Nat × Nat} {g : Nat → Int32} (h : x ≠ r) : zc_e Y ad cA (zm_ua M r.1 r.2 g) x = zc_e Y ad cA M x := by
  have hf : zm_ua M r.1 r.2 g x.1 x.2 = M x.1 x.2 := funext fun k => by
    unfold zm_ua
    by_cases h1 : x.1 = r.1
    · by_cases h2 : x.2 = r.2
      · exact absurd (Prod.ext h1 h2) h
      · simp [h2]
    · simp [h1]
  unfold zc_e
  rw [hf]
theorem zj_ac {l : Launch} {cc : ByteArray} {nL : Nat} {cl : List vw_C} {Y : zm_Y} {own : String} {Ts : List Cond} {Zs : zk_Zs} {d : Nat × Nat} {i : Nat} (hl : Cond.methodLink own i arraycopyName ∈ Ts) (hna : Cond.native arraycopyName ∈ Ts) (hi : Cond.static arraycopyName ∈ Ts) (hin : Cond.initialized "java/lang/System" ∈ Ts) (hR : 1 ≤ d.1 ∧ 26 ≤ d.2) : zj_al Ts Y cl Zs l d own cc nL (2 * i) 5 zo_v (zm_ac Y) := by
  intro p e s m args below meth c Q D tys ad cA A S hG hK hcs htb ix pc ls av rs M H locs ins q hins hd hls hv hrs hav hP hf kk
  rcases hins with ⟨hix, rfl⟩ | ⟨hix, rfl⟩
  · omega
  · obtain rfl : ix = i := by omega
    unfold zm_ac at hf
    split at hf
    · next a sp b dp n =>
      split at hf
      · next hc =>
        rw [Bool.and_eq_true, Nat.beq_eq, Nat.beq_eq] at hc
        split at hf
        · cases hf
        · next hb =>
          simp only [not_or] at hb
          obtain ⟨b1, b2, b3, b4, b5⟩ := hb
          cases hf
          have ha := zs_dom (hv (.inr a) List.mem_cons_self) hc.1 (by decide)
          have hbd := zs_dom (hv (.inr b) (by simp)) hc.2 (by decide)
          obtain ⟨q0, hq0⟩ := zc_at (ad := ad) (cA := cA) (M := M) (zy_d_mem.mpr ha)
          obtain ⟨q1, hq1⟩ := zc_at (ad := ad) (cA := cA) (M := M) (zy_d_mem.mpr hbd)
          have hq1' := hq1
          rw [zs_arr (Or.inl hc.1)] at hq0
          rw [zs_arr (Or.inl hc.2)] at hq1'
          obtain ⟨t0, ht0⟩ := hG.2.2.1 a.1 ha.1 hc.1
          obtain ⟨t1, ht1⟩ := hG.2.2.1 b.1 hbd.1 hc.2
          have hst : (([.inr a, .inl sp, .inr b, .inl dp, .inl n] : List zm_V).reverse ++ rs).map (zc_v ad) = .int n :: .int dp :: .ref (ad b) :: .int sp :: .ref (ad a) :: rs.map (zc_v ad) := by simp [zc_v]
          rw [hst]
          refine va_copyi S.1 S.2.1 (S.2.2.1.trans hls.symm) S.2.2.2.1 (S.2.2.2.2 _ hl) (S.2.2.2.2 _ hna) (S.2.2.2.2 _ hi) (S.2.2.2.2 _ hin) hK hP.1 (hG.1 M) hP.2 q0 q1 t0 t1 hq0 hq1' ht0 ht1 rfl b1 b2 b3 (by omega) (by omega) (fun _ _ => rfl) hR.1 ?_ hd (fun H1 locs1 h1 h2 h3 => ?_)
          · rw [zk_sum]
            have : nativeFrameWords "java/lang/System" "arraycopy" 5 + 11 = 18 := by decide +kernel
            rw [this]
            exact Nat.le_trans (by omega) hR.2
          · refine kk H1 locs1 (fun w hw => by cases hw) ⟨?_, h3⟩
            have hws := zc_set (M' := zm_ua M b.1 b.2 (va_cpy (M a.1 a.2) (M b.1 b.2) sp.toNatClampNeg dp.toNatClampNeg n.toNatClampNeg)) (hG.1 M) hG.2.1 (zy_d_mem.mpr hbd) hq1 (fun y hy => zc_e_na hy)
            rw [zs_arr (Or.inl hc.2)] at hws
            have he : zm_ua M b.1 b.2 (va_cpy (M a.1 a.2) (M b.1 b.2) sp.toNatClampNeg dp.toNatClampNeg n.toNatClampNeg) b.1 b.2 = va_cpy (M a.1 a.2) (M b.1 b.2) sp.toNatClampNeg dp.toNatClampNeg n.toNatClampNeg := by
              funext k
              unfold zm_ua
              rw [if_pos rfl, if_pos rfl]
            rw [he] at hws
            show va_P D cl (zc_w Y ad cA (zm_ua M b.1 b.2 _)) H1
            rw [← hws]
            exact h1
      · cases hf
    · cases hf
/-! Math.max, Math.min, Math.abs -/
def zm_mx (av : List zm_V) (M : zm_M) : Option (Int32 × zm_M) := match av with
  | [.inl x, .inl y] => some (if x < y then y else x, M)
  | _ => none
def zm_mn (av : List zm_V) (M : zm_M) : Option (Int32 × zm_M) := match av with
  | [.inl x, .inl y] => some (if y < x then y else x, M)
  | _ => none
def zm_ab (av : List zm_V) (M : zm_M) : Option (Int32 × zm_M) := match av with
  | [.inl x] => some (if 0 ≤ x then x else 0 - x, M)
  | _ => none
section ZM
variable {l : Launch} {cc : ByteArray} {nL : Nat} {cl : List vw_C} {Y : zm_Y} {own : String} {Ts : List Cond} {Zs : zk_Zs} {d : Nat × Nat} {i : Nat}
theorem zj_mx (hl : Cond.methodLink own i Lib.Math.max.name ∈ Ts) (hi : Cond.static Lib.Math.max.name ∈ Ts) (hin : Cond.initialized "java/lang/Math" ∈ Ts) (hc : Cond.code Lib.Math.max.name Lib.Math.max.code 2 (some .int) ∈ Ts) (hR : 1 ≤ d.1 ∧ 21 ≤ d.2) : zj_al Ts Y cl Zs l d own cc nL (2 * i) 2 zo_i zm_mx := by
  intro p e s m args below meth c Q D tys ad cA A S hG hK hcs htb ix pc ls av rs M H locs ins q hins hd hls hv hrs hav hP hf kk
  rcases hins with ⟨hix, rfl⟩ | ⟨hix, rfl⟩
  · omega
  · obtain rfl : ix = i := by omega
    unfold zm_mx at hf
    split at hf
    · next x y =>
      cases hf
      have hst : (([.inl x, .inl y] : List zm_V).reverse ++ rs).map (zc_v ad) = .int y :: .int x :: rs.map (zc_v ad) := by simp [zc_v]
      rw [hst]
      exact va_mmax S.1 S.2.1 (S.2.2.1.trans hls.symm) S.2.2.2.1 (S.2.2.2.2 _ hl) (S.2.2.2.2 _ hi) (S.2.2.2.2 _ hin) (S.2.2.2.2 _ hc) hR.1 (by rw [zk_sum]; exact Nat.le_trans (by omega) hR.2) (Nat.zero_le _) (Nat.zero_le _) hd (kk H locs (fun w hw => by cases hw; trivial) hP)
    · cases hf
theorem zj_mn (hl : Cond.methodLink own i Lib.Math.min.name ∈ Ts) (hi : Cond.static Lib.Math.min.name ∈ Ts) (hin : Cond.initialized "java/lang/Math" ∈ Ts) (hc : Cond.code Lib.Math.min.name Lib.Math.min.code 2 (some .int) ∈ Ts) (hR : 1 ≤ d.1 ∧ 21 ≤ d.2) : zj_al Ts Y cl Zs l d own cc nL (2 * i) 2 zo_i zm_mn := by
  intro p e s m args below meth c Q D tys ad cA A S hG hK hcs htb ix pc ls av rs M H locs ins q hins hd hls hv hrs hav hP hf kk
  rcases hins with ⟨hix, rfl⟩ | ⟨hix, rfl⟩
  · omega
  · obtain rfl : ix = i := by omega
    unfold zm_mn at hf
    split at hf
    · next x y =>
      cases hf
      have hst : (([.inl x, .inl y] : List zm_V).reverse ++ rs).map (zc_v ad) = .int y :: .int x :: rs.map (zc_v ad) := by simp [zc_v]
      rw [hst]
      exact va_mmin S.1 S.2.1 (S.2.2.1.trans hls.symm) S.2.2.2.1 (S.2.2.2.2 _ hl) (S.2.2.2.2 _ hi) (S.2.2.2.2 _ hin) (S.2.2.2.2 _ hc) hR.1 (by rw [zk_sum]; exact Nat.le_trans (by omega) hR.2) (Nat.zero_le _) (Nat.zero_le _) hd (kk H locs (fun w hw => by cases hw; trivial) hP)
    · cases hf
theorem zj_ab (hl : Cond.methodLink own i Lib.Math.abs.name ∈ Ts) (hi : Cond.static Lib.Math.abs.name ∈ Ts) (hin : Cond.initialized "java/lang/Math" ∈ Ts) (hc : Cond.code Lib.Math.abs.name Lib.Math.abs.code 1 (some .int) ∈ Ts) (hR : 1 ≤ d.1 ∧ 21 ≤ d.2) : zj_al Ts Y cl Zs l d own cc nL (2 * i) 1 zo_i zm_ab := by
  intro p e s m args below meth c Q D tys ad cA A S hG hK hcs htb ix pc ls av rs M H locs ins q hins hd hls hv hrs hav hP hf kk
  rcases hins with ⟨hix, rfl⟩ | ⟨hix, rfl⟩
  · omega
  · obtain rfl : ix = i := by omega
    unfold zm_ab at hf
    split at hf
    · next x =>
      cases hf
      have hst : (([.inl x] : List zm_V).reverse ++ rs).map (zc_v ad) = .int x :: rs.map (zc_v ad) := by simp [zc_v]
      rw [hst]
      exact va_mabs S.1 S.2.1 (S.2.2.1.trans hls.symm) S.2.2.2.1 (S.2.2.2.2 _ hl) (S.2.2.2.2 _ hi) (S.2.2.2.2 _ hin) (S.2.2.2.2 _ hc) hR.1 (by rw [zk_sum]; exact Nat.le_trans (by omega) hR.2) (Nat.zero_le _) (Nat.zero_le _) hd (kk H locs (fun w hw => by cases hw; trivial) hP)
    · cases hf
end ZM
end
section
/-! the words of the tables that go with a call; the classes; the layout of the store (written by wip/whole/gen3.py) -/
def zt_Ts : List Cond := lw_tbl.filter zk_nw
theorem zt_ok : ∀ w ∈ zt_Ts, zk_nw w = true := fun w h => (List.mem_filter.mp h).2
theorem zt_m {w : Cond} (i : Nat) (h : lw_tbl[i]? = some w) (h2 : zk_nw w = true) : w ∈ zt_Ts := List.mem_filter.mpr ⟨List.mem_of_getElem? h, h2⟩
def zm_eb (cc : ByteArray) (q : Nat × Jvm.ClassFile.Instr × Nat × List Nat) : Bool := decide (decode cc q.1 = .ok (q.2.1, zm_ln q.1 q.2.1)) && (decide (q.2.2.1 = q.1 + zm_ln q.1 q.2.1) && zm_tg q.1 q.2.2.2 q.2.1)
theorem zm_eb_ok {cc : ByteArray} {code : zm_C} (h : code.all (zm_eb cc) = true) : ∀ q ∈ code, zm_en cc q := by
  intro q hq
  have h1 := List.all_eq_true.mp h q hq
  unfold zm_eb at h1
  rw [Bool.and_eq_true, Bool.and_eq_true] at h1
  exact ⟨of_decide_eq_true h1.1, of_decide_eq_true h1.2.1, h1.2.2⟩
def zn_at {α : Type} : List α → Nat → α → α
  | [], _, d => d
  | a :: _, 0, _ => a
  | _ :: L, n + 1, d => zn_at L n d
def rn_fa : String := "MapForge$Family"
def tn_fa : u_T := fun k => match k with
  | 0 => ("MapForge$Family", "above", "[I", true)
  | 1 => ("MapForge$Family", "face", "[Z", true)
  | _ => ("MapForge$Family", "line", "[I", true)
def ty_fa : Nat → FieldType := fun k => match k with
  | 0 => .array .int
  | 1 => .array .boolean
  | _ => .array .int
def rn_pr : String := "MapForge$Program"
def tn_pr : u_T := fun k => match k with
  | 0 => ("MapForge$Program", "own", "I", false)
  | 1 => ("MapForge$Program", "mode", "I", false)
  | 2 => ("MapForge$Program", "gives", "Z", false)
  | 3 => ("MapForge$Program", "arguments", "[I", true)
  | 4 => ("MapForge$Program", "argumentCount", "I", false)
  | 5 => ("MapForge$Program", "ops", "[I", true)
  | 6 => ("MapForge$Program", "as", "[I", true)
  | 7 => ("MapForge$Program", "bs", "[I", true)
  | 8 => ("MapForge$Program", "offsets", "[I", true)
  | 9 => ("MapForge$Program", "size", "I", false)
  | 10 => ("MapForge$Program", "from", "[I", true)
  | 11 => ("MapForge$Program", "to", "[I", true)
  | 12 => ("MapForge$Program", "at", "[I", true)
  | 13 => ("MapForge$Program", "caught", "[I", true)
  | _ => ("MapForge$Program", "handlers", "I", false)
def ty_pr : Nat → FieldType := fun k => match k with
  | 0 => .int
  | 1 => .int
  | 2 => .boolean
  | 3 => .array .int
  | 4 => .int
  | 5 => .array .int
  | 6 => .array .int
  | 7 => .array .int
  | 8 => .array .int
  | 9 => .int
  | 10 => .array .int
  | 11 => .array .int
  | 12 => .array .int
  | 13 => .array .int
  | _ => .int
def rn_by : String := "MapForge$Bytes"
def tn_by : u_T := fun k => match k with
  | 0 => ("MapForge$Bytes", "cells", "[I", true)
  | _ => ("MapForge$Bytes", "size", "I", false)
def ty_by : Nat → FieldType := fun k => match k with
  | 0 => .array .int
  | _ => .int
def rn_ma : String := "MapForge$Machine"
def tn_ma : u_T := fun k => match k with
  | 0 => ("MapForge$Machine", "family", "LMapForge$Family;", true)
  | _ => ("MapForge$Machine", "program", "LMapForge$Program;", true)
def ty_ma : Nat → FieldType := fun k => match k with
  | 0 => .object "MapForge$Family"
  | _ => .object "MapForge$Program"
def rn_fr : String := "MapForge$Frame"
def tn_fr : u_T := fun k => match k with
  | 0 => ("MapForge$Frame", "locals", "[I", true)
  | 1 => ("MapForge$Frame", "stack", "[I", true)
  | 2 => ("MapForge$Frame", "depth", "I", false)
  | 3 => ("MapForge$Frame", "slots", "I", false)
  | _ => ("MapForge$Frame", "raw", "Z", false)
def ty_fr : Nat → FieldType := fun k => match k with
  | 0 => .array .int
  | 1 => .array .int
  | 2 => .int
  | 3 => .int
  | _ => .boolean
def rn_fl : String := "MapForge$Flow"
def tn_fl : u_T := fun k => match k with
  | 0 => ("MapForge$Flow", "family", "LMapForge$Family;", true)
  | 1 => ("MapForge$Flow", "program", "LMapForge$Program;", true)
  | 2 => ("MapForge$Flow", "machine", "LMapForge$Machine;", true)
  | 3 => ("MapForge$Flow", "frames", "[LMapForge$Frame;", true)
  | 4 => ("MapForge$Flow", "rowHere", "[Z", true)
  | 5 => ("MapForge$Flow", "reached", "[Z", true)
  | 6 => ("MapForge$Flow", "waiting", "[Z", true)
  | 7 => ("MapForge$Flow", "work", "LMapForge$Frame;", true)
  | 8 => ("MapForge$Flow", "known", "Z", false)
  | _ => ("MapForge$Flow", "right", "Z", false)
def ty_fl : Nat → FieldType := fun k => match k with
  | 0 => .object "MapForge$Family"
  | 1 => .object "MapForge$Program"
  | 2 => .object "MapForge$Machine"
  | 3 => .array (.object "MapForge$Frame")
  | 4 => .array .boolean
  | 5 => .array .boolean
  | 6 => .array .boolean
  | 7 => .object "MapForge$Frame"
  | 8 => .boolean
  | _ => .boolean
def rn_tl : String := "MapForge$TypeList"
def tn_tl : u_T := fun k => match k with
  | 0 => ("MapForge$TypeList", "types", "[I", true)
  | 1 => ("MapForge$TypeList", "size", "I", false)
  | _ => ("MapForge$TypeList", "width", "I", false)
def ty_tl : Nat → FieldType := fun k => match k with
  | 0 => .array .int
  | 1 => .int
  | _ => .int
def rn_wr : String := "MapForge$Writer"
def tn_wr : u_T := fun k => match k with
  | 0 => ("MapForge$Writer", "program", "LMapForge$Program;", true)
  | 1 => ("MapForge$Writer", "flow", "LMapForge$Flow;", true)
  | 2 => ("MapForge$Writer", "first", "LMapForge$Frame;", true)
  | 3 => ("MapForge$Writer", "before", "LMapForge$TypeList;", true)
  | 4 => ("MapForge$Writer", "list", "LMapForge$TypeList;", true)
  | _ => ("MapForge$Writer", "written", "LMapForge$Bytes;", true)
def ty_wr : Nat → FieldType := fun k => match k with
  | 0 => .object "MapForge$Program"
  | 1 => .object "MapForge$Flow"
  | 2 => .object "MapForge$Frame"
  | 3 => .object "MapForge$TypeList"
  | 4 => .object "MapForge$TypeList"
  | _ => .object "MapForge$Bytes"
def rn_re : String := "MapForge$Reader"
def tn_re : u_T := fun k => match k with
  | 0 => ("MapForge$Reader", "program", "LMapForge$Program;", true)
  | 1 => ("MapForge$Reader", "bytes", "LMapForge$Bytes;", true)
  | 2 => ("MapForge$Reader", "first", "LMapForge$Frame;", true)
  | 3 => ("MapForge$Reader", "list", "LMapForge$TypeList;", true)
  | 4 => ("MapForge$Reader", "frames", "[LMapForge$Frame;", true)
  | 5 => ("MapForge$Reader", "offsets", "[I", true)
  | 6 => ("MapForge$Reader", "firstBytes", "[I", true)
  | 7 => ("MapForge$Reader", "rowAt", "[I", true)
  | 8 => ("MapForge$Reader", "rows", "I", false)
  | 9 => ("MapForge$Reader", "known", "Z", false)
  | 10 => ("MapForge$Reader", "sound", "Z", false)
  | _ => ("MapForge$Reader", "next", "I", false)
def ty_re : Nat → FieldType := fun k => match k with
  | 0 => .object "MapForge$Program"
  | 1 => .object "MapForge$Bytes"
  | 2 => .object "MapForge$Frame"
  | 3 => .object "MapForge$TypeList"
  | 4 => .array (.object "MapForge$Frame")
  | 5 => .array .int
  | 6 => .array .int
  | 7 => .array .int
  | 8 => .int
  | 9 => .boolean
  | 10 => .boolean
  | _ => .int
def rn_ck : String := "MapForge$Checker"
def tn_ck : u_T := fun k => match k with
  | 0 => ("MapForge$Checker", "family", "LMapForge$Family;", true)
  | 1 => ("MapForge$Checker", "program", "LMapForge$Program;", true)
  | 2 => ("MapForge$Checker", "machine", "LMapForge$Machine;", true)
  | 3 => ("MapForge$Checker", "reader", "LMapForge$Reader;", true)
  | 4 => ("MapForge$Checker", "now", "LMapForge$Frame;", true)
  | _ => ("MapForge$Checker", "thrown", "LMapForge$Frame;", true)
def ty_ck : Nat → FieldType := fun k => match k with
  | 0 => .object "MapForge$Family"
  | 1 => .object "MapForge$Program"
  | 2 => .object "MapForge$Machine"
  | 3 => .object "MapForge$Reader"
  | 4 => .object "MapForge$Frame"
  | _ => .object "MapForge$Frame"
def rn_mf : String := "MapForge"
def tn_mf : u_T := fun k => match k with
  | 0 => ("MapForge", "family", "LMapForge$Family;", true)
  | 1 => ("MapForge", "program", "LMapForge$Program;", true)
  | 2 => ("MapForge", "bytes", "LMapForge$Bytes;", true)
  | 3 => ("MapForge", "flow", "LMapForge$Flow;", true)
  | 4 => ("MapForge", "writer", "LMapForge$Writer;", true)
  | 5 => ("MapForge", "reader", "LMapForge$Reader;", true)
  | _ => ("MapForge", "checker", "LMapForge$Checker;", true)
def ty_mf : Nat → FieldType := fun k => match k with
  | 0 => .object "MapForge$Family"
  | 1 => .object "MapForge$Program"
  | 2 => .object "MapForge$Bytes"
  | 3 => .object "MapForge$Flow"
  | 4 => .object "MapForge$Writer"
  | 5 => .object "MapForge$Reader"
  | _ => .object "MapForge$Checker"
def rn_mo : String := "MapForgeModel"
def tn_mo : u_T := fun k => match k with
  | 0 => ("MapForgeModel", "sup", "[I", true)
  | 1 => ("MapForgeModel", "face", "[Z", true)
  | 2 => ("MapForgeModel", "own", "I", false)
  | 3 => ("MapForgeModel", "mode", "I", false)
  | 4 => ("MapForgeModel", "arguments", "I", false)
  | 5 => ("MapForgeModel", "many", "I", false)
  | 6 => ("MapForgeModel", "handlers", "I", false)
  | 7 => ("MapForgeModel", "bytes", "I", false)
  | 8 => ("MapForgeModel", "gives", "Z", false)
  | 9 => ("MapForgeModel", "argument", "[I", true)
  | 10 => ("MapForgeModel", "op", "[I", true)
  | 11 => ("MapForgeModel", "one", "[I", true)
  | 12 => ("MapForgeModel", "two", "[I", true)
  | 13 => ("MapForgeModel", "hFrom", "[I", true)
  | 14 => ("MapForgeModel", "hTo", "[I", true)
  | 15 => ("MapForgeModel", "hAt", "[I", true)
  | 16 => ("MapForgeModel", "hClass", "[I", true)
  | 17 => ("MapForgeModel", "map", "[I", true)
  | 18 => ("MapForgeModel", "local", "[I", true)
  | 19 => ("MapForgeModel", "stack", "[I", true)
  | 20 => ("MapForgeModel", "depth", "I", false)
  | 21 => ("MapForgeModel", "raw", "Z", false)
  | 22 => ("MapForgeModel", "come", "[Z", true)
  | 23 => ("MapForgeModel", "isRaw", "[Z", true)
  | 24 => ("MapForgeModel", "deep", "[I", true)
  | 25 => ("MapForgeModel", "fLocal", "[I", true)
  | 26 => ("MapForgeModel", "fStack", "[I", true)
  | 27 => ("MapForgeModel", "right", "Z", false)
  | 28 => ("MapForgeModel", "changed", "Z", false)
  | 29 => ("MapForgeModel", "rowOffset", "[I", true)
  | 30 => ("MapForgeModel", "rowByte", "[I", true)
  | 31 => ("MapForgeModel", "rowDeep", "[I", true)
  | 32 => ("MapForgeModel", "rowLocal", "[I", true)
  | 33 => ("MapForgeModel", "rowStack", "[I", true)
  | 34 => ("MapForgeModel", "rows", "I", false)
  | 35 => ("MapForgeModel", "list", "[I", true)
  | 36 => ("MapForgeModel", "before", "[I", true)
  | 37 => ("MapForgeModel", "listed", "I", false)
  | 38 => ("MapForgeModel", "listedBefore", "I", false)
  | 39 => ("MapForgeModel", "made", "[I", true)
  | 40 => ("MapForgeModel", "length", "I", false)
  | 41 => ("MapForgeModel", "place", "I", false)
  | _ => ("MapForgeModel", "broken", "Z", false)
def ty_mo : Nat → FieldType := fun k => match k with
  | 0 => .array .int
  | 1 => .array .boolean
  | 2 => .int
  | 3 => .int
  | 4 => .int
  | 5 => .int
  | 6 => .int
  | 7 => .int
  | 8 => .boolean
  | 9 => .array .int
  | 10 => .array .int
  | 11 => .array .int
  | 12 => .array .int
  | 13 => .array .int
  | 14 => .array .int
  | 15 => .array .int
  | 16 => .array .int
  | 17 => .array .int
  | 18 => .array .int
  | 19 => .array .int
  | 20 => .int
  | 21 => .boolean
  | 22 => .array .boolean
  | 23 => .array .boolean
  | 24 => .array .int
  | 25 => .array .int
  | 26 => .array .int
  | 27 => .boolean
  | 28 => .boolean
  | 29 => .array .int
  | 30 => .array .int
  | 31 => .array .int
  | 32 => .array .int
  | 33 => .array .int
  | 34 => .int
  | 35 => .array .int
  | 36 => .array .int
  | 37 => .int
  | 38 => .int
  | 39 => .array .int
  | 40 => .int
  | 41 => .int
  | _ => .boolean
def zt_cl : List vw_C := [(rn_fa, tn_fa, 3), (rn_pr, tn_pr, 15), (rn_by, tn_by, 2), (rn_ma, tn_ma, 2), (rn_fr, tn_fr, 5), (rn_fl, tn_fl, 10), (rn_tl, tn_tl, 3), (rn_wr, tn_wr, 6), (rn_re, tn_re, 12), (rn_ck, tn_ck, 6), (rn_mf, tn_mf, 7), (rn_mo, tn_mo, 43)]
def ly_k : List Nat := [0, 0, 1, 2, 1, 0, 1, 1, 1, 1, 1, 1, 1, 1, 1, 0, 1, 0, 0, 3, 2, 2, 2, 0, 1, 1, 0, 0, 1, 0, 3, 1, 1, 1, 0, 0, 1, 2, 1, 1, 1, 1, 1, 1, 1, 1, 1, 1, 1, 2, 2, 1, 1, 1, 1, 1, 1, 1, 1, 1, 1, 1, 4, 4]
def ly_c : List Nat := [10, 0, 99, 99, 99, 1, 99, 99, 99, 99, 99, 99, 99, 99, 99, 2, 99, 3, 5, 99, 99, 99, 99, 4, 99, 99, 7, 6, 99, 8, 99, 99, 99, 99, 9, 11, 99, 99, 99, 99, 99, 99, 99, 99, 99, 99, 99, 99, 99, 99, 99, 99, 99, 99, 99, 99, 99, 99, 99, 99, 99, 99]
def ly_n : List Nat := [7, 3, 8, 8, 8, 15, 4, 50, 50, 50, 51, 4, 4, 4, 4, 2, 400, 2, 10, 50, 50, 50, 50, 5, 10, 8, 6, 3, 10, 12, 50, 50, 50, 50, 6, 43, 8, 8, 4, 50, 50, 50, 4, 4, 4, 4, 400, 10, 9, 50, 50, 50, 500, 400, 400, 400, 400, 4000, 3200, 12, 12, 2500, 5]
def ly_m : List Nat := [1, 1, 1, 1, 1, 1, 1, 1, 1, 1, 1, 1, 1, 1, 1, 2, 2, 1, 1, 1, 1, 1, 1, 105, 105, 105, 1, 3, 3, 1, 1, 1, 1, 1, 1, 1, 1, 1, 1, 1, 1, 1, 1, 1, 1, 1, 1, 1, 1, 1, 1, 1, 1, 1, 1, 1, 1, 1, 1, 1, 1, 1]
def ly_r : List (List (Option (Nat × (Nat → Nat)))) := [[some (1, fun _ => 0), some (5, fun _ => 0), some (15, fun _ => 0), some (18, fun _ => 0), some (26, fun _ => 0), some (29, fun _ => 0), some (34, fun _ => 0)],
  [some (2, fun _ => 0), some (3, fun _ => 0), some (4, fun _ => 0)],
  [],
  [],
  [],
  [none, none, none, some (6, fun _ => 0), none, some (7, fun _ => 0), some (8, fun _ => 0), some (9, fun _ => 0), some (10, fun _ => 0), none, some (11, fun _ => 0), some (12, fun _ => 0), some (13, fun _ => 0), some (14, fun _ => 0), none],
  [],
  [],
  [],
  [],
  [],
  [],
  [],
  [],
  [],
  [some (16, fun i => i), none],
  [],
  [some (1, fun _ => 0), some (5, fun _ => 0)],
  [some (1, fun _ => 0), some (5, fun _ => 0), some (17, fun _ => 0), some (19, fun _ => 0), some (20, fun _ => 0), some (21, fun _ => 0), some (22, fun _ => 0), some (23, fun _ => 100), none, none],
  [],
  [],
  [],
  [],
  [some (24, fun i => i), some (25, fun i => i), none, none, none],
  [],
  [],
  [some (5, fun _ => 0), some (18, fun _ => 0), some (23, fun _ => 101), some (27, fun _ => 0), some (27, fun _ => 1), some (15, fun _ => 1)],
  [some (28, fun i => i), none, none],
  [],
  [some (5, fun _ => 0), some (15, fun _ => 0), some (23, fun _ => 102), some (27, fun _ => 2), some (30, fun _ => 0), some (31, fun _ => 0), some (32, fun _ => 0), some (33, fun _ => 0), none, none, none, none],
  [],
  [],
  [],
  [],
  [some (1, fun _ => 0), some (5, fun _ => 0), some (17, fun _ => 0), some (29, fun _ => 0), some (23, fun _ => 103), some (23, fun _ => 104)],
  [some (36, fun _ => 0), some (37, fun _ => 0), none, none, none, none, none, none, none, some (38, fun _ => 0), some (39, fun _ => 0), some (40, fun _ => 0), some (41, fun _ => 0), some (42, fun _ => 0), some (43, fun _ => 0), some (44, fun _ => 0), some (45, fun _ => 0), some (46, fun _ => 0), some (47, fun _ => 0), some (48, fun _ => 0), none, none, some (49, fun _ => 0), some (50, fun _ => 0), some (51, fun _ => 0), some (52, fun _ => 0), some (53, fun _ => 0), none, none, some (54, fun _ => 0), some (55, fun _ => 0), some (56, fun _ => 0), some (57, fun _ => 0), some (58, fun _ => 0), none, some (59, fun _ => 0), some (60, fun _ => 0), none, none, some (61, fun _ => 0), none, none, none],
  [],
  [],
  [],
  [],
  [],
  [],
  [],
  [],
  [],
  [],
  [],
  [],
  [],
  [],
  [],
  [],
  [],
  [],
  [],
  [],
  [],
  [],
  [],
  [],
  [],
  []]
def ly_f : List (List Nat) := [[2, 2, 2], [0, 0, 1, 2, 0, 2, 2, 2, 2, 0, 2, 2, 2, 2, 0], [2, 0], [2, 2], [2, 2, 0, 0, 1], [2, 2, 2, 2, 2, 2, 2, 2, 1, 1], [2, 0, 0], [2, 2, 2, 2, 2, 2], [2, 2, 2, 2, 2, 2, 2, 2, 0, 1, 1, 0], [2, 2, 2, 2, 2, 2], [2, 2, 2, 2, 2, 2, 2], [2, 2, 0, 0, 0, 0, 0, 0, 1, 2, 2, 2, 2, 2, 2, 2, 2, 2, 2, 2, 0, 1, 2, 2, 2, 2, 2, 1, 1, 2, 2, 2, 2, 2, 0, 2, 2, 0, 0, 2, 0, 0, 1]]
def ly_e : Nat → Nat → Nat → Nat × Nat := fun s _ j => match Nat.beq s 19 with
  | true => (23, j)
  | false => (23, 50 + j)
def ly_t : List Int32 := [1, 4, 2, 3, 7]
/-- the script is the constant of sort 63 -/
def zt_Yx (len : Nat) (xs : Nat → Int32) : zm_Y := (fun s => zn_at ly_k s 9, fun s => zn_at ly_c s 99, fun s => match Nat.beq s 63 with
  | true => len
  | false => zn_at ly_n s 0, fun s i k => match zn_at (zn_at ly_r s []) k none with
  | none => none
  | some (t, f) => some (t, f i), ly_e, fun s => zn_at ly_m s 0, 62, fun s j => match Nat.beq s 63 with
  | true => xs j
  | false => zn_at ly_t j 0, fun c k => zn_at (zn_at ly_f c []) k 2)
def zt_Y : zm_Y := zt_Yx 0 (fun _ => 0)
def zt_Zs : zk_Zs := [("MapForge", "KINDS", "[I", (62, 0))]
end
section
theorem wd_0 : Cond.selects "MapForge" ({ cls := "MapForge", name := "forgetFindings", desc := "()V" } : MethodName) ({ cls := "MapForge", name := "forgetFindings", desc := "()V" } : MethodName) ∈ zt_Ts := zt_m 0 (by decide +kernel) (by decide +kernel)
theorem wd_1 : Cond.selects "MapForge$Flow" ({ cls := "MapForge$Flow", name := "begin", desc := "()V" } : MethodName) ({ cls := "MapForge$Flow", name := "begin", desc := "()V" } : MethodName) ∈ zt_Ts := zt_m 1 (by decide +kernel) (by decide +kernel)
theorem wd_2 : Cond.selects "MapForge$Flow" ({ cls := "MapForge$Flow", name := "arrive", desc := "(ILMapForge$Frame;)Z" } : MethodName) ({ cls := "MapForge$Flow", name := "arrive", desc := "(ILMapForge$Frame;)Z" } : MethodName) ∈ zt_Ts := zt_m 2 (by decide +kernel) (by decide +kernel)
theorem wd_3 : Cond.selects "MapForge$Flow" ({ cls := "MapForge$Flow", name := "joinAt", desc := "(ILMapForge$Frame;)Z" } : MethodName) ({ cls := "MapForge$Flow", name := "joinAt", desc := "(ILMapForge$Frame;)Z" } : MethodName) ∈ zt_Ts := zt_m 3 (by decide +kernel) (by decide +kernel)
theorem wd_4 : Cond.selects "MapForge$Flow" ({ cls := "MapForge$Flow", name := "leaveToHandlers", desc := "(I)Z" } : MethodName) ({ cls := "MapForge$Flow", name := "leaveToHandlers", desc := "(I)Z" } : MethodName) ∈ zt_Ts := zt_m 4 (by decide +kernel) (by decide +kernel)
theorem wd_5 : Cond.selects "MapForge$Flow" ({ cls := "MapForge$Flow", name := "leave", desc := "(I)Z" } : MethodName) ({ cls := "MapForge$Flow", name := "leave", desc := "(I)Z" } : MethodName) ∈ zt_Ts := zt_m 5 (by decide +kernel) (by decide +kernel)
theorem wd_6 : Cond.selects "MapForge$Machine" ({ cls := "MapForge$Machine", name := "stepOnStack", desc := "(ILMapForge$Frame;)Z" } : MethodName) ({ cls := "MapForge$Machine", name := "stepOnStack", desc := "(ILMapForge$Frame;)Z" } : MethodName) ∈ zt_Ts := zt_m 6 (by decide +kernel) (by decide +kernel)
theorem wd_7 : Cond.selects "MapForge$Machine" ({ cls := "MapForge$Machine", name := "stepOne", desc := "(IILMapForge$Frame;)Z" } : MethodName) ({ cls := "MapForge$Machine", name := "stepOne", desc := "(IILMapForge$Frame;)Z" } : MethodName) ∈ zt_Ts := zt_m 7 (by decide +kernel) (by decide +kernel)
theorem wd_8 : Cond.selects "MapForge$Machine" ({ cls := "MapForge$Machine", name := "stepTwo", desc := "(ILMapForge$Frame;)Z" } : MethodName) ({ cls := "MapForge$Machine", name := "stepTwo", desc := "(ILMapForge$Frame;)Z" } : MethodName) ∈ zt_Ts := zt_m 8 (by decide +kernel) (by decide +kernel)
theorem wd_9 : Cond.selects "MapForge$Machine" ({ cls := "MapForge$Machine", name := "stepToOther", desc := "(ILMapForge$Frame;)Z" } : MethodName) ({ cls := "MapForge$Machine", name := "stepToOther", desc := "(ILMapForge$Frame;)Z" } : MethodName) ∈ zt_Ts := zt_m 9 (by decide +kernel) (by decide +kernel)
theorem wd_10 : Cond.selects "MapForge$Machine" ({ cls := "MapForge$Machine", name := "stepStore", desc := "(IILMapForge$Frame;)Z" } : MethodName) ({ cls := "MapForge$Machine", name := "stepStore", desc := "(IILMapForge$Frame;)Z" } : MethodName) ∈ zt_Ts := zt_m 10 (by decide +kernel) (by decide +kernel)
theorem wd_11 : Cond.selects "MapForge$Machine" ({ cls := "MapForge$Machine", name := "stepJump", desc := "(ILMapForge$Frame;)Z" } : MethodName) ({ cls := "MapForge$Machine", name := "stepJump", desc := "(ILMapForge$Frame;)Z" } : MethodName) ∈ zt_Ts := zt_m 11 (by decide +kernel) (by decide +kernel)
theorem wd_12 : Cond.selects "MapForge$Machine" ({ cls := "MapForge$Machine", name := "stepObject", desc := "(ILMapForge$Frame;)Z" } : MethodName) ({ cls := "MapForge$Machine", name := "stepObject", desc := "(ILMapForge$Frame;)Z" } : MethodName) ∈ zt_Ts := zt_m 12 (by decide +kernel) (by decide +kernel)
theorem wd_13 : Cond.selects "MapForge$Machine" ({ cls := "MapForge$Machine", name := "stepInit", desc := "(IILMapForge$Frame;)Z" } : MethodName) ({ cls := "MapForge$Machine", name := "stepInit", desc := "(IILMapForge$Frame;)Z" } : MethodName) ∈ zt_Ts := zt_m 13 (by decide +kernel) (by decide +kernel)
theorem wd_14 : Cond.selects "MapForge$Flow" ({ cls := "MapForge$Flow", name := "isWhole", desc := "()Z" } : MethodName) ({ cls := "MapForge$Flow", name := "isWhole", desc := "()Z" } : MethodName) ∈ zt_Ts := zt_m 14 (by decide +kernel) (by decide +kernel)
theorem wd_15 : Cond.selects "MapForge$Writer" ({ cls := "MapForge$Writer", name := "writeRow", desc := "(LMapForge$Frame;I)V" } : MethodName) ({ cls := "MapForge$Writer", name := "writeRow", desc := "(LMapForge$Frame;I)V" } : MethodName) ∈ zt_Ts := zt_m 15 (by decide +kernel) (by decide +kernel)
theorem wd_16 : Cond.selects "MapForge$Writer" ({ cls := "MapForge$Writer", name := "writeHead", desc := "(III)V" } : MethodName) ({ cls := "MapForge$Writer", name := "writeHead", desc := "(III)V" } : MethodName) ∈ zt_Ts := zt_m 16 (by decide +kernel) (by decide +kernel)
theorem wd_17 : Cond.selects "MapForge$Writer" ({ cls := "MapForge$Writer", name := "writeTypes", desc := "([III)V" } : MethodName) ({ cls := "MapForge$Writer", name := "writeTypes", desc := "([III)V" } : MethodName) ∈ zt_Ts := zt_m 17 (by decide +kernel) (by decide +kernel)
theorem wd_18 : Cond.selects "MapForge$Writer" ({ cls := "MapForge$Writer", name := "writeWhole", desc := "(LMapForge$Frame;I)V" } : MethodName) ({ cls := "MapForge$Writer", name := "writeWhole", desc := "(LMapForge$Frame;I)V" } : MethodName) ∈ zt_Ts := zt_m 18 (by decide +kernel) (by decide +kernel)
theorem wd_19 : Cond.selects "MapForge$Reader" ({ cls := "MapForge$Reader", name := "begin", desc := "()V" } : MethodName) ({ cls := "MapForge$Reader", name := "begin", desc := "()V" } : MethodName) ∈ zt_Ts := zt_m 19 (by decide +kernel) (by decide +kernel)
theorem wd_20 : Cond.selects "MapForge$Reader" ({ cls := "MapForge$Reader", name := "readRow", desc := "(LMapForge$Frame;)Z" } : MethodName) ({ cls := "MapForge$Reader", name := "readRow", desc := "(LMapForge$Frame;)Z" } : MethodName) ∈ zt_Ts := zt_m 20 (by decide +kernel) (by decide +kernel)
theorem wd_21 : Cond.selects "MapForge$Reader" ({ cls := "MapForge$Reader", name := "readByte", desc := "()I" } : MethodName) ({ cls := "MapForge$Reader", name := "readByte", desc := "()I" } : MethodName) ∈ zt_Ts := zt_m 21 (by decide +kernel) (by decide +kernel)
theorem wd_22 : Cond.selects "MapForge$Reader" ({ cls := "MapForge$Reader", name := "readStack", desc := "(LMapForge$Frame;I)Z" } : MethodName) ({ cls := "MapForge$Reader", name := "readStack", desc := "(LMapForge$Frame;I)Z" } : MethodName) ∈ zt_Ts := zt_m 22 (by decide +kernel) (by decide +kernel)
theorem wd_23 : Cond.selects "MapForge$Reader" ({ cls := "MapForge$Reader", name := "readType", desc := "()I" } : MethodName) ({ cls := "MapForge$Reader", name := "readType", desc := "()I" } : MethodName) ∈ zt_Ts := zt_m 23 (by decide +kernel) (by decide +kernel)
theorem wd_24 : Cond.selects "MapForge$Reader" ({ cls := "MapForge$Reader", name := "readTwo", desc := "()I" } : MethodName) ({ cls := "MapForge$Reader", name := "readTwo", desc := "()I" } : MethodName) ∈ zt_Ts := zt_m 24 (by decide +kernel) (by decide +kernel)
theorem wd_25 : Cond.selects "MapForge$Reader" ({ cls := "MapForge$Reader", name := "readRest", desc := "(ILMapForge$Frame;)Z" } : MethodName) ({ cls := "MapForge$Reader", name := "readRest", desc := "(ILMapForge$Frame;)Z" } : MethodName) ∈ zt_Ts := zt_m 25 (by decide +kernel) (by decide +kernel)
theorem wd_26 : Cond.selects "MapForge$Reader" ({ cls := "MapForge$Reader", name := "readList", desc := "(I)Z" } : MethodName) ({ cls := "MapForge$Reader", name := "readList", desc := "(I)Z" } : MethodName) ∈ zt_Ts := zt_m 26 (by decide +kernel) (by decide +kernel)
theorem wd_27 : Cond.selects "MapForge$Reader" ({ cls := "MapForge$Reader", name := "shorten", desc := "(I)Z" } : MethodName) ({ cls := "MapForge$Reader", name := "shorten", desc := "(I)Z" } : MethodName) ∈ zt_Ts := zt_m 27 (by decide +kernel) (by decide +kernel)
theorem wd_28 : Cond.selects "MapForge$Checker" ({ cls := "MapForge$Checker", name := "begins", desc := "(IZ)Z" } : MethodName) ({ cls := "MapForge$Checker", name := "begins", desc := "(IZ)Z" } : MethodName) ∈ zt_Ts := zt_m 28 (by decide +kernel) (by decide +kernel)
theorem wd_29 : Cond.selects "MapForge$Checker" ({ cls := "MapForge$Checker", name := "handlersFit", desc := "(I)Z" } : MethodName) ({ cls := "MapForge$Checker", name := "handlersFit", desc := "(I)Z" } : MethodName) ∈ zt_Ts := zt_m 29 (by decide +kernel) (by decide +kernel)
theorem wd_30 : Cond.selects "MapForge$Checker" ({ cls := "MapForge$Checker", name := "fitsAt", desc := "(ILMapForge$Frame;)Z" } : MethodName) ({ cls := "MapForge$Checker", name := "fitsAt", desc := "(ILMapForge$Frame;)Z" } : MethodName) ∈ zt_Ts := zt_m 30 (by decide +kernel) (by decide +kernel)
theorem wd_31 : Cond.selects "MapForge$Checker" ({ cls := "MapForge$Checker", name := "jumpFits", desc := "(I)Z" } : MethodName) ({ cls := "MapForge$Checker", name := "jumpFits", desc := "(I)Z" } : MethodName) ∈ zt_Ts := zt_m 31 (by decide +kernel) (by decide +kernel)
theorem wd_32 : Cond.selects "MapForgeModel" ({ cls := "MapForgeModel", name := "set", desc := "(IIII)V" } : MethodName) ({ cls := "MapForgeModel", name := "set", desc := "(IIII)V" } : MethodName) ∈ zt_Ts := zt_m 32 (by decide +kernel) (by decide +kernel)
theorem wd_33 : Cond.selects "MapForgeModel" ({ cls := "MapForgeModel", name := "isRight", desc := "()Z" } : MethodName) ({ cls := "MapForgeModel", name := "isRight", desc := "()Z" } : MethodName) ∈ zt_Ts := zt_m 33 (by decide +kernel) (by decide +kernel)
theorem wd_34 : Cond.selects "MapForgeModel" ({ cls := "MapForgeModel", name := "first", desc := "()V" } : MethodName) ({ cls := "MapForgeModel", name := "first", desc := "()V" } : MethodName) ∈ zt_Ts := zt_m 34 (by decide +kernel) (by decide +kernel)
theorem wd_35 : Cond.selects "MapForgeModel" ({ cls := "MapForgeModel", name := "arrive", desc := "(I)V" } : MethodName) ({ cls := "MapForgeModel", name := "arrive", desc := "(I)V" } : MethodName) ∈ zt_Ts := zt_m 35 (by decide +kernel) (by decide +kernel)
theorem wd_36 : Cond.selects "MapForgeModel" ({ cls := "MapForgeModel", name := "join", desc := "(II)I" } : MethodName) ({ cls := "MapForgeModel", name := "join", desc := "(II)I" } : MethodName) ∈ zt_Ts := zt_m 36 (by decide +kernel) (by decide +kernel)
theorem wd_37 : Cond.selects "MapForgeModel" ({ cls := "MapForgeModel", name := "isInLine", desc := "(II)Z" } : MethodName) ({ cls := "MapForgeModel", name := "isInLine", desc := "(II)Z" } : MethodName) ∈ zt_Ts := zt_m 37 (by decide +kernel) (by decide +kernel)
theorem wd_38 : Cond.selects "MapForgeModel" ({ cls := "MapForgeModel", name := "fetch", desc := "(I)V" } : MethodName) ({ cls := "MapForgeModel", name := "fetch", desc := "(I)V" } : MethodName) ∈ zt_Ts := zt_m 38 (by decide +kernel) (by decide +kernel)
theorem wd_39 : Cond.selects "MapForgeModel" ({ cls := "MapForgeModel", name := "leave", desc := "(I)Z" } : MethodName) ({ cls := "MapForgeModel", name := "leave", desc := "(I)Z" } : MethodName) ∈ zt_Ts := zt_m 39 (by decide +kernel) (by decide +kernel)
theorem wd_40 : Cond.selects "MapForgeModel" ({ cls := "MapForgeModel", name := "top", desc := "(I)I" } : MethodName) ({ cls := "MapForgeModel", name := "top", desc := "(I)I" } : MethodName) ∈ zt_Ts := zt_m 40 (by decide +kernel) (by decide +kernel)
theorem wd_41 : Cond.selects "MapForgeModel" ({ cls := "MapForgeModel", name := "simple", desc := "(I)Z" } : MethodName) ({ cls := "MapForgeModel", name := "simple", desc := "(I)Z" } : MethodName) ∈ zt_Ts := zt_m 41 (by decide +kernel) (by decide +kernel)
theorem wd_42 : Cond.selects "MapForgeModel" ({ cls := "MapForgeModel", name := "push", desc := "(I)Z" } : MethodName) ({ cls := "MapForgeModel", name := "push", desc := "(I)Z" } : MethodName) ∈ zt_Ts := zt_m 42 (by decide +kernel) (by decide +kernel)
theorem wd_43 : Cond.selects "MapForgeModel" ({ cls := "MapForgeModel", name := "slots", desc := "()I" } : MethodName) ({ cls := "MapForgeModel", name := "slots", desc := "()I" } : MethodName) ∈ zt_Ts := zt_m 43 (by decide +kernel) (by decide +kernel)
theorem wd_44 : Cond.selects "MapForgeModel" ({ cls := "MapForgeModel", name := "takes", desc := "(ZI)Z" } : MethodName) ({ cls := "MapForgeModel", name := "takes", desc := "(ZI)Z" } : MethodName) ∈ zt_Ts := zt_m 44 (by decide +kernel) (by decide +kernel)
theorem wd_45 : Cond.selects "MapForgeModel" ({ cls := "MapForgeModel", name := "sum", desc := "(I)Z" } : MethodName) ({ cls := "MapForgeModel", name := "sum", desc := "(I)Z" } : MethodName) ∈ zt_Ts := zt_m 45 (by decide +kernel) (by decide +kernel)
theorem wd_46 : Cond.selects "MapForgeModel" ({ cls := "MapForgeModel", name := "swap", desc := "(II)Z" } : MethodName) ({ cls := "MapForgeModel", name := "swap", desc := "(II)Z" } : MethodName) ∈ zt_Ts := zt_m 46 (by decide +kernel) (by decide +kernel)
theorem wd_47 : Cond.selects "MapForgeModel" ({ cls := "MapForgeModel", name := "is", desc := "(II)Z" } : MethodName) ({ cls := "MapForgeModel", name := "is", desc := "(II)Z" } : MethodName) ∈ zt_Ts := zt_m 47 (by decide +kernel) (by decide +kernel)
theorem wd_48 : Cond.selects "MapForgeModel" ({ cls := "MapForgeModel", name := "move", desc := "(II)Z" } : MethodName) ({ cls := "MapForgeModel", name := "move", desc := "(II)Z" } : MethodName) ∈ zt_Ts := zt_m 48 (by decide +kernel) (by decide +kernel)
theorem wd_49 : Cond.selects "MapForgeModel" ({ cls := "MapForgeModel", name := "offset", desc := "(I)I" } : MethodName) ({ cls := "MapForgeModel", name := "offset", desc := "(I)I" } : MethodName) ∈ zt_Ts := zt_m 49 (by decide +kernel) (by decide +kernel)
theorem wd_50 : Cond.selects "MapForgeModel" ({ cls := "MapForgeModel", name := "init", desc := "(I)Z" } : MethodName) ({ cls := "MapForgeModel", name := "init", desc := "(I)Z" } : MethodName) ∈ zt_Ts := zt_m 50 (by decide +kernel) (by decide +kernel)
theorem wd_51 : Cond.selects "MapForgeModel" ({ cls := "MapForgeModel", name := "placeAt", desc := "(I)I" } : MethodName) ({ cls := "MapForgeModel", name := "placeAt", desc := "(I)I" } : MethodName) ∈ zt_Ts := zt_m 51 (by decide +kernel) (by decide +kernel)
theorem wd_52 : Cond.selects "MapForgeModel" ({ cls := "MapForgeModel", name := "goHandled", desc := "(I)V" } : MethodName) ({ cls := "MapForgeModel", name := "goHandled", desc := "(I)V" } : MethodName) ∈ zt_Ts := zt_m 52 (by decide +kernel) (by decide +kernel)
theorem wd_53 : Cond.selects "MapForgeModel" ({ cls := "MapForgeModel", name := "hasRow", desc := "(I)Z" } : MethodName) ({ cls := "MapForgeModel", name := "hasRow", desc := "(I)Z" } : MethodName) ∈ zt_Ts := zt_m 53 (by decide +kernel) (by decide +kernel)
theorem wd_54 : Cond.selects "MapForgeModel" ({ cls := "MapForgeModel", name := "hasThis", desc := "(I)Z" } : MethodName) ({ cls := "MapForgeModel", name := "hasThis", desc := "(I)Z" } : MethodName) ∈ zt_Ts := zt_m 54 (by decide +kernel) (by decide +kernel)
theorem wd_55 : Cond.selects "MapForgeModel" ({ cls := "MapForgeModel", name := "enlist", desc := "()V" } : MethodName) ({ cls := "MapForgeModel", name := "enlist", desc := "()V" } : MethodName) ∈ zt_Ts := zt_m 55 (by decide +kernel) (by decide +kernel)
theorem wd_56 : Cond.selects "MapForgeModel" ({ cls := "MapForgeModel", name := "keep", desc := "()V" } : MethodName) ({ cls := "MapForgeModel", name := "keep", desc := "()V" } : MethodName) ∈ zt_Ts := zt_m 56 (by decide +kernel) (by decide +kernel)
theorem wd_57 : Cond.selects "MapForgeModel" ({ cls := "MapForgeModel", name := "writeRow", desc := "(I)V" } : MethodName) ({ cls := "MapForgeModel", name := "writeRow", desc := "(I)V" } : MethodName) ∈ zt_Ts := zt_m 57 (by decide +kernel) (by decide +kernel)
theorem wd_58 : Cond.selects "MapForgeModel" ({ cls := "MapForgeModel", name := "begins", desc := "()Z" } : MethodName) ({ cls := "MapForgeModel", name := "begins", desc := "()Z" } : MethodName) ∈ zt_Ts := zt_m 58 (by decide +kernel) (by decide +kernel)
theorem wd_59 : Cond.selects "MapForgeModel" ({ cls := "MapForgeModel", name := "write", desc := "(I)V" } : MethodName) ({ cls := "MapForgeModel", name := "write", desc := "(I)V" } : MethodName) ∈ zt_Ts := zt_m 59 (by decide +kernel) (by decide +kernel)
theorem wd_60 : Cond.selects "MapForgeModel" ({ cls := "MapForgeModel", name := "writeTwo", desc := "(I)V" } : MethodName) ({ cls := "MapForgeModel", name := "writeTwo", desc := "(I)V" } : MethodName) ∈ zt_Ts := zt_m 60 (by decide +kernel) (by decide +kernel)
theorem wd_61 : Cond.selects "MapForgeModel" ({ cls := "MapForgeModel", name := "writeType", desc := "(I)V" } : MethodName) ({ cls := "MapForgeModel", name := "writeType", desc := "(I)V" } : MethodName) ∈ zt_Ts := zt_m 61 (by decide +kernel) (by decide +kernel)
theorem wd_62 : Cond.selects "MapForgeModel" ({ cls := "MapForgeModel", name := "readRows", desc := "()Z" } : MethodName) ({ cls := "MapForgeModel", name := "readRows", desc := "()Z" } : MethodName) ∈ zt_Ts := zt_m 62 (by decide +kernel) (by decide +kernel)
theorem wd_63 : Cond.selects "MapForgeModel" ({ cls := "MapForgeModel", name := "byteNext", desc := "()I" } : MethodName) ({ cls := "MapForgeModel", name := "byteNext", desc := "()I" } : MethodName) ∈ zt_Ts := zt_m 63 (by decide +kernel) (by decide +kernel)
theorem wd_64 : Cond.selects "MapForgeModel" ({ cls := "MapForgeModel", name := "readForm", desc := "(I)I" } : MethodName) ({ cls := "MapForgeModel", name := "readForm", desc := "(I)I" } : MethodName) ∈ zt_Ts := zt_m 64 (by decide +kernel) (by decide +kernel)
theorem wd_65 : Cond.selects "MapForgeModel" ({ cls := "MapForgeModel", name := "twoNext", desc := "()I" } : MethodName) ({ cls := "MapForgeModel", name := "twoNext", desc := "()I" } : MethodName) ∈ zt_Ts := zt_m 65 (by decide +kernel) (by decide +kernel)
theorem wd_66 : Cond.selects "MapForgeModel" ({ cls := "MapForgeModel", name := "stackNext", desc := "()V" } : MethodName) ({ cls := "MapForgeModel", name := "stackNext", desc := "()V" } : MethodName) ∈ zt_Ts := zt_m 66 (by decide +kernel) (by decide +kernel)
theorem wd_67 : Cond.selects "MapForgeModel" ({ cls := "MapForgeModel", name := "typeNext", desc := "()I" } : MethodName) ({ cls := "MapForgeModel", name := "typeNext", desc := "()I" } : MethodName) ∈ zt_Ts := zt_m 67 (by decide +kernel) (by decide +kernel)
theorem wd_68 : Cond.selects "MapForgeModel" ({ cls := "MapForgeModel", name := "enter", desc := "(I)V" } : MethodName) ({ cls := "MapForgeModel", name := "enter", desc := "(I)V" } : MethodName) ∈ zt_Ts := zt_m 68 (by decide +kernel) (by decide +kernel)
theorem wd_69 : Cond.selects "MapForgeModel" ({ cls := "MapForgeModel", name := "readFull", desc := "()V" } : MethodName) ({ cls := "MapForgeModel", name := "readFull", desc := "()V" } : MethodName) ∈ zt_Ts := zt_m 69 (by decide +kernel) (by decide +kernel)
theorem wd_70 : Cond.selects "MapForgeModel" ({ cls := "MapForgeModel", name := "rowAt", desc := "(I)I" } : MethodName) ({ cls := "MapForgeModel", name := "rowAt", desc := "(I)I" } : MethodName) ∈ zt_Ts := zt_m 70 (by decide +kernel) (by decide +kernel)
theorem wd_71 : Cond.selects "MapForgeModel" ({ cls := "MapForgeModel", name := "fits", desc := "(I)Z" } : MethodName) ({ cls := "MapForgeModel", name := "fits", desc := "(I)Z" } : MethodName) ∈ zt_Ts := zt_m 71 (by decide +kernel) (by decide +kernel)
theorem wd_72 : Cond.selects "MapForgeModel" ({ cls := "MapForgeModel", name := "rowIsRaw", desc := "(I)Z" } : MethodName) ({ cls := "MapForgeModel", name := "rowIsRaw", desc := "(I)Z" } : MethodName) ∈ zt_Ts := zt_m 72 (by decide +kernel) (by decide +kernel)
theorem wd_73 : Cond.selects "MapForgeModel" ({ cls := "MapForgeModel", name := "take", desc := "(I)V" } : MethodName) ({ cls := "MapForgeModel", name := "take", desc := "(I)V" } : MethodName) ∈ zt_Ts := zt_m 73 (by decide +kernel) (by decide +kernel)
theorem wd_74 : Cond.selects "MapForgeModel" ({ cls := "MapForgeModel", name := "handled", desc := "(I)Z" } : MethodName) ({ cls := "MapForgeModel", name := "handled", desc := "(I)Z" } : MethodName) ∈ zt_Ts := zt_m 74 (by decide +kernel) (by decide +kernel)
theorem wd_75 : Cond.selects "MapForgeModel" ({ cls := "MapForgeModel", name := "fitsAt", desc := "(I)Z" } : MethodName) ({ cls := "MapForgeModel", name := "fitsAt", desc := "(I)Z" } : MethodName) ∈ zt_Ts := zt_m 75 (by decide +kernel) (by decide +kernel)
theorem wd_77 : (Jvm.Cond.initialized "MapForge") ∈ zt_Ts := zt_m 77 (by decide +kernel) (by decide +kernel)
theorem wd_78 : (Jvm.Cond.initialized "MapForge$Family") ∈ zt_Ts := zt_m 78 (by decide +kernel) (by decide +kernel)
theorem wd_79 : (Jvm.Cond.initialized "MapForge$Program") ∈ zt_Ts := zt_m 79 (by decide +kernel) (by decide +kernel)
theorem wd_80 : (Jvm.Cond.initialized "MapForge$Bytes") ∈ zt_Ts := zt_m 80 (by decide +kernel) (by decide +kernel)
theorem wd_81 : (Jvm.Cond.initialized "MapForge$Machine") ∈ zt_Ts := zt_m 81 (by decide +kernel) (by decide +kernel)
theorem wd_82 : (Jvm.Cond.initialized "MapForge$Flow") ∈ zt_Ts := zt_m 82 (by decide +kernel) (by decide +kernel)
theorem wd_83 : (Jvm.Cond.initialized "MapForge$Frame") ∈ zt_Ts := zt_m 83 (by decide +kernel) (by decide +kernel)
theorem wd_84 : (Jvm.Cond.initialized "MapForge$Writer") ∈ zt_Ts := zt_m 84 (by decide +kernel) (by decide +kernel)
theorem wd_85 : (Jvm.Cond.initialized "MapForge$TypeList") ∈ zt_Ts := zt_m 85 (by decide +kernel) (by decide +kernel)
theorem wd_86 : (Jvm.Cond.initialized "MapForge$Reader") ∈ zt_Ts := zt_m 86 (by decide +kernel) (by decide +kernel)
theorem wd_87 : (Jvm.Cond.initialized "MapForge$Checker") ∈ zt_Ts := zt_m 87 (by decide +kernel) (by decide +kernel)
theorem wd_88 : (Jvm.Cond.initialized "MapForgeModel") ∈ zt_Ts := zt_m 88 (by decide +kernel) (by decide +kernel)
theorem wd_89 : (Jvm.Cond.initialized "java/util/Arrays") ∈ zt_Ts := zt_m 89 (by decide +kernel) (by decide +kernel)
theorem wd_90 : (Jvm.Cond.initialized "java/lang/System") ∈ zt_Ts := zt_m 90 (by decide +kernel) (by decide +kernel)
theorem wd_91 : (Jvm.Cond.initialized "java/lang/Math") ∈ zt_Ts := zt_m 91 (by decide +kernel) (by decide +kernel)
theorem wd_106 : (Jvm.Cond.fieldLink "MapForge$Family" (9 : Nat) "MapForge$Family" "above" "[I") ∈ zt_Ts := zt_m 106 (by decide +kernel) (by decide +kernel)
theorem wd_107 : (Jvm.Cond.fieldLink "MapForge$Family" (15 : Nat) "MapForge$Family" "face" "[Z") ∈ zt_Ts := zt_m 107 (by decide +kernel) (by decide +kernel)
theorem wd_108 : (Jvm.Cond.fieldLink "MapForge$Family" (19 : Nat) "MapForge$Family" "line" "[I") ∈ zt_Ts := zt_m 108 (by decide +kernel) (by decide +kernel)
theorem wd_109 : (Jvm.Cond.laysFinal "MapForge$Family" "MapForge$Family" "above" "[I") ∈ zt_Ts := zt_m 109 (by decide +kernel) (by decide +kernel)
theorem wd_111 : (Jvm.Cond.laysFinal "MapForge$Family" "MapForge$Family" "face" "[Z") ∈ zt_Ts := zt_m 111 (by decide +kernel) (by decide +kernel)
theorem wd_113 : (Jvm.Cond.laysFinal "MapForge$Family" "MapForge$Family" "line" "[I") ∈ zt_Ts := zt_m 113 (by decide +kernel) (by decide +kernel)
theorem wd_124 : (Jvm.Cond.fieldLink "MapForge$Program" (39 : Nat) "MapForge$Program" "own" "I") ∈ zt_Ts := zt_m 124 (by decide +kernel) (by decide +kernel)
theorem wd_125 : (Jvm.Cond.fieldLink "MapForge$Machine" (125 : Nat) "MapForge$Program" "own" "I") ∈ zt_Ts := zt_m 125 (by decide +kernel) (by decide +kernel)
theorem wd_126 : (Jvm.Cond.fieldLink "MapForge$Program" (43 : Nat) "MapForge$Program" "mode" "I") ∈ zt_Ts := zt_m 126 (by decide +kernel) (by decide +kernel)
theorem wd_127 : (Jvm.Cond.fieldLink "MapForge$Machine" (93 : Nat) "MapForge$Program" "mode" "I") ∈ zt_Ts := zt_m 127 (by decide +kernel) (by decide +kernel)
theorem wd_128 : (Jvm.Cond.fieldLink "MapForge$Program" (46 : Nat) "MapForge$Program" "gives" "Z") ∈ zt_Ts := zt_m 128 (by decide +kernel) (by decide +kernel)
theorem wd_129 : (Jvm.Cond.fieldLink "MapForge$Machine" (89 : Nat) "MapForge$Program" "gives" "Z") ∈ zt_Ts := zt_m 129 (by decide +kernel) (by decide +kernel)
theorem wd_130 : (Jvm.Cond.fieldLink "MapForge$Program" (9 : Nat) "MapForge$Program" "arguments" "[I") ∈ zt_Ts := zt_m 130 (by decide +kernel) (by decide +kernel)
theorem wd_131 : (Jvm.Cond.fieldLink "MapForge" (96 : Nat) "MapForge$Program" "arguments" "[I") ∈ zt_Ts := zt_m 131 (by decide +kernel) (by decide +kernel)
theorem wd_132 : (Jvm.Cond.fieldLink "MapForge$Program" (50 : Nat) "MapForge$Program" "argumentCount" "I") ∈ zt_Ts := zt_m 132 (by decide +kernel) (by decide +kernel)
theorem wd_133 : (Jvm.Cond.fieldLink "MapForge" (92 : Nat) "MapForge$Program" "argumentCount" "I") ∈ zt_Ts := zt_m 133 (by decide +kernel) (by decide +kernel)
theorem wd_134 : (Jvm.Cond.fieldLink "MapForge$Program" (15 : Nat) "MapForge$Program" "ops" "[I") ∈ zt_Ts := zt_m 134 (by decide +kernel) (by decide +kernel)
theorem wd_135 : (Jvm.Cond.fieldLink "MapForge$Machine" (19 : Nat) "MapForge$Program" "ops" "[I") ∈ zt_Ts := zt_m 135 (by decide +kernel) (by decide +kernel)
theorem wd_136 : (Jvm.Cond.fieldLink "MapForge$Checker" (64 : Nat) "MapForge$Program" "ops" "[I") ∈ zt_Ts := zt_m 136 (by decide +kernel) (by decide +kernel)
theorem wd_137 : (Jvm.Cond.fieldLink "MapForge$Flow" (106 : Nat) "MapForge$Program" "ops" "[I") ∈ zt_Ts := zt_m 137 (by decide +kernel) (by decide +kernel)
theorem wd_138 : (Jvm.Cond.fieldLink "MapForge" (178 : Nat) "MapForge$Program" "ops" "[I") ∈ zt_Ts := zt_m 138 (by decide +kernel) (by decide +kernel)
theorem wd_139 : (Jvm.Cond.fieldLink "MapForge$Program" (18 : Nat) "MapForge$Program" "as" "[I") ∈ zt_Ts := zt_m 139 (by decide +kernel) (by decide +kernel)
theorem wd_140 : (Jvm.Cond.fieldLink "MapForge$Machine" (37 : Nat) "MapForge$Program" "as" "[I") ∈ zt_Ts := zt_m 140 (by decide +kernel) (by decide +kernel)
theorem wd_141 : (Jvm.Cond.fieldLink "MapForge" (181 : Nat) "MapForge$Program" "as" "[I") ∈ zt_Ts := zt_m 141 (by decide +kernel) (by decide +kernel)
theorem wd_142 : (Jvm.Cond.fieldLink "MapForge$Program" (21 : Nat) "MapForge$Program" "bs" "[I") ∈ zt_Ts := zt_m 142 (by decide +kernel) (by decide +kernel)
theorem wd_143 : (Jvm.Cond.fieldLink "MapForge$Checker" (112 : Nat) "MapForge$Program" "bs" "[I") ∈ zt_Ts := zt_m 143 (by decide +kernel) (by decide +kernel)
theorem wd_144 : (Jvm.Cond.fieldLink "MapForge$Flow" (112 : Nat) "MapForge$Program" "bs" "[I") ∈ zt_Ts := zt_m 144 (by decide +kernel) (by decide +kernel)
theorem wd_145 : (Jvm.Cond.fieldLink "MapForge$Machine" (122 : Nat) "MapForge$Program" "bs" "[I") ∈ zt_Ts := zt_m 145 (by decide +kernel) (by decide +kernel)
theorem wd_146 : (Jvm.Cond.fieldLink "MapForge" (184 : Nat) "MapForge$Program" "bs" "[I") ∈ zt_Ts := zt_m 146 (by decide +kernel) (by decide +kernel)
theorem wd_147 : (Jvm.Cond.fieldLink "MapForge$Program" (24 : Nat) "MapForge$Program" "offsets" "[I") ∈ zt_Ts := zt_m 147 (by decide +kernel) (by decide +kernel)
theorem wd_148 : (Jvm.Cond.fieldLink "MapForge$Writer" (67 : Nat) "MapForge$Program" "offsets" "[I") ∈ zt_Ts := zt_m 148 (by decide +kernel) (by decide +kernel)
theorem wd_149 : (Jvm.Cond.fieldLink "MapForge$Machine" (112 : Nat) "MapForge$Program" "offsets" "[I") ∈ zt_Ts := zt_m 149 (by decide +kernel) (by decide +kernel)
theorem wd_150 : (Jvm.Cond.fieldLink "MapForge" (187 : Nat) "MapForge$Program" "offsets" "[I") ∈ zt_Ts := zt_m 150 (by decide +kernel) (by decide +kernel)
theorem wd_151 : (Jvm.Cond.fieldLink "MapForge$Checker" (43 : Nat) "MapForge$Program" "size" "I") ∈ zt_Ts := zt_m 151 (by decide +kernel) (by decide +kernel)
theorem wd_152 : (Jvm.Cond.fieldLink "MapForge$Program" (53 : Nat) "MapForge$Program" "size" "I") ∈ zt_Ts := zt_m 152 (by decide +kernel) (by decide +kernel)
theorem wd_153 : (Jvm.Cond.fieldLink "MapForge$Writer" (56 : Nat) "MapForge$Program" "size" "I") ∈ zt_Ts := zt_m 153 (by decide +kernel) (by decide +kernel)
theorem wd_154 : (Jvm.Cond.fieldLink "MapForge$Flow" (55 : Nat) "MapForge$Program" "size" "I") ∈ zt_Ts := zt_m 154 (by decide +kernel) (by decide +kernel)
theorem wd_155 : (Jvm.Cond.fieldLink "MapForge" (104 : Nat) "MapForge$Program" "size" "I") ∈ zt_Ts := zt_m 155 (by decide +kernel) (by decide +kernel)
theorem wd_156 : (Jvm.Cond.fieldLink "MapForge$Program" (27 : Nat) "MapForge$Program" "from" "[I") ∈ zt_Ts := zt_m 156 (by decide +kernel) (by decide +kernel)
theorem wd_157 : (Jvm.Cond.fieldLink "MapForge$Program" (30 : Nat) "MapForge$Program" "to" "[I") ∈ zt_Ts := zt_m 157 (by decide +kernel) (by decide +kernel)
theorem wd_158 : (Jvm.Cond.fieldLink "MapForge$Program" (33 : Nat) "MapForge$Program" "at" "[I") ∈ zt_Ts := zt_m 158 (by decide +kernel) (by decide +kernel)
theorem wd_159 : (Jvm.Cond.fieldLink "MapForge$Checker" (103 : Nat) "MapForge$Program" "at" "[I") ∈ zt_Ts := zt_m 159 (by decide +kernel) (by decide +kernel)
theorem wd_160 : (Jvm.Cond.fieldLink "MapForge$Flow" (95 : Nat) "MapForge$Program" "at" "[I") ∈ zt_Ts := zt_m 160 (by decide +kernel) (by decide +kernel)
theorem wd_161 : (Jvm.Cond.fieldLink "MapForge$Program" (36 : Nat) "MapForge$Program" "caught" "[I") ∈ zt_Ts := zt_m 161 (by decide +kernel) (by decide +kernel)
theorem wd_162 : (Jvm.Cond.fieldLink "MapForge$Checker" (96 : Nat) "MapForge$Program" "caught" "[I") ∈ zt_Ts := zt_m 162 (by decide +kernel) (by decide +kernel)
theorem wd_163 : (Jvm.Cond.fieldLink "MapForge$Flow" (87 : Nat) "MapForge$Program" "caught" "[I") ∈ zt_Ts := zt_m 163 (by decide +kernel) (by decide +kernel)
theorem wd_164 : (Jvm.Cond.fieldLink "MapForge$Program" (56 : Nat) "MapForge$Program" "handlers" "I") ∈ zt_Ts := zt_m 164 (by decide +kernel) (by decide +kernel)
theorem wd_165 : (Jvm.Cond.fieldLink "MapForge$Flow" (80 : Nat) "MapForge$Program" "handlers" "I") ∈ zt_Ts := zt_m 165 (by decide +kernel) (by decide +kernel)
theorem wd_166 : (Jvm.Cond.fieldLink "MapForge$Checker" (89 : Nat) "MapForge$Program" "handlers" "I") ∈ zt_Ts := zt_m 166 (by decide +kernel) (by decide +kernel)
theorem wd_167 : (Jvm.Cond.fieldLink "MapForge" (114 : Nat) "MapForge$Program" "handlers" "I") ∈ zt_Ts := zt_m 167 (by decide +kernel) (by decide +kernel)
theorem wd_168 : (Jvm.Cond.lays "MapForge$Program" "MapForge$Program" "own" "I") ∈ zt_Ts := zt_m 168 (by decide +kernel) (by decide +kernel)
theorem wd_170 : (Jvm.Cond.lays "MapForge$Program" "MapForge$Program" "mode" "I") ∈ zt_Ts := zt_m 170 (by decide +kernel) (by decide +kernel)
theorem wd_172 : (Jvm.Cond.lays "MapForge$Program" "MapForge$Program" "gives" "Z") ∈ zt_Ts := zt_m 172 (by decide +kernel) (by decide +kernel)
theorem wd_174 : (Jvm.Cond.laysFinal "MapForge$Program" "MapForge$Program" "arguments" "[I") ∈ zt_Ts := zt_m 174 (by decide +kernel) (by decide +kernel)
theorem wd_176 : (Jvm.Cond.lays "MapForge$Program" "MapForge$Program" "argumentCount" "I") ∈ zt_Ts := zt_m 176 (by decide +kernel) (by decide +kernel)
theorem wd_178 : (Jvm.Cond.laysFinal "MapForge$Program" "MapForge$Program" "ops" "[I") ∈ zt_Ts := zt_m 178 (by decide +kernel) (by decide +kernel)
theorem wd_180 : (Jvm.Cond.laysFinal "MapForge$Program" "MapForge$Program" "as" "[I") ∈ zt_Ts := zt_m 180 (by decide +kernel) (by decide +kernel)
theorem wd_182 : (Jvm.Cond.laysFinal "MapForge$Program" "MapForge$Program" "bs" "[I") ∈ zt_Ts := zt_m 182 (by decide +kernel) (by decide +kernel)
theorem wd_184 : (Jvm.Cond.laysFinal "MapForge$Program" "MapForge$Program" "offsets" "[I") ∈ zt_Ts := zt_m 184 (by decide +kernel) (by decide +kernel)
theorem wd_186 : (Jvm.Cond.lays "MapForge$Program" "MapForge$Program" "size" "I") ∈ zt_Ts := zt_m 186 (by decide +kernel) (by decide +kernel)
theorem wd_188 : (Jvm.Cond.laysFinal "MapForge$Program" "MapForge$Program" "from" "[I") ∈ zt_Ts := zt_m 188 (by decide +kernel) (by decide +kernel)
theorem wd_190 : (Jvm.Cond.laysFinal "MapForge$Program" "MapForge$Program" "to" "[I") ∈ zt_Ts := zt_m 190 (by decide +kernel) (by decide +kernel)
theorem wd_192 : (Jvm.Cond.laysFinal "MapForge$Program" "MapForge$Program" "at" "[I") ∈ zt_Ts := zt_m 192 (by decide +kernel) (by decide +kernel)
theorem wd_194 : (Jvm.Cond.laysFinal "MapForge$Program" "MapForge$Program" "caught" "[I") ∈ zt_Ts := zt_m 194 (by decide +kernel) (by decide +kernel)
theorem wd_196 : (Jvm.Cond.lays "MapForge$Program" "MapForge$Program" "handlers" "I") ∈ zt_Ts := zt_m 196 (by decide +kernel) (by decide +kernel)
theorem wd_205 : (Jvm.Cond.fieldLink "MapForge$Bytes" (9 : Nat) "MapForge$Bytes" "cells" "[I") ∈ zt_Ts := zt_m 205 (by decide +kernel) (by decide +kernel)
theorem wd_206 : (Jvm.Cond.fieldLink "MapForge$Reader" (150 : Nat) "MapForge$Bytes" "cells" "[I") ∈ zt_Ts := zt_m 206 (by decide +kernel) (by decide +kernel)
theorem wd_207 : (Jvm.Cond.fieldLink "MapForge" (159 : Nat) "MapForge$Bytes" "cells" "[I") ∈ zt_Ts := zt_m 207 (by decide +kernel) (by decide +kernel)
theorem wd_208 : (Jvm.Cond.fieldLink "MapForge$Bytes" (15 : Nat) "MapForge$Bytes" "size" "I") ∈ zt_Ts := zt_m 208 (by decide +kernel) (by decide +kernel)
theorem wd_209 : (Jvm.Cond.fieldLink "MapForge$Writer" (52 : Nat) "MapForge$Bytes" "size" "I") ∈ zt_Ts := zt_m 209 (by decide +kernel) (by decide +kernel)
theorem wd_210 : (Jvm.Cond.fieldLink "MapForge$Reader" (64 : Nat) "MapForge$Bytes" "size" "I") ∈ zt_Ts := zt_m 210 (by decide +kernel) (by decide +kernel)
theorem wd_211 : (Jvm.Cond.fieldLink "MapForge" (131 : Nat) "MapForge$Bytes" "size" "I") ∈ zt_Ts := zt_m 211 (by decide +kernel) (by decide +kernel)
theorem wd_212 : (Jvm.Cond.laysFinal "MapForge$Bytes" "MapForge$Bytes" "cells" "[I") ∈ zt_Ts := zt_m 212 (by decide +kernel) (by decide +kernel)
theorem wd_214 : (Jvm.Cond.lays "MapForge$Bytes" "MapForge$Bytes" "size" "I") ∈ zt_Ts := zt_m 214 (by decide +kernel) (by decide +kernel)
theorem wd_223 : (Jvm.Cond.fieldLink "MapForge$Machine" (9 : Nat) "MapForge$Machine" "family" "LMapForge$Family;") ∈ zt_Ts := zt_m 223 (by decide +kernel) (by decide +kernel)
theorem wd_224 : (Jvm.Cond.fieldLink "MapForge$Machine" (15 : Nat) "MapForge$Machine" "program" "LMapForge$Program;") ∈ zt_Ts := zt_m 224 (by decide +kernel) (by decide +kernel)
theorem wd_225 : (Jvm.Cond.laysFinal "MapForge$Machine" "MapForge$Machine" "family" "LMapForge$Family;") ∈ zt_Ts := zt_m 225 (by decide +kernel) (by decide +kernel)
theorem wd_227 : (Jvm.Cond.laysFinal "MapForge$Machine" "MapForge$Machine" "program" "LMapForge$Program;") ∈ zt_Ts := zt_m 227 (by decide +kernel) (by decide +kernel)
theorem wd_243 : (Jvm.Cond.fieldLink "MapForge$Frame" (9 : Nat) "MapForge$Frame" "locals" "[I") ∈ zt_Ts := zt_m 243 (by decide +kernel) (by decide +kernel)
theorem wd_244 : (Jvm.Cond.fieldLink "MapForge$Machine" (32 : Nat) "MapForge$Frame" "locals" "[I") ∈ zt_Ts := zt_m 244 (by decide +kernel) (by decide +kernel)
theorem wd_245 : (Jvm.Cond.fieldLink "MapForge$TypeList" (35 : Nat) "MapForge$Frame" "locals" "[I") ∈ zt_Ts := zt_m 245 (by decide +kernel) (by decide +kernel)
theorem wd_246 : (Jvm.Cond.fieldLink "MapForge$Family" (47 : Nat) "MapForge$Frame" "locals" "[I") ∈ zt_Ts := zt_m 246 (by decide +kernel) (by decide +kernel)
theorem wd_247 : (Jvm.Cond.fieldLink "MapForge$Flow" (127 : Nat) "MapForge$Frame" "locals" "[I") ∈ zt_Ts := zt_m 247 (by decide +kernel) (by decide +kernel)
theorem wd_248 : (Jvm.Cond.fieldLink "MapForge$Program" (73 : Nat) "MapForge$Frame" "locals" "[I") ∈ zt_Ts := zt_m 248 (by decide +kernel) (by decide +kernel)
theorem wd_249 : (Jvm.Cond.fieldLink "MapForge$Frame" (15 : Nat) "MapForge$Frame" "stack" "[I") ∈ zt_Ts := zt_m 249 (by decide +kernel) (by decide +kernel)
theorem wd_250 : (Jvm.Cond.fieldLink "MapForge$Writer" (101 : Nat) "MapForge$Frame" "stack" "[I") ∈ zt_Ts := zt_m 250 (by decide +kernel) (by decide +kernel)
theorem wd_251 : (Jvm.Cond.fieldLink "MapForge$Family" (54 : Nat) "MapForge$Frame" "stack" "[I") ∈ zt_Ts := zt_m 251 (by decide +kernel) (by decide +kernel)
theorem wd_252 : (Jvm.Cond.fieldLink "MapForge$Flow" (136 : Nat) "MapForge$Frame" "stack" "[I") ∈ zt_Ts := zt_m 252 (by decide +kernel) (by decide +kernel)
theorem wd_253 : (Jvm.Cond.fieldLink "MapForge$Frame" (24 : Nat) "MapForge$Frame" "depth" "I") ∈ zt_Ts := zt_m 253 (by decide +kernel) (by decide +kernel)
theorem wd_254 : (Jvm.Cond.fieldLink "MapForge$Writer" (94 : Nat) "MapForge$Frame" "depth" "I") ∈ zt_Ts := zt_m 254 (by decide +kernel) (by decide +kernel)
theorem wd_255 : (Jvm.Cond.fieldLink "MapForge$Family" (43 : Nat) "MapForge$Frame" "depth" "I") ∈ zt_Ts := zt_m 255 (by decide +kernel) (by decide +kernel)
theorem wd_256 : (Jvm.Cond.fieldLink "MapForge$Flow" (121 : Nat) "MapForge$Frame" "depth" "I") ∈ zt_Ts := zt_m 256 (by decide +kernel) (by decide +kernel)
theorem wd_257 : (Jvm.Cond.fieldLink "MapForge$Frame" (28 : Nat) "MapForge$Frame" "slots" "I") ∈ zt_Ts := zt_m 257 (by decide +kernel) (by decide +kernel)
theorem wd_258 : (Jvm.Cond.fieldLink "MapForge$Frame" (31 : Nat) "MapForge$Frame" "raw" "Z") ∈ zt_Ts := zt_m 258 (by decide +kernel) (by decide +kernel)
theorem wd_259 : (Jvm.Cond.fieldLink "MapForge$Reader" (117 : Nat) "MapForge$Frame" "raw" "Z") ∈ zt_Ts := zt_m 259 (by decide +kernel) (by decide +kernel)
theorem wd_260 : (Jvm.Cond.fieldLink "MapForge$Family" (37 : Nat) "MapForge$Frame" "raw" "Z") ∈ zt_Ts := zt_m 260 (by decide +kernel) (by decide +kernel)
theorem wd_261 : (Jvm.Cond.fieldLink "MapForge$Machine" (97 : Nat) "MapForge$Frame" "raw" "Z") ∈ zt_Ts := zt_m 261 (by decide +kernel) (by decide +kernel)
theorem wd_262 : (Jvm.Cond.fieldLink "MapForge$Flow" (124 : Nat) "MapForge$Frame" "raw" "Z") ∈ zt_Ts := zt_m 262 (by decide +kernel) (by decide +kernel)
theorem wd_263 : (Jvm.Cond.fieldLink "MapForge$Program" (87 : Nat) "MapForge$Frame" "raw" "Z") ∈ zt_Ts := zt_m 263 (by decide +kernel) (by decide +kernel)
theorem wd_264 : (Jvm.Cond.laysFinal "MapForge$Frame" "MapForge$Frame" "locals" "[I") ∈ zt_Ts := zt_m 264 (by decide +kernel) (by decide +kernel)
theorem wd_266 : (Jvm.Cond.laysFinal "MapForge$Frame" "MapForge$Frame" "stack" "[I") ∈ zt_Ts := zt_m 266 (by decide +kernel) (by decide +kernel)
theorem wd_268 : (Jvm.Cond.lays "MapForge$Frame" "MapForge$Frame" "depth" "I") ∈ zt_Ts := zt_m 268 (by decide +kernel) (by decide +kernel)
theorem wd_270 : (Jvm.Cond.lays "MapForge$Frame" "MapForge$Frame" "slots" "I") ∈ zt_Ts := zt_m 270 (by decide +kernel) (by decide +kernel)
theorem wd_272 : (Jvm.Cond.lays "MapForge$Frame" "MapForge$Frame" "raw" "Z") ∈ zt_Ts := zt_m 272 (by decide +kernel) (by decide +kernel)
theorem wd_275 : (Jvm.Cond.fieldLink "MapForge$Flow" (32 : Nat) "MapForge$Flow" "family" "LMapForge$Family;") ∈ zt_Ts := zt_m 275 (by decide +kernel) (by decide +kernel)
theorem wd_276 : (Jvm.Cond.fieldLink "MapForge$Flow" (36 : Nat) "MapForge$Flow" "program" "LMapForge$Program;") ∈ zt_Ts := zt_m 276 (by decide +kernel) (by decide +kernel)
theorem wd_277 : (Jvm.Cond.fieldLink "MapForge$Flow" (40 : Nat) "MapForge$Flow" "machine" "LMapForge$Machine;") ∈ zt_Ts := zt_m 277 (by decide +kernel) (by decide +kernel)
theorem wd_278 : (Jvm.Cond.fieldLink "MapForge$Flow" (11 : Nat) "MapForge$Flow" "frames" "[LMapForge$Frame;") ∈ zt_Ts := zt_m 278 (by decide +kernel) (by decide +kernel)
theorem wd_279 : (Jvm.Cond.fieldLink "MapForge$Writer" (63 : Nat) "MapForge$Flow" "frames" "[LMapForge$Frame;") ∈ zt_Ts := zt_m 279 (by decide +kernel) (by decide +kernel)
theorem wd_280 : (Jvm.Cond.fieldLink "MapForge" (144 : Nat) "MapForge$Flow" "frames" "[LMapForge$Frame;") ∈ zt_Ts := zt_m 280 (by decide +kernel) (by decide +kernel)
theorem wd_281 : (Jvm.Cond.fieldLink "MapForge$Flow" (17 : Nat) "MapForge$Flow" "rowHere" "[Z") ∈ zt_Ts := zt_m 281 (by decide +kernel) (by decide +kernel)
theorem wd_282 : (Jvm.Cond.fieldLink "MapForge$Writer" (57 : Nat) "MapForge$Flow" "rowHere" "[Z") ∈ zt_Ts := zt_m 282 (by decide +kernel) (by decide +kernel)
theorem wd_283 : (Jvm.Cond.fieldLink "MapForge$Flow" (21 : Nat) "MapForge$Flow" "reached" "[Z") ∈ zt_Ts := zt_m 283 (by decide +kernel) (by decide +kernel)
theorem wd_284 : (Jvm.Cond.fieldLink "MapForge$Flow" (24 : Nat) "MapForge$Flow" "waiting" "[Z") ∈ zt_Ts := zt_m 284 (by decide +kernel) (by decide +kernel)
theorem wd_285 : (Jvm.Cond.fieldLink "MapForge$Flow" (28 : Nat) "MapForge$Flow" "work" "LMapForge$Frame;") ∈ zt_Ts := zt_m 285 (by decide +kernel) (by decide +kernel)
theorem wd_286 : (Jvm.Cond.fieldLink "MapForge$Flow" (44 : Nat) "MapForge$Flow" "known" "Z") ∈ zt_Ts := zt_m 286 (by decide +kernel) (by decide +kernel)
theorem wd_287 : (Jvm.Cond.fieldLink "MapForge" (188 : Nat) "MapForge$Flow" "known" "Z") ∈ zt_Ts := zt_m 287 (by decide +kernel) (by decide +kernel)
theorem wd_288 : (Jvm.Cond.fieldLink "MapForge$Flow" (48 : Nat) "MapForge$Flow" "right" "Z") ∈ zt_Ts := zt_m 288 (by decide +kernel) (by decide +kernel)
theorem wd_289 : (Jvm.Cond.laysFinal "MapForge$Flow" "MapForge$Flow" "family" "LMapForge$Family;") ∈ zt_Ts := zt_m 289 (by decide +kernel) (by decide +kernel)
theorem wd_291 : (Jvm.Cond.laysFinal "MapForge$Flow" "MapForge$Flow" "program" "LMapForge$Program;") ∈ zt_Ts := zt_m 291 (by decide +kernel) (by decide +kernel)
theorem wd_293 : (Jvm.Cond.laysFinal "MapForge$Flow" "MapForge$Flow" "machine" "LMapForge$Machine;") ∈ zt_Ts := zt_m 293 (by decide +kernel) (by decide +kernel)
theorem wd_295 : (Jvm.Cond.laysFinal "MapForge$Flow" "MapForge$Flow" "frames" "[LMapForge$Frame;") ∈ zt_Ts := zt_m 295 (by decide +kernel) (by decide +kernel)
theorem wd_297 : (Jvm.Cond.laysFinal "MapForge$Flow" "MapForge$Flow" "rowHere" "[Z") ∈ zt_Ts := zt_m 297 (by decide +kernel) (by decide +kernel)
theorem wd_299 : (Jvm.Cond.laysFinal "MapForge$Flow" "MapForge$Flow" "reached" "[Z") ∈ zt_Ts := zt_m 299 (by decide +kernel) (by decide +kernel)
theorem wd_301 : (Jvm.Cond.laysFinal "MapForge$Flow" "MapForge$Flow" "waiting" "[Z") ∈ zt_Ts := zt_m 301 (by decide +kernel) (by decide +kernel)
theorem wd_303 : (Jvm.Cond.laysFinal "MapForge$Flow" "MapForge$Flow" "work" "LMapForge$Frame;") ∈ zt_Ts := zt_m 303 (by decide +kernel) (by decide +kernel)
theorem wd_305 : (Jvm.Cond.lays "MapForge$Flow" "MapForge$Flow" "known" "Z") ∈ zt_Ts := zt_m 305 (by decide +kernel) (by decide +kernel)
theorem wd_307 : (Jvm.Cond.lays "MapForge$Flow" "MapForge$Flow" "right" "Z") ∈ zt_Ts := zt_m 307 (by decide +kernel) (by decide +kernel)
theorem wd_324 : (Jvm.Cond.fieldLink "MapForge$TypeList" (9 : Nat) "MapForge$TypeList" "types" "[I") ∈ zt_Ts := zt_m 324 (by decide +kernel) (by decide +kernel)
theorem wd_325 : (Jvm.Cond.fieldLink "MapForge$Writer" (114 : Nat) "MapForge$TypeList" "types" "[I") ∈ zt_Ts := zt_m 325 (by decide +kernel) (by decide +kernel)
theorem wd_326 : (Jvm.Cond.fieldLink "MapForge$TypeList" (15 : Nat) "MapForge$TypeList" "size" "I") ∈ zt_Ts := zt_m 326 (by decide +kernel) (by decide +kernel)
theorem wd_327 : (Jvm.Cond.fieldLink "MapForge$Writer" (83 : Nat) "MapForge$TypeList" "size" "I") ∈ zt_Ts := zt_m 327 (by decide +kernel) (by decide +kernel)
theorem wd_328 : (Jvm.Cond.fieldLink "MapForge$Reader" (130 : Nat) "MapForge$TypeList" "size" "I") ∈ zt_Ts := zt_m 328 (by decide +kernel) (by decide +kernel)
theorem wd_329 : (Jvm.Cond.fieldLink "MapForge$TypeList" (19 : Nat) "MapForge$TypeList" "width" "I") ∈ zt_Ts := zt_m 329 (by decide +kernel) (by decide +kernel)
theorem wd_330 : (Jvm.Cond.laysFinal "MapForge$TypeList" "MapForge$TypeList" "types" "[I") ∈ zt_Ts := zt_m 330 (by decide +kernel) (by decide +kernel)
theorem wd_332 : (Jvm.Cond.lays "MapForge$TypeList" "MapForge$TypeList" "size" "I") ∈ zt_Ts := zt_m 332 (by decide +kernel) (by decide +kernel)
theorem wd_334 : (Jvm.Cond.lays "MapForge$TypeList" "MapForge$TypeList" "width" "I") ∈ zt_Ts := zt_m 334 (by decide +kernel) (by decide +kernel)
theorem wd_339 : (Jvm.Cond.fieldLink "MapForge$Writer" (35 : Nat) "MapForge$Writer" "program" "LMapForge$Program;") ∈ zt_Ts := zt_m 339 (by decide +kernel) (by decide +kernel)
theorem wd_340 : (Jvm.Cond.fieldLink "MapForge$Writer" (39 : Nat) "MapForge$Writer" "flow" "LMapForge$Flow;") ∈ zt_Ts := zt_m 340 (by decide +kernel) (by decide +kernel)
theorem wd_341 : (Jvm.Cond.fieldLink "MapForge$Writer" (12 : Nat) "MapForge$Writer" "first" "LMapForge$Frame;") ∈ zt_Ts := zt_m 341 (by decide +kernel) (by decide +kernel)
theorem wd_342 : (Jvm.Cond.fieldLink "MapForge$Writer" (21 : Nat) "MapForge$Writer" "before" "LMapForge$TypeList;") ∈ zt_Ts := zt_m 342 (by decide +kernel) (by decide +kernel)
theorem wd_343 : (Jvm.Cond.fieldLink "MapForge$Writer" (25 : Nat) "MapForge$Writer" "list" "LMapForge$TypeList;") ∈ zt_Ts := zt_m 343 (by decide +kernel) (by decide +kernel)
theorem wd_344 : (Jvm.Cond.fieldLink "MapForge$Writer" (31 : Nat) "MapForge$Writer" "written" "LMapForge$Bytes;") ∈ zt_Ts := zt_m 344 (by decide +kernel) (by decide +kernel)
theorem wd_345 : (Jvm.Cond.fieldLink "MapForge" (128 : Nat) "MapForge$Writer" "written" "LMapForge$Bytes;") ∈ zt_Ts := zt_m 345 (by decide +kernel) (by decide +kernel)
theorem wd_346 : (Jvm.Cond.laysFinal "MapForge$Writer" "MapForge$Writer" "program" "LMapForge$Program;") ∈ zt_Ts := zt_m 346 (by decide +kernel) (by decide +kernel)
theorem wd_348 : (Jvm.Cond.laysFinal "MapForge$Writer" "MapForge$Writer" "flow" "LMapForge$Flow;") ∈ zt_Ts := zt_m 348 (by decide +kernel) (by decide +kernel)
theorem wd_350 : (Jvm.Cond.laysFinal "MapForge$Writer" "MapForge$Writer" "first" "LMapForge$Frame;") ∈ zt_Ts := zt_m 350 (by decide +kernel) (by decide +kernel)
theorem wd_352 : (Jvm.Cond.laysFinal "MapForge$Writer" "MapForge$Writer" "before" "LMapForge$TypeList;") ∈ zt_Ts := zt_m 352 (by decide +kernel) (by decide +kernel)
theorem wd_354 : (Jvm.Cond.laysFinal "MapForge$Writer" "MapForge$Writer" "list" "LMapForge$TypeList;") ∈ zt_Ts := zt_m 354 (by decide +kernel) (by decide +kernel)
theorem wd_356 : (Jvm.Cond.laysFinal "MapForge$Writer" "MapForge$Writer" "written" "LMapForge$Bytes;") ∈ zt_Ts := zt_m 356 (by decide +kernel) (by decide +kernel)
theorem wd_369 : (Jvm.Cond.fieldLink "MapForge$Reader" (39 : Nat) "MapForge$Reader" "program" "LMapForge$Program;") ∈ zt_Ts := zt_m 369 (by decide +kernel) (by decide +kernel)
theorem wd_370 : (Jvm.Cond.fieldLink "MapForge$Reader" (43 : Nat) "MapForge$Reader" "bytes" "LMapForge$Bytes;") ∈ zt_Ts := zt_m 370 (by decide +kernel) (by decide +kernel)
theorem wd_371 : (Jvm.Cond.fieldLink "MapForge$Reader" (12 : Nat) "MapForge$Reader" "first" "LMapForge$Frame;") ∈ zt_Ts := zt_m 371 (by decide +kernel) (by decide +kernel)
theorem wd_372 : (Jvm.Cond.fieldLink "MapForge$Reader" (21 : Nat) "MapForge$Reader" "list" "LMapForge$TypeList;") ∈ zt_Ts := zt_m 372 (by decide +kernel) (by decide +kernel)
theorem wd_373 : (Jvm.Cond.fieldLink "MapForge$Reader" (25 : Nat) "MapForge$Reader" "frames" "[LMapForge$Frame;") ∈ zt_Ts := zt_m 373 (by decide +kernel) (by decide +kernel)
theorem wd_374 : (Jvm.Cond.fieldLink "MapForge$Checker" (76 : Nat) "MapForge$Reader" "frames" "[LMapForge$Frame;") ∈ zt_Ts := zt_m 374 (by decide +kernel) (by decide +kernel)
theorem wd_375 : (Jvm.Cond.fieldLink "MapForge" (177 : Nat) "MapForge$Reader" "frames" "[LMapForge$Frame;") ∈ zt_Ts := zt_m 375 (by decide +kernel) (by decide +kernel)
theorem wd_376 : (Jvm.Cond.fieldLink "MapForge$Reader" (29 : Nat) "MapForge$Reader" "offsets" "[I") ∈ zt_Ts := zt_m 376 (by decide +kernel) (by decide +kernel)
theorem wd_377 : (Jvm.Cond.fieldLink "MapForge" (171 : Nat) "MapForge$Reader" "offsets" "[I") ∈ zt_Ts := zt_m 377 (by decide +kernel) (by decide +kernel)
theorem wd_378 : (Jvm.Cond.fieldLink "MapForge$Reader" (33 : Nat) "MapForge$Reader" "firstBytes" "[I") ∈ zt_Ts := zt_m 378 (by decide +kernel) (by decide +kernel)
theorem wd_379 : (Jvm.Cond.fieldLink "MapForge" (174 : Nat) "MapForge$Reader" "firstBytes" "[I") ∈ zt_Ts := zt_m 379 (by decide +kernel) (by decide +kernel)
theorem wd_380 : (Jvm.Cond.fieldLink "MapForge$Reader" (36 : Nat) "MapForge$Reader" "rowAt" "[I") ∈ zt_Ts := zt_m 380 (by decide +kernel) (by decide +kernel)
theorem wd_381 : (Jvm.Cond.fieldLink "MapForge$Checker" (71 : Nat) "MapForge$Reader" "rowAt" "[I") ∈ zt_Ts := zt_m 381 (by decide +kernel) (by decide +kernel)
theorem wd_382 : (Jvm.Cond.fieldLink "MapForge$Reader" (57 : Nat) "MapForge$Reader" "rows" "I") ∈ zt_Ts := zt_m 382 (by decide +kernel) (by decide +kernel)
theorem wd_383 : (Jvm.Cond.fieldLink "MapForge" (168 : Nat) "MapForge$Reader" "rows" "I") ∈ zt_Ts := zt_m 383 (by decide +kernel) (by decide +kernel)
theorem wd_384 : (Jvm.Cond.fieldLink "MapForge$Reader" (47 : Nat) "MapForge$Reader" "known" "Z") ∈ zt_Ts := zt_m 384 (by decide +kernel) (by decide +kernel)
theorem wd_385 : (Jvm.Cond.fieldLink "MapForge" (136 : Nat) "MapForge$Reader" "known" "Z") ∈ zt_Ts := zt_m 385 (by decide +kernel) (by decide +kernel)
theorem wd_386 : (Jvm.Cond.fieldLink "MapForge$Reader" (51 : Nat) "MapForge$Reader" "sound" "Z") ∈ zt_Ts := zt_m 386 (by decide +kernel) (by decide +kernel)
theorem wd_387 : (Jvm.Cond.fieldLink "MapForge$Reader" (61 : Nat) "MapForge$Reader" "next" "I") ∈ zt_Ts := zt_m 387 (by decide +kernel) (by decide +kernel)
theorem wd_388 : (Jvm.Cond.laysFinal "MapForge$Reader" "MapForge$Reader" "program" "LMapForge$Program;") ∈ zt_Ts := zt_m 388 (by decide +kernel) (by decide +kernel)
theorem wd_390 : (Jvm.Cond.laysFinal "MapForge$Reader" "MapForge$Reader" "bytes" "LMapForge$Bytes;") ∈ zt_Ts := zt_m 390 (by decide +kernel) (by decide +kernel)
theorem wd_392 : (Jvm.Cond.laysFinal "MapForge$Reader" "MapForge$Reader" "first" "LMapForge$Frame;") ∈ zt_Ts := zt_m 392 (by decide +kernel) (by decide +kernel)
theorem wd_394 : (Jvm.Cond.laysFinal "MapForge$Reader" "MapForge$Reader" "list" "LMapForge$TypeList;") ∈ zt_Ts := zt_m 394 (by decide +kernel) (by decide +kernel)
theorem wd_396 : (Jvm.Cond.laysFinal "MapForge$Reader" "MapForge$Reader" "frames" "[LMapForge$Frame;") ∈ zt_Ts := zt_m 396 (by decide +kernel) (by decide +kernel)
theorem wd_398 : (Jvm.Cond.laysFinal "MapForge$Reader" "MapForge$Reader" "offsets" "[I") ∈ zt_Ts := zt_m 398 (by decide +kernel) (by decide +kernel)
theorem wd_400 : (Jvm.Cond.laysFinal "MapForge$Reader" "MapForge$Reader" "firstBytes" "[I") ∈ zt_Ts := zt_m 400 (by decide +kernel) (by decide +kernel)
theorem wd_402 : (Jvm.Cond.laysFinal "MapForge$Reader" "MapForge$Reader" "rowAt" "[I") ∈ zt_Ts := zt_m 402 (by decide +kernel) (by decide +kernel)
theorem wd_404 : (Jvm.Cond.lays "MapForge$Reader" "MapForge$Reader" "rows" "I") ∈ zt_Ts := zt_m 404 (by decide +kernel) (by decide +kernel)
theorem wd_406 : (Jvm.Cond.lays "MapForge$Reader" "MapForge$Reader" "known" "Z") ∈ zt_Ts := zt_m 406 (by decide +kernel) (by decide +kernel)
theorem wd_408 : (Jvm.Cond.lays "MapForge$Reader" "MapForge$Reader" "sound" "Z") ∈ zt_Ts := zt_m 408 (by decide +kernel) (by decide +kernel)
theorem wd_410 : (Jvm.Cond.lays "MapForge$Reader" "MapForge$Reader" "next" "I") ∈ zt_Ts := zt_m 410 (by decide +kernel) (by decide +kernel)
theorem wd_421 : (Jvm.Cond.fieldLink "MapForge$Checker" (21 : Nat) "MapForge$Checker" "family" "LMapForge$Family;") ∈ zt_Ts := zt_m 421 (by decide +kernel) (by decide +kernel)
theorem wd_422 : (Jvm.Cond.fieldLink "MapForge$Checker" (25 : Nat) "MapForge$Checker" "program" "LMapForge$Program;") ∈ zt_Ts := zt_m 422 (by decide +kernel) (by decide +kernel)
theorem wd_423 : (Jvm.Cond.fieldLink "MapForge$Checker" (29 : Nat) "MapForge$Checker" "machine" "LMapForge$Machine;") ∈ zt_Ts := zt_m 423 (by decide +kernel) (by decide +kernel)
theorem wd_424 : (Jvm.Cond.fieldLink "MapForge$Checker" (33 : Nat) "MapForge$Checker" "reader" "LMapForge$Reader;") ∈ zt_Ts := zt_m 424 (by decide +kernel) (by decide +kernel)
theorem wd_425 : (Jvm.Cond.fieldLink "MapForge$Checker" (12 : Nat) "MapForge$Checker" "now" "LMapForge$Frame;") ∈ zt_Ts := zt_m 425 (by decide +kernel) (by decide +kernel)
theorem wd_426 : (Jvm.Cond.fieldLink "MapForge$Checker" (18 : Nat) "MapForge$Checker" "thrown" "LMapForge$Frame;") ∈ zt_Ts := zt_m 426 (by decide +kernel) (by decide +kernel)
theorem wd_427 : (Jvm.Cond.laysFinal "MapForge$Checker" "MapForge$Checker" "family" "LMapForge$Family;") ∈ zt_Ts := zt_m 427 (by decide +kernel) (by decide +kernel)
theorem wd_429 : (Jvm.Cond.laysFinal "MapForge$Checker" "MapForge$Checker" "program" "LMapForge$Program;") ∈ zt_Ts := zt_m 429 (by decide +kernel) (by decide +kernel)
theorem wd_431 : (Jvm.Cond.laysFinal "MapForge$Checker" "MapForge$Checker" "machine" "LMapForge$Machine;") ∈ zt_Ts := zt_m 431 (by decide +kernel) (by decide +kernel)
theorem wd_433 : (Jvm.Cond.laysFinal "MapForge$Checker" "MapForge$Checker" "reader" "LMapForge$Reader;") ∈ zt_Ts := zt_m 433 (by decide +kernel) (by decide +kernel)
theorem wd_435 : (Jvm.Cond.laysFinal "MapForge$Checker" "MapForge$Checker" "now" "LMapForge$Frame;") ∈ zt_Ts := zt_m 435 (by decide +kernel) (by decide +kernel)
theorem wd_437 : (Jvm.Cond.laysFinal "MapForge$Checker" "MapForge$Checker" "thrown" "LMapForge$Frame;") ∈ zt_Ts := zt_m 437 (by decide +kernel) (by decide +kernel)
theorem wd_440 : (Jvm.Cond.fieldLink "MapForge" (12 : Nat) "MapForge" "family" "LMapForge$Family;") ∈ zt_Ts := zt_m 440 (by decide +kernel) (by decide +kernel)
theorem wd_441 : (Jvm.Cond.fieldLink "MapForge" (19 : Nat) "MapForge" "program" "LMapForge$Program;") ∈ zt_Ts := zt_m 441 (by decide +kernel) (by decide +kernel)
theorem wd_442 : (Jvm.Cond.fieldLink "MapForge" (26 : Nat) "MapForge" "bytes" "LMapForge$Bytes;") ∈ zt_Ts := zt_m 442 (by decide +kernel) (by decide +kernel)
theorem wd_443 : (Jvm.Cond.fieldLink "MapForge" (40 : Nat) "MapForge" "flow" "LMapForge$Flow;") ∈ zt_Ts := zt_m 443 (by decide +kernel) (by decide +kernel)
theorem wd_444 : (Jvm.Cond.fieldLink "MapForge" (49 : Nat) "MapForge" "writer" "LMapForge$Writer;") ∈ zt_Ts := zt_m 444 (by decide +kernel) (by decide +kernel)
theorem wd_445 : (Jvm.Cond.fieldLink "MapForge" (58 : Nat) "MapForge" "reader" "LMapForge$Reader;") ∈ zt_Ts := zt_m 445 (by decide +kernel) (by decide +kernel)
theorem wd_446 : (Jvm.Cond.fieldLink "MapForge" (67 : Nat) "MapForge" "checker" "LMapForge$Checker;") ∈ zt_Ts := zt_m 446 (by decide +kernel) (by decide +kernel)
theorem wd_447 : (Jvm.Cond.laysFinal "MapForge" "MapForge" "family" "LMapForge$Family;") ∈ zt_Ts := zt_m 447 (by decide +kernel) (by decide +kernel)
theorem wd_449 : (Jvm.Cond.laysFinal "MapForge" "MapForge" "program" "LMapForge$Program;") ∈ zt_Ts := zt_m 449 (by decide +kernel) (by decide +kernel)
theorem wd_451 : (Jvm.Cond.laysFinal "MapForge" "MapForge" "bytes" "LMapForge$Bytes;") ∈ zt_Ts := zt_m 451 (by decide +kernel) (by decide +kernel)
theorem wd_453 : (Jvm.Cond.laysFinal "MapForge" "MapForge" "flow" "LMapForge$Flow;") ∈ zt_Ts := zt_m 453 (by decide +kernel) (by decide +kernel)
theorem wd_455 : (Jvm.Cond.laysFinal "MapForge" "MapForge" "writer" "LMapForge$Writer;") ∈ zt_Ts := zt_m 455 (by decide +kernel) (by decide +kernel)
theorem wd_457 : (Jvm.Cond.laysFinal "MapForge" "MapForge" "reader" "LMapForge$Reader;") ∈ zt_Ts := zt_m 457 (by decide +kernel) (by decide +kernel)
theorem wd_459 : (Jvm.Cond.laysFinal "MapForge" "MapForge" "checker" "LMapForge$Checker;") ∈ zt_Ts := zt_m 459 (by decide +kernel) (by decide +kernel)
theorem wd_466 : (Jvm.Cond.methodLink "MapForge" (71 : Nat) ({ cls := "MapForge$Family", name := "describe", desc := "(IIZ)V" } : Jvm.MethodName)) ∈ zt_Ts := zt_m 466 (by decide +kernel) (by decide +kernel)
theorem wd_467 : (Jvm.Cond.instanceMethod ({ cls := "MapForge$Family", name := "describe", desc := "(IIZ)V" } : Jvm.MethodName)) ∈ zt_Ts := zt_m 467 (by decide +kernel) (by decide +kernel)
theorem wd_468 : (Jvm.Cond.selects "MapForge$Family" ({ cls := "MapForge$Family", name := "describe", desc := "(IIZ)V" } : Jvm.MethodName) ({ cls := "MapForge$Family", name := "describe", desc := "(IIZ)V" } : Jvm.MethodName)) ∈ zt_Ts := zt_m 468 (by decide +kernel) (by decide +kernel)
theorem wd_469 : (Jvm.Cond.code ({ cls := "MapForge$Family", name := "describe", desc := "(IIZ)V" } : Jvm.MethodName) prog_4_method_2_code (5 : Nat) (Option.none : Option Jvm.ClassFile.FieldType)) ∈ zt_Ts := zt_m 469 (by decide +kernel) (by decide +kernel)
theorem wd_470 : (Jvm.Cond.methodLink "MapForge" (75 : Nat) ({ cls := "MapForge", name := "forgetFindings", desc := "()V" } : Jvm.MethodName)) ∈ zt_Ts := zt_m 470 (by decide +kernel) (by decide +kernel)
theorem wd_472 : (Jvm.Cond.instanceMethod ({ cls := "MapForge", name := "forgetFindings", desc := "()V" } : Jvm.MethodName)) ∈ zt_Ts := zt_m 472 (by decide +kernel) (by decide +kernel)
theorem wd_473 : (Jvm.Cond.code ({ cls := "MapForge", name := "forgetFindings", desc := "()V" } : Jvm.MethodName) prog_1_method_17_code (1 : Nat) (Option.none : Option Jvm.ClassFile.FieldType)) ∈ zt_Ts := zt_m 473 (by decide +kernel) (by decide +kernel)
theorem wd_478 : (Jvm.Cond.methodLink "MapForge" (78 : Nat) ({ cls := "MapForge", name := "isClass", desc := "(I)Z" } : Jvm.MethodName)) ∈ zt_Ts := zt_m 478 (by decide +kernel) (by decide +kernel)
theorem wd_479 : (Jvm.Cond.static ({ cls := "MapForge", name := "isClass", desc := "(I)Z" } : Jvm.MethodName)) ∈ zt_Ts := zt_m 479 (by decide +kernel) (by decide +kernel)
theorem wd_480 : (Jvm.Cond.code ({ cls := "MapForge", name := "isClass", desc := "(I)Z" } : Jvm.MethodName) prog_1_method_18_code (1 : Nat) (Option.some Jvm.ClassFile.FieldType.boolean)) ∈ zt_Ts := zt_m 480 (by decide +kernel) (by decide +kernel)
theorem wd_481 : (Jvm.Cond.methodLink "MapForge" (82 : Nat) ({ cls := "MapForge$Program", name := "begin", desc := "(IIZ)V" } : Jvm.MethodName)) ∈ zt_Ts := zt_m 481 (by decide +kernel) (by decide +kernel)
theorem wd_482 : (Jvm.Cond.instanceMethod ({ cls := "MapForge$Program", name := "begin", desc := "(IIZ)V" } : Jvm.MethodName)) ∈ zt_Ts := zt_m 482 (by decide +kernel) (by decide +kernel)
theorem wd_483 : (Jvm.Cond.selects "MapForge$Program" ({ cls := "MapForge$Program", name := "begin", desc := "(IIZ)V" } : Jvm.MethodName) ({ cls := "MapForge$Program", name := "begin", desc := "(IIZ)V" } : Jvm.MethodName)) ∈ zt_Ts := zt_m 483 (by decide +kernel) (by decide +kernel)
theorem wd_484 : (Jvm.Cond.code ({ cls := "MapForge$Program", name := "begin", desc := "(IIZ)V" } : Jvm.MethodName) prog_8_method_2_code (4 : Nat) (Option.none : Option Jvm.ClassFile.FieldType)) ∈ zt_Ts := zt_m 484 (by decide +kernel) (by decide +kernel)
theorem wd_489 : (Jvm.Cond.methodLink "MapForge" (85 : Nat) ({ cls := "MapForge", name := "kindOf", desc := "(I)I" } : Jvm.MethodName)) ∈ zt_Ts := zt_m 489 (by decide +kernel) (by decide +kernel)
theorem wd_490 : (Jvm.Cond.static ({ cls := "MapForge", name := "kindOf", desc := "(I)I" } : Jvm.MethodName)) ∈ zt_Ts := zt_m 490 (by decide +kernel) (by decide +kernel)
theorem wd_491 : (Jvm.Cond.code ({ cls := "MapForge", name := "kindOf", desc := "(I)I" } : Jvm.MethodName) prog_1_method_27_code (1 : Nat) (Option.some Jvm.ClassFile.FieldType.int)) ∈ zt_Ts := zt_m 491 (by decide +kernel) (by decide +kernel)
theorem wd_492 : (Jvm.Cond.methodLink "MapForge" (89 : Nat) ({ cls := "MapForge", name := "partOf", desc := "(I)I" } : Jvm.MethodName)) ∈ zt_Ts := zt_m 492 (by decide +kernel) (by decide +kernel)
theorem wd_493 : (Jvm.Cond.static ({ cls := "MapForge", name := "partOf", desc := "(I)I" } : Jvm.MethodName)) ∈ zt_Ts := zt_m 493 (by decide +kernel) (by decide +kernel)
theorem wd_494 : (Jvm.Cond.code ({ cls := "MapForge", name := "partOf", desc := "(I)I" } : Jvm.MethodName) prog_1_method_28_code (1 : Nat) (Option.some Jvm.ClassFile.FieldType.int)) ∈ zt_Ts := zt_m 494 (by decide +kernel) (by decide +kernel)
theorem wd_499 : (Jvm.Cond.methodLink "MapForge" (100 : Nat) ({ cls := "MapForge", name := "isInstruction", desc := "(III)Z" } : Jvm.MethodName)) ∈ zt_Ts := zt_m 499 (by decide +kernel) (by decide +kernel)
theorem wd_500 : (Jvm.Cond.static ({ cls := "MapForge", name := "isInstruction", desc := "(III)Z" } : Jvm.MethodName)) ∈ zt_Ts := zt_m 500 (by decide +kernel) (by decide +kernel)
theorem wd_501 : (Jvm.Cond.code ({ cls := "MapForge", name := "isInstruction", desc := "(III)Z" } : Jvm.MethodName) prog_1_method_21_code (3 : Nat) (Option.some Jvm.ClassFile.FieldType.boolean)) ∈ zt_Ts := zt_m 501 (by decide +kernel) (by decide +kernel)
theorem wd_502 : (Jvm.Cond.methodLink "MapForge" (189 : Nat) ({ cls := "MapForge", name := "hasLocal", desc := "(I)Z" } : Jvm.MethodName)) ∈ zt_Ts := zt_m 502 (by decide +kernel) (by decide +kernel)
theorem wd_503 : (Jvm.Cond.static ({ cls := "MapForge", name := "hasLocal", desc := "(I)Z" } : Jvm.MethodName)) ∈ zt_Ts := zt_m 503 (by decide +kernel) (by decide +kernel)
theorem wd_504 : (Jvm.Cond.code ({ cls := "MapForge", name := "hasLocal", desc := "(I)Z" } : Jvm.MethodName) prog_1_method_22_code (1 : Nat) (Option.some Jvm.ClassFile.FieldType.boolean)) ∈ zt_Ts := zt_m 504 (by decide +kernel) (by decide +kernel)
theorem wd_505 : (Jvm.Cond.methodLink "MapForge" (192 : Nat) ({ cls := "MapForge", name := "localKindOf", desc := "(I)I" } : Jvm.MethodName)) ∈ zt_Ts := zt_m 505 (by decide +kernel) (by decide +kernel)
theorem wd_506 : (Jvm.Cond.static ({ cls := "MapForge", name := "localKindOf", desc := "(I)I" } : Jvm.MethodName)) ∈ zt_Ts := zt_m 506 (by decide +kernel) (by decide +kernel)
theorem wd_507 : (Jvm.Cond.code ({ cls := "MapForge", name := "localKindOf", desc := "(I)I" } : Jvm.MethodName) prog_1_method_25_code (1 : Nat) (Option.some Jvm.ClassFile.FieldType.int)) ∈ zt_Ts := zt_m 507 (by decide +kernel) (by decide +kernel)
theorem wd_508 : (Jvm.Cond.fieldLink "MapForge" (201 : Nat) "MapForge" "KINDS" "[I") ∈ zt_Ts := zt_m 508 (by decide +kernel) (by decide +kernel)
theorem wd_510 : (Jvm.Cond.methodLink "MapForge" (195 : Nat) ({ cls := "MapForge", name := "widthOf", desc := "(I)I" } : Jvm.MethodName)) ∈ zt_Ts := zt_m 510 (by decide +kernel) (by decide +kernel)
theorem wd_511 : (Jvm.Cond.static ({ cls := "MapForge", name := "widthOf", desc := "(I)I" } : Jvm.MethodName)) ∈ zt_Ts := zt_m 511 (by decide +kernel) (by decide +kernel)
theorem wd_512 : (Jvm.Cond.code ({ cls := "MapForge", name := "widthOf", desc := "(I)I" } : Jvm.MethodName) prog_1_method_30_code (1 : Nat) (Option.some Jvm.ClassFile.FieldType.int)) ∈ zt_Ts := zt_m 512 (by decide +kernel) (by decide +kernel)
theorem wd_513 : (Jvm.Cond.methodLink "MapForge" (198 : Nat) ({ cls := "MapForge", name := "isJump", desc := "(I)Z" } : Jvm.MethodName)) ∈ zt_Ts := zt_m 513 (by decide +kernel) (by decide +kernel)
theorem wd_514 : (Jvm.Cond.static ({ cls := "MapForge", name := "isJump", desc := "(I)Z" } : Jvm.MethodName)) ∈ zt_Ts := zt_m 514 (by decide +kernel) (by decide +kernel)
theorem wd_515 : (Jvm.Cond.code ({ cls := "MapForge", name := "isJump", desc := "(I)Z" } : Jvm.MethodName) prog_1_method_23_code (1 : Nat) (Option.some Jvm.ClassFile.FieldType.boolean)) ∈ zt_Ts := zt_m 515 (by decide +kernel) (by decide +kernel)
theorem wd_516 : (Jvm.Cond.methodLink "MapForge" (111 : Nat) ({ cls := "MapForge", name := "isPlace", desc := "(I)Z" } : Jvm.MethodName)) ∈ zt_Ts := zt_m 516 (by decide +kernel) (by decide +kernel)
theorem wd_517 : (Jvm.Cond.static ({ cls := "MapForge", name := "isPlace", desc := "(I)Z" } : Jvm.MethodName)) ∈ zt_Ts := zt_m 517 (by decide +kernel) (by decide +kernel)
theorem wd_518 : (Jvm.Cond.code ({ cls := "MapForge", name := "isPlace", desc := "(I)Z" } : Jvm.MethodName) prog_1_method_19_code (1 : Nat) (Option.some Jvm.ClassFile.FieldType.boolean)) ∈ zt_Ts := zt_m 518 (by decide +kernel) (by decide +kernel)
theorem wd_519 : (Jvm.Cond.methodLink "MapForge" (107 : Nat) ({ cls := "MapForge$Program", name := "write", desc := "(IIII)V" } : Jvm.MethodName)) ∈ zt_Ts := zt_m 519 (by decide +kernel) (by decide +kernel)
theorem wd_520 : (Jvm.Cond.instanceMethod ({ cls := "MapForge$Program", name := "write", desc := "(IIII)V" } : Jvm.MethodName)) ∈ zt_Ts := zt_m 520 (by decide +kernel) (by decide +kernel)
theorem wd_521 : (Jvm.Cond.selects "MapForge$Program" ({ cls := "MapForge$Program", name := "write", desc := "(IIII)V" } : Jvm.MethodName) ({ cls := "MapForge$Program", name := "write", desc := "(IIII)V" } : Jvm.MethodName)) ∈ zt_Ts := zt_m 521 (by decide +kernel) (by decide +kernel)
theorem wd_522 : (Jvm.Cond.code ({ cls := "MapForge$Program", name := "write", desc := "(IIII)V" } : Jvm.MethodName) prog_8_method_3_code (6 : Nat) (Option.none : Option Jvm.ClassFile.FieldType)) ∈ zt_Ts := zt_m 522 (by decide +kernel) (by decide +kernel)
theorem wd_523 : (Jvm.Cond.methodLinkNest "MapForge$Program" (59 : Nat) ({ cls := "MapForge", name := "hasLocal", desc := "(I)Z" } : Jvm.MethodName) "MapForge") ∈ zt_Ts := zt_m 523 (by decide +kernel) (by decide +kernel)
theorem wd_524 : (Jvm.Cond.methodLinkNest "MapForge$Program" (63 : Nat) ({ cls := "MapForge", name := "isJump", desc := "(I)Z" } : Jvm.MethodName) "MapForge") ∈ zt_Ts := zt_m 524 (by decide +kernel) (by decide +kernel)
theorem wd_525 : (Jvm.Cond.methodLinkNest "MapForge$Program" (66 : Nat) ({ cls := "MapForge", name := "lengthOf", desc := "(I)I" } : Jvm.MethodName) "MapForge") ∈ zt_Ts := zt_m 525 (by decide +kernel) (by decide +kernel)
theorem wd_526 : (Jvm.Cond.static ({ cls := "MapForge", name := "lengthOf", desc := "(I)I" } : Jvm.MethodName)) ∈ zt_Ts := zt_m 526 (by decide +kernel) (by decide +kernel)
theorem wd_527 : (Jvm.Cond.code ({ cls := "MapForge", name := "lengthOf", desc := "(I)I" } : Jvm.MethodName) prog_1_method_26_code (1 : Nat) (Option.some Jvm.ClassFile.FieldType.int)) ∈ zt_Ts := zt_m 527 (by decide +kernel) (by decide +kernel)
theorem wd_536 : (Jvm.Cond.methodLink "MapForge" (117 : Nat) ({ cls := "MapForge$Program", name := "guard", desc := "(IIII)V" } : Jvm.MethodName)) ∈ zt_Ts := zt_m 536 (by decide +kernel) (by decide +kernel)
theorem wd_537 : (Jvm.Cond.instanceMethod ({ cls := "MapForge$Program", name := "guard", desc := "(IIII)V" } : Jvm.MethodName)) ∈ zt_Ts := zt_m 537 (by decide +kernel) (by decide +kernel)
theorem wd_538 : (Jvm.Cond.selects "MapForge$Program" ({ cls := "MapForge$Program", name := "guard", desc := "(IIII)V" } : Jvm.MethodName) ({ cls := "MapForge$Program", name := "guard", desc := "(IIII)V" } : Jvm.MethodName)) ∈ zt_Ts := zt_m 538 (by decide +kernel) (by decide +kernel)
theorem wd_539 : (Jvm.Cond.code ({ cls := "MapForge$Program", name := "guard", desc := "(IIII)V" } : Jvm.MethodName) prog_8_method_4_code (5 : Nat) (Option.none : Option Jvm.ClassFile.FieldType)) ∈ zt_Ts := zt_m 539 (by decide +kernel) (by decide +kernel)
theorem wd_544 : (Jvm.Cond.methodLink "MapForge" (120 : Nat) ({ cls := "MapForge$Flow", name := "isRight", desc := "()Z" } : Jvm.MethodName)) ∈ zt_Ts := zt_m 544 (by decide +kernel) (by decide +kernel)
theorem wd_545 : (Jvm.Cond.instanceMethod ({ cls := "MapForge$Flow", name := "isRight", desc := "()Z" } : Jvm.MethodName)) ∈ zt_Ts := zt_m 545 (by decide +kernel) (by decide +kernel)
theorem wd_546 : (Jvm.Cond.selects "MapForge$Flow" ({ cls := "MapForge$Flow", name := "isRight", desc := "()Z" } : Jvm.MethodName) ({ cls := "MapForge$Flow", name := "isRight", desc := "()Z" } : Jvm.MethodName)) ∈ zt_Ts := zt_m 546 (by decide +kernel) (by decide +kernel)
theorem wd_547 : (Jvm.Cond.code ({ cls := "MapForge$Flow", name := "isRight", desc := "()Z" } : Jvm.MethodName) prog_5_method_2_code (4 : Nat) (Option.some Jvm.ClassFile.FieldType.boolean)) ∈ zt_Ts := zt_m 547 (by decide +kernel) (by decide +kernel)
theorem wd_548 : (Jvm.Cond.methodLink "MapForge$Flow" (51 : Nat) ({ cls := "MapForge$Flow", name := "begin", desc := "()V" } : Jvm.MethodName)) ∈ zt_Ts := zt_m 548 (by decide +kernel) (by decide +kernel)
theorem wd_550 : (Jvm.Cond.instanceMethod ({ cls := "MapForge$Flow", name := "begin", desc := "()V" } : Jvm.MethodName)) ∈ zt_Ts := zt_m 550 (by decide +kernel) (by decide +kernel)
theorem wd_551 : (Jvm.Cond.code ({ cls := "MapForge$Flow", name := "begin", desc := "()V" } : Jvm.MethodName) prog_5_method_3_code (2 : Nat) (Option.none : Option Jvm.ClassFile.FieldType)) ∈ zt_Ts := zt_m 551 (by decide +kernel) (by decide +kernel)
theorem wd_552 : (Jvm.Cond.methodLink "MapForge$Flow" (72 : Nat) ({ cls := "MapForge$Program", name := "enter", desc := "(LMapForge$Frame;)V" } : Jvm.MethodName)) ∈ zt_Ts := zt_m 552 (by decide +kernel) (by decide +kernel)
theorem wd_553 : (Jvm.Cond.instanceMethod ({ cls := "MapForge$Program", name := "enter", desc := "(LMapForge$Frame;)V" } : Jvm.MethodName)) ∈ zt_Ts := zt_m 553 (by decide +kernel) (by decide +kernel)
theorem wd_554 : (Jvm.Cond.selects "MapForge$Program" ({ cls := "MapForge$Program", name := "enter", desc := "(LMapForge$Frame;)V" } : Jvm.MethodName) ({ cls := "MapForge$Program", name := "enter", desc := "(LMapForge$Frame;)V" } : Jvm.MethodName)) ∈ zt_Ts := zt_m 554 (by decide +kernel) (by decide +kernel)
theorem wd_555 : (Jvm.Cond.code ({ cls := "MapForge$Program", name := "enter", desc := "(LMapForge$Frame;)V" } : Jvm.MethodName) prog_8_method_8_code (4 : Nat) (Option.none : Option Jvm.ClassFile.FieldType)) ∈ zt_Ts := zt_m 555 (by decide +kernel) (by decide +kernel)
theorem wd_556 : (Jvm.Cond.methodLink "MapForge$Program" (78 : Nat) ({ cls := "java/util/Arrays", name := "fill", desc := "([II)V" } : Jvm.MethodName)) ∈ zt_Ts := zt_m 556 (by decide +kernel) (by decide +kernel)
theorem wd_557 : (Jvm.Cond.static ({ cls := "java/util/Arrays", name := "fill", desc := "([II)V" } : Jvm.MethodName)) ∈ zt_Ts := zt_m 557 (by decide +kernel) (by decide +kernel)
theorem wd_558 : (Jvm.Cond.code ({ cls := "java/util/Arrays", name := "fill", desc := "([II)V" } : Jvm.MethodName) prog_16_method_103_code (4 : Nat) (Option.none : Option Jvm.ClassFile.FieldType)) ∈ zt_Ts := zt_m 558 (by decide +kernel) (by decide +kernel)
theorem wd_559 : (Jvm.Cond.methodLink "MapForge$Program" (84 : Nat) ({ cls := "MapForge$Frame", name := "emptyStack", desc := "()V" } : Jvm.MethodName)) ∈ zt_Ts := zt_m 559 (by decide +kernel) (by decide +kernel)
theorem wd_560 : (Jvm.Cond.instanceMethod ({ cls := "MapForge$Frame", name := "emptyStack", desc := "()V" } : Jvm.MethodName)) ∈ zt_Ts := zt_m 560 (by decide +kernel) (by decide +kernel)
theorem wd_561 : (Jvm.Cond.selects "MapForge$Frame" ({ cls := "MapForge$Frame", name := "emptyStack", desc := "()V" } : Jvm.MethodName) ({ cls := "MapForge$Frame", name := "emptyStack", desc := "()V" } : Jvm.MethodName)) ∈ zt_Ts := zt_m 561 (by decide +kernel) (by decide +kernel)
theorem wd_562 : (Jvm.Cond.code ({ cls := "MapForge$Frame", name := "emptyStack", desc := "()V" } : Jvm.MethodName) prog_6_method_4_code (1 : Nat) (Option.none : Option Jvm.ClassFile.FieldType)) ∈ zt_Ts := zt_m 562 (by decide +kernel) (by decide +kernel)
theorem wd_563 : (Jvm.Cond.methodLinkNest "MapForge$Program" (90 : Nat) ({ cls := "MapForge", name := "typeOf", desc := "(II)I" } : Jvm.MethodName) "MapForge") ∈ zt_Ts := zt_m 563 (by decide +kernel) (by decide +kernel)
theorem wd_564 : (Jvm.Cond.static ({ cls := "MapForge", name := "typeOf", desc := "(II)I" } : Jvm.MethodName)) ∈ zt_Ts := zt_m 564 (by decide +kernel) (by decide +kernel)
theorem wd_565 : (Jvm.Cond.code ({ cls := "MapForge", name := "typeOf", desc := "(II)I" } : Jvm.MethodName) prog_1_method_29_code (2 : Nat) (Option.some Jvm.ClassFile.FieldType.int)) ∈ zt_Ts := zt_m 565 (by decide +kernel) (by decide +kernel)
theorem wd_566 : (Jvm.Cond.methodLinkNest "MapForge$Program" (94 : Nat) ({ cls := "MapForge", name := "widthOf", desc := "(I)I" } : Jvm.MethodName) "MapForge") ∈ zt_Ts := zt_m 566 (by decide +kernel) (by decide +kernel)
theorem wd_567 : (Jvm.Cond.methodLink "MapForge$Flow" (76 : Nat) ({ cls := "MapForge$Flow", name := "arrive", desc := "(ILMapForge$Frame;)Z" } : Jvm.MethodName)) ∈ zt_Ts := zt_m 567 (by decide +kernel) (by decide +kernel)
theorem wd_569 : (Jvm.Cond.instanceMethod ({ cls := "MapForge$Flow", name := "arrive", desc := "(ILMapForge$Frame;)Z" } : Jvm.MethodName)) ∈ zt_Ts := zt_m 569 (by decide +kernel) (by decide +kernel)
theorem wd_570 : (Jvm.Cond.code ({ cls := "MapForge$Flow", name := "arrive", desc := "(ILMapForge$Frame;)Z" } : Jvm.MethodName) prog_5_method_6_code (3 : Nat) (Option.some Jvm.ClassFile.FieldType.boolean)) ∈ zt_Ts := zt_m 570 (by decide +kernel) (by decide +kernel)
theorem wd_571 : (Jvm.Cond.methodLink "MapForge$Flow" (118 : Nat) ({ cls := "MapForge$Flow", name := "joinAt", desc := "(ILMapForge$Frame;)Z" } : Jvm.MethodName)) ∈ zt_Ts := zt_m 571 (by decide +kernel) (by decide +kernel)
theorem wd_573 : (Jvm.Cond.instanceMethod ({ cls := "MapForge$Flow", name := "joinAt", desc := "(ILMapForge$Frame;)Z" } : Jvm.MethodName)) ∈ zt_Ts := zt_m 573 (by decide +kernel) (by decide +kernel)
theorem wd_574 : (Jvm.Cond.code ({ cls := "MapForge$Flow", name := "joinAt", desc := "(ILMapForge$Frame;)Z" } : Jvm.MethodName) prog_5_method_7_code (6 : Nat) (Option.some Jvm.ClassFile.FieldType.boolean)) ∈ zt_Ts := zt_m 574 (by decide +kernel) (by decide +kernel)
theorem wd_575 : (Jvm.Cond.methodLink "MapForge$Flow" (130 : Nat) ({ cls := "MapForge$Family", name := "join", desc := "(II)I" } : Jvm.MethodName)) ∈ zt_Ts := zt_m 575 (by decide +kernel) (by decide +kernel)
theorem wd_576 : (Jvm.Cond.instanceMethod ({ cls := "MapForge$Family", name := "join", desc := "(II)I" } : Jvm.MethodName)) ∈ zt_Ts := zt_m 576 (by decide +kernel) (by decide +kernel)
theorem wd_577 : (Jvm.Cond.selects "MapForge$Family" ({ cls := "MapForge$Family", name := "join", desc := "(II)I" } : Jvm.MethodName) ({ cls := "MapForge$Family", name := "join", desc := "(II)I" } : Jvm.MethodName)) ∈ zt_Ts := zt_m 577 (by decide +kernel) (by decide +kernel)
theorem wd_578 : (Jvm.Cond.code ({ cls := "MapForge$Family", name := "join", desc := "(II)I" } : Jvm.MethodName) prog_4_method_5_code (5 : Nat) (Option.some Jvm.ClassFile.FieldType.int)) ∈ zt_Ts := zt_m 578 (by decide +kernel) (by decide +kernel)
theorem wd_579 : (Jvm.Cond.methodLinkNest "MapForge$Family" (29 : Nat) ({ cls := "MapForge", name := "isObjectOrNull", desc := "(I)Z" } : Jvm.MethodName) "MapForge") ∈ zt_Ts := zt_m 579 (by decide +kernel) (by decide +kernel)
theorem wd_580 : (Jvm.Cond.static ({ cls := "MapForge", name := "isObjectOrNull", desc := "(I)Z" } : Jvm.MethodName)) ∈ zt_Ts := zt_m 580 (by decide +kernel) (by decide +kernel)
theorem wd_581 : (Jvm.Cond.code ({ cls := "MapForge", name := "isObjectOrNull", desc := "(I)Z" } : Jvm.MethodName) prog_1_method_33_code (1 : Nat) (Option.some Jvm.ClassFile.FieldType.boolean)) ∈ zt_Ts := zt_m 581 (by decide +kernel) (by decide +kernel)
theorem wd_582 : (Jvm.Cond.methodLinkNest "MapForge$Family" (26 : Nat) ({ cls := "MapForge", name := "partOf", desc := "(I)I" } : Jvm.MethodName) "MapForge") ∈ zt_Ts := zt_m 582 (by decide +kernel) (by decide +kernel)
theorem wd_583 : (Jvm.Cond.methodLinkNest "MapForge$Family" (33 : Nat) ({ cls := "MapForge", name := "typeOf", desc := "(II)I" } : Jvm.MethodName) "MapForge") ∈ zt_Ts := zt_m 583 (by decide +kernel) (by decide +kernel)
theorem wd_584 : (Jvm.Cond.methodLink "MapForge$Flow" (98 : Nat) ({ cls := "MapForge$Frame", name := "takeOver", desc := "(LMapForge$Frame;)V" } : Jvm.MethodName)) ∈ zt_Ts := zt_m 584 (by decide +kernel) (by decide +kernel)
theorem wd_585 : (Jvm.Cond.instanceMethod ({ cls := "MapForge$Frame", name := "takeOver", desc := "(LMapForge$Frame;)V" } : Jvm.MethodName)) ∈ zt_Ts := zt_m 585 (by decide +kernel) (by decide +kernel)
theorem wd_586 : (Jvm.Cond.selects "MapForge$Frame" ({ cls := "MapForge$Frame", name := "takeOver", desc := "(LMapForge$Frame;)V" } : Jvm.MethodName) ({ cls := "MapForge$Frame", name := "takeOver", desc := "(LMapForge$Frame;)V" } : Jvm.MethodName)) ∈ zt_Ts := zt_m 586 (by decide +kernel) (by decide +kernel)
theorem wd_587 : (Jvm.Cond.code ({ cls := "MapForge$Frame", name := "takeOver", desc := "(LMapForge$Frame;)V" } : Jvm.MethodName) prog_6_method_2_code (2 : Nat) (Option.none : Option Jvm.ClassFile.FieldType)) ∈ zt_Ts := zt_m 587 (by decide +kernel) (by decide +kernel)
theorem wd_588 : (Jvm.Cond.methodLink "MapForge$Frame" (18 : Nat) ({ cls := "java/lang/System", name := "arraycopy", desc := "(Ljava/lang/Object;ILjava/lang/Object;II)V" } : Jvm.MethodName)) ∈ zt_Ts := zt_m 588 (by decide +kernel) (by decide +kernel)
theorem wd_589 : (Jvm.Cond.static ({ cls := "java/lang/System", name := "arraycopy", desc := "(Ljava/lang/Object;ILjava/lang/Object;II)V" } : Jvm.MethodName)) ∈ zt_Ts := zt_m 589 (by decide +kernel) (by decide +kernel)
theorem wd_590 : (Jvm.Cond.native ({ cls := "java/lang/System", name := "arraycopy", desc := "(Ljava/lang/Object;ILjava/lang/Object;II)V" } : Jvm.MethodName)) ∈ zt_Ts := zt_m 590 (by decide +kernel) (by decide +kernel)
theorem wd_591 : (Jvm.Cond.constant "MapForge$Flow" (54 : Nat) (100000 : Int32)) ∈ zt_Ts := zt_m 591 (by decide +kernel) (by decide +kernel)
theorem wd_592 : (Jvm.Cond.methodLink "MapForge$Flow" (61 : Nat) ({ cls := "MapForge$Flow", name := "leaveToHandlers", desc := "(I)Z" } : Jvm.MethodName)) ∈ zt_Ts := zt_m 592 (by decide +kernel) (by decide +kernel)
theorem wd_594 : (Jvm.Cond.instanceMethod ({ cls := "MapForge$Flow", name := "leaveToHandlers", desc := "(I)Z" } : Jvm.MethodName)) ∈ zt_Ts := zt_m 594 (by decide +kernel) (by decide +kernel)
theorem wd_595 : (Jvm.Cond.code ({ cls := "MapForge$Flow", name := "leaveToHandlers", desc := "(I)Z" } : Jvm.MethodName) prog_5_method_4_code (3 : Nat) (Option.some Jvm.ClassFile.FieldType.boolean)) ∈ zt_Ts := zt_m 595 (by decide +kernel) (by decide +kernel)
theorem wd_596 : (Jvm.Cond.methodLink "MapForge$Flow" (83 : Nat) ({ cls := "MapForge$Program", name := "isGuarded", desc := "(II)Z" } : Jvm.MethodName)) ∈ zt_Ts := zt_m 596 (by decide +kernel) (by decide +kernel)
theorem wd_597 : (Jvm.Cond.instanceMethod ({ cls := "MapForge$Program", name := "isGuarded", desc := "(II)Z" } : Jvm.MethodName)) ∈ zt_Ts := zt_m 597 (by decide +kernel) (by decide +kernel)
theorem wd_598 : (Jvm.Cond.selects "MapForge$Program" ({ cls := "MapForge$Program", name := "isGuarded", desc := "(II)Z" } : Jvm.MethodName) ({ cls := "MapForge$Program", name := "isGuarded", desc := "(II)Z" } : Jvm.MethodName)) ∈ zt_Ts := zt_m 598 (by decide +kernel) (by decide +kernel)
theorem wd_599 : (Jvm.Cond.code ({ cls := "MapForge$Program", name := "isGuarded", desc := "(II)Z" } : Jvm.MethodName) prog_8_method_5_code (3 : Nat) (Option.some Jvm.ClassFile.FieldType.boolean)) ∈ zt_Ts := zt_m 599 (by decide +kernel) (by decide +kernel)
theorem wd_600 : (Jvm.Cond.methodLink "MapForge$Flow" (91 : Nat) ({ cls := "MapForge$Frame", name := "takeOverForHandler", desc := "(LMapForge$Frame;I)V" } : Jvm.MethodName)) ∈ zt_Ts := zt_m 600 (by decide +kernel) (by decide +kernel)
theorem wd_601 : (Jvm.Cond.instanceMethod ({ cls := "MapForge$Frame", name := "takeOverForHandler", desc := "(LMapForge$Frame;I)V" } : Jvm.MethodName)) ∈ zt_Ts := zt_m 601 (by decide +kernel) (by decide +kernel)
theorem wd_602 : (Jvm.Cond.selects "MapForge$Frame" ({ cls := "MapForge$Frame", name := "takeOverForHandler", desc := "(LMapForge$Frame;I)V" } : Jvm.MethodName) ({ cls := "MapForge$Frame", name := "takeOverForHandler", desc := "(LMapForge$Frame;I)V" } : Jvm.MethodName)) ∈ zt_Ts := zt_m 602 (by decide +kernel) (by decide +kernel)
theorem wd_603 : (Jvm.Cond.code ({ cls := "MapForge$Frame", name := "takeOverForHandler", desc := "(LMapForge$Frame;I)V" } : Jvm.MethodName) prog_6_method_3_code (3 : Nat) (Option.none : Option Jvm.ClassFile.FieldType)) ∈ zt_Ts := zt_m 603 (by decide +kernel) (by decide +kernel)
theorem wd_604 : (Jvm.Cond.methodLink "MapForge$Frame" (35 : Nat) ({ cls := "MapForge$Frame", name := "takeOver", desc := "(LMapForge$Frame;)V" } : Jvm.MethodName)) ∈ zt_Ts := zt_m 604 (by decide +kernel) (by decide +kernel)
theorem wd_605 : (Jvm.Cond.methodLink "MapForge$Frame" (39 : Nat) ({ cls := "MapForge$Frame", name := "emptyStack", desc := "()V" } : Jvm.MethodName)) ∈ zt_Ts := zt_m 605 (by decide +kernel) (by decide +kernel)
theorem wd_606 : (Jvm.Cond.methodLinkNest "MapForge$Frame" (42 : Nat) ({ cls := "MapForge", name := "typeOf", desc := "(II)I" } : Jvm.MethodName) "MapForge") ∈ zt_Ts := zt_m 606 (by decide +kernel) (by decide +kernel)
theorem wd_607 : (Jvm.Cond.methodLink "MapForge$Frame" (46 : Nat) ({ cls := "MapForge$Frame", name := "push", desc := "(I)Z" } : Jvm.MethodName)) ∈ zt_Ts := zt_m 607 (by decide +kernel) (by decide +kernel)
theorem wd_608 : (Jvm.Cond.instanceMethod ({ cls := "MapForge$Frame", name := "push", desc := "(I)Z" } : Jvm.MethodName)) ∈ zt_Ts := zt_m 608 (by decide +kernel) (by decide +kernel)
theorem wd_609 : (Jvm.Cond.selects "MapForge$Frame" ({ cls := "MapForge$Frame", name := "push", desc := "(I)Z" } : Jvm.MethodName) ({ cls := "MapForge$Frame", name := "push", desc := "(I)Z" } : Jvm.MethodName)) ∈ zt_Ts := zt_m 609 (by decide +kernel) (by decide +kernel)
theorem wd_610 : (Jvm.Cond.code ({ cls := "MapForge$Frame", name := "push", desc := "(I)Z" } : Jvm.MethodName) prog_6_method_5_code (3 : Nat) (Option.some Jvm.ClassFile.FieldType.boolean)) ∈ zt_Ts := zt_m 610 (by decide +kernel) (by decide +kernel)
theorem wd_611 : (Jvm.Cond.methodLinkNest "MapForge$Frame" (50 : Nat) ({ cls := "MapForge", name := "widthOf", desc := "(I)I" } : Jvm.MethodName) "MapForge") ∈ zt_Ts := zt_m 611 (by decide +kernel) (by decide +kernel)
theorem wd_612 : (Jvm.Cond.methodLink "MapForge$Flow" (65 : Nat) ({ cls := "MapForge$Flow", name := "leave", desc := "(I)Z" } : Jvm.MethodName)) ∈ zt_Ts := zt_m 612 (by decide +kernel) (by decide +kernel)
theorem wd_614 : (Jvm.Cond.instanceMethod ({ cls := "MapForge$Flow", name := "leave", desc := "(I)Z" } : Jvm.MethodName)) ∈ zt_Ts := zt_m 614 (by decide +kernel) (by decide +kernel)
theorem wd_615 : (Jvm.Cond.code ({ cls := "MapForge$Flow", name := "leave", desc := "(I)Z" } : Jvm.MethodName) prog_5_method_5_code (3 : Nat) (Option.some Jvm.ClassFile.FieldType.boolean)) ∈ zt_Ts := zt_m 615 (by decide +kernel) (by decide +kernel)
theorem wd_616 : (Jvm.Cond.methodLink "MapForge$Flow" (101 : Nat) ({ cls := "MapForge$Machine", name := "step", desc := "(ILMapForge$Frame;)Z" } : Jvm.MethodName)) ∈ zt_Ts := zt_m 616 (by decide +kernel) (by decide +kernel)
theorem wd_617 : (Jvm.Cond.instanceMethod ({ cls := "MapForge$Machine", name := "step", desc := "(ILMapForge$Frame;)Z" } : Jvm.MethodName)) ∈ zt_Ts := zt_m 617 (by decide +kernel) (by decide +kernel)
theorem wd_618 : (Jvm.Cond.selects "MapForge$Machine" ({ cls := "MapForge$Machine", name := "step", desc := "(ILMapForge$Frame;)Z" } : Jvm.MethodName) ({ cls := "MapForge$Machine", name := "step", desc := "(ILMapForge$Frame;)Z" } : Jvm.MethodName)) ∈ zt_Ts := zt_m 618 (by decide +kernel) (by decide +kernel)
theorem wd_619 : (Jvm.Cond.code ({ cls := "MapForge$Machine", name := "step", desc := "(ILMapForge$Frame;)Z" } : Jvm.MethodName) prog_7_method_2_code (5 : Nat) (Option.some Jvm.ClassFile.FieldType.boolean)) ∈ zt_Ts := zt_m 619 (by decide +kernel) (by decide +kernel)
theorem wd_620 : (Jvm.Cond.methodLink "MapForge$Machine" (25 : Nat) ({ cls := "MapForge$Machine", name := "stepOnStack", desc := "(ILMapForge$Frame;)Z" } : Jvm.MethodName)) ∈ zt_Ts := zt_m 620 (by decide +kernel) (by decide +kernel)
theorem wd_622 : (Jvm.Cond.instanceMethod ({ cls := "MapForge$Machine", name := "stepOnStack", desc := "(ILMapForge$Frame;)Z" } : Jvm.MethodName)) ∈ zt_Ts := zt_m 622 (by decide +kernel) (by decide +kernel)
theorem wd_623 : (Jvm.Cond.code ({ cls := "MapForge$Machine", name := "stepOnStack", desc := "(ILMapForge$Frame;)Z" } : Jvm.MethodName) prog_7_method_3_code (4 : Nat) (Option.some Jvm.ClassFile.FieldType.boolean)) ∈ zt_Ts := zt_m 623 (by decide +kernel) (by decide +kernel)
theorem wd_624 : (Jvm.Cond.methodLink "MapForge$Machine" (48 : Nat) ({ cls := "MapForge$Frame", name := "push", desc := "(I)Z" } : Jvm.MethodName)) ∈ zt_Ts := zt_m 624 (by decide +kernel) (by decide +kernel)
theorem wd_625 : (Jvm.Cond.fieldLinkNest "MapForge$Machine" (62 : Nat) "MapForge" "KINDS" "[I" "MapForge") ∈ zt_Ts := zt_m 625 (by decide +kernel) (by decide +kernel)
theorem wd_626 : (Jvm.Cond.methodLink "MapForge$Machine" (65 : Nat) ({ cls := "MapForge$Frame", name := "take", desc := "(I)Z" } : Jvm.MethodName)) ∈ zt_Ts := zt_m 626 (by decide +kernel) (by decide +kernel)
theorem wd_627 : (Jvm.Cond.instanceMethod ({ cls := "MapForge$Frame", name := "take", desc := "(I)Z" } : Jvm.MethodName)) ∈ zt_Ts := zt_m 627 (by decide +kernel) (by decide +kernel)
theorem wd_628 : (Jvm.Cond.selects "MapForge$Frame" ({ cls := "MapForge$Frame", name := "take", desc := "(I)Z" } : Jvm.MethodName) ({ cls := "MapForge$Frame", name := "take", desc := "(I)Z" } : Jvm.MethodName)) ∈ zt_Ts := zt_m 628 (by decide +kernel) (by decide +kernel)
theorem wd_629 : (Jvm.Cond.code ({ cls := "MapForge$Frame", name := "take", desc := "(I)Z" } : Jvm.MethodName) prog_6_method_8_code (2 : Nat) (Option.some Jvm.ClassFile.FieldType.boolean)) ∈ zt_Ts := zt_m 629 (by decide +kernel) (by decide +kernel)
theorem wd_630 : (Jvm.Cond.methodLink "MapForge$Frame" (54 : Nat) ({ cls := "MapForge$Frame", name := "peek", desc := "(I)I" } : Jvm.MethodName)) ∈ zt_Ts := zt_m 630 (by decide +kernel) (by decide +kernel)
theorem wd_631 : (Jvm.Cond.instanceMethod ({ cls := "MapForge$Frame", name := "peek", desc := "(I)I" } : Jvm.MethodName)) ∈ zt_Ts := zt_m 631 (by decide +kernel) (by decide +kernel)
theorem wd_632 : (Jvm.Cond.selects "MapForge$Frame" ({ cls := "MapForge$Frame", name := "peek", desc := "(I)I" } : Jvm.MethodName) ({ cls := "MapForge$Frame", name := "peek", desc := "(I)I" } : Jvm.MethodName)) ∈ zt_Ts := zt_m 632 (by decide +kernel) (by decide +kernel)
theorem wd_633 : (Jvm.Cond.code ({ cls := "MapForge$Frame", name := "peek", desc := "(I)I" } : Jvm.MethodName) prog_6_method_6_code (2 : Nat) (Option.some Jvm.ClassFile.FieldType.int)) ∈ zt_Ts := zt_m 633 (by decide +kernel) (by decide +kernel)
theorem wd_634 : (Jvm.Cond.methodLink "MapForge$Frame" (57 : Nat) ({ cls := "MapForge$Frame", name := "drop", desc := "()V" } : Jvm.MethodName)) ∈ zt_Ts := zt_m 634 (by decide +kernel) (by decide +kernel)
theorem wd_635 : (Jvm.Cond.instanceMethod ({ cls := "MapForge$Frame", name := "drop", desc := "()V" } : Jvm.MethodName)) ∈ zt_Ts := zt_m 635 (by decide +kernel) (by decide +kernel)
theorem wd_636 : (Jvm.Cond.selects "MapForge$Frame" ({ cls := "MapForge$Frame", name := "drop", desc := "()V" } : Jvm.MethodName) ({ cls := "MapForge$Frame", name := "drop", desc := "()V" } : Jvm.MethodName)) ∈ zt_Ts := zt_m 636 (by decide +kernel) (by decide +kernel)
theorem wd_637 : (Jvm.Cond.code ({ cls := "MapForge$Frame", name := "drop", desc := "()V" } : Jvm.MethodName) prog_6_method_7_code (1 : Nat) (Option.none : Option Jvm.ClassFile.FieldType)) ∈ zt_Ts := zt_m 637 (by decide +kernel) (by decide +kernel)
theorem wd_638 : (Jvm.Cond.methodLink "MapForge$Machine" (68 : Nat) ({ cls := "MapForge$Frame", name := "peek", desc := "(I)I" } : Jvm.MethodName)) ∈ zt_Ts := zt_m 638 (by decide +kernel) (by decide +kernel)
theorem wd_639 : (Jvm.Cond.methodLinkNest "MapForge$Machine" (71 : Nat) ({ cls := "MapForge", name := "widthOf", desc := "(I)I" } : Jvm.MethodName) "MapForge") ∈ zt_Ts := zt_m 639 (by decide +kernel) (by decide +kernel)
theorem wd_640 : (Jvm.Cond.methodLink "MapForge$Machine" (74 : Nat) ({ cls := "MapForge$Frame", name := "drop", desc := "()V" } : Jvm.MethodName)) ∈ zt_Ts := zt_m 640 (by decide +kernel) (by decide +kernel)
theorem wd_641 : (Jvm.Cond.methodLinkNest "MapForge$Machine" (77 : Nat) ({ cls := "MapForge", name := "isSmall", desc := "(I)Z" } : Jvm.MethodName) "MapForge") ∈ zt_Ts := zt_m 641 (by decide +kernel) (by decide +kernel)
theorem wd_642 : (Jvm.Cond.static ({ cls := "MapForge", name := "isSmall", desc := "(I)Z" } : Jvm.MethodName)) ∈ zt_Ts := zt_m 642 (by decide +kernel) (by decide +kernel)
theorem wd_643 : (Jvm.Cond.code ({ cls := "MapForge", name := "isSmall", desc := "(I)Z" } : Jvm.MethodName) prog_1_method_31_code (2 : Nat) (Option.some Jvm.ClassFile.FieldType.boolean)) ∈ zt_Ts := zt_m 643 (by decide +kernel) (by decide +kernel)
theorem wd_644 : (Jvm.Cond.methodLink "MapForge$Machine" (80 : Nat) ({ cls := "MapForge$Machine", name := "stepOne", desc := "(IILMapForge$Frame;)Z" } : Jvm.MethodName)) ∈ zt_Ts := zt_m 644 (by decide +kernel) (by decide +kernel)
theorem wd_646 : (Jvm.Cond.instanceMethod ({ cls := "MapForge$Machine", name := "stepOne", desc := "(IILMapForge$Frame;)Z" } : Jvm.MethodName)) ∈ zt_Ts := zt_m 646 (by decide +kernel) (by decide +kernel)
theorem wd_647 : (Jvm.Cond.code ({ cls := "MapForge$Machine", name := "stepOne", desc := "(IILMapForge$Frame;)Z" } : Jvm.MethodName) prog_7_method_4_code (4 : Nat) (Option.some Jvm.ClassFile.FieldType.boolean)) ∈ zt_Ts := zt_m 647 (by decide +kernel) (by decide +kernel)
theorem wd_648 : (Jvm.Cond.methodLink "MapForge$Machine" (83 : Nat) ({ cls := "MapForge$Machine", name := "stepTwo", desc := "(ILMapForge$Frame;)Z" } : Jvm.MethodName)) ∈ zt_Ts := zt_m 648 (by decide +kernel) (by decide +kernel)
theorem wd_650 : (Jvm.Cond.instanceMethod ({ cls := "MapForge$Machine", name := "stepTwo", desc := "(ILMapForge$Frame;)Z" } : Jvm.MethodName)) ∈ zt_Ts := zt_m 650 (by decide +kernel) (by decide +kernel)
theorem wd_651 : (Jvm.Cond.code ({ cls := "MapForge$Machine", name := "stepTwo", desc := "(ILMapForge$Frame;)Z" } : Jvm.MethodName) prog_7_method_5_code (3 : Nat) (Option.some Jvm.ClassFile.FieldType.boolean)) ∈ zt_Ts := zt_m 651 (by decide +kernel) (by decide +kernel)
theorem wd_652 : (Jvm.Cond.methodLink "MapForge$Machine" (86 : Nat) ({ cls := "MapForge$Frame", name := "swap", desc := "()V" } : Jvm.MethodName)) ∈ zt_Ts := zt_m 652 (by decide +kernel) (by decide +kernel)
theorem wd_653 : (Jvm.Cond.instanceMethod ({ cls := "MapForge$Frame", name := "swap", desc := "()V" } : Jvm.MethodName)) ∈ zt_Ts := zt_m 653 (by decide +kernel) (by decide +kernel)
theorem wd_654 : (Jvm.Cond.selects "MapForge$Frame" ({ cls := "MapForge$Frame", name := "swap", desc := "()V" } : Jvm.MethodName) ({ cls := "MapForge$Frame", name := "swap", desc := "()V" } : Jvm.MethodName)) ∈ zt_Ts := zt_m 654 (by decide +kernel) (by decide +kernel)
theorem wd_655 : (Jvm.Cond.code ({ cls := "MapForge$Frame", name := "swap", desc := "()V" } : Jvm.MethodName) prog_6_method_9_code (2 : Nat) (Option.none : Option Jvm.ClassFile.FieldType)) ∈ zt_Ts := zt_m 655 (by decide +kernel) (by decide +kernel)
theorem wd_656 : (Jvm.Cond.methodLink "MapForge$Machine" (29 : Nat) ({ cls := "MapForge$Machine", name := "stepToOther", desc := "(ILMapForge$Frame;)Z" } : Jvm.MethodName)) ∈ zt_Ts := zt_m 656 (by decide +kernel) (by decide +kernel)
theorem wd_658 : (Jvm.Cond.instanceMethod ({ cls := "MapForge$Machine", name := "stepToOther", desc := "(ILMapForge$Frame;)Z" } : Jvm.MethodName)) ∈ zt_Ts := zt_m 658 (by decide +kernel) (by decide +kernel)
theorem wd_659 : (Jvm.Cond.code ({ cls := "MapForge$Machine", name := "stepToOther", desc := "(ILMapForge$Frame;)Z" } : Jvm.MethodName) prog_7_method_6_code (3 : Nat) (Option.some Jvm.ClassFile.FieldType.boolean)) ∈ zt_Ts := zt_m 659 (by decide +kernel) (by decide +kernel)
theorem wd_660 : (Jvm.Cond.methodLink "MapForge$Machine" (100 : Nat) ({ cls := "MapForge$Family", name := "is", desc := "(II)Z" } : Jvm.MethodName)) ∈ zt_Ts := zt_m 660 (by decide +kernel) (by decide +kernel)
theorem wd_661 : (Jvm.Cond.instanceMethod ({ cls := "MapForge$Family", name := "is", desc := "(II)Z" } : Jvm.MethodName)) ∈ zt_Ts := zt_m 661 (by decide +kernel) (by decide +kernel)
theorem wd_662 : (Jvm.Cond.selects "MapForge$Family" ({ cls := "MapForge$Family", name := "is", desc := "(II)Z" } : Jvm.MethodName) ({ cls := "MapForge$Family", name := "is", desc := "(II)Z" } : Jvm.MethodName)) ∈ zt_Ts := zt_m 662 (by decide +kernel) (by decide +kernel)
theorem wd_663 : (Jvm.Cond.code ({ cls := "MapForge$Family", name := "is", desc := "(II)Z" } : Jvm.MethodName) prog_4_method_4_code (4 : Nat) (Option.some Jvm.ClassFile.FieldType.boolean)) ∈ zt_Ts := zt_m 663 (by decide +kernel) (by decide +kernel)
theorem wd_664 : (Jvm.Cond.methodLinkNest "MapForge$Family" (22 : Nat) ({ cls := "MapForge", name := "kindOf", desc := "(I)I" } : Jvm.MethodName) "MapForge") ∈ zt_Ts := zt_m 664 (by decide +kernel) (by decide +kernel)
theorem wd_665 : (Jvm.Cond.methodLinkNest "MapForge$Machine" (40 : Nat) ({ cls := "MapForge", name := "localKindOf", desc := "(I)I" } : Jvm.MethodName) "MapForge") ∈ zt_Ts := zt_m 665 (by decide +kernel) (by decide +kernel)
theorem wd_666 : (Jvm.Cond.methodLinkNest "MapForge$Machine" (44 : Nat) ({ cls := "MapForge", name := "isOfKind", desc := "(II)Z" } : Jvm.MethodName) "MapForge") ∈ zt_Ts := zt_m 666 (by decide +kernel) (by decide +kernel)
theorem wd_667 : (Jvm.Cond.static ({ cls := "MapForge", name := "isOfKind", desc := "(II)Z" } : Jvm.MethodName)) ∈ zt_Ts := zt_m 667 (by decide +kernel) (by decide +kernel)
theorem wd_668 : (Jvm.Cond.code ({ cls := "MapForge", name := "isOfKind", desc := "(II)Z" } : Jvm.MethodName) prog_1_method_32_code (2 : Nat) (Option.some Jvm.ClassFile.FieldType.boolean)) ∈ zt_Ts := zt_m 668 (by decide +kernel) (by decide +kernel)
theorem wd_669 : (Jvm.Cond.methodLink "MapForge$Machine" (52 : Nat) ({ cls := "MapForge$Machine", name := "stepStore", desc := "(IILMapForge$Frame;)Z" } : Jvm.MethodName)) ∈ zt_Ts := zt_m 669 (by decide +kernel) (by decide +kernel)
theorem wd_671 : (Jvm.Cond.instanceMethod ({ cls := "MapForge$Machine", name := "stepStore", desc := "(IILMapForge$Frame;)Z" } : Jvm.MethodName)) ∈ zt_Ts := zt_m 671 (by decide +kernel) (by decide +kernel)
theorem wd_672 : (Jvm.Cond.code ({ cls := "MapForge$Machine", name := "stepStore", desc := "(IILMapForge$Frame;)Z" } : Jvm.MethodName) prog_7_method_7_code (5 : Nat) (Option.some Jvm.ClassFile.FieldType.boolean)) ∈ zt_Ts := zt_m 672 (by decide +kernel) (by decide +kernel)
theorem wd_673 : (Jvm.Cond.methodLink "MapForge$Machine" (105 : Nat) ({ cls := "MapForge$Frame", name := "store", desc := "(II)V" } : Jvm.MethodName)) ∈ zt_Ts := zt_m 673 (by decide +kernel) (by decide +kernel)
theorem wd_674 : (Jvm.Cond.instanceMethod ({ cls := "MapForge$Frame", name := "store", desc := "(II)V" } : Jvm.MethodName)) ∈ zt_Ts := zt_m 674 (by decide +kernel) (by decide +kernel)
theorem wd_675 : (Jvm.Cond.selects "MapForge$Frame" ({ cls := "MapForge$Frame", name := "store", desc := "(II)V" } : Jvm.MethodName) ({ cls := "MapForge$Frame", name := "store", desc := "(II)V" } : Jvm.MethodName)) ∈ zt_Ts := zt_m 675 (by decide +kernel) (by decide +kernel)
theorem wd_676 : (Jvm.Cond.code ({ cls := "MapForge$Frame", name := "store", desc := "(II)V" } : Jvm.MethodName) prog_6_method_10_code (3 : Nat) (Option.none : Option Jvm.ClassFile.FieldType)) ∈ zt_Ts := zt_m 676 (by decide +kernel) (by decide +kernel)
theorem wd_677 : (Jvm.Cond.methodLink "MapForge$Machine" (56 : Nat) ({ cls := "MapForge$Machine", name := "stepJump", desc := "(ILMapForge$Frame;)Z" } : Jvm.MethodName)) ∈ zt_Ts := zt_m 677 (by decide +kernel) (by decide +kernel)
theorem wd_679 : (Jvm.Cond.instanceMethod ({ cls := "MapForge$Machine", name := "stepJump", desc := "(ILMapForge$Frame;)Z" } : Jvm.MethodName)) ∈ zt_Ts := zt_m 679 (by decide +kernel) (by decide +kernel)
theorem wd_680 : (Jvm.Cond.code ({ cls := "MapForge$Machine", name := "stepJump", desc := "(ILMapForge$Frame;)Z" } : Jvm.MethodName) prog_7_method_8_code (3 : Nat) (Option.some Jvm.ClassFile.FieldType.boolean)) ∈ zt_Ts := zt_m 680 (by decide +kernel) (by decide +kernel)
theorem wd_681 : (Jvm.Cond.methodLinkNest "MapForge$Machine" (109 : Nat) ({ cls := "MapForge", name := "isObjectOrNull", desc := "(I)Z" } : Jvm.MethodName) "MapForge") ∈ zt_Ts := zt_m 681 (by decide +kernel) (by decide +kernel)
theorem wd_682 : (Jvm.Cond.methodLink "MapForge$Machine" (59 : Nat) ({ cls := "MapForge$Machine", name := "stepObject", desc := "(ILMapForge$Frame;)Z" } : Jvm.MethodName)) ∈ zt_Ts := zt_m 682 (by decide +kernel) (by decide +kernel)
theorem wd_684 : (Jvm.Cond.instanceMethod ({ cls := "MapForge$Machine", name := "stepObject", desc := "(ILMapForge$Frame;)Z" } : Jvm.MethodName)) ∈ zt_Ts := zt_m 684 (by decide +kernel) (by decide +kernel)
theorem wd_685 : (Jvm.Cond.code ({ cls := "MapForge$Machine", name := "stepObject", desc := "(ILMapForge$Frame;)Z" } : Jvm.MethodName) prog_7_method_9_code (6 : Nat) (Option.some Jvm.ClassFile.FieldType.boolean)) ∈ zt_Ts := zt_m 685 (by decide +kernel) (by decide +kernel)
theorem wd_686 : (Jvm.Cond.methodLinkNest "MapForge$Machine" (115 : Nat) ({ cls := "MapForge", name := "typeOf", desc := "(II)I" } : Jvm.MethodName) "MapForge") ∈ zt_Ts := zt_m 686 (by decide +kernel) (by decide +kernel)
theorem wd_687 : (Jvm.Cond.methodLink "MapForge$Machine" (119 : Nat) ({ cls := "MapForge$Machine", name := "stepInit", desc := "(IILMapForge$Frame;)Z" } : Jvm.MethodName)) ∈ zt_Ts := zt_m 687 (by decide +kernel) (by decide +kernel)
theorem wd_689 : (Jvm.Cond.instanceMethod ({ cls := "MapForge$Machine", name := "stepInit", desc := "(IILMapForge$Frame;)Z" } : Jvm.MethodName)) ∈ zt_Ts := zt_m 689 (by decide +kernel) (by decide +kernel)
theorem wd_690 : (Jvm.Cond.code ({ cls := "MapForge$Machine", name := "stepInit", desc := "(IILMapForge$Frame;)Z" } : Jvm.MethodName) prog_7_method_10_code (5 : Nat) (Option.some Jvm.ClassFile.FieldType.boolean)) ∈ zt_Ts := zt_m 690 (by decide +kernel) (by decide +kernel)
theorem wd_691 : (Jvm.Cond.methodLink "MapForge$Machine" (128 : Nat) ({ cls := "MapForge$Family", name := "isAbove", desc := "(II)Z" } : Jvm.MethodName)) ∈ zt_Ts := zt_m 691 (by decide +kernel) (by decide +kernel)
theorem wd_692 : (Jvm.Cond.instanceMethod ({ cls := "MapForge$Family", name := "isAbove", desc := "(II)Z" } : Jvm.MethodName)) ∈ zt_Ts := zt_m 692 (by decide +kernel) (by decide +kernel)
theorem wd_693 : (Jvm.Cond.selects "MapForge$Family" ({ cls := "MapForge$Family", name := "isAbove", desc := "(II)Z" } : Jvm.MethodName) ({ cls := "MapForge$Family", name := "isAbove", desc := "(II)Z" } : Jvm.MethodName)) ∈ zt_Ts := zt_m 693 (by decide +kernel) (by decide +kernel)
theorem wd_694 : (Jvm.Cond.code ({ cls := "MapForge$Family", name := "isAbove", desc := "(II)Z" } : Jvm.MethodName) prog_4_method_3_code (3 : Nat) (Option.some Jvm.ClassFile.FieldType.boolean)) ∈ zt_Ts := zt_m 694 (by decide +kernel) (by decide +kernel)
theorem wd_695 : (Jvm.Cond.methodLink "MapForge$Machine" (131 : Nat) ({ cls := "MapForge$Frame", name := "replaceAll", desc := "(II)V" } : Jvm.MethodName)) ∈ zt_Ts := zt_m 695 (by decide +kernel) (by decide +kernel)
theorem wd_696 : (Jvm.Cond.instanceMethod ({ cls := "MapForge$Frame", name := "replaceAll", desc := "(II)V" } : Jvm.MethodName)) ∈ zt_Ts := zt_m 696 (by decide +kernel) (by decide +kernel)
theorem wd_697 : (Jvm.Cond.selects "MapForge$Frame" ({ cls := "MapForge$Frame", name := "replaceAll", desc := "(II)V" } : Jvm.MethodName) ({ cls := "MapForge$Frame", name := "replaceAll", desc := "(II)V" } : Jvm.MethodName)) ∈ zt_Ts := zt_m 697 (by decide +kernel) (by decide +kernel)
theorem wd_698 : (Jvm.Cond.code ({ cls := "MapForge$Frame", name := "replaceAll", desc := "(II)V" } : Jvm.MethodName) prog_6_method_11_code (4 : Nat) (Option.none : Option Jvm.ClassFile.FieldType)) ∈ zt_Ts := zt_m 698 (by decide +kernel) (by decide +kernel)
theorem wd_699 : (Jvm.Cond.methodLinkNest "MapForge$Machine" (134 : Nat) ({ cls := "MapForge", name := "kindOf", desc := "(I)I" } : Jvm.MethodName) "MapForge") ∈ zt_Ts := zt_m 699 (by decide +kernel) (by decide +kernel)
theorem wd_700 : (Jvm.Cond.methodLinkNest "MapForge$Machine" (137 : Nat) ({ cls := "MapForge", name := "partOf", desc := "(I)I" } : Jvm.MethodName) "MapForge") ∈ zt_Ts := zt_m 700 (by decide +kernel) (by decide +kernel)
theorem wd_701 : (Jvm.Cond.methodLink "MapForge$Machine" (140 : Nat) ({ cls := "MapForge$Program", name := "placeAt", desc := "(I)I" } : Jvm.MethodName)) ∈ zt_Ts := zt_m 701 (by decide +kernel) (by decide +kernel)
theorem wd_702 : (Jvm.Cond.instanceMethod ({ cls := "MapForge$Program", name := "placeAt", desc := "(I)I" } : Jvm.MethodName)) ∈ zt_Ts := zt_m 702 (by decide +kernel) (by decide +kernel)
theorem wd_703 : (Jvm.Cond.selects "MapForge$Program" ({ cls := "MapForge$Program", name := "placeAt", desc := "(I)I" } : Jvm.MethodName) ({ cls := "MapForge$Program", name := "placeAt", desc := "(I)I" } : Jvm.MethodName)) ∈ zt_Ts := zt_m 703 (by decide +kernel) (by decide +kernel)
theorem wd_704 : (Jvm.Cond.code ({ cls := "MapForge$Program", name := "placeAt", desc := "(I)I" } : Jvm.MethodName) prog_8_method_6_code (3 : Nat) (Option.some Jvm.ClassFile.FieldType.int)) ∈ zt_Ts := zt_m 704 (by decide +kernel) (by decide +kernel)
theorem wd_705 : (Jvm.Cond.methodLinkNest "MapForge$Flow" (109 : Nat) ({ cls := "MapForge", name := "isJump", desc := "(I)Z" } : Jvm.MethodName) "MapForge") ∈ zt_Ts := zt_m 705 (by decide +kernel) (by decide +kernel)
theorem wd_706 : (Jvm.Cond.methodLinkNest "MapForge$Flow" (115 : Nat) ({ cls := "MapForge", name := "isEnd", desc := "(I)Z" } : Jvm.MethodName) "MapForge") ∈ zt_Ts := zt_m 706 (by decide +kernel) (by decide +kernel)
theorem wd_707 : (Jvm.Cond.static ({ cls := "MapForge", name := "isEnd", desc := "(I)Z" } : Jvm.MethodName)) ∈ zt_Ts := zt_m 707 (by decide +kernel) (by decide +kernel)
theorem wd_708 : (Jvm.Cond.code ({ cls := "MapForge", name := "isEnd", desc := "(I)Z" } : Jvm.MethodName) prog_1_method_24_code (1 : Nat) (Option.some Jvm.ClassFile.FieldType.boolean)) ∈ zt_Ts := zt_m 708 (by decide +kernel) (by decide +kernel)
theorem wd_709 : (Jvm.Cond.methodLink "MapForge$Flow" (68 : Nat) ({ cls := "MapForge$Flow", name := "isWhole", desc := "()Z" } : Jvm.MethodName)) ∈ zt_Ts := zt_m 709 (by decide +kernel) (by decide +kernel)
theorem wd_711 : (Jvm.Cond.instanceMethod ({ cls := "MapForge$Flow", name := "isWhole", desc := "()Z" } : Jvm.MethodName)) ∈ zt_Ts := zt_m 711 (by decide +kernel) (by decide +kernel)
theorem wd_712 : (Jvm.Cond.code ({ cls := "MapForge$Flow", name := "isWhole", desc := "()Z" } : Jvm.MethodName) prog_5_method_8_code (2 : Nat) (Option.some Jvm.ClassFile.FieldType.boolean)) ∈ zt_Ts := zt_m 712 (by decide +kernel) (by decide +kernel)
theorem wd_713 : (Jvm.Cond.methodLink "MapForge$Flow" (139 : Nat) ({ cls := "MapForge$Program", name := "markRows", desc := "([Z)V" } : Jvm.MethodName)) ∈ zt_Ts := zt_m 713 (by decide +kernel) (by decide +kernel)
theorem wd_714 : (Jvm.Cond.instanceMethod ({ cls := "MapForge$Program", name := "markRows", desc := "([Z)V" } : Jvm.MethodName)) ∈ zt_Ts := zt_m 714 (by decide +kernel) (by decide +kernel)
theorem wd_715 : (Jvm.Cond.selects "MapForge$Program" ({ cls := "MapForge$Program", name := "markRows", desc := "([Z)V" } : Jvm.MethodName) ({ cls := "MapForge$Program", name := "markRows", desc := "([Z)V" } : Jvm.MethodName)) ∈ zt_Ts := zt_m 715 (by decide +kernel) (by decide +kernel)
theorem wd_716 : (Jvm.Cond.code ({ cls := "MapForge$Program", name := "markRows", desc := "([Z)V" } : Jvm.MethodName) prog_8_method_7_code (3 : Nat) (Option.none : Option Jvm.ClassFile.FieldType)) ∈ zt_Ts := zt_m 716 (by decide +kernel) (by decide +kernel)
theorem wd_717 : (Jvm.Cond.methodLinkNest "MapForge$Program" (70 : Nat) ({ cls := "MapForge", name := "isEnd", desc := "(I)Z" } : Jvm.MethodName) "MapForge") ∈ zt_Ts := zt_m 717 (by decide +kernel) (by decide +kernel)
theorem wd_718 : (Jvm.Cond.methodLink "MapForge$Flow" (143 : Nat) ({ cls := "MapForge$Frame", name := "hasRawThisInLocal", desc := "()Z" } : Jvm.MethodName)) ∈ zt_Ts := zt_m 718 (by decide +kernel) (by decide +kernel)
theorem wd_719 : (Jvm.Cond.instanceMethod ({ cls := "MapForge$Frame", name := "hasRawThisInLocal", desc := "()Z" } : Jvm.MethodName)) ∈ zt_Ts := zt_m 719 (by decide +kernel) (by decide +kernel)
theorem wd_720 : (Jvm.Cond.selects "MapForge$Frame" ({ cls := "MapForge$Frame", name := "hasRawThisInLocal", desc := "()Z" } : Jvm.MethodName) ({ cls := "MapForge$Frame", name := "hasRawThisInLocal", desc := "()Z" } : Jvm.MethodName)) ∈ zt_Ts := zt_m 720 (by decide +kernel) (by decide +kernel)
theorem wd_721 : (Jvm.Cond.code ({ cls := "MapForge$Frame", name := "hasRawThisInLocal", desc := "()Z" } : Jvm.MethodName) prog_6_method_12_code (2 : Nat) (Option.some Jvm.ClassFile.FieldType.boolean)) ∈ zt_Ts := zt_m 721 (by decide +kernel) (by decide +kernel)
theorem wd_722 : (Jvm.Cond.methodLink "MapForge" (124 : Nat) ({ cls := "MapForge$Writer", name := "writeRows", desc := "()I" } : Jvm.MethodName)) ∈ zt_Ts := zt_m 722 (by decide +kernel) (by decide +kernel)
theorem wd_723 : (Jvm.Cond.instanceMethod ({ cls := "MapForge$Writer", name := "writeRows", desc := "()I" } : Jvm.MethodName)) ∈ zt_Ts := zt_m 723 (by decide +kernel) (by decide +kernel)
theorem wd_724 : (Jvm.Cond.selects "MapForge$Writer" ({ cls := "MapForge$Writer", name := "writeRows", desc := "()I" } : Jvm.MethodName) ({ cls := "MapForge$Writer", name := "writeRows", desc := "()I" } : Jvm.MethodName)) ∈ zt_Ts := zt_m 724 (by decide +kernel) (by decide +kernel)
theorem wd_725 : (Jvm.Cond.code ({ cls := "MapForge$Writer", name := "writeRows", desc := "()I" } : Jvm.MethodName) prog_11_method_2_code (4 : Nat) (Option.some Jvm.ClassFile.FieldType.int)) ∈ zt_Ts := zt_m 725 (by decide +kernel) (by decide +kernel)
theorem wd_726 : (Jvm.Cond.methodLink "MapForge$Writer" (43 : Nat) ({ cls := "MapForge$Program", name := "enter", desc := "(LMapForge$Frame;)V" } : Jvm.MethodName)) ∈ zt_Ts := zt_m 726 (by decide +kernel) (by decide +kernel)
theorem wd_727 : (Jvm.Cond.methodLink "MapForge$Writer" (49 : Nat) ({ cls := "MapForge$TypeList", name := "gather", desc := "(LMapForge$Frame;)V" } : Jvm.MethodName)) ∈ zt_Ts := zt_m 727 (by decide +kernel) (by decide +kernel)
theorem wd_728 : (Jvm.Cond.instanceMethod ({ cls := "MapForge$TypeList", name := "gather", desc := "(LMapForge$Frame;)V" } : Jvm.MethodName)) ∈ zt_Ts := zt_m 728 (by decide +kernel) (by decide +kernel)
theorem wd_729 : (Jvm.Cond.selects "MapForge$TypeList" ({ cls := "MapForge$TypeList", name := "gather", desc := "(LMapForge$Frame;)V" } : Jvm.MethodName) ({ cls := "MapForge$TypeList", name := "gather", desc := "(LMapForge$Frame;)V" } : Jvm.MethodName)) ∈ zt_Ts := zt_m 729 (by decide +kernel) (by decide +kernel)
theorem wd_730 : (Jvm.Cond.code ({ cls := "MapForge$TypeList", name := "gather", desc := "(LMapForge$Frame;)V" } : Jvm.MethodName) prog_10_method_6_code (3 : Nat) (Option.none : Option Jvm.ClassFile.FieldType)) ∈ zt_Ts := zt_m 730 (by decide +kernel) (by decide +kernel)
theorem wd_731 : (Jvm.Cond.methodLink "MapForge$TypeList" (32 : Nat) ({ cls := "MapForge$TypeList", name := "empty", desc := "()V" } : Jvm.MethodName)) ∈ zt_Ts := zt_m 731 (by decide +kernel) (by decide +kernel)
theorem wd_732 : (Jvm.Cond.instanceMethod ({ cls := "MapForge$TypeList", name := "empty", desc := "()V" } : Jvm.MethodName)) ∈ zt_Ts := zt_m 732 (by decide +kernel) (by decide +kernel)
theorem wd_733 : (Jvm.Cond.selects "MapForge$TypeList" ({ cls := "MapForge$TypeList", name := "empty", desc := "()V" } : Jvm.MethodName) ({ cls := "MapForge$TypeList", name := "empty", desc := "()V" } : Jvm.MethodName)) ∈ zt_Ts := zt_m 733 (by decide +kernel) (by decide +kernel)
theorem wd_734 : (Jvm.Cond.code ({ cls := "MapForge$TypeList", name := "empty", desc := "()V" } : Jvm.MethodName) prog_10_method_2_code (1 : Nat) (Option.none : Option Jvm.ClassFile.FieldType)) ∈ zt_Ts := zt_m 734 (by decide +kernel) (by decide +kernel)
theorem wd_735 : (Jvm.Cond.methodLink "MapForge$TypeList" (40 : Nat) ({ cls := "MapForge$TypeList", name := "append", desc := "(I)Z" } : Jvm.MethodName)) ∈ zt_Ts := zt_m 735 (by decide +kernel) (by decide +kernel)
theorem wd_736 : (Jvm.Cond.instanceMethod ({ cls := "MapForge$TypeList", name := "append", desc := "(I)Z" } : Jvm.MethodName)) ∈ zt_Ts := zt_m 736 (by decide +kernel) (by decide +kernel)
theorem wd_737 : (Jvm.Cond.selects "MapForge$TypeList" ({ cls := "MapForge$TypeList", name := "append", desc := "(I)Z" } : Jvm.MethodName) ({ cls := "MapForge$TypeList", name := "append", desc := "(I)Z" } : Jvm.MethodName)) ∈ zt_Ts := zt_m 737 (by decide +kernel) (by decide +kernel)
theorem wd_738 : (Jvm.Cond.code ({ cls := "MapForge$TypeList", name := "append", desc := "(I)Z" } : Jvm.MethodName) prog_10_method_3_code (3 : Nat) (Option.some Jvm.ClassFile.FieldType.boolean)) ∈ zt_Ts := zt_m 738 (by decide +kernel) (by decide +kernel)
theorem wd_739 : (Jvm.Cond.methodLinkNest "MapForge$TypeList" (22 : Nat) ({ cls := "MapForge", name := "widthOf", desc := "(I)I" } : Jvm.MethodName) "MapForge") ∈ zt_Ts := zt_m 739 (by decide +kernel) (by decide +kernel)
theorem wd_740 : (Jvm.Cond.methodLink "MapForge$TypeList" (44 : Nat) ({ cls := "MapForge$TypeList", name := "drop", desc := "()V" } : Jvm.MethodName)) ∈ zt_Ts := zt_m 740 (by decide +kernel) (by decide +kernel)
theorem wd_741 : (Jvm.Cond.instanceMethod ({ cls := "MapForge$TypeList", name := "drop", desc := "()V" } : Jvm.MethodName)) ∈ zt_Ts := zt_m 741 (by decide +kernel) (by decide +kernel)
theorem wd_742 : (Jvm.Cond.selects "MapForge$TypeList" ({ cls := "MapForge$TypeList", name := "drop", desc := "()V" } : Jvm.MethodName) ({ cls := "MapForge$TypeList", name := "drop", desc := "()V" } : Jvm.MethodName)) ∈ zt_Ts := zt_m 742 (by decide +kernel) (by decide +kernel)
theorem wd_743 : (Jvm.Cond.code ({ cls := "MapForge$TypeList", name := "drop", desc := "()V" } : Jvm.MethodName) prog_10_method_4_code (1 : Nat) (Option.none : Option Jvm.ClassFile.FieldType)) ∈ zt_Ts := zt_m 743 (by decide +kernel) (by decide +kernel)
theorem wd_744 : (Jvm.Cond.methodLink "MapForge$Writer" (71 : Nat) ({ cls := "MapForge$Writer", name := "writeRow", desc := "(LMapForge$Frame;I)V" } : Jvm.MethodName)) ∈ zt_Ts := zt_m 744 (by decide +kernel) (by decide +kernel)
theorem wd_746 : (Jvm.Cond.instanceMethod ({ cls := "MapForge$Writer", name := "writeRow", desc := "(LMapForge$Frame;I)V" } : Jvm.MethodName)) ∈ zt_Ts := zt_m 746 (by decide +kernel) (by decide +kernel)
theorem wd_747 : (Jvm.Cond.code ({ cls := "MapForge$Writer", name := "writeRow", desc := "(LMapForge$Frame;I)V" } : Jvm.MethodName) prog_11_method_3_code (7 : Nat) (Option.none : Option Jvm.ClassFile.FieldType)) ∈ zt_Ts := zt_m 747 (by decide +kernel) (by decide +kernel)
theorem wd_748 : (Jvm.Cond.methodLink "MapForge$Writer" (79 : Nat) ({ cls := "MapForge$TypeList", name := "sharedStart", desc := "(LMapForge$TypeList;)I" } : Jvm.MethodName)) ∈ zt_Ts := zt_m 748 (by decide +kernel) (by decide +kernel)
theorem wd_749 : (Jvm.Cond.instanceMethod ({ cls := "MapForge$TypeList", name := "sharedStart", desc := "(LMapForge$TypeList;)I" } : Jvm.MethodName)) ∈ zt_Ts := zt_m 749 (by decide +kernel) (by decide +kernel)
theorem wd_750 : (Jvm.Cond.selects "MapForge$TypeList" ({ cls := "MapForge$TypeList", name := "sharedStart", desc := "(LMapForge$TypeList;)I" } : Jvm.MethodName) ({ cls := "MapForge$TypeList", name := "sharedStart", desc := "(LMapForge$TypeList;)I" } : Jvm.MethodName)) ∈ zt_Ts := zt_m 750 (by decide +kernel) (by decide +kernel)
theorem wd_751 : (Jvm.Cond.code ({ cls := "MapForge$TypeList", name := "sharedStart", desc := "(LMapForge$TypeList;)I" } : Jvm.MethodName) prog_10_method_8_code (3 : Nat) (Option.some Jvm.ClassFile.FieldType.int)) ∈ zt_Ts := zt_m 751 (by decide +kernel) (by decide +kernel)
theorem wd_752 : (Jvm.Cond.methodLink "MapForge$Writer" (84 : Nat) ({ cls := "java/lang/Math", name := "abs", desc := "(I)I" } : Jvm.MethodName)) ∈ zt_Ts := zt_m 752 (by decide +kernel) (by decide +kernel)
theorem wd_753 : (Jvm.Cond.static ({ cls := "java/lang/Math", name := "abs", desc := "(I)I" } : Jvm.MethodName)) ∈ zt_Ts := zt_m 753 (by decide +kernel) (by decide +kernel)
theorem wd_755 : (Jvm.Cond.methodLink "MapForge$Writer" (90 : Nat) ({ cls := "java/lang/Math", name := "min", desc := "(II)I" } : Jvm.MethodName)) ∈ zt_Ts := zt_m 755 (by decide +kernel) (by decide +kernel)
theorem wd_756 : (Jvm.Cond.static ({ cls := "java/lang/Math", name := "min", desc := "(II)I" } : Jvm.MethodName)) ∈ zt_Ts := zt_m 756 (by decide +kernel) (by decide +kernel)
theorem wd_758 : (Jvm.Cond.methodLink "MapForge$Writer" (97 : Nat) ({ cls := "MapForge$Writer", name := "writeHead", desc := "(III)V" } : Jvm.MethodName)) ∈ zt_Ts := zt_m 758 (by decide +kernel) (by decide +kernel)
theorem wd_760 : (Jvm.Cond.instanceMethod ({ cls := "MapForge$Writer", name := "writeHead", desc := "(III)V" } : Jvm.MethodName)) ∈ zt_Ts := zt_m 760 (by decide +kernel) (by decide +kernel)
theorem wd_761 : (Jvm.Cond.code ({ cls := "MapForge$Writer", name := "writeHead", desc := "(III)V" } : Jvm.MethodName) prog_11_method_4_code (4 : Nat) (Option.none : Option Jvm.ClassFile.FieldType)) ∈ zt_Ts := zt_m 761 (by decide +kernel) (by decide +kernel)
theorem wd_762 : (Jvm.Cond.methodLink "MapForge$Writer" (108 : Nat) ({ cls := "MapForge$Bytes", name := "put", desc := "(I)V" } : Jvm.MethodName)) ∈ zt_Ts := zt_m 762 (by decide +kernel) (by decide +kernel)
theorem wd_763 : (Jvm.Cond.instanceMethod ({ cls := "MapForge$Bytes", name := "put", desc := "(I)V" } : Jvm.MethodName)) ∈ zt_Ts := zt_m 763 (by decide +kernel) (by decide +kernel)
theorem wd_764 : (Jvm.Cond.selects "MapForge$Bytes" ({ cls := "MapForge$Bytes", name := "put", desc := "(I)V" } : Jvm.MethodName) ({ cls := "MapForge$Bytes", name := "put", desc := "(I)V" } : Jvm.MethodName)) ∈ zt_Ts := zt_m 764 (by decide +kernel) (by decide +kernel)
theorem wd_765 : (Jvm.Cond.code ({ cls := "MapForge$Bytes", name := "put", desc := "(I)V" } : Jvm.MethodName) prog_2_method_2_code (2 : Nat) (Option.none : Option Jvm.ClassFile.FieldType)) ∈ zt_Ts := zt_m 765 (by decide +kernel) (by decide +kernel)
theorem wd_766 : (Jvm.Cond.methodLink "MapForge$Writer" (111 : Nat) ({ cls := "MapForge$Bytes", name := "putTwo", desc := "(I)V" } : Jvm.MethodName)) ∈ zt_Ts := zt_m 766 (by decide +kernel) (by decide +kernel)
theorem wd_767 : (Jvm.Cond.instanceMethod ({ cls := "MapForge$Bytes", name := "putTwo", desc := "(I)V" } : Jvm.MethodName)) ∈ zt_Ts := zt_m 767 (by decide +kernel) (by decide +kernel)
theorem wd_768 : (Jvm.Cond.selects "MapForge$Bytes" ({ cls := "MapForge$Bytes", name := "putTwo", desc := "(I)V" } : Jvm.MethodName) ({ cls := "MapForge$Bytes", name := "putTwo", desc := "(I)V" } : Jvm.MethodName)) ∈ zt_Ts := zt_m 768 (by decide +kernel) (by decide +kernel)
theorem wd_769 : (Jvm.Cond.code ({ cls := "MapForge$Bytes", name := "putTwo", desc := "(I)V" } : Jvm.MethodName) prog_2_method_3_code (2 : Nat) (Option.none : Option Jvm.ClassFile.FieldType)) ∈ zt_Ts := zt_m 769 (by decide +kernel) (by decide +kernel)
theorem wd_770 : (Jvm.Cond.methodLink "MapForge$Bytes" (19 : Nat) ({ cls := "MapForge$Bytes", name := "put", desc := "(I)V" } : Jvm.MethodName)) ∈ zt_Ts := zt_m 770 (by decide +kernel) (by decide +kernel)
theorem wd_771 : (Jvm.Cond.methodLink "MapForge$Writer" (104 : Nat) ({ cls := "MapForge$Bytes", name := "putType", desc := "(I)V" } : Jvm.MethodName)) ∈ zt_Ts := zt_m 771 (by decide +kernel) (by decide +kernel)
theorem wd_772 : (Jvm.Cond.instanceMethod ({ cls := "MapForge$Bytes", name := "putType", desc := "(I)V" } : Jvm.MethodName)) ∈ zt_Ts := zt_m 772 (by decide +kernel) (by decide +kernel)
theorem wd_773 : (Jvm.Cond.selects "MapForge$Bytes" ({ cls := "MapForge$Bytes", name := "putType", desc := "(I)V" } : Jvm.MethodName) ({ cls := "MapForge$Bytes", name := "putType", desc := "(I)V" } : Jvm.MethodName)) ∈ zt_Ts := zt_m 773 (by decide +kernel) (by decide +kernel)
theorem wd_774 : (Jvm.Cond.code ({ cls := "MapForge$Bytes", name := "putType", desc := "(I)V" } : Jvm.MethodName) prog_2_method_4_code (3 : Nat) (Option.none : Option Jvm.ClassFile.FieldType)) ∈ zt_Ts := zt_m 774 (by decide +kernel) (by decide +kernel)
theorem wd_775 : (Jvm.Cond.methodLinkNest "MapForge$Bytes" (23 : Nat) ({ cls := "MapForge", name := "kindOf", desc := "(I)I" } : Jvm.MethodName) "MapForge") ∈ zt_Ts := zt_m 775 (by decide +kernel) (by decide +kernel)
theorem wd_776 : (Jvm.Cond.methodLinkNest "MapForge$Bytes" (27 : Nat) ({ cls := "MapForge", name := "partOf", desc := "(I)I" } : Jvm.MethodName) "MapForge") ∈ zt_Ts := zt_m 776 (by decide +kernel) (by decide +kernel)
theorem wd_777 : (Jvm.Cond.methodLink "MapForge$Bytes" (30 : Nat) ({ cls := "MapForge$Bytes", name := "putTwo", desc := "(I)V" } : Jvm.MethodName)) ∈ zt_Ts := zt_m 777 (by decide +kernel) (by decide +kernel)
theorem wd_778 : (Jvm.Cond.methodLink "MapForge$Writer" (117 : Nat) ({ cls := "MapForge$Writer", name := "writeTypes", desc := "([III)V" } : Jvm.MethodName)) ∈ zt_Ts := zt_m 778 (by decide +kernel) (by decide +kernel)
theorem wd_780 : (Jvm.Cond.instanceMethod ({ cls := "MapForge$Writer", name := "writeTypes", desc := "([III)V" } : Jvm.MethodName)) ∈ zt_Ts := zt_m 780 (by decide +kernel) (by decide +kernel)
theorem wd_781 : (Jvm.Cond.code ({ cls := "MapForge$Writer", name := "writeTypes", desc := "([III)V" } : Jvm.MethodName) prog_11_method_6_code (5 : Nat) (Option.none : Option Jvm.ClassFile.FieldType)) ∈ zt_Ts := zt_m 781 (by decide +kernel) (by decide +kernel)
theorem wd_782 : (Jvm.Cond.methodLink "MapForge$Writer" (121 : Nat) ({ cls := "MapForge$Writer", name := "writeWhole", desc := "(LMapForge$Frame;I)V" } : Jvm.MethodName)) ∈ zt_Ts := zt_m 782 (by decide +kernel) (by decide +kernel)
theorem wd_784 : (Jvm.Cond.instanceMethod ({ cls := "MapForge$Writer", name := "writeWhole", desc := "(LMapForge$Frame;I)V" } : Jvm.MethodName)) ∈ zt_Ts := zt_m 784 (by decide +kernel) (by decide +kernel)
theorem wd_785 : (Jvm.Cond.code ({ cls := "MapForge$Writer", name := "writeWhole", desc := "(LMapForge$Frame;I)V" } : Jvm.MethodName) prog_11_method_5_code (3 : Nat) (Option.none : Option Jvm.ClassFile.FieldType)) ∈ zt_Ts := zt_m 785 (by decide +kernel) (by decide +kernel)
theorem wd_786 : (Jvm.Cond.methodLink "MapForge$Writer" (75 : Nat) ({ cls := "MapForge$TypeList", name := "takeOver", desc := "(LMapForge$TypeList;)V" } : Jvm.MethodName)) ∈ zt_Ts := zt_m 786 (by decide +kernel) (by decide +kernel)
theorem wd_787 : (Jvm.Cond.instanceMethod ({ cls := "MapForge$TypeList", name := "takeOver", desc := "(LMapForge$TypeList;)V" } : Jvm.MethodName)) ∈ zt_Ts := zt_m 787 (by decide +kernel) (by decide +kernel)
theorem wd_788 : (Jvm.Cond.selects "MapForge$TypeList" ({ cls := "MapForge$TypeList", name := "takeOver", desc := "(LMapForge$TypeList;)V" } : Jvm.MethodName) ({ cls := "MapForge$TypeList", name := "takeOver", desc := "(LMapForge$TypeList;)V" } : Jvm.MethodName)) ∈ zt_Ts := zt_m 788 (by decide +kernel) (by decide +kernel)
theorem wd_789 : (Jvm.Cond.code ({ cls := "MapForge$TypeList", name := "takeOver", desc := "(LMapForge$TypeList;)V" } : Jvm.MethodName) prog_10_method_5_code (2 : Nat) (Option.none : Option Jvm.ClassFile.FieldType)) ∈ zt_Ts := zt_m 789 (by decide +kernel) (by decide +kernel)
theorem wd_790 : (Jvm.Cond.methodLink "MapForge$TypeList" (26 : Nat) ({ cls := "java/lang/System", name := "arraycopy", desc := "(Ljava/lang/Object;ILjava/lang/Object;II)V" } : Jvm.MethodName)) ∈ zt_Ts := zt_m 790 (by decide +kernel) (by decide +kernel)
theorem wd_791 : (Jvm.Cond.methodLink "MapForge" (132 : Nat) ({ cls := "MapForge$Bytes", name := "takeOver", desc := "(LMapForge$Bytes;)V" } : Jvm.MethodName)) ∈ zt_Ts := zt_m 791 (by decide +kernel) (by decide +kernel)
theorem wd_792 : (Jvm.Cond.instanceMethod ({ cls := "MapForge$Bytes", name := "takeOver", desc := "(LMapForge$Bytes;)V" } : Jvm.MethodName)) ∈ zt_Ts := zt_m 792 (by decide +kernel) (by decide +kernel)
theorem wd_793 : (Jvm.Cond.selects "MapForge$Bytes" ({ cls := "MapForge$Bytes", name := "takeOver", desc := "(LMapForge$Bytes;)V" } : Jvm.MethodName) ({ cls := "MapForge$Bytes", name := "takeOver", desc := "(LMapForge$Bytes;)V" } : Jvm.MethodName)) ∈ zt_Ts := zt_m 793 (by decide +kernel) (by decide +kernel)
theorem wd_794 : (Jvm.Cond.code ({ cls := "MapForge$Bytes", name := "takeOver", desc := "(LMapForge$Bytes;)V" } : Jvm.MethodName) prog_2_method_5_code (2 : Nat) (Option.none : Option Jvm.ClassFile.FieldType)) ∈ zt_Ts := zt_m 794 (by decide +kernel) (by decide +kernel)
theorem wd_795 : (Jvm.Cond.methodLink "MapForge$Bytes" (33 : Nat) ({ cls := "java/lang/Math", name := "min", desc := "(II)I" } : Jvm.MethodName)) ∈ zt_Ts := zt_m 795 (by decide +kernel) (by decide +kernel)
theorem wd_796 : (Jvm.Cond.methodLink "MapForge$Bytes" (39 : Nat) ({ cls := "java/lang/System", name := "arraycopy", desc := "(Ljava/lang/Object;ILjava/lang/Object;II)V" } : Jvm.MethodName)) ∈ zt_Ts := zt_m 796 (by decide +kernel) (by decide +kernel)
theorem wd_801 : (Jvm.Cond.methodLink "MapForge" (140 : Nat) ({ cls := "MapForge", name := "isQuestion", desc := "(II)Z" } : Jvm.MethodName)) ∈ zt_Ts := zt_m 801 (by decide +kernel) (by decide +kernel)
theorem wd_802 : (Jvm.Cond.static ({ cls := "MapForge", name := "isQuestion", desc := "(II)Z" } : Jvm.MethodName)) ∈ zt_Ts := zt_m 802 (by decide +kernel) (by decide +kernel)
theorem wd_803 : (Jvm.Cond.code ({ cls := "MapForge", name := "isQuestion", desc := "(II)Z" } : Jvm.MethodName) prog_1_method_20_code (2 : Nat) (Option.some Jvm.ClassFile.FieldType.boolean)) ∈ zt_Ts := zt_m 803 (by decide +kernel) (by decide +kernel)
theorem wd_804 : (Jvm.Cond.methodLink "MapForge" (148 : Nat) ({ cls := "MapForge$Frame", name := "tell", desc := "(I)I" } : Jvm.MethodName)) ∈ zt_Ts := zt_m 804 (by decide +kernel) (by decide +kernel)
theorem wd_805 : (Jvm.Cond.instanceMethod ({ cls := "MapForge$Frame", name := "tell", desc := "(I)I" } : Jvm.MethodName)) ∈ zt_Ts := zt_m 805 (by decide +kernel) (by decide +kernel)
theorem wd_806 : (Jvm.Cond.selects "MapForge$Frame" ({ cls := "MapForge$Frame", name := "tell", desc := "(I)I" } : Jvm.MethodName) ({ cls := "MapForge$Frame", name := "tell", desc := "(I)I" } : Jvm.MethodName)) ∈ zt_Ts := zt_m 806 (by decide +kernel) (by decide +kernel)
theorem wd_807 : (Jvm.Cond.code ({ cls := "MapForge$Frame", name := "tell", desc := "(I)I" } : Jvm.MethodName) prog_6_method_13_code (2 : Nat) (Option.some Jvm.ClassFile.FieldType.int)) ∈ zt_Ts := zt_m 807 (by decide +kernel) (by decide +kernel)
theorem wd_812 : (Jvm.Cond.methodLink "MapForge" (153 : Nat) ({ cls := "MapForge$Reader", name := "isSound", desc := "()Z" } : Jvm.MethodName)) ∈ zt_Ts := zt_m 812 (by decide +kernel) (by decide +kernel)
theorem wd_813 : (Jvm.Cond.instanceMethod ({ cls := "MapForge$Reader", name := "isSound", desc := "()Z" } : Jvm.MethodName)) ∈ zt_Ts := zt_m 813 (by decide +kernel) (by decide +kernel)
theorem wd_814 : (Jvm.Cond.selects "MapForge$Reader" ({ cls := "MapForge$Reader", name := "isSound", desc := "()Z" } : Jvm.MethodName) ({ cls := "MapForge$Reader", name := "isSound", desc := "()Z" } : Jvm.MethodName)) ∈ zt_Ts := zt_m 814 (by decide +kernel) (by decide +kernel)
theorem wd_815 : (Jvm.Cond.code ({ cls := "MapForge$Reader", name := "isSound", desc := "()Z" } : Jvm.MethodName) prog_9_method_2_code (3 : Nat) (Option.some Jvm.ClassFile.FieldType.boolean)) ∈ zt_Ts := zt_m 815 (by decide +kernel) (by decide +kernel)
theorem wd_816 : (Jvm.Cond.methodLink "MapForge$Reader" (54 : Nat) ({ cls := "MapForge$Reader", name := "begin", desc := "()V" } : Jvm.MethodName)) ∈ zt_Ts := zt_m 816 (by decide +kernel) (by decide +kernel)
theorem wd_818 : (Jvm.Cond.instanceMethod ({ cls := "MapForge$Reader", name := "begin", desc := "()V" } : Jvm.MethodName)) ∈ zt_Ts := zt_m 818 (by decide +kernel) (by decide +kernel)
theorem wd_819 : (Jvm.Cond.code ({ cls := "MapForge$Reader", name := "begin", desc := "()V" } : Jvm.MethodName) prog_9_method_3_code (1 : Nat) (Option.none : Option Jvm.ClassFile.FieldType)) ∈ zt_Ts := zt_m 819 (by decide +kernel) (by decide +kernel)
theorem wd_820 : (Jvm.Cond.methodLink "MapForge$Reader" (79 : Nat) ({ cls := "MapForge$Program", name := "enter", desc := "(LMapForge$Frame;)V" } : Jvm.MethodName)) ∈ zt_Ts := zt_m 820 (by decide +kernel) (by decide +kernel)
theorem wd_821 : (Jvm.Cond.methodLink "MapForge$Reader" (83 : Nat) ({ cls := "MapForge$TypeList", name := "gather", desc := "(LMapForge$Frame;)V" } : Jvm.MethodName)) ∈ zt_Ts := zt_m 821 (by decide +kernel) (by decide +kernel)
theorem wd_822 : (Jvm.Cond.methodLink "MapForge$Reader" (86 : Nat) ({ cls := "java/util/Arrays", name := "fill", desc := "([II)V" } : Jvm.MethodName)) ∈ zt_Ts := zt_m 822 (by decide +kernel) (by decide +kernel)
theorem wd_823 : (Jvm.Cond.methodLink "MapForge$Reader" (69 : Nat) ({ cls := "MapForge$Reader", name := "readRow", desc := "(LMapForge$Frame;)Z" } : Jvm.MethodName)) ∈ zt_Ts := zt_m 823 (by decide +kernel) (by decide +kernel)
theorem wd_825 : (Jvm.Cond.instanceMethod ({ cls := "MapForge$Reader", name := "readRow", desc := "(LMapForge$Frame;)Z" } : Jvm.MethodName)) ∈ zt_Ts := zt_m 825 (by decide +kernel) (by decide +kernel)
theorem wd_826 : (Jvm.Cond.code ({ cls := "MapForge$Reader", name := "readRow", desc := "(LMapForge$Frame;)Z" } : Jvm.MethodName) prog_9_method_4_code (4 : Nat) (Option.some Jvm.ClassFile.FieldType.boolean)) ∈ zt_Ts := zt_m 826 (by decide +kernel) (by decide +kernel)
theorem wd_827 : (Jvm.Cond.methodLink "MapForge$Reader" (92 : Nat) ({ cls := "MapForge$Reader", name := "readByte", desc := "()I" } : Jvm.MethodName)) ∈ zt_Ts := zt_m 827 (by decide +kernel) (by decide +kernel)
theorem wd_829 : (Jvm.Cond.instanceMethod ({ cls := "MapForge$Reader", name := "readByte", desc := "()I" } : Jvm.MethodName)) ∈ zt_Ts := zt_m 829 (by decide +kernel) (by decide +kernel)
theorem wd_830 : (Jvm.Cond.code ({ cls := "MapForge$Reader", name := "readByte", desc := "()I" } : Jvm.MethodName) prog_9_method_11_code (1 : Nat) (Option.some Jvm.ClassFile.FieldType.int)) ∈ zt_Ts := zt_m 830 (by decide +kernel) (by decide +kernel)
theorem wd_831 : (Jvm.Cond.methodLink "MapForge$Reader" (96 : Nat) ({ cls := "MapForge$Frame", name := "emptyStack", desc := "()V" } : Jvm.MethodName)) ∈ zt_Ts := zt_m 831 (by decide +kernel) (by decide +kernel)
theorem wd_832 : (Jvm.Cond.methodLink "MapForge$Reader" (99 : Nat) ({ cls := "MapForge$Reader", name := "readStack", desc := "(LMapForge$Frame;I)Z" } : Jvm.MethodName)) ∈ zt_Ts := zt_m 832 (by decide +kernel) (by decide +kernel)
theorem wd_834 : (Jvm.Cond.instanceMethod ({ cls := "MapForge$Reader", name := "readStack", desc := "(LMapForge$Frame;I)Z" } : Jvm.MethodName)) ∈ zt_Ts := zt_m 834 (by decide +kernel) (by decide +kernel)
theorem wd_835 : (Jvm.Cond.code ({ cls := "MapForge$Reader", name := "readStack", desc := "(LMapForge$Frame;I)Z" } : Jvm.MethodName) prog_9_method_8_code (5 : Nat) (Option.some Jvm.ClassFile.FieldType.boolean)) ∈ zt_Ts := zt_m 835 (by decide +kernel) (by decide +kernel)
theorem wd_836 : (Jvm.Cond.methodLink "MapForge$Reader" (134 : Nat) ({ cls := "MapForge$Reader", name := "readType", desc := "()I" } : Jvm.MethodName)) ∈ zt_Ts := zt_m 836 (by decide +kernel) (by decide +kernel)
theorem wd_838 : (Jvm.Cond.instanceMethod ({ cls := "MapForge$Reader", name := "readType", desc := "()I" } : Jvm.MethodName)) ∈ zt_Ts := zt_m 838 (by decide +kernel) (by decide +kernel)
theorem wd_839 : (Jvm.Cond.code ({ cls := "MapForge$Reader", name := "readType", desc := "()I" } : Jvm.MethodName) prog_9_method_9_code (3 : Nat) (Option.some Jvm.ClassFile.FieldType.int)) ∈ zt_Ts := zt_m 839 (by decide +kernel) (by decide +kernel)
theorem wd_840 : (Jvm.Cond.methodLink "MapForge$Reader" (103 : Nat) ({ cls := "MapForge$Reader", name := "readTwo", desc := "()I" } : Jvm.MethodName)) ∈ zt_Ts := zt_m 840 (by decide +kernel) (by decide +kernel)
theorem wd_842 : (Jvm.Cond.instanceMethod ({ cls := "MapForge$Reader", name := "readTwo", desc := "()I" } : Jvm.MethodName)) ∈ zt_Ts := zt_m 842 (by decide +kernel) (by decide +kernel)
theorem wd_843 : (Jvm.Cond.code ({ cls := "MapForge$Reader", name := "readTwo", desc := "()I" } : Jvm.MethodName) prog_9_method_10_code (3 : Nat) (Option.some Jvm.ClassFile.FieldType.int)) ∈ zt_Ts := zt_m 843 (by decide +kernel) (by decide +kernel)
theorem wd_844 : (Jvm.Cond.methodLinkNest "MapForge$Reader" (143 : Nat) ({ cls := "MapForge", name := "isClass", desc := "(I)Z" } : Jvm.MethodName) "MapForge") ∈ zt_Ts := zt_m 844 (by decide +kernel) (by decide +kernel)
theorem wd_845 : (Jvm.Cond.methodLinkNest "MapForge$Reader" (146 : Nat) ({ cls := "MapForge", name := "typeOf", desc := "(II)I" } : Jvm.MethodName) "MapForge") ∈ zt_Ts := zt_m 845 (by decide +kernel) (by decide +kernel)
theorem wd_846 : (Jvm.Cond.methodLink "MapForge$Reader" (140 : Nat) ({ cls := "MapForge$Frame", name := "push", desc := "(I)Z" } : Jvm.MethodName)) ∈ zt_Ts := zt_m 846 (by decide +kernel) (by decide +kernel)
theorem wd_847 : (Jvm.Cond.methodLink "MapForge$Reader" (106 : Nat) ({ cls := "MapForge$Reader", name := "readRest", desc := "(ILMapForge$Frame;)Z" } : Jvm.MethodName)) ∈ zt_Ts := zt_m 847 (by decide +kernel) (by decide +kernel)
theorem wd_849 : (Jvm.Cond.instanceMethod ({ cls := "MapForge$Reader", name := "readRest", desc := "(ILMapForge$Frame;)Z" } : Jvm.MethodName)) ∈ zt_Ts := zt_m 849 (by decide +kernel) (by decide +kernel)
theorem wd_850 : (Jvm.Cond.code ({ cls := "MapForge$Reader", name := "readRest", desc := "(ILMapForge$Frame;)Z" } : Jvm.MethodName) prog_9_method_5_code (3 : Nat) (Option.some Jvm.ClassFile.FieldType.boolean)) ∈ zt_Ts := zt_m 850 (by decide +kernel) (by decide +kernel)
theorem wd_851 : (Jvm.Cond.methodLink "MapForge$Reader" (120 : Nat) ({ cls := "MapForge$TypeList", name := "empty", desc := "()V" } : Jvm.MethodName)) ∈ zt_Ts := zt_m 851 (by decide +kernel) (by decide +kernel)
theorem wd_852 : (Jvm.Cond.methodLink "MapForge$Reader" (123 : Nat) ({ cls := "MapForge$Reader", name := "readList", desc := "(I)Z" } : Jvm.MethodName)) ∈ zt_Ts := zt_m 852 (by decide +kernel) (by decide +kernel)
theorem wd_854 : (Jvm.Cond.instanceMethod ({ cls := "MapForge$Reader", name := "readList", desc := "(I)Z" } : Jvm.MethodName)) ∈ zt_Ts := zt_m 854 (by decide +kernel) (by decide +kernel)
theorem wd_855 : (Jvm.Cond.code ({ cls := "MapForge$Reader", name := "readList", desc := "(I)Z" } : Jvm.MethodName) prog_9_method_7_code (4 : Nat) (Option.some Jvm.ClassFile.FieldType.boolean)) ∈ zt_Ts := zt_m 855 (by decide +kernel) (by decide +kernel)
theorem wd_856 : (Jvm.Cond.methodLink "MapForge$Reader" (137 : Nat) ({ cls := "MapForge$TypeList", name := "append", desc := "(I)Z" } : Jvm.MethodName)) ∈ zt_Ts := zt_m 856 (by decide +kernel) (by decide +kernel)
theorem wd_857 : (Jvm.Cond.methodLink "MapForge$Reader" (127 : Nat) ({ cls := "MapForge$Reader", name := "shorten", desc := "(I)Z" } : Jvm.MethodName)) ∈ zt_Ts := zt_m 857 (by decide +kernel) (by decide +kernel)
theorem wd_859 : (Jvm.Cond.instanceMethod ({ cls := "MapForge$Reader", name := "shorten", desc := "(I)Z" } : Jvm.MethodName)) ∈ zt_Ts := zt_m 859 (by decide +kernel) (by decide +kernel)
theorem wd_860 : (Jvm.Cond.code ({ cls := "MapForge$Reader", name := "shorten", desc := "(I)Z" } : Jvm.MethodName) prog_9_method_6_code (3 : Nat) (Option.some Jvm.ClassFile.FieldType.boolean)) ∈ zt_Ts := zt_m 860 (by decide +kernel) (by decide +kernel)
theorem wd_861 : (Jvm.Cond.methodLink "MapForge$Reader" (131 : Nat) ({ cls := "MapForge$TypeList", name := "drop", desc := "()V" } : Jvm.MethodName)) ∈ zt_Ts := zt_m 861 (by decide +kernel) (by decide +kernel)
theorem wd_862 : (Jvm.Cond.methodLink "MapForge$Reader" (110 : Nat) ({ cls := "MapForge$TypeList", name := "spread", desc := "(LMapForge$Frame;)V" } : Jvm.MethodName)) ∈ zt_Ts := zt_m 862 (by decide +kernel) (by decide +kernel)
theorem wd_863 : (Jvm.Cond.instanceMethod ({ cls := "MapForge$TypeList", name := "spread", desc := "(LMapForge$Frame;)V" } : Jvm.MethodName)) ∈ zt_Ts := zt_m 863 (by decide +kernel) (by decide +kernel)
theorem wd_864 : (Jvm.Cond.selects "MapForge$TypeList" ({ cls := "MapForge$TypeList", name := "spread", desc := "(LMapForge$Frame;)V" } : Jvm.MethodName) ({ cls := "MapForge$TypeList", name := "spread", desc := "(LMapForge$Frame;)V" } : Jvm.MethodName)) ∈ zt_Ts := zt_m 864 (by decide +kernel) (by decide +kernel)
theorem wd_865 : (Jvm.Cond.code ({ cls := "MapForge$TypeList", name := "spread", desc := "(LMapForge$Frame;)V" } : Jvm.MethodName) prog_10_method_7_code (4 : Nat) (Option.none : Option Jvm.ClassFile.FieldType)) ∈ zt_Ts := zt_m 865 (by decide +kernel) (by decide +kernel)
theorem wd_866 : (Jvm.Cond.methodLink "MapForge$TypeList" (47 : Nat) ({ cls := "java/util/Arrays", name := "fill", desc := "([II)V" } : Jvm.MethodName)) ∈ zt_Ts := zt_m 866 (by decide +kernel) (by decide +kernel)
theorem wd_867 : (Jvm.Cond.methodLink "MapForge$Reader" (113 : Nat) ({ cls := "MapForge$Frame", name := "hasRawThisInLocal", desc := "()Z" } : Jvm.MethodName)) ∈ zt_Ts := zt_m 867 (by decide +kernel) (by decide +kernel)
theorem wd_868 : (Jvm.Cond.methodLink "MapForge$Reader" (73 : Nat) ({ cls := "MapForge$Program", name := "placeAt", desc := "(I)I" } : Jvm.MethodName)) ∈ zt_Ts := zt_m 868 (by decide +kernel) (by decide +kernel)
theorem wd_869 : (Jvm.Cond.methodLink "MapForge" (156 : Nat) ({ cls := "MapForge$Checker", name := "firstBad", desc := "()I" } : Jvm.MethodName)) ∈ zt_Ts := zt_m 869 (by decide +kernel) (by decide +kernel)
theorem wd_870 : (Jvm.Cond.instanceMethod ({ cls := "MapForge$Checker", name := "firstBad", desc := "()I" } : Jvm.MethodName)) ∈ zt_Ts := zt_m 870 (by decide +kernel) (by decide +kernel)
theorem wd_871 : (Jvm.Cond.selects "MapForge$Checker" ({ cls := "MapForge$Checker", name := "firstBad", desc := "()I" } : Jvm.MethodName) ({ cls := "MapForge$Checker", name := "firstBad", desc := "()I" } : Jvm.MethodName)) ∈ zt_Ts := zt_m 871 (by decide +kernel) (by decide +kernel)
theorem wd_872 : (Jvm.Cond.code ({ cls := "MapForge$Checker", name := "firstBad", desc := "()I" } : Jvm.MethodName) prog_3_method_2_code (3 : Nat) (Option.some Jvm.ClassFile.FieldType.int)) ∈ zt_Ts := zt_m 872 (by decide +kernel) (by decide +kernel)
theorem wd_873 : (Jvm.Cond.methodLink "MapForge$Checker" (37 : Nat) ({ cls := "MapForge$Program", name := "enter", desc := "(LMapForge$Frame;)V" } : Jvm.MethodName)) ∈ zt_Ts := zt_m 873 (by decide +kernel) (by decide +kernel)
theorem wd_874 : (Jvm.Cond.methodLink "MapForge$Checker" (47 : Nat) ({ cls := "MapForge$Checker", name := "begins", desc := "(IZ)Z" } : Jvm.MethodName)) ∈ zt_Ts := zt_m 874 (by decide +kernel) (by decide +kernel)
theorem wd_876 : (Jvm.Cond.instanceMethod ({ cls := "MapForge$Checker", name := "begins", desc := "(IZ)Z" } : Jvm.MethodName)) ∈ zt_Ts := zt_m 876 (by decide +kernel) (by decide +kernel)
theorem wd_877 : (Jvm.Cond.code ({ cls := "MapForge$Checker", name := "begins", desc := "(IZ)Z" } : Jvm.MethodName) prog_3_method_3_code (4 : Nat) (Option.some Jvm.ClassFile.FieldType.boolean)) ∈ zt_Ts := zt_m 877 (by decide +kernel) (by decide +kernel)
theorem wd_878 : (Jvm.Cond.methodLink "MapForge$Checker" (80 : Nat) ({ cls := "MapForge$Family", name := "fits", desc := "(LMapForge$Frame;LMapForge$Frame;)Z" } : Jvm.MethodName)) ∈ zt_Ts := zt_m 878 (by decide +kernel) (by decide +kernel)
theorem wd_879 : (Jvm.Cond.instanceMethod ({ cls := "MapForge$Family", name := "fits", desc := "(LMapForge$Frame;LMapForge$Frame;)Z" } : Jvm.MethodName)) ∈ zt_Ts := zt_m 879 (by decide +kernel) (by decide +kernel)
theorem wd_880 : (Jvm.Cond.selects "MapForge$Family" ({ cls := "MapForge$Family", name := "fits", desc := "(LMapForge$Frame;LMapForge$Frame;)Z" } : Jvm.MethodName) ({ cls := "MapForge$Family", name := "fits", desc := "(LMapForge$Frame;LMapForge$Frame;)Z" } : Jvm.MethodName)) ∈ zt_Ts := zt_m 880 (by decide +kernel) (by decide +kernel)
theorem wd_881 : (Jvm.Cond.code ({ cls := "MapForge$Family", name := "fits", desc := "(LMapForge$Frame;LMapForge$Frame;)Z" } : Jvm.MethodName) prog_4_method_6_code (4 : Nat) (Option.some Jvm.ClassFile.FieldType.boolean)) ∈ zt_Ts := zt_m 881 (by decide +kernel) (by decide +kernel)
theorem wd_882 : (Jvm.Cond.methodLink "MapForge$Family" (50 : Nat) ({ cls := "MapForge$Family", name := "is", desc := "(II)Z" } : Jvm.MethodName)) ∈ zt_Ts := zt_m 882 (by decide +kernel) (by decide +kernel)
theorem wd_883 : (Jvm.Cond.methodLink "MapForge$Checker" (86 : Nat) ({ cls := "MapForge$Frame", name := "takeOver", desc := "(LMapForge$Frame;)V" } : Jvm.MethodName)) ∈ zt_Ts := zt_m 883 (by decide +kernel) (by decide +kernel)
theorem wd_884 : (Jvm.Cond.methodLink "MapForge$Checker" (51 : Nat) ({ cls := "MapForge$Checker", name := "handlersFit", desc := "(I)Z" } : Jvm.MethodName)) ∈ zt_Ts := zt_m 884 (by decide +kernel) (by decide +kernel)
theorem wd_886 : (Jvm.Cond.instanceMethod ({ cls := "MapForge$Checker", name := "handlersFit", desc := "(I)Z" } : Jvm.MethodName)) ∈ zt_Ts := zt_m 886 (by decide +kernel) (by decide +kernel)
theorem wd_887 : (Jvm.Cond.code ({ cls := "MapForge$Checker", name := "handlersFit", desc := "(I)Z" } : Jvm.MethodName) prog_3_method_4_code (3 : Nat) (Option.some Jvm.ClassFile.FieldType.boolean)) ∈ zt_Ts := zt_m 887 (by decide +kernel) (by decide +kernel)
theorem wd_888 : (Jvm.Cond.methodLink "MapForge$Checker" (92 : Nat) ({ cls := "MapForge$Program", name := "isGuarded", desc := "(II)Z" } : Jvm.MethodName)) ∈ zt_Ts := zt_m 888 (by decide +kernel) (by decide +kernel)
theorem wd_889 : (Jvm.Cond.methodLink "MapForge$Checker" (99 : Nat) ({ cls := "MapForge$Frame", name := "takeOverForHandler", desc := "(LMapForge$Frame;I)V" } : Jvm.MethodName)) ∈ zt_Ts := zt_m 889 (by decide +kernel) (by decide +kernel)
theorem wd_890 : (Jvm.Cond.methodLink "MapForge$Checker" (106 : Nat) ({ cls := "MapForge$Checker", name := "fitsAt", desc := "(ILMapForge$Frame;)Z" } : Jvm.MethodName)) ∈ zt_Ts := zt_m 890 (by decide +kernel) (by decide +kernel)
theorem wd_892 : (Jvm.Cond.instanceMethod ({ cls := "MapForge$Checker", name := "fitsAt", desc := "(ILMapForge$Frame;)Z" } : Jvm.MethodName)) ∈ zt_Ts := zt_m 892 (by decide +kernel) (by decide +kernel)
theorem wd_893 : (Jvm.Cond.code ({ cls := "MapForge$Checker", name := "fitsAt", desc := "(ILMapForge$Frame;)Z" } : Jvm.MethodName) prog_3_method_6_code (4 : Nat) (Option.some Jvm.ClassFile.FieldType.boolean)) ∈ zt_Ts := zt_m 893 (by decide +kernel) (by decide +kernel)
theorem wd_894 : (Jvm.Cond.methodLink "MapForge$Checker" (55 : Nat) ({ cls := "MapForge$Machine", name := "step", desc := "(ILMapForge$Frame;)Z" } : Jvm.MethodName)) ∈ zt_Ts := zt_m 894 (by decide +kernel) (by decide +kernel)
theorem wd_895 : (Jvm.Cond.methodLink "MapForge$Checker" (61 : Nat) ({ cls := "MapForge$Checker", name := "jumpFits", desc := "(I)Z" } : Jvm.MethodName)) ∈ zt_Ts := zt_m 895 (by decide +kernel) (by decide +kernel)
theorem wd_897 : (Jvm.Cond.instanceMethod ({ cls := "MapForge$Checker", name := "jumpFits", desc := "(I)Z" } : Jvm.MethodName)) ∈ zt_Ts := zt_m 897 (by decide +kernel) (by decide +kernel)
theorem wd_898 : (Jvm.Cond.code ({ cls := "MapForge$Checker", name := "jumpFits", desc := "(I)Z" } : Jvm.MethodName) prog_3_method_5_code (2 : Nat) (Option.some Jvm.ClassFile.FieldType.boolean)) ∈ zt_Ts := zt_m 898 (by decide +kernel) (by decide +kernel)
theorem wd_899 : (Jvm.Cond.methodLinkNest "MapForge$Checker" (109 : Nat) ({ cls := "MapForge", name := "isJump", desc := "(I)Z" } : Jvm.MethodName) "MapForge") ∈ zt_Ts := zt_m 899 (by decide +kernel) (by decide +kernel)
theorem wd_900 : (Jvm.Cond.methodLinkNest "MapForge$Checker" (68 : Nat) ({ cls := "MapForge", name := "isEnd", desc := "(I)Z" } : Jvm.MethodName) "MapForge") ∈ zt_Ts := zt_m 900 (by decide +kernel) (by decide +kernel)
theorem wd_909 : (Jvm.Cond.methodLink "MapForge" (162 : Nat) ({ cls := "java/lang/Math", name := "max", desc := "(II)I" } : Jvm.MethodName)) ∈ zt_Ts := zt_m 909 (by decide +kernel) (by decide +kernel)
theorem wd_910 : (Jvm.Cond.static ({ cls := "java/lang/Math", name := "max", desc := "(II)I" } : Jvm.MethodName)) ∈ zt_Ts := zt_m 910 (by decide +kernel) (by decide +kernel)
theorem wd_934 : (Jvm.Cond.fieldLink "MapForgeModel" (7 : Nat) "MapForgeModel" "sup" "[I") ∈ zt_Ts := zt_m 934 (by decide +kernel) (by decide +kernel)
theorem wd_935 : (Jvm.Cond.fieldLink "MapForgeModel" (13 : Nat) "MapForgeModel" "face" "[Z") ∈ zt_Ts := zt_m 935 (by decide +kernel) (by decide +kernel)
theorem wd_936 : (Jvm.Cond.fieldLink "MapForgeModel" (101 : Nat) "MapForgeModel" "own" "I") ∈ zt_Ts := zt_m 936 (by decide +kernel) (by decide +kernel)
theorem wd_937 : (Jvm.Cond.fieldLink "MapForgeModel" (105 : Nat) "MapForgeModel" "mode" "I") ∈ zt_Ts := zt_m 937 (by decide +kernel) (by decide +kernel)
theorem wd_938 : (Jvm.Cond.fieldLink "MapForgeModel" (112 : Nat) "MapForgeModel" "arguments" "I") ∈ zt_Ts := zt_m 938 (by decide +kernel) (by decide +kernel)
theorem wd_939 : (Jvm.Cond.fieldLink "MapForgeModel" (115 : Nat) "MapForgeModel" "many" "I") ∈ zt_Ts := zt_m 939 (by decide +kernel) (by decide +kernel)
theorem wd_940 : (Jvm.Cond.fieldLink "MapForgeModel" (118 : Nat) "MapForgeModel" "handlers" "I") ∈ zt_Ts := zt_m 940 (by decide +kernel) (by decide +kernel)
theorem wd_941 : (Jvm.Cond.fieldLink "MapForgeModel" (263 : Nat) "MapForgeModel" "bytes" "I") ∈ zt_Ts := zt_m 941 (by decide +kernel) (by decide +kernel)
theorem wd_942 : (Jvm.Cond.fieldLink "MapForgeModel" (108 : Nat) "MapForgeModel" "gives" "Z") ∈ zt_Ts := zt_m 942 (by decide +kernel) (by decide +kernel)
theorem wd_943 : (Jvm.Cond.fieldLink "MapForgeModel" (17 : Nat) "MapForgeModel" "argument" "[I") ∈ zt_Ts := zt_m 943 (by decide +kernel) (by decide +kernel)
theorem wd_944 : (Jvm.Cond.fieldLink "MapForgeModel" (20 : Nat) "MapForgeModel" "op" "[I") ∈ zt_Ts := zt_m 944 (by decide +kernel) (by decide +kernel)
theorem wd_945 : (Jvm.Cond.fieldLink "MapForgeModel" (23 : Nat) "MapForgeModel" "one" "[I") ∈ zt_Ts := zt_m 945 (by decide +kernel) (by decide +kernel)
theorem wd_946 : (Jvm.Cond.fieldLink "MapForgeModel" (26 : Nat) "MapForgeModel" "two" "[I") ∈ zt_Ts := zt_m 946 (by decide +kernel) (by decide +kernel)
theorem wd_947 : (Jvm.Cond.fieldLink "MapForgeModel" (29 : Nat) "MapForgeModel" "hFrom" "[I") ∈ zt_Ts := zt_m 947 (by decide +kernel) (by decide +kernel)
theorem wd_948 : (Jvm.Cond.fieldLink "MapForgeModel" (32 : Nat) "MapForgeModel" "hTo" "[I") ∈ zt_Ts := zt_m 948 (by decide +kernel) (by decide +kernel)
theorem wd_949 : (Jvm.Cond.fieldLink "MapForgeModel" (35 : Nat) "MapForgeModel" "hAt" "[I") ∈ zt_Ts := zt_m 949 (by decide +kernel) (by decide +kernel)
theorem wd_950 : (Jvm.Cond.fieldLink "MapForgeModel" (38 : Nat) "MapForgeModel" "hClass" "[I") ∈ zt_Ts := zt_m 950 (by decide +kernel) (by decide +kernel)
theorem wd_951 : (Jvm.Cond.fieldLink "MapForgeModel" (41 : Nat) "MapForgeModel" "map" "[I") ∈ zt_Ts := zt_m 951 (by decide +kernel) (by decide +kernel)
theorem wd_952 : (Jvm.Cond.fieldLink "MapForgeModel" (44 : Nat) "MapForgeModel" "local" "[I") ∈ zt_Ts := zt_m 952 (by decide +kernel) (by decide +kernel)
theorem wd_953 : (Jvm.Cond.fieldLink "MapForgeModel" (47 : Nat) "MapForgeModel" "stack" "[I") ∈ zt_Ts := zt_m 953 (by decide +kernel) (by decide +kernel)
theorem wd_954 : (Jvm.Cond.fieldLink "MapForgeModel" (138 : Nat) "MapForgeModel" "depth" "I") ∈ zt_Ts := zt_m 954 (by decide +kernel) (by decide +kernel)
theorem wd_955 : (Jvm.Cond.fieldLink "MapForgeModel" (141 : Nat) "MapForgeModel" "raw" "Z") ∈ zt_Ts := zt_m 955 (by decide +kernel) (by decide +kernel)
theorem wd_956 : (Jvm.Cond.fieldLink "MapForgeModel" (50 : Nat) "MapForgeModel" "come" "[Z") ∈ zt_Ts := zt_m 956 (by decide +kernel) (by decide +kernel)
theorem wd_957 : (Jvm.Cond.fieldLink "MapForgeModel" (53 : Nat) "MapForgeModel" "isRaw" "[Z") ∈ zt_Ts := zt_m 957 (by decide +kernel) (by decide +kernel)
theorem wd_958 : (Jvm.Cond.fieldLink "MapForgeModel" (56 : Nat) "MapForgeModel" "deep" "[I") ∈ zt_Ts := zt_m 958 (by decide +kernel) (by decide +kernel)
theorem wd_959 : (Jvm.Cond.fieldLink "MapForgeModel" (59 : Nat) "MapForgeModel" "fLocal" "[I") ∈ zt_Ts := zt_m 959 (by decide +kernel) (by decide +kernel)
theorem wd_960 : (Jvm.Cond.fieldLink "MapForgeModel" (62 : Nat) "MapForgeModel" "fStack" "[I") ∈ zt_Ts := zt_m 960 (by decide +kernel) (by decide +kernel)
theorem wd_961 : (Jvm.Cond.fieldLink "MapForgeModel" (194 : Nat) "MapForgeModel" "right" "Z") ∈ zt_Ts := zt_m 961 (by decide +kernel) (by decide +kernel)
theorem wd_962 : (Jvm.Cond.fieldLink "MapForgeModel" (201 : Nat) "MapForgeModel" "changed" "Z") ∈ zt_Ts := zt_m 962 (by decide +kernel) (by decide +kernel)
theorem wd_963 : (Jvm.Cond.fieldLink "MapForgeModel" (65 : Nat) "MapForgeModel" "rowOffset" "[I") ∈ zt_Ts := zt_m 963 (by decide +kernel) (by decide +kernel)
theorem wd_964 : (Jvm.Cond.fieldLink "MapForgeModel" (68 : Nat) "MapForgeModel" "rowByte" "[I") ∈ zt_Ts := zt_m 964 (by decide +kernel) (by decide +kernel)
theorem wd_965 : (Jvm.Cond.fieldLink "MapForgeModel" (71 : Nat) "MapForgeModel" "rowDeep" "[I") ∈ zt_Ts := zt_m 965 (by decide +kernel) (by decide +kernel)
theorem wd_966 : (Jvm.Cond.fieldLink "MapForgeModel" (74 : Nat) "MapForgeModel" "rowLocal" "[I") ∈ zt_Ts := zt_m 966 (by decide +kernel) (by decide +kernel)
theorem wd_967 : (Jvm.Cond.fieldLink "MapForgeModel" (77 : Nat) "MapForgeModel" "rowStack" "[I") ∈ zt_Ts := zt_m 967 (by decide +kernel) (by decide +kernel)
theorem wd_968 : (Jvm.Cond.fieldLink "MapForgeModel" (290 : Nat) "MapForgeModel" "rows" "I") ∈ zt_Ts := zt_m 968 (by decide +kernel) (by decide +kernel)
theorem wd_969 : (Jvm.Cond.fieldLink "MapForgeModel" (80 : Nat) "MapForgeModel" "list" "[I") ∈ zt_Ts := zt_m 969 (by decide +kernel) (by decide +kernel)
theorem wd_970 : (Jvm.Cond.fieldLink "MapForgeModel" (83 : Nat) "MapForgeModel" "before" "[I") ∈ zt_Ts := zt_m 970 (by decide +kernel) (by decide +kernel)
theorem wd_971 : (Jvm.Cond.fieldLink "MapForgeModel" (233 : Nat) "MapForgeModel" "listed" "I") ∈ zt_Ts := zt_m 971 (by decide +kernel) (by decide +kernel)
theorem wd_972 : (Jvm.Cond.fieldLink "MapForgeModel" (236 : Nat) "MapForgeModel" "listedBefore" "I") ∈ zt_Ts := zt_m 972 (by decide +kernel) (by decide +kernel)
theorem wd_973 : (Jvm.Cond.fieldLink "MapForgeModel" (86 : Nat) "MapForgeModel" "made" "[I") ∈ zt_Ts := zt_m 973 (by decide +kernel) (by decide +kernel)
theorem wd_974 : (Jvm.Cond.fieldLink "MapForgeModel" (239 : Nat) "MapForgeModel" "length" "I") ∈ zt_Ts := zt_m 974 (by decide +kernel) (by decide +kernel)
theorem wd_975 : (Jvm.Cond.fieldLink "MapForgeModel" (266 : Nat) "MapForgeModel" "place" "I") ∈ zt_Ts := zt_m 975 (by decide +kernel) (by decide +kernel)
theorem wd_976 : (Jvm.Cond.fieldLink "MapForgeModel" (269 : Nat) "MapForgeModel" "broken" "Z") ∈ zt_Ts := zt_m 976 (by decide +kernel) (by decide +kernel)
theorem wd_977 : (Jvm.Cond.laysFinal "MapForgeModel" "MapForgeModel" "sup" "[I") ∈ zt_Ts := zt_m 977 (by decide +kernel) (by decide +kernel)
theorem wd_979 : (Jvm.Cond.laysFinal "MapForgeModel" "MapForgeModel" "face" "[Z") ∈ zt_Ts := zt_m 979 (by decide +kernel) (by decide +kernel)
theorem wd_981 : (Jvm.Cond.lays "MapForgeModel" "MapForgeModel" "own" "I") ∈ zt_Ts := zt_m 981 (by decide +kernel) (by decide +kernel)
theorem wd_983 : (Jvm.Cond.lays "MapForgeModel" "MapForgeModel" "mode" "I") ∈ zt_Ts := zt_m 983 (by decide +kernel) (by decide +kernel)
theorem wd_985 : (Jvm.Cond.lays "MapForgeModel" "MapForgeModel" "arguments" "I") ∈ zt_Ts := zt_m 985 (by decide +kernel) (by decide +kernel)
theorem wd_987 : (Jvm.Cond.lays "MapForgeModel" "MapForgeModel" "many" "I") ∈ zt_Ts := zt_m 987 (by decide +kernel) (by decide +kernel)
theorem wd_989 : (Jvm.Cond.lays "MapForgeModel" "MapForgeModel" "handlers" "I") ∈ zt_Ts := zt_m 989 (by decide +kernel) (by decide +kernel)
theorem wd_991 : (Jvm.Cond.lays "MapForgeModel" "MapForgeModel" "bytes" "I") ∈ zt_Ts := zt_m 991 (by decide +kernel) (by decide +kernel)
theorem wd_993 : (Jvm.Cond.lays "MapForgeModel" "MapForgeModel" "gives" "Z") ∈ zt_Ts := zt_m 993 (by decide +kernel) (by decide +kernel)
theorem wd_995 : (Jvm.Cond.laysFinal "MapForgeModel" "MapForgeModel" "argument" "[I") ∈ zt_Ts := zt_m 995 (by decide +kernel) (by decide +kernel)
theorem wd_997 : (Jvm.Cond.laysFinal "MapForgeModel" "MapForgeModel" "op" "[I") ∈ zt_Ts := zt_m 997 (by decide +kernel) (by decide +kernel)
theorem wd_999 : (Jvm.Cond.laysFinal "MapForgeModel" "MapForgeModel" "one" "[I") ∈ zt_Ts := zt_m 999 (by decide +kernel) (by decide +kernel)
theorem wd_1001 : (Jvm.Cond.laysFinal "MapForgeModel" "MapForgeModel" "two" "[I") ∈ zt_Ts := zt_m 1001 (by decide +kernel) (by decide +kernel)
theorem wd_1003 : (Jvm.Cond.laysFinal "MapForgeModel" "MapForgeModel" "hFrom" "[I") ∈ zt_Ts := zt_m 1003 (by decide +kernel) (by decide +kernel)
theorem wd_1005 : (Jvm.Cond.laysFinal "MapForgeModel" "MapForgeModel" "hTo" "[I") ∈ zt_Ts := zt_m 1005 (by decide +kernel) (by decide +kernel)
theorem wd_1007 : (Jvm.Cond.laysFinal "MapForgeModel" "MapForgeModel" "hAt" "[I") ∈ zt_Ts := zt_m 1007 (by decide +kernel) (by decide +kernel)
theorem wd_1009 : (Jvm.Cond.laysFinal "MapForgeModel" "MapForgeModel" "hClass" "[I") ∈ zt_Ts := zt_m 1009 (by decide +kernel) (by decide +kernel)
theorem wd_1011 : (Jvm.Cond.laysFinal "MapForgeModel" "MapForgeModel" "map" "[I") ∈ zt_Ts := zt_m 1011 (by decide +kernel) (by decide +kernel)
theorem wd_1013 : (Jvm.Cond.laysFinal "MapForgeModel" "MapForgeModel" "local" "[I") ∈ zt_Ts := zt_m 1013 (by decide +kernel) (by decide +kernel)
theorem wd_1015 : (Jvm.Cond.laysFinal "MapForgeModel" "MapForgeModel" "stack" "[I") ∈ zt_Ts := zt_m 1015 (by decide +kernel) (by decide +kernel)
theorem wd_1017 : (Jvm.Cond.lays "MapForgeModel" "MapForgeModel" "depth" "I") ∈ zt_Ts := zt_m 1017 (by decide +kernel) (by decide +kernel)
theorem wd_1019 : (Jvm.Cond.lays "MapForgeModel" "MapForgeModel" "raw" "Z") ∈ zt_Ts := zt_m 1019 (by decide +kernel) (by decide +kernel)
theorem wd_1021 : (Jvm.Cond.laysFinal "MapForgeModel" "MapForgeModel" "come" "[Z") ∈ zt_Ts := zt_m 1021 (by decide +kernel) (by decide +kernel)
theorem wd_1023 : (Jvm.Cond.laysFinal "MapForgeModel" "MapForgeModel" "isRaw" "[Z") ∈ zt_Ts := zt_m 1023 (by decide +kernel) (by decide +kernel)
theorem wd_1025 : (Jvm.Cond.laysFinal "MapForgeModel" "MapForgeModel" "deep" "[I") ∈ zt_Ts := zt_m 1025 (by decide +kernel) (by decide +kernel)
theorem wd_1027 : (Jvm.Cond.laysFinal "MapForgeModel" "MapForgeModel" "fLocal" "[I") ∈ zt_Ts := zt_m 1027 (by decide +kernel) (by decide +kernel)
theorem wd_1029 : (Jvm.Cond.laysFinal "MapForgeModel" "MapForgeModel" "fStack" "[I") ∈ zt_Ts := zt_m 1029 (by decide +kernel) (by decide +kernel)
theorem wd_1031 : (Jvm.Cond.lays "MapForgeModel" "MapForgeModel" "right" "Z") ∈ zt_Ts := zt_m 1031 (by decide +kernel) (by decide +kernel)
theorem wd_1033 : (Jvm.Cond.lays "MapForgeModel" "MapForgeModel" "changed" "Z") ∈ zt_Ts := zt_m 1033 (by decide +kernel) (by decide +kernel)
theorem wd_1035 : (Jvm.Cond.laysFinal "MapForgeModel" "MapForgeModel" "rowOffset" "[I") ∈ zt_Ts := zt_m 1035 (by decide +kernel) (by decide +kernel)
theorem wd_1037 : (Jvm.Cond.laysFinal "MapForgeModel" "MapForgeModel" "rowByte" "[I") ∈ zt_Ts := zt_m 1037 (by decide +kernel) (by decide +kernel)
theorem wd_1039 : (Jvm.Cond.laysFinal "MapForgeModel" "MapForgeModel" "rowDeep" "[I") ∈ zt_Ts := zt_m 1039 (by decide +kernel) (by decide +kernel)
theorem wd_1041 : (Jvm.Cond.laysFinal "MapForgeModel" "MapForgeModel" "rowLocal" "[I") ∈ zt_Ts := zt_m 1041 (by decide +kernel) (by decide +kernel)
theorem wd_1043 : (Jvm.Cond.laysFinal "MapForgeModel" "MapForgeModel" "rowStack" "[I") ∈ zt_Ts := zt_m 1043 (by decide +kernel) (by decide +kernel)
theorem wd_1045 : (Jvm.Cond.lays "MapForgeModel" "MapForgeModel" "rows" "I") ∈ zt_Ts := zt_m 1045 (by decide +kernel) (by decide +kernel)
theorem wd_1047 : (Jvm.Cond.laysFinal "MapForgeModel" "MapForgeModel" "list" "[I") ∈ zt_Ts := zt_m 1047 (by decide +kernel) (by decide +kernel)
theorem wd_1049 : (Jvm.Cond.laysFinal "MapForgeModel" "MapForgeModel" "before" "[I") ∈ zt_Ts := zt_m 1049 (by decide +kernel) (by decide +kernel)
theorem wd_1051 : (Jvm.Cond.lays "MapForgeModel" "MapForgeModel" "listed" "I") ∈ zt_Ts := zt_m 1051 (by decide +kernel) (by decide +kernel)
theorem wd_1053 : (Jvm.Cond.lays "MapForgeModel" "MapForgeModel" "listedBefore" "I") ∈ zt_Ts := zt_m 1053 (by decide +kernel) (by decide +kernel)
theorem wd_1055 : (Jvm.Cond.laysFinal "MapForgeModel" "MapForgeModel" "made" "[I") ∈ zt_Ts := zt_m 1055 (by decide +kernel) (by decide +kernel)
theorem wd_1057 : (Jvm.Cond.lays "MapForgeModel" "MapForgeModel" "length" "I") ∈ zt_Ts := zt_m 1057 (by decide +kernel) (by decide +kernel)
theorem wd_1059 : (Jvm.Cond.lays "MapForgeModel" "MapForgeModel" "place" "I") ∈ zt_Ts := zt_m 1059 (by decide +kernel) (by decide +kernel)
theorem wd_1061 : (Jvm.Cond.lays "MapForgeModel" "MapForgeModel" "broken" "Z") ∈ zt_Ts := zt_m 1061 (by decide +kernel) (by decide +kernel)
theorem wd_1068 : (Jvm.Cond.methodLink "MapForgeModel" (97 : Nat) ({ cls := "MapForgeModel", name := "in", desc := "(III)Z" } : Jvm.MethodName)) ∈ zt_Ts := zt_m 1068 (by decide +kernel) (by decide +kernel)
theorem wd_1069 : (Jvm.Cond.static ({ cls := "MapForgeModel", name := "in", desc := "(III)Z" } : Jvm.MethodName)) ∈ zt_Ts := zt_m 1069 (by decide +kernel) (by decide +kernel)
theorem wd_1070 : (Jvm.Cond.code ({ cls := "MapForgeModel", name := "in", desc := "(III)Z" } : Jvm.MethodName) prog_13_method_2_code (3 : Nat) (Option.some Jvm.ClassFile.FieldType.boolean)) ∈ zt_Ts := zt_m 1070 (by decide +kernel) (by decide +kernel)
theorem wd_1079 : (Jvm.Cond.methodLink "MapForgeModel" (89 : Nat) ({ cls := "MapForgeModel", name := "kind", desc := "(I)I" } : Jvm.MethodName)) ∈ zt_Ts := zt_m 1079 (by decide +kernel) (by decide +kernel)
theorem wd_1080 : (Jvm.Cond.static ({ cls := "MapForgeModel", name := "kind", desc := "(I)I" } : Jvm.MethodName)) ∈ zt_Ts := zt_m 1080 (by decide +kernel) (by decide +kernel)
theorem wd_1081 : (Jvm.Cond.code ({ cls := "MapForgeModel", name := "kind", desc := "(I)I" } : Jvm.MethodName) prog_13_method_3_code (1 : Nat) (Option.some Jvm.ClassFile.FieldType.int)) ∈ zt_Ts := zt_m 1081 (by decide +kernel) (by decide +kernel)
theorem wd_1086 : (Jvm.Cond.methodLink "MapForgeModel" (125 : Nat) ({ cls := "MapForgeModel", name := "isGood", desc := "(III)Z" } : Jvm.MethodName)) ∈ zt_Ts := zt_m 1086 (by decide +kernel) (by decide +kernel)
theorem wd_1087 : (Jvm.Cond.static ({ cls := "MapForgeModel", name := "isGood", desc := "(III)Z" } : Jvm.MethodName)) ∈ zt_Ts := zt_m 1087 (by decide +kernel) (by decide +kernel)
theorem wd_1088 : (Jvm.Cond.code ({ cls := "MapForgeModel", name := "isGood", desc := "(III)Z" } : Jvm.MethodName) prog_13_method_12_code (3 : Nat) (Option.some Jvm.ClassFile.FieldType.boolean)) ∈ zt_Ts := zt_m 1088 (by decide +kernel) (by decide +kernel)
theorem wd_1089 : (Jvm.Cond.methodLink "MapForgeModel" (121 : Nat) ({ cls := "MapForgeModel", name := "isWideLocal", desc := "(I)Z" } : Jvm.MethodName)) ∈ zt_Ts := zt_m 1089 (by decide +kernel) (by decide +kernel)
theorem wd_1090 : (Jvm.Cond.static ({ cls := "MapForgeModel", name := "isWideLocal", desc := "(I)Z" } : Jvm.MethodName)) ∈ zt_Ts := zt_m 1090 (by decide +kernel) (by decide +kernel)
theorem wd_1091 : (Jvm.Cond.code ({ cls := "MapForgeModel", name := "isWideLocal", desc := "(I)Z" } : Jvm.MethodName) prog_13_method_11_code (1 : Nat) (Option.some Jvm.ClassFile.FieldType.boolean)) ∈ zt_Ts := zt_m 1091 (by decide +kernel) (by decide +kernel)
theorem wd_1092 : (Jvm.Cond.methodLink "MapForgeModel" (128 : Nat) ({ cls := "MapForgeModel", name := "set", desc := "(IIII)V" } : Jvm.MethodName)) ∈ zt_Ts := zt_m 1092 (by decide +kernel) (by decide +kernel)
theorem wd_1094 : (Jvm.Cond.instanceMethod ({ cls := "MapForgeModel", name := "set", desc := "(IIII)V" } : Jvm.MethodName)) ∈ zt_Ts := zt_m 1094 (by decide +kernel) (by decide +kernel)
theorem wd_1095 : (Jvm.Cond.code ({ cls := "MapForgeModel", name := "set", desc := "(IIII)V" } : Jvm.MethodName) prog_13_method_13_code (5 : Nat) (Option.none : Option Jvm.ClassFile.FieldType)) ∈ zt_Ts := zt_m 1095 (by decide +kernel) (by decide +kernel)
theorem wd_1108 : (Jvm.Cond.methodLink "MapForgeModel" (229 : Nat) ({ cls := "MapForgeModel", name := "isRight", desc := "()Z" } : Jvm.MethodName)) ∈ zt_Ts := zt_m 1108 (by decide +kernel) (by decide +kernel)
theorem wd_1110 : (Jvm.Cond.instanceMethod ({ cls := "MapForgeModel", name := "isRight", desc := "()Z" } : Jvm.MethodName)) ∈ zt_Ts := zt_m 1110 (by decide +kernel) (by decide +kernel)
theorem wd_1111 : (Jvm.Cond.code ({ cls := "MapForgeModel", name := "isRight", desc := "()Z" } : Jvm.MethodName) prog_13_method_41_code (2 : Nat) (Option.some Jvm.ClassFile.FieldType.boolean)) ∈ zt_Ts := zt_m 1111 (by decide +kernel) (by decide +kernel)
theorem wd_1112 : (Jvm.Cond.methodLink "MapForgeModel" (214 : Nat) ({ cls := "MapForgeModel", name := "first", desc := "()V" } : Jvm.MethodName)) ∈ zt_Ts := zt_m 1112 (by decide +kernel) (by decide +kernel)
theorem wd_1114 : (Jvm.Cond.instanceMethod ({ cls := "MapForgeModel", name := "first", desc := "()V" } : Jvm.MethodName)) ∈ zt_Ts := zt_m 1114 (by decide +kernel) (by decide +kernel)
theorem wd_1115 : (Jvm.Cond.code ({ cls := "MapForgeModel", name := "first", desc := "()V" } : Jvm.MethodName) prog_13_method_20_code (3 : Nat) (Option.none : Option Jvm.ClassFile.FieldType)) ∈ zt_Ts := zt_m 1115 (by decide +kernel) (by decide +kernel)
theorem wd_1116 : (Jvm.Cond.methodLink "MapForgeModel" (135 : Nat) ({ cls := "MapForgeModel", name := "isWide", desc := "(I)Z" } : Jvm.MethodName)) ∈ zt_Ts := zt_m 1116 (by decide +kernel) (by decide +kernel)
theorem wd_1117 : (Jvm.Cond.static ({ cls := "MapForgeModel", name := "isWide", desc := "(I)Z" } : Jvm.MethodName)) ∈ zt_Ts := zt_m 1117 (by decide +kernel) (by decide +kernel)
theorem wd_1118 : (Jvm.Cond.code ({ cls := "MapForgeModel", name := "isWide", desc := "(I)Z" } : Jvm.MethodName) prog_13_method_4_code (1 : Nat) (Option.some Jvm.ClassFile.FieldType.boolean)) ∈ zt_Ts := zt_m 1118 (by decide +kernel) (by decide +kernel)
theorem wd_1119 : (Jvm.Cond.methodLink "MapForgeModel" (211 : Nat) ({ cls := "MapForgeModel", name := "arrive", desc := "(I)V" } : Jvm.MethodName)) ∈ zt_Ts := zt_m 1119 (by decide +kernel) (by decide +kernel)
theorem wd_1121 : (Jvm.Cond.instanceMethod ({ cls := "MapForgeModel", name := "arrive", desc := "(I)V" } : Jvm.MethodName)) ∈ zt_Ts := zt_m 1121 (by decide +kernel) (by decide +kernel)
theorem wd_1122 : (Jvm.Cond.code ({ cls := "MapForgeModel", name := "arrive", desc := "(I)V" } : Jvm.MethodName) prog_13_method_37_code (6 : Nat) (Option.none : Option Jvm.ClassFile.FieldType)) ∈ zt_Ts := zt_m 1122 (by decide +kernel) (by decide +kernel)
theorem wd_1123 : (Jvm.Cond.methodLink "MapForgeModel" (197 : Nat) ({ cls := "MapForgeModel", name := "join", desc := "(II)I" } : Jvm.MethodName)) ∈ zt_Ts := zt_m 1123 (by decide +kernel) (by decide +kernel)
theorem wd_1125 : (Jvm.Cond.instanceMethod ({ cls := "MapForgeModel", name := "join", desc := "(II)I" } : Jvm.MethodName)) ∈ zt_Ts := zt_m 1125 (by decide +kernel) (by decide +kernel)
theorem wd_1126 : (Jvm.Cond.code ({ cls := "MapForgeModel", name := "join", desc := "(II)I" } : Jvm.MethodName) prog_13_method_7_code (7 : Nat) (Option.some Jvm.ClassFile.FieldType.int)) ∈ zt_Ts := zt_m 1126 (by decide +kernel) (by decide +kernel)
theorem wd_1127 : (Jvm.Cond.methodLink "MapForgeModel" (93 : Nat) ({ cls := "MapForgeModel", name := "isInLine", desc := "(II)Z" } : Jvm.MethodName)) ∈ zt_Ts := zt_m 1127 (by decide +kernel) (by decide +kernel)
theorem wd_1129 : (Jvm.Cond.instanceMethod ({ cls := "MapForgeModel", name := "isInLine", desc := "(II)Z" } : Jvm.MethodName)) ∈ zt_Ts := zt_m 1129 (by decide +kernel) (by decide +kernel)
theorem wd_1130 : (Jvm.Cond.code ({ cls := "MapForgeModel", name := "isInLine", desc := "(II)Z" } : Jvm.MethodName) prog_13_method_5_code (4 : Nat) (Option.some Jvm.ClassFile.FieldType.boolean)) ∈ zt_Ts := zt_m 1130 (by decide +kernel) (by decide +kernel)
theorem wd_1131 : (Jvm.Cond.methodLink "MapForgeModel" (207 : Nat) ({ cls := "MapForgeModel", name := "fetch", desc := "(I)V" } : Jvm.MethodName)) ∈ zt_Ts := zt_m 1131 (by decide +kernel) (by decide +kernel)
theorem wd_1133 : (Jvm.Cond.instanceMethod ({ cls := "MapForgeModel", name := "fetch", desc := "(I)V" } : Jvm.MethodName)) ∈ zt_Ts := zt_m 1133 (by decide +kernel) (by decide +kernel)
theorem wd_1134 : (Jvm.Cond.code ({ cls := "MapForgeModel", name := "fetch", desc := "(I)V" } : Jvm.MethodName) prog_13_method_36_code (3 : Nat) (Option.none : Option Jvm.ClassFile.FieldType)) ∈ zt_Ts := zt_m 1134 (by decide +kernel) (by decide +kernel)
theorem wd_1135 : (Jvm.Cond.methodLink "MapForgeModel" (217 : Nat) ({ cls := "MapForgeModel", name := "leave", desc := "(I)Z" } : Jvm.MethodName)) ∈ zt_Ts := zt_m 1135 (by decide +kernel) (by decide +kernel)
theorem wd_1137 : (Jvm.Cond.instanceMethod ({ cls := "MapForgeModel", name := "leave", desc := "(I)Z" } : Jvm.MethodName)) ∈ zt_Ts := zt_m 1137 (by decide +kernel) (by decide +kernel)
theorem wd_1138 : (Jvm.Cond.code ({ cls := "MapForgeModel", name := "leave", desc := "(I)Z" } : Jvm.MethodName) prog_13_method_34_code (6 : Nat) (Option.some Jvm.ClassFile.FieldType.boolean)) ∈ zt_Ts := zt_m 1138 (by decide +kernel) (by decide +kernel)
theorem wd_1139 : (Jvm.Cond.methodLink "MapForgeModel" (151 : Nat) ({ cls := "MapForgeModel", name := "top", desc := "(I)I" } : Jvm.MethodName)) ∈ zt_Ts := zt_m 1139 (by decide +kernel) (by decide +kernel)
theorem wd_1141 : (Jvm.Cond.instanceMethod ({ cls := "MapForgeModel", name := "top", desc := "(I)I" } : Jvm.MethodName)) ∈ zt_Ts := zt_m 1141 (by decide +kernel) (by decide +kernel)
theorem wd_1142 : (Jvm.Cond.code ({ cls := "MapForgeModel", name := "top", desc := "(I)I" } : Jvm.MethodName) prog_13_method_23_code (2 : Nat) (Option.some Jvm.ClassFile.FieldType.int)) ∈ zt_Ts := zt_m 1142 (by decide +kernel) (by decide +kernel)
theorem wd_1143 : (Jvm.Cond.methodLink "MapForgeModel" (182 : Nat) ({ cls := "MapForgeModel", name := "simple", desc := "(I)Z" } : Jvm.MethodName)) ∈ zt_Ts := zt_m 1143 (by decide +kernel) (by decide +kernel)
theorem wd_1145 : (Jvm.Cond.instanceMethod ({ cls := "MapForgeModel", name := "simple", desc := "(I)Z" } : Jvm.MethodName)) ∈ zt_Ts := zt_m 1145 (by decide +kernel) (by decide +kernel)
theorem wd_1146 : (Jvm.Cond.code ({ cls := "MapForgeModel", name := "simple", desc := "(I)Z" } : Jvm.MethodName) prog_13_method_30_code (4 : Nat) (Option.some Jvm.ClassFile.FieldType.boolean)) ∈ zt_Ts := zt_m 1146 (by decide +kernel) (by decide +kernel)
theorem wd_1147 : (Jvm.Cond.methodLink "MapForgeModel" (154 : Nat) ({ cls := "MapForgeModel", name := "push", desc := "(I)Z" } : Jvm.MethodName)) ∈ zt_Ts := zt_m 1147 (by decide +kernel) (by decide +kernel)
theorem wd_1149 : (Jvm.Cond.instanceMethod ({ cls := "MapForgeModel", name := "push", desc := "(I)Z" } : Jvm.MethodName)) ∈ zt_Ts := zt_m 1149 (by decide +kernel) (by decide +kernel)
theorem wd_1150 : (Jvm.Cond.code ({ cls := "MapForgeModel", name := "push", desc := "(I)Z" } : Jvm.MethodName) prog_13_method_22_code (2 : Nat) (Option.some Jvm.ClassFile.FieldType.boolean)) ∈ zt_Ts := zt_m 1150 (by decide +kernel) (by decide +kernel)
theorem wd_1151 : (Jvm.Cond.methodLink "MapForgeModel" (144 : Nat) ({ cls := "MapForgeModel", name := "slots", desc := "()I" } : Jvm.MethodName)) ∈ zt_Ts := zt_m 1151 (by decide +kernel) (by decide +kernel)
theorem wd_1153 : (Jvm.Cond.instanceMethod ({ cls := "MapForgeModel", name := "slots", desc := "()I" } : Jvm.MethodName)) ∈ zt_Ts := zt_m 1153 (by decide +kernel) (by decide +kernel)
theorem wd_1154 : (Jvm.Cond.code ({ cls := "MapForgeModel", name := "slots", desc := "()I" } : Jvm.MethodName) prog_13_method_21_code (3 : Nat) (Option.some Jvm.ClassFile.FieldType.int)) ∈ zt_Ts := zt_m 1154 (by decide +kernel) (by decide +kernel)
theorem wd_1155 : (Jvm.Cond.methodLink "MapForgeModel" (157 : Nat) ({ cls := "MapForgeModel", name := "isSmall", desc := "(I)Z" } : Jvm.MethodName)) ∈ zt_Ts := zt_m 1155 (by decide +kernel) (by decide +kernel)
theorem wd_1156 : (Jvm.Cond.static ({ cls := "MapForgeModel", name := "isSmall", desc := "(I)Z" } : Jvm.MethodName)) ∈ zt_Ts := zt_m 1156 (by decide +kernel) (by decide +kernel)
theorem wd_1157 : (Jvm.Cond.code ({ cls := "MapForgeModel", name := "isSmall", desc := "(I)Z" } : Jvm.MethodName) prog_13_method_24_code (1 : Nat) (Option.some Jvm.ClassFile.FieldType.boolean)) ∈ zt_Ts := zt_m 1157 (by decide +kernel) (by decide +kernel)
theorem wd_1158 : (Jvm.Cond.methodLink "MapForgeModel" (160 : Nat) ({ cls := "MapForgeModel", name := "takes", desc := "(ZI)Z" } : Jvm.MethodName)) ∈ zt_Ts := zt_m 1158 (by decide +kernel) (by decide +kernel)
theorem wd_1160 : (Jvm.Cond.instanceMethod ({ cls := "MapForgeModel", name := "takes", desc := "(ZI)Z" } : Jvm.MethodName)) ∈ zt_Ts := zt_m 1160 (by decide +kernel) (by decide +kernel)
theorem wd_1161 : (Jvm.Cond.code ({ cls := "MapForgeModel", name := "takes", desc := "(ZI)Z" } : Jvm.MethodName) prog_13_method_29_code (3 : Nat) (Option.some Jvm.ClassFile.FieldType.boolean)) ∈ zt_Ts := zt_m 1161 (by decide +kernel) (by decide +kernel)
theorem wd_1162 : (Jvm.Cond.methodLink "MapForgeModel" (164 : Nat) ({ cls := "MapForgeModel", name := "sum", desc := "(I)Z" } : Jvm.MethodName)) ∈ zt_Ts := zt_m 1162 (by decide +kernel) (by decide +kernel)
theorem wd_1164 : (Jvm.Cond.instanceMethod ({ cls := "MapForgeModel", name := "sum", desc := "(I)Z" } : Jvm.MethodName)) ∈ zt_Ts := zt_m 1164 (by decide +kernel) (by decide +kernel)
theorem wd_1165 : (Jvm.Cond.code ({ cls := "MapForgeModel", name := "sum", desc := "(I)Z" } : Jvm.MethodName) prog_13_method_28_code (2 : Nat) (Option.some Jvm.ClassFile.FieldType.boolean)) ∈ zt_Ts := zt_m 1165 (by decide +kernel) (by decide +kernel)
theorem wd_1166 : (Jvm.Cond.methodLink "MapForgeModel" (167 : Nat) ({ cls := "MapForgeModel", name := "swap", desc := "(II)Z" } : Jvm.MethodName)) ∈ zt_Ts := zt_m 1166 (by decide +kernel) (by decide +kernel)
theorem wd_1168 : (Jvm.Cond.instanceMethod ({ cls := "MapForgeModel", name := "swap", desc := "(II)Z" } : Jvm.MethodName)) ∈ zt_Ts := zt_m 1168 (by decide +kernel) (by decide +kernel)
theorem wd_1169 : (Jvm.Cond.code ({ cls := "MapForgeModel", name := "swap", desc := "(II)Z" } : Jvm.MethodName) prog_13_method_27_code (3 : Nat) (Option.some Jvm.ClassFile.FieldType.boolean)) ∈ zt_Ts := zt_m 1169 (by decide +kernel) (by decide +kernel)
theorem wd_1170 : (Jvm.Cond.methodLink "MapForgeModel" (170 : Nat) ({ cls := "MapForgeModel", name := "is", desc := "(II)Z" } : Jvm.MethodName)) ∈ zt_Ts := zt_m 1170 (by decide +kernel) (by decide +kernel)
theorem wd_1172 : (Jvm.Cond.instanceMethod ({ cls := "MapForgeModel", name := "is", desc := "(II)Z" } : Jvm.MethodName)) ∈ zt_Ts := zt_m 1172 (by decide +kernel) (by decide +kernel)
theorem wd_1173 : (Jvm.Cond.code ({ cls := "MapForgeModel", name := "is", desc := "(II)Z" } : Jvm.MethodName) prog_13_method_6_code (3 : Nat) (Option.some Jvm.ClassFile.FieldType.boolean)) ∈ zt_Ts := zt_m 1173 (by decide +kernel) (by decide +kernel)
theorem wd_1174 : (Jvm.Cond.methodLink "MapForgeModel" (185 : Nat) ({ cls := "MapForgeModel", name := "move", desc := "(II)Z" } : Jvm.MethodName)) ∈ zt_Ts := zt_m 1174 (by decide +kernel) (by decide +kernel)
theorem wd_1176 : (Jvm.Cond.instanceMethod ({ cls := "MapForgeModel", name := "move", desc := "(II)Z" } : Jvm.MethodName)) ∈ zt_Ts := zt_m 1176 (by decide +kernel) (by decide +kernel)
theorem wd_1177 : (Jvm.Cond.code ({ cls := "MapForgeModel", name := "move", desc := "(II)Z" } : Jvm.MethodName) prog_13_method_32_code (5 : Nat) (Option.some Jvm.ClassFile.FieldType.boolean)) ∈ zt_Ts := zt_m 1177 (by decide +kernel) (by decide +kernel)
theorem wd_1178 : (Jvm.Cond.methodLink "MapForgeModel" (173 : Nat) ({ cls := "MapForgeModel", name := "typeFor", desc := "(I)I" } : Jvm.MethodName)) ∈ zt_Ts := zt_m 1178 (by decide +kernel) (by decide +kernel)
theorem wd_1179 : (Jvm.Cond.static ({ cls := "MapForgeModel", name := "typeFor", desc := "(I)I" } : Jvm.MethodName)) ∈ zt_Ts := zt_m 1179 (by decide +kernel) (by decide +kernel)
theorem wd_1180 : (Jvm.Cond.code ({ cls := "MapForgeModel", name := "typeFor", desc := "(I)I" } : Jvm.MethodName) prog_13_method_31_code (1 : Nat) (Option.some Jvm.ClassFile.FieldType.int)) ∈ zt_Ts := zt_m 1180 (by decide +kernel) (by decide +kernel)
theorem wd_1181 : (Jvm.Cond.methodLink "MapForgeModel" (176 : Nat) ({ cls := "MapForgeModel", name := "isReference", desc := "(I)Z" } : Jvm.MethodName)) ∈ zt_Ts := zt_m 1181 (by decide +kernel) (by decide +kernel)
theorem wd_1182 : (Jvm.Cond.static ({ cls := "MapForgeModel", name := "isReference", desc := "(I)Z" } : Jvm.MethodName)) ∈ zt_Ts := zt_m 1182 (by decide +kernel) (by decide +kernel)
theorem wd_1183 : (Jvm.Cond.code ({ cls := "MapForgeModel", name := "isReference", desc := "(I)Z" } : Jvm.MethodName) prog_13_method_26_code (1 : Nat) (Option.some Jvm.ClassFile.FieldType.boolean)) ∈ zt_Ts := zt_m 1183 (by decide +kernel) (by decide +kernel)
theorem wd_1184 : (Jvm.Cond.methodLink "MapForgeModel" (148 : Nat) ({ cls := "MapForgeModel", name := "isPointer", desc := "(I)Z" } : Jvm.MethodName)) ∈ zt_Ts := zt_m 1184 (by decide +kernel) (by decide +kernel)
theorem wd_1185 : (Jvm.Cond.static ({ cls := "MapForgeModel", name := "isPointer", desc := "(I)Z" } : Jvm.MethodName)) ∈ zt_Ts := zt_m 1185 (by decide +kernel) (by decide +kernel)
theorem wd_1186 : (Jvm.Cond.code ({ cls := "MapForgeModel", name := "isPointer", desc := "(I)Z" } : Jvm.MethodName) prog_13_method_25_code (1 : Nat) (Option.some Jvm.ClassFile.FieldType.boolean)) ∈ zt_Ts := zt_m 1186 (by decide +kernel) (by decide +kernel)
theorem wd_1187 : (Jvm.Cond.methodLink "MapForgeModel" (188 : Nat) ({ cls := "MapForgeModel", name := "offset", desc := "(I)I" } : Jvm.MethodName)) ∈ zt_Ts := zt_m 1187 (by decide +kernel) (by decide +kernel)
theorem wd_1189 : (Jvm.Cond.instanceMethod ({ cls := "MapForgeModel", name := "offset", desc := "(I)I" } : Jvm.MethodName)) ∈ zt_Ts := zt_m 1189 (by decide +kernel) (by decide +kernel)
theorem wd_1190 : (Jvm.Cond.code ({ cls := "MapForgeModel", name := "offset", desc := "(I)I" } : Jvm.MethodName) prog_13_method_18_code (4 : Nat) (Option.some Jvm.ClassFile.FieldType.int)) ∈ zt_Ts := zt_m 1190 (by decide +kernel) (by decide +kernel)
theorem wd_1191 : (Jvm.Cond.methodLink "MapForgeModel" (132 : Nat) ({ cls := "MapForgeModel", name := "sizeOf", desc := "(I)I" } : Jvm.MethodName)) ∈ zt_Ts := zt_m 1191 (by decide +kernel) (by decide +kernel)
theorem wd_1192 : (Jvm.Cond.static ({ cls := "MapForgeModel", name := "sizeOf", desc := "(I)I" } : Jvm.MethodName)) ∈ zt_Ts := zt_m 1192 (by decide +kernel) (by decide +kernel)
theorem wd_1193 : (Jvm.Cond.code ({ cls := "MapForgeModel", name := "sizeOf", desc := "(I)I" } : Jvm.MethodName) prog_13_method_17_code (1 : Nat) (Option.some Jvm.ClassFile.FieldType.int)) ∈ zt_Ts := zt_m 1193 (by decide +kernel) (by decide +kernel)
theorem wd_1194 : (Jvm.Cond.methodLink "MapForgeModel" (191 : Nat) ({ cls := "MapForgeModel", name := "init", desc := "(I)Z" } : Jvm.MethodName)) ∈ zt_Ts := zt_m 1194 (by decide +kernel) (by decide +kernel)
theorem wd_1196 : (Jvm.Cond.instanceMethod ({ cls := "MapForgeModel", name := "init", desc := "(I)Z" } : Jvm.MethodName)) ∈ zt_Ts := zt_m 1196 (by decide +kernel) (by decide +kernel)
theorem wd_1197 : (Jvm.Cond.code ({ cls := "MapForgeModel", name := "init", desc := "(I)Z" } : Jvm.MethodName) prog_13_method_33_code (6 : Nat) (Option.some Jvm.ClassFile.FieldType.boolean)) ∈ zt_Ts := zt_m 1197 (by decide +kernel) (by decide +kernel)
theorem wd_1198 : (Jvm.Cond.methodLink "MapForgeModel" (179 : Nat) ({ cls := "MapForgeModel", name := "placeAt", desc := "(I)I" } : Jvm.MethodName)) ∈ zt_Ts := zt_m 1198 (by decide +kernel) (by decide +kernel)
theorem wd_1200 : (Jvm.Cond.instanceMethod ({ cls := "MapForgeModel", name := "placeAt", desc := "(I)I" } : Jvm.MethodName)) ∈ zt_Ts := zt_m 1200 (by decide +kernel) (by decide +kernel)
theorem wd_1201 : (Jvm.Cond.code ({ cls := "MapForgeModel", name := "placeAt", desc := "(I)I" } : Jvm.MethodName) prog_13_method_19_code (4 : Nat) (Option.some Jvm.ClassFile.FieldType.int)) ∈ zt_Ts := zt_m 1201 (by decide +kernel) (by decide +kernel)
theorem wd_1202 : (Jvm.Cond.methodLink "MapForgeModel" (204 : Nat) ({ cls := "MapForgeModel", name := "isEnd", desc := "(I)Z" } : Jvm.MethodName)) ∈ zt_Ts := zt_m 1202 (by decide +kernel) (by decide +kernel)
theorem wd_1203 : (Jvm.Cond.static ({ cls := "MapForgeModel", name := "isEnd", desc := "(I)Z" } : Jvm.MethodName)) ∈ zt_Ts := zt_m 1203 (by decide +kernel) (by decide +kernel)
theorem wd_1204 : (Jvm.Cond.code ({ cls := "MapForgeModel", name := "isEnd", desc := "(I)Z" } : Jvm.MethodName) prog_13_method_35_code (1 : Nat) (Option.some Jvm.ClassFile.FieldType.boolean)) ∈ zt_Ts := zt_m 1204 (by decide +kernel) (by decide +kernel)
theorem wd_1205 : (Jvm.Cond.methodLink "MapForgeModel" (220 : Nat) ({ cls := "MapForgeModel", name := "goHandled", desc := "(I)V" } : Jvm.MethodName)) ∈ zt_Ts := zt_m 1205 (by decide +kernel) (by decide +kernel)
theorem wd_1207 : (Jvm.Cond.instanceMethod ({ cls := "MapForgeModel", name := "goHandled", desc := "(I)V" } : Jvm.MethodName)) ∈ zt_Ts := zt_m 1207 (by decide +kernel) (by decide +kernel)
theorem wd_1208 : (Jvm.Cond.code ({ cls := "MapForgeModel", name := "goHandled", desc := "(I)V" } : Jvm.MethodName) prog_13_method_40_code (3 : Nat) (Option.none : Option Jvm.ClassFile.FieldType)) ∈ zt_Ts := zt_m 1208 (by decide +kernel) (by decide +kernel)
theorem wd_1209 : (Jvm.Cond.methodLink "MapForgeModel" (223 : Nat) ({ cls := "MapForgeModel", name := "hasRow", desc := "(I)Z" } : Jvm.MethodName)) ∈ zt_Ts := zt_m 1209 (by decide +kernel) (by decide +kernel)
theorem wd_1211 : (Jvm.Cond.instanceMethod ({ cls := "MapForgeModel", name := "hasRow", desc := "(I)Z" } : Jvm.MethodName)) ∈ zt_Ts := zt_m 1211 (by decide +kernel) (by decide +kernel)
theorem wd_1212 : (Jvm.Cond.code ({ cls := "MapForgeModel", name := "hasRow", desc := "(I)Z" } : Jvm.MethodName) prog_13_method_38_code (3 : Nat) (Option.some Jvm.ClassFile.FieldType.boolean)) ∈ zt_Ts := zt_m 1212 (by decide +kernel) (by decide +kernel)
theorem wd_1213 : (Jvm.Cond.methodLink "MapForgeModel" (226 : Nat) ({ cls := "MapForgeModel", name := "hasThis", desc := "(I)Z" } : Jvm.MethodName)) ∈ zt_Ts := zt_m 1213 (by decide +kernel) (by decide +kernel)
theorem wd_1215 : (Jvm.Cond.instanceMethod ({ cls := "MapForgeModel", name := "hasThis", desc := "(I)Z" } : Jvm.MethodName)) ∈ zt_Ts := zt_m 1215 (by decide +kernel) (by decide +kernel)
theorem wd_1216 : (Jvm.Cond.code ({ cls := "MapForgeModel", name := "hasThis", desc := "(I)Z" } : Jvm.MethodName) prog_13_method_39_code (3 : Nat) (Option.some Jvm.ClassFile.FieldType.boolean)) ∈ zt_Ts := zt_m 1216 (by decide +kernel) (by decide +kernel)
theorem wd_1221 : (Jvm.Cond.methodLink "MapForgeModel" (254 : Nat) ({ cls := "MapForgeModel", name := "enlist", desc := "()V" } : Jvm.MethodName)) ∈ zt_Ts := zt_m 1221 (by decide +kernel) (by decide +kernel)
theorem wd_1223 : (Jvm.Cond.instanceMethod ({ cls := "MapForgeModel", name := "enlist", desc := "()V" } : Jvm.MethodName)) ∈ zt_Ts := zt_m 1223 (by decide +kernel) (by decide +kernel)
theorem wd_1224 : (Jvm.Cond.code ({ cls := "MapForgeModel", name := "enlist", desc := "()V" } : Jvm.MethodName) prog_13_method_43_code (2 : Nat) (Option.none : Option Jvm.ClassFile.FieldType)) ∈ zt_Ts := zt_m 1224 (by decide +kernel) (by decide +kernel)
theorem wd_1225 : (Jvm.Cond.methodLink "MapForgeModel" (257 : Nat) ({ cls := "MapForgeModel", name := "keep", desc := "()V" } : Jvm.MethodName)) ∈ zt_Ts := zt_m 1225 (by decide +kernel) (by decide +kernel)
theorem wd_1227 : (Jvm.Cond.instanceMethod ({ cls := "MapForgeModel", name := "keep", desc := "()V" } : Jvm.MethodName)) ∈ zt_Ts := zt_m 1227 (by decide +kernel) (by decide +kernel)
theorem wd_1228 : (Jvm.Cond.code ({ cls := "MapForgeModel", name := "keep", desc := "()V" } : Jvm.MethodName) prog_13_method_44_code (2 : Nat) (Option.none : Option Jvm.ClassFile.FieldType)) ∈ zt_Ts := zt_m 1228 (by decide +kernel) (by decide +kernel)
theorem wd_1229 : (Jvm.Cond.methodLink "MapForgeModel" (260 : Nat) ({ cls := "MapForgeModel", name := "writeRow", desc := "(I)V" } : Jvm.MethodName)) ∈ zt_Ts := zt_m 1229 (by decide +kernel) (by decide +kernel)
theorem wd_1231 : (Jvm.Cond.instanceMethod ({ cls := "MapForgeModel", name := "writeRow", desc := "(I)V" } : Jvm.MethodName)) ∈ zt_Ts := zt_m 1231 (by decide +kernel) (by decide +kernel)
theorem wd_1232 : (Jvm.Cond.code ({ cls := "MapForgeModel", name := "writeRow", desc := "(I)V" } : Jvm.MethodName) prog_13_method_49_code (5 : Nat) (Option.none : Option Jvm.ClassFile.FieldType)) ∈ zt_Ts := zt_m 1232 (by decide +kernel) (by decide +kernel)
theorem wd_1233 : (Jvm.Cond.methodLink "MapForgeModel" (248 : Nat) ({ cls := "MapForgeModel", name := "begins", desc := "()Z" } : Jvm.MethodName)) ∈ zt_Ts := zt_m 1233 (by decide +kernel) (by decide +kernel)
theorem wd_1235 : (Jvm.Cond.instanceMethod ({ cls := "MapForgeModel", name := "begins", desc := "()Z" } : Jvm.MethodName)) ∈ zt_Ts := zt_m 1235 (by decide +kernel) (by decide +kernel)
theorem wd_1236 : (Jvm.Cond.code ({ cls := "MapForgeModel", name := "begins", desc := "()Z" } : Jvm.MethodName) prog_13_method_48_code (3 : Nat) (Option.some Jvm.ClassFile.FieldType.boolean)) ∈ zt_Ts := zt_m 1236 (by decide +kernel) (by decide +kernel)
theorem wd_1237 : (Jvm.Cond.methodLink "MapForgeModel" (242 : Nat) ({ cls := "MapForgeModel", name := "write", desc := "(I)V" } : Jvm.MethodName)) ∈ zt_Ts := zt_m 1237 (by decide +kernel) (by decide +kernel)
theorem wd_1239 : (Jvm.Cond.instanceMethod ({ cls := "MapForgeModel", name := "write", desc := "(I)V" } : Jvm.MethodName)) ∈ zt_Ts := zt_m 1239 (by decide +kernel) (by decide +kernel)
theorem wd_1240 : (Jvm.Cond.code ({ cls := "MapForgeModel", name := "write", desc := "(I)V" } : Jvm.MethodName) prog_13_method_45_code (2 : Nat) (Option.none : Option Jvm.ClassFile.FieldType)) ∈ zt_Ts := zt_m 1240 (by decide +kernel) (by decide +kernel)
theorem wd_1241 : (Jvm.Cond.methodLink "MapForgeModel" (245 : Nat) ({ cls := "MapForgeModel", name := "writeTwo", desc := "(I)V" } : Jvm.MethodName)) ∈ zt_Ts := zt_m 1241 (by decide +kernel) (by decide +kernel)
theorem wd_1243 : (Jvm.Cond.instanceMethod ({ cls := "MapForgeModel", name := "writeTwo", desc := "(I)V" } : Jvm.MethodName)) ∈ zt_Ts := zt_m 1243 (by decide +kernel) (by decide +kernel)
theorem wd_1244 : (Jvm.Cond.code ({ cls := "MapForgeModel", name := "writeTwo", desc := "(I)V" } : Jvm.MethodName) prog_13_method_46_code (2 : Nat) (Option.none : Option Jvm.ClassFile.FieldType)) ∈ zt_Ts := zt_m 1244 (by decide +kernel) (by decide +kernel)
theorem wd_1245 : (Jvm.Cond.methodLink "MapForgeModel" (251 : Nat) ({ cls := "MapForgeModel", name := "writeType", desc := "(I)V" } : Jvm.MethodName)) ∈ zt_Ts := zt_m 1245 (by decide +kernel) (by decide +kernel)
theorem wd_1247 : (Jvm.Cond.instanceMethod ({ cls := "MapForgeModel", name := "writeType", desc := "(I)V" } : Jvm.MethodName)) ∈ zt_Ts := zt_m 1247 (by decide +kernel) (by decide +kernel)
theorem wd_1248 : (Jvm.Cond.code ({ cls := "MapForgeModel", name := "writeType", desc := "(I)V" } : Jvm.MethodName) prog_13_method_47_code (2 : Nat) (Option.none : Option Jvm.ClassFile.FieldType)) ∈ zt_Ts := zt_m 1248 (by decide +kernel) (by decide +kernel)
theorem wd_1253 : (Jvm.Cond.methodLink "MapForgeModel" (308 : Nat) ({ cls := "MapForgeModel", name := "readRows", desc := "()Z" } : Jvm.MethodName)) ∈ zt_Ts := zt_m 1253 (by decide +kernel) (by decide +kernel)
theorem wd_1255 : (Jvm.Cond.instanceMethod ({ cls := "MapForgeModel", name := "readRows", desc := "()Z" } : Jvm.MethodName)) ∈ zt_Ts := zt_m 1255 (by decide +kernel) (by decide +kernel)
theorem wd_1256 : (Jvm.Cond.code ({ cls := "MapForgeModel", name := "readRows", desc := "()Z" } : Jvm.MethodName) prog_13_method_58_code (7 : Nat) (Option.some Jvm.ClassFile.FieldType.boolean)) ∈ zt_Ts := zt_m 1256 (by decide +kernel) (by decide +kernel)
theorem wd_1257 : (Jvm.Cond.methodLink "MapForgeModel" (272 : Nat) ({ cls := "MapForgeModel", name := "byteNext", desc := "()I" } : Jvm.MethodName)) ∈ zt_Ts := zt_m 1257 (by decide +kernel) (by decide +kernel)
theorem wd_1259 : (Jvm.Cond.instanceMethod ({ cls := "MapForgeModel", name := "byteNext", desc := "()I" } : Jvm.MethodName)) ∈ zt_Ts := zt_m 1259 (by decide +kernel) (by decide +kernel)
theorem wd_1260 : (Jvm.Cond.code ({ cls := "MapForgeModel", name := "byteNext", desc := "()I" } : Jvm.MethodName) prog_13_method_51_code (1 : Nat) (Option.some Jvm.ClassFile.FieldType.int)) ∈ zt_Ts := zt_m 1260 (by decide +kernel) (by decide +kernel)
theorem wd_1261 : (Jvm.Cond.methodLink "MapForgeModel" (293 : Nat) ({ cls := "MapForgeModel", name := "readForm", desc := "(I)I" } : Jvm.MethodName)) ∈ zt_Ts := zt_m 1261 (by decide +kernel) (by decide +kernel)
theorem wd_1263 : (Jvm.Cond.instanceMethod ({ cls := "MapForgeModel", name := "readForm", desc := "(I)I" } : Jvm.MethodName)) ∈ zt_Ts := zt_m 1263 (by decide +kernel) (by decide +kernel)
theorem wd_1264 : (Jvm.Cond.code ({ cls := "MapForgeModel", name := "readForm", desc := "(I)I" } : Jvm.MethodName) prog_13_method_56_code (5 : Nat) (Option.some Jvm.ClassFile.FieldType.int)) ∈ zt_Ts := zt_m 1264 (by decide +kernel) (by decide +kernel)
theorem wd_1265 : (Jvm.Cond.methodLink "MapForgeModel" (275 : Nat) ({ cls := "MapForgeModel", name := "twoNext", desc := "()I" } : Jvm.MethodName)) ∈ zt_Ts := zt_m 1265 (by decide +kernel) (by decide +kernel)
theorem wd_1267 : (Jvm.Cond.instanceMethod ({ cls := "MapForgeModel", name := "twoNext", desc := "()I" } : Jvm.MethodName)) ∈ zt_Ts := zt_m 1267 (by decide +kernel) (by decide +kernel)
theorem wd_1268 : (Jvm.Cond.code ({ cls := "MapForgeModel", name := "twoNext", desc := "()I" } : Jvm.MethodName) prog_13_method_52_code (2 : Nat) (Option.some Jvm.ClassFile.FieldType.int)) ∈ zt_Ts := zt_m 1268 (by decide +kernel) (by decide +kernel)
theorem wd_1269 : (Jvm.Cond.methodLink "MapForgeModel" (281 : Nat) ({ cls := "MapForgeModel", name := "stackNext", desc := "()V" } : Jvm.MethodName)) ∈ zt_Ts := zt_m 1269 (by decide +kernel) (by decide +kernel)
theorem wd_1271 : (Jvm.Cond.instanceMethod ({ cls := "MapForgeModel", name := "stackNext", desc := "()V" } : Jvm.MethodName)) ∈ zt_Ts := zt_m 1271 (by decide +kernel) (by decide +kernel)
theorem wd_1272 : (Jvm.Cond.code ({ cls := "MapForgeModel", name := "stackNext", desc := "()V" } : Jvm.MethodName) prog_13_method_55_code (3 : Nat) (Option.none : Option Jvm.ClassFile.FieldType)) ∈ zt_Ts := zt_m 1272 (by decide +kernel) (by decide +kernel)
theorem wd_1273 : (Jvm.Cond.methodLink "MapForgeModel" (278 : Nat) ({ cls := "MapForgeModel", name := "typeNext", desc := "()I" } : Jvm.MethodName)) ∈ zt_Ts := zt_m 1273 (by decide +kernel) (by decide +kernel)
theorem wd_1275 : (Jvm.Cond.instanceMethod ({ cls := "MapForgeModel", name := "typeNext", desc := "()I" } : Jvm.MethodName)) ∈ zt_Ts := zt_m 1275 (by decide +kernel) (by decide +kernel)
theorem wd_1276 : (Jvm.Cond.code ({ cls := "MapForgeModel", name := "typeNext", desc := "()I" } : Jvm.MethodName) prog_13_method_53_code (3 : Nat) (Option.some Jvm.ClassFile.FieldType.int)) ∈ zt_Ts := zt_m 1276 (by decide +kernel) (by decide +kernel)
theorem wd_1277 : (Jvm.Cond.methodLink "MapForgeModel" (284 : Nat) ({ cls := "MapForgeModel", name := "enter", desc := "(I)V" } : Jvm.MethodName)) ∈ zt_Ts := zt_m 1277 (by decide +kernel) (by decide +kernel)
theorem wd_1279 : (Jvm.Cond.instanceMethod ({ cls := "MapForgeModel", name := "enter", desc := "(I)V" } : Jvm.MethodName)) ∈ zt_Ts := zt_m 1279 (by decide +kernel) (by decide +kernel)
theorem wd_1280 : (Jvm.Cond.code ({ cls := "MapForgeModel", name := "enter", desc := "(I)V" } : Jvm.MethodName) prog_13_method_54_code (4 : Nat) (Option.none : Option Jvm.ClassFile.FieldType)) ∈ zt_Ts := zt_m 1280 (by decide +kernel) (by decide +kernel)
theorem wd_1281 : (Jvm.Cond.methodLink "MapForgeModel" (287 : Nat) ({ cls := "MapForgeModel", name := "readFull", desc := "()V" } : Jvm.MethodName)) ∈ zt_Ts := zt_m 1281 (by decide +kernel) (by decide +kernel)
theorem wd_1283 : (Jvm.Cond.instanceMethod ({ cls := "MapForgeModel", name := "readFull", desc := "()V" } : Jvm.MethodName)) ∈ zt_Ts := zt_m 1283 (by decide +kernel) (by decide +kernel)
theorem wd_1284 : (Jvm.Cond.code ({ cls := "MapForgeModel", name := "readFull", desc := "()V" } : Jvm.MethodName) prog_13_method_57_code (4 : Nat) (Option.none : Option Jvm.ClassFile.FieldType)) ∈ zt_Ts := zt_m 1284 (by decide +kernel) (by decide +kernel)
theorem wd_1285 : (Jvm.Cond.methodLink "MapForgeModel" (299 : Nat) ({ cls := "MapForgeModel", name := "rowAt", desc := "(I)I" } : Jvm.MethodName)) ∈ zt_Ts := zt_m 1285 (by decide +kernel) (by decide +kernel)
theorem wd_1287 : (Jvm.Cond.instanceMethod ({ cls := "MapForgeModel", name := "rowAt", desc := "(I)I" } : Jvm.MethodName)) ∈ zt_Ts := zt_m 1287 (by decide +kernel) (by decide +kernel)
theorem wd_1288 : (Jvm.Cond.code ({ cls := "MapForgeModel", name := "rowAt", desc := "(I)I" } : Jvm.MethodName) prog_13_method_59_code (3 : Nat) (Option.some Jvm.ClassFile.FieldType.int)) ∈ zt_Ts := zt_m 1288 (by decide +kernel) (by decide +kernel)
theorem wd_1289 : (Jvm.Cond.methodLink "MapForgeModel" (302 : Nat) ({ cls := "MapForgeModel", name := "fits", desc := "(I)Z" } : Jvm.MethodName)) ∈ zt_Ts := zt_m 1289 (by decide +kernel) (by decide +kernel)
theorem wd_1291 : (Jvm.Cond.instanceMethod ({ cls := "MapForgeModel", name := "fits", desc := "(I)Z" } : Jvm.MethodName)) ∈ zt_Ts := zt_m 1291 (by decide +kernel) (by decide +kernel)
theorem wd_1292 : (Jvm.Cond.code ({ cls := "MapForgeModel", name := "fits", desc := "(I)Z" } : Jvm.MethodName) prog_13_method_61_code (4 : Nat) (Option.some Jvm.ClassFile.FieldType.boolean)) ∈ zt_Ts := zt_m 1292 (by decide +kernel) (by decide +kernel)
theorem wd_1293 : (Jvm.Cond.methodLink "MapForgeModel" (296 : Nat) ({ cls := "MapForgeModel", name := "rowIsRaw", desc := "(I)Z" } : Jvm.MethodName)) ∈ zt_Ts := zt_m 1293 (by decide +kernel) (by decide +kernel)
theorem wd_1295 : (Jvm.Cond.instanceMethod ({ cls := "MapForgeModel", name := "rowIsRaw", desc := "(I)Z" } : Jvm.MethodName)) ∈ zt_Ts := zt_m 1295 (by decide +kernel) (by decide +kernel)
theorem wd_1296 : (Jvm.Cond.code ({ cls := "MapForgeModel", name := "rowIsRaw", desc := "(I)Z" } : Jvm.MethodName) prog_13_method_60_code (3 : Nat) (Option.some Jvm.ClassFile.FieldType.boolean)) ∈ zt_Ts := zt_m 1296 (by decide +kernel) (by decide +kernel)
theorem wd_1297 : (Jvm.Cond.methodLink "MapForgeModel" (311 : Nat) ({ cls := "MapForgeModel", name := "take", desc := "(I)V" } : Jvm.MethodName)) ∈ zt_Ts := zt_m 1297 (by decide +kernel) (by decide +kernel)
theorem wd_1299 : (Jvm.Cond.instanceMethod ({ cls := "MapForgeModel", name := "take", desc := "(I)V" } : Jvm.MethodName)) ∈ zt_Ts := zt_m 1299 (by decide +kernel) (by decide +kernel)
theorem wd_1300 : (Jvm.Cond.code ({ cls := "MapForgeModel", name := "take", desc := "(I)V" } : Jvm.MethodName) prog_13_method_63_code (3 : Nat) (Option.none : Option Jvm.ClassFile.FieldType)) ∈ zt_Ts := zt_m 1300 (by decide +kernel) (by decide +kernel)
theorem wd_1301 : (Jvm.Cond.methodLink "MapForgeModel" (314 : Nat) ({ cls := "MapForgeModel", name := "handled", desc := "(I)Z" } : Jvm.MethodName)) ∈ zt_Ts := zt_m 1301 (by decide +kernel) (by decide +kernel)
theorem wd_1303 : (Jvm.Cond.instanceMethod ({ cls := "MapForgeModel", name := "handled", desc := "(I)Z" } : Jvm.MethodName)) ∈ zt_Ts := zt_m 1303 (by decide +kernel) (by decide +kernel)
theorem wd_1304 : (Jvm.Cond.code ({ cls := "MapForgeModel", name := "handled", desc := "(I)Z" } : Jvm.MethodName) prog_13_method_64_code (6 : Nat) (Option.some Jvm.ClassFile.FieldType.boolean)) ∈ zt_Ts := zt_m 1304 (by decide +kernel) (by decide +kernel)
theorem wd_1305 : (Jvm.Cond.methodLink "MapForgeModel" (305 : Nat) ({ cls := "MapForgeModel", name := "fitsAt", desc := "(I)Z" } : Jvm.MethodName)) ∈ zt_Ts := zt_m 1305 (by decide +kernel) (by decide +kernel)
theorem wd_1307 : (Jvm.Cond.instanceMethod ({ cls := "MapForgeModel", name := "fitsAt", desc := "(I)Z" } : Jvm.MethodName)) ∈ zt_Ts := zt_m 1307 (by decide +kernel) (by decide +kernel)
theorem wd_1308 : (Jvm.Cond.code ({ cls := "MapForgeModel", name := "fitsAt", desc := "(I)Z" } : Jvm.MethodName) prog_13_method_62_code (3 : Nat) (Option.some Jvm.ClassFile.FieldType.boolean)) ∈ zt_Ts := zt_m 1308 (by decide +kernel) (by decide +kernel)
end
section
def cd_fa_describe : zm_C := [(0, .aload_n 0, 1, []), (1, .getfield 9, 4, []), (4, .iload_n 1, 5, []), (5, .iload_n 2, 6, []), (6, .iastore, 7, []), (7, .aload_n 0, 8, []), (8, .getfield 15, 11, []), (11, .iload_n 1, 12, []), (12, .iload_n 3, 13, []), (13, .bastore, 14, []), (14, .iload_n 1, 15, []), (15, .istore 4, 17, []), (17, .iload 4, 19, []), (19, .bipush (8), 21, []), (21, .if_icmp .ge (33), 24, [54]), (24, .aload_n 0, 25, []), (25, .getfield 19, 28, []), (28, .iload 4, 30, []), (30, .aload_n 0, 31, []), (31, .getfield 19, 34, []), (34, .aload_n 0, 35, []), (35, .getfield 9, 38, []), (38, .iload 4, 40, []), (40, .iaload, 41, []), (41, .iaload, 42, []), (42, .iconst 1, 43, []), (43, .iload 4, 45, []), (45, .ishl, 46, []), (46, .ior, 47, []), (47, .iastore, 48, []), (48, .iinc 4 (1), 51, []), (51, .goto (-34), 54, [17]), (54, .return_, 55, [])]
def cd_mf_forgetFindings : zm_C := [(0, .aload_n 0, 1, []), (1, .getfield 40, 4, []), (4, .iconst 0, 5, []), (5, .putfield 188, 8, []), (8, .aload_n 0, 9, []), (9, .getfield 58, 12, []), (12, .iconst 0, 13, []), (13, .putfield 136, 16, []), (16, .return_, 17, [])]
def cd_mf_type : zm_C := [(0, .iload_n 1, 1, []), (1, .iconst 1, 2, []), (2, .if_icmp .lt (18), 5, [20]), (5, .iload_n 1, 6, []), (6, .bipush (8), 8, []), (8, .if_icmp .ge (12), 11, [20]), (11, .iload_n 2, 12, []), (12, .ifCond .lt (8), 15, [20]), (15, .iload_n 2, 16, []), (16, .iload_n 1, 17, []), (17, .if_icmp .lt (5), 20, [22]), (20, .iconst 0, 21, []), (21, .ireturn, 22, []), (22, .aload_n 0, 23, []), (23, .getfield 12, 26, []), (26, .iload_n 1, 27, []), (27, .iload_n 2, 28, []), (28, .iload_n 3, 29, []), (29, .invokevirtual 71, 32, []), (32, .aload_n 0, 33, []), (33, .invokevirtual 75, 36, []), (36, .iconst 1, 37, []), (37, .ireturn, 38, [])]
def cd_mf_isClass : zm_C := [(0, .iload_n 0, 1, []), (1, .ifCond .lt (13), 4, [14]), (4, .iload_n 0, 5, []), (5, .bipush (8), 7, []), (7, .if_icmp .ge (7), 10, [14]), (10, .iconst 1, 11, []), (11, .goto (4), 14, [15]), (14, .iconst 0, 15, []), (15, .ireturn, 16, [])]
def cd_pr_begin : zm_C := [(0, .aload_n 0, 1, []), (1, .iload_n 1, 2, []), (2, .putfield 39, 5, []), (5, .aload_n 0, 6, []), (6, .iload_n 2, 7, []), (7, .putfield 43, 10, []), (10, .aload_n 0, 11, []), (11, .iload_n 3, 12, []), (12, .ifCond .eq (12), 15, [24]), (15, .iload_n 2, 16, []), (16, .iconst 2, 17, []), (17, .if_icmp .eq (7), 20, [24]), (20, .iconst 1, 21, []), (21, .goto (4), 24, [25]), (24, .iconst 0, 25, []), (25, .putfield 46, 28, []), (28, .aload_n 0, 29, []), (29, .iconst 0, 30, []), (30, .putfield 50, 33, []), (33, .aload_n 0, 34, []), (34, .iconst 0, 35, []), (35, .putfield 53, 38, []), (38, .aload_n 0, 39, []), (39, .iconst 0, 40, []), (40, .putfield 56, 43, []), (43, .return_, 44, [])]
def cd_mf_method : zm_C := [(0, .iload_n 1, 1, []), (1, .invokestatic 78, 4, []), (4, .ifCond .eq (12), 7, [16]), (7, .iload_n 2, 8, []), (8, .ifCond .lt (8), 11, [16]), (11, .iload_n 2, 12, []), (12, .iconst 2, 13, []), (13, .if_icmp .le (5), 16, [18]), (16, .iconst 0, 17, []), (17, .ireturn, 18, []), (18, .aload_n 0, 19, []), (19, .getfield 19, 22, []), (22, .iload_n 1, 23, []), (23, .iload_n 2, 24, []), (24, .iload_n 3, 25, []), (25, .invokevirtual 82, 28, []), (28, .aload_n 0, 29, []), (29, .invokevirtual 75, 32, []), (32, .iconst 1, 33, []), (33, .ireturn, 34, [])]
def cd_mf_kindOf : zm_C := [(0, .iload_n 0, 1, []), (1, .bipush (15), 3, []), (3, .iand, 4, []), (4, .ireturn, 5, [])]
def cd_mf_partOf : zm_C := [(0, .iload_n 0, 1, []), (1, .iconst 4, 2, []), (2, .ishr, 3, []), (3, .ireturn, 4, [])]
def cd_mf_argument : zm_C := [(0, .iload_n 1, 1, []), (1, .iconst 1, 2, []), (2, .if_icmp .lt (12), 5, [14]), (5, .iload_n 1, 6, []), (6, .iconst 4, 7, []), (7, .if_icmp .gt (7), 10, [14]), (10, .iconst 1, 11, []), (11, .goto (4), 14, [15]), (14, .iconst 0, 15, []), (15, .istore_n 2, 16, []), (16, .iload_n 1, 17, []), (17, .ifCond .lt (26), 20, [43]), (20, .iload_n 1, 21, []), (21, .invokestatic 85, 24, []), (24, .bipush (7), 26, []), (26, .if_icmp .ne (17), 29, [43]), (29, .iload_n 1, 30, []), (30, .invokestatic 89, 33, []), (33, .invokestatic 78, 36, []), (36, .ifCond .eq (7), 39, [43]), (39, .iconst 1, 40, []), (40, .goto (4), 43, [44]), (43, .iconst 0, 44, []), (44, .istore_n 3, 45, []), (45, .iload_n 2, 46, []), (46, .ifCond .ne (9), 49, [55]), (49, .iload_n 3, 50, []), (50, .ifCond .ne (5), 53, [55]), (53, .iconst (-1), 54, []), (54, .ireturn, 55, []), (55, .aload_n 0, 56, []), (56, .getfield 19, 59, []), (59, .getfield 92, 62, []), (62, .iconst 4, 63, []), (63, .if_icmp .ne (6), 66, [69]), (66, .bipush (-3), 68, []), (68, .ireturn, 69, []), (69, .aload_n 0, 70, []), (70, .getfield 19, 73, []), (73, .getfield 96, 76, []), (76, .aload_n 0, 77, []), (77, .getfield 19, 80, []), (80, .getfield 92, 83, []), (83, .iload_n 1, 84, []), (84, .iastore, 85, []), (85, .aload_n 0, 86, []), (86, .getfield 19, 89, []), (89, .dup, 90, []), (90, .getfield 92, 93, []), (93, .iconst 1, 94, []), (94, .iadd, 95, []), (95, .putfield 92, 98, []), (98, .aload_n 0, 99, []), (99, .invokevirtual 75, 102, []), (102, .aload_n 0, 103, []), (103, .getfield 19, 106, []), (106, .getfield 92, 109, []), (109, .ireturn, 110, [])]
def cd_mf_hasLocal : zm_C := [(0, .iload_n 0, 1, []), (1, .bipush (21), 3, []), (3, .if_icmp .lt (13), 6, [16]), (6, .iload_n 0, 7, []), (7, .bipush (30), 9, []), (9, .if_icmp .gt (7), 12, [16]), (12, .iconst 1, 13, []), (13, .goto (4), 16, [17]), (16, .iconst 0, 17, []), (17, .ireturn, 18, [])]
def cd_mf_localKindOf : zm_C := [(0, .getstatic 201, 3, []), (3, .iload_n 0, 4, []), (4, .bipush (25), 6, []), (6, .if_icmp .gt (10), 9, [16]), (9, .iload_n 0, 10, []), (10, .bipush (21), 12, []), (12, .isub, 13, []), (13, .goto (7), 16, [20]), (16, .iload_n 0, 17, []), (17, .bipush (26), 19, []), (19, .isub, 20, []), (20, .iaload, 21, []), (21, .ireturn, 22, [])]
def cd_mf_widthOf : zm_C := [(0, .iload_n 0, 1, []), (1, .iconst 3, 2, []), (2, .if_icmp .eq (8), 5, [10]), (5, .iload_n 0, 6, []), (6, .iconst 4, 7, []), (7, .if_icmp .ne (7), 10, [14]), (10, .iconst 2, 11, []), (11, .goto (4), 14, [15]), (14, .iconst 1, 15, []), (15, .ireturn, 16, [])]
def cd_mf_isJump : zm_C := [(0, .iload_n 0, 1, []), (1, .bipush (31), 3, []), (3, .if_icmp .lt (13), 6, [16]), (6, .iload_n 0, 7, []), (7, .bipush (34), 9, []), (9, .if_icmp .gt (7), 12, [16]), (12, .iconst 1, 13, []), (13, .goto (4), 16, [17]), (16, .iconst 0, 17, []), (17, .ireturn, 18, [])]
def cd_mf_isPlace : zm_C := [(0, .iload_n 0, 1, []), (1, .ifCond .lt (13), 4, [14]), (4, .iload_n 0, 5, []), (5, .bipush (50), 7, []), (7, .if_icmp .ge (7), 10, [14]), (10, .iconst 1, 11, []), (11, .goto (4), 14, [15]), (14, .iconst 0, 15, []), (15, .ireturn, 16, [])]
def cd_mf_isInstruction : zm_C := [(0, .iload_n 0, 1, []), (1, .ifCond .lt (9), 4, [10]), (4, .iload_n 0, 5, []), (5, .bipush (39), 7, []), (7, .if_icmp .le (5), 10, [12]), (10, .iconst 0, 11, []), (11, .ireturn, 12, []), (12, .iload_n 0, 13, []), (13, .invokestatic 189, 16, []), (16, .ifCond .eq (27), 19, [43]), (19, .iload_n 1, 20, []), (20, .ifCond .lt (21), 23, [41]), (23, .iload_n 1, 24, []), (24, .bipush (10), 26, []), (26, .iload_n 0, 27, []), (27, .invokestatic 192, 30, []), (30, .invokestatic 195, 33, []), (33, .isub, 34, []), (34, .if_icmp .gt (7), 37, [41]), (37, .iconst 1, 38, []), (38, .goto (4), 41, [42]), (41, .iconst 0, 42, []), (42, .ireturn, 43, []), (43, .iload_n 0, 44, []), (44, .invokestatic 198, 47, []), (47, .ifCond .eq (8), 50, [55]), (50, .iload_n 2, 51, []), (51, .invokestatic 111, 54, []), (54, .ireturn, 55, []), (55, .iload_n 0, 56, []), (56, .bipush (35), 58, []), (58, .if_icmp .lt (23), 61, [81]), (61, .iload_n 1, 62, []), (62, .invokestatic 78, 65, []), (65, .ifCond .eq (20), 68, [85]), (68, .iload_n 0, 69, []), (69, .bipush (38), 71, []), (71, .if_icmp .ne (10), 74, [81]), (74, .iload_n 2, 75, []), (75, .invokestatic 78, 78, []), (78, .ifCond .eq (7), 81, [85]), (81, .iconst 1, 82, []), (82, .goto (4), 85, [86]), (85, .iconst 0, 86, []), (86, .ireturn, 87, [])]
def cd_mf_lengthOf : zm_C := [(0, .iload_n 0, 1, []), (1, .bipush (20), 3, []), (3, .if_icmp .gt (5), 6, [8]), (6, .iconst 1, 7, []), (7, .ireturn, 8, []), (8, .iload_n 0, 9, []), (9, .bipush (30), 11, []), (11, .if_icmp .gt (7), 14, [18]), (14, .iconst 2, 15, []), (15, .goto (4), 18, [19]), (18, .iconst 3, 19, []), (19, .ireturn, 20, [])]
def cd_pr_write : zm_C := [(0, .aload_n 0, 1, []), (1, .getfield 15, 4, []), (4, .iload_n 1, 5, []), (5, .iload_n 2, 6, []), (6, .iastore, 7, []), (7, .aload_n 0, 8, []), (8, .getfield 18, 11, []), (11, .iload_n 1, 12, []), (12, .iload_n 2, 13, []), (13, .invokestatic 59, 16, []), (16, .ifCond .ne (9), 19, [25]), (19, .iload_n 2, 20, []), (20, .bipush (35), 22, []), (22, .if_icmp .lt (7), 25, [29]), (25, .iload_n 3, 26, []), (26, .goto (4), 29, [30]), (29, .iconst 0, 30, []), (30, .iastore, 31, []), (31, .aload_n 0, 32, []), (32, .getfield 21, 35, []), (35, .iload_n 1, 36, []), (36, .iload_n 2, 37, []), (37, .invokestatic 63, 40, []), (40, .ifCond .ne (9), 43, [49]), (43, .iload_n 2, 44, []), (44, .bipush (38), 46, []), (46, .if_icmp .ne (8), 49, [54]), (49, .iload 4, 51, []), (51, .goto (4), 54, [55]), (54, .iconst 0, 55, []), (55, .iastore, 56, []), (56, .iload_n 1, 57, []), (57, .istore 5, 59, []), (59, .iload 5, 61, []), (61, .aload_n 0, 62, []), (62, .getfield 53, 65, []), (65, .if_icmp .ge (36), 68, [101]), (68, .aload_n 0, 69, []), (69, .getfield 24, 72, []), (72, .iload 5, 74, []), (74, .iconst 1, 75, []), (75, .iadd, 76, []), (76, .aload_n 0, 77, []), (77, .getfield 24, 80, []), (80, .iload 5, 82, []), (82, .iaload, 83, []), (83, .aload_n 0, 84, []), (84, .getfield 15, 87, []), (87, .iload 5, 89, []), (89, .iaload, 90, []), (90, .invokestatic 66, 93, []), (93, .iadd, 94, []), (94, .iastore, 95, []), (95, .iinc 5 (1), 98, []), (98, .goto (-39), 101, [59]), (101, .return_, 102, [])]
def cd_mf_add : zm_C := [(0, .iload_n 1, 1, []), (1, .iload_n 2, 2, []), (2, .iload_n 3, 3, []), (3, .invokestatic 100, 6, []), (6, .ifCond .ne (5), 9, [11]), (9, .iconst (-1), 10, []), (10, .ireturn, 11, []), (11, .aload_n 0, 12, []), (12, .getfield 19, 15, []), (15, .getfield 104, 18, []), (18, .bipush (50), 20, []), (20, .if_icmp .ne (6), 23, [26]), (23, .bipush (-3), 25, []), (25, .ireturn, 26, []), (26, .aload_n 0, 27, []), (27, .getfield 19, 30, []), (30, .dup, 31, []), (31, .getfield 104, 34, []), (34, .iconst 1, 35, []), (35, .iadd, 36, []), (36, .putfield 104, 39, []), (39, .aload_n 0, 40, []), (40, .getfield 19, 43, []), (43, .aload_n 0, 44, []), (44, .getfield 19, 47, []), (47, .getfield 104, 50, []), (50, .iconst 1, 51, []), (51, .isub, 52, []), (52, .iload_n 1, 53, []), (53, .iload_n 2, 54, []), (54, .iload_n 3, 55, []), (55, .invokevirtual 107, 58, []), (58, .aload_n 0, 59, []), (59, .invokevirtual 75, 62, []), (62, .aload_n 0, 63, []), (63, .getfield 19, 66, []), (66, .getfield 104, 69, []), (69, .ireturn, 70, [])]
def cd_mf_change : zm_C := [(0, .iload_n 1, 1, []), (1, .ifCond .lt (24), 4, [25]), (4, .iload_n 1, 5, []), (5, .aload_n 0, 6, []), (6, .getfield 19, 9, []), (9, .getfield 104, 12, []), (12, .if_icmp .ge (13), 15, [25]), (15, .iload_n 2, 16, []), (16, .iload_n 3, 17, []), (17, .iload 4, 19, []), (19, .invokestatic 100, 22, []), (22, .ifCond .ne (5), 25, [27]), (25, .iconst 0, 26, []), (26, .ireturn, 27, []), (27, .aload_n 0, 28, []), (28, .getfield 19, 31, []), (31, .iload_n 1, 32, []), (32, .iload_n 2, 33, []), (33, .iload_n 3, 34, []), (34, .iload 4, 36, []), (36, .invokevirtual 107, 39, []), (39, .aload_n 0, 40, []), (40, .invokevirtual 75, 43, []), (43, .iconst 1, 44, []), (44, .ireturn, 45, [])]
def cd_pr_guard : zm_C := [(0, .aload_n 0, 1, []), (1, .getfield 27, 4, []), (4, .aload_n 0, 5, []), (5, .getfield 56, 8, []), (8, .iload_n 1, 9, []), (9, .iastore, 10, []), (10, .aload_n 0, 11, []), (11, .getfield 30, 14, []), (14, .aload_n 0, 15, []), (15, .getfield 56, 18, []), (18, .iload_n 2, 19, []), (19, .iastore, 20, []), (20, .aload_n 0, 21, []), (21, .getfield 33, 24, []), (24, .aload_n 0, 25, []), (25, .getfield 56, 28, []), (28, .iload_n 3, 29, []), (29, .iastore, 30, []), (30, .aload_n 0, 31, []), (31, .getfield 36, 34, []), (34, .aload_n 0, 35, []), (35, .getfield 56, 38, []), (38, .iload 4, 40, []), (40, .iastore, 41, []), (41, .aload_n 0, 42, []), (42, .dup, 43, []), (43, .getfield 56, 46, []), (46, .iconst 1, 47, []), (47, .iadd, 48, []), (48, .putfield 56, 51, []), (51, .return_, 52, [])]
def cd_mf_handle : zm_C := [(0, .iload_n 1, 1, []), (1, .invokestatic 111, 4, []), (4, .ifCond .eq (29), 7, [33]), (7, .iload_n 3, 8, []), (8, .invokestatic 111, 11, []), (11, .ifCond .eq (22), 14, [33]), (14, .iload_n 2, 15, []), (15, .iload_n 1, 16, []), (16, .if_icmp .le (17), 19, [33]), (19, .iload_n 2, 20, []), (20, .bipush (50), 22, []), (22, .if_icmp .gt (11), 25, [33]), (25, .iload 4, 27, []), (27, .invokestatic 78, 30, []), (30, .ifCond .ne (5), 33, [35]), (33, .iconst (-1), 34, []), (34, .ireturn, 35, []), (35, .aload_n 0, 36, []), (36, .getfield 19, 39, []), (39, .getfield 114, 42, []), (42, .iconst 4, 43, []), (43, .if_icmp .ne (6), 46, [49]), (46, .bipush (-3), 48, []), (48, .ireturn, 49, []), (49, .aload_n 0, 50, []), (50, .getfield 19, 53, []), (53, .iload_n 1, 54, []), (54, .iload_n 2, 55, []), (55, .iload_n 3, 56, []), (56, .iload 4, 58, []), (58, .invokevirtual 117, 61, []), (61, .aload_n 0, 62, []), (62, .invokevirtual 75, 65, []), (65, .aload_n 0, 66, []), (66, .getfield 19, 69, []), (69, .getfield 114, 72, []), (72, .ireturn, 73, [])]
def cd_ja_fill : zm_C := [(0, .iconst 0, 1, []), (1, .istore_n 2, 2, []), (2, .aload_n 0, 3, []), (3, .arraylength, 4, []), (4, .istore_n 3, 5, []), (5, .iload_n 2, 6, []), (6, .iload_n 3, 7, []), (7, .if_icmp .ge (13), 10, [20]), (10, .aload_n 0, 11, []), (11, .iload_n 2, 12, []), (12, .iload_n 1, 13, []), (13, .iastore, 14, []), (14, .iinc 2 (1), 17, []), (17, .goto (-12), 20, [5]), (20, .return_, 21, [])]
def cd_fr_emptyStack : zm_C := [(0, .aload_n 0, 1, []), (1, .iconst 0, 2, []), (2, .putfield 24, 5, []), (5, .aload_n 0, 6, []), (6, .iconst 0, 7, []), (7, .putfield 28, 10, []), (10, .return_, 11, [])]
def cd_mf_typeOf : zm_C := [(0, .bipush (16), 2, []), (2, .iload_n 1, 3, []), (3, .imul, 4, []), (4, .iload_n 0, 5, []), (5, .iadd, 6, []), (6, .ireturn, 7, [])]
def cd_pr_enter : zm_C := [(0, .aload_n 1, 1, []), (1, .getfield 73, 4, []), (4, .iconst 0, 5, []), (5, .invokestatic 78, 8, []), (8, .aload_n 1, 9, []), (9, .invokevirtual 84, 12, []), (12, .aload_n 1, 13, []), (13, .aload_n 0, 14, []), (14, .getfield 43, 17, []), (17, .iconst 2, 18, []), (18, .if_icmp .ne (7), 21, [25]), (21, .iconst 1, 22, []), (22, .goto (4), 25, [26]), (25, .iconst 0, 26, []), (26, .putfield 87, 29, []), (29, .iconst 0, 30, []), (30, .istore_n 2, 31, []), (31, .aload_n 0, 32, []), (32, .getfield 43, 35, []), (35, .ifCond .eq (32), 38, [67]), (38, .aload_n 1, 39, []), (39, .getfield 73, 42, []), (42, .iconst 0, 43, []), (43, .aload_n 1, 44, []), (44, .getfield 87, 47, []), (47, .ifCond .eq (8), 50, [55]), (50, .bipush (6), 52, []), (52, .goto (12), 55, [64]), (55, .bipush (7), 57, []), (57, .aload_n 0, 58, []), (58, .getfield 39, 61, []), (61, .invokestatic 90, 64, []), (64, .iastore, 65, []), (65, .iconst 1, 66, []), (66, .istore_n 2, 67, []), (67, .iconst 0, 68, []), (68, .istore_n 3, 69, []), (69, .iload_n 3, 70, []), (70, .aload_n 0, 71, []), (71, .getfield 50, 74, []), (74, .if_icmp .ge (33), 77, [107]), (77, .aload_n 1, 78, []), (78, .getfield 73, 81, []), (81, .iload_n 2, 82, []), (82, .aload_n 0, 83, []), (83, .getfield 9, 86, []), (86, .iload_n 3, 87, []), (87, .iaload, 88, []), (88, .iastore, 89, []), (89, .iload_n 2, 90, []), (90, .aload_n 0, 91, []), (91, .getfield 9, 94, []), (94, .iload_n 3, 95, []), (95, .iaload, 96, []), (96, .invokestatic 94, 99, []), (99, .iadd, 100, []), (100, .istore_n 2, 101, []), (101, .iinc 3 (1), 104, []), (104, .goto (-35), 107, [69]), (107, .return_, 108, [])]
def cd_mf_isObjectOrNull : zm_C := [(0, .iload_n 0, 1, []), (1, .iconst 5, 2, []), (2, .if_icmp .eq (12), 5, [14]), (5, .iload_n 0, 6, []), (6, .invokestatic 85, 9, []), (9, .bipush (7), 11, []), (11, .if_icmp .ne (7), 14, [18]), (14, .iconst 1, 15, []), (15, .goto (4), 18, [19]), (18, .iconst 0, 19, []), (19, .ireturn, 20, [])]
def cd_fa_join : zm_C := [(0, .iload_n 1, 1, []), (1, .iload_n 2, 2, []), (2, .if_icmp .ne (5), 5, [7]), (5, .iload_n 1, 6, []), (6, .ireturn, 7, []), (7, .iload_n 1, 8, []), (8, .invokestatic 29, 11, []), (11, .ifCond .eq (10), 14, [21]), (14, .iload_n 2, 15, []), (15, .invokestatic 29, 18, []), (18, .ifCond .ne (5), 21, [23]), (21, .iconst 0, 22, []), (22, .ireturn, 23, []), (23, .iload_n 1, 24, []), (24, .iconst 5, 25, []), (25, .if_icmp .eq (8), 28, [33]), (28, .iload_n 2, 29, []), (29, .iconst 5, 30, []), (30, .if_icmp .ne (14), 33, [44]), (33, .iload_n 1, 34, []), (34, .iconst 5, 35, []), (35, .if_icmp .ne (7), 38, [42]), (38, .iload_n 2, 39, []), (39, .goto (4), 42, [43]), (42, .iload_n 1, 43, []), (43, .ireturn, 44, []), (44, .iload_n 1, 45, []), (45, .invokestatic 26, 48, []), (48, .istore_n 3, 49, []), (49, .iconst 0, 50, []), (50, .istore 4, 52, []), (52, .iload 4, 54, []), (54, .bipush (8), 56, []), (56, .if_icmp .ge (32), 59, [88]), (59, .aload_n 0, 60, []), (60, .getfield 19, 63, []), (63, .iload_n 2, 64, []), (64, .invokestatic 26, 67, []), (67, .iaload, 68, []), (68, .iload_n 3, 69, []), (69, .ishr, 70, []), (70, .iconst 1, 71, []), (71, .iand, 72, []), (72, .ifCond .ne (16), 75, [88]), (75, .aload_n 0, 76, []), (76, .getfield 9, 79, []), (79, .iload_n 3, 80, []), (80, .iaload, 81, []), (81, .istore_n 3, 82, []), (82, .iinc 4 (1), 85, []), (85, .goto (-33), 88, [52]), (88, .bipush (7), 90, []), (90, .iload_n 3, 91, []), (91, .invokestatic 33, 94, []), (94, .ireturn, 95, [])]
def cd_fl_joinAt : zm_C := [(0, .aload_n 0, 1, []), (1, .getfield 11, 4, []), (4, .iload_n 1, 5, []), (5, .aaload, 6, []), (6, .astore_n 3, 7, []), (7, .aload_n 3, 8, []), (8, .getfield 121, 11, []), (11, .aload_n 2, 12, []), (12, .getfield 121, 15, []), (15, .if_icmp .eq (5), 18, [20]), (18, .iconst 0, 19, []), (19, .ireturn, 20, []), (20, .aload_n 2, 21, []), (21, .getfield 124, 24, []), (24, .ifCond .eq (22), 27, [46]), (27, .aload_n 3, 28, []), (28, .getfield 124, 31, []), (31, .ifCond .ne (15), 34, [46]), (34, .aload_n 3, 35, []), (35, .iconst 1, 36, []), (36, .putfield 124, 39, []), (39, .aload_n 0, 40, []), (40, .getfield 24, 43, []), (43, .iload_n 1, 44, []), (44, .iconst 1, 45, []), (45, .bastore, 46, []), (46, .iconst 0, 47, []), (47, .istore 4, 49, []), (49, .iload 4, 51, []), (51, .bipush (10), 53, []), (53, .if_icmp .ge (67), 56, [120]), (56, .aload_n 0, 57, []), (57, .getfield 32, 60, []), (60, .aload_n 3, 61, []), (61, .getfield 127, 64, []), (64, .iload 4, 66, []), (66, .iaload, 67, []), (67, .aload_n 2, 68, []), (68, .getfield 127, 71, []), (71, .iload 4, 73, []), (73, .iaload, 74, []), (74, .invokevirtual 130, 77, []), (77, .istore 5, 79, []), (79, .aload_n 0, 80, []), (80, .getfield 24, 83, []), (83, .iload_n 1, 84, []), (84, .dup2, 85, []), (85, .baload, 86, []), (86, .iload 5, 88, []), (88, .aload_n 3, 89, []), (89, .getfield 127, 92, []), (92, .iload 4, 94, []), (94, .iaload, 95, []), (95, .if_icmp .eq (7), 98, [102]), (98, .iconst 1, 99, []), (99, .goto (4), 102, [103]), (102, .iconst 0, 103, []), (103, .ior, 104, []), (104, .bastore, 105, []), (105, .aload_n 3, 106, []), (106, .getfield 127, 109, []), (109, .iload 4, 111, []), (111, .iload 5, 113, []), (113, .iastore, 114, []), (114, .iinc 4 (1), 117, []), (117, .goto (-68), 120, [49]), (120, .iconst 0, 121, []), (121, .istore 4, 123, []), (123, .iload 4, 125, []), (125, .aload_n 3, 126, []), (126, .getfield 121, 129, []), (129, .if_icmp .ge (74), 132, [203]), (132, .aload_n 0, 133, []), (133, .getfield 32, 136, []), (136, .aload_n 3, 137, []), (137, .getfield 136, 140, []), (140, .iload 4, 142, []), (142, .iaload, 143, []), (143, .aload_n 2, 144, []), (144, .getfield 136, 147, []), (147, .iload 4, 149, []), (149, .iaload, 150, []), (150, .invokevirtual 130, 153, []), (153, .istore 5, 155, []), (155, .iload 5, 157, []), (157, .ifCond .ne (5), 160, [162]), (160, .iconst 0, 161, []), (161, .ireturn, 162, []), (162, .aload_n 0, 163, []), (163, .getfield 24, 166, []), (166, .iload_n 1, 167, []), (167, .dup2, 168, []), (168, .baload, 169, []), (169, .iload 5, 171, []), (171, .aload_n 3, 172, []), (172, .getfield 136, 175, []), (175, .iload 4, 177, []), (177, .iaload, 178, []), (178, .if_icmp .eq (7), 181, [185]), (181, .iconst 1, 182, []), (182, .goto (4), 185, [186]), (185, .iconst 0, 186, []), (186, .ior, 187, []), (187, .bastore, 188, []), (188, .aload_n 3, 189, []), (189, .getfield 136, 192, []), (192, .iload 4, 194, []), (194, .iload 5, 196, []), (196, .iastore, 197, []), (197, .iinc 4 (1), 200, []), (200, .goto (-77), 203, [123]), (203, .iconst 1, 204, []), (204, .ireturn, 205, [])]
def cd_fr_takeOver : zm_C := [(0, .aload_n 1, 1, []), (1, .getfield 9, 4, []), (4, .iconst 0, 5, []), (5, .aload_n 0, 6, []), (6, .getfield 9, 9, []), (9, .iconst 0, 10, []), (10, .bipush (10), 12, []), (12, .invokestatic 18, 15, []), (15, .aload_n 1, 16, []), (16, .getfield 15, 19, []), (19, .iconst 0, 20, []), (20, .aload_n 0, 21, []), (21, .getfield 15, 24, []), (24, .iconst 0, 25, []), (25, .aload_n 1, 26, []), (26, .getfield 24, 29, []), (29, .invokestatic 18, 32, []), (32, .aload_n 0, 33, []), (33, .aload_n 1, 34, []), (34, .getfield 24, 37, []), (37, .putfield 24, 40, []), (40, .aload_n 0, 41, []), (41, .aload_n 1, 42, []), (42, .getfield 28, 45, []), (45, .putfield 28, 48, []), (48, .aload_n 0, 49, []), (49, .aload_n 1, 50, []), (50, .getfield 31, 53, []), (53, .putfield 31, 56, []), (56, .return_, 57, [])]
def cd_fl_arrive : zm_C := [(0, .iload_n 1, 1, []), (1, .aload_n 0, 2, []), (2, .getfield 36, 5, []), (5, .getfield 55, 8, []), (8, .if_icmp .lt (5), 11, [13]), (11, .iconst 0, 12, []), (12, .ireturn, 13, []), (13, .aload_n 0, 14, []), (14, .getfield 21, 17, []), (17, .iload_n 1, 18, []), (18, .baload, 19, []), (19, .ifCond .eq (10), 22, [29]), (22, .aload_n 0, 23, []), (23, .iload_n 1, 24, []), (24, .aload_n 2, 25, []), (25, .invokevirtual 118, 28, []), (28, .ireturn, 29, []), (29, .aload_n 0, 30, []), (30, .getfield 21, 33, []), (33, .iload_n 1, 34, []), (34, .iconst 1, 35, []), (35, .bastore, 36, []), (36, .aload_n 0, 37, []), (37, .getfield 24, 40, []), (40, .iload_n 1, 41, []), (41, .iconst 1, 42, []), (42, .bastore, 43, []), (43, .aload_n 0, 44, []), (44, .getfield 11, 47, []), (47, .iload_n 1, 48, []), (48, .aaload, 49, []), (49, .aload_n 2, 50, []), (50, .invokevirtual 98, 53, []), (53, .iconst 1, 54, []), (54, .ireturn, 55, [])]
def cd_fl_begin : zm_C := [(0, .iconst 0, 1, []), (1, .istore_n 1, 2, []), (2, .iload_n 1, 3, []), (3, .bipush (50), 5, []), (5, .if_icmp .ge (23), 8, [28]), (8, .aload_n 0, 9, []), (9, .getfield 21, 12, []), (12, .iload_n 1, 13, []), (13, .iconst 0, 14, []), (14, .bastore, 15, []), (15, .aload_n 0, 16, []), (16, .getfield 24, 19, []), (19, .iload_n 1, 20, []), (20, .iconst 0, 21, []), (21, .bastore, 22, []), (22, .iinc 1 (1), 25, []), (25, .goto (-23), 28, [2]), (28, .aload_n 0, 29, []), (29, .getfield 36, 32, []), (32, .aload_n 0, 33, []), (33, .getfield 28, 36, []), (36, .invokevirtual 72, 39, []), (39, .aload_n 0, 40, []), (40, .iconst 0, 41, []), (41, .aload_n 0, 42, []), (42, .getfield 28, 45, []), (45, .invokevirtual 76, 48, []), (48, .pop, 49, []), (49, .return_, 50, [])]
def cd_pr_isGuarded : zm_C := [(0, .iload_n 1, 1, []), (1, .aload_n 0, 2, []), (2, .getfield 27, 5, []), (5, .iload_n 2, 6, []), (6, .iaload, 7, []), (7, .if_icmp .lt (17), 10, [24]), (10, .iload_n 1, 11, []), (11, .aload_n 0, 12, []), (12, .getfield 30, 15, []), (15, .iload_n 2, 16, []), (16, .iaload, 17, []), (17, .if_icmp .ge (7), 20, [24]), (20, .iconst 1, 21, []), (21, .goto (4), 24, [25]), (24, .iconst 0, 25, []), (25, .ireturn, 26, [])]
def cd_fr_push : zm_C := [(0, .iload_n 1, 1, []), (1, .invokestatic 50, 4, []), (4, .istore_n 2, 5, []), (5, .aload_n 0, 6, []), (6, .getfield 28, 9, []), (9, .iload_n 2, 10, []), (10, .iadd, 11, []), (11, .bipush (8), 13, []), (13, .if_icmp .le (5), 16, [18]), (16, .iconst 0, 17, []), (17, .ireturn, 18, []), (18, .aload_n 0, 19, []), (19, .getfield 15, 22, []), (22, .aload_n 0, 23, []), (23, .getfield 24, 26, []), (26, .iload_n 1, 27, []), (27, .iastore, 28, []), (28, .aload_n 0, 29, []), (29, .dup, 30, []), (30, .getfield 24, 33, []), (33, .iconst 1, 34, []), (34, .iadd, 35, []), (35, .putfield 24, 38, []), (38, .aload_n 0, 39, []), (39, .dup, 40, []), (40, .getfield 28, 43, []), (43, .iload_n 2, 44, []), (44, .iadd, 45, []), (45, .putfield 28, 48, []), (48, .iconst 1, 49, []), (49, .ireturn, 50, [])]
def cd_fr_takeOverForHandler : zm_C := [(0, .aload_n 0, 1, []), (1, .aload_n 1, 2, []), (2, .invokevirtual 35, 5, []), (5, .aload_n 0, 6, []), (6, .invokevirtual 39, 9, []), (9, .aload_n 0, 10, []), (10, .bipush (7), 12, []), (12, .iload_n 2, 13, []), (13, .invokestatic 42, 16, []), (16, .invokevirtual 46, 19, []), (19, .pop, 20, []), (20, .return_, 21, [])]
def cd_fl_leaveToHandlers : zm_C := [(0, .iconst 0, 1, []), (1, .istore_n 2, 2, []), (2, .iload_n 2, 3, []), (3, .aload_n 0, 4, []), (4, .getfield 36, 7, []), (7, .getfield 80, 10, []), (10, .if_icmp .ge (65), 13, [75]), (13, .aload_n 0, 14, []), (14, .getfield 36, 17, []), (17, .iload_n 1, 18, []), (18, .iload_n 2, 19, []), (19, .invokevirtual 83, 22, []), (22, .ifCond .eq (47), 25, [69]), (25, .aload_n 0, 26, []), (26, .getfield 28, 29, []), (29, .aload_n 0, 30, []), (30, .getfield 11, 33, []), (33, .iload_n 1, 34, []), (34, .aaload, 35, []), (35, .aload_n 0, 36, []), (36, .getfield 36, 39, []), (39, .getfield 87, 42, []), (42, .iload_n 2, 43, []), (43, .iaload, 44, []), (44, .invokevirtual 91, 47, []), (47, .aload_n 0, 48, []), (48, .aload_n 0, 49, []), (49, .getfield 36, 52, []), (52, .getfield 95, 55, []), (55, .iload_n 2, 56, []), (56, .iaload, 57, []), (57, .aload_n 0, 58, []), (58, .getfield 28, 61, []), (61, .invokevirtual 76, 64, []), (64, .ifCond .ne (5), 67, [69]), (67, .iconst 0, 68, []), (68, .ireturn, 69, []), (69, .iinc 2 (1), 72, []), (72, .goto (-70), 75, [2]), (75, .iconst 1, 76, []), (76, .ireturn, 77, [])]
def cd_fr_peek : zm_C := [(0, .iload_n 1, 1, []), (1, .aload_n 0, 2, []), (2, .getfield 24, 5, []), (5, .if_icmp .ge (19), 8, [24]), (8, .aload_n 0, 9, []), (9, .getfield 15, 12, []), (12, .aload_n 0, 13, []), (13, .getfield 24, 16, []), (16, .iconst 1, 17, []), (17, .isub, 18, []), (18, .iload_n 1, 19, []), (19, .isub, 20, []), (20, .iaload, 21, []), (21, .goto (4), 24, [25]), (24, .iconst (-1), 25, []), (25, .ireturn, 26, [])]
def cd_fr_drop : zm_C := [(0, .aload_n 0, 1, []), (1, .getfield 24, 4, []), (4, .ifCond .le (34), 7, [38]), (7, .aload_n 0, 8, []), (8, .dup, 9, []), (9, .getfield 24, 12, []), (12, .iconst 1, 13, []), (13, .isub, 14, []), (14, .putfield 24, 17, []), (17, .aload_n 0, 18, []), (18, .dup, 19, []), (19, .getfield 28, 22, []), (22, .aload_n 0, 23, []), (23, .getfield 15, 26, []), (26, .aload_n 0, 27, []), (27, .getfield 24, 30, []), (30, .iaload, 31, []), (31, .invokestatic 50, 34, []), (34, .isub, 35, []), (35, .putfield 28, 38, []), (38, .return_, 39, [])]
def cd_fr_take : zm_C := [(0, .aload_n 0, 1, []), (1, .iconst 0, 2, []), (2, .invokevirtual 54, 5, []), (5, .iload_n 1, 6, []), (6, .if_icmp .eq (5), 9, [11]), (9, .iconst 0, 10, []), (10, .ireturn, 11, []), (11, .aload_n 0, 12, []), (12, .invokevirtual 57, 15, []), (15, .iconst 1, 16, []), (16, .ireturn, 17, [])]
def cd_mf_isSmall : zm_C := [(0, .iload_n 0, 1, []), (1, .invokestatic 85, 4, []), (4, .istore_n 1, 5, []), (5, .iload_n 1, 6, []), (6, .iconst 1, 7, []), (7, .if_icmp .eq (19), 10, [26]), (10, .iload_n 1, 11, []), (11, .iconst 2, 12, []), (12, .if_icmp .eq (14), 15, [26]), (15, .iload_n 1, 16, []), (16, .iconst 5, 17, []), (17, .if_icmp .lt (13), 20, [30]), (20, .iload_n 1, 21, []), (21, .bipush (8), 23, []), (23, .if_icmp .gt (7), 26, [30]), (26, .iconst 1, 27, []), (27, .goto (4), 30, [31]), (30, .iconst 0, 31, []), (31, .ireturn, 32, [])]
def cd_ma_stepOne : zm_C := [(0, .iload_n 1, 1, []), (1, .bipush (8), 3, []), (3, .if_icmp .ne (9), 6, [12]), (6, .aload_n 3, 7, []), (7, .iload_n 2, 8, []), (8, .invokevirtual 48, 11, []), (11, .ireturn, 12, []), (12, .aload_n 3, 13, []), (13, .invokevirtual 74, 16, []), (16, .iconst 1, 17, []), (17, .ireturn, 18, [])]
def cd_fr_swap : zm_C := [(0, .aload_n 0, 1, []), (1, .getfield 24, 4, []), (4, .iconst 1, 5, []), (5, .if_icmp .le (49), 8, [54]), (8, .aload_n 0, 9, []), (9, .getfield 15, 12, []), (12, .aload_n 0, 13, []), (13, .getfield 24, 16, []), (16, .iconst 1, 17, []), (17, .isub, 18, []), (18, .iaload, 19, []), (19, .istore_n 1, 20, []), (20, .aload_n 0, 21, []), (21, .getfield 15, 24, []), (24, .aload_n 0, 25, []), (25, .getfield 24, 28, []), (28, .iconst 1, 29, []), (29, .isub, 30, []), (30, .aload_n 0, 31, []), (31, .getfield 15, 34, []), (34, .aload_n 0, 35, []), (35, .getfield 24, 38, []), (38, .iconst 2, 39, []), (39, .isub, 40, []), (40, .iaload, 41, []), (41, .iastore, 42, []), (42, .aload_n 0, 43, []), (43, .getfield 15, 46, []), (46, .aload_n 0, 47, []), (47, .getfield 24, 50, []), (50, .iconst 2, 51, []), (51, .isub, 52, []), (52, .iload_n 1, 53, []), (53, .iastore, 54, []), (54, .return_, 55, [])]
def cd_ma_stepTwo : zm_C := [(0, .aload_n 2, 1, []), (1, .iconst 1, 2, []), (2, .invokevirtual 68, 5, []), (5, .invokestatic 77, 8, []), (8, .ifCond .ne (5), 11, [13]), (11, .iconst 0, 12, []), (12, .ireturn, 13, []), (13, .iload_n 1, 14, []), (14, .bipush (9), 16, []), (16, .if_icmp .ne (10), 19, [26]), (19, .aload_n 2, 20, []), (20, .invokevirtual 86, 23, []), (23, .goto (11), 26, [34]), (26, .aload_n 2, 27, []), (27, .invokevirtual 74, 30, []), (30, .aload_n 2, 31, []), (31, .invokevirtual 74, 34, []), (34, .iconst 1, 35, []), (35, .ireturn, 36, [])]
def cd_ma_stepOnStack : zm_C := [(0, .iload_n 1, 1, []), (1, .ifCond .ne (5), 4, [6]), (4, .iconst 1, 5, []), (5, .ireturn, 6, []), (6, .iload_n 1, 7, []), (7, .iconst 5, 8, []), (8, .if_icmp .gt (9), 11, [17]), (11, .aload_n 2, 12, []), (12, .iload_n 1, 13, []), (13, .invokevirtual 48, 16, []), (16, .ireturn, 17, []), (17, .iload_n 1, 18, []), (18, .bipush (10), 20, []), (20, .if_icmp .lt (42), 23, [62]), (23, .getstatic 62, 26, []), (26, .iload_n 1, 27, []), (27, .bipush (10), 29, []), (29, .isub, 30, []), (30, .iaload, 31, []), (31, .istore_n 3, 32, []), (32, .aload_n 2, 33, []), (33, .iload_n 3, 34, []), (34, .invokevirtual 65, 37, []), (37, .ifCond .eq (23), 40, [60]), (40, .aload_n 2, 41, []), (41, .iload_n 3, 42, []), (42, .invokevirtual 65, 45, []), (45, .ifCond .eq (15), 48, [60]), (48, .aload_n 2, 49, []), (49, .iload_n 3, 50, []), (50, .invokevirtual 48, 53, []), (53, .ifCond .eq (7), 56, [60]), (56, .iconst 1, 57, []), (57, .goto (4), 60, [61]), (60, .iconst 0, 61, []), (61, .ireturn, 62, []), (62, .aload_n 2, 63, []), (63, .iconst 0, 64, []), (64, .invokevirtual 68, 67, []), (67, .istore_n 3, 68, []), (68, .iload_n 1, 69, []), (69, .bipush (7), 71, []), (71, .if_icmp .ne (17), 74, [88]), (74, .iload_n 3, 75, []), (75, .invokestatic 71, 78, []), (78, .iconst 2, 79, []), (79, .if_icmp .ne (9), 82, [88]), (82, .aload_n 2, 83, []), (83, .invokevirtual 74, 86, []), (86, .iconst 1, 87, []), (87, .ireturn, 88, []), (88, .iload_n 3, 89, []), (89, .invokestatic 77, 92, []), (92, .ifCond .ne (5), 95, [97]), (95, .iconst 0, 96, []), (96, .ireturn, 97, []), (97, .iload_n 1, 98, []), (98, .bipush (6), 100, []), (100, .if_icmp .eq (9), 103, [109]), (103, .iload_n 1, 104, []), (104, .bipush (8), 106, []), (106, .if_icmp .ne (13), 109, [119]), (109, .aload_n 0, 110, []), (110, .iload_n 1, 111, []), (111, .iload_n 3, 112, []), (112, .aload_n 2, 113, []), (113, .invokevirtual 80, 116, []), (116, .goto (9), 119, [125]), (119, .aload_n 0, 120, []), (120, .iload_n 1, 121, []), (121, .aload_n 2, 122, []), (122, .invokevirtual 83, 125, []), (125, .ireturn, 126, [])]
def cd_fa_is : zm_C := [(0, .iload_n 1, 1, []), (1, .iload_n 2, 2, []), (2, .if_icmp .eq (7), 5, [9]), (5, .iload_n 2, 6, []), (6, .ifCond .ne (5), 9, [11]), (9, .iconst 1, 10, []), (10, .ireturn, 11, []), (11, .iload_n 2, 12, []), (12, .invokestatic 22, 15, []), (15, .bipush (7), 17, []), (17, .if_icmp .eq (5), 20, [22]), (20, .iconst 0, 21, []), (21, .ireturn, 22, []), (22, .iload_n 2, 23, []), (23, .invokestatic 26, 26, []), (26, .istore_n 3, 27, []), (27, .iload_n 1, 28, []), (28, .iconst 5, 29, []), (29, .if_icmp .eq (38), 32, [67]), (32, .iload_n 1, 33, []), (33, .invokestatic 22, 36, []), (36, .bipush (7), 38, []), (38, .if_icmp .ne (33), 41, [71]), (41, .aload_n 0, 42, []), (42, .getfield 15, 45, []), (45, .iload_n 3, 46, []), (46, .baload, 47, []), (47, .ifCond .ne (20), 50, [67]), (50, .aload_n 0, 51, []), (51, .getfield 19, 54, []), (54, .iload_n 1, 55, []), (55, .invokestatic 26, 58, []), (58, .iaload, 59, []), (59, .iload_n 3, 60, []), (60, .ishr, 61, []), (61, .iconst 1, 62, []), (62, .iand, 63, []), (63, .iconst 1, 64, []), (64, .if_icmp .ne (7), 67, [71]), (67, .iconst 1, 68, []), (68, .goto (4), 71, [72]), (71, .iconst 0, 72, []), (72, .ireturn, 73, [])]
def cd_ma_stepToOther : zm_C := [(0, .iload_n 1, 1, []), (1, .tableswitch (185) 14 19 #[39, 61, 83, 105, 127, 161], 40, [186, 40, 62, 84, 106, 128, 162]), (40, .aload_n 2, 41, []), (41, .iconst 1, 42, []), (42, .invokevirtual 65, 45, []), (45, .ifCond .eq (15), 48, [60]), (48, .aload_n 2, 49, []), (49, .iconst 4, 50, []), (50, .invokevirtual 48, 53, []), (53, .ifCond .eq (7), 56, [60]), (56, .iconst 1, 57, []), (57, .goto (4), 60, [61]), (60, .iconst 0, 61, []), (61, .ireturn, 62, []), (62, .aload_n 2, 63, []), (63, .iconst 4, 64, []), (64, .invokevirtual 65, 67, []), (67, .ifCond .eq (15), 70, [82]), (70, .aload_n 2, 71, []), (71, .iconst 1, 72, []), (72, .invokevirtual 48, 75, []), (75, .ifCond .eq (7), 78, [82]), (78, .iconst 1, 79, []), (79, .goto (4), 82, [83]), (82, .iconst 0, 83, []), (83, .ireturn, 84, []), (84, .aload_n 2, 85, []), (85, .iconst 1, 86, []), (86, .invokevirtual 65, 89, []), (89, .ifCond .eq (15), 92, [104]), (92, .aload_n 2, 93, []), (93, .iconst 3, 94, []), (94, .invokevirtual 48, 97, []), (97, .ifCond .eq (7), 100, [104]), (100, .iconst 1, 101, []), (101, .goto (4), 104, [105]), (104, .iconst 0, 105, []), (105, .ireturn, 106, []), (106, .aload_n 2, 107, []), (107, .iconst 3, 108, []), (108, .invokevirtual 65, 111, []), (111, .ifCond .eq (15), 114, [126]), (114, .aload_n 2, 115, []), (115, .iconst 1, 116, []), (116, .invokevirtual 48, 119, []), (119, .ifCond .eq (7), 122, [126]), (122, .iconst 1, 123, []), (123, .goto (4), 126, [127]), (126, .iconst 0, 127, []), (127, .ireturn, 128, []), (128, .aload_n 0, 129, []), (129, .getfield 15, 132, []), (132, .getfield 89, 135, []), (135, .ifCond .ne (25), 138, [160]), (138, .aload_n 0, 139, []), (139, .getfield 15, 142, []), (142, .getfield 93, 145, []), (145, .iconst 2, 146, []), (146, .if_icmp .ne (10), 149, [156]), (149, .aload_n 2, 150, []), (150, .getfield 97, 153, []), (153, .ifCond .ne (7), 156, [160]), (156, .iconst 1, 157, []), (157, .goto (4), 160, [161]), (160, .iconst 0, 161, []), (161, .ireturn, 162, []), (162, .aload_n 0, 163, []), (163, .getfield 15, 166, []), (166, .getfield 89, 169, []), (169, .ifCond .eq (15), 172, [184]), (172, .aload_n 2, 173, []), (173, .iconst 1, 174, []), (174, .invokevirtual 65, 177, []), (177, .ifCond .eq (7), 180, [184]), (180, .iconst 1, 181, []), (181, .goto (4), 184, [185]), (184, .iconst 0, 185, []), (185, .ireturn, 186, []), (186, .aload_n 0, 187, []), (187, .getfield 9, 190, []), (190, .aload_n 2, 191, []), (191, .iconst 0, 192, []), (192, .invokevirtual 68, 195, []), (195, .bipush (7), 197, []), (197, .invokevirtual 100, 200, []), (200, .ireturn, 201, [])]
def cd_mf_isOfKind : zm_C := [(0, .iload_n 1, 1, []), (1, .bipush (7), 3, []), (3, .if_icmp .eq (14), 6, [17]), (6, .iload_n 0, 7, []), (7, .iload_n 1, 8, []), (8, .if_icmp .ne (7), 11, [15]), (11, .iconst 1, 12, []), (12, .goto (4), 15, [16]), (15, .iconst 0, 16, []), (16, .ireturn, 17, []), (17, .iload_n 0, 18, []), (18, .invokestatic 85, 21, []), (21, .iconst 5, 22, []), (22, .if_icmp .lt (16), 25, [38]), (25, .iload_n 0, 26, []), (26, .invokestatic 85, 29, []), (29, .bipush (8), 31, []), (31, .if_icmp .gt (7), 34, [38]), (34, .iconst 1, 35, []), (35, .goto (4), 38, [39]), (38, .iconst 0, 39, []), (39, .ireturn, 40, [])]
def cd_fr_store : zm_C := [(0, .iload_n 1, 1, []), (1, .ifCond .le (27), 4, [28]), (4, .aload_n 0, 5, []), (5, .getfield 9, 8, []), (8, .iload_n 1, 9, []), (9, .iconst 1, 10, []), (10, .isub, 11, []), (11, .iaload, 12, []), (12, .invokestatic 50, 15, []), (15, .iconst 2, 16, []), (16, .if_icmp .ne (12), 19, [28]), (19, .aload_n 0, 20, []), (20, .getfield 9, 23, []), (23, .iload_n 1, 24, []), (24, .iconst 1, 25, []), (25, .isub, 26, []), (26, .iconst 0, 27, []), (27, .iastore, 28, []), (28, .aload_n 0, 29, []), (29, .getfield 9, 32, []), (32, .iload_n 1, 33, []), (33, .iload_n 2, 34, []), (34, .iastore, 35, []), (35, .iload_n 2, 36, []), (36, .invokestatic 50, 39, []), (39, .iconst 2, 40, []), (40, .if_icmp .ne (20), 43, [60]), (43, .iload_n 1, 44, []), (44, .iconst 1, 45, []), (45, .iadd, 46, []), (46, .bipush (10), 48, []), (48, .if_icmp .ge (12), 51, [60]), (51, .aload_n 0, 52, []), (52, .getfield 9, 55, []), (55, .iload_n 1, 56, []), (56, .iconst 1, 57, []), (57, .iadd, 58, []), (58, .iconst 0, 59, []), (59, .iastore, 60, []), (60, .return_, 61, [])]
def cd_ma_stepStore : zm_C := [(0, .aload_n 3, 1, []), (1, .iconst 0, 2, []), (2, .invokevirtual 68, 5, []), (5, .istore 4, 7, []), (7, .iload 4, 9, []), (9, .iload_n 1, 10, []), (10, .invokestatic 40, 13, []), (13, .invokestatic 44, 16, []), (16, .ifCond .ne (5), 19, [21]), (19, .iconst 0, 20, []), (20, .ireturn, 21, []), (21, .aload_n 3, 22, []), (22, .invokevirtual 74, 25, []), (25, .aload_n 3, 26, []), (26, .iload_n 2, 27, []), (27, .iload 4, 29, []), (29, .invokevirtual 105, 32, []), (32, .iconst 1, 33, []), (33, .ireturn, 34, [])]
def cd_ma_stepJump : zm_C := [(0, .iload_n 1, 1, []), (1, .bipush (31), 3, []), (3, .if_icmp .ne (5), 6, [8]), (6, .iconst 1, 7, []), (7, .ireturn, 8, []), (8, .iload_n 1, 9, []), (9, .bipush (32), 11, []), (11, .if_icmp .ne (9), 14, [20]), (14, .aload_n 2, 15, []), (15, .iconst 1, 16, []), (16, .invokevirtual 65, 19, []), (19, .ireturn, 20, []), (20, .aload_n 2, 21, []), (21, .iconst 0, 22, []), (22, .invokevirtual 68, 25, []), (25, .invokestatic 109, 28, []), (28, .ifCond .eq (20), 31, [48]), (31, .iload_n 1, 32, []), (32, .bipush (34), 34, []), (34, .if_icmp .ne (16), 37, [50]), (37, .aload_n 2, 38, []), (38, .iconst 1, 39, []), (39, .invokevirtual 68, 42, []), (42, .invokestatic 109, 45, []), (45, .ifCond .ne (5), 48, [50]), (48, .iconst 0, 49, []), (49, .ireturn, 50, []), (50, .aload_n 2, 51, []), (51, .invokevirtual 74, 54, []), (54, .iload_n 1, 55, []), (55, .bipush (34), 57, []), (57, .if_icmp .ne (7), 60, [64]), (60, .aload_n 2, 61, []), (61, .invokevirtual 74, 64, []), (64, .iconst 1, 65, []), (65, .ireturn, 66, [])]
def cd_fa_isAbove : zm_C := [(0, .iload_n 2, 1, []), (1, .ifCond .le (17), 4, [18]), (4, .aload_n 0, 5, []), (5, .getfield 9, 8, []), (8, .iload_n 2, 9, []), (9, .iaload, 10, []), (10, .iload_n 1, 11, []), (11, .if_icmp .ne (7), 14, [18]), (14, .iconst 1, 15, []), (15, .goto (4), 18, [19]), (18, .iconst 0, 19, []), (19, .ireturn, 20, [])]
def cd_fr_replaceAll : zm_C := [(0, .iconst 0, 1, []), (1, .istore_n 3, 2, []), (2, .iload_n 3, 3, []), (3, .bipush (10), 5, []), (5, .if_icmp .ge (26), 8, [31]), (8, .aload_n 0, 9, []), (9, .getfield 9, 12, []), (12, .iload_n 3, 13, []), (13, .iaload, 14, []), (14, .iload_n 1, 15, []), (15, .if_icmp .ne (10), 18, [25]), (18, .aload_n 0, 19, []), (19, .getfield 9, 22, []), (22, .iload_n 3, 23, []), (23, .iload_n 2, 24, []), (24, .iastore, 25, []), (25, .iinc 3 (1), 28, []), (28, .goto (-26), 31, [2]), (31, .iconst 0, 32, []), (32, .istore_n 3, 33, []), (33, .iload_n 3, 34, []), (34, .aload_n 0, 35, []), (35, .getfield 24, 38, []), (38, .if_icmp .ge (26), 41, [64]), (41, .aload_n 0, 42, []), (42, .getfield 15, 45, []), (45, .iload_n 3, 46, []), (46, .iaload, 47, []), (47, .iload_n 1, 48, []), (48, .if_icmp .ne (10), 51, [58]), (51, .aload_n 0, 52, []), (52, .getfield 15, 55, []), (55, .iload_n 3, 56, []), (56, .iload_n 2, 57, []), (57, .iastore, 58, []), (58, .iinc 3 (1), 61, []), (61, .goto (-28), 64, [33]), (64, .return_, 65, [])]
def cd_pr_placeAt : zm_C := [(0, .iconst 0, 1, []), (1, .istore_n 2, 2, []), (2, .iload_n 2, 3, []), (3, .aload_n 0, 4, []), (4, .getfield 53, 7, []), (7, .if_icmp .ge (21), 10, [28]), (10, .aload_n 0, 11, []), (11, .getfield 24, 14, []), (14, .iload_n 2, 15, []), (15, .iaload, 16, []), (16, .iload_n 1, 17, []), (17, .if_icmp .ne (5), 20, [22]), (20, .iload_n 2, 21, []), (21, .ireturn, 22, []), (22, .iinc 2 (1), 25, []), (25, .goto (-23), 28, [2]), (28, .bipush (-2), 30, []), (30, .ireturn, 31, [])]
def cd_ma_stepInit : zm_C := [(0, .iload_n 2, 1, []), (1, .bipush (6), 3, []), (3, .if_icmp .ne (60), 6, [63]), (6, .iload_n 1, 7, []), (7, .aload_n 0, 8, []), (8, .getfield 15, 11, []), (11, .getfield 125, 14, []), (14, .if_icmp .eq (21), 17, [35]), (17, .aload_n 0, 18, []), (18, .getfield 9, 21, []), (21, .iload_n 1, 22, []), (22, .aload_n 0, 23, []), (23, .getfield 15, 26, []), (26, .getfield 125, 29, []), (29, .invokevirtual 128, 32, []), (32, .ifCond .eq (31), 35, [63]), (35, .aload_n 3, 36, []), (36, .invokevirtual 74, 39, []), (39, .aload_n 3, 40, []), (40, .iload_n 2, 41, []), (41, .bipush (7), 43, []), (43, .aload_n 0, 44, []), (44, .getfield 15, 47, []), (47, .getfield 125, 50, []), (50, .invokestatic 115, 53, []), (53, .invokevirtual 131, 56, []), (56, .aload_n 3, 57, []), (57, .iconst 0, 58, []), (58, .putfield 97, 61, []), (61, .iconst 1, 62, []), (62, .ireturn, 63, []), (63, .iload_n 2, 64, []), (64, .invokestatic 134, 67, []), (67, .bipush (8), 69, []), (69, .if_icmp .eq (5), 72, [74]), (72, .iconst 0, 73, []), (73, .ireturn, 74, []), (74, .aload_n 0, 75, []), (75, .getfield 15, 78, []), (78, .iload_n 2, 79, []), (79, .invokestatic 137, 82, []), (82, .invokevirtual 140, 85, []), (85, .istore 4, 87, []), (87, .iload 4, 89, []), (89, .bipush (-2), 91, []), (91, .if_icmp .eq (32), 94, [123]), (94, .aload_n 0, 95, []), (95, .getfield 15, 98, []), (98, .getfield 19, 101, []), (101, .iload 4, 103, []), (103, .iaload, 104, []), (104, .bipush (35), 106, []), (106, .if_icmp .ne (17), 109, [123]), (109, .aload_n 0, 110, []), (110, .getfield 15, 113, []), (113, .getfield 37, 116, []), (116, .iload 4, 118, []), (118, .iaload, 119, []), (119, .iload_n 1, 120, []), (120, .if_icmp .eq (5), 123, [125]), (123, .iconst 0, 124, []), (124, .ireturn, 125, []), (125, .aload_n 3, 126, []), (126, .invokevirtual 74, 129, []), (129, .aload_n 3, 130, []), (130, .iload_n 2, 131, []), (131, .bipush (7), 133, []), (133, .iload_n 1, 134, []), (134, .invokestatic 115, 137, []), (137, .invokevirtual 131, 140, []), (140, .iconst 1, 141, []), (141, .ireturn, 142, [])]
def cd_ma_stepObject : zm_C := [(0, .aload_n 0, 1, []), (1, .getfield 15, 4, []), (4, .getfield 19, 7, []), (7, .iload_n 1, 8, []), (8, .iaload, 9, []), (9, .istore_n 3, 10, []), (10, .aload_n 0, 11, []), (11, .getfield 15, 14, []), (14, .getfield 37, 17, []), (17, .iload_n 1, 18, []), (18, .iaload, 19, []), (19, .istore 4, 21, []), (21, .iload_n 3, 22, []), (22, .bipush (35), 24, []), (24, .if_icmp .ne (22), 27, [46]), (27, .aload_n 2, 28, []), (28, .bipush (8), 30, []), (30, .aload_n 0, 31, []), (31, .getfield 15, 34, []), (34, .getfield 112, 37, []), (37, .iload_n 1, 38, []), (38, .iaload, 39, []), (39, .invokestatic 115, 42, []), (42, .invokevirtual 48, 45, []), (45, .ireturn, 46, []), (46, .aload_n 2, 47, []), (47, .iconst 0, 48, []), (48, .invokevirtual 68, 51, []), (51, .istore 5, 53, []), (53, .iload_n 3, 54, []), (54, .bipush (36), 56, []), (56, .if_icmp .ne (13), 59, [69]), (59, .aload_n 0, 60, []), (60, .iload 4, 62, []), (62, .iload 5, 64, []), (64, .aload_n 2, 65, []), (65, .invokevirtual 119, 68, []), (68, .ireturn, 69, []), (69, .aload_n 0, 70, []), (70, .getfield 9, 73, []), (73, .iload 5, 75, []), (75, .bipush (7), 77, []), (77, .iload_n 3, 78, []), (78, .bipush (39), 80, []), (80, .if_icmp .ne (7), 83, [87]), (83, .iconst 0, 84, []), (84, .goto (5), 87, [89]), (87, .iload 4, 89, []), (89, .invokestatic 115, 92, []), (92, .invokevirtual 100, 95, []), (95, .ifCond .ne (5), 98, [100]), (98, .iconst 0, 99, []), (99, .ireturn, 100, []), (100, .aload_n 2, 101, []), (101, .invokevirtual 74, 104, []), (104, .iload_n 3, 105, []), (105, .bipush (37), 107, []), (107, .if_icmp .ne (9), 110, [116]), (110, .aload_n 2, 111, []), (111, .iconst 1, 112, []), (112, .invokevirtual 48, 115, []), (115, .ireturn, 116, []), (116, .aload_n 2, 117, []), (117, .bipush (7), 119, []), (119, .iload_n 3, 120, []), (120, .bipush (38), 122, []), (122, .if_icmp .ne (15), 125, [137]), (125, .aload_n 0, 126, []), (126, .getfield 15, 129, []), (129, .getfield 122, 132, []), (132, .iload_n 1, 133, []), (133, .iaload, 134, []), (134, .goto (5), 137, [139]), (137, .iload 4, 139, []), (139, .invokestatic 115, 142, []), (142, .invokevirtual 48, 145, []), (145, .ireturn, 146, [])]
def cd_ma_step : zm_C := [(0, .aload_n 0, 1, []), (1, .getfield 15, 4, []), (4, .getfield 19, 7, []), (7, .iload_n 1, 8, []), (8, .iaload, 9, []), (9, .istore_n 3, 10, []), (10, .iload_n 3, 11, []), (11, .bipush (13), 13, []), (13, .if_icmp .gt (10), 16, [23]), (16, .aload_n 0, 17, []), (17, .iload_n 3, 18, []), (18, .aload_n 2, 19, []), (19, .invokevirtual 25, 22, []), (22, .ireturn, 23, []), (23, .iload_n 3, 24, []), (24, .bipush (20), 26, []), (26, .if_icmp .gt (10), 29, [36]), (29, .aload_n 0, 30, []), (30, .iload_n 3, 31, []), (31, .aload_n 2, 32, []), (32, .invokevirtual 29, 35, []), (35, .ireturn, 36, []), (36, .iload_n 3, 37, []), (37, .bipush (25), 39, []), (39, .if_icmp .gt (46), 42, [85]), (42, .aload_n 2, 43, []), (43, .getfield 32, 46, []), (46, .aload_n 0, 47, []), (47, .getfield 15, 50, []), (50, .getfield 37, 53, []), (53, .iload_n 1, 54, []), (54, .iaload, 55, []), (55, .iaload, 56, []), (56, .istore 4, 58, []), (58, .iload 4, 60, []), (60, .iload_n 3, 61, []), (61, .invokestatic 40, 64, []), (64, .invokestatic 44, 67, []), (67, .ifCond .eq (16), 70, [83]), (70, .aload_n 2, 71, []), (71, .iload 4, 73, []), (73, .invokevirtual 48, 76, []), (76, .ifCond .eq (7), 79, [83]), (79, .iconst 1, 80, []), (80, .goto (4), 83, [84]), (83, .iconst 0, 84, []), (84, .ireturn, 85, []), (85, .iload_n 3, 86, []), (86, .bipush (30), 88, []), (88, .if_icmp .gt (19), 91, [107]), (91, .aload_n 0, 92, []), (92, .iload_n 3, 93, []), (93, .aload_n 0, 94, []), (94, .getfield 15, 97, []), (97, .getfield 37, 100, []), (100, .iload_n 1, 101, []), (101, .iaload, 102, []), (102, .aload_n 2, 103, []), (103, .invokevirtual 52, 106, []), (106, .ireturn, 107, []), (107, .iload_n 3, 108, []), (108, .bipush (34), 110, []), (110, .if_icmp .gt (12), 113, [122]), (113, .aload_n 0, 114, []), (114, .iload_n 3, 115, []), (115, .aload_n 2, 116, []), (116, .invokevirtual 56, 119, []), (119, .goto (9), 122, [128]), (122, .aload_n 0, 123, []), (123, .iload_n 1, 124, []), (124, .aload_n 2, 125, []), (125, .invokevirtual 59, 128, []), (128, .ireturn, 129, [])]
def cd_mf_isEnd : zm_C := [(0, .iload_n 0, 1, []), (1, .bipush (18), 3, []), (3, .if_icmp .lt (9), 6, [12]), (6, .iload_n 0, 7, []), (7, .bipush (20), 9, []), (9, .if_icmp .le (9), 12, [18]), (12, .iload_n 0, 13, []), (13, .bipush (31), 15, []), (15, .if_icmp .ne (7), 18, [22]), (18, .iconst 1, 19, []), (19, .goto (4), 22, [23]), (22, .iconst 0, 23, []), (23, .ireturn, 24, [])]
def cd_fl_leave : zm_C := [(0, .aload_n 0, 1, []), (1, .getfield 28, 4, []), (4, .aload_n 0, 5, []), (5, .getfield 11, 8, []), (8, .iload_n 1, 9, []), (9, .aaload, 10, []), (10, .invokevirtual 98, 13, []), (13, .aload_n 0, 14, []), (14, .getfield 40, 17, []), (17, .iload_n 1, 18, []), (18, .aload_n 0, 19, []), (19, .getfield 28, 22, []), (22, .invokevirtual 101, 25, []), (25, .ifCond .ne (5), 28, [30]), (28, .iconst 0, 29, []), (29, .ireturn, 30, []), (30, .aload_n 0, 31, []), (31, .getfield 36, 34, []), (34, .getfield 106, 37, []), (37, .iload_n 1, 38, []), (38, .iaload, 39, []), (39, .istore_n 2, 40, []), (40, .iload_n 2, 41, []), (41, .invokestatic 109, 44, []), (44, .ifCond .eq (25), 47, [69]), (47, .aload_n 0, 48, []), (48, .aload_n 0, 49, []), (49, .getfield 36, 52, []), (52, .getfield 112, 55, []), (55, .iload_n 1, 56, []), (56, .iaload, 57, []), (57, .aload_n 0, 58, []), (58, .getfield 28, 61, []), (61, .invokevirtual 76, 64, []), (64, .ifCond .ne (5), 67, [69]), (67, .iconst 0, 68, []), (68, .ireturn, 69, []), (69, .iload_n 2, 70, []), (70, .invokestatic 115, 73, []), (73, .ifCond .ne (17), 76, [90]), (76, .aload_n 0, 77, []), (77, .iload_n 1, 78, []), (78, .iconst 1, 79, []), (79, .iadd, 80, []), (80, .aload_n 0, 81, []), (81, .getfield 28, 84, []), (84, .invokevirtual 76, 87, []), (87, .ifCond .eq (7), 90, [94]), (90, .iconst 1, 91, []), (91, .goto (4), 94, [95]), (94, .iconst 0, 95, []), (95, .ireturn, 96, [])]
def cd_pr_markRows : zm_C := [(0, .iconst 0, 1, []), (1, .istore_n 2, 2, []), (2, .iload_n 2, 3, []), (3, .bipush (50), 5, []), (5, .if_icmp .ge (43), 8, [48]), (8, .aload_n 1, 9, []), (9, .iload_n 2, 10, []), (10, .iload_n 2, 11, []), (11, .ifCond .le (29), 14, [40]), (14, .iload_n 2, 15, []), (15, .aload_n 0, 16, []), (16, .getfield 53, 19, []), (19, .if_icmp .ge (21), 22, [40]), (22, .aload_n 0, 23, []), (23, .getfield 15, 26, []), (26, .iload_n 2, 27, []), (27, .iconst 1, 28, []), (28, .isub, 29, []), (29, .iaload, 30, []), (30, .invokestatic 70, 33, []), (33, .ifCond .eq (7), 36, [40]), (36, .iconst 1, 37, []), (37, .goto (4), 40, [41]), (40, .iconst 0, 41, []), (41, .bastore, 42, []), (42, .iinc 2 (1), 45, []), (45, .goto (-43), 48, [2]), (48, .iconst 0, 49, []), (49, .istore_n 2, 50, []), (50, .iload_n 2, 51, []), (51, .aload_n 0, 52, []), (52, .getfield 53, 55, []), (55, .if_icmp .ge (30), 58, [85]), (58, .aload_n 0, 59, []), (59, .getfield 15, 62, []), (62, .iload_n 2, 63, []), (63, .iaload, 64, []), (64, .invokestatic 63, 67, []), (67, .ifCond .eq (12), 70, [79]), (70, .aload_n 1, 71, []), (71, .aload_n 0, 72, []), (72, .getfield 21, 75, []), (75, .iload_n 2, 76, []), (76, .iaload, 77, []), (77, .iconst 1, 78, []), (78, .bastore, 79, []), (79, .iinc 2 (1), 82, []), (82, .goto (-32), 85, [50]), (85, .iconst 0, 86, []), (86, .istore_n 2, 87, []), (87, .iload_n 2, 88, []), (88, .aload_n 0, 89, []), (89, .getfield 56, 92, []), (92, .if_icmp .ge (18), 95, [110]), (95, .aload_n 1, 96, []), (96, .aload_n 0, 97, []), (97, .getfield 33, 100, []), (100, .iload_n 2, 101, []), (101, .iaload, 102, []), (102, .iconst 1, 103, []), (103, .bastore, 104, []), (104, .iinc 2 (1), 107, []), (107, .goto (-20), 110, [87]), (110, .return_, 111, [])]
def cd_fr_hasRawThisInLocal : zm_C := [(0, .iconst 0, 1, []), (1, .istore_n 1, 2, []), (2, .iload_n 1, 3, []), (3, .bipush (10), 5, []), (5, .if_icmp .ge (22), 8, [27]), (8, .aload_n 0, 9, []), (9, .getfield 9, 12, []), (12, .iload_n 1, 13, []), (13, .iaload, 14, []), (14, .bipush (6), 16, []), (16, .if_icmp .ne (5), 19, [21]), (19, .iconst 1, 20, []), (20, .ireturn, 21, []), (21, .iinc 1 (1), 24, []), (24, .goto (-22), 27, [2]), (27, .iconst 0, 28, []), (28, .ireturn, 29, [])]
def cd_fl_isWhole : zm_C := [(0, .aload_n 0, 1, []), (1, .getfield 36, 4, []), (4, .aload_n 0, 5, []), (5, .getfield 17, 8, []), (8, .invokevirtual 139, 11, []), (11, .iconst 0, 12, []), (12, .istore_n 1, 13, []), (13, .iload_n 1, 14, []), (14, .aload_n 0, 15, []), (15, .getfield 36, 18, []), (18, .getfield 55, 21, []), (21, .if_icmp .ge (53), 24, [74]), (24, .aload_n 0, 25, []), (25, .getfield 21, 28, []), (28, .iload_n 1, 29, []), (29, .baload, 30, []), (30, .ifCond .eq (36), 33, [66]), (33, .aload_n 0, 34, []), (34, .getfield 17, 37, []), (37, .iload_n 1, 38, []), (38, .baload, 39, []), (39, .ifCond .eq (29), 42, [68]), (42, .aload_n 0, 43, []), (43, .getfield 11, 46, []), (46, .iload_n 1, 47, []), (47, .aaload, 48, []), (48, .getfield 124, 51, []), (51, .ifCond .eq (17), 54, [68]), (54, .aload_n 0, 55, []), (55, .getfield 11, 58, []), (58, .iload_n 1, 59, []), (59, .aaload, 60, []), (60, .invokevirtual 143, 63, []), (63, .ifCond .ne (5), 66, [68]), (66, .iconst 0, 67, []), (67, .ireturn, 68, []), (68, .iinc 1 (1), 71, []), (71, .goto (-58), 74, [13]), (74, .aload_n 0, 75, []), (75, .getfield 36, 78, []), (78, .getfield 55, 81, []), (81, .ifCond .le (7), 84, [88]), (84, .iconst 1, 85, []), (85, .goto (4), 88, [89]), (88, .iconst 0, 89, []), (89, .ireturn, 90, [])]
def cd_fl_isRight : zm_C := [(0, .aload_n 0, 1, []), (1, .getfield 44, 4, []), (4, .ifCond .eq (8), 7, [12]), (7, .aload_n 0, 8, []), (8, .getfield 48, 11, []), (11, .ireturn, 12, []), (12, .aload_n 0, 13, []), (13, .iconst 1, 14, []), (14, .putfield 44, 17, []), (17, .aload_n 0, 18, []), (18, .iconst 0, 19, []), (19, .putfield 48, 22, []), (22, .aload_n 0, 23, []), (23, .invokevirtual 51, 26, []), (26, .iconst 1, 27, []), (27, .istore_n 1, 28, []), (28, .iconst 0, 29, []), (29, .istore_n 2, 30, []), (30, .iload_n 1, 31, []), (31, .ifCond .eq (72), 34, [103]), (34, .iload_n 2, 35, []), (35, .ldc 54, 37, []), (37, .if_icmp .ge (66), 40, [103]), (40, .iconst 0, 41, []), (41, .istore_n 1, 42, []), (42, .iconst 0, 43, []), (43, .istore_n 3, 44, []), (44, .iload_n 3, 45, []), (45, .aload_n 0, 46, []), (46, .getfield 36, 49, []), (49, .getfield 55, 52, []), (52, .if_icmp .ge (45), 55, [97]), (55, .aload_n 0, 56, []), (56, .getfield 24, 59, []), (59, .iload_n 3, 60, []), (60, .baload, 61, []), (61, .ifCond .eq (30), 64, [91]), (64, .aload_n 0, 65, []), (65, .getfield 24, 68, []), (68, .iload_n 3, 69, []), (69, .iconst 0, 70, []), (70, .bastore, 71, []), (71, .iconst 1, 72, []), (72, .istore_n 1, 73, []), (73, .aload_n 0, 74, []), (74, .iload_n 3, 75, []), (75, .invokevirtual 61, 78, []), (78, .ifCond .eq (11), 81, [89]), (81, .aload_n 0, 82, []), (82, .iload_n 3, 83, []), (83, .invokevirtual 65, 86, []), (86, .ifCond .ne (5), 89, [91]), (89, .iconst 0, 90, []), (90, .ireturn, 91, []), (91, .iinc 3 (1), 94, []), (94, .goto (-50), 97, [44]), (97, .iinc 2 (1), 100, []), (100, .goto (-70), 103, [30]), (103, .aload_n 0, 104, []), (104, .aload_n 0, 105, []), (105, .invokevirtual 68, 108, []), (108, .putfield 48, 111, []), (111, .aload_n 0, 112, []), (112, .getfield 48, 115, []), (115, .ireturn, 116, [])]
def cd_tl_empty : zm_C := [(0, .aload_n 0, 1, []), (1, .iconst 0, 2, []), (2, .putfield 15, 5, []), (5, .aload_n 0, 6, []), (6, .iconst 0, 7, []), (7, .putfield 19, 10, []), (10, .return_, 11, [])]
def cd_tl_append : zm_C := [(0, .iload_n 1, 1, []), (1, .invokestatic 22, 4, []), (4, .istore_n 2, 5, []), (5, .aload_n 0, 6, []), (6, .getfield 19, 9, []), (9, .iload_n 2, 10, []), (10, .iadd, 11, []), (11, .bipush (10), 13, []), (13, .if_icmp .le (5), 16, [18]), (16, .iconst 0, 17, []), (17, .ireturn, 18, []), (18, .aload_n 0, 19, []), (19, .getfield 9, 22, []), (22, .aload_n 0, 23, []), (23, .getfield 15, 26, []), (26, .iload_n 1, 27, []), (27, .iastore, 28, []), (28, .aload_n 0, 29, []), (29, .dup, 30, []), (30, .getfield 15, 33, []), (33, .iconst 1, 34, []), (34, .iadd, 35, []), (35, .putfield 15, 38, []), (38, .aload_n 0, 39, []), (39, .dup, 40, []), (40, .getfield 19, 43, []), (43, .iload_n 2, 44, []), (44, .iadd, 45, []), (45, .putfield 19, 48, []), (48, .iconst 1, 49, []), (49, .ireturn, 50, [])]
def cd_tl_drop : zm_C := [(0, .aload_n 0, 1, []), (1, .getfield 15, 4, []), (4, .ifCond .le (34), 7, [38]), (7, .aload_n 0, 8, []), (8, .dup, 9, []), (9, .getfield 15, 12, []), (12, .iconst 1, 13, []), (13, .isub, 14, []), (14, .putfield 15, 17, []), (17, .aload_n 0, 18, []), (18, .dup, 19, []), (19, .getfield 19, 22, []), (22, .aload_n 0, 23, []), (23, .getfield 9, 26, []), (26, .aload_n 0, 27, []), (27, .getfield 15, 30, []), (30, .iaload, 31, []), (31, .invokestatic 22, 34, []), (34, .isub, 35, []), (35, .putfield 19, 38, []), (38, .return_, 39, [])]
def cd_tl_gather : zm_C := [(0, .aload_n 0, 1, []), (1, .invokevirtual 32, 4, []), (4, .iconst 0, 5, []), (5, .istore_n 2, 6, []), (6, .iload_n 2, 7, []), (7, .bipush (10), 9, []), (9, .if_icmp .ge (29), 12, [38]), (12, .aload_n 0, 13, []), (13, .aload_n 1, 14, []), (14, .getfield 35, 17, []), (17, .iload_n 2, 18, []), (18, .iaload, 19, []), (19, .invokevirtual 40, 22, []), (22, .pop, 23, []), (23, .iload_n 2, 24, []), (24, .aload_n 1, 25, []), (25, .getfield 35, 28, []), (28, .iload_n 2, 29, []), (29, .iaload, 30, []), (30, .invokestatic 22, 33, []), (33, .iadd, 34, []), (34, .istore_n 2, 35, []), (35, .goto (-29), 38, [6]), (38, .iconst 0, 39, []), (39, .istore_n 2, 40, []), (40, .iload_n 2, 41, []), (41, .bipush (10), 43, []), (43, .if_icmp .ge (34), 46, [77]), (46, .aload_n 0, 47, []), (47, .getfield 15, 50, []), (50, .ifCond .le (27), 53, [77]), (53, .aload_n 0, 54, []), (54, .getfield 9, 57, []), (57, .aload_n 0, 58, []), (58, .getfield 15, 61, []), (61, .iconst 1, 62, []), (62, .isub, 63, []), (63, .iaload, 64, []), (64, .ifCond .ne (13), 67, [77]), (67, .aload_n 0, 68, []), (68, .invokevirtual 44, 71, []), (71, .iinc 2 (1), 74, []), (74, .goto (-34), 77, [40]), (77, .return_, 78, [])]
def cd_tl_sharedStart : zm_C := [(0, .iconst 0, 1, []), (1, .istore_n 2, 2, []), (2, .iload_n 2, 3, []), (3, .aload_n 0, 4, []), (4, .getfield 15, 7, []), (7, .if_icmp .ge (32), 10, [39]), (10, .iload_n 2, 11, []), (11, .aload_n 1, 12, []), (12, .getfield 15, 15, []), (15, .if_icmp .ge (24), 18, [39]), (18, .aload_n 0, 19, []), (19, .getfield 9, 22, []), (22, .iload_n 2, 23, []), (23, .iaload, 24, []), (24, .aload_n 1, 25, []), (25, .getfield 9, 28, []), (28, .iload_n 2, 29, []), (29, .iaload, 30, []), (30, .if_icmp .ne (9), 33, [39]), (33, .iinc 2 (1), 36, []), (36, .goto (-34), 39, [2]), (39, .iload_n 2, 40, []), (40, .ireturn, 41, [])]
def cd_by_put : zm_C := [(0, .aload_n 0, 1, []), (1, .getfield 15, 4, []), (4, .sipush (400), 7, []), (7, .if_icmp .ge (13), 10, [20]), (10, .aload_n 0, 11, []), (11, .getfield 9, 14, []), (14, .aload_n 0, 15, []), (15, .getfield 15, 18, []), (18, .iload_n 1, 19, []), (19, .iastore, 20, []), (20, .aload_n 0, 21, []), (21, .dup, 22, []), (22, .getfield 15, 25, []), (25, .iconst 1, 26, []), (26, .iadd, 27, []), (27, .putfield 15, 30, []), (30, .return_, 31, [])]
def cd_by_putTwo : zm_C := [(0, .aload_n 0, 1, []), (1, .iload_n 1, 2, []), (2, .bipush (8), 4, []), (4, .ishr, 5, []), (5, .sipush (255), 8, []), (8, .iand, 9, []), (9, .invokevirtual 19, 12, []), (12, .aload_n 0, 13, []), (13, .iload_n 1, 14, []), (14, .sipush (255), 17, []), (17, .iand, 18, []), (18, .invokevirtual 19, 21, []), (21, .return_, 22, [])]
def cd_wr_writeHead : zm_C := [(0, .iload_n 3, 1, []), (1, .bipush (64), 3, []), (3, .if_icmp .ge (16), 6, [19]), (6, .aload_n 0, 7, []), (7, .getfield 31, 10, []), (10, .iload_n 1, 11, []), (11, .iload_n 3, 12, []), (12, .iadd, 13, []), (13, .invokevirtual 108, 16, []), (16, .goto (19), 19, [35]), (19, .aload_n 0, 20, []), (20, .getfield 31, 23, []), (23, .iload_n 2, 24, []), (24, .invokevirtual 108, 27, []), (27, .aload_n 0, 28, []), (28, .getfield 31, 31, []), (31, .iload_n 3, 32, []), (32, .invokevirtual 111, 35, []), (35, .return_, 36, [])]
def cd_by_putType : zm_C := [(0, .iload_n 1, 1, []), (1, .invokestatic 23, 4, []), (4, .istore_n 2, 5, []), (5, .aload_n 0, 6, []), (6, .iload_n 2, 7, []), (7, .invokevirtual 19, 10, []), (10, .iload_n 2, 11, []), (11, .bipush (7), 13, []), (13, .if_icmp .eq (9), 16, [22]), (16, .iload_n 2, 17, []), (17, .bipush (8), 19, []), (19, .if_icmp .ne (11), 22, [30]), (22, .aload_n 0, 23, []), (23, .iload_n 1, 24, []), (24, .invokestatic 27, 27, []), (27, .invokevirtual 30, 30, []), (30, .return_, 31, [])]
def cd_wr_writeTypes : zm_C := [(0, .iload_n 2, 1, []), (1, .istore 4, 3, []), (3, .iload 4, 5, []), (5, .iload_n 3, 6, []), (6, .if_icmp .ge (20), 9, [26]), (9, .aload_n 0, 10, []), (10, .getfield 31, 13, []), (13, .aload_n 1, 14, []), (14, .iload 4, 16, []), (16, .iaload, 17, []), (17, .invokevirtual 104, 20, []), (20, .iinc 4 (1), 23, []), (23, .goto (-20), 26, [3]), (26, .return_, 27, [])]
def cd_wr_writeWhole : zm_C := [(0, .aload_n 0, 1, []), (1, .getfield 31, 4, []), (4, .sipush (255), 7, []), (7, .invokevirtual 108, 10, []), (10, .aload_n 0, 11, []), (11, .getfield 31, 14, []), (14, .iload_n 2, 15, []), (15, .invokevirtual 111, 18, []), (18, .aload_n 0, 19, []), (19, .getfield 31, 22, []), (22, .aload_n 0, 23, []), (23, .getfield 25, 26, []), (26, .getfield 83, 29, []), (29, .invokevirtual 111, 32, []), (32, .aload_n 0, 33, []), (33, .aload_n 0, 34, []), (34, .getfield 25, 37, []), (37, .getfield 114, 40, []), (40, .iconst 0, 41, []), (41, .aload_n 0, 42, []), (42, .getfield 25, 45, []), (45, .getfield 83, 48, []), (48, .invokevirtual 117, 51, []), (51, .aload_n 0, 52, []), (52, .getfield 31, 55, []), (55, .aload_n 1, 56, []), (56, .getfield 94, 59, []), (59, .invokevirtual 111, 62, []), (62, .aload_n 0, 63, []), (63, .aload_n 1, 64, []), (64, .getfield 101, 67, []), (67, .iconst 0, 68, []), (68, .aload_n 1, 69, []), (69, .getfield 94, 72, []), (72, .invokevirtual 117, 75, []), (75, .return_, 76, [])]
def cd_wr_writeRow : zm_C := [(0, .aload_n 0, 1, []), (1, .getfield 25, 4, []), (4, .aload_n 0, 5, []), (5, .getfield 21, 8, []), (8, .invokevirtual 79, 11, []), (11, .istore_n 3, 12, []), (12, .aload_n 0, 13, []), (13, .getfield 25, 16, []), (16, .getfield 83, 19, []), (19, .aload_n 0, 20, []), (20, .getfield 21, 23, []), (23, .getfield 83, 26, []), (26, .isub, 27, []), (27, .istore 4, 29, []), (29, .iload 4, 31, []), (31, .ifCond .ne (18), 34, [49]), (34, .iload_n 3, 35, []), (35, .aload_n 0, 36, []), (36, .getfield 25, 39, []), (39, .getfield 83, 42, []), (42, .if_icmp .ne (7), 45, [49]), (45, .iconst 1, 46, []), (46, .goto (4), 49, [50]), (49, .iconst 0, 50, []), (50, .istore 5, 52, []), (52, .iload 4, 54, []), (54, .invokestatic 84, 57, []), (57, .iconst 3, 58, []), (58, .if_icmp .gt (28), 61, [86]), (61, .iload_n 3, 62, []), (62, .aload_n 0, 63, []), (63, .getfield 25, 66, []), (66, .getfield 83, 69, []), (69, .aload_n 0, 70, []), (70, .getfield 21, 73, []), (73, .getfield 83, 76, []), (76, .invokestatic 90, 79, []), (79, .if_icmp .ne (7), 82, [86]), (82, .iconst 1, 83, []), (83, .goto (4), 86, [87]), (86, .iconst 0, 87, []), (87, .istore 6, 89, []), (89, .iload 5, 91, []), (91, .ifCond .eq (22), 94, [113]), (94, .aload_n 1, 95, []), (95, .getfield 94, 98, []), (98, .ifCond .ne (15), 101, [113]), (101, .aload_n 0, 102, []), (102, .iconst 0, 103, []), (103, .sipush (251), 106, []), (106, .iload_n 2, 107, []), (107, .invokevirtual 97, 110, []), (110, .goto (109), 113, [219]), (113, .iload 5, 115, []), (115, .ifCond .eq (37), 118, [152]), (118, .aload_n 1, 119, []), (119, .getfield 94, 122, []), (122, .iconst 1, 123, []), (123, .if_icmp .ne (29), 126, [152]), (126, .aload_n 0, 127, []), (127, .bipush (64), 129, []), (129, .sipush (247), 132, []), (132, .iload_n 2, 133, []), (133, .invokevirtual 97, 136, []), (136, .aload_n 0, 137, []), (137, .getfield 31, 140, []), (140, .aload_n 1, 141, []), (141, .getfield 101, 144, []), (144, .iconst 0, 145, []), (145, .iaload, 146, []), (146, .invokevirtual 104, 149, []), (149, .goto (70), 152, [219]), (152, .iload 6, 154, []), (154, .ifCond .eq (59), 157, [213]), (157, .aload_n 1, 158, []), (158, .getfield 94, 161, []), (161, .ifCond .ne (52), 164, [213]), (164, .aload_n 0, 165, []), (165, .getfield 31, 168, []), (168, .sipush (251), 171, []), (171, .iload 4, 173, []), (173, .iadd, 174, []), (174, .invokevirtual 108, 177, []), (177, .aload_n 0, 178, []), (178, .getfield 31, 181, []), (181, .iload_n 2, 182, []), (182, .invokevirtual 111, 185, []), (185, .aload_n 0, 186, []), (186, .aload_n 0, 187, []), (187, .getfield 25, 190, []), (190, .getfield 114, 193, []), (193, .aload_n 0, 194, []), (194, .getfield 21, 197, []), (197, .getfield 83, 200, []), (200, .aload_n 0, 201, []), (201, .getfield 25, 204, []), (204, .getfield 83, 207, []), (207, .invokevirtual 117, 210, []), (210, .goto (9), 213, [219]), (213, .aload_n 0, 214, []), (214, .aload_n 1, 215, []), (215, .iload_n 2, 216, []), (216, .invokevirtual 121, 219, []), (219, .return_, 220, [])]
def cd_tl_takeOver : zm_C := [(0, .aload_n 1, 1, []), (1, .getfield 9, 4, []), (4, .iconst 0, 5, []), (5, .aload_n 0, 6, []), (6, .getfield 9, 9, []), (9, .iconst 0, 10, []), (10, .aload_n 1, 11, []), (11, .getfield 15, 14, []), (14, .invokestatic 26, 17, []), (17, .aload_n 0, 18, []), (18, .aload_n 1, 19, []), (19, .getfield 15, 22, []), (22, .putfield 15, 25, []), (25, .aload_n 0, 26, []), (26, .aload_n 1, 27, []), (27, .getfield 19, 30, []), (30, .putfield 19, 33, []), (33, .return_, 34, [])]
def cd_wr_writeRows : zm_C := [(0, .aload_n 0, 1, []), (1, .getfield 35, 4, []), (4, .aload_n 0, 5, []), (5, .getfield 12, 8, []), (8, .invokevirtual 43, 11, []), (11, .aload_n 0, 12, []), (12, .getfield 21, 15, []), (15, .aload_n 0, 16, []), (16, .getfield 12, 19, []), (19, .invokevirtual 49, 22, []), (22, .aload_n 0, 23, []), (23, .getfield 31, 26, []), (26, .iconst 0, 27, []), (27, .putfield 52, 30, []), (30, .iconst 0, 31, []), (31, .istore_n 1, 32, []), (32, .iconst (-1), 33, []), (33, .istore_n 2, 34, []), (34, .iconst 0, 35, []), (35, .istore_n 3, 36, []), (36, .iload_n 3, 37, []), (37, .aload_n 0, 38, []), (38, .getfield 35, 41, []), (41, .getfield 56, 44, []), (44, .if_icmp .ge (87), 47, [131]), (47, .aload_n 0, 48, []), (48, .getfield 39, 51, []), (51, .getfield 57, 54, []), (54, .iload_n 3, 55, []), (55, .baload, 56, []), (56, .ifCond .eq (69), 59, [125]), (59, .aload_n 0, 60, []), (60, .getfield 25, 63, []), (63, .aload_n 0, 64, []), (64, .getfield 39, 67, []), (67, .getfield 63, 70, []), (70, .iload_n 3, 71, []), (71, .aaload, 72, []), (72, .invokevirtual 49, 75, []), (75, .aload_n 0, 76, []), (76, .aload_n 0, 77, []), (77, .getfield 39, 80, []), (80, .getfield 63, 83, []), (83, .iload_n 3, 84, []), (84, .aaload, 85, []), (85, .aload_n 0, 86, []), (86, .getfield 35, 89, []), (89, .getfield 67, 92, []), (92, .iload_n 3, 93, []), (93, .iaload, 94, []), (94, .iload_n 2, 95, []), (95, .isub, 96, []), (96, .iconst 1, 97, []), (97, .isub, 98, []), (98, .invokevirtual 71, 101, []), (101, .aload_n 0, 102, []), (102, .getfield 21, 105, []), (105, .aload_n 0, 106, []), (106, .getfield 25, 109, []), (109, .invokevirtual 75, 112, []), (112, .aload_n 0, 113, []), (113, .getfield 35, 116, []), (116, .getfield 67, 119, []), (119, .iload_n 3, 120, []), (120, .iaload, 121, []), (121, .istore_n 2, 122, []), (122, .iinc 1 (1), 125, []), (125, .iinc 3 (1), 128, []), (128, .goto (-92), 131, [36]), (131, .iload_n 1, 132, []), (132, .ireturn, 133, [])]
def cd_by_takeOver : zm_C := [(0, .aload_n 0, 1, []), (1, .aload_n 1, 2, []), (2, .getfield 15, 5, []), (5, .sipush (400), 8, []), (8, .invokestatic 33, 11, []), (11, .putfield 15, 14, []), (14, .aload_n 1, 15, []), (15, .getfield 9, 18, []), (18, .iconst 0, 19, []), (19, .aload_n 0, 20, []), (20, .getfield 9, 23, []), (23, .iconst 0, 24, []), (24, .aload_n 0, 25, []), (25, .getfield 15, 28, []), (28, .invokestatic 39, 31, []), (31, .return_, 32, [])]
def cd_mf_make : zm_C := [(0, .aload_n 0, 1, []), (1, .getfield 40, 4, []), (4, .invokevirtual 120, 7, []), (7, .ifCond .ne (6), 10, [13]), (10, .bipush (-4), 12, []), (12, .ireturn, 13, []), (13, .aload_n 0, 14, []), (14, .getfield 49, 17, []), (17, .invokevirtual 124, 20, []), (20, .istore_n 1, 21, []), (21, .aload_n 0, 22, []), (22, .getfield 49, 25, []), (25, .getfield 128, 28, []), (28, .getfield 131, 31, []), (31, .sipush (400), 34, []), (34, .if_icmp .le (6), 37, [40]), (37, .bipush (-3), 39, []), (39, .ireturn, 40, []), (40, .aload_n 0, 41, []), (41, .getfield 26, 44, []), (44, .aload_n 0, 45, []), (45, .getfield 49, 48, []), (48, .getfield 128, 51, []), (51, .invokevirtual 132, 54, []), (54, .aload_n 0, 55, []), (55, .getfield 58, 58, []), (58, .iconst 0, 59, []), (59, .putfield 136, 62, []), (62, .iload_n 1, 63, []), (63, .ireturn, 64, [])]
def cd_mf_isQuestion : zm_C := [(0, .iload_n 0, 1, []), (1, .ifCond .lt (9), 4, [10]), (4, .iload_n 0, 5, []), (5, .bipush (18), 7, []), (7, .if_icmp .lt (14), 10, [21]), (10, .iload_n 0, 11, []), (11, .bipush (20), 13, []), (13, .if_icmp .lt (12), 16, [25]), (16, .iload_n 0, 17, []), (17, .iload_n 1, 18, []), (18, .if_icmp .gt (7), 21, [25]), (21, .iconst 1, 22, []), (22, .goto (4), 25, [26]), (25, .iconst 0, 26, []), (26, .ireturn, 27, [])]
def cd_fr_tell : zm_C := [(0, .iload_n 1, 1, []), (1, .bipush (10), 3, []), (3, .if_icmp .ge (10), 6, [13]), (6, .aload_n 0, 7, []), (7, .getfield 9, 10, []), (10, .iload_n 1, 11, []), (11, .iaload, 12, []), (12, .ireturn, 13, []), (13, .iload_n 1, 14, []), (14, .bipush (18), 16, []), (16, .if_icmp .ge (29), 19, [45]), (19, .iload_n 1, 20, []), (20, .bipush (10), 22, []), (22, .isub, 23, []), (23, .aload_n 0, 24, []), (24, .getfield 24, 27, []), (27, .if_icmp .ge (15), 30, [42]), (30, .aload_n 0, 31, []), (31, .getfield 15, 34, []), (34, .iload_n 1, 35, []), (35, .bipush (10), 37, []), (37, .isub, 38, []), (38, .iaload, 39, []), (39, .goto (5), 42, [44]), (42, .bipush (-2), 44, []), (44, .ireturn, 45, []), (45, .iload_n 1, 46, []), (46, .bipush (20), 48, []), (48, .if_icmp .ne (8), 51, [56]), (51, .aload_n 0, 52, []), (52, .getfield 24, 55, []), (55, .ireturn, 56, []), (56, .aload_n 0, 57, []), (57, .getfield 31, 60, []), (60, .ifCond .eq (7), 63, [67]), (63, .iconst 1, 64, []), (64, .goto (4), 67, [68]), (67, .iconst 0, 68, []), (68, .ireturn, 69, [])]
def cd_mf_flow : zm_C := [(0, .iload_n 2, 1, []), (1, .bipush (21), 3, []), (3, .invokestatic 140, 6, []), (6, .ifCond .ne (5), 9, [11]), (9, .iconst (-1), 10, []), (10, .ireturn, 11, []), (11, .iload_n 1, 12, []), (12, .ifCond .lt (24), 15, [36]), (15, .iload_n 1, 16, []), (16, .aload_n 0, 17, []), (17, .getfield 19, 20, []), (20, .getfield 104, 23, []), (23, .if_icmp .ge (13), 26, [36]), (26, .aload_n 0, 27, []), (27, .getfield 40, 30, []), (30, .invokevirtual 120, 33, []), (33, .ifCond .ne (6), 36, [39]), (36, .bipush (-2), 38, []), (38, .ireturn, 39, []), (39, .aload_n 0, 40, []), (40, .getfield 40, 43, []), (43, .getfield 144, 46, []), (46, .iload_n 1, 47, []), (47, .aaload, 48, []), (48, .iload_n 2, 49, []), (49, .invokevirtual 148, 52, []), (52, .ireturn, 53, [])]
def cd_re_begin : zm_C := [(0, .aload_n 0, 1, []), (1, .getfield 39, 4, []), (4, .aload_n 0, 5, []), (5, .getfield 12, 8, []), (8, .invokevirtual 79, 11, []), (11, .aload_n 0, 12, []), (12, .getfield 21, 15, []), (15, .aload_n 0, 16, []), (16, .getfield 12, 19, []), (19, .invokevirtual 83, 22, []), (22, .aload_n 0, 23, []), (23, .getfield 36, 26, []), (26, .bipush (-2), 28, []), (28, .invokestatic 86, 31, []), (31, .aload_n 0, 32, []), (32, .iconst 0, 33, []), (33, .putfield 57, 36, []), (36, .aload_n 0, 37, []), (37, .iconst 0, 38, []), (38, .putfield 61, 41, []), (41, .return_, 42, [])]
def cd_re_readByte : zm_C := [(0, .aload_n 0, 1, []), (1, .getfield 61, 4, []), (4, .aload_n 0, 5, []), (5, .getfield 43, 8, []), (8, .getfield 64, 11, []), (11, .if_icmp .lt (5), 14, [16]), (14, .iconst (-1), 15, []), (15, .ireturn, 16, []), (16, .aload_n 0, 17, []), (17, .dup, 18, []), (18, .getfield 61, 21, []), (21, .iconst 1, 22, []), (22, .iadd, 23, []), (23, .putfield 61, 26, []), (26, .aload_n 0, 27, []), (27, .getfield 43, 30, []), (30, .getfield 150, 33, []), (33, .aload_n 0, 34, []), (34, .getfield 61, 37, []), (37, .iconst 1, 38, []), (38, .isub, 39, []), (39, .iaload, 40, []), (40, .ireturn, 41, [])]
def cd_re_readTwo : zm_C := [(0, .aload_n 0, 1, []), (1, .invokevirtual 92, 4, []), (4, .istore_n 1, 5, []), (5, .aload_n 0, 6, []), (6, .invokevirtual 92, 9, []), (9, .istore_n 2, 10, []), (10, .iload_n 1, 11, []), (11, .ifCond .lt (7), 14, [18]), (14, .iload_n 2, 15, []), (15, .ifCond .ge (7), 18, [22]), (18, .iconst (-1), 19, []), (19, .goto (9), 22, [28]), (22, .iload_n 1, 23, []), (23, .bipush (8), 25, []), (25, .ishl, 26, []), (26, .iload_n 2, 27, []), (27, .ior, 28, []), (28, .ireturn, 29, [])]
def cd_re_readType : zm_C := [(0, .aload_n 0, 1, []), (1, .invokevirtual 92, 4, []), (4, .istore_n 1, 5, []), (5, .iload_n 1, 6, []), (6, .ifCond .lt (9), 9, [15]), (9, .iload_n 1, 10, []), (10, .bipush (8), 12, []), (12, .if_icmp .le (5), 15, [17]), (15, .iconst (-1), 16, []), (16, .ireturn, 17, []), (17, .iload_n 1, 18, []), (18, .bipush (7), 20, []), (20, .if_icmp .ge (5), 23, [25]), (23, .iload_n 1, 24, []), (24, .ireturn, 25, []), (25, .aload_n 0, 26, []), (26, .invokevirtual 103, 29, []), (29, .istore_n 2, 30, []), (30, .iload_n 2, 31, []), (31, .ifCond .lt (16), 34, [47]), (34, .iload_n 1, 35, []), (35, .bipush (7), 37, []), (37, .if_icmp .ne (12), 40, [49]), (40, .iload_n 2, 41, []), (41, .invokestatic 143, 44, []), (44, .ifCond .ne (5), 47, [49]), (47, .iconst (-1), 48, []), (48, .ireturn, 49, []), (49, .iload_n 1, 50, []), (50, .iload_n 2, 51, []), (51, .invokestatic 146, 54, []), (54, .ireturn, 55, [])]
def cd_re_readStack : zm_C := [(0, .iconst 0, 1, []), (1, .istore_n 3, 2, []), (2, .iload_n 3, 3, []), (3, .iload_n 2, 4, []), (4, .if_icmp .ge (32), 7, [36]), (7, .aload_n 0, 8, []), (8, .invokevirtual 134, 11, []), (11, .istore 4, 13, []), (13, .iload 4, 15, []), (15, .iconst (-1), 16, []), (16, .if_icmp .eq (12), 19, [28]), (19, .aload_n 1, 20, []), (20, .iload 4, 22, []), (22, .invokevirtual 140, 25, []), (25, .ifCond .ne (5), 28, [30]), (28, .iconst 0, 29, []), (29, .ireturn, 30, []), (30, .iinc 3 (1), 33, []), (33, .goto (-31), 36, [2]), (36, .iload_n 2, 37, []), (37, .ifCond .lt (7), 40, [44]), (40, .iconst 1, 41, []), (41, .goto (4), 44, [45]), (44, .iconst 0, 45, []), (45, .ireturn, 46, [])]
def cd_re_readList : zm_C := [(0, .iconst 0, 1, []), (1, .istore_n 2, 2, []), (2, .iload_n 2, 3, []), (3, .iload_n 1, 4, []), (4, .if_icmp .ge (32), 7, [36]), (7, .aload_n 0, 8, []), (8, .invokevirtual 134, 11, []), (11, .istore_n 3, 12, []), (12, .iload_n 3, 13, []), (13, .iconst (-1), 14, []), (14, .if_icmp .eq (14), 17, [28]), (17, .aload_n 0, 18, []), (18, .getfield 21, 21, []), (21, .iload_n 3, 22, []), (22, .invokevirtual 137, 25, []), (25, .ifCond .ne (5), 28, [30]), (28, .iconst 0, 29, []), (29, .ireturn, 30, []), (30, .iinc 2 (1), 33, []), (33, .goto (-31), 36, [2]), (36, .iload_n 1, 37, []), (37, .ifCond .lt (7), 40, [44]), (40, .iconst 1, 41, []), (41, .goto (4), 44, [45]), (44, .iconst 0, 45, []), (45, .ireturn, 46, [])]
def cd_re_shorten : zm_C := [(0, .iload_n 1, 1, []), (1, .aload_n 0, 2, []), (2, .getfield 21, 5, []), (5, .getfield 130, 8, []), (8, .if_icmp .le (5), 11, [13]), (11, .iconst 0, 12, []), (12, .ireturn, 13, []), (13, .iconst 0, 14, []), (14, .istore_n 2, 15, []), (15, .iload_n 2, 16, []), (16, .iload_n 1, 17, []), (17, .if_icmp .ge (16), 20, [33]), (20, .aload_n 0, 21, []), (21, .getfield 21, 24, []), (24, .invokevirtual 131, 27, []), (27, .iinc 2 (1), 30, []), (30, .goto (-15), 33, [15]), (33, .iconst 1, 34, []), (34, .ireturn, 35, [])]
def cd_re_readRest : zm_C := [(0, .iload_n 1, 1, []), (1, .sipush (247), 4, []), (4, .if_icmp .ne (10), 7, [14]), (7, .aload_n 0, 8, []), (8, .aload_n 2, 9, []), (9, .iconst 1, 10, []), (10, .invokevirtual 99, 13, []), (13, .ireturn, 14, []), (14, .iload_n 1, 15, []), (15, .sipush (255), 18, []), (18, .if_icmp .ne (39), 21, [57]), (21, .aload_n 0, 22, []), (22, .getfield 21, 25, []), (25, .invokevirtual 120, 28, []), (28, .aload_n 0, 29, []), (29, .aload_n 0, 30, []), (30, .invokevirtual 103, 33, []), (33, .invokevirtual 123, 36, []), (36, .ifCond .eq (19), 39, [55]), (39, .aload_n 0, 40, []), (40, .aload_n 2, 41, []), (41, .aload_n 0, 42, []), (42, .invokevirtual 103, 45, []), (45, .invokevirtual 99, 48, []), (48, .ifCond .eq (7), 51, [55]), (51, .iconst 1, 52, []), (52, .goto (4), 55, [56]), (55, .iconst 0, 56, []), (56, .ireturn, 57, []), (57, .iload_n 1, 58, []), (58, .sipush (251), 61, []), (61, .if_icmp .ge (15), 64, [76]), (64, .aload_n 0, 65, []), (65, .sipush (251), 68, []), (68, .iload_n 1, 69, []), (69, .isub, 70, []), (70, .invokevirtual 127, 73, []), (73, .goto (12), 76, [85]), (76, .aload_n 0, 77, []), (77, .iload_n 1, 78, []), (78, .sipush (251), 81, []), (81, .isub, 82, []), (82, .invokevirtual 123, 85, []), (85, .ireturn, 86, [])]
def cd_tl_spread : zm_C := [(0, .aload_n 1, 1, []), (1, .getfield 35, 4, []), (4, .iconst 0, 5, []), (5, .invokestatic 47, 8, []), (8, .iconst 0, 9, []), (9, .istore_n 2, 10, []), (10, .iconst 0, 11, []), (11, .istore_n 3, 12, []), (12, .iload_n 3, 13, []), (13, .aload_n 0, 14, []), (14, .getfield 15, 17, []), (17, .if_icmp .ge (33), 20, [50]), (20, .aload_n 1, 21, []), (21, .getfield 35, 24, []), (24, .iload_n 2, 25, []), (25, .aload_n 0, 26, []), (26, .getfield 9, 29, []), (29, .iload_n 3, 30, []), (30, .iaload, 31, []), (31, .iastore, 32, []), (32, .iload_n 2, 33, []), (33, .aload_n 0, 34, []), (34, .getfield 9, 37, []), (37, .iload_n 3, 38, []), (38, .iaload, 39, []), (39, .invokestatic 22, 42, []), (42, .iadd, 43, []), (43, .istore_n 2, 44, []), (44, .iinc 3 (1), 47, []), (47, .goto (-35), 50, [12]), (50, .return_, 51, [])]
def cd_re_readRow : zm_C := [(0, .aload_n 0, 1, []), (1, .invokevirtual 92, 4, []), (4, .istore_n 2, 5, []), (5, .aload_n 0, 6, []), (6, .getfield 33, 9, []), (9, .aload_n 0, 10, []), (10, .getfield 57, 13, []), (13, .iload_n 2, 14, []), (14, .iastore, 15, []), (15, .aload_n 1, 16, []), (16, .invokevirtual 96, 19, []), (19, .iload_n 2, 20, []), (20, .sipush (128), 23, []), (23, .if_icmp .ge (29), 26, [52]), (26, .aload_n 0, 27, []), (27, .getfield 29, 30, []), (30, .aload_n 0, 31, []), (31, .getfield 57, 34, []), (34, .iload_n 2, 35, []), (35, .bipush (64), 37, []), (37, .irem, 38, []), (38, .iastore, 39, []), (39, .aload_n 0, 40, []), (40, .aload_n 1, 41, []), (41, .iload_n 2, 42, []), (42, .bipush (64), 44, []), (44, .idiv, 45, []), (45, .invokevirtual 99, 48, []), (48, .istore_n 3, 49, []), (49, .goto (55), 52, [104]), (52, .iload_n 2, 53, []), (53, .sipush (247), 56, []), (56, .if_icmp .ge (8), 59, [64]), (59, .iconst 0, 60, []), (60, .istore_n 3, 61, []), (61, .goto (43), 64, [104]), (64, .aload_n 0, 65, []), (65, .getfield 29, 68, []), (68, .aload_n 0, 69, []), (69, .getfield 57, 72, []), (72, .aload_n 0, 73, []), (73, .invokevirtual 103, 76, []), (76, .iastore, 77, []), (77, .aload_n 0, 78, []), (78, .getfield 29, 81, []), (81, .aload_n 0, 82, []), (82, .getfield 57, 85, []), (85, .iaload, 86, []), (86, .ifCond .lt (16), 89, [102]), (89, .aload_n 0, 90, []), (90, .iload_n 2, 91, []), (91, .aload_n 1, 92, []), (92, .invokevirtual 106, 95, []), (95, .ifCond .eq (7), 98, [102]), (98, .iconst 1, 99, []), (99, .goto (4), 102, [103]), (102, .iconst 0, 103, []), (103, .istore_n 3, 104, []), (104, .aload_n 0, 105, []), (105, .getfield 21, 108, []), (108, .aload_n 1, 109, []), (109, .invokevirtual 110, 112, []), (112, .aload_n 1, 113, []), (113, .aload_n 1, 114, []), (114, .invokevirtual 113, 117, []), (117, .putfield 117, 120, []), (120, .iload_n 3, 121, []), (121, .ireturn, 122, [])]
def cd_re_isSound : zm_C := [(0, .aload_n 0, 1, []), (1, .getfield 47, 4, []), (4, .ifCond .eq (8), 7, [12]), (7, .aload_n 0, 8, []), (8, .getfield 51, 11, []), (11, .ireturn, 12, []), (12, .aload_n 0, 13, []), (13, .iconst 1, 14, []), (14, .putfield 47, 17, []), (17, .aload_n 0, 18, []), (18, .iconst 0, 19, []), (19, .putfield 51, 22, []), (22, .aload_n 0, 23, []), (23, .invokevirtual 54, 26, []), (26, .iconst (-1), 27, []), (27, .istore_n 1, 28, []), (28, .aload_n 0, 29, []), (29, .getfield 57, 32, []), (32, .bipush (50), 34, []), (34, .if_icmp .ge (99), 37, [133]), (37, .aload_n 0, 38, []), (38, .getfield 61, 41, []), (41, .aload_n 0, 42, []), (42, .getfield 43, 45, []), (45, .getfield 64, 48, []), (48, .if_icmp .ge (85), 51, [133]), (51, .aload_n 0, 52, []), (52, .aload_n 0, 53, []), (53, .getfield 25, 56, []), (56, .aload_n 0, 57, []), (57, .getfield 57, 60, []), (60, .aaload, 61, []), (61, .invokevirtual 69, 64, []), (64, .ifCond .ne (5), 67, [69]), (67, .iconst 0, 68, []), (68, .ireturn, 69, []), (69, .iload_n 1, 70, []), (70, .aload_n 0, 71, []), (71, .getfield 29, 74, []), (74, .aload_n 0, 75, []), (75, .getfield 57, 78, []), (78, .iaload, 79, []), (79, .iconst 1, 80, []), (80, .iadd, 81, []), (81, .iadd, 82, []), (82, .istore_n 1, 83, []), (83, .aload_n 0, 84, []), (84, .getfield 39, 87, []), (87, .iload_n 1, 88, []), (88, .invokevirtual 73, 91, []), (91, .istore_n 2, 92, []), (92, .iload_n 2, 93, []), (93, .bipush (-2), 95, []), (95, .if_icmp .ne (5), 98, [100]), (98, .iconst 0, 99, []), (99, .ireturn, 100, []), (100, .aload_n 0, 101, []), (101, .getfield 29, 104, []), (104, .aload_n 0, 105, []), (105, .getfield 57, 108, []), (108, .iload_n 1, 109, []), (109, .iastore, 110, []), (110, .aload_n 0, 111, []), (111, .getfield 36, 114, []), (114, .iload_n 2, 115, []), (115, .aload_n 0, 116, []), (116, .getfield 57, 119, []), (119, .iastore, 120, []), (120, .aload_n 0, 121, []), (121, .dup, 122, []), (122, .getfield 57, 125, []), (125, .iconst 1, 126, []), (126, .iadd, 127, []), (127, .putfield 57, 130, []), (130, .goto (-102), 133, [28]), (133, .aload_n 0, 134, []), (134, .aload_n 0, 135, []), (135, .getfield 61, 138, []), (138, .aload_n 0, 139, []), (139, .getfield 43, 142, []), (142, .getfield 64, 145, []), (145, .if_icmp .ne (7), 148, [152]), (148, .iconst 1, 149, []), (149, .goto (4), 152, [153]), (152, .iconst 0, 153, []), (153, .putfield 51, 156, []), (156, .aload_n 0, 157, []), (157, .getfield 51, 160, []), (160, .ireturn, 161, [])]
def cd_fa_fits : zm_C := [(0, .aload_n 1, 1, []), (1, .getfield 37, 4, []), (4, .aload_n 2, 5, []), (5, .getfield 37, 8, []), (8, .if_icmp .ne (14), 11, [22]), (11, .aload_n 1, 12, []), (12, .getfield 43, 15, []), (15, .aload_n 2, 16, []), (16, .getfield 43, 19, []), (19, .if_icmp .eq (5), 22, [24]), (22, .iconst 0, 23, []), (23, .ireturn, 24, []), (24, .iconst 0, 25, []), (25, .istore_n 3, 26, []), (26, .iload_n 3, 27, []), (27, .bipush (10), 29, []), (29, .if_icmp .ge (30), 32, [59]), (32, .aload_n 0, 33, []), (33, .aload_n 1, 34, []), (34, .getfield 47, 37, []), (37, .iload_n 3, 38, []), (38, .iaload, 39, []), (39, .aload_n 2, 40, []), (40, .getfield 47, 43, []), (43, .iload_n 3, 44, []), (44, .iaload, 45, []), (45, .invokevirtual 50, 48, []), (48, .ifCond .ne (5), 51, [53]), (51, .iconst 0, 52, []), (52, .ireturn, 53, []), (53, .iinc 3 (1), 56, []), (56, .goto (-30), 59, [26]), (59, .iconst 0, 60, []), (60, .istore_n 3, 61, []), (61, .iload_n 3, 62, []), (62, .aload_n 1, 63, []), (63, .getfield 43, 66, []), (66, .if_icmp .ge (30), 69, [96]), (69, .aload_n 0, 70, []), (70, .aload_n 1, 71, []), (71, .getfield 54, 74, []), (74, .iload_n 3, 75, []), (75, .iaload, 76, []), (76, .aload_n 2, 77, []), (77, .getfield 54, 80, []), (80, .iload_n 3, 81, []), (81, .iaload, 82, []), (82, .invokevirtual 50, 85, []), (85, .ifCond .ne (5), 88, [90]), (88, .iconst 0, 89, []), (89, .ireturn, 90, []), (90, .iinc 3 (1), 93, []), (93, .goto (-32), 96, [61]), (96, .iconst 1, 97, []), (97, .ireturn, 98, [])]
def cd_ck_begins : zm_C := [(0, .aload_n 0, 1, []), (1, .getfield 33, 4, []), (4, .getfield 71, 7, []), (7, .iload_n 1, 8, []), (8, .iaload, 9, []), (9, .istore_n 3, 10, []), (10, .iload_n 3, 11, []), (11, .bipush (-2), 13, []), (13, .if_icmp .ne (5), 16, [18]), (16, .iload_n 2, 17, []), (17, .ireturn, 18, []), (18, .iload_n 2, 19, []), (19, .ifCond .eq (28), 22, [47]), (22, .aload_n 0, 23, []), (23, .getfield 21, 26, []), (26, .aload_n 0, 27, []), (27, .getfield 12, 30, []), (30, .aload_n 0, 31, []), (31, .getfield 33, 34, []), (34, .getfield 76, 37, []), (37, .iload_n 3, 38, []), (38, .aaload, 39, []), (39, .invokevirtual 80, 42, []), (42, .ifCond .ne (5), 45, [47]), (45, .iconst 0, 46, []), (46, .ireturn, 47, []), (47, .aload_n 0, 48, []), (48, .getfield 12, 51, []), (51, .aload_n 0, 52, []), (52, .getfield 33, 55, []), (55, .getfield 76, 58, []), (58, .iload_n 3, 59, []), (59, .aaload, 60, []), (60, .invokevirtual 86, 63, []), (63, .iconst 1, 64, []), (64, .ireturn, 65, [])]
def cd_ck_fitsAt : zm_C := [(0, .aload_n 0, 1, []), (1, .getfield 33, 4, []), (4, .getfield 71, 7, []), (7, .iload_n 1, 8, []), (8, .iaload, 9, []), (9, .istore_n 3, 10, []), (10, .iload_n 3, 11, []), (11, .bipush (-2), 13, []), (13, .if_icmp .eq (27), 16, [40]), (16, .aload_n 0, 17, []), (17, .getfield 21, 20, []), (20, .aload_n 2, 21, []), (21, .aload_n 0, 22, []), (22, .getfield 33, 25, []), (25, .getfield 76, 28, []), (28, .iload_n 3, 29, []), (29, .aaload, 30, []), (30, .invokevirtual 80, 33, []), (33, .ifCond .eq (7), 36, [40]), (36, .iconst 1, 37, []), (37, .goto (4), 40, [41]), (40, .iconst 0, 41, []), (41, .ireturn, 42, [])]
def cd_ck_handlersFit : zm_C := [(0, .iconst 0, 1, []), (1, .istore_n 2, 2, []), (2, .iload_n 2, 3, []), (3, .aload_n 0, 4, []), (4, .getfield 25, 7, []), (7, .getfield 89, 10, []), (10, .if_icmp .ge (63), 13, [73]), (13, .aload_n 0, 14, []), (14, .getfield 25, 17, []), (17, .iload_n 1, 18, []), (18, .iload_n 2, 19, []), (19, .invokevirtual 92, 22, []), (22, .ifCond .eq (45), 25, [67]), (25, .aload_n 0, 26, []), (26, .getfield 18, 29, []), (29, .aload_n 0, 30, []), (30, .getfield 12, 33, []), (33, .aload_n 0, 34, []), (34, .getfield 25, 37, []), (37, .getfield 96, 40, []), (40, .iload_n 2, 41, []), (41, .iaload, 42, []), (42, .invokevirtual 99, 45, []), (45, .aload_n 0, 46, []), (46, .aload_n 0, 47, []), (47, .getfield 25, 50, []), (50, .getfield 103, 53, []), (53, .iload_n 2, 54, []), (54, .iaload, 55, []), (55, .aload_n 0, 56, []), (56, .getfield 18, 59, []), (59, .invokevirtual 106, 62, []), (62, .ifCond .ne (5), 65, [67]), (65, .iconst 0, 66, []), (66, .ireturn, 67, []), (67, .iinc 2 (1), 70, []), (70, .goto (-68), 73, [2]), (73, .iconst 1, 74, []), (74, .ireturn, 75, [])]
def cd_ck_jumpFits : zm_C := [(0, .aload_n 0, 1, []), (1, .getfield 25, 4, []), (4, .getfield 64, 7, []), (7, .iload_n 1, 8, []), (8, .iaload, 9, []), (9, .invokestatic 109, 12, []), (12, .ifCond .eq (23), 15, [35]), (15, .aload_n 0, 16, []), (16, .aload_n 0, 17, []), (17, .getfield 25, 20, []), (20, .getfield 112, 23, []), (23, .iload_n 1, 24, []), (24, .iaload, 25, []), (25, .aload_n 0, 26, []), (26, .getfield 12, 29, []), (29, .invokevirtual 106, 32, []), (32, .ifCond .eq (7), 35, [39]), (35, .iconst 1, 36, []), (36, .goto (4), 39, [40]), (39, .iconst 0, 40, []), (40, .ireturn, 41, [])]
def cd_ck_firstBad : zm_C := [(0, .aload_n 0, 1, []), (1, .getfield 25, 4, []), (4, .aload_n 0, 5, []), (5, .getfield 12, 8, []), (8, .invokevirtual 37, 11, []), (11, .iconst 1, 12, []), (12, .istore_n 1, 13, []), (13, .iconst 0, 14, []), (14, .istore_n 2, 15, []), (15, .iload_n 2, 16, []), (16, .aload_n 0, 17, []), (17, .getfield 25, 20, []), (20, .getfield 43, 23, []), (23, .if_icmp .ge (72), 26, [95]), (26, .aload_n 0, 27, []), (27, .iload_n 2, 28, []), (28, .iload_n 1, 29, []), (29, .invokevirtual 47, 32, []), (32, .ifCond .eq (34), 35, [66]), (35, .aload_n 0, 36, []), (36, .iload_n 2, 37, []), (37, .invokevirtual 51, 40, []), (40, .ifCond .eq (26), 43, [66]), (43, .aload_n 0, 44, []), (44, .getfield 29, 47, []), (47, .iload_n 2, 48, []), (48, .aload_n 0, 49, []), (49, .getfield 12, 52, []), (52, .invokevirtual 55, 55, []), (55, .ifCond .eq (11), 58, [66]), (58, .aload_n 0, 59, []), (59, .iload_n 2, 60, []), (60, .invokevirtual 61, 63, []), (63, .ifCond .ne (5), 66, [68]), (66, .iload_n 2, 67, []), (67, .ireturn, 68, []), (68, .aload_n 0, 69, []), (69, .getfield 25, 72, []), (72, .getfield 64, 75, []), (75, .iload_n 2, 76, []), (76, .iaload, 77, []), (77, .invokestatic 68, 80, []), (80, .ifCond .ne (7), 83, [87]), (83, .iconst 1, 84, []), (84, .goto (4), 87, [88]), (87, .iconst 0, 88, []), (88, .istore_n 1, 89, []), (89, .iinc 2 (1), 92, []), (92, .goto (-77), 95, [15]), (95, .iload_n 1, 96, []), (96, .ifCond .eq (13), 99, [109]), (99, .aload_n 0, 100, []), (100, .getfield 25, 103, []), (103, .getfield 43, 106, []), (106, .goto (5), 109, [111]), (109, .bipush (-2), 111, []), (111, .ireturn, 112, [])]
def cd_mf_check : zm_C := [(0, .aload_n 0, 1, []), (1, .getfield 19, 4, []), (4, .getfield 104, 7, []), (7, .ifCond .ne (6), 10, [13]), (10, .bipush (-4), 12, []), (12, .ireturn, 13, []), (13, .aload_n 0, 14, []), (14, .getfield 58, 17, []), (17, .invokevirtual 153, 20, []), (20, .ifCond .eq (13), 23, [33]), (23, .aload_n 0, 24, []), (24, .getfield 67, 27, []), (27, .invokevirtual 156, 30, []), (30, .goto (5), 33, [35]), (33, .bipush (-5), 35, []), (35, .ireturn, 36, [])]
def cd_mf_map : zm_C := [(0, .iload_n 1, 1, []), (1, .iconst (-1), 2, []), (2, .if_icmp .ne (11), 5, [13]), (5, .aload_n 0, 6, []), (6, .getfield 26, 9, []), (9, .getfield 131, 12, []), (12, .ireturn, 13, []), (13, .iload_n 1, 14, []), (14, .ifCond .lt (26), 17, [40]), (17, .iload_n 1, 18, []), (18, .aload_n 0, 19, []), (19, .getfield 26, 22, []), (22, .getfield 131, 25, []), (25, .if_icmp .ge (15), 28, [40]), (28, .aload_n 0, 29, []), (29, .getfield 26, 32, []), (32, .getfield 159, 35, []), (35, .iload_n 1, 36, []), (36, .iaload, 37, []), (37, .goto (5), 40, [42]), (40, .bipush (-2), 42, []), (42, .ireturn, 43, [])]
def cd_mf_patch : zm_C := [(0, .iload_n 1, 1, []), (1, .ifCond .lt (32), 4, [33]), (4, .iload_n 1, 5, []), (5, .aload_n 0, 6, []), (6, .getfield 26, 9, []), (9, .getfield 131, 12, []), (12, .if_icmp .gt (21), 15, [33]), (15, .iload_n 1, 16, []), (16, .sipush (400), 19, []), (19, .if_icmp .ge (14), 22, [33]), (22, .iload_n 2, 23, []), (23, .ifCond .lt (10), 26, [33]), (26, .iload_n 2, 27, []), (27, .sipush (255), 30, []), (30, .if_icmp .le (5), 33, [35]), (33, .iconst 0, 34, []), (34, .ireturn, 35, []), (35, .aload_n 0, 36, []), (36, .getfield 26, 39, []), (39, .getfield 159, 42, []), (42, .iload_n 1, 43, []), (43, .iload_n 2, 44, []), (44, .iastore, 45, []), (45, .aload_n 0, 46, []), (46, .getfield 26, 49, []), (49, .aload_n 0, 50, []), (50, .getfield 26, 53, []), (53, .getfield 131, 56, []), (56, .iload_n 1, 57, []), (57, .iconst 1, 58, []), (58, .iadd, 59, []), (59, .invokestatic 162, 62, []), (62, .putfield 131, 65, []), (65, .aload_n 0, 66, []), (66, .getfield 58, 69, []), (69, .iconst 0, 70, []), (70, .putfield 136, 73, []), (73, .iconst 1, 74, []), (74, .ireturn, 75, [])]
def cd_mf_cut : zm_C := [(0, .iload_n 1, 1, []), (1, .ifCond .lt (14), 4, [15]), (4, .iload_n 1, 5, []), (5, .aload_n 0, 6, []), (6, .getfield 26, 9, []), (9, .getfield 131, 12, []), (12, .if_icmp .le (5), 15, [17]), (15, .iconst (-1), 16, []), (16, .ireturn, 17, []), (17, .aload_n 0, 18, []), (18, .getfield 26, 21, []), (21, .getfield 131, 24, []), (24, .iload_n 1, 25, []), (25, .isub, 26, []), (26, .istore_n 2, 27, []), (27, .aload_n 0, 28, []), (28, .getfield 26, 31, []), (31, .iload_n 1, 32, []), (32, .putfield 131, 35, []), (35, .aload_n 0, 36, []), (36, .getfield 58, 39, []), (39, .iconst 0, 40, []), (40, .putfield 136, 43, []), (43, .iload_n 2, 44, []), (44, .ireturn, 45, [])]
def cd_mf_row : zm_C := [(0, .iload_n 2, 1, []), (1, .bipush (22), 3, []), (3, .invokestatic 140, 6, []), (6, .ifCond .ne (5), 9, [11]), (9, .iconst (-1), 10, []), (10, .ireturn, 11, []), (11, .iload_n 1, 12, []), (12, .ifCond .lt (24), 15, [36]), (15, .aload_n 0, 16, []), (16, .getfield 58, 19, []), (19, .invokevirtual 153, 22, []), (22, .ifCond .eq (14), 25, [36]), (25, .iload_n 1, 26, []), (26, .aload_n 0, 27, []), (27, .getfield 58, 30, []), (30, .getfield 168, 33, []), (33, .if_icmp .lt (6), 36, [39]), (36, .bipush (-2), 38, []), (38, .ireturn, 39, []), (39, .iload_n 2, 40, []), (40, .bipush (21), 42, []), (42, .if_icmp .ne (13), 45, [55]), (45, .aload_n 0, 46, []), (46, .getfield 58, 49, []), (49, .getfield 171, 52, []), (52, .iload_n 1, 53, []), (53, .iaload, 54, []), (54, .ireturn, 55, []), (55, .iload_n 2, 56, []), (56, .bipush (22), 58, []), (58, .if_icmp .ne (15), 61, [73]), (61, .aload_n 0, 62, []), (62, .getfield 58, 65, []), (65, .getfield 174, 68, []), (68, .iload_n 1, 69, []), (69, .iaload, 70, []), (70, .goto (16), 73, [86]), (73, .aload_n 0, 74, []), (74, .getfield 58, 77, []), (77, .getfield 177, 80, []), (80, .iload_n 1, 81, []), (81, .aaload, 82, []), (82, .iload_n 2, 83, []), (83, .invokevirtual 148, 86, []), (86, .ireturn, 87, [])]
def cd_mf_code : zm_C := [(0, .iload_n 2, 1, []), (1, .ifCond .lt (8), 4, [9]), (4, .iload_n 2, 5, []), (5, .iconst 3, 6, []), (6, .if_icmp .le (5), 9, [11]), (9, .iconst (-1), 10, []), (10, .ireturn, 11, []), (11, .iload_n 1, 12, []), (12, .ifCond .lt (14), 15, [26]), (15, .iload_n 1, 16, []), (16, .aload_n 0, 17, []), (17, .getfield 19, 20, []), (20, .getfield 104, 23, []), (23, .if_icmp .lt (6), 26, [29]), (26, .bipush (-2), 28, []), (28, .ireturn, 29, []), (29, .iload_n 2, 30, []), (30, .tableswitch (56) 0 2 #[26, 36, 46], 56, [86, 56, 66, 76]), (56, .aload_n 0, 57, []), (57, .getfield 19, 60, []), (60, .getfield 178, 63, []), (63, .iload_n 1, 64, []), (64, .iaload, 65, []), (65, .ireturn, 66, []), (66, .aload_n 0, 67, []), (67, .getfield 19, 70, []), (70, .getfield 181, 73, []), (73, .iload_n 1, 74, []), (74, .iaload, 75, []), (75, .ireturn, 76, []), (76, .aload_n 0, 77, []), (77, .getfield 19, 80, []), (80, .getfield 184, 83, []), (83, .iload_n 1, 84, []), (84, .iaload, 85, []), (85, .ireturn, 86, []), (86, .aload_n 0, 87, []), (87, .getfield 19, 90, []), (90, .getfield 187, 93, []), (93, .iload_n 1, 94, []), (94, .iaload, 95, []), (95, .ireturn, 96, [])]
def cd_mf_count : zm_C := [(0, .iload_n 1, 1, []), (1, .tableswitch (98) 0 4 #[35, 43, 51, 59, 75], 36, [99, 36, 44, 52, 60, 76]), (36, .aload_n 0, 37, []), (37, .getfield 19, 40, []), (40, .getfield 104, 43, []), (43, .ireturn, 44, []), (44, .aload_n 0, 45, []), (45, .getfield 19, 48, []), (48, .getfield 114, 51, []), (51, .ireturn, 52, []), (52, .aload_n 0, 53, []), (53, .getfield 19, 56, []), (56, .getfield 92, 59, []), (59, .ireturn, 60, []), (60, .aload_n 0, 61, []), (61, .getfield 19, 64, []), (64, .getfield 187, 67, []), (67, .aload_n 0, 68, []), (68, .getfield 19, 71, []), (71, .getfield 104, 74, []), (74, .iaload, 75, []), (75, .ireturn, 76, []), (76, .aload_n 0, 77, []), (77, .getfield 58, 80, []), (80, .invokevirtual 153, 83, []), (83, .ifCond .eq (13), 86, [96]), (86, .aload_n 0, 87, []), (87, .getfield 58, 90, []), (90, .getfield 168, 93, []), (93, .goto (5), 96, [98]), (96, .bipush (-5), 98, []), (98, .ireturn, 99, []), (99, .iconst (-1), 100, []), (100, .ireturn, 101, [])]
def cd_mo_in : zm_C := [(0, .iload_n 0, 1, []), (1, .iload_n 1, 2, []), (2, .if_icmp .lt (12), 5, [14]), (5, .iload_n 0, 6, []), (6, .iload_n 2, 7, []), (7, .if_icmp .gt (7), 10, [14]), (10, .iconst 1, 11, []), (11, .goto (4), 14, [15]), (14, .iconst 0, 15, []), (15, .ireturn, 16, [])]
def cd_mo_type : zm_C := [(0, .iload_n 1, 1, []), (1, .iconst 1, 2, []), (2, .bipush (7), 4, []), (4, .invokestatic 97, 7, []), (7, .ifCond .eq (14), 10, [21]), (10, .iload_n 2, 11, []), (11, .iconst 0, 12, []), (12, .iload_n 1, 13, []), (13, .iconst 1, 14, []), (14, .isub, 15, []), (15, .invokestatic 97, 18, []), (18, .ifCond .ne (5), 21, [23]), (21, .iconst 0, 22, []), (22, .ireturn, 23, []), (23, .aload_n 0, 24, []), (24, .getfield 7, 27, []), (27, .iload_n 1, 28, []), (28, .iload_n 2, 29, []), (29, .iastore, 30, []), (30, .aload_n 0, 31, []), (31, .getfield 13, 34, []), (34, .iload_n 1, 35, []), (35, .iload_n 3, 36, []), (36, .bastore, 37, []), (37, .iconst 1, 38, []), (38, .ireturn, 39, [])]
def cd_mo_method : zm_C := [(0, .iload_n 1, 1, []), (1, .iconst 0, 2, []), (2, .bipush (7), 4, []), (4, .invokestatic 97, 7, []), (7, .ifCond .eq (12), 10, [19]), (10, .iload_n 2, 11, []), (11, .iconst 0, 12, []), (12, .iconst 2, 13, []), (13, .invokestatic 97, 16, []), (16, .ifCond .ne (5), 19, [21]), (19, .iconst 0, 20, []), (20, .ireturn, 21, []), (21, .aload_n 0, 22, []), (22, .iload_n 1, 23, []), (23, .putfield 101, 26, []), (26, .aload_n 0, 27, []), (27, .iload_n 2, 28, []), (28, .putfield 105, 31, []), (31, .aload_n 0, 32, []), (32, .iload_n 3, 33, []), (33, .ifCond .eq (12), 36, [45]), (36, .iload_n 2, 37, []), (37, .iconst 2, 38, []), (38, .if_icmp .ge (7), 41, [45]), (41, .iconst 1, 42, []), (42, .goto (4), 45, [46]), (45, .iconst 0, 46, []), (46, .putfield 108, 49, []), (49, .aload_n 0, 50, []), (50, .iconst 0, 51, []), (51, .putfield 112, 54, []), (54, .aload_n 0, 55, []), (55, .iconst 0, 56, []), (56, .putfield 115, 59, []), (59, .aload_n 0, 60, []), (60, .iconst 0, 61, []), (61, .putfield 118, 64, []), (64, .iconst 1, 65, []), (65, .ireturn, 66, [])]
def cd_mo_kind : zm_C := [(0, .iload_n 0, 1, []), (1, .bipush (15), 3, []), (3, .iand, 4, []), (4, .ireturn, 5, [])]
def cd_mo_argument : zm_C := [(0, .iload_n 1, 1, []), (1, .iconst 1, 2, []), (2, .iconst 4, 3, []), (3, .invokestatic 97, 6, []), (6, .ifCond .ne (26), 9, [32]), (9, .iload_n 1, 10, []), (10, .invokestatic 89, 13, []), (13, .bipush (7), 15, []), (15, .if_icmp .ne (15), 18, [30]), (18, .iload_n 1, 19, []), (19, .iconst 4, 20, []), (20, .ishr, 21, []), (21, .iconst 0, 22, []), (22, .bipush (7), 24, []), (24, .invokestatic 97, 27, []), (27, .ifCond .ne (5), 30, [32]), (30, .iconst (-1), 31, []), (31, .ireturn, 32, []), (32, .aload_n 0, 33, []), (33, .getfield 112, 36, []), (36, .iconst 4, 37, []), (37, .if_icmp .ne (6), 40, [43]), (40, .bipush (-3), 42, []), (42, .ireturn, 43, []), (43, .aload_n 0, 44, []), (44, .getfield 17, 47, []), (47, .aload_n 0, 48, []), (48, .getfield 112, 51, []), (51, .iload_n 1, 52, []), (52, .iastore, 53, []), (53, .aload_n 0, 54, []), (54, .dup, 55, []), (55, .getfield 112, 58, []), (58, .iconst 1, 59, []), (59, .iadd, 60, []), (60, .putfield 112, 63, []), (63, .aload_n 0, 64, []), (64, .getfield 112, 67, []), (67, .ireturn, 68, [])]
def cd_mo_isWideLocal : zm_C := [(0, .iload_n 0, 1, []), (1, .bipush (22), 3, []), (3, .if_icmp .eq (21), 6, [24]), (6, .iload_n 0, 7, []), (7, .bipush (24), 9, []), (9, .if_icmp .eq (15), 12, [24]), (12, .iload_n 0, 13, []), (13, .bipush (27), 15, []), (15, .if_icmp .eq (9), 18, [24]), (18, .iload_n 0, 19, []), (19, .bipush (29), 21, []), (21, .if_icmp .ne (7), 24, [28]), (24, .iconst 1, 25, []), (25, .goto (4), 28, [29]), (28, .iconst 0, 29, []), (29, .ireturn, 30, [])]
def cd_mo_isGood : zm_C := [(0, .iload_n 0, 1, []), (1, .iconst 0, 2, []), (2, .bipush (39), 4, []), (4, .invokestatic 97, 7, []), (7, .ifCond .ne (5), 10, [12]), (10, .iconst 0, 11, []), (11, .ireturn, 12, []), (12, .iload_n 0, 13, []), (13, .bipush (21), 15, []), (15, .bipush (30), 17, []), (17, .invokestatic 97, 20, []), (20, .ifCond .eq (23), 23, [43]), (23, .iload_n 1, 24, []), (24, .iconst 0, 25, []), (25, .iload_n 0, 26, []), (26, .invokestatic 121, 29, []), (29, .ifCond .eq (8), 32, [37]), (32, .bipush (8), 34, []), (34, .goto (5), 37, [39]), (37, .bipush (9), 39, []), (39, .invokestatic 97, 42, []), (42, .ireturn, 43, []), (43, .iload_n 0, 44, []), (44, .bipush (31), 46, []), (46, .bipush (34), 48, []), (48, .invokestatic 97, 51, []), (51, .ifCond .eq (11), 54, [62]), (54, .iload_n 2, 55, []), (55, .iconst 0, 56, []), (56, .bipush (49), 58, []), (58, .invokestatic 97, 61, []), (61, .ireturn, 62, []), (62, .iload_n 0, 63, []), (63, .bipush (35), 65, []), (65, .if_icmp .lt (29), 68, [94]), (68, .iload_n 1, 69, []), (69, .iconst 0, 70, []), (70, .bipush (7), 72, []), (72, .invokestatic 97, 75, []), (75, .ifCond .eq (23), 78, [98]), (78, .iload_n 0, 79, []), (79, .bipush (38), 81, []), (81, .if_icmp .ne (13), 84, [94]), (84, .iload_n 2, 85, []), (85, .iconst 0, 86, []), (86, .bipush (7), 88, []), (88, .invokestatic 97, 91, []), (91, .ifCond .eq (7), 94, [98]), (94, .iconst 1, 95, []), (95, .goto (4), 98, [99]), (98, .iconst 0, 99, []), (99, .ireturn, 100, [])]
def cd_mo_set : zm_C := [(0, .aload_n 0, 1, []), (1, .getfield 20, 4, []), (4, .iload_n 1, 5, []), (5, .iload_n 2, 6, []), (6, .iastore, 7, []), (7, .aload_n 0, 8, []), (8, .getfield 23, 11, []), (11, .iload_n 1, 12, []), (12, .iload_n 2, 13, []), (13, .bipush (21), 15, []), (15, .bipush (30), 17, []), (17, .invokestatic 97, 20, []), (20, .ifCond .ne (9), 23, [29]), (23, .iload_n 2, 24, []), (24, .bipush (34), 26, []), (26, .if_icmp .le (7), 29, [33]), (29, .iload_n 3, 30, []), (30, .goto (4), 33, [34]), (33, .iconst 0, 34, []), (34, .iastore, 35, []), (35, .aload_n 0, 36, []), (36, .getfield 26, 39, []), (39, .iload_n 1, 40, []), (40, .iload_n 2, 41, []), (41, .bipush (31), 43, []), (43, .bipush (34), 45, []), (45, .invokestatic 97, 48, []), (48, .ifCond .ne (9), 51, [57]), (51, .iload_n 2, 52, []), (52, .bipush (38), 54, []), (54, .if_icmp .ne (8), 57, [62]), (57, .iload 4, 59, []), (59, .goto (4), 62, [63]), (62, .iconst 0, 63, []), (63, .iastore, 64, []), (64, .return_, 65, [])]
def cd_mo_add : zm_C := [(0, .iload_n 1, 1, []), (1, .iload_n 2, 2, []), (2, .iload_n 3, 3, []), (3, .invokestatic 125, 6, []), (6, .istore 4, 8, []), (8, .iload 4, 10, []), (10, .ifCond .ne (5), 13, [15]), (13, .iconst (-1), 14, []), (14, .ireturn, 15, []), (15, .aload_n 0, 16, []), (16, .getfield 115, 19, []), (19, .bipush (50), 21, []), (21, .if_icmp .ne (6), 24, [27]), (24, .bipush (-3), 26, []), (26, .ireturn, 27, []), (27, .aload_n 0, 28, []), (28, .aload_n 0, 29, []), (29, .getfield 115, 32, []), (32, .iload_n 1, 33, []), (33, .iload_n 2, 34, []), (34, .iload_n 3, 35, []), (35, .invokevirtual 128, 38, []), (38, .aload_n 0, 39, []), (39, .dup, 40, []), (40, .getfield 115, 43, []), (43, .iconst 1, 44, []), (44, .iadd, 45, []), (45, .putfield 115, 48, []), (48, .aload_n 0, 49, []), (49, .getfield 115, 52, []), (52, .ireturn, 53, [])]
def cd_mo_change : zm_C := [(0, .iload_n 2, 1, []), (1, .iload_n 3, 2, []), (2, .iload 4, 4, []), (4, .invokestatic 125, 7, []), (7, .istore 5, 9, []), (9, .iload 5, 11, []), (11, .ifCond .eq (17), 14, [28]), (14, .iload_n 1, 15, []), (15, .iconst 0, 16, []), (16, .aload_n 0, 17, []), (17, .getfield 115, 20, []), (20, .iconst 1, 21, []), (21, .isub, 22, []), (22, .invokestatic 97, 25, []), (25, .ifCond .ne (5), 28, [30]), (28, .iconst 0, 29, []), (29, .ireturn, 30, []), (30, .aload_n 0, 31, []), (31, .iload_n 1, 32, []), (32, .iload_n 2, 33, []), (33, .iload_n 3, 34, []), (34, .iload 4, 36, []), (36, .invokevirtual 128, 39, []), (39, .iconst 1, 40, []), (40, .ireturn, 41, [])]
def cd_mo_handle : zm_C := [(0, .iload_n 1, 1, []), (1, .iconst 0, 2, []), (2, .bipush (49), 4, []), (4, .invokestatic 97, 7, []), (7, .ifCond .eq (36), 10, [43]), (10, .iload_n 3, 11, []), (11, .iconst 0, 12, []), (12, .bipush (49), 14, []), (14, .invokestatic 97, 17, []), (17, .ifCond .eq (26), 20, [43]), (20, .iload_n 2, 21, []), (21, .iload_n 1, 22, []), (22, .iconst 1, 23, []), (23, .iadd, 24, []), (24, .bipush (50), 26, []), (26, .invokestatic 97, 29, []), (29, .ifCond .eq (14), 32, [43]), (32, .iload 4, 34, []), (34, .iconst 0, 35, []), (35, .bipush (7), 37, []), (37, .invokestatic 97, 40, []), (40, .ifCond .ne (5), 43, [45]), (43, .iconst (-1), 44, []), (44, .ireturn, 45, []), (45, .aload_n 0, 46, []), (46, .getfield 118, 49, []), (49, .iconst 4, 50, []), (50, .if_icmp .ne (6), 53, [56]), (53, .bipush (-3), 55, []), (55, .ireturn, 56, []), (56, .aload_n 0, 57, []), (57, .getfield 29, 60, []), (60, .aload_n 0, 61, []), (61, .getfield 118, 64, []), (64, .iload_n 1, 65, []), (65, .iastore, 66, []), (66, .aload_n 0, 67, []), (67, .getfield 32, 70, []), (70, .aload_n 0, 71, []), (71, .getfield 118, 74, []), (74, .iload_n 2, 75, []), (75, .iastore, 76, []), (76, .aload_n 0, 77, []), (77, .getfield 35, 80, []), (80, .aload_n 0, 81, []), (81, .getfield 118, 84, []), (84, .iload_n 3, 85, []), (85, .iastore, 86, []), (86, .aload_n 0, 87, []), (87, .getfield 38, 90, []), (90, .aload_n 0, 91, []), (91, .getfield 118, 94, []), (94, .iload 4, 96, []), (96, .iastore, 97, []), (97, .aload_n 0, 98, []), (98, .dup, 99, []), (99, .getfield 118, 102, []), (102, .iconst 1, 103, []), (103, .iadd, 104, []), (104, .putfield 118, 107, []), (107, .aload_n 0, 108, []), (108, .getfield 118, 111, []), (111, .ireturn, 112, [])]
def cd_mo_isWide : zm_C := [(0, .iload_n 0, 1, []), (1, .iconst 3, 2, []), (2, .if_icmp .eq (8), 5, [10]), (5, .iload_n 0, 6, []), (6, .iconst 4, 7, []), (7, .if_icmp .ne (7), 10, [14]), (10, .iconst 1, 11, []), (11, .goto (4), 14, [15]), (14, .iconst 0, 15, []), (15, .ireturn, 16, [])]
def cd_mo_first : zm_C := [(0, .iconst 0, 1, []), (1, .istore_n 1, 2, []), (2, .iconst 0, 3, []), (3, .istore_n 2, 4, []), (4, .iload_n 2, 5, []), (5, .bipush (10), 7, []), (7, .if_icmp .ge (16), 10, [23]), (10, .aload_n 0, 11, []), (11, .getfield 44, 14, []), (14, .iload_n 2, 15, []), (15, .iconst 0, 16, []), (16, .iastore, 17, []), (17, .iinc 2 (1), 20, []), (20, .goto (-16), 23, [4]), (23, .aload_n 0, 24, []), (24, .getfield 105, 27, []), (27, .ifCond .le (34), 30, [61]), (30, .aload_n 0, 31, []), (31, .getfield 44, 34, []), (34, .iconst 0, 35, []), (35, .aload_n 0, 36, []), (36, .getfield 105, 39, []), (39, .iconst 2, 40, []), (40, .if_icmp .ne (8), 43, [48]), (43, .bipush (6), 45, []), (45, .goto (13), 48, [58]), (48, .bipush (16), 50, []), (50, .aload_n 0, 51, []), (51, .getfield 101, 54, []), (54, .imul, 55, []), (55, .bipush (7), 57, []), (57, .iadd, 58, []), (58, .iastore, 59, []), (59, .iconst 1, 60, []), (60, .istore_n 1, 61, []), (61, .iconst 0, 62, []), (62, .istore_n 2, 63, []), (63, .iload_n 2, 64, []), (64, .aload_n 0, 65, []), (65, .getfield 112, 68, []), (68, .if_icmp .ge (41), 71, [109]), (71, .aload_n 0, 72, []), (72, .getfield 44, 75, []), (75, .iload_n 1, 76, []), (76, .aload_n 0, 77, []), (77, .getfield 17, 80, []), (80, .iload_n 2, 81, []), (81, .iaload, 82, []), (82, .iastore, 83, []), (83, .iload_n 1, 84, []), (84, .aload_n 0, 85, []), (85, .getfield 17, 88, []), (88, .iload_n 2, 89, []), (89, .iaload, 90, []), (90, .invokestatic 135, 93, []), (93, .ifCond .eq (7), 96, [100]), (96, .iconst 2, 97, []), (97, .goto (4), 100, [101]), (100, .iconst 1, 101, []), (101, .iadd, 102, []), (102, .istore_n 1, 103, []), (103, .iinc 2 (1), 106, []), (106, .goto (-43), 109, [63]), (109, .aload_n 0, 110, []), (110, .iconst 0, 111, []), (111, .putfield 138, 114, []), (114, .aload_n 0, 115, []), (115, .aload_n 0, 116, []), (116, .getfield 105, 119, []), (119, .iconst 2, 120, []), (120, .if_icmp .ne (7), 123, [127]), (123, .iconst 1, 124, []), (124, .goto (4), 127, [128]), (127, .iconst 0, 128, []), (128, .putfield 141, 131, []), (131, .return_, 132, [])]
def cd_mo_isInLine : zm_C := [(0, .iload_n 2, 1, []), (1, .istore_n 3, 2, []), (2, .iload_n 3, 3, []), (3, .ifCond .le (18), 6, [21]), (6, .iload_n 3, 7, []), (7, .iload_n 1, 8, []), (8, .if_icmp .eq (13), 11, [21]), (11, .aload_n 0, 12, []), (12, .getfield 7, 15, []), (15, .iload_n 3, 16, []), (16, .iaload, 17, []), (17, .istore_n 3, 18, []), (18, .goto (-16), 21, [2]), (21, .iload_n 3, 22, []), (22, .iload_n 1, 23, []), (23, .if_icmp .ne (7), 26, [30]), (26, .iconst 1, 27, []), (27, .goto (4), 30, [31]), (30, .iconst 0, 31, []), (31, .ireturn, 32, [])]
def cd_mo_join : zm_C := [(0, .iload_n 1, 1, []), (1, .iload_n 2, 2, []), (2, .if_icmp .ne (5), 5, [7]), (5, .iload_n 1, 6, []), (6, .ireturn, 7, []), (7, .iload_n 1, 8, []), (8, .invokestatic 89, 11, []), (11, .bipush (7), 13, []), (13, .if_icmp .ne (7), 16, [20]), (16, .iconst 1, 17, []), (17, .goto (4), 20, [21]), (20, .iconst 0, 21, []), (21, .istore_n 3, 22, []), (22, .iload_n 2, 23, []), (23, .invokestatic 89, 26, []), (26, .bipush (7), 28, []), (28, .if_icmp .ne (7), 31, [35]), (31, .iconst 1, 32, []), (32, .goto (4), 35, [36]), (35, .iconst 0, 36, []), (36, .istore 4, 38, []), (38, .iload_n 3, 39, []), (39, .ifCond .eq (10), 42, [49]), (42, .iload_n 2, 43, []), (43, .iconst 5, 44, []), (44, .if_icmp .ne (5), 47, [49]), (47, .iload_n 1, 48, []), (48, .ireturn, 49, []), (49, .iload 4, 51, []), (51, .ifCond .eq (10), 54, [61]), (54, .iload_n 1, 55, []), (55, .iconst 5, 56, []), (56, .if_icmp .ne (5), 59, [61]), (59, .iload_n 2, 60, []), (60, .ireturn, 61, []), (61, .iload_n 3, 62, []), (62, .ifCond .eq (8), 65, [70]), (65, .iload 4, 67, []), (67, .ifCond .ne (5), 70, [72]), (70, .iconst 0, 71, []), (71, .ireturn, 72, []), (72, .iload_n 1, 73, []), (73, .iconst 4, 74, []), (74, .ishr, 75, []), (75, .istore 5, 77, []), (77, .aload_n 0, 78, []), (78, .iload 5, 80, []), (80, .iload_n 2, 81, []), (81, .iconst 4, 82, []), (82, .ishr, 83, []), (83, .invokevirtual 93, 86, []), (86, .istore 6, 88, []), (88, .iload 6, 90, []), (90, .ifCond .ne (26), 93, [116]), (93, .aload_n 0, 94, []), (94, .getfield 7, 97, []), (97, .iload 5, 99, []), (99, .iaload, 100, []), (100, .istore 5, 102, []), (102, .aload_n 0, 103, []), (103, .iload 5, 105, []), (105, .iload_n 2, 106, []), (106, .iconst 4, 107, []), (107, .ishr, 108, []), (108, .invokevirtual 93, 111, []), (111, .istore 6, 113, []), (113, .goto (-25), 116, [88]), (116, .bipush (16), 118, []), (118, .iload 5, 120, []), (120, .imul, 121, []), (121, .bipush (7), 123, []), (123, .iadd, 124, []), (124, .ireturn, 125, [])]
def cd_mo_arrive : zm_C := [(0, .iload_n 1, 1, []), (1, .aload_n 0, 2, []), (2, .getfield 115, 5, []), (5, .if_icmp .ge (25), 8, [30]), (8, .aload_n 0, 9, []), (9, .getfield 50, 12, []), (12, .iload_n 1, 13, []), (13, .baload, 14, []), (14, .ifCond .eq (22), 17, [36]), (17, .aload_n 0, 18, []), (18, .getfield 56, 21, []), (21, .iload_n 1, 22, []), (22, .iaload, 23, []), (23, .aload_n 0, 24, []), (24, .getfield 138, 27, []), (27, .if_icmp .eq (9), 30, [36]), (30, .aload_n 0, 31, []), (31, .iconst 0, 32, []), (32, .putfield 194, 35, []), (35, .return_, 36, []), (36, .aload_n 0, 37, []), (37, .getfield 50, 40, []), (40, .iload_n 1, 41, []), (41, .baload, 42, []), (42, .ifCond .ne (7), 45, [49]), (45, .iconst 1, 46, []), (46, .goto (4), 49, [50]), (49, .iconst 0, 50, []), (50, .istore_n 2, 51, []), (51, .iconst 0, 52, []), (52, .istore_n 3, 53, []), (53, .iload_n 3, 54, []), (54, .bipush (10), 56, []), (56, .if_icmp .ge (79), 59, [135]), (59, .bipush (10), 61, []), (61, .iload_n 1, 62, []), (62, .imul, 63, []), (63, .iload_n 3, 64, []), (64, .iadd, 65, []), (65, .istore 4, 67, []), (67, .iload_n 2, 68, []), (68, .ifCond .eq (12), 71, [80]), (71, .aload_n 0, 72, []), (72, .getfield 44, 75, []), (75, .iload_n 3, 76, []), (76, .iaload, 77, []), (77, .goto (20), 80, [97]), (80, .aload_n 0, 81, []), (81, .aload_n 0, 82, []), (82, .getfield 59, 85, []), (85, .iload 4, 87, []), (87, .iaload, 88, []), (88, .aload_n 0, 89, []), (89, .getfield 44, 92, []), (92, .iload_n 3, 93, []), (93, .iaload, 94, []), (94, .invokevirtual 197, 97, []), (97, .istore 5, 99, []), (99, .iload_n 2, 100, []), (100, .ifCond .ne (15), 103, [115]), (103, .iload 5, 105, []), (105, .aload_n 0, 106, []), (106, .getfield 59, 109, []), (109, .iload 4, 111, []), (111, .iaload, 112, []), (112, .if_icmp .eq (8), 115, [120]), (115, .aload_n 0, 116, []), (116, .iconst 1, 117, []), (117, .putfield 201, 120, []), (120, .aload_n 0, 121, []), (121, .getfield 59, 124, []), (124, .iload 4, 126, []), (126, .iload 5, 128, []), (128, .iastore, 129, []), (129, .iinc 3 (1), 132, []), (132, .goto (-79), 135, [53]), (135, .iconst 0, 136, []), (136, .istore_n 3, 137, []), (137, .iload_n 3, 138, []), (138, .aload_n 0, 139, []), (139, .getfield 138, 142, []), (142, .if_icmp .ge (89), 145, [231]), (145, .bipush (8), 147, []), (147, .iload_n 1, 148, []), (148, .imul, 149, []), (149, .iload_n 3, 150, []), (150, .iadd, 151, []), (151, .istore 4, 153, []), (153, .iload_n 2, 154, []), (154, .ifCond .eq (12), 157, [166]), (157, .aload_n 0, 158, []), (158, .getfield 47, 161, []), (161, .iload_n 3, 162, []), (162, .iaload, 163, []), (163, .goto (20), 166, [183]), (166, .aload_n 0, 167, []), (167, .aload_n 0, 168, []), (168, .getfield 62, 171, []), (171, .iload 4, 173, []), (173, .iaload, 174, []), (174, .aload_n 0, 175, []), (175, .getfield 47, 178, []), (178, .iload_n 3, 179, []), (179, .iaload, 180, []), (180, .invokevirtual 197, 183, []), (183, .istore 5, 185, []), (185, .iload_n 2, 186, []), (186, .ifCond .ne (15), 189, [201]), (189, .iload 5, 191, []), (191, .aload_n 0, 192, []), (192, .getfield 62, 195, []), (195, .iload 4, 197, []), (197, .iaload, 198, []), (198, .if_icmp .eq (8), 201, [206]), (201, .aload_n 0, 202, []), (202, .iconst 1, 203, []), (203, .putfield 201, 206, []), (206, .iload 5, 208, []), (208, .ifCond .ne (8), 211, [216]), (211, .aload_n 0, 212, []), (212, .iconst 0, 213, []), (213, .putfield 194, 216, []), (216, .aload_n 0, 217, []), (217, .getfield 62, 220, []), (220, .iload 4, 222, []), (222, .iload 5, 224, []), (224, .iastore, 225, []), (225, .iinc 3 (1), 228, []), (228, .goto (-91), 231, [137]), (231, .aload_n 0, 232, []), (232, .getfield 141, 235, []), (235, .ifCond .ne (16), 238, [251]), (238, .iload_n 2, 239, []), (239, .ifCond .ne (16), 242, [255]), (242, .aload_n 0, 243, []), (243, .getfield 53, 246, []), (246, .iload_n 1, 247, []), (247, .baload, 248, []), (248, .ifCond .eq (7), 251, [255]), (251, .iconst 1, 252, []), (252, .goto (4), 255, [256]), (255, .iconst 0, 256, []), (256, .istore_n 3, 257, []), (257, .iload_n 2, 258, []), (258, .ifCond .ne (13), 261, [271]), (261, .iload_n 3, 262, []), (262, .aload_n 0, 263, []), (263, .getfield 53, 266, []), (266, .iload_n 1, 267, []), (267, .baload, 268, []), (268, .if_icmp .eq (8), 271, [276]), (271, .aload_n 0, 272, []), (272, .iconst 1, 273, []), (273, .putfield 201, 276, []), (276, .aload_n 0, 277, []), (277, .getfield 53, 280, []), (280, .iload_n 1, 281, []), (281, .iload_n 3, 282, []), (282, .bastore, 283, []), (283, .aload_n 0, 284, []), (284, .getfield 50, 287, []), (287, .iload_n 1, 288, []), (288, .iconst 1, 289, []), (289, .bastore, 290, []), (290, .aload_n 0, 291, []), (291, .getfield 56, 294, []), (294, .iload_n 1, 295, []), (295, .aload_n 0, 296, []), (296, .getfield 138, 299, []), (299, .iastore, 300, []), (300, .return_, 301, [])]
def cd_mo_fetch : zm_C := [(0, .aload_n 0, 1, []), (1, .aload_n 0, 2, []), (2, .getfield 56, 5, []), (5, .iload_n 1, 6, []), (6, .iaload, 7, []), (7, .putfield 138, 10, []), (10, .aload_n 0, 11, []), (11, .aload_n 0, 12, []), (12, .getfield 53, 15, []), (15, .iload_n 1, 16, []), (16, .baload, 17, []), (17, .putfield 141, 20, []), (20, .iconst 0, 21, []), (21, .istore_n 2, 22, []), (22, .iload_n 2, 23, []), (23, .bipush (10), 25, []), (25, .if_icmp .ge (26), 28, [51]), (28, .aload_n 0, 29, []), (29, .getfield 44, 32, []), (32, .iload_n 2, 33, []), (33, .aload_n 0, 34, []), (34, .getfield 59, 37, []), (37, .bipush (10), 39, []), (39, .iload_n 1, 40, []), (40, .imul, 41, []), (41, .iload_n 2, 42, []), (42, .iadd, 43, []), (43, .iaload, 44, []), (44, .iastore, 45, []), (45, .iinc 2 (1), 48, []), (48, .goto (-26), 51, [22]), (51, .iconst 0, 52, []), (52, .istore_n 2, 53, []), (53, .iload_n 2, 54, []), (54, .aload_n 0, 55, []), (55, .getfield 138, 58, []), (58, .if_icmp .ge (26), 61, [84]), (61, .aload_n 0, 62, []), (62, .getfield 47, 65, []), (65, .iload_n 2, 66, []), (66, .aload_n 0, 67, []), (67, .getfield 62, 70, []), (70, .bipush (8), 72, []), (72, .iload_n 1, 73, []), (73, .imul, 74, []), (74, .iload_n 2, 75, []), (75, .iadd, 76, []), (76, .iaload, 77, []), (77, .iastore, 78, []), (78, .iinc 2 (1), 81, []), (81, .goto (-28), 84, [53]), (84, .return_, 85, [])]
def cd_mo_top : zm_C := [(0, .aload_n 0, 1, []), (1, .getfield 138, 4, []), (4, .iload_n 1, 5, []), (5, .if_icmp .lt (17), 8, [22]), (8, .aload_n 0, 9, []), (9, .getfield 47, 12, []), (12, .aload_n 0, 13, []), (13, .getfield 138, 16, []), (16, .iload_n 1, 17, []), (17, .isub, 18, []), (18, .iaload, 19, []), (19, .goto (4), 22, [23]), (22, .iconst (-1), 23, []), (23, .ireturn, 24, [])]
def cd_mo_slots : zm_C := [(0, .iconst 0, 1, []), (1, .istore_n 1, 2, []), (2, .iconst 0, 3, []), (3, .istore_n 2, 4, []), (4, .iload_n 2, 5, []), (5, .aload_n 0, 6, []), (6, .getfield 138, 9, []), (9, .if_icmp .ge (29), 12, [38]), (12, .iload_n 1, 13, []), (13, .aload_n 0, 14, []), (14, .getfield 47, 17, []), (17, .iload_n 2, 18, []), (18, .iaload, 19, []), (19, .invokestatic 135, 22, []), (22, .ifCond .eq (7), 25, [29]), (25, .iconst 2, 26, []), (26, .goto (4), 29, [30]), (29, .iconst 1, 30, []), (30, .iadd, 31, []), (31, .istore_n 1, 32, []), (32, .iinc 2 (1), 35, []), (35, .goto (-31), 38, [4]), (38, .iload_n 1, 39, []), (39, .ireturn, 40, [])]
def cd_mo_push : zm_C := [(0, .aload_n 0, 1, []), (1, .invokevirtual 144, 4, []), (4, .iload_n 1, 5, []), (5, .invokestatic 135, 8, []), (8, .ifCond .eq (7), 11, [15]), (11, .iconst 2, 12, []), (12, .goto (4), 15, [16]), (15, .iconst 1, 16, []), (16, .iadd, 17, []), (17, .bipush (8), 19, []), (19, .if_icmp .le (5), 22, [24]), (22, .iconst 0, 23, []), (23, .ireturn, 24, []), (24, .aload_n 0, 25, []), (25, .getfield 47, 28, []), (28, .aload_n 0, 29, []), (29, .getfield 138, 32, []), (32, .iload_n 1, 33, []), (33, .iastore, 34, []), (34, .aload_n 0, 35, []), (35, .dup, 36, []), (36, .getfield 138, 39, []), (39, .iconst 1, 40, []), (40, .iadd, 41, []), (41, .putfield 138, 44, []), (44, .iconst 1, 45, []), (45, .ireturn, 46, [])]
def cd_mo_isSmall : zm_C := [(0, .iload_n 0, 1, []), (1, .ifCond .le (14), 4, [15]), (4, .iload_n 0, 5, []), (5, .invokestatic 135, 8, []), (8, .ifCond .ne (7), 11, [15]), (11, .iconst 1, 12, []), (12, .goto (4), 15, [16]), (15, .iconst 0, 16, []), (16, .ireturn, 17, [])]
def cd_mo_takes : zm_C := [(0, .iload_n 1, 1, []), (1, .ifCond .ne (5), 4, [6]), (4, .iconst 0, 5, []), (5, .ireturn, 6, []), (6, .aload_n 0, 7, []), (7, .dup, 8, []), (8, .getfield 138, 11, []), (11, .iload_n 2, 12, []), (12, .isub, 13, []), (13, .putfield 138, 16, []), (16, .iconst 1, 17, []), (17, .ireturn, 18, [])]
def cd_mo_sum : zm_C := [(0, .aload_n 0, 1, []), (1, .iconst 1, 2, []), (2, .invokevirtual 151, 5, []), (5, .iload_n 1, 6, []), (6, .if_icmp .ne (12), 9, [18]), (9, .aload_n 0, 10, []), (10, .iconst 2, 11, []), (11, .invokevirtual 151, 14, []), (14, .iload_n 1, 15, []), (15, .if_icmp .eq (5), 18, [20]), (18, .iconst 0, 19, []), (19, .ireturn, 20, []), (20, .aload_n 0, 21, []), (21, .dup, 22, []), (22, .getfield 138, 25, []), (25, .iconst 1, 26, []), (26, .isub, 27, []), (27, .putfield 138, 30, []), (30, .iconst 1, 31, []), (31, .ireturn, 32, [])]
def cd_mo_swap : zm_C := [(0, .aload_n 0, 1, []), (1, .iconst 1, 2, []), (2, .invokevirtual 151, 5, []), (5, .iload_n 1, 6, []), (6, .if_icmp .eq (5), 9, [11]), (9, .iconst 0, 10, []), (10, .ireturn, 11, []), (11, .aload_n 0, 12, []), (12, .dup, 13, []), (13, .getfield 138, 16, []), (16, .iconst 1, 17, []), (17, .isub, 18, []), (18, .putfield 138, 21, []), (21, .aload_n 0, 22, []), (22, .iload_n 2, 23, []), (23, .invokevirtual 154, 26, []), (26, .ireturn, 27, [])]
def cd_mo_is : zm_C := [(0, .iload_n 1, 1, []), (1, .iload_n 2, 2, []), (2, .if_icmp .eq (7), 5, [9]), (5, .iload_n 2, 6, []), (6, .ifCond .ne (5), 9, [11]), (9, .iconst 1, 10, []), (10, .ireturn, 11, []), (11, .iload_n 2, 12, []), (12, .invokestatic 89, 15, []), (15, .bipush (7), 17, []), (17, .if_icmp .eq (5), 20, [22]), (20, .iconst 0, 21, []), (21, .ireturn, 22, []), (22, .iload_n 1, 23, []), (23, .iconst 5, 24, []), (24, .if_icmp .ne (5), 27, [29]), (27, .iconst 1, 28, []), (28, .ireturn, 29, []), (29, .iload_n 1, 30, []), (30, .invokestatic 89, 33, []), (33, .bipush (7), 35, []), (35, .if_icmp .ne (31), 38, [66]), (38, .aload_n 0, 39, []), (39, .getfield 13, 42, []), (42, .iload_n 2, 43, []), (43, .iconst 4, 44, []), (44, .ishr, 45, []), (45, .baload, 46, []), (46, .ifCond .ne (16), 49, [62]), (49, .aload_n 0, 50, []), (50, .iload_n 2, 51, []), (51, .iconst 4, 52, []), (52, .ishr, 53, []), (53, .iload_n 1, 54, []), (54, .iconst 4, 55, []), (55, .ishr, 56, []), (56, .invokevirtual 93, 59, []), (59, .ifCond .eq (7), 62, [66]), (62, .iconst 1, 63, []), (63, .goto (4), 66, [67]), (66, .iconst 0, 67, []), (67, .ireturn, 68, [])]
def cd_mo_simple : zm_C := [(0, .aload_n 0, 1, []), (1, .iconst 1, 2, []), (2, .invokevirtual 151, 5, []), (5, .istore_n 2, 6, []), (6, .aload_n 0, 7, []), (7, .iconst 2, 8, []), (8, .invokevirtual 151, 11, []), (11, .istore_n 3, 12, []), (12, .iload_n 1, 13, []), (13, .tableswitch (352) 0 19 #[95, 97, 103, 109, 115, 121, 127, 137, 178, 199, 241, 247, 253, 259, 265, 272, 279, 286, 293, 321], 108, [365, 108, 110, 116, 122, 128, 134, 140, 150, 191, 212, 254, 260, 266, 272, 278, 285, 292, 299, 306, 334]), (108, .iconst 1, 109, []), (109, .ireturn, 110, []), (110, .aload_n 0, 111, []), (111, .iconst 1, 112, []), (112, .invokevirtual 154, 115, []), (115, .ireturn, 116, []), (116, .aload_n 0, 117, []), (117, .iconst 2, 118, []), (118, .invokevirtual 154, 121, []), (121, .ireturn, 122, []), (122, .aload_n 0, 123, []), (123, .iconst 3, 124, []), (124, .invokevirtual 154, 127, []), (127, .ireturn, 128, []), (128, .aload_n 0, 129, []), (129, .iconst 4, 130, []), (130, .invokevirtual 154, 133, []), (133, .ireturn, 134, []), (134, .aload_n 0, 135, []), (135, .iconst 5, 136, []), (136, .invokevirtual 154, 139, []), (139, .ireturn, 140, []), (140, .aload_n 0, 141, []), (141, .iload_n 2, 142, []), (142, .invokestatic 157, 145, []), (145, .iconst 1, 146, []), (146, .invokevirtual 160, 149, []), (149, .ireturn, 150, []), (150, .iload_n 2, 151, []), (151, .invokestatic 135, 154, []), (154, .ifCond .eq (12), 157, [166]), (157, .aload_n 0, 158, []), (158, .iconst 1, 159, []), (159, .iconst 1, 160, []), (160, .invokevirtual 160, 163, []), (163, .goto (27), 166, [190]), (166, .aload_n 0, 167, []), (167, .iload_n 2, 168, []), (168, .invokestatic 157, 171, []), (171, .ifCond .eq (14), 174, [185]), (174, .iload_n 3, 175, []), (175, .invokestatic 157, 178, []), (178, .ifCond .eq (7), 181, [185]), (181, .iconst 1, 182, []), (182, .goto (4), 185, [186]), (185, .iconst 0, 186, []), (186, .iconst 2, 187, []), (187, .invokevirtual 160, 190, []), (190, .ireturn, 191, []), (191, .iload_n 2, 192, []), (192, .invokestatic 157, 195, []), (195, .ifCond .eq (15), 198, [210]), (198, .aload_n 0, 199, []), (199, .iload_n 2, 200, []), (200, .invokevirtual 154, 203, []), (203, .ifCond .eq (7), 206, [210]), (206, .iconst 1, 207, []), (207, .goto (4), 210, [211]), (210, .iconst 0, 211, []), (211, .ireturn, 212, []), (212, .iload_n 2, 213, []), (213, .invokestatic 157, 216, []), (216, .ifCond .eq (10), 219, [226]), (219, .iload_n 3, 220, []), (220, .invokestatic 157, 223, []), (223, .ifCond .ne (5), 226, [228]), (226, .iconst 0, 227, []), (227, .ireturn, 228, []), (228, .aload_n 0, 229, []), (229, .getfield 47, 232, []), (232, .aload_n 0, 233, []), (233, .getfield 138, 236, []), (236, .iconst 1, 237, []), (237, .isub, 238, []), (238, .iload_n 3, 239, []), (239, .iastore, 240, []), (240, .aload_n 0, 241, []), (241, .getfield 47, 244, []), (244, .aload_n 0, 245, []), (245, .getfield 138, 248, []), (248, .iconst 2, 249, []), (249, .isub, 250, []), (250, .iload_n 2, 251, []), (251, .iastore, 252, []), (252, .iconst 1, 253, []), (253, .ireturn, 254, []), (254, .aload_n 0, 255, []), (255, .iconst 1, 256, []), (256, .invokevirtual 164, 259, []), (259, .ireturn, 260, []), (260, .aload_n 0, 261, []), (261, .iconst 4, 262, []), (262, .invokevirtual 164, 265, []), (265, .ireturn, 266, []), (266, .aload_n 0, 267, []), (267, .iconst 2, 268, []), (268, .invokevirtual 164, 271, []), (271, .ireturn, 272, []), (272, .aload_n 0, 273, []), (273, .iconst 3, 274, []), (274, .invokevirtual 164, 277, []), (277, .ireturn, 278, []), (278, .aload_n 0, 279, []), (279, .iconst 1, 280, []), (280, .iconst 4, 281, []), (281, .invokevirtual 167, 284, []), (284, .ireturn, 285, []), (285, .aload_n 0, 286, []), (286, .iconst 4, 287, []), (287, .iconst 1, 288, []), (288, .invokevirtual 167, 291, []), (291, .ireturn, 292, []), (292, .aload_n 0, 293, []), (293, .iconst 1, 294, []), (294, .iconst 3, 295, []), (295, .invokevirtual 167, 298, []), (298, .ireturn, 299, []), (299, .aload_n 0, 300, []), (300, .iconst 3, 301, []), (301, .iconst 1, 302, []), (302, .invokevirtual 167, 305, []), (305, .ireturn, 306, []), (306, .aload_n 0, 307, []), (307, .getfield 108, 310, []), (310, .ifCond .ne (22), 313, [332]), (313, .aload_n 0, 314, []), (314, .getfield 105, 317, []), (317, .iconst 2, 318, []), (318, .if_icmp .ne (10), 321, [328]), (321, .aload_n 0, 322, []), (322, .getfield 141, 325, []), (325, .ifCond .ne (7), 328, [332]), (328, .iconst 1, 329, []), (329, .goto (4), 332, [333]), (332, .iconst 0, 333, []), (333, .ireturn, 334, []), (334, .aload_n 0, 335, []), (335, .getfield 108, 338, []), (338, .ifCond .eq (25), 341, [363]), (341, .aload_n 0, 342, []), (342, .iload_n 2, 343, []), (343, .iconst 1, 344, []), (344, .if_icmp .ne (7), 347, [351]), (347, .iconst 1, 348, []), (348, .goto (4), 351, [352]), (351, .iconst 0, 352, []), (352, .iconst 1, 353, []), (353, .invokevirtual 160, 356, []), (356, .ifCond .eq (7), 359, [363]), (359, .iconst 1, 360, []), (360, .goto (4), 363, [364]), (363, .iconst 0, 364, []), (364, .ireturn, 365, []), (365, .iload_n 2, 366, []), (366, .ifCond .lt (34), 369, [400]), (369, .aload_n 0, 370, []), (370, .aload_n 0, 371, []), (371, .iload_n 2, 372, []), (372, .bipush (7), 374, []), (374, .invokevirtual 170, 377, []), (377, .ifCond .eq (11), 380, [388]), (380, .iload_n 2, 381, []), (381, .ifCond .eq (7), 384, [388]), (384, .iconst 1, 385, []), (385, .goto (4), 388, [389]), (388, .iconst 0, 389, []), (389, .iconst 1, 390, []), (390, .invokevirtual 160, 393, []), (393, .ifCond .eq (7), 396, [400]), (396, .iconst 1, 397, []), (397, .goto (4), 400, [401]), (400, .iconst 0, 401, []), (401, .ireturn, 402, [])]
def cd_mo_typeFor : zm_C := [(0, .iload_n 0, 1, []), (1, .ifCond .ne (7), 4, [8]), (4, .iconst 1, 5, []), (5, .goto (31), 8, [36]), (8, .iload_n 0, 9, []), (9, .iconst 1, 10, []), (10, .if_icmp .ne (7), 13, [17]), (13, .iconst 4, 14, []), (14, .goto (22), 17, [36]), (17, .iload_n 0, 18, []), (18, .iconst 2, 19, []), (19, .if_icmp .ne (7), 22, [26]), (22, .iconst 2, 23, []), (23, .goto (13), 26, [36]), (26, .iload_n 0, 27, []), (27, .iconst 3, 28, []), (28, .if_icmp .ne (7), 31, [35]), (31, .iconst 3, 32, []), (32, .goto (4), 35, [36]), (35, .iconst (-1), 36, []), (36, .ireturn, 37, [])]
def cd_mo_isPointer : zm_C := [(0, .iload_n 0, 1, []), (1, .iconst 5, 2, []), (2, .if_icmp .eq (16), 5, [18]), (5, .iload_n 0, 6, []), (6, .ifCond .le (16), 9, [22]), (9, .iload_n 0, 10, []), (10, .invokestatic 89, 13, []), (13, .bipush (7), 15, []), (15, .if_icmp .ne (7), 18, [22]), (18, .iconst 1, 19, []), (19, .goto (4), 22, [23]), (22, .iconst 0, 23, []), (23, .ireturn, 24, [])]
def cd_mo_isReference : zm_C := [(0, .iload_n 0, 1, []), (1, .invokestatic 148, 4, []), (4, .ifCond .ne (22), 7, [26]), (7, .iload_n 0, 8, []), (8, .bipush (6), 10, []), (10, .if_icmp .eq (16), 13, [26]), (13, .iload_n 0, 14, []), (14, .ifCond .le (16), 17, [30]), (17, .iload_n 0, 18, []), (18, .invokestatic 89, 21, []), (21, .bipush (8), 23, []), (23, .if_icmp .ne (7), 26, [30]), (26, .iconst 1, 27, []), (27, .goto (4), 30, [31]), (30, .iconst 0, 31, []), (31, .ireturn, 32, [])]
def cd_mo_move : zm_C := [(0, .iload_n 1, 1, []), (1, .bipush (26), 3, []), (3, .if_icmp .ge (10), 6, [13]), (6, .iload_n 1, 7, []), (7, .bipush (21), 9, []), (9, .isub, 10, []), (10, .goto (7), 13, [17]), (13, .iload_n 1, 14, []), (14, .bipush (26), 16, []), (16, .isub, 17, []), (17, .invokestatic 173, 20, []), (20, .istore_n 3, 21, []), (21, .iload_n 1, 22, []), (22, .bipush (26), 24, []), (24, .if_icmp .ge (51), 27, [75]), (27, .iload_n 3, 28, []), (28, .ifCond .ge (18), 31, [46]), (31, .aload_n 0, 32, []), (32, .getfield 44, 35, []), (35, .iload_n 2, 36, []), (36, .iaload, 37, []), (37, .invokestatic 176, 40, []), (40, .ifCond .eq (33), 43, [73]), (43, .goto (13), 46, [56]), (46, .aload_n 0, 47, []), (47, .getfield 44, 50, []), (50, .iload_n 2, 51, []), (51, .iaload, 52, []), (52, .iload_n 3, 53, []), (53, .if_icmp .ne (20), 56, [73]), (56, .aload_n 0, 57, []), (57, .aload_n 0, 58, []), (58, .getfield 44, 61, []), (61, .iload_n 2, 62, []), (62, .iaload, 63, []), (63, .invokevirtual 154, 66, []), (66, .ifCond .eq (7), 69, [73]), (69, .iconst 1, 70, []), (70, .goto (4), 73, [74]), (73, .iconst 0, 74, []), (74, .ireturn, 75, []), (75, .aload_n 0, 76, []), (76, .iconst 1, 77, []), (77, .invokevirtual 151, 80, []), (80, .istore 4, 82, []), (82, .iload_n 3, 83, []), (83, .ifCond .ge (14), 86, [97]), (86, .iload 4, 88, []), (88, .invokestatic 176, 91, []), (91, .ifCond .ne (14), 94, [105]), (94, .goto (9), 97, [103]), (97, .iload 4, 99, []), (99, .iload_n 3, 100, []), (100, .if_icmp .eq (5), 103, [105]), (103, .iconst 0, 104, []), (104, .ireturn, 105, []), (105, .aload_n 0, 106, []), (106, .dup, 107, []), (107, .getfield 138, 110, []), (110, .iconst 1, 111, []), (111, .isub, 112, []), (112, .putfield 138, 115, []), (115, .iload_n 2, 116, []), (116, .ifCond .le (26), 119, [142]), (119, .aload_n 0, 120, []), (120, .getfield 44, 123, []), (123, .iload_n 2, 124, []), (124, .iconst 1, 125, []), (125, .isub, 126, []), (126, .iaload, 127, []), (127, .invokestatic 135, 130, []), (130, .ifCond .eq (12), 133, [142]), (133, .aload_n 0, 134, []), (134, .getfield 44, 137, []), (137, .iload_n 2, 138, []), (138, .iconst 1, 139, []), (139, .isub, 140, []), (140, .iconst 0, 141, []), (141, .iastore, 142, []), (142, .aload_n 0, 143, []), (143, .getfield 44, 146, []), (146, .iload_n 2, 147, []), (147, .iload 4, 149, []), (149, .iastore, 150, []), (150, .iload 4, 152, []), (152, .invokestatic 135, 155, []), (155, .ifCond .eq (12), 158, [167]), (158, .aload_n 0, 159, []), (159, .getfield 44, 162, []), (162, .iload_n 2, 163, []), (163, .iconst 1, 164, []), (164, .iadd, 165, []), (165, .iconst 0, 166, []), (166, .iastore, 167, []), (167, .iconst 1, 168, []), (168, .ireturn, 169, [])]
def cd_mo_sizeOf : zm_C := [(0, .iload_n 0, 1, []), (1, .bipush (20), 3, []), (3, .if_icmp .gt (7), 6, [10]), (6, .iconst 1, 7, []), (7, .goto (14), 10, [21]), (10, .iload_n 0, 11, []), (11, .bipush (30), 13, []), (13, .if_icmp .gt (7), 16, [20]), (16, .iconst 2, 17, []), (17, .goto (4), 20, [21]), (20, .iconst 3, 21, []), (21, .ireturn, 22, [])]
def cd_mo_offset : zm_C := [(0, .iconst 0, 1, []), (1, .istore_n 2, 2, []), (2, .iconst 0, 3, []), (3, .istore_n 3, 4, []), (4, .iload_n 3, 5, []), (5, .iload_n 1, 6, []), (6, .if_icmp .ge (21), 9, [27]), (9, .iload_n 2, 10, []), (10, .aload_n 0, 11, []), (11, .getfield 20, 14, []), (14, .iload_n 3, 15, []), (15, .iaload, 16, []), (16, .invokestatic 132, 19, []), (19, .iadd, 20, []), (20, .istore_n 2, 21, []), (21, .iinc 3 (1), 24, []), (24, .goto (-20), 27, [4]), (27, .iload_n 2, 28, []), (28, .ireturn, 29, [])]
def cd_mo_placeAt : zm_C := [(0, .iconst 0, 1, []), (1, .istore_n 2, 2, []), (2, .iconst 0, 3, []), (3, .istore_n 3, 4, []), (4, .iload_n 3, 5, []), (5, .aload_n 0, 6, []), (6, .getfield 115, 9, []), (9, .if_icmp .ge (28), 12, [37]), (12, .iload_n 2, 13, []), (13, .iload_n 1, 14, []), (14, .if_icmp .ne (5), 17, [19]), (17, .iload_n 3, 18, []), (18, .ireturn, 19, []), (19, .iload_n 2, 20, []), (20, .aload_n 0, 21, []), (21, .getfield 20, 24, []), (24, .iload_n 3, 25, []), (25, .iaload, 26, []), (26, .invokestatic 132, 29, []), (29, .iadd, 30, []), (30, .istore_n 2, 31, []), (31, .iinc 3 (1), 34, []), (34, .goto (-30), 37, [4]), (37, .iconst (-1), 38, []), (38, .ireturn, 39, [])]
def cd_mo_init : zm_C := [(0, .aload_n 0, 1, []), (1, .iconst 1, 2, []), (2, .invokevirtual 151, 5, []), (5, .istore_n 2, 6, []), (6, .iload_n 2, 7, []), (7, .bipush (6), 9, []), (9, .if_icmp .ne (7), 12, [16]), (12, .iconst 1, 13, []), (13, .goto (4), 16, [17]), (16, .iconst 0, 17, []), (17, .istore_n 3, 18, []), (18, .iload_n 3, 19, []), (19, .ifCond .eq (34), 22, [53]), (22, .iload_n 1, 23, []), (23, .aload_n 0, 24, []), (24, .getfield 101, 27, []), (27, .if_icmp .eq (42), 30, [69]), (30, .aload_n 0, 31, []), (31, .getfield 101, 34, []), (34, .ifCond .eq (33), 37, [67]), (37, .iload_n 1, 38, []), (38, .aload_n 0, 39, []), (39, .getfield 7, 42, []), (42, .aload_n 0, 43, []), (43, .getfield 101, 46, []), (46, .iaload, 47, []), (47, .if_icmp .eq (22), 50, [69]), (50, .goto (17), 53, [67]), (53, .iload_n 2, 54, []), (54, .iconst 1, 55, []), (55, .if_icmp .lt (12), 58, [67]), (58, .iload_n 2, 59, []), (59, .invokestatic 89, 62, []), (62, .bipush (8), 64, []), (64, .if_icmp .eq (5), 67, [69]), (67, .iconst 0, 68, []), (68, .ireturn, 69, []), (69, .iload_n 3, 70, []), (70, .ifCond .ne (42), 73, [112]), (73, .aload_n 0, 74, []), (74, .iload_n 2, 75, []), (75, .iconst 4, 76, []), (76, .ishr, 77, []), (77, .invokevirtual 179, 80, []), (80, .istore 4, 82, []), (82, .iload 4, 84, []), (84, .ifCond .lt (26), 87, [110]), (87, .aload_n 0, 88, []), (88, .getfield 20, 91, []), (91, .iload 4, 93, []), (93, .iaload, 94, []), (94, .bipush (35), 96, []), (96, .if_icmp .ne (14), 99, [110]), (99, .aload_n 0, 100, []), (100, .getfield 23, 103, []), (103, .iload 4, 105, []), (105, .iaload, 106, []), (106, .iload_n 1, 107, []), (107, .if_icmp .eq (5), 110, [112]), (110, .iconst 0, 111, []), (111, .ireturn, 112, []), (112, .bipush (16), 114, []), (114, .iload_n 3, 115, []), (115, .ifCond .eq (10), 118, [125]), (118, .aload_n 0, 119, []), (119, .getfield 101, 122, []), (122, .goto (4), 125, [126]), (125, .iload_n 1, 126, []), (126, .imul, 127, []), (127, .bipush (7), 129, []), (129, .iadd, 130, []), (130, .istore 4, 132, []), (132, .aload_n 0, 133, []), (133, .dup, 134, []), (134, .getfield 138, 137, []), (137, .iconst 1, 138, []), (138, .isub, 139, []), (139, .putfield 138, 142, []), (142, .iconst 0, 143, []), (143, .istore 5, 145, []), (145, .iload 5, 147, []), (147, .aload_n 0, 148, []), (148, .getfield 138, 151, []), (151, .if_icmp .ge (29), 154, [180]), (154, .aload_n 0, 155, []), (155, .getfield 47, 158, []), (158, .iload 5, 160, []), (160, .iaload, 161, []), (161, .iload_n 2, 162, []), (162, .if_icmp .ne (12), 165, [174]), (165, .aload_n 0, 166, []), (166, .getfield 47, 169, []), (169, .iload 5, 171, []), (171, .iload 4, 173, []), (173, .iastore, 174, []), (174, .iinc 5 (1), 177, []), (177, .goto (-32), 180, [145]), (180, .iconst 0, 181, []), (181, .istore 5, 183, []), (183, .iload 5, 185, []), (185, .bipush (10), 187, []), (187, .if_icmp .ge (29), 190, [216]), (190, .aload_n 0, 191, []), (191, .getfield 44, 194, []), (194, .iload 5, 196, []), (196, .iaload, 197, []), (197, .iload_n 2, 198, []), (198, .if_icmp .ne (12), 201, [210]), (201, .aload_n 0, 202, []), (202, .getfield 44, 205, []), (205, .iload 5, 207, []), (207, .iload 4, 209, []), (209, .iastore, 210, []), (210, .iinc 5 (1), 213, []), (213, .goto (-30), 216, [183]), (216, .iload_n 3, 217, []), (217, .ifCond .eq (8), 220, [225]), (220, .aload_n 0, 221, []), (221, .iconst 0, 222, []), (222, .putfield 141, 225, []), (225, .iconst 1, 226, []), (226, .ireturn, 227, [])]
def cd_mo_leave : zm_C := [(0, .aload_n 0, 1, []), (1, .getfield 20, 4, []), (4, .iload_n 1, 5, []), (5, .iaload, 6, []), (6, .istore_n 2, 7, []), (7, .aload_n 0, 8, []), (8, .getfield 23, 11, []), (11, .iload_n 1, 12, []), (12, .iaload, 13, []), (13, .istore_n 3, 14, []), (14, .aload_n 0, 15, []), (15, .iconst 1, 16, []), (16, .invokevirtual 151, 19, []), (19, .istore 4, 21, []), (21, .iload_n 2, 22, []), (22, .bipush (20), 24, []), (24, .if_icmp .gt (9), 27, [33]), (27, .aload_n 0, 28, []), (28, .iload_n 2, 29, []), (29, .invokevirtual 182, 32, []), (32, .ireturn, 33, []), (33, .iload_n 2, 34, []), (34, .bipush (30), 36, []), (36, .if_icmp .gt (10), 39, [46]), (39, .aload_n 0, 40, []), (40, .iload_n 2, 41, []), (41, .iload_n 3, 42, []), (42, .invokevirtual 185, 45, []), (45, .ireturn, 46, []), (46, .iload_n 2, 47, []), (47, .tableswitch (119) 31 36 #[37, 39, 56, 67, 97, 113], 84, [166, 84, 86, 103, 114, 144, 160]), (84, .iconst 1, 85, []), (85, .ireturn, 86, []), (86, .aload_n 0, 87, []), (87, .iload 4, 89, []), (89, .iconst 1, 90, []), (90, .if_icmp .ne (7), 93, [97]), (93, .iconst 1, 94, []), (94, .goto (4), 97, [98]), (97, .iconst 0, 98, []), (98, .iconst 1, 99, []), (99, .invokevirtual 160, 102, []), (102, .ireturn, 103, []), (103, .aload_n 0, 104, []), (104, .iload 4, 106, []), (106, .invokestatic 148, 109, []), (109, .iconst 1, 110, []), (110, .invokevirtual 160, 113, []), (113, .ireturn, 114, []), (114, .aload_n 0, 115, []), (115, .iload 4, 117, []), (117, .invokestatic 148, 120, []), (120, .ifCond .eq (18), 123, [138]), (123, .aload_n 0, 124, []), (124, .iconst 2, 125, []), (125, .invokevirtual 151, 128, []), (128, .invokestatic 148, 131, []), (131, .ifCond .eq (7), 134, [138]), (134, .iconst 1, 135, []), (135, .goto (4), 138, [139]), (138, .iconst 0, 139, []), (139, .iconst 2, 140, []), (140, .invokevirtual 160, 143, []), (143, .ireturn, 144, []), (144, .aload_n 0, 145, []), (145, .bipush (16), 147, []), (147, .aload_n 0, 148, []), (148, .iload_n 1, 149, []), (149, .invokevirtual 188, 152, []), (152, .imul, 153, []), (153, .bipush (8), 155, []), (155, .iadd, 156, []), (156, .invokevirtual 154, 159, []), (159, .ireturn, 160, []), (160, .aload_n 0, 161, []), (161, .iload_n 3, 162, []), (162, .invokevirtual 191, 165, []), (165, .ireturn, 166, []), (166, .iload_n 2, 167, []), (167, .bipush (39), 169, []), (169, .if_icmp .ne (7), 172, [176]), (172, .iconst 0, 173, []), (173, .goto (4), 176, [177]), (176, .iload_n 3, 177, []), (177, .istore 5, 179, []), (179, .iload 4, 181, []), (181, .invokestatic 148, 184, []), (184, .ifCond .eq (20), 187, [204]), (187, .aload_n 0, 188, []), (188, .iload 4, 190, []), (190, .bipush (16), 192, []), (192, .iload 5, 194, []), (194, .imul, 195, []), (195, .bipush (7), 197, []), (197, .iadd, 198, []), (198, .invokevirtual 170, 201, []), (201, .ifCond .ne (5), 204, [206]), (204, .iconst 0, 205, []), (205, .ireturn, 206, []), (206, .aload_n 0, 207, []), (207, .dup, 208, []), (208, .getfield 138, 211, []), (211, .iconst 1, 212, []), (212, .isub, 213, []), (213, .putfield 138, 216, []), (216, .aload_n 0, 217, []), (217, .iload_n 2, 218, []), (218, .bipush (37), 220, []), (220, .if_icmp .ne (7), 223, [227]), (223, .iconst 1, 224, []), (224, .goto (25), 227, [249]), (227, .bipush (16), 229, []), (229, .iload_n 2, 230, []), (230, .bipush (38), 232, []), (232, .if_icmp .ne (12), 235, [244]), (235, .aload_n 0, 236, []), (236, .getfield 26, 239, []), (239, .iload_n 1, 240, []), (240, .iaload, 241, []), (241, .goto (4), 244, [245]), (244, .iload_n 3, 245, []), (245, .imul, 246, []), (246, .bipush (7), 248, []), (248, .iadd, 249, []), (249, .invokevirtual 154, 252, []), (252, .ireturn, 253, [])]
def cd_mo_isEnd : zm_C := [(0, .iload_n 0, 1, []), (1, .bipush (18), 3, []), (3, .bipush (20), 5, []), (5, .invokestatic 97, 8, []), (8, .ifCond .ne (9), 11, [17]), (11, .iload_n 0, 12, []), (12, .bipush (31), 14, []), (14, .if_icmp .ne (7), 17, [21]), (17, .iconst 1, 18, []), (18, .goto (4), 21, [22]), (21, .iconst 0, 22, []), (22, .ireturn, 23, [])]
def cd_mo_goHandled : zm_C := [(0, .iconst 0, 1, []), (1, .istore_n 2, 2, []), (2, .iload_n 2, 3, []), (3, .aload_n 0, 4, []), (4, .getfield 118, 7, []), (7, .if_icmp .ge (77), 10, [84]), (10, .aload_n 0, 11, []), (11, .getfield 194, 14, []), (14, .ifCond .eq (70), 17, [84]), (17, .iload_n 1, 18, []), (18, .aload_n 0, 19, []), (19, .getfield 29, 22, []), (22, .iload_n 2, 23, []), (23, .iaload, 24, []), (24, .if_icmp .lt (54), 27, [78]), (27, .iload_n 1, 28, []), (28, .aload_n 0, 29, []), (29, .getfield 32, 32, []), (32, .iload_n 2, 33, []), (33, .iaload, 34, []), (34, .if_icmp .lt (6), 37, [40]), (37, .goto (41), 40, [78]), (40, .aload_n 0, 41, []), (41, .iload_n 1, 42, []), (42, .invokevirtual 207, 45, []), (45, .aload_n 0, 46, []), (46, .iconst 1, 47, []), (47, .putfield 138, 50, []), (50, .aload_n 0, 51, []), (51, .getfield 47, 54, []), (54, .iconst 0, 55, []), (55, .bipush (16), 57, []), (57, .aload_n 0, 58, []), (58, .getfield 38, 61, []), (61, .iload_n 2, 62, []), (62, .iaload, 63, []), (63, .imul, 64, []), (64, .bipush (7), 66, []), (66, .iadd, 67, []), (67, .iastore, 68, []), (68, .aload_n 0, 69, []), (69, .aload_n 0, 70, []), (70, .getfield 35, 73, []), (73, .iload_n 2, 74, []), (74, .iaload, 75, []), (75, .invokevirtual 211, 78, []), (78, .iinc 2 (1), 81, []), (81, .goto (-79), 84, [2]), (84, .return_, 85, [])]
def cd_mo_hasRow : zm_C := [(0, .iload_n 1, 1, []), (1, .ifCond .le (19), 4, [20]), (4, .aload_n 0, 5, []), (5, .getfield 20, 8, []), (8, .iload_n 1, 9, []), (9, .iconst 1, 10, []), (10, .isub, 11, []), (11, .iaload, 12, []), (12, .invokestatic 204, 15, []), (15, .ifCond .eq (5), 18, [20]), (18, .iconst 1, 19, []), (19, .ireturn, 20, []), (20, .iconst 0, 21, []), (21, .istore_n 2, 22, []), (22, .iload_n 2, 23, []), (23, .aload_n 0, 24, []), (24, .getfield 115, 27, []), (27, .if_icmp .ge (37), 30, [64]), (30, .aload_n 0, 31, []), (31, .getfield 20, 34, []), (34, .iload_n 2, 35, []), (35, .iaload, 36, []), (36, .bipush (31), 38, []), (38, .bipush (34), 40, []), (40, .invokestatic 97, 43, []), (43, .ifCond .eq (15), 46, [58]), (46, .aload_n 0, 47, []), (47, .getfield 26, 50, []), (50, .iload_n 2, 51, []), (51, .iaload, 52, []), (52, .iload_n 1, 53, []), (53, .if_icmp .ne (5), 56, [58]), (56, .iconst 1, 57, []), (57, .ireturn, 58, []), (58, .iinc 2 (1), 61, []), (61, .goto (-39), 64, [22]), (64, .iconst 0, 65, []), (65, .istore_n 2, 66, []), (66, .iload_n 2, 67, []), (67, .aload_n 0, 68, []), (68, .getfield 118, 71, []), (71, .if_icmp .ge (21), 74, [92]), (74, .aload_n 0, 75, []), (75, .getfield 35, 78, []), (78, .iload_n 2, 79, []), (79, .iaload, 80, []), (80, .iload_n 1, 81, []), (81, .if_icmp .ne (5), 84, [86]), (84, .iconst 1, 85, []), (85, .ireturn, 86, []), (86, .iinc 2 (1), 89, []), (89, .goto (-23), 92, [66]), (92, .iconst 0, 93, []), (93, .ireturn, 94, [])]
def cd_mo_hasThis : zm_C := [(0, .iconst 0, 1, []), (1, .istore_n 2, 2, []), (2, .iload_n 2, 3, []), (3, .bipush (10), 5, []), (5, .if_icmp .ge (27), 8, [32]), (8, .aload_n 0, 9, []), (9, .getfield 59, 12, []), (12, .bipush (10), 14, []), (14, .iload_n 1, 15, []), (15, .imul, 16, []), (16, .iload_n 2, 17, []), (17, .iadd, 18, []), (18, .iaload, 19, []), (19, .bipush (6), 21, []), (21, .if_icmp .ne (5), 24, [26]), (24, .iconst 1, 25, []), (25, .ireturn, 26, []), (26, .iinc 2 (1), 29, []), (29, .goto (-27), 32, [2]), (32, .iconst 0, 33, []), (33, .ireturn, 34, [])]
def cd_mo_isRight : zm_C := [(0, .aload_n 0, 1, []), (1, .aload_n 0, 2, []), (2, .getfield 115, 5, []), (5, .ifCond .le (7), 8, [12]), (8, .iconst 1, 9, []), (9, .goto (4), 12, [13]), (12, .iconst 0, 13, []), (13, .putfield 194, 16, []), (16, .iconst 0, 17, []), (17, .istore_n 1, 18, []), (18, .iload_n 1, 19, []), (19, .bipush (50), 21, []), (21, .if_icmp .ge (16), 24, [37]), (24, .aload_n 0, 25, []), (25, .getfield 50, 28, []), (28, .iload_n 1, 29, []), (29, .iconst 0, 30, []), (30, .bastore, 31, []), (31, .iinc 1 (1), 34, []), (34, .goto (-16), 37, [18]), (37, .aload_n 0, 38, []), (38, .getfield 194, 41, []), (41, .ifCond .ne (5), 44, [46]), (44, .iconst 0, 45, []), (45, .ireturn, 46, []), (46, .aload_n 0, 47, []), (47, .invokevirtual 214, 50, []), (50, .aload_n 0, 51, []), (51, .iconst 0, 52, []), (52, .invokevirtual 211, 55, []), (55, .aload_n 0, 56, []), (56, .iconst 1, 57, []), (57, .putfield 201, 60, []), (60, .aload_n 0, 61, []), (61, .getfield 201, 64, []), (64, .ifCond .eq (138), 67, [202]), (67, .aload_n 0, 68, []), (68, .getfield 194, 71, []), (71, .ifCond .eq (131), 74, [202]), (74, .aload_n 0, 75, []), (75, .iconst 0, 76, []), (76, .putfield 201, 79, []), (79, .iconst 0, 80, []), (80, .istore_n 1, 81, []), (81, .iload_n 1, 82, []), (82, .aload_n 0, 83, []), (83, .getfield 115, 86, []), (86, .if_icmp .ge (113), 89, [199]), (89, .aload_n 0, 90, []), (90, .getfield 194, 93, []), (93, .ifCond .eq (106), 96, [199]), (96, .aload_n 0, 97, []), (97, .getfield 50, 100, []), (100, .iload_n 1, 101, []), (101, .baload, 102, []), (102, .ifCond .ne (6), 105, [108]), (105, .goto (88), 108, [193]), (108, .aload_n 0, 109, []), (109, .iload_n 1, 110, []), (110, .invokevirtual 207, 113, []), (113, .aload_n 0, 114, []), (114, .aload_n 0, 115, []), (115, .iload_n 1, 116, []), (116, .invokevirtual 217, 119, []), (119, .putfield 194, 122, []), (122, .aload_n 0, 123, []), (123, .getfield 194, 126, []), (126, .ifCond .eq (29), 129, [155]), (129, .aload_n 0, 130, []), (130, .getfield 20, 133, []), (133, .iload_n 1, 134, []), (134, .iaload, 135, []), (135, .bipush (31), 137, []), (137, .bipush (34), 139, []), (139, .invokestatic 97, 142, []), (142, .ifCond .eq (13), 145, [155]), (145, .aload_n 0, 146, []), (146, .aload_n 0, 147, []), (147, .getfield 26, 150, []), (150, .iload_n 1, 151, []), (151, .iaload, 152, []), (152, .invokevirtual 211, 155, []), (155, .aload_n 0, 156, []), (156, .getfield 194, 159, []), (159, .ifCond .eq (22), 162, [181]), (162, .aload_n 0, 163, []), (163, .getfield 20, 166, []), (166, .iload_n 1, 167, []), (167, .iaload, 168, []), (168, .invokestatic 204, 171, []), (171, .ifCond .ne (10), 174, [181]), (174, .aload_n 0, 175, []), (175, .iload_n 1, 176, []), (176, .iconst 1, 177, []), (177, .iadd, 178, []), (178, .invokevirtual 211, 181, []), (181, .aload_n 0, 182, []), (182, .getfield 194, 185, []), (185, .ifCond .eq (8), 188, [193]), (188, .aload_n 0, 189, []), (189, .iload_n 1, 190, []), (190, .invokevirtual 220, 193, []), (193, .iinc 1 (1), 196, []), (196, .goto (-115), 199, [81]), (199, .goto (-139), 202, [60]), (202, .iconst 0, 203, []), (203, .istore_n 1, 204, []), (204, .iload_n 1, 205, []), (205, .aload_n 0, 206, []), (206, .getfield 115, 209, []), (209, .if_icmp .ge (55), 212, [264]), (212, .aload_n 0, 213, []), (213, .getfield 194, 216, []), (216, .ifCond .eq (48), 219, [264]), (219, .aload_n 0, 220, []), (220, .getfield 50, 223, []), (223, .iload_n 1, 224, []), (224, .baload, 225, []), (225, .ifCond .eq (28), 228, [253]), (228, .aload_n 0, 229, []), (229, .getfield 53, 232, []), (232, .iload_n 1, 233, []), (233, .baload, 234, []), (234, .ifCond .eq (24), 237, [258]), (237, .aload_n 0, 238, []), (238, .iload_n 1, 239, []), (239, .invokevirtual 223, 242, []), (242, .ifCond .eq (16), 245, [258]), (245, .aload_n 0, 246, []), (246, .iload_n 1, 247, []), (247, .invokevirtual 226, 250, []), (250, .ifCond .ne (8), 253, [258]), (253, .aload_n 0, 254, []), (254, .iconst 0, 255, []), (255, .putfield 194, 258, []), (258, .iinc 1 (1), 261, []), (261, .goto (-57), 264, [204]), (264, .aload_n 0, 265, []), (265, .getfield 194, 268, []), (268, .ireturn, 269, [])]
def cd_mo_enlist : zm_C := [(0, .aload_n 0, 1, []), (1, .iconst 0, 2, []), (2, .putfield 233, 5, []), (5, .iconst 0, 6, []), (6, .istore_n 1, 7, []), (7, .iload_n 1, 8, []), (8, .bipush (10), 10, []), (10, .if_icmp .ge (49), 13, [59]), (13, .aload_n 0, 14, []), (14, .getfield 80, 17, []), (17, .aload_n 0, 18, []), (18, .getfield 233, 21, []), (21, .aload_n 0, 22, []), (22, .getfield 44, 25, []), (25, .iload_n 1, 26, []), (26, .iaload, 27, []), (27, .iastore, 28, []), (28, .aload_n 0, 29, []), (29, .dup, 30, []), (30, .getfield 233, 33, []), (33, .iconst 1, 34, []), (34, .iadd, 35, []), (35, .putfield 233, 38, []), (38, .aload_n 0, 39, []), (39, .getfield 44, 42, []), (42, .iload_n 1, 43, []), (43, .iaload, 44, []), (44, .invokestatic 135, 47, []), (47, .ifCond .eq (6), 50, [53]), (50, .iinc 1 (1), 53, []), (53, .iinc 1 (1), 56, []), (56, .goto (-49), 59, [7]), (59, .aload_n 0, 60, []), (60, .getfield 233, 63, []), (63, .ifCond .le (30), 66, [93]), (66, .aload_n 0, 67, []), (67, .getfield 80, 70, []), (70, .aload_n 0, 71, []), (71, .getfield 233, 74, []), (74, .iconst 1, 75, []), (75, .isub, 76, []), (76, .iaload, 77, []), (77, .ifCond .ne (16), 80, [93]), (80, .aload_n 0, 81, []), (81, .dup, 82, []), (82, .getfield 233, 85, []), (85, .iconst 1, 86, []), (86, .isub, 87, []), (87, .putfield 233, 90, []), (90, .goto (-31), 93, [59]), (93, .return_, 94, [])]
def cd_mo_keep : zm_C := [(0, .iconst 0, 1, []), (1, .istore_n 1, 2, []), (2, .iload_n 1, 3, []), (3, .aload_n 0, 4, []), (4, .getfield 233, 7, []), (7, .if_icmp .ge (21), 10, [28]), (10, .aload_n 0, 11, []), (11, .getfield 83, 14, []), (14, .iload_n 1, 15, []), (15, .aload_n 0, 16, []), (16, .getfield 80, 19, []), (19, .iload_n 1, 20, []), (20, .iaload, 21, []), (21, .iastore, 22, []), (22, .iinc 1 (1), 25, []), (25, .goto (-23), 28, [2]), (28, .aload_n 0, 29, []), (29, .aload_n 0, 30, []), (30, .getfield 233, 33, []), (33, .putfield 236, 36, []), (36, .return_, 37, [])]
def cd_mo_begins : zm_C := [(0, .aload_n 0, 1, []), (1, .getfield 233, 4, []), (4, .aload_n 0, 5, []), (5, .getfield 236, 8, []), (8, .if_icmp .ge (10), 11, [18]), (11, .aload_n 0, 12, []), (12, .getfield 233, 15, []), (15, .goto (7), 18, [22]), (18, .aload_n 0, 19, []), (19, .getfield 236, 22, []), (22, .istore_n 1, 23, []), (23, .iconst 0, 24, []), (24, .istore_n 2, 25, []), (25, .iload_n 2, 26, []), (26, .iload_n 1, 27, []), (27, .if_icmp .ge (26), 30, [53]), (30, .aload_n 0, 31, []), (31, .getfield 80, 34, []), (34, .iload_n 2, 35, []), (35, .iaload, 36, []), (36, .aload_n 0, 37, []), (37, .getfield 83, 40, []), (40, .iload_n 2, 41, []), (41, .iaload, 42, []), (42, .if_icmp .eq (5), 45, [47]), (45, .iconst 0, 46, []), (46, .ireturn, 47, []), (47, .iinc 2 (1), 50, []), (50, .goto (-25), 53, [25]), (53, .iconst 1, 54, []), (54, .ireturn, 55, [])]
def cd_mo_write : zm_C := [(0, .aload_n 0, 1, []), (1, .getfield 86, 4, []), (4, .aload_n 0, 5, []), (5, .getfield 239, 8, []), (8, .iload_n 1, 9, []), (9, .iastore, 10, []), (10, .aload_n 0, 11, []), (11, .dup, 12, []), (12, .getfield 239, 15, []), (15, .iconst 1, 16, []), (16, .iadd, 17, []), (17, .putfield 239, 20, []), (20, .return_, 21, [])]
def cd_mo_writeTwo : zm_C := [(0, .aload_n 0, 1, []), (1, .iload_n 1, 2, []), (2, .bipush (8), 4, []), (4, .ishr, 5, []), (5, .sipush (255), 8, []), (8, .iand, 9, []), (9, .invokevirtual 242, 12, []), (12, .aload_n 0, 13, []), (13, .iload_n 1, 14, []), (14, .sipush (255), 17, []), (17, .iand, 18, []), (18, .invokevirtual 242, 21, []), (21, .return_, 22, [])]
def cd_mo_writeType : zm_C := [(0, .aload_n 0, 1, []), (1, .iload_n 1, 2, []), (2, .invokestatic 89, 5, []), (5, .invokevirtual 242, 8, []), (8, .iload_n 1, 9, []), (9, .invokestatic 89, 12, []), (12, .bipush (6), 14, []), (14, .if_icmp .le (10), 17, [24]), (17, .aload_n 0, 18, []), (18, .iload_n 1, 19, []), (19, .iconst 4, 20, []), (20, .ishr, 21, []), (21, .invokevirtual 245, 24, []), (24, .return_, 25, [])]
def cd_mo_writeRow : zm_C := [(0, .aload_n 0, 1, []), (1, .invokevirtual 248, 4, []), (4, .istore_n 2, 5, []), (5, .aload_n 0, 6, []), (6, .getfield 233, 9, []), (9, .aload_n 0, 10, []), (10, .getfield 236, 13, []), (13, .isub, 14, []), (14, .istore_n 3, 15, []), (15, .iload_n 2, 16, []), (16, .ifCond .eq (43), 19, [59]), (19, .iload_n 3, 20, []), (20, .ifCond .ne (39), 23, [59]), (23, .aload_n 0, 24, []), (24, .getfield 138, 27, []), (27, .ifCond .ne (32), 30, [59]), (30, .iload_n 1, 31, []), (31, .bipush (64), 33, []), (33, .if_icmp .ge (11), 36, [44]), (36, .aload_n 0, 37, []), (37, .iload_n 1, 38, []), (38, .invokevirtual 242, 41, []), (41, .goto (232), 44, [273]), (44, .aload_n 0, 45, []), (45, .sipush (251), 48, []), (48, .invokevirtual 242, 51, []), (51, .aload_n 0, 52, []), (52, .iload_n 1, 53, []), (53, .invokevirtual 245, 56, []), (56, .goto (217), 59, [273]), (59, .iload_n 2, 60, []), (60, .ifCond .eq (57), 63, [117]), (63, .iload_n 3, 64, []), (64, .ifCond .ne (53), 67, [117]), (67, .aload_n 0, 68, []), (68, .getfield 138, 71, []), (71, .iconst 1, 72, []), (72, .if_icmp .ne (45), 75, [117]), (75, .iload_n 1, 76, []), (76, .bipush (64), 78, []), (78, .if_icmp .ge (14), 81, [92]), (81, .aload_n 0, 82, []), (82, .bipush (64), 84, []), (84, .iload_n 1, 85, []), (85, .iadd, 86, []), (86, .invokevirtual 242, 89, []), (89, .goto (15), 92, [104]), (92, .aload_n 0, 93, []), (93, .sipush (247), 96, []), (96, .invokevirtual 242, 99, []), (99, .aload_n 0, 100, []), (100, .iload_n 1, 101, []), (101, .invokevirtual 245, 104, []), (104, .aload_n 0, 105, []), (105, .aload_n 0, 106, []), (106, .getfield 47, 109, []), (109, .iconst 0, 110, []), (110, .iaload, 111, []), (111, .invokevirtual 251, 114, []), (114, .goto (159), 117, [273]), (117, .iload_n 2, 118, []), (118, .ifCond .eq (69), 121, [187]), (121, .iload_n 3, 122, []), (122, .bipush (-3), 124, []), (124, .iconst 3, 125, []), (125, .invokestatic 97, 128, []), (128, .ifCond .eq (59), 131, [187]), (131, .aload_n 0, 132, []), (132, .getfield 138, 135, []), (135, .ifCond .ne (52), 138, [187]), (138, .aload_n 0, 139, []), (139, .sipush (251), 142, []), (142, .iload_n 3, 143, []), (143, .iadd, 144, []), (144, .invokevirtual 242, 147, []), (147, .aload_n 0, 148, []), (148, .iload_n 1, 149, []), (149, .invokevirtual 245, 152, []), (152, .aload_n 0, 153, []), (153, .getfield 236, 156, []), (156, .istore 4, 158, []), (158, .iload 4, 160, []), (160, .aload_n 0, 161, []), (161, .getfield 233, 164, []), (164, .if_icmp .ge (20), 167, [184]), (167, .aload_n 0, 168, []), (168, .aload_n 0, 169, []), (169, .getfield 80, 172, []), (172, .iload 4, 174, []), (174, .iaload, 175, []), (175, .invokevirtual 251, 178, []), (178, .iinc 4 (1), 181, []), (181, .goto (-23), 184, [158]), (184, .goto (89), 187, [273]), (187, .aload_n 0, 188, []), (188, .sipush (255), 191, []), (191, .invokevirtual 242, 194, []), (194, .aload_n 0, 195, []), (195, .iload_n 1, 196, []), (196, .invokevirtual 245, 199, []), (199, .aload_n 0, 200, []), (200, .aload_n 0, 201, []), (201, .getfield 233, 204, []), (204, .invokevirtual 245, 207, []), (207, .iconst 0, 208, []), (208, .istore 4, 210, []), (210, .iload 4, 212, []), (212, .aload_n 0, 213, []), (213, .getfield 233, 216, []), (216, .if_icmp .ge (20), 219, [236]), (219, .aload_n 0, 220, []), (220, .aload_n 0, 221, []), (221, .getfield 80, 224, []), (224, .iload 4, 226, []), (226, .iaload, 227, []), (227, .invokevirtual 251, 230, []), (230, .iinc 4 (1), 233, []), (233, .goto (-23), 236, [210]), (236, .aload_n 0, 237, []), (237, .aload_n 0, 238, []), (238, .getfield 138, 241, []), (241, .invokevirtual 245, 244, []), (244, .iconst 0, 245, []), (245, .istore 4, 247, []), (247, .iload 4, 249, []), (249, .aload_n 0, 250, []), (250, .getfield 138, 253, []), (253, .if_icmp .ge (20), 256, [273]), (256, .aload_n 0, 257, []), (257, .aload_n 0, 258, []), (258, .getfield 47, 261, []), (261, .iload 4, 263, []), (263, .iaload, 264, []), (264, .invokevirtual 251, 267, []), (267, .iinc 4 (1), 270, []), (270, .goto (-23), 273, [247]), (273, .return_, 274, [])]
def cd_mo_make : zm_C := [(0, .aload_n 0, 1, []), (1, .invokevirtual 229, 4, []), (4, .istore_n 1, 5, []), (5, .iload_n 1, 6, []), (6, .ifCond .ne (6), 9, [12]), (9, .bipush (-4), 11, []), (11, .ireturn, 12, []), (12, .iconst 0, 13, []), (13, .istore_n 2, 14, []), (14, .iconst (-1), 15, []), (15, .istore_n 3, 16, []), (16, .aload_n 0, 17, []), (17, .iconst 0, 18, []), (18, .putfield 239, 21, []), (21, .aload_n 0, 22, []), (22, .invokevirtual 214, 25, []), (25, .aload_n 0, 26, []), (26, .invokevirtual 254, 29, []), (29, .aload_n 0, 30, []), (30, .invokevirtual 257, 33, []), (33, .iconst 0, 34, []), (34, .istore 4, 36, []), (36, .iload 4, 38, []), (38, .aload_n 0, 39, []), (39, .getfield 115, 42, []), (42, .if_icmp .ge (63), 45, [105]), (45, .aload_n 0, 46, []), (46, .iload 4, 48, []), (48, .invokevirtual 223, 51, []), (51, .istore 5, 53, []), (53, .iload 5, 55, []), (55, .ifCond .ne (6), 58, [61]), (58, .goto (41), 61, [99]), (61, .aload_n 0, 62, []), (62, .iload 4, 64, []), (64, .invokevirtual 188, 67, []), (67, .istore 6, 69, []), (69, .aload_n 0, 70, []), (70, .iload 4, 72, []), (72, .invokevirtual 207, 75, []), (75, .aload_n 0, 76, []), (76, .invokevirtual 254, 79, []), (79, .aload_n 0, 80, []), (80, .iload 6, 82, []), (82, .iload_n 3, 83, []), (83, .isub, 84, []), (84, .iconst 1, 85, []), (85, .isub, 86, []), (86, .invokevirtual 260, 89, []), (89, .aload_n 0, 90, []), (90, .invokevirtual 257, 93, []), (93, .iload 6, 95, []), (95, .istore_n 3, 96, []), (96, .iinc 2 (1), 99, []), (99, .iinc 4 (1), 102, []), (102, .goto (-66), 105, [36]), (105, .aload_n 0, 106, []), (106, .getfield 239, 109, []), (109, .sipush (400), 112, []), (112, .if_icmp .le (6), 115, [118]), (115, .bipush (-3), 117, []), (117, .ireturn, 118, []), (118, .iconst 0, 119, []), (119, .istore 4, 121, []), (121, .iload 4, 123, []), (123, .aload_n 0, 124, []), (124, .getfield 239, 127, []), (127, .if_icmp .ge (23), 130, [150]), (130, .aload_n 0, 131, []), (131, .getfield 41, 134, []), (134, .iload 4, 136, []), (136, .aload_n 0, 137, []), (137, .getfield 86, 140, []), (140, .iload 4, 142, []), (142, .iaload, 143, []), (143, .iastore, 144, []), (144, .iinc 4 (1), 147, []), (147, .goto (-26), 150, [121]), (150, .aload_n 0, 151, []), (151, .aload_n 0, 152, []), (152, .getfield 239, 155, []), (155, .putfield 263, 158, []), (158, .iload_n 2, 159, []), (159, .ireturn, 160, [])]
def cd_mo_flow : zm_C := [(0, .iload_n 2, 1, []), (1, .iconst 0, 2, []), (2, .bipush (17), 4, []), (4, .invokestatic 97, 7, []), (7, .ifCond .ne (16), 10, [23]), (10, .iload_n 2, 11, []), (11, .bipush (20), 13, []), (13, .bipush (21), 15, []), (15, .invokestatic 97, 18, []), (18, .ifCond .ne (5), 21, [23]), (21, .iconst (-1), 22, []), (22, .ireturn, 23, []), (23, .aload_n 0, 24, []), (24, .invokevirtual 229, 27, []), (27, .istore_n 3, 28, []), (28, .iload_n 3, 29, []), (29, .ifCond .eq (17), 32, [46]), (32, .iload_n 1, 33, []), (33, .iconst 0, 34, []), (34, .aload_n 0, 35, []), (35, .getfield 115, 38, []), (38, .iconst 1, 39, []), (39, .isub, 40, []), (40, .invokestatic 97, 43, []), (43, .ifCond .ne (6), 46, [49]), (46, .bipush (-2), 48, []), (48, .ireturn, 49, []), (49, .iload_n 2, 50, []), (50, .bipush (10), 52, []), (52, .if_icmp .ge (15), 55, [67]), (55, .aload_n 0, 56, []), (56, .getfield 59, 59, []), (59, .bipush (10), 61, []), (61, .iload_n 1, 62, []), (62, .imul, 63, []), (63, .iload_n 2, 64, []), (64, .iadd, 65, []), (65, .iaload, 66, []), (66, .ireturn, 67, []), (67, .iload_n 2, 68, []), (68, .bipush (18), 70, []), (70, .if_icmp .ge (36), 73, [106]), (73, .iload_n 2, 74, []), (74, .bipush (10), 76, []), (76, .isub, 77, []), (77, .aload_n 0, 78, []), (78, .getfield 56, 81, []), (81, .iload_n 1, 82, []), (82, .iaload, 83, []), (83, .if_icmp .ge (20), 86, [103]), (86, .aload_n 0, 87, []), (87, .getfield 62, 90, []), (90, .bipush (8), 92, []), (92, .iload_n 1, 93, []), (93, .imul, 94, []), (94, .iload_n 2, 95, []), (95, .iadd, 96, []), (96, .bipush (10), 98, []), (98, .isub, 99, []), (99, .iaload, 100, []), (100, .goto (5), 103, [105]), (103, .bipush (-2), 105, []), (105, .ireturn, 106, []), (106, .iload_n 2, 107, []), (107, .bipush (20), 109, []), (109, .if_icmp .ne (12), 112, [121]), (112, .aload_n 0, 113, []), (113, .getfield 56, 116, []), (116, .iload_n 1, 117, []), (117, .iaload, 118, []), (118, .goto (17), 121, [135]), (121, .aload_n 0, 122, []), (122, .getfield 53, 125, []), (125, .iload_n 1, 126, []), (126, .baload, 127, []), (127, .ifCond .eq (7), 130, [134]), (130, .iconst 1, 131, []), (131, .goto (4), 134, [135]), (134, .iconst 0, 135, []), (135, .ireturn, 136, [])]
def cd_mo_byteNext : zm_C := [(0, .aload_n 0, 1, []), (1, .getfield 266, 4, []), (4, .aload_n 0, 5, []), (5, .getfield 263, 8, []), (8, .if_icmp .lt (10), 11, [18]), (11, .aload_n 0, 12, []), (12, .iconst 1, 13, []), (13, .putfield 269, 16, []), (16, .iconst 0, 17, []), (17, .ireturn, 18, []), (18, .aload_n 0, 19, []), (19, .dup, 20, []), (20, .getfield 266, 23, []), (23, .iconst 1, 24, []), (24, .iadd, 25, []), (25, .putfield 266, 28, []), (28, .aload_n 0, 29, []), (29, .getfield 41, 32, []), (32, .aload_n 0, 33, []), (33, .getfield 266, 36, []), (36, .iconst 1, 37, []), (37, .isub, 38, []), (38, .iaload, 39, []), (39, .ireturn, 40, [])]
def cd_mo_twoNext : zm_C := [(0, .aload_n 0, 1, []), (1, .invokevirtual 272, 4, []), (4, .istore_n 1, 5, []), (5, .iload_n 1, 6, []), (6, .sipush (256), 9, []), (9, .imul, 10, []), (10, .aload_n 0, 11, []), (11, .invokevirtual 272, 14, []), (14, .iadd, 15, []), (15, .ireturn, 16, [])]
def cd_mo_typeNext : zm_C := [(0, .aload_n 0, 1, []), (1, .invokevirtual 272, 4, []), (4, .istore_n 1, 5, []), (5, .iload_n 1, 6, []), (6, .bipush (7), 8, []), (8, .if_icmp .eq (9), 11, [17]), (11, .iload_n 1, 12, []), (12, .bipush (8), 14, []), (14, .if_icmp .ne (10), 17, [24]), (17, .aload_n 0, 18, []), (18, .invokevirtual 275, 21, []), (21, .goto (4), 24, [25]), (24, .iconst 0, 25, []), (25, .istore_n 2, 26, []), (26, .iload_n 1, 27, []), (27, .bipush (8), 29, []), (29, .if_icmp .gt (15), 32, [44]), (32, .iload_n 1, 33, []), (33, .bipush (7), 35, []), (35, .if_icmp .ne (14), 38, [49]), (38, .iload_n 2, 39, []), (39, .bipush (7), 41, []), (41, .if_icmp .le (8), 44, [49]), (44, .aload_n 0, 45, []), (45, .iconst 1, 46, []), (46, .putfield 269, 49, []), (49, .bipush (16), 51, []), (51, .iload_n 2, 52, []), (52, .imul, 53, []), (53, .iload_n 1, 54, []), (54, .iadd, 55, []), (55, .ireturn, 56, [])]
def cd_mo_stackNext : zm_C := [(0, .aload_n 0, 1, []), (1, .invokevirtual 278, 4, []), (4, .istore_n 1, 5, []), (5, .aload_n 0, 6, []), (6, .iload_n 1, 7, []), (7, .invokevirtual 154, 10, []), (10, .istore_n 2, 11, []), (11, .iload_n 2, 12, []), (12, .ifCond .ne (8), 15, [20]), (15, .aload_n 0, 16, []), (16, .iconst 1, 17, []), (17, .putfield 269, 20, []), (20, .return_, 21, [])]
def cd_mo_enter : zm_C := [(0, .iload_n 1, 1, []), (1, .invokestatic 135, 4, []), (4, .ifCond .eq (7), 7, [11]), (7, .iconst 2, 8, []), (8, .goto (4), 11, [12]), (11, .iconst 1, 12, []), (12, .istore_n 2, 13, []), (13, .iconst 0, 14, []), (14, .istore_n 3, 15, []), (15, .iload_n 3, 16, []), (16, .aload_n 0, 17, []), (17, .getfield 233, 20, []), (20, .if_icmp .ge (29), 23, [49]), (23, .iload_n 2, 24, []), (24, .aload_n 0, 25, []), (25, .getfield 80, 28, []), (28, .iload_n 3, 29, []), (29, .iaload, 30, []), (30, .invokestatic 135, 33, []), (33, .ifCond .eq (7), 36, [40]), (36, .iconst 2, 37, []), (37, .goto (4), 40, [41]), (40, .iconst 1, 41, []), (41, .iadd, 42, []), (42, .istore_n 2, 43, []), (43, .iinc 3 (1), 46, []), (46, .goto (-31), 49, [15]), (49, .iload_n 2, 50, []), (50, .bipush (10), 52, []), (52, .if_icmp .le (9), 55, [61]), (55, .aload_n 0, 56, []), (56, .iconst 1, 57, []), (57, .putfield 269, 60, []), (60, .return_, 61, []), (61, .aload_n 0, 62, []), (62, .getfield 80, 65, []), (65, .aload_n 0, 66, []), (66, .getfield 233, 69, []), (69, .iload_n 1, 70, []), (70, .iastore, 71, []), (71, .aload_n 0, 72, []), (72, .dup, 73, []), (73, .getfield 233, 76, []), (76, .iconst 1, 77, []), (77, .iadd, 78, []), (78, .putfield 233, 81, []), (81, .return_, 82, [])]
def cd_mo_readFull : zm_C := [(0, .aload_n 0, 1, []), (1, .iconst 0, 2, []), (2, .putfield 233, 5, []), (5, .aload_n 0, 6, []), (6, .invokevirtual 275, 9, []), (9, .istore_n 1, 10, []), (10, .iconst 0, 11, []), (11, .istore_n 2, 12, []), (12, .iload_n 2, 13, []), (13, .iload_n 1, 14, []), (14, .if_icmp .ge (26), 17, [40]), (17, .aload_n 0, 18, []), (18, .getfield 269, 21, []), (21, .ifCond .ne (19), 24, [40]), (24, .aload_n 0, 25, []), (25, .invokevirtual 278, 28, []), (28, .istore_n 3, 29, []), (29, .aload_n 0, 30, []), (30, .iload_n 3, 31, []), (31, .invokevirtual 284, 34, []), (34, .iinc 2 (1), 37, []), (37, .goto (-25), 40, [12]), (40, .aload_n 0, 41, []), (41, .invokevirtual 275, 44, []), (44, .istore_n 1, 45, []), (45, .iconst 0, 46, []), (46, .istore_n 2, 47, []), (47, .iload_n 2, 48, []), (48, .iload_n 1, 49, []), (49, .if_icmp .ge (20), 52, [69]), (52, .aload_n 0, 53, []), (53, .getfield 269, 56, []), (56, .ifCond .ne (13), 59, [69]), (59, .aload_n 0, 60, []), (60, .invokevirtual 281, 63, []), (63, .iinc 2 (1), 66, []), (66, .goto (-19), 69, [47]), (69, .return_, 70, [])]
def cd_mo_readForm : zm_C := [(0, .iload_n 1, 1, []), (1, .bipush (64), 3, []), (3, .if_icmp .ge (7), 6, [10]), (6, .iload_n 1, 7, []), (7, .goto (18), 10, [25]), (10, .iload_n 1, 11, []), (11, .sipush (128), 14, []), (14, .if_icmp .ge (10), 17, [24]), (17, .iload_n 1, 18, []), (18, .bipush (64), 20, []), (20, .isub, 21, []), (21, .goto (4), 24, [25]), (24, .iconst 0, 25, []), (25, .istore_n 2, 26, []), (26, .iload_n 1, 27, []), (27, .sipush (128), 30, []), (30, .sipush (246), 33, []), (33, .invokestatic 97, 36, []), (36, .ifCond .eq (11), 39, [47]), (39, .aload_n 0, 40, []), (40, .iconst 1, 41, []), (41, .putfield 269, 44, []), (44, .goto (15), 47, [59]), (47, .iload_n 1, 48, []), (48, .sipush (246), 51, []), (51, .if_icmp .le (8), 54, [59]), (54, .aload_n 0, 55, []), (55, .invokevirtual 275, 58, []), (58, .istore_n 2, 59, []), (59, .iload_n 1, 60, []), (60, .bipush (64), 62, []), (62, .bipush (127), 64, []), (64, .invokestatic 97, 67, []), (67, .ifCond .ne (10), 70, [77]), (70, .iload_n 1, 71, []), (71, .sipush (247), 74, []), (74, .if_icmp .ne (7), 77, [81]), (77, .aload_n 0, 78, []), (78, .invokevirtual 281, 81, []), (81, .iload_n 1, 82, []), (82, .sipush (248), 85, []), (85, .sipush (250), 88, []), (88, .invokestatic 97, 91, []), (91, .ifCond .eq (34), 94, [125]), (94, .aload_n 0, 95, []), (95, .dup, 96, []), (96, .getfield 233, 99, []), (99, .sipush (251), 102, []), (102, .iload_n 1, 103, []), (103, .isub, 104, []), (104, .isub, 105, []), (105, .putfield 233, 108, []), (108, .aload_n 0, 109, []), (109, .getfield 233, 112, []), (112, .ifCond .ge (13), 115, [125]), (115, .aload_n 0, 116, []), (116, .iconst 1, 117, []), (117, .putfield 269, 120, []), (120, .aload_n 0, 121, []), (121, .iconst 0, 122, []), (122, .putfield 233, 125, []), (125, .sipush (251), 128, []), (128, .istore_n 3, 129, []), (129, .iload_n 3, 130, []), (130, .iload_n 1, 131, []), (131, .if_icmp .ge (35), 134, [166]), (134, .iload_n 1, 135, []), (135, .sipush (255), 138, []), (138, .if_icmp .ge (28), 141, [166]), (141, .aload_n 0, 142, []), (142, .getfield 269, 145, []), (145, .ifCond .ne (21), 148, [166]), (148, .aload_n 0, 149, []), (149, .invokevirtual 278, 152, []), (152, .istore 4, 154, []), (154, .aload_n 0, 155, []), (155, .iload 4, 157, []), (157, .invokevirtual 284, 160, []), (160, .iinc 3 (1), 163, []), (163, .goto (-34), 166, [129]), (166, .iload_n 1, 167, []), (167, .sipush (255), 170, []), (170, .if_icmp .ne (7), 173, [177]), (173, .aload_n 0, 174, []), (174, .invokevirtual 287, 177, []), (177, .iload_n 2, 178, []), (178, .ireturn, 179, [])]
def cd_mo_readRows : zm_C := [(0, .aload_n 0, 1, []), (1, .iconst 0, 2, []), (2, .putfield 290, 5, []), (5, .aload_n 0, 6, []), (6, .iconst 0, 7, []), (7, .putfield 266, 10, []), (10, .aload_n 0, 11, []), (11, .iconst 0, 12, []), (12, .putfield 269, 15, []), (15, .iconst (-1), 16, []), (16, .istore_n 1, 17, []), (17, .aload_n 0, 18, []), (18, .invokevirtual 214, 21, []), (21, .aload_n 0, 22, []), (22, .invokevirtual 254, 25, []), (25, .aload_n 0, 26, []), (26, .getfield 266, 29, []), (29, .aload_n 0, 30, []), (30, .getfield 263, 33, []), (33, .if_icmp .ge (239), 36, [272]), (36, .aload_n 0, 37, []), (37, .getfield 269, 40, []), (40, .ifCond .ne (232), 43, [272]), (43, .aload_n 0, 44, []), (44, .iconst 0, 45, []), (45, .putfield 138, 48, []), (48, .aload_n 0, 49, []), (49, .invokevirtual 272, 52, []), (52, .istore_n 2, 53, []), (53, .aload_n 0, 54, []), (54, .iload_n 2, 55, []), (55, .invokevirtual 293, 58, []), (58, .istore_n 3, 59, []), (59, .iload_n 1, 60, []), (60, .iconst 1, 61, []), (61, .iadd, 62, []), (62, .iload_n 3, 63, []), (63, .iadd, 64, []), (64, .istore 4, 66, []), (66, .aload_n 0, 67, []), (67, .getfield 269, 70, []), (70, .ifCond .ne (12), 73, [82]), (73, .aload_n 0, 74, []), (74, .iload 4, 76, []), (76, .invokevirtual 179, 79, []), (79, .ifCond .ge (5), 82, [84]), (82, .iconst 0, 83, []), (83, .ireturn, 84, []), (84, .iload 4, 86, []), (86, .istore_n 1, 87, []), (87, .aload_n 0, 88, []), (88, .getfield 65, 91, []), (91, .aload_n 0, 92, []), (92, .getfield 290, 95, []), (95, .iload 4, 97, []), (97, .iastore, 98, []), (98, .aload_n 0, 99, []), (99, .getfield 68, 102, []), (102, .aload_n 0, 103, []), (103, .getfield 290, 106, []), (106, .iload_n 2, 107, []), (107, .iastore, 108, []), (108, .aload_n 0, 109, []), (109, .getfield 71, 112, []), (112, .aload_n 0, 113, []), (113, .getfield 290, 116, []), (116, .aload_n 0, 117, []), (117, .getfield 138, 120, []), (120, .iastore, 121, []), (121, .iconst 0, 122, []), (122, .istore 5, 124, []), (124, .iload 5, 126, []), (126, .aload_n 0, 127, []), (127, .getfield 138, 130, []), (130, .if_icmp .ge (31), 133, [161]), (133, .aload_n 0, 134, []), (134, .getfield 77, 137, []), (137, .bipush (8), 139, []), (139, .aload_n 0, 140, []), (140, .getfield 290, 143, []), (143, .imul, 144, []), (144, .iload 5, 146, []), (146, .iadd, 147, []), (147, .aload_n 0, 148, []), (148, .getfield 47, 151, []), (151, .iload 5, 153, []), (153, .iaload, 154, []), (154, .iastore, 155, []), (155, .iinc 5 (1), 158, []), (158, .goto (-34), 161, [124]), (161, .iconst 0, 162, []), (162, .istore 5, 164, []), (164, .iconst 0, 165, []), (165, .istore 6, 167, []), (167, .iload 6, 169, []), (169, .bipush (10), 171, []), (171, .if_icmp .ge (25), 174, [196]), (174, .aload_n 0, 175, []), (175, .getfield 74, 178, []), (178, .bipush (10), 180, []), (180, .aload_n 0, 181, []), (181, .getfield 290, 184, []), (184, .imul, 185, []), (185, .iload 6, 187, []), (187, .iadd, 188, []), (188, .iconst 0, 189, []), (189, .iastore, 190, []), (190, .iinc 6 (1), 193, []), (193, .goto (-26), 196, [167]), (196, .iconst 0, 197, []), (197, .istore 6, 199, []), (199, .iload 6, 201, []), (201, .aload_n 0, 202, []), (202, .getfield 233, 205, []), (205, .if_icmp .ge (54), 208, [259]), (208, .aload_n 0, 209, []), (209, .getfield 74, 212, []), (212, .bipush (10), 214, []), (214, .aload_n 0, 215, []), (215, .getfield 290, 218, []), (218, .imul, 219, []), (219, .iload 5, 221, []), (221, .iadd, 222, []), (222, .aload_n 0, 223, []), (223, .getfield 80, 226, []), (226, .iload 6, 228, []), (228, .iaload, 229, []), (229, .iastore, 230, []), (230, .iload 5, 232, []), (232, .aload_n 0, 233, []), (233, .getfield 80, 236, []), (236, .iload 6, 238, []), (238, .iaload, 239, []), (239, .invokestatic 135, 242, []), (242, .ifCond .eq (7), 245, [249]), (245, .iconst 2, 246, []), (246, .goto (4), 249, [250]), (249, .iconst 1, 250, []), (250, .iadd, 251, []), (251, .istore 5, 253, []), (253, .iinc 6 (1), 256, []), (256, .goto (-57), 259, [199]), (259, .aload_n 0, 260, []), (260, .dup, 261, []), (261, .getfield 290, 264, []), (264, .iconst 1, 265, []), (265, .iadd, 266, []), (266, .putfield 290, 269, []), (269, .goto (-244), 272, [25]), (272, .aload_n 0, 273, []), (273, .getfield 269, 276, []), (276, .ifCond .ne (7), 279, [283]), (279, .iconst 1, 280, []), (280, .goto (4), 283, [284]), (283, .iconst 0, 284, []), (284, .ireturn, 285, [])]
def cd_mo_rowAt : zm_C := [(0, .iconst 0, 1, []), (1, .istore_n 2, 2, []), (2, .iload_n 2, 3, []), (3, .aload_n 0, 4, []), (4, .getfield 290, 7, []), (7, .if_icmp .ge (21), 10, [28]), (10, .aload_n 0, 11, []), (11, .getfield 65, 14, []), (14, .iload_n 2, 15, []), (15, .iaload, 16, []), (16, .iload_n 1, 17, []), (17, .if_icmp .ne (5), 20, [22]), (20, .iload_n 2, 21, []), (21, .ireturn, 22, []), (22, .iinc 2 (1), 25, []), (25, .goto (-23), 28, [2]), (28, .iconst (-1), 29, []), (29, .ireturn, 30, [])]
def cd_mo_rowIsRaw : zm_C := [(0, .iconst 0, 1, []), (1, .istore_n 2, 2, []), (2, .iload_n 2, 3, []), (3, .bipush (10), 5, []), (5, .if_icmp .ge (27), 8, [32]), (8, .aload_n 0, 9, []), (9, .getfield 74, 12, []), (12, .bipush (10), 14, []), (14, .iload_n 1, 15, []), (15, .imul, 16, []), (16, .iload_n 2, 17, []), (17, .iadd, 18, []), (18, .iaload, 19, []), (19, .bipush (6), 21, []), (21, .if_icmp .ne (5), 24, [26]), (24, .iconst 1, 25, []), (25, .ireturn, 26, []), (26, .iinc 2 (1), 29, []), (29, .goto (-27), 32, [2]), (32, .iconst 0, 33, []), (33, .ireturn, 34, [])]
def cd_mo_fits : zm_C := [(0, .aload_n 0, 1, []), (1, .getfield 138, 4, []), (4, .aload_n 0, 5, []), (5, .getfield 71, 8, []), (8, .iload_n 1, 9, []), (9, .iaload, 10, []), (10, .if_icmp .ne (15), 13, [25]), (13, .aload_n 0, 14, []), (14, .getfield 141, 17, []), (17, .aload_n 0, 18, []), (18, .iload_n 1, 19, []), (19, .invokevirtual 296, 22, []), (22, .if_icmp .eq (5), 25, [27]), (25, .iconst 0, 26, []), (26, .ireturn, 27, []), (27, .iconst 0, 28, []), (28, .istore_n 2, 29, []), (29, .iload_n 2, 30, []), (30, .bipush (10), 32, []), (32, .if_icmp .ge (37), 35, [69]), (35, .aload_n 0, 36, []), (36, .aload_n 0, 37, []), (37, .getfield 44, 40, []), (40, .iload_n 2, 41, []), (41, .iaload, 42, []), (42, .aload_n 0, 43, []), (43, .getfield 74, 46, []), (46, .bipush (10), 48, []), (48, .iload_n 1, 49, []), (49, .imul, 50, []), (50, .iload_n 2, 51, []), (51, .iadd, 52, []), (52, .iaload, 53, []), (53, .invokevirtual 170, 56, []), (56, .istore_n 3, 57, []), (57, .iload_n 3, 58, []), (58, .ifCond .ne (5), 61, [63]), (61, .iconst 0, 62, []), (62, .ireturn, 63, []), (63, .iinc 2 (1), 66, []), (66, .goto (-37), 69, [29]), (69, .iconst 0, 70, []), (70, .istore_n 2, 71, []), (71, .iload_n 2, 72, []), (72, .aload_n 0, 73, []), (73, .getfield 138, 76, []), (76, .if_icmp .ge (37), 79, [113]), (79, .aload_n 0, 80, []), (80, .aload_n 0, 81, []), (81, .getfield 47, 84, []), (84, .iload_n 2, 85, []), (85, .iaload, 86, []), (86, .aload_n 0, 87, []), (87, .getfield 77, 90, []), (90, .bipush (8), 92, []), (92, .iload_n 1, 93, []), (93, .imul, 94, []), (94, .iload_n 2, 95, []), (95, .iadd, 96, []), (96, .iaload, 97, []), (97, .invokevirtual 170, 100, []), (100, .istore_n 3, 101, []), (101, .iload_n 3, 102, []), (102, .ifCond .ne (5), 105, [107]), (105, .iconst 0, 106, []), (106, .ireturn, 107, []), (107, .iinc 2 (1), 110, []), (110, .goto (-39), 113, [71]), (113, .iconst 1, 114, []), (114, .ireturn, 115, [])]
def cd_mo_take : zm_C := [(0, .aload_n 0, 1, []), (1, .aload_n 0, 2, []), (2, .getfield 71, 5, []), (5, .iload_n 1, 6, []), (6, .iaload, 7, []), (7, .putfield 138, 10, []), (10, .aload_n 0, 11, []), (11, .aload_n 0, 12, []), (12, .iload_n 1, 13, []), (13, .invokevirtual 296, 16, []), (16, .putfield 141, 19, []), (19, .iconst 0, 20, []), (20, .istore_n 2, 21, []), (21, .iload_n 2, 22, []), (22, .bipush (10), 24, []), (24, .if_icmp .ge (26), 27, [50]), (27, .aload_n 0, 28, []), (28, .getfield 44, 31, []), (31, .iload_n 2, 32, []), (32, .aload_n 0, 33, []), (33, .getfield 74, 36, []), (36, .bipush (10), 38, []), (38, .iload_n 1, 39, []), (39, .imul, 40, []), (40, .iload_n 2, 41, []), (41, .iadd, 42, []), (42, .iaload, 43, []), (43, .iastore, 44, []), (44, .iinc 2 (1), 47, []), (47, .goto (-26), 50, [21]), (50, .iconst 0, 51, []), (51, .istore_n 2, 52, []), (52, .iload_n 2, 53, []), (53, .aload_n 0, 54, []), (54, .getfield 138, 57, []), (57, .if_icmp .ge (26), 60, [83]), (60, .aload_n 0, 61, []), (61, .getfield 47, 64, []), (64, .iload_n 2, 65, []), (65, .aload_n 0, 66, []), (66, .getfield 77, 69, []), (69, .bipush (8), 71, []), (71, .iload_n 1, 72, []), (72, .imul, 73, []), (73, .iload_n 2, 74, []), (74, .iadd, 75, []), (75, .iaload, 76, []), (76, .iastore, 77, []), (77, .iinc 2 (1), 80, []), (80, .goto (-28), 83, [52]), (83, .return_, 84, [])]
def cd_mo_fitsAt : zm_C := [(0, .iload_n 1, 1, []), (1, .aload_n 0, 2, []), (2, .getfield 115, 5, []), (5, .if_icmp .lt (5), 8, [10]), (8, .iconst 0, 9, []), (9, .ireturn, 10, []), (10, .aload_n 0, 11, []), (11, .aload_n 0, 12, []), (12, .iload_n 1, 13, []), (13, .invokevirtual 188, 16, []), (16, .invokevirtual 299, 19, []), (19, .istore_n 2, 20, []), (20, .iload_n 2, 21, []), (21, .ifCond .lt (15), 24, [36]), (24, .aload_n 0, 25, []), (25, .iload_n 2, 26, []), (26, .invokevirtual 302, 29, []), (29, .ifCond .eq (7), 32, [36]), (32, .iconst 1, 33, []), (33, .goto (4), 36, [37]), (36, .iconst 0, 37, []), (37, .ireturn, 38, [])]
def cd_mo_handled : zm_C := [(0, .iconst 0, 1, []), (1, .istore_n 2, 2, []), (2, .iload_n 2, 3, []), (3, .aload_n 0, 4, []), (4, .getfield 118, 7, []), (7, .if_icmp .ge (100), 10, [107]), (10, .iload_n 1, 11, []), (11, .aload_n 0, 12, []), (12, .getfield 29, 15, []), (15, .iload_n 2, 16, []), (16, .iaload, 17, []), (17, .if_icmp .lt (84), 20, [101]), (20, .iload_n 1, 21, []), (21, .aload_n 0, 22, []), (22, .getfield 32, 25, []), (25, .iload_n 2, 26, []), (26, .iaload, 27, []), (27, .if_icmp .lt (6), 30, [33]), (30, .goto (71), 33, [101]), (33, .aload_n 0, 34, []), (34, .getfield 138, 37, []), (37, .istore_n 3, 38, []), (38, .aload_n 0, 39, []), (39, .getfield 47, 42, []), (42, .iconst 0, 43, []), (43, .iaload, 44, []), (44, .istore 4, 46, []), (46, .aload_n 0, 47, []), (47, .iconst 1, 48, []), (48, .putfield 138, 51, []), (51, .aload_n 0, 52, []), (52, .getfield 47, 55, []), (55, .iconst 0, 56, []), (56, .bipush (16), 58, []), (58, .aload_n 0, 59, []), (59, .getfield 38, 62, []), (62, .iload_n 2, 63, []), (63, .iaload, 64, []), (64, .imul, 65, []), (65, .bipush (7), 67, []), (67, .iadd, 68, []), (68, .iastore, 69, []), (69, .aload_n 0, 70, []), (70, .aload_n 0, 71, []), (71, .getfield 35, 74, []), (74, .iload_n 2, 75, []), (75, .iaload, 76, []), (76, .invokevirtual 305, 79, []), (79, .istore 5, 81, []), (81, .aload_n 0, 82, []), (82, .iload_n 3, 83, []), (83, .putfield 138, 86, []), (86, .aload_n 0, 87, []), (87, .getfield 47, 90, []), (90, .iconst 0, 91, []), (91, .iload 4, 93, []), (93, .iastore, 94, []), (94, .iload 5, 96, []), (96, .ifCond .ne (5), 99, [101]), (99, .iconst 0, 100, []), (100, .ireturn, 101, []), (101, .iinc 2 (1), 104, []), (104, .goto (-102), 107, [2]), (107, .iconst 1, 108, []), (108, .ireturn, 109, [])]
def cd_mo_check : zm_C := [(0, .aload_n 0, 1, []), (1, .getfield 115, 4, []), (4, .ifCond .ne (6), 7, [10]), (7, .bipush (-4), 9, []), (9, .ireturn, 10, []), (10, .aload_n 0, 11, []), (11, .invokevirtual 308, 14, []), (14, .istore_n 1, 15, []), (15, .iload_n 1, 16, []), (16, .ifCond .ne (6), 19, [22]), (19, .bipush (-5), 21, []), (21, .ireturn, 22, []), (22, .iconst 1, 23, []), (23, .istore_n 2, 24, []), (24, .aload_n 0, 25, []), (25, .invokevirtual 214, 28, []), (28, .iconst 0, 29, []), (29, .istore_n 3, 30, []), (30, .iload_n 3, 31, []), (31, .aload_n 0, 32, []), (32, .getfield 115, 35, []), (35, .if_icmp .ge (139), 38, [174]), (38, .aload_n 0, 39, []), (39, .aload_n 0, 40, []), (40, .iload_n 3, 41, []), (41, .invokevirtual 188, 44, []), (44, .invokevirtual 299, 47, []), (47, .istore 4, 49, []), (49, .iload 4, 51, []), (51, .ifCond .ge (10), 54, [61]), (54, .iload_n 2, 55, []), (55, .ifCond .ne (21), 58, [76]), (58, .goto (16), 61, [74]), (61, .iload_n 2, 62, []), (62, .ifCond .eq (14), 65, [76]), (65, .aload_n 0, 66, []), (66, .iload 4, 68, []), (68, .invokevirtual 302, 71, []), (71, .ifCond .ne (5), 74, [76]), (74, .iload_n 3, 75, []), (75, .ireturn, 76, []), (76, .iload 4, 78, []), (78, .ifCond .lt (9), 81, [87]), (81, .aload_n 0, 82, []), (82, .iload 4, 84, []), (84, .invokevirtual 311, 87, []), (87, .aload_n 0, 88, []), (88, .iload_n 3, 89, []), (89, .invokevirtual 314, 92, []), (92, .ifCond .eq (15), 95, [107]), (95, .aload_n 0, 96, []), (96, .iload_n 3, 97, []), (97, .invokevirtual 217, 100, []), (100, .ifCond .eq (7), 103, [107]), (103, .iconst 1, 104, []), (104, .goto (4), 107, [108]), (107, .iconst 0, 108, []), (108, .istore_n 1, 109, []), (109, .iload_n 1, 110, []), (110, .ifCond .ne (5), 113, [115]), (113, .iload_n 3, 114, []), (114, .ireturn, 115, []), (115, .aload_n 0, 116, []), (116, .getfield 20, 119, []), (119, .iload_n 3, 120, []), (120, .iaload, 121, []), (121, .bipush (31), 123, []), (123, .bipush (34), 125, []), (125, .invokestatic 97, 128, []), (128, .ifCond .eq (22), 131, [150]), (131, .aload_n 0, 132, []), (132, .aload_n 0, 133, []), (133, .getfield 26, 136, []), (136, .iload_n 3, 137, []), (137, .iaload, 138, []), (138, .invokevirtual 305, 141, []), (141, .istore 5, 143, []), (143, .iload 5, 145, []), (145, .ifCond .ne (5), 148, [150]), (148, .iload_n 3, 149, []), (149, .ireturn, 150, []), (150, .aload_n 0, 151, []), (151, .getfield 20, 154, []), (154, .iload_n 3, 155, []), (155, .iaload, 156, []), (156, .invokestatic 204, 159, []), (159, .ifCond .ne (7), 162, [166]), (162, .iconst 1, 163, []), (163, .goto (4), 166, [167]), (166, .iconst 0, 167, []), (167, .istore_n 2, 168, []), (168, .iinc 3 (1), 171, []), (171, .goto (-141), 174, [30]), (174, .iload_n 2, 175, []), (175, .ifCond .eq (10), 178, [185]), (178, .aload_n 0, 179, []), (179, .getfield 115, 182, []), (182, .goto (5), 185, [187]), (185, .bipush (-2), 187, []), (187, .ireturn, 188, [])]
def cd_mo_map : zm_C := [(0, .iload_n 1, 1, []), (1, .iconst (-1), 2, []), (2, .if_icmp .ne (10), 5, [12]), (5, .aload_n 0, 6, []), (6, .getfield 263, 9, []), (9, .goto (28), 12, [37]), (12, .iload_n 1, 13, []), (13, .iconst 0, 14, []), (14, .aload_n 0, 15, []), (15, .getfield 263, 18, []), (18, .iconst 1, 19, []), (19, .isub, 20, []), (20, .invokestatic 97, 23, []), (23, .ifCond .eq (12), 26, [35]), (26, .aload_n 0, 27, []), (27, .getfield 41, 30, []), (30, .iload_n 1, 31, []), (31, .iaload, 32, []), (32, .goto (5), 35, [37]), (35, .bipush (-2), 37, []), (37, .ireturn, 38, [])]
def cd_mo_patch : zm_C := [(0, .iload_n 1, 1, []), (1, .iconst 0, 2, []), (2, .aload_n 0, 3, []), (3, .getfield 263, 6, []), (6, .invokestatic 97, 9, []), (9, .ifCond .eq (21), 12, [30]), (12, .iload_n 2, 13, []), (13, .iconst 0, 14, []), (14, .sipush (255), 17, []), (17, .invokestatic 97, 20, []), (20, .ifCond .eq (10), 23, [30]), (23, .iload_n 1, 24, []), (24, .sipush (400), 27, []), (27, .if_icmp .ne (5), 30, [32]), (30, .iconst 0, 31, []), (31, .ireturn, 32, []), (32, .aload_n 0, 33, []), (33, .getfield 41, 36, []), (36, .iload_n 1, 37, []), (37, .iload_n 2, 38, []), (38, .iastore, 39, []), (39, .iload_n 1, 40, []), (40, .aload_n 0, 41, []), (41, .getfield 263, 44, []), (44, .if_icmp .ne (13), 47, [57]), (47, .aload_n 0, 48, []), (48, .dup, 49, []), (49, .getfield 263, 52, []), (52, .iconst 1, 53, []), (53, .iadd, 54, []), (54, .putfield 263, 57, []), (57, .iconst 1, 58, []), (58, .ireturn, 59, [])]
def cd_mo_cut : zm_C := [(0, .iload_n 1, 1, []), (1, .iconst 0, 2, []), (2, .aload_n 0, 3, []), (3, .getfield 263, 6, []), (6, .invokestatic 97, 9, []), (9, .ifCond .ne (5), 12, [14]), (12, .iconst (-1), 13, []), (13, .ireturn, 14, []), (14, .aload_n 0, 15, []), (15, .getfield 263, 18, []), (18, .iload_n 1, 19, []), (19, .isub, 20, []), (20, .istore_n 2, 21, []), (21, .aload_n 0, 22, []), (22, .iload_n 1, 23, []), (23, .putfield 263, 26, []), (26, .iload_n 2, 27, []), (27, .ireturn, 28, [])]
def cd_mo_row : zm_C := [(0, .iload_n 2, 1, []), (1, .iconst 0, 2, []), (2, .bipush (17), 4, []), (4, .invokestatic 97, 7, []), (7, .ifCond .ne (16), 10, [23]), (10, .iload_n 2, 11, []), (11, .bipush (20), 13, []), (13, .bipush (22), 15, []), (15, .invokestatic 97, 18, []), (18, .ifCond .ne (5), 21, [23]), (21, .iconst (-1), 22, []), (22, .ireturn, 23, []), (23, .aload_n 0, 24, []), (24, .invokevirtual 308, 27, []), (27, .istore_n 3, 28, []), (28, .iload_n 3, 29, []), (29, .ifCond .eq (17), 32, [46]), (32, .iload_n 1, 33, []), (33, .iconst 0, 34, []), (34, .aload_n 0, 35, []), (35, .getfield 290, 38, []), (38, .iconst 1, 39, []), (39, .isub, 40, []), (40, .invokestatic 97, 43, []), (43, .ifCond .ne (6), 46, [49]), (46, .bipush (-2), 48, []), (48, .ireturn, 49, []), (49, .iload_n 2, 50, []), (50, .bipush (10), 52, []), (52, .if_icmp .ge (15), 55, [67]), (55, .aload_n 0, 56, []), (56, .getfield 74, 59, []), (59, .bipush (10), 61, []), (61, .iload_n 1, 62, []), (62, .imul, 63, []), (63, .iload_n 2, 64, []), (64, .iadd, 65, []), (65, .iaload, 66, []), (66, .ireturn, 67, []), (67, .iload_n 2, 68, []), (68, .bipush (18), 70, []), (70, .if_icmp .ge (36), 73, [106]), (73, .iload_n 2, 74, []), (74, .bipush (10), 76, []), (76, .isub, 77, []), (77, .aload_n 0, 78, []), (78, .getfield 71, 81, []), (81, .iload_n 1, 82, []), (82, .iaload, 83, []), (83, .if_icmp .ge (20), 86, [103]), (86, .aload_n 0, 87, []), (87, .getfield 77, 90, []), (90, .bipush (8), 92, []), (92, .iload_n 1, 93, []), (93, .imul, 94, []), (94, .iload_n 2, 95, []), (95, .iadd, 96, []), (96, .bipush (10), 98, []), (98, .isub, 99, []), (99, .iaload, 100, []), (100, .goto (5), 103, [105]), (103, .bipush (-2), 105, []), (105, .ireturn, 106, []), (106, .iload_n 2, 107, []), (107, .bipush (20), 109, []), (109, .if_icmp .ne (12), 112, [121]), (112, .aload_n 0, 113, []), (113, .getfield 71, 116, []), (116, .iload_n 1, 117, []), (117, .iaload, 118, []), (118, .goto (24), 121, [142]), (121, .iload_n 2, 122, []), (122, .bipush (21), 124, []), (124, .if_icmp .ne (12), 127, [136]), (127, .aload_n 0, 128, []), (128, .getfield 65, 131, []), (131, .iload_n 1, 132, []), (132, .iaload, 133, []), (133, .goto (9), 136, [142]), (136, .aload_n 0, 137, []), (137, .getfield 68, 140, []), (140, .iload_n 1, 141, []), (141, .iaload, 142, []), (142, .ireturn, 143, [])]
def cd_mo_code : zm_C := [(0, .iload_n 2, 1, []), (1, .iconst 0, 2, []), (2, .iconst 3, 3, []), (3, .invokestatic 97, 6, []), (6, .ifCond .ne (5), 9, [11]), (9, .iconst (-1), 10, []), (10, .ireturn, 11, []), (11, .iload_n 1, 12, []), (12, .iconst 0, 13, []), (13, .aload_n 0, 14, []), (14, .getfield 115, 17, []), (17, .iconst 1, 18, []), (18, .isub, 19, []), (19, .invokestatic 97, 22, []), (22, .ifCond .ne (6), 25, [28]), (25, .bipush (-2), 27, []), (27, .ireturn, 28, []), (28, .iload_n 2, 29, []), (29, .ifCond .ne (12), 32, [41]), (32, .aload_n 0, 33, []), (33, .getfield 20, 36, []), (36, .iload_n 1, 37, []), (37, .iaload, 38, []), (38, .goto (36), 41, [74]), (41, .iload_n 2, 42, []), (42, .iconst 1, 43, []), (43, .if_icmp .ne (12), 46, [55]), (46, .aload_n 0, 47, []), (47, .getfield 23, 50, []), (50, .iload_n 1, 51, []), (51, .iaload, 52, []), (52, .goto (22), 55, [74]), (55, .iload_n 2, 56, []), (56, .iconst 2, 57, []), (57, .if_icmp .ne (12), 60, [69]), (60, .aload_n 0, 61, []), (61, .getfield 26, 64, []), (64, .iload_n 1, 65, []), (65, .iaload, 66, []), (66, .goto (8), 69, [74]), (69, .aload_n 0, 70, []), (70, .iload_n 1, 71, []), (71, .invokevirtual 188, 74, []), (74, .ireturn, 75, [])]
def cd_mo_count : zm_C := [(0, .iload_n 1, 1, []), (1, .iconst 4, 2, []), (2, .if_icmp .ne (22), 5, [24]), (5, .aload_n 0, 6, []), (6, .invokevirtual 308, 9, []), (9, .istore_n 2, 10, []), (10, .iload_n 2, 11, []), (11, .ifCond .eq (10), 14, [21]), (14, .aload_n 0, 15, []), (15, .getfield 290, 18, []), (18, .goto (5), 21, [23]), (21, .bipush (-5), 23, []), (23, .ireturn, 24, []), (24, .iload_n 1, 25, []), (25, .ifCond .ne (10), 28, [35]), (28, .aload_n 0, 29, []), (29, .getfield 115, 32, []), (32, .goto (44), 35, [76]), (35, .iload_n 1, 36, []), (36, .iconst 1, 37, []), (37, .if_icmp .ne (10), 40, [47]), (40, .aload_n 0, 41, []), (41, .getfield 118, 44, []), (44, .goto (32), 47, [76]), (47, .iload_n 1, 48, []), (48, .iconst 2, 49, []), (49, .if_icmp .ne (10), 52, [59]), (52, .aload_n 0, 53, []), (53, .getfield 112, 56, []), (56, .goto (20), 59, [76]), (59, .iload_n 1, 60, []), (60, .iconst 3, 61, []), (61, .if_icmp .ne (14), 64, [75]), (64, .aload_n 0, 65, []), (65, .aload_n 0, 66, []), (66, .getfield 115, 69, []), (69, .invokevirtual 188, 72, []), (72, .goto (4), 75, [76]), (75, .iconst (-1), 76, []), (76, .ireturn, 77, [])]
end
section
theorem en_fa_describe : ∀ q ∈ cd_fa_describe, zm_en prog_4_method_2_code q := zm_eb_ok (by decide +kernel)
def yn_fa_describe : MethodName := ({ cls := "MapForge$Family", name := "describe", desc := "(IIZ)V" } : MethodName)
theorem en_mf_forgetFindings : ∀ q ∈ cd_mf_forgetFindings, zm_en prog_1_method_17_code q := zm_eb_ok (by decide +kernel)
def yn_mf_forgetFindings : MethodName := ({ cls := "MapForge", name := "forgetFindings", desc := "()V" } : MethodName)
theorem en_mf_type : ∀ q ∈ cd_mf_type, zm_en prog_1_method_2_code q := zm_eb_ok (by decide +kernel)
def yn_mf_type : MethodName := ({ cls := "MapForge", name := "type", desc := "(IIZ)Z" } : MethodName)
theorem en_mf_isClass : ∀ q ∈ cd_mf_isClass, zm_en prog_1_method_18_code q := zm_eb_ok (by decide +kernel)
def yn_mf_isClass : MethodName := ({ cls := "MapForge", name := "isClass", desc := "(I)Z" } : MethodName)
theorem en_pr_begin : ∀ q ∈ cd_pr_begin, zm_en prog_8_method_2_code q := zm_eb_ok (by decide +kernel)
def yn_pr_begin : MethodName := ({ cls := "MapForge$Program", name := "begin", desc := "(IIZ)V" } : MethodName)
theorem en_mf_method : ∀ q ∈ cd_mf_method, zm_en prog_1_method_3_code q := zm_eb_ok (by decide +kernel)
def yn_mf_method : MethodName := ({ cls := "MapForge", name := "method", desc := "(IIZ)Z" } : MethodName)
theorem en_mf_kindOf : ∀ q ∈ cd_mf_kindOf, zm_en prog_1_method_27_code q := zm_eb_ok (by decide +kernel)
def yn_mf_kindOf : MethodName := ({ cls := "MapForge", name := "kindOf", desc := "(I)I" } : MethodName)
theorem en_mf_partOf : ∀ q ∈ cd_mf_partOf, zm_en prog_1_method_28_code q := zm_eb_ok (by decide +kernel)
def yn_mf_partOf : MethodName := ({ cls := "MapForge", name := "partOf", desc := "(I)I" } : MethodName)
theorem en_mf_argument : ∀ q ∈ cd_mf_argument, zm_en prog_1_method_4_code q := zm_eb_ok (by decide +kernel)
def yn_mf_argument : MethodName := ({ cls := "MapForge", name := "argument", desc := "(I)I" } : MethodName)
theorem en_mf_hasLocal : ∀ q ∈ cd_mf_hasLocal, zm_en prog_1_method_22_code q := zm_eb_ok (by decide +kernel)
def yn_mf_hasLocal : MethodName := ({ cls := "MapForge", name := "hasLocal", desc := "(I)Z" } : MethodName)
theorem en_mf_localKindOf : ∀ q ∈ cd_mf_localKindOf, zm_en prog_1_method_25_code q := zm_eb_ok (by decide +kernel)
def yn_mf_localKindOf : MethodName := ({ cls := "MapForge", name := "localKindOf", desc := "(I)I" } : MethodName)
theorem en_mf_widthOf : ∀ q ∈ cd_mf_widthOf, zm_en prog_1_method_30_code q := zm_eb_ok (by decide +kernel)
def yn_mf_widthOf : MethodName := ({ cls := "MapForge", name := "widthOf", desc := "(I)I" } : MethodName)
theorem en_mf_isJump : ∀ q ∈ cd_mf_isJump, zm_en prog_1_method_23_code q := zm_eb_ok (by decide +kernel)
def yn_mf_isJump : MethodName := ({ cls := "MapForge", name := "isJump", desc := "(I)Z" } : MethodName)
theorem en_mf_isPlace : ∀ q ∈ cd_mf_isPlace, zm_en prog_1_method_19_code q := zm_eb_ok (by decide +kernel)
def yn_mf_isPlace : MethodName := ({ cls := "MapForge", name := "isPlace", desc := "(I)Z" } : MethodName)
theorem en_mf_isInstruction : ∀ q ∈ cd_mf_isInstruction, zm_en prog_1_method_21_code q := zm_eb_ok (by decide +kernel)
def yn_mf_isInstruction : MethodName := ({ cls := "MapForge", name := "isInstruction", desc := "(III)Z" } : MethodName)
theorem en_mf_lengthOf : ∀ q ∈ cd_mf_lengthOf, zm_en prog_1_method_26_code q := zm_eb_ok (by decide +kernel)
def yn_mf_lengthOf : MethodName := ({ cls := "MapForge", name := "lengthOf", desc := "(I)I" } : MethodName)
theorem en_pr_write : ∀ q ∈ cd_pr_write, zm_en prog_8_method_3_code q := zm_eb_ok (by decide +kernel)
def yn_pr_write : MethodName := ({ cls := "MapForge$Program", name := "write", desc := "(IIII)V" } : MethodName)
theorem en_mf_add : ∀ q ∈ cd_mf_add, zm_en prog_1_method_5_code q := zm_eb_ok (by decide +kernel)
def yn_mf_add : MethodName := ({ cls := "MapForge", name := "add", desc := "(III)I" } : MethodName)
theorem en_mf_change : ∀ q ∈ cd_mf_change, zm_en prog_1_method_6_code q := zm_eb_ok (by decide +kernel)
def yn_mf_change : MethodName := ({ cls := "MapForge", name := "change", desc := "(IIII)Z" } : MethodName)
theorem en_pr_guard : ∀ q ∈ cd_pr_guard, zm_en prog_8_method_4_code q := zm_eb_ok (by decide +kernel)
def yn_pr_guard : MethodName := ({ cls := "MapForge$Program", name := "guard", desc := "(IIII)V" } : MethodName)
theorem en_mf_handle : ∀ q ∈ cd_mf_handle, zm_en prog_1_method_7_code q := zm_eb_ok (by decide +kernel)
def yn_mf_handle : MethodName := ({ cls := "MapForge", name := "handle", desc := "(IIII)I" } : MethodName)
theorem en_ja_fill : ∀ q ∈ cd_ja_fill, zm_en prog_16_method_103_code q := zm_eb_ok (by decide +kernel)
def yn_ja_fill : MethodName := ({ cls := "java/util/Arrays", name := "fill", desc := "([II)V" } : MethodName)
theorem en_fr_emptyStack : ∀ q ∈ cd_fr_emptyStack, zm_en prog_6_method_4_code q := zm_eb_ok (by decide +kernel)
def yn_fr_emptyStack : MethodName := ({ cls := "MapForge$Frame", name := "emptyStack", desc := "()V" } : MethodName)
theorem en_mf_typeOf : ∀ q ∈ cd_mf_typeOf, zm_en prog_1_method_29_code q := zm_eb_ok (by decide +kernel)
def yn_mf_typeOf : MethodName := ({ cls := "MapForge", name := "typeOf", desc := "(II)I" } : MethodName)
theorem en_pr_enter : ∀ q ∈ cd_pr_enter, zm_en prog_8_method_8_code q := zm_eb_ok (by decide +kernel)
def yn_pr_enter : MethodName := ({ cls := "MapForge$Program", name := "enter", desc := "(LMapForge$Frame;)V" } : MethodName)
theorem en_mf_isObjectOrNull : ∀ q ∈ cd_mf_isObjectOrNull, zm_en prog_1_method_33_code q := zm_eb_ok (by decide +kernel)
def yn_mf_isObjectOrNull : MethodName := ({ cls := "MapForge", name := "isObjectOrNull", desc := "(I)Z" } : MethodName)
theorem en_fa_join : ∀ q ∈ cd_fa_join, zm_en prog_4_method_5_code q := zm_eb_ok (by decide +kernel)
def yn_fa_join : MethodName := ({ cls := "MapForge$Family", name := "join", desc := "(II)I" } : MethodName)
theorem en_fl_joinAt : ∀ q ∈ cd_fl_joinAt, zm_en prog_5_method_7_code q := zm_eb_ok (by decide +kernel)
def yn_fl_joinAt : MethodName := ({ cls := "MapForge$Flow", name := "joinAt", desc := "(ILMapForge$Frame;)Z" } : MethodName)
theorem en_fr_takeOver : ∀ q ∈ cd_fr_takeOver, zm_en prog_6_method_2_code q := zm_eb_ok (by decide +kernel)
def yn_fr_takeOver : MethodName := ({ cls := "MapForge$Frame", name := "takeOver", desc := "(LMapForge$Frame;)V" } : MethodName)
theorem en_fl_arrive : ∀ q ∈ cd_fl_arrive, zm_en prog_5_method_6_code q := zm_eb_ok (by decide +kernel)
def yn_fl_arrive : MethodName := ({ cls := "MapForge$Flow", name := "arrive", desc := "(ILMapForge$Frame;)Z" } : MethodName)
theorem en_fl_begin : ∀ q ∈ cd_fl_begin, zm_en prog_5_method_3_code q := zm_eb_ok (by decide +kernel)
def yn_fl_begin : MethodName := ({ cls := "MapForge$Flow", name := "begin", desc := "()V" } : MethodName)
theorem en_pr_isGuarded : ∀ q ∈ cd_pr_isGuarded, zm_en prog_8_method_5_code q := zm_eb_ok (by decide +kernel)
def yn_pr_isGuarded : MethodName := ({ cls := "MapForge$Program", name := "isGuarded", desc := "(II)Z" } : MethodName)
theorem en_fr_push : ∀ q ∈ cd_fr_push, zm_en prog_6_method_5_code q := zm_eb_ok (by decide +kernel)
def yn_fr_push : MethodName := ({ cls := "MapForge$Frame", name := "push", desc := "(I)Z" } : MethodName)
theorem en_fr_takeOverForHandler : ∀ q ∈ cd_fr_takeOverForHandler, zm_en prog_6_method_3_code q := zm_eb_ok (by decide +kernel)
def yn_fr_takeOverForHandler : MethodName := ({ cls := "MapForge$Frame", name := "takeOverForHandler", desc := "(LMapForge$Frame;I)V" } : MethodName)
theorem en_fl_leaveToHandlers : ∀ q ∈ cd_fl_leaveToHandlers, zm_en prog_5_method_4_code q := zm_eb_ok (by decide +kernel)
def yn_fl_leaveToHandlers : MethodName := ({ cls := "MapForge$Flow", name := "leaveToHandlers", desc := "(I)Z" } : MethodName)
theorem en_fr_peek : ∀ q ∈ cd_fr_peek, zm_en prog_6_method_6_code q := zm_eb_ok (by decide +kernel)
def yn_fr_peek : MethodName := ({ cls := "MapForge$Frame", name := "peek", desc := "(I)I" } : MethodName)
theorem en_fr_drop : ∀ q ∈ cd_fr_drop, zm_en prog_6_method_7_code q := zm_eb_ok (by decide +kernel)
def yn_fr_drop : MethodName := ({ cls := "MapForge$Frame", name := "drop", desc := "()V" } : MethodName)
theorem en_fr_take : ∀ q ∈ cd_fr_take, zm_en prog_6_method_8_code q := zm_eb_ok (by decide +kernel)
def yn_fr_take : MethodName := ({ cls := "MapForge$Frame", name := "take", desc := "(I)Z" } : MethodName)
theorem en_mf_isSmall : ∀ q ∈ cd_mf_isSmall, zm_en prog_1_method_31_code q := zm_eb_ok (by decide +kernel)
def yn_mf_isSmall : MethodName := ({ cls := "MapForge", name := "isSmall", desc := "(I)Z" } : MethodName)
theorem en_ma_stepOne : ∀ q ∈ cd_ma_stepOne, zm_en prog_7_method_4_code q := zm_eb_ok (by decide +kernel)
def yn_ma_stepOne : MethodName := ({ cls := "MapForge$Machine", name := "stepOne", desc := "(IILMapForge$Frame;)Z" } : MethodName)
theorem en_fr_swap : ∀ q ∈ cd_fr_swap, zm_en prog_6_method_9_code q := zm_eb_ok (by decide +kernel)
def yn_fr_swap : MethodName := ({ cls := "MapForge$Frame", name := "swap", desc := "()V" } : MethodName)
theorem en_ma_stepTwo : ∀ q ∈ cd_ma_stepTwo, zm_en prog_7_method_5_code q := zm_eb_ok (by decide +kernel)
def yn_ma_stepTwo : MethodName := ({ cls := "MapForge$Machine", name := "stepTwo", desc := "(ILMapForge$Frame;)Z" } : MethodName)
theorem en_ma_stepOnStack : ∀ q ∈ cd_ma_stepOnStack, zm_en prog_7_method_3_code q := zm_eb_ok (by decide +kernel)
def yn_ma_stepOnStack : MethodName := ({ cls := "MapForge$Machine", name := "stepOnStack", desc := "(ILMapForge$Frame;)Z" } : MethodName)
theorem en_fa_is : ∀ q ∈ cd_fa_is, zm_en prog_4_method_4_code q := zm_eb_ok (by decide +kernel)
def yn_fa_is : MethodName := ({ cls := "MapForge$Family", name := "is", desc := "(II)Z" } : MethodName)
theorem en_ma_stepToOther : ∀ q ∈ cd_ma_stepToOther, zm_en prog_7_method_6_code q := zm_eb_ok (by decide +kernel)
def yn_ma_stepToOther : MethodName := ({ cls := "MapForge$Machine", name := "stepToOther", desc := "(ILMapForge$Frame;)Z" } : MethodName)
theorem en_mf_isOfKind : ∀ q ∈ cd_mf_isOfKind, zm_en prog_1_method_32_code q := zm_eb_ok (by decide +kernel)
def yn_mf_isOfKind : MethodName := ({ cls := "MapForge", name := "isOfKind", desc := "(II)Z" } : MethodName)
theorem en_fr_store : ∀ q ∈ cd_fr_store, zm_en prog_6_method_10_code q := zm_eb_ok (by decide +kernel)
def yn_fr_store : MethodName := ({ cls := "MapForge$Frame", name := "store", desc := "(II)V" } : MethodName)
theorem en_ma_stepStore : ∀ q ∈ cd_ma_stepStore, zm_en prog_7_method_7_code q := zm_eb_ok (by decide +kernel)
def yn_ma_stepStore : MethodName := ({ cls := "MapForge$Machine", name := "stepStore", desc := "(IILMapForge$Frame;)Z" } : MethodName)
theorem en_ma_stepJump : ∀ q ∈ cd_ma_stepJump, zm_en prog_7_method_8_code q := zm_eb_ok (by decide +kernel)
def yn_ma_stepJump : MethodName := ({ cls := "MapForge$Machine", name := "stepJump", desc := "(ILMapForge$Frame;)Z" } : MethodName)
theorem en_fa_isAbove : ∀ q ∈ cd_fa_isAbove, zm_en prog_4_method_3_code q := zm_eb_ok (by decide +kernel)
def yn_fa_isAbove : MethodName := ({ cls := "MapForge$Family", name := "isAbove", desc := "(II)Z" } : MethodName)
theorem en_fr_replaceAll : ∀ q ∈ cd_fr_replaceAll, zm_en prog_6_method_11_code q := zm_eb_ok (by decide +kernel)
def yn_fr_replaceAll : MethodName := ({ cls := "MapForge$Frame", name := "replaceAll", desc := "(II)V" } : MethodName)
theorem en_pr_placeAt : ∀ q ∈ cd_pr_placeAt, zm_en prog_8_method_6_code q := zm_eb_ok (by decide +kernel)
def yn_pr_placeAt : MethodName := ({ cls := "MapForge$Program", name := "placeAt", desc := "(I)I" } : MethodName)
theorem en_ma_stepInit : ∀ q ∈ cd_ma_stepInit, zm_en prog_7_method_10_code q := zm_eb_ok (by decide +kernel)
def yn_ma_stepInit : MethodName := ({ cls := "MapForge$Machine", name := "stepInit", desc := "(IILMapForge$Frame;)Z" } : MethodName)
theorem en_ma_stepObject : ∀ q ∈ cd_ma_stepObject, zm_en prog_7_method_9_code q := zm_eb_ok (by decide +kernel)
def yn_ma_stepObject : MethodName := ({ cls := "MapForge$Machine", name := "stepObject", desc := "(ILMapForge$Frame;)Z" } : MethodName)
theorem en_ma_step : ∀ q ∈ cd_ma_step, zm_en prog_7_method_2_code q := zm_eb_ok (by decide +kernel)
def yn_ma_step : MethodName := ({ cls := "MapForge$Machine", name := "step", desc := "(ILMapForge$Frame;)Z" } : MethodName)
theorem en_mf_isEnd : ∀ q ∈ cd_mf_isEnd, zm_en prog_1_method_24_code q := zm_eb_ok (by decide +kernel)
def yn_mf_isEnd : MethodName := ({ cls := "MapForge", name := "isEnd", desc := "(I)Z" } : MethodName)
theorem en_fl_leave : ∀ q ∈ cd_fl_leave, zm_en prog_5_method_5_code q := zm_eb_ok (by decide +kernel)
def yn_fl_leave : MethodName := ({ cls := "MapForge$Flow", name := "leave", desc := "(I)Z" } : MethodName)
theorem en_pr_markRows : ∀ q ∈ cd_pr_markRows, zm_en prog_8_method_7_code q := zm_eb_ok (by decide +kernel)
def yn_pr_markRows : MethodName := ({ cls := "MapForge$Program", name := "markRows", desc := "([Z)V" } : MethodName)
theorem en_fr_hasRawThisInLocal : ∀ q ∈ cd_fr_hasRawThisInLocal, zm_en prog_6_method_12_code q := zm_eb_ok (by decide +kernel)
def yn_fr_hasRawThisInLocal : MethodName := ({ cls := "MapForge$Frame", name := "hasRawThisInLocal", desc := "()Z" } : MethodName)
theorem en_fl_isWhole : ∀ q ∈ cd_fl_isWhole, zm_en prog_5_method_8_code q := zm_eb_ok (by decide +kernel)
def yn_fl_isWhole : MethodName := ({ cls := "MapForge$Flow", name := "isWhole", desc := "()Z" } : MethodName)
theorem en_fl_isRight : ∀ q ∈ cd_fl_isRight, zm_en prog_5_method_2_code q := zm_eb_ok (by decide +kernel)
def yn_fl_isRight : MethodName := ({ cls := "MapForge$Flow", name := "isRight", desc := "()Z" } : MethodName)
theorem en_tl_empty : ∀ q ∈ cd_tl_empty, zm_en prog_10_method_2_code q := zm_eb_ok (by decide +kernel)
def yn_tl_empty : MethodName := ({ cls := "MapForge$TypeList", name := "empty", desc := "()V" } : MethodName)
theorem en_tl_append : ∀ q ∈ cd_tl_append, zm_en prog_10_method_3_code q := zm_eb_ok (by decide +kernel)
def yn_tl_append : MethodName := ({ cls := "MapForge$TypeList", name := "append", desc := "(I)Z" } : MethodName)
theorem en_tl_drop : ∀ q ∈ cd_tl_drop, zm_en prog_10_method_4_code q := zm_eb_ok (by decide +kernel)
def yn_tl_drop : MethodName := ({ cls := "MapForge$TypeList", name := "drop", desc := "()V" } : MethodName)
theorem en_tl_gather : ∀ q ∈ cd_tl_gather, zm_en prog_10_method_6_code q := zm_eb_ok (by decide +kernel)
def yn_tl_gather : MethodName := ({ cls := "MapForge$TypeList", name := "gather", desc := "(LMapForge$Frame;)V" } : MethodName)
theorem en_tl_sharedStart : ∀ q ∈ cd_tl_sharedStart, zm_en prog_10_method_8_code q := zm_eb_ok (by decide +kernel)
def yn_tl_sharedStart : MethodName := ({ cls := "MapForge$TypeList", name := "sharedStart", desc := "(LMapForge$TypeList;)I" } : MethodName)
theorem en_by_put : ∀ q ∈ cd_by_put, zm_en prog_2_method_2_code q := zm_eb_ok (by decide +kernel)
def yn_by_put : MethodName := ({ cls := "MapForge$Bytes", name := "put", desc := "(I)V" } : MethodName)
theorem en_by_putTwo : ∀ q ∈ cd_by_putTwo, zm_en prog_2_method_3_code q := zm_eb_ok (by decide +kernel)
def yn_by_putTwo : MethodName := ({ cls := "MapForge$Bytes", name := "putTwo", desc := "(I)V" } : MethodName)
theorem en_wr_writeHead : ∀ q ∈ cd_wr_writeHead, zm_en prog_11_method_4_code q := zm_eb_ok (by decide +kernel)
def yn_wr_writeHead : MethodName := ({ cls := "MapForge$Writer", name := "writeHead", desc := "(III)V" } : MethodName)
theorem en_by_putType : ∀ q ∈ cd_by_putType, zm_en prog_2_method_4_code q := zm_eb_ok (by decide +kernel)
def yn_by_putType : MethodName := ({ cls := "MapForge$Bytes", name := "putType", desc := "(I)V" } : MethodName)
theorem en_wr_writeTypes : ∀ q ∈ cd_wr_writeTypes, zm_en prog_11_method_6_code q := zm_eb_ok (by decide +kernel)
def yn_wr_writeTypes : MethodName := ({ cls := "MapForge$Writer", name := "writeTypes", desc := "([III)V" } : MethodName)
theorem en_wr_writeWhole : ∀ q ∈ cd_wr_writeWhole, zm_en prog_11_method_5_code q := zm_eb_ok (by decide +kernel)
def yn_wr_writeWhole : MethodName := ({ cls := "MapForge$Writer", name := "writeWhole", desc := "(LMapForge$Frame;I)V" } : MethodName)
theorem en_wr_writeRow : ∀ q ∈ cd_wr_writeRow, zm_en prog_11_method_3_code q := zm_eb_ok (by decide +kernel)
def yn_wr_writeRow : MethodName := ({ cls := "MapForge$Writer", name := "writeRow", desc := "(LMapForge$Frame;I)V" } : MethodName)
theorem en_tl_takeOver : ∀ q ∈ cd_tl_takeOver, zm_en prog_10_method_5_code q := zm_eb_ok (by decide +kernel)
def yn_tl_takeOver : MethodName := ({ cls := "MapForge$TypeList", name := "takeOver", desc := "(LMapForge$TypeList;)V" } : MethodName)
theorem en_wr_writeRows : ∀ q ∈ cd_wr_writeRows, zm_en prog_11_method_2_code q := zm_eb_ok (by decide +kernel)
def yn_wr_writeRows : MethodName := ({ cls := "MapForge$Writer", name := "writeRows", desc := "()I" } : MethodName)
theorem en_by_takeOver : ∀ q ∈ cd_by_takeOver, zm_en prog_2_method_5_code q := zm_eb_ok (by decide +kernel)
def yn_by_takeOver : MethodName := ({ cls := "MapForge$Bytes", name := "takeOver", desc := "(LMapForge$Bytes;)V" } : MethodName)
theorem en_mf_make : ∀ q ∈ cd_mf_make, zm_en prog_1_method_8_code q := zm_eb_ok (by decide +kernel)
def yn_mf_make : MethodName := ({ cls := "MapForge", name := "make", desc := "()I" } : MethodName)
theorem en_mf_isQuestion : ∀ q ∈ cd_mf_isQuestion, zm_en prog_1_method_20_code q := zm_eb_ok (by decide +kernel)
def yn_mf_isQuestion : MethodName := ({ cls := "MapForge", name := "isQuestion", desc := "(II)Z" } : MethodName)
theorem en_fr_tell : ∀ q ∈ cd_fr_tell, zm_en prog_6_method_13_code q := zm_eb_ok (by decide +kernel)
def yn_fr_tell : MethodName := ({ cls := "MapForge$Frame", name := "tell", desc := "(I)I" } : MethodName)
theorem en_mf_flow : ∀ q ∈ cd_mf_flow, zm_en prog_1_method_9_code q := zm_eb_ok (by decide +kernel)
def yn_mf_flow : MethodName := ({ cls := "MapForge", name := "flow", desc := "(II)I" } : MethodName)
theorem en_re_begin : ∀ q ∈ cd_re_begin, zm_en prog_9_method_3_code q := zm_eb_ok (by decide +kernel)
def yn_re_begin : MethodName := ({ cls := "MapForge$Reader", name := "begin", desc := "()V" } : MethodName)
theorem en_re_readByte : ∀ q ∈ cd_re_readByte, zm_en prog_9_method_11_code q := zm_eb_ok (by decide +kernel)
def yn_re_readByte : MethodName := ({ cls := "MapForge$Reader", name := "readByte", desc := "()I" } : MethodName)
theorem en_re_readTwo : ∀ q ∈ cd_re_readTwo, zm_en prog_9_method_10_code q := zm_eb_ok (by decide +kernel)
def yn_re_readTwo : MethodName := ({ cls := "MapForge$Reader", name := "readTwo", desc := "()I" } : MethodName)
theorem en_re_readType : ∀ q ∈ cd_re_readType, zm_en prog_9_method_9_code q := zm_eb_ok (by decide +kernel)
def yn_re_readType : MethodName := ({ cls := "MapForge$Reader", name := "readType", desc := "()I" } : MethodName)
theorem en_re_readStack : ∀ q ∈ cd_re_readStack, zm_en prog_9_method_8_code q := zm_eb_ok (by decide +kernel)
def yn_re_readStack : MethodName := ({ cls := "MapForge$Reader", name := "readStack", desc := "(LMapForge$Frame;I)Z" } : MethodName)
theorem en_re_readList : ∀ q ∈ cd_re_readList, zm_en prog_9_method_7_code q := zm_eb_ok (by decide +kernel)
def yn_re_readList : MethodName := ({ cls := "MapForge$Reader", name := "readList", desc := "(I)Z" } : MethodName)
theorem en_re_shorten : ∀ q ∈ cd_re_shorten, zm_en prog_9_method_6_code q := zm_eb_ok (by decide +kernel)
def yn_re_shorten : MethodName := ({ cls := "MapForge$Reader", name := "shorten", desc := "(I)Z" } : MethodName)
theorem en_re_readRest : ∀ q ∈ cd_re_readRest, zm_en prog_9_method_5_code q := zm_eb_ok (by decide +kernel)
def yn_re_readRest : MethodName := ({ cls := "MapForge$Reader", name := "readRest", desc := "(ILMapForge$Frame;)Z" } : MethodName)
theorem en_tl_spread : ∀ q ∈ cd_tl_spread, zm_en prog_10_method_7_code q := zm_eb_ok (by decide +kernel)
def yn_tl_spread : MethodName := ({ cls := "MapForge$TypeList", name := "spread", desc := "(LMapForge$Frame;)V" } : MethodName)
theorem en_re_readRow : ∀ q ∈ cd_re_readRow, zm_en prog_9_method_4_code q := zm_eb_ok (by decide +kernel)
def yn_re_readRow : MethodName := ({ cls := "MapForge$Reader", name := "readRow", desc := "(LMapForge$Frame;)Z" } : MethodName)
theorem en_re_isSound : ∀ q ∈ cd_re_isSound, zm_en prog_9_method_2_code q := zm_eb_ok (by decide +kernel)
def yn_re_isSound : MethodName := ({ cls := "MapForge$Reader", name := "isSound", desc := "()Z" } : MethodName)
theorem en_fa_fits : ∀ q ∈ cd_fa_fits, zm_en prog_4_method_6_code q := zm_eb_ok (by decide +kernel)
def yn_fa_fits : MethodName := ({ cls := "MapForge$Family", name := "fits", desc := "(LMapForge$Frame;LMapForge$Frame;)Z" } : MethodName)
theorem en_ck_begins : ∀ q ∈ cd_ck_begins, zm_en prog_3_method_3_code q := zm_eb_ok (by decide +kernel)
def yn_ck_begins : MethodName := ({ cls := "MapForge$Checker", name := "begins", desc := "(IZ)Z" } : MethodName)
theorem en_ck_fitsAt : ∀ q ∈ cd_ck_fitsAt, zm_en prog_3_method_6_code q := zm_eb_ok (by decide +kernel)
def yn_ck_fitsAt : MethodName := ({ cls := "MapForge$Checker", name := "fitsAt", desc := "(ILMapForge$Frame;)Z" } : MethodName)
theorem en_ck_handlersFit : ∀ q ∈ cd_ck_handlersFit, zm_en prog_3_method_4_code q := zm_eb_ok (by decide +kernel)
def yn_ck_handlersFit : MethodName := ({ cls := "MapForge$Checker", name := "handlersFit", desc := "(I)Z" } : MethodName)
theorem en_ck_jumpFits : ∀ q ∈ cd_ck_jumpFits, zm_en prog_3_method_5_code q := zm_eb_ok (by decide +kernel)
def yn_ck_jumpFits : MethodName := ({ cls := "MapForge$Checker", name := "jumpFits", desc := "(I)Z" } : MethodName)
theorem en_ck_firstBad : ∀ q ∈ cd_ck_firstBad, zm_en prog_3_method_2_code q := zm_eb_ok (by decide +kernel)
def yn_ck_firstBad : MethodName := ({ cls := "MapForge$Checker", name := "firstBad", desc := "()I" } : MethodName)
theorem en_mf_check : ∀ q ∈ cd_mf_check, zm_en prog_1_method_10_code q := zm_eb_ok (by decide +kernel)
def yn_mf_check : MethodName := ({ cls := "MapForge", name := "check", desc := "()I" } : MethodName)
theorem en_mf_map : ∀ q ∈ cd_mf_map, zm_en prog_1_method_11_code q := zm_eb_ok (by decide +kernel)
def yn_mf_map : MethodName := ({ cls := "MapForge", name := "map", desc := "(I)I" } : MethodName)
theorem en_mf_patch : ∀ q ∈ cd_mf_patch, zm_en prog_1_method_12_code q := zm_eb_ok (by decide +kernel)
def yn_mf_patch : MethodName := ({ cls := "MapForge", name := "patch", desc := "(II)Z" } : MethodName)
theorem en_mf_cut : ∀ q ∈ cd_mf_cut, zm_en prog_1_method_13_code q := zm_eb_ok (by decide +kernel)
def yn_mf_cut : MethodName := ({ cls := "MapForge", name := "cut", desc := "(I)I" } : MethodName)
theorem en_mf_row : ∀ q ∈ cd_mf_row, zm_en prog_1_method_14_code q := zm_eb_ok (by decide +kernel)
def yn_mf_row : MethodName := ({ cls := "MapForge", name := "row", desc := "(II)I" } : MethodName)
theorem en_mf_code : ∀ q ∈ cd_mf_code, zm_en prog_1_method_15_code q := zm_eb_ok (by decide +kernel)
def yn_mf_code : MethodName := ({ cls := "MapForge", name := "code", desc := "(II)I" } : MethodName)
theorem en_mf_count : ∀ q ∈ cd_mf_count, zm_en prog_1_method_16_code q := zm_eb_ok (by decide +kernel)
def yn_mf_count : MethodName := ({ cls := "MapForge", name := "count", desc := "(I)I" } : MethodName)
theorem en_mo_in : ∀ q ∈ cd_mo_in, zm_en prog_13_method_2_code q := zm_eb_ok (by decide +kernel)
def yn_mo_in : MethodName := ({ cls := "MapForgeModel", name := "in", desc := "(III)Z" } : MethodName)
theorem en_mo_type : ∀ q ∈ cd_mo_type, zm_en prog_13_method_8_code q := zm_eb_ok (by decide +kernel)
def yn_mo_type : MethodName := ({ cls := "MapForgeModel", name := "type", desc := "(IIZ)Z" } : MethodName)
theorem en_mo_method : ∀ q ∈ cd_mo_method, zm_en prog_13_method_9_code q := zm_eb_ok (by decide +kernel)
def yn_mo_method : MethodName := ({ cls := "MapForgeModel", name := "method", desc := "(IIZ)Z" } : MethodName)
theorem en_mo_kind : ∀ q ∈ cd_mo_kind, zm_en prog_13_method_3_code q := zm_eb_ok (by decide +kernel)
def yn_mo_kind : MethodName := ({ cls := "MapForgeModel", name := "kind", desc := "(I)I" } : MethodName)
theorem en_mo_argument : ∀ q ∈ cd_mo_argument, zm_en prog_13_method_10_code q := zm_eb_ok (by decide +kernel)
def yn_mo_argument : MethodName := ({ cls := "MapForgeModel", name := "argument", desc := "(I)I" } : MethodName)
theorem en_mo_isWideLocal : ∀ q ∈ cd_mo_isWideLocal, zm_en prog_13_method_11_code q := zm_eb_ok (by decide +kernel)
def yn_mo_isWideLocal : MethodName := ({ cls := "MapForgeModel", name := "isWideLocal", desc := "(I)Z" } : MethodName)
theorem en_mo_isGood : ∀ q ∈ cd_mo_isGood, zm_en prog_13_method_12_code q := zm_eb_ok (by decide +kernel)
def yn_mo_isGood : MethodName := ({ cls := "MapForgeModel", name := "isGood", desc := "(III)Z" } : MethodName)
theorem en_mo_set : ∀ q ∈ cd_mo_set, zm_en prog_13_method_13_code q := zm_eb_ok (by decide +kernel)
def yn_mo_set : MethodName := ({ cls := "MapForgeModel", name := "set", desc := "(IIII)V" } : MethodName)
theorem en_mo_add : ∀ q ∈ cd_mo_add, zm_en prog_13_method_14_code q := zm_eb_ok (by decide +kernel)
def yn_mo_add : MethodName := ({ cls := "MapForgeModel", name := "add", desc := "(III)I" } : MethodName)
theorem en_mo_change : ∀ q ∈ cd_mo_change, zm_en prog_13_method_15_code q := zm_eb_ok (by decide +kernel)
def yn_mo_change : MethodName := ({ cls := "MapForgeModel", name := "change", desc := "(IIII)Z" } : MethodName)
theorem en_mo_handle : ∀ q ∈ cd_mo_handle, zm_en prog_13_method_16_code q := zm_eb_ok (by decide +kernel)
def yn_mo_handle : MethodName := ({ cls := "MapForgeModel", name := "handle", desc := "(IIII)I" } : MethodName)
theorem en_mo_isWide : ∀ q ∈ cd_mo_isWide, zm_en prog_13_method_4_code q := zm_eb_ok (by decide +kernel)
def yn_mo_isWide : MethodName := ({ cls := "MapForgeModel", name := "isWide", desc := "(I)Z" } : MethodName)
theorem en_mo_first : ∀ q ∈ cd_mo_first, zm_en prog_13_method_20_code q := zm_eb_ok (by decide +kernel)
def yn_mo_first : MethodName := ({ cls := "MapForgeModel", name := "first", desc := "()V" } : MethodName)
theorem en_mo_isInLine : ∀ q ∈ cd_mo_isInLine, zm_en prog_13_method_5_code q := zm_eb_ok (by decide +kernel)
def yn_mo_isInLine : MethodName := ({ cls := "MapForgeModel", name := "isInLine", desc := "(II)Z" } : MethodName)
theorem en_mo_join : ∀ q ∈ cd_mo_join, zm_en prog_13_method_7_code q := zm_eb_ok (by decide +kernel)
def yn_mo_join : MethodName := ({ cls := "MapForgeModel", name := "join", desc := "(II)I" } : MethodName)
theorem en_mo_arrive : ∀ q ∈ cd_mo_arrive, zm_en prog_13_method_37_code q := zm_eb_ok (by decide +kernel)
def yn_mo_arrive : MethodName := ({ cls := "MapForgeModel", name := "arrive", desc := "(I)V" } : MethodName)
theorem en_mo_fetch : ∀ q ∈ cd_mo_fetch, zm_en prog_13_method_36_code q := zm_eb_ok (by decide +kernel)
def yn_mo_fetch : MethodName := ({ cls := "MapForgeModel", name := "fetch", desc := "(I)V" } : MethodName)
theorem en_mo_top : ∀ q ∈ cd_mo_top, zm_en prog_13_method_23_code q := zm_eb_ok (by decide +kernel)
def yn_mo_top : MethodName := ({ cls := "MapForgeModel", name := "top", desc := "(I)I" } : MethodName)
theorem en_mo_slots : ∀ q ∈ cd_mo_slots, zm_en prog_13_method_21_code q := zm_eb_ok (by decide +kernel)
def yn_mo_slots : MethodName := ({ cls := "MapForgeModel", name := "slots", desc := "()I" } : MethodName)
theorem en_mo_push : ∀ q ∈ cd_mo_push, zm_en prog_13_method_22_code q := zm_eb_ok (by decide +kernel)
def yn_mo_push : MethodName := ({ cls := "MapForgeModel", name := "push", desc := "(I)Z" } : MethodName)
theorem en_mo_isSmall : ∀ q ∈ cd_mo_isSmall, zm_en prog_13_method_24_code q := zm_eb_ok (by decide +kernel)
def yn_mo_isSmall : MethodName := ({ cls := "MapForgeModel", name := "isSmall", desc := "(I)Z" } : MethodName)
theorem en_mo_takes : ∀ q ∈ cd_mo_takes, zm_en prog_13_method_29_code q := zm_eb_ok (by decide +kernel)
def yn_mo_takes : MethodName := ({ cls := "MapForgeModel", name := "takes", desc := "(ZI)Z" } : MethodName)
theorem en_mo_sum : ∀ q ∈ cd_mo_sum, zm_en prog_13_method_28_code q := zm_eb_ok (by decide +kernel)
def yn_mo_sum : MethodName := ({ cls := "MapForgeModel", name := "sum", desc := "(I)Z" } : MethodName)
theorem en_mo_swap : ∀ q ∈ cd_mo_swap, zm_en prog_13_method_27_code q := zm_eb_ok (by decide +kernel)
def yn_mo_swap : MethodName := ({ cls := "MapForgeModel", name := "swap", desc := "(II)Z" } : MethodName)
theorem en_mo_is : ∀ q ∈ cd_mo_is, zm_en prog_13_method_6_code q := zm_eb_ok (by decide +kernel)
def yn_mo_is : MethodName := ({ cls := "MapForgeModel", name := "is", desc := "(II)Z" } : MethodName)
theorem en_mo_simple : ∀ q ∈ cd_mo_simple, zm_en prog_13_method_30_code q := zm_eb_ok (by decide +kernel)
def yn_mo_simple : MethodName := ({ cls := "MapForgeModel", name := "simple", desc := "(I)Z" } : MethodName)
theorem en_mo_typeFor : ∀ q ∈ cd_mo_typeFor, zm_en prog_13_method_31_code q := zm_eb_ok (by decide +kernel)
def yn_mo_typeFor : MethodName := ({ cls := "MapForgeModel", name := "typeFor", desc := "(I)I" } : MethodName)
theorem en_mo_isPointer : ∀ q ∈ cd_mo_isPointer, zm_en prog_13_method_25_code q := zm_eb_ok (by decide +kernel)
def yn_mo_isPointer : MethodName := ({ cls := "MapForgeModel", name := "isPointer", desc := "(I)Z" } : MethodName)
theorem en_mo_isReference : ∀ q ∈ cd_mo_isReference, zm_en prog_13_method_26_code q := zm_eb_ok (by decide +kernel)
def yn_mo_isReference : MethodName := ({ cls := "MapForgeModel", name := "isReference", desc := "(I)Z" } : MethodName)
theorem en_mo_move : ∀ q ∈ cd_mo_move, zm_en prog_13_method_32_code q := zm_eb_ok (by decide +kernel)
def yn_mo_move : MethodName := ({ cls := "MapForgeModel", name := "move", desc := "(II)Z" } : MethodName)
theorem en_mo_sizeOf : ∀ q ∈ cd_mo_sizeOf, zm_en prog_13_method_17_code q := zm_eb_ok (by decide +kernel)
def yn_mo_sizeOf : MethodName := ({ cls := "MapForgeModel", name := "sizeOf", desc := "(I)I" } : MethodName)
theorem en_mo_offset : ∀ q ∈ cd_mo_offset, zm_en prog_13_method_18_code q := zm_eb_ok (by decide +kernel)
def yn_mo_offset : MethodName := ({ cls := "MapForgeModel", name := "offset", desc := "(I)I" } : MethodName)
theorem en_mo_placeAt : ∀ q ∈ cd_mo_placeAt, zm_en prog_13_method_19_code q := zm_eb_ok (by decide +kernel)
def yn_mo_placeAt : MethodName := ({ cls := "MapForgeModel", name := "placeAt", desc := "(I)I" } : MethodName)
theorem en_mo_init : ∀ q ∈ cd_mo_init, zm_en prog_13_method_33_code q := zm_eb_ok (by decide +kernel)
def yn_mo_init : MethodName := ({ cls := "MapForgeModel", name := "init", desc := "(I)Z" } : MethodName)
theorem en_mo_leave : ∀ q ∈ cd_mo_leave, zm_en prog_13_method_34_code q := zm_eb_ok (by decide +kernel)
def yn_mo_leave : MethodName := ({ cls := "MapForgeModel", name := "leave", desc := "(I)Z" } : MethodName)
theorem en_mo_isEnd : ∀ q ∈ cd_mo_isEnd, zm_en prog_13_method_35_code q := zm_eb_ok (by decide +kernel)
def yn_mo_isEnd : MethodName := ({ cls := "MapForgeModel", name := "isEnd", desc := "(I)Z" } : MethodName)
theorem en_mo_goHandled : ∀ q ∈ cd_mo_goHandled, zm_en prog_13_method_40_code q := zm_eb_ok (by decide +kernel)
def yn_mo_goHandled : MethodName := ({ cls := "MapForgeModel", name := "goHandled", desc := "(I)V" } : MethodName)
theorem en_mo_hasRow : ∀ q ∈ cd_mo_hasRow, zm_en prog_13_method_38_code q := zm_eb_ok (by decide +kernel)
def yn_mo_hasRow : MethodName := ({ cls := "MapForgeModel", name := "hasRow", desc := "(I)Z" } : MethodName)
theorem en_mo_hasThis : ∀ q ∈ cd_mo_hasThis, zm_en prog_13_method_39_code q := zm_eb_ok (by decide +kernel)
def yn_mo_hasThis : MethodName := ({ cls := "MapForgeModel", name := "hasThis", desc := "(I)Z" } : MethodName)
theorem en_mo_isRight : ∀ q ∈ cd_mo_isRight, zm_en prog_13_method_41_code q := zm_eb_ok (by decide +kernel)
def yn_mo_isRight : MethodName := ({ cls := "MapForgeModel", name := "isRight", desc := "()Z" } : MethodName)
theorem en_mo_enlist : ∀ q ∈ cd_mo_enlist, zm_en prog_13_method_43_code q := zm_eb_ok (by decide +kernel)
def yn_mo_enlist : MethodName := ({ cls := "MapForgeModel", name := "enlist", desc := "()V" } : MethodName)
theorem en_mo_keep : ∀ q ∈ cd_mo_keep, zm_en prog_13_method_44_code q := zm_eb_ok (by decide +kernel)
def yn_mo_keep : MethodName := ({ cls := "MapForgeModel", name := "keep", desc := "()V" } : MethodName)
theorem en_mo_begins : ∀ q ∈ cd_mo_begins, zm_en prog_13_method_48_code q := zm_eb_ok (by decide +kernel)
def yn_mo_begins : MethodName := ({ cls := "MapForgeModel", name := "begins", desc := "()Z" } : MethodName)
theorem en_mo_write : ∀ q ∈ cd_mo_write, zm_en prog_13_method_45_code q := zm_eb_ok (by decide +kernel)
def yn_mo_write : MethodName := ({ cls := "MapForgeModel", name := "write", desc := "(I)V" } : MethodName)
theorem en_mo_writeTwo : ∀ q ∈ cd_mo_writeTwo, zm_en prog_13_method_46_code q := zm_eb_ok (by decide +kernel)
def yn_mo_writeTwo : MethodName := ({ cls := "MapForgeModel", name := "writeTwo", desc := "(I)V" } : MethodName)
theorem en_mo_writeType : ∀ q ∈ cd_mo_writeType, zm_en prog_13_method_47_code q := zm_eb_ok (by decide +kernel)
def yn_mo_writeType : MethodName := ({ cls := "MapForgeModel", name := "writeType", desc := "(I)V" } : MethodName)
theorem en_mo_writeRow : ∀ q ∈ cd_mo_writeRow, zm_en prog_13_method_49_code q := zm_eb_ok (by decide +kernel)
def yn_mo_writeRow : MethodName := ({ cls := "MapForgeModel", name := "writeRow", desc := "(I)V" } : MethodName)
theorem en_mo_make : ∀ q ∈ cd_mo_make, zm_en prog_13_method_50_code q := zm_eb_ok (by decide +kernel)
def yn_mo_make : MethodName := ({ cls := "MapForgeModel", name := "make", desc := "()I" } : MethodName)
theorem en_mo_flow : ∀ q ∈ cd_mo_flow, zm_en prog_13_method_42_code q := zm_eb_ok (by decide +kernel)
def yn_mo_flow : MethodName := ({ cls := "MapForgeModel", name := "flow", desc := "(II)I" } : MethodName)
theorem en_mo_byteNext : ∀ q ∈ cd_mo_byteNext, zm_en prog_13_method_51_code q := zm_eb_ok (by decide +kernel)
def yn_mo_byteNext : MethodName := ({ cls := "MapForgeModel", name := "byteNext", desc := "()I" } : MethodName)
theorem en_mo_twoNext : ∀ q ∈ cd_mo_twoNext, zm_en prog_13_method_52_code q := zm_eb_ok (by decide +kernel)
def yn_mo_twoNext : MethodName := ({ cls := "MapForgeModel", name := "twoNext", desc := "()I" } : MethodName)
theorem en_mo_typeNext : ∀ q ∈ cd_mo_typeNext, zm_en prog_13_method_53_code q := zm_eb_ok (by decide +kernel)
def yn_mo_typeNext : MethodName := ({ cls := "MapForgeModel", name := "typeNext", desc := "()I" } : MethodName)
theorem en_mo_stackNext : ∀ q ∈ cd_mo_stackNext, zm_en prog_13_method_55_code q := zm_eb_ok (by decide +kernel)
def yn_mo_stackNext : MethodName := ({ cls := "MapForgeModel", name := "stackNext", desc := "()V" } : MethodName)
theorem en_mo_enter : ∀ q ∈ cd_mo_enter, zm_en prog_13_method_54_code q := zm_eb_ok (by decide +kernel)
def yn_mo_enter : MethodName := ({ cls := "MapForgeModel", name := "enter", desc := "(I)V" } : MethodName)
theorem en_mo_readFull : ∀ q ∈ cd_mo_readFull, zm_en prog_13_method_57_code q := zm_eb_ok (by decide +kernel)
def yn_mo_readFull : MethodName := ({ cls := "MapForgeModel", name := "readFull", desc := "()V" } : MethodName)
theorem en_mo_readForm : ∀ q ∈ cd_mo_readForm, zm_en prog_13_method_56_code q := zm_eb_ok (by decide +kernel)
def yn_mo_readForm : MethodName := ({ cls := "MapForgeModel", name := "readForm", desc := "(I)I" } : MethodName)
theorem en_mo_readRows : ∀ q ∈ cd_mo_readRows, zm_en prog_13_method_58_code q := zm_eb_ok (by decide +kernel)
def yn_mo_readRows : MethodName := ({ cls := "MapForgeModel", name := "readRows", desc := "()Z" } : MethodName)
theorem en_mo_rowAt : ∀ q ∈ cd_mo_rowAt, zm_en prog_13_method_59_code q := zm_eb_ok (by decide +kernel)
def yn_mo_rowAt : MethodName := ({ cls := "MapForgeModel", name := "rowAt", desc := "(I)I" } : MethodName)
theorem en_mo_rowIsRaw : ∀ q ∈ cd_mo_rowIsRaw, zm_en prog_13_method_60_code q := zm_eb_ok (by decide +kernel)
def yn_mo_rowIsRaw : MethodName := ({ cls := "MapForgeModel", name := "rowIsRaw", desc := "(I)Z" } : MethodName)
theorem en_mo_fits : ∀ q ∈ cd_mo_fits, zm_en prog_13_method_61_code q := zm_eb_ok (by decide +kernel)
def yn_mo_fits : MethodName := ({ cls := "MapForgeModel", name := "fits", desc := "(I)Z" } : MethodName)
theorem en_mo_take : ∀ q ∈ cd_mo_take, zm_en prog_13_method_63_code q := zm_eb_ok (by decide +kernel)
def yn_mo_take : MethodName := ({ cls := "MapForgeModel", name := "take", desc := "(I)V" } : MethodName)
theorem en_mo_fitsAt : ∀ q ∈ cd_mo_fitsAt, zm_en prog_13_method_62_code q := zm_eb_ok (by decide +kernel)
def yn_mo_fitsAt : MethodName := ({ cls := "MapForgeModel", name := "fitsAt", desc := "(I)Z" } : MethodName)
theorem en_mo_handled : ∀ q ∈ cd_mo_handled, zm_en prog_13_method_64_code q := zm_eb_ok (by decide +kernel)
def yn_mo_handled : MethodName := ({ cls := "MapForgeModel", name := "handled", desc := "(I)Z" } : MethodName)
theorem en_mo_check : ∀ q ∈ cd_mo_check, zm_en prog_13_method_65_code q := zm_eb_ok (by decide +kernel)
def yn_mo_check : MethodName := ({ cls := "MapForgeModel", name := "check", desc := "()I" } : MethodName)
theorem en_mo_map : ∀ q ∈ cd_mo_map, zm_en prog_13_method_66_code q := zm_eb_ok (by decide +kernel)
def yn_mo_map : MethodName := ({ cls := "MapForgeModel", name := "map", desc := "(I)I" } : MethodName)
theorem en_mo_patch : ∀ q ∈ cd_mo_patch, zm_en prog_13_method_67_code q := zm_eb_ok (by decide +kernel)
def yn_mo_patch : MethodName := ({ cls := "MapForgeModel", name := "patch", desc := "(II)Z" } : MethodName)
theorem en_mo_cut : ∀ q ∈ cd_mo_cut, zm_en prog_13_method_68_code q := zm_eb_ok (by decide +kernel)
def yn_mo_cut : MethodName := ({ cls := "MapForgeModel", name := "cut", desc := "(I)I" } : MethodName)
theorem en_mo_row : ∀ q ∈ cd_mo_row, zm_en prog_13_method_69_code q := zm_eb_ok (by decide +kernel)
def yn_mo_row : MethodName := ({ cls := "MapForgeModel", name := "row", desc := "(II)I" } : MethodName)
theorem en_mo_code : ∀ q ∈ cd_mo_code, zm_en prog_13_method_70_code q := zm_eb_ok (by decide +kernel)
def yn_mo_code : MethodName := ({ cls := "MapForgeModel", name := "code", desc := "(II)I" } : MethodName)
theorem en_mo_count : ∀ q ∈ cd_mo_count, zm_en prog_13_method_71_code q := zm_eb_ok (by decide +kernel)
def yn_mo_count : MethodName := ({ cls := "MapForgeModel", name := "count", desc := "(I)I" } : MethodName)
end
section
def lf_fa_describe : List (Nat × (Nat × Nat)) := [(9, (0, 0)), (15, (0, 1)), (19, (0, 2))]
def lc_fa_describe : List (Nat × Int32) := []
def lg_fa_describe : List (Nat × (Nat × Nat)) := []
def li_fa_describe : List (Nat × zm_F) := []
def lx_fa_describe : zm_X := (zl_up lf_fa_describe, zl_up lc_fa_describe, zl_up lg_fa_describe, zl_up li_fa_describe)
def fn_fa_describe : List zm_V → zm_M → Option zm_M := zm_fv zt_Y 0 3 (fun av M => zm_rn zt_Y lx_fa_describe zr_v cd_fa_describe 1073741824 0 (zm_lo av 5) [] M)
def lf_mf_forgetFindings : List (Nat × (Nat × Nat)) := [(40, (10, 3)), (188, (5, 8)), (58, (10, 5)), (136, (8, 9))]
def lc_mf_forgetFindings : List (Nat × Int32) := []
def lg_mf_forgetFindings : List (Nat × (Nat × Nat)) := []
def li_mf_forgetFindings : List (Nat × zm_F) := []
def lx_mf_forgetFindings : zm_X := (zl_up lf_mf_forgetFindings, zl_up lc_mf_forgetFindings, zl_up lg_mf_forgetFindings, zl_up li_mf_forgetFindings)
def fn_mf_forgetFindings : List zm_V → zm_M → Option zm_M := zm_fv zt_Y 10 0 (fun av M => zm_rn zt_Y lx_mf_forgetFindings zr_v cd_mf_forgetFindings 1 0 (zm_lo av 1) [] M)
def lf_mf_type : List (Nat × (Nat × Nat)) := [(12, (10, 0))]
def lc_mf_type : List (Nat × Int32) := []
def lg_mf_type : List (Nat × (Nat × Nat)) := []
def li_mf_type : List (Nat × zm_F) := [(143, (4, .inr (.inl fn_fa_describe))), (151, (1, .inr (.inl fn_mf_forgetFindings)))]
def lx_mf_type : zm_X := (zl_up lf_mf_type, zl_up lc_mf_type, zl_up lg_mf_type, zl_up li_mf_type)
def fn_mf_type : List zm_V → zm_M → Option (Int32 × zm_M) := zm_fv zt_Y 10 3 (fun av M => zm_rn zt_Y lx_mf_type zr_z cd_mf_type 1 0 (zm_lo av 4) [] M)
def lf_mf_isClass : List (Nat × (Nat × Nat)) := []
def lc_mf_isClass : List (Nat × Int32) := []
def lg_mf_isClass : List (Nat × (Nat × Nat)) := []
def li_mf_isClass : List (Nat × zm_F) := []
def lx_mf_isClass : zm_X := (zl_up lf_mf_isClass, zl_up lc_mf_isClass, zl_up lg_mf_isClass, zl_up li_mf_isClass)
def fn_mf_isClass : List zm_V → zm_M → Option (Int32 × zm_M) := zm_fs 1 (fun av M => zm_rn zt_Y lx_mf_isClass zr_z cd_mf_isClass 1 0 (zm_lo av 1) [] M)
def lf_pr_begin : List (Nat × (Nat × Nat)) := [(39, (1, 0)), (43, (1, 1)), (46, (1, 2)), (50, (1, 4)), (53, (1, 9)), (56, (1, 14))]
def lc_pr_begin : List (Nat × Int32) := []
def lg_pr_begin : List (Nat × (Nat × Nat)) := []
def li_pr_begin : List (Nat × zm_F) := []
def lx_pr_begin : zm_X := (zl_up lf_pr_begin, zl_up lc_pr_begin, zl_up lg_pr_begin, zl_up li_pr_begin)
def fn_pr_begin : List zm_V → zm_M → Option zm_M := zm_fv zt_Y 1 3 (fun av M => zm_rn zt_Y lx_pr_begin zr_v cd_pr_begin 1 0 (zm_lo av 4) [] M)
def lf_mf_method : List (Nat × (Nat × Nat)) := [(19, (10, 1))]
def lc_mf_method : List (Nat × Int32) := []
def lg_mf_method : List (Nat × (Nat × Nat)) := []
def li_mf_method : List (Nat × zm_F) := [(156, (1, .inl fn_mf_isClass)), (165, (4, .inr (.inl fn_pr_begin))), (151, (1, .inr (.inl fn_mf_forgetFindings)))]
def lx_mf_method : zm_X := (zl_up lf_mf_method, zl_up lc_mf_method, zl_up lg_mf_method, zl_up li_mf_method)
def fn_mf_method : List zm_V → zm_M → Option (Int32 × zm_M) := zm_fv zt_Y 10 3 (fun av M => zm_rn zt_Y lx_mf_method zr_z cd_mf_method 1 0 (zm_lo av 4) [] M)
def lf_mf_kindOf : List (Nat × (Nat × Nat)) := []
def lc_mf_kindOf : List (Nat × Int32) := []
def lg_mf_kindOf : List (Nat × (Nat × Nat)) := []
def li_mf_kindOf : List (Nat × zm_F) := []
def lx_mf_kindOf : zm_X := (zl_up lf_mf_kindOf, zl_up lc_mf_kindOf, zl_up lg_mf_kindOf, zl_up li_mf_kindOf)
def fn_mf_kindOf : List zm_V → zm_M → Option (Int32 × zm_M) := zm_fs 1 (fun av M => zm_rn zt_Y lx_mf_kindOf zr_i cd_mf_kindOf 1 0 (zm_lo av 1) [] M)
def lf_mf_partOf : List (Nat × (Nat × Nat)) := []
def lc_mf_partOf : List (Nat × Int32) := []
def lg_mf_partOf : List (Nat × (Nat × Nat)) := []
def li_mf_partOf : List (Nat × zm_F) := []
def lx_mf_partOf : zm_X := (zl_up lf_mf_partOf, zl_up lc_mf_partOf, zl_up lg_mf_partOf, zl_up li_mf_partOf)
def fn_mf_partOf : List zm_V → zm_M → Option (Int32 × zm_M) := zm_fs 1 (fun av M => zm_rn zt_Y lx_mf_partOf zr_i cd_mf_partOf 1 0 (zm_lo av 1) [] M)
def lf_mf_argument : List (Nat × (Nat × Nat)) := [(19, (10, 1)), (92, (1, 4)), (96, (1, 3))]
def lc_mf_argument : List (Nat × Int32) := []
def lg_mf_argument : List (Nat × (Nat × Nat)) := []
def li_mf_argument : List (Nat × zm_F) := [(170, (1, .inl fn_mf_kindOf)), (178, (1, .inl fn_mf_partOf)), (156, (1, .inl fn_mf_isClass)), (151, (1, .inr (.inl fn_mf_forgetFindings)))]
def lx_mf_argument : zm_X := (zl_up lf_mf_argument, zl_up lc_mf_argument, zl_up lg_mf_argument, zl_up li_mf_argument)
def fn_mf_argument : List zm_V → zm_M → Option (Int32 × zm_M) := zm_fv zt_Y 10 1 (fun av M => zm_rn zt_Y lx_mf_argument zr_i cd_mf_argument 1 0 (zm_lo av 4) [] M)
def lf_mf_hasLocal : List (Nat × (Nat × Nat)) := []
def lc_mf_hasLocal : List (Nat × Int32) := []
def lg_mf_hasLocal : List (Nat × (Nat × Nat)) := []
def li_mf_hasLocal : List (Nat × zm_F) := []
def lx_mf_hasLocal : zm_X := (zl_up lf_mf_hasLocal, zl_up lc_mf_hasLocal, zl_up lg_mf_hasLocal, zl_up li_mf_hasLocal)
def fn_mf_hasLocal : List zm_V → zm_M → Option (Int32 × zm_M) := zm_fs 1 (fun av M => zm_rn zt_Y lx_mf_hasLocal zr_z cd_mf_hasLocal 1 0 (zm_lo av 1) [] M)
def lf_mf_localKindOf : List (Nat × (Nat × Nat)) := []
def lc_mf_localKindOf : List (Nat × Int32) := []
def lg_mf_localKindOf : List (Nat × (Nat × Nat)) := [(201, (62, 0))]
def li_mf_localKindOf : List (Nat × zm_F) := []
def lx_mf_localKindOf : zm_X := (zl_up lf_mf_localKindOf, zl_up lc_mf_localKindOf, zl_up lg_mf_localKindOf, zl_up li_mf_localKindOf)
def fn_mf_localKindOf : List zm_V → zm_M → Option (Int32 × zm_M) := zm_fs 1 (fun av M => zm_rn zt_Y lx_mf_localKindOf zr_i cd_mf_localKindOf 1 0 (zm_lo av 1) [] M)
def lf_mf_widthOf : List (Nat × (Nat × Nat)) := []
def lc_mf_widthOf : List (Nat × Int32) := []
def lg_mf_widthOf : List (Nat × (Nat × Nat)) := []
def li_mf_widthOf : List (Nat × zm_F) := []
def lx_mf_widthOf : zm_X := (zl_up lf_mf_widthOf, zl_up lc_mf_widthOf, zl_up lg_mf_widthOf, zl_up li_mf_widthOf)
def fn_mf_widthOf : List zm_V → zm_M → Option (Int32 × zm_M) := zm_fs 1 (fun av M => zm_rn zt_Y lx_mf_widthOf zr_i cd_mf_widthOf 1 0 (zm_lo av 1) [] M)
def lf_mf_isJump : List (Nat × (Nat × Nat)) := []
def lc_mf_isJump : List (Nat × Int32) := []
def lg_mf_isJump : List (Nat × (Nat × Nat)) := []
def li_mf_isJump : List (Nat × zm_F) := []
def lx_mf_isJump : zm_X := (zl_up lf_mf_isJump, zl_up lc_mf_isJump, zl_up lg_mf_isJump, zl_up li_mf_isJump)
def fn_mf_isJump : List zm_V → zm_M → Option (Int32 × zm_M) := zm_fs 1 (fun av M => zm_rn zt_Y lx_mf_isJump zr_z cd_mf_isJump 1 0 (zm_lo av 1) [] M)
def lf_mf_isPlace : List (Nat × (Nat × Nat)) := []
def lc_mf_isPlace : List (Nat × Int32) := []
def lg_mf_isPlace : List (Nat × (Nat × Nat)) := []
def li_mf_isPlace : List (Nat × zm_F) := []
def lx_mf_isPlace : zm_X := (zl_up lf_mf_isPlace, zl_up lc_mf_isPlace, zl_up lg_mf_isPlace, zl_up li_mf_isPlace)
def fn_mf_isPlace : List zm_V → zm_M → Option (Int32 × zm_M) := zm_fs 1 (fun av M => zm_rn zt_Y lx_mf_isPlace zr_z cd_mf_isPlace 1 0 (zm_lo av 1) [] M)
def lf_mf_isInstruction : List (Nat × (Nat × Nat)) := []
def lc_mf_isInstruction : List (Nat × Int32) := []
def lg_mf_isInstruction : List (Nat × (Nat × Nat)) := []
def li_mf_isInstruction : List (Nat × zm_F) := [(378, (1, .inl fn_mf_hasLocal)), (384, (1, .inl fn_mf_localKindOf)), (390, (1, .inl fn_mf_widthOf)), (396, (1, .inl fn_mf_isJump)), (222, (1, .inl fn_mf_isPlace)), (156, (1, .inl fn_mf_isClass))]
def lx_mf_isInstruction : zm_X := (zl_up lf_mf_isInstruction, zl_up lc_mf_isInstruction, zl_up lg_mf_isInstruction, zl_up li_mf_isInstruction)
def fn_mf_isInstruction : List zm_V → zm_M → Option (Int32 × zm_M) := zm_fs 3 (fun av M => zm_rn zt_Y lx_mf_isInstruction zr_z cd_mf_isInstruction 1 0 (zm_lo av 3) [] M)
def lf_mf_lengthOf : List (Nat × (Nat × Nat)) := []
def lc_mf_lengthOf : List (Nat × Int32) := []
def lg_mf_lengthOf : List (Nat × (Nat × Nat)) := []
def li_mf_lengthOf : List (Nat × zm_F) := []
def lx_mf_lengthOf : zm_X := (zl_up lf_mf_lengthOf, zl_up lc_mf_lengthOf, zl_up lg_mf_lengthOf, zl_up li_mf_lengthOf)
def fn_mf_lengthOf : List zm_V → zm_M → Option (Int32 × zm_M) := zm_fs 1 (fun av M => zm_rn zt_Y lx_mf_lengthOf zr_i cd_mf_lengthOf 1 0 (zm_lo av 1) [] M)
def lf_pr_write : List (Nat × (Nat × Nat)) := [(15, (1, 5)), (18, (1, 6)), (21, (1, 7)), (53, (1, 9)), (24, (1, 8))]
def lc_pr_write : List (Nat × Int32) := []
def lg_pr_write : List (Nat × (Nat × Nat)) := []
def li_pr_write : List (Nat × zm_F) := [(118, (1, .inl fn_mf_hasLocal)), (126, (1, .inl fn_mf_isJump)), (132, (1, .inl fn_mf_lengthOf))]
def lx_pr_write : zm_X := (zl_up lf_pr_write, zl_up lc_pr_write, zl_up lg_pr_write, zl_up li_pr_write)
def fn_pr_write : List zm_V → zm_M → Option zm_M := zm_fv zt_Y 1 4 (fun av M => zm_rn zt_Y lx_pr_write zr_v cd_pr_write 1073741824 0 (zm_lo av 6) [] M)
def lf_mf_add : List (Nat × (Nat × Nat)) := [(19, (10, 1)), (104, (1, 9))]
def lc_mf_add : List (Nat × Int32) := []
def lg_mf_add : List (Nat × (Nat × Nat)) := []
def li_mf_add : List (Nat × zm_F) := [(200, (3, .inl fn_mf_isInstruction)), (215, (5, .inr (.inl fn_pr_write))), (151, (1, .inr (.inl fn_mf_forgetFindings)))]
def lx_mf_add : zm_X := (zl_up lf_mf_add, zl_up lc_mf_add, zl_up lg_mf_add, zl_up li_mf_add)
def fn_mf_add : List zm_V → zm_M → Option (Int32 × zm_M) := zm_fv zt_Y 10 3 (fun av M => zm_rn zt_Y lx_mf_add zr_i cd_mf_add 1 0 (zm_lo av 4) [] M)
def lf_mf_change : List (Nat × (Nat × Nat)) := [(19, (10, 1)), (104, (1, 9))]
def lc_mf_change : List (Nat × Int32) := []
def lg_mf_change : List (Nat × (Nat × Nat)) := []
def li_mf_change : List (Nat × zm_F) := [(200, (3, .inl fn_mf_isInstruction)), (215, (5, .inr (.inl fn_pr_write))), (151, (1, .inr (.inl fn_mf_forgetFindings)))]
def lx_mf_change : zm_X := (zl_up lf_mf_change, zl_up lc_mf_change, zl_up lg_mf_change, zl_up li_mf_change)
def fn_mf_change : List zm_V → zm_M → Option (Int32 × zm_M) := zm_fv zt_Y 10 4 (fun av M => zm_rn zt_Y lx_mf_change zr_z cd_mf_change 1 0 (zm_lo av 5) [] M)
def lf_pr_guard : List (Nat × (Nat × Nat)) := [(27, (1, 10)), (56, (1, 14)), (30, (1, 11)), (33, (1, 12)), (36, (1, 13))]
def lc_pr_guard : List (Nat × Int32) := []
def lg_pr_guard : List (Nat × (Nat × Nat)) := []
def li_pr_guard : List (Nat × zm_F) := []
def lx_pr_guard : zm_X := (zl_up lf_pr_guard, zl_up lc_pr_guard, zl_up lg_pr_guard, zl_up li_pr_guard)
def fn_pr_guard : List zm_V → zm_M → Option zm_M := zm_fv zt_Y 1 4 (fun av M => zm_rn zt_Y lx_pr_guard zr_v cd_pr_guard 1 0 (zm_lo av 5) [] M)
def lf_mf_handle : List (Nat × (Nat × Nat)) := [(19, (10, 1)), (114, (1, 14))]
def lc_mf_handle : List (Nat × Int32) := []
def lg_mf_handle : List (Nat × (Nat × Nat)) := []
def li_mf_handle : List (Nat × zm_F) := [(222, (1, .inl fn_mf_isPlace)), (156, (1, .inl fn_mf_isClass)), (235, (5, .inr (.inl fn_pr_guard))), (151, (1, .inr (.inl fn_mf_forgetFindings)))]
def lx_mf_handle : zm_X := (zl_up lf_mf_handle, zl_up lc_mf_handle, zl_up lg_mf_handle, zl_up li_mf_handle)
def fn_mf_handle : List zm_V → zm_M → Option (Int32 × zm_M) := zm_fv zt_Y 10 4 (fun av M => zm_rn zt_Y lx_mf_handle zr_i cd_mf_handle 1 0 (zm_lo av 5) [] M)
def lf_ja_fill : List (Nat × (Nat × Nat)) := []
def lc_ja_fill : List (Nat × Int32) := []
def lg_ja_fill : List (Nat × (Nat × Nat)) := []
def li_ja_fill : List (Nat × zm_F) := []
def lx_ja_fill : zm_X := (zl_up lf_ja_fill, zl_up lc_ja_fill, zl_up lg_ja_fill, zl_up li_ja_fill)
def fn_ja_fill : List zm_V → zm_M → Option zm_M := zm_fs 2 (fun av M => zm_rn zt_Y lx_ja_fill zr_v cd_ja_fill 1073741824 0 (zm_lo av 4) [] M)
def lf_fr_emptyStack : List (Nat × (Nat × Nat)) := [(24, (4, 2)), (28, (4, 3))]
def lc_fr_emptyStack : List (Nat × Int32) := []
def lg_fr_emptyStack : List (Nat × (Nat × Nat)) := []
def li_fr_emptyStack : List (Nat × zm_F) := []
def lx_fr_emptyStack : zm_X := (zl_up lf_fr_emptyStack, zl_up lc_fr_emptyStack, zl_up lg_fr_emptyStack, zl_up li_fr_emptyStack)
def fn_fr_emptyStack : List zm_V → zm_M → Option zm_M := zm_fv zt_Y 4 0 (fun av M => zm_rn zt_Y lx_fr_emptyStack zr_v cd_fr_emptyStack 1 0 (zm_lo av 1) [] M)
def lf_mf_typeOf : List (Nat × (Nat × Nat)) := []
def lc_mf_typeOf : List (Nat × Int32) := []
def lg_mf_typeOf : List (Nat × (Nat × Nat)) := []
def li_mf_typeOf : List (Nat × zm_F) := []
def lx_mf_typeOf : zm_X := (zl_up lf_mf_typeOf, zl_up lc_mf_typeOf, zl_up lg_mf_typeOf, zl_up li_mf_typeOf)
def fn_mf_typeOf : List zm_V → zm_M → Option (Int32 × zm_M) := zm_fs 2 (fun av M => zm_rn zt_Y lx_mf_typeOf zr_i cd_mf_typeOf 1 0 (zm_lo av 2) [] M)
def lf_pr_enter : List (Nat × (Nat × Nat)) := [(73, (4, 0)), (43, (1, 1)), (87, (4, 4)), (39, (1, 0)), (50, (1, 4)), (9, (1, 3))]
def lc_pr_enter : List (Nat × Int32) := []
def lg_pr_enter : List (Nat × (Nat × Nat)) := []
def li_pr_enter : List (Nat × zm_F) := [(156, (2, .inr (.inl fn_ja_fill))), (169, (1, .inr (.inl fn_fr_emptyStack))), (180, (2, .inl fn_mf_typeOf)), (188, (1, .inl fn_mf_widthOf))]
def lx_pr_enter : zm_X := (zl_up lf_pr_enter, zl_up lc_pr_enter, zl_up lg_pr_enter, zl_up li_pr_enter)
def fn_pr_enter : List zm_V → zm_M → Option zm_M := zm_fv zt_Y 1 1 (fun av M => zm_rn zt_Y lx_pr_enter zr_v cd_pr_enter 1073741824 0 (zm_lo av 4) [] M)
def lf_mf_isObjectOrNull : List (Nat × (Nat × Nat)) := []
def lc_mf_isObjectOrNull : List (Nat × Int32) := []
def lg_mf_isObjectOrNull : List (Nat × (Nat × Nat)) := []
def li_mf_isObjectOrNull : List (Nat × zm_F) := [(170, (1, .inl fn_mf_kindOf))]
def lx_mf_isObjectOrNull : zm_X := (zl_up lf_mf_isObjectOrNull, zl_up lc_mf_isObjectOrNull, zl_up lg_mf_isObjectOrNull, zl_up li_mf_isObjectOrNull)
def fn_mf_isObjectOrNull : List zm_V → zm_M → Option (Int32 × zm_M) := zm_fs 1 (fun av M => zm_rn zt_Y lx_mf_isObjectOrNull zr_z cd_mf_isObjectOrNull 1 0 (zm_lo av 1) [] M)
def lf_fa_join : List (Nat × (Nat × Nat)) := [(19, (0, 2)), (9, (0, 0))]
def lc_fa_join : List (Nat × Int32) := []
def lg_fa_join : List (Nat × (Nat × Nat)) := []
def li_fa_join : List (Nat × zm_F) := [(58, (1, .inl fn_mf_isObjectOrNull)), (52, (1, .inl fn_mf_partOf)), (66, (2, .inl fn_mf_typeOf))]
def lx_fa_join : zm_X := (zl_up lf_fa_join, zl_up lc_fa_join, zl_up lg_fa_join, zl_up li_fa_join)
def fn_fa_join : List zm_V → zm_M → Option (Int32 × zm_M) := zm_fv zt_Y 0 2 (fun av M => zm_rn zt_Y lx_fa_join zr_i cd_fa_join 1073741824 0 (zm_lo av 5) [] M)
def lf_fl_joinAt : List (Nat × (Nat × Nat)) := [(11, (5, 3)), (121, (4, 2)), (124, (4, 4)), (24, (5, 6)), (32, (5, 0)), (127, (4, 0)), (136, (4, 1))]
def lc_fl_joinAt : List (Nat × Int32) := []
def lg_fl_joinAt : List (Nat × (Nat × Nat)) := []
def li_fl_joinAt : List (Nat × zm_F) := [(261, (3, .inl fn_fa_join))]
def lx_fl_joinAt : zm_X := (zl_up lf_fl_joinAt, zl_up lc_fl_joinAt, zl_up lg_fl_joinAt, zl_up li_fl_joinAt)
def fn_fl_joinAt : List zm_V → zm_M → Option (Int32 × zm_M) := zm_fv zt_Y 5 2 (fun av M => zm_rn zt_Y lx_fl_joinAt zr_z cd_fl_joinAt 1073741824 0 (zm_lo av 6) [] M)
def lf_fr_takeOver : List (Nat × (Nat × Nat)) := [(9, (4, 0)), (15, (4, 1)), (24, (4, 2)), (28, (4, 3)), (31, (4, 4))]
def lc_fr_takeOver : List (Nat × Int32) := []
def lg_fr_takeOver : List (Nat × (Nat × Nat)) := []
def li_fr_takeOver : List (Nat × zm_F) := [(36, (5, .inr (.inl (zm_ac zt_Y))))]
def lx_fr_takeOver : zm_X := (zl_up lf_fr_takeOver, zl_up lc_fr_takeOver, zl_up lg_fr_takeOver, zl_up li_fr_takeOver)
def fn_fr_takeOver : List zm_V → zm_M → Option zm_M := zm_fv zt_Y 4 1 (fun av M => zm_rn zt_Y lx_fr_takeOver zr_v cd_fr_takeOver 1 0 (zm_lo av 2) [] M)
def lf_fl_arrive : List (Nat × (Nat × Nat)) := [(36, (5, 1)), (55, (1, 9)), (21, (5, 5)), (24, (5, 6)), (11, (5, 3))]
def lc_fl_arrive : List (Nat × Int32) := []
def lg_fl_arrive : List (Nat × (Nat × Nat)) := []
def li_fl_arrive : List (Nat × zm_F) := [(237, (3, .inl fn_fl_joinAt)), (197, (2, .inr (.inl fn_fr_takeOver)))]
def lx_fl_arrive : zm_X := (zl_up lf_fl_arrive, zl_up lc_fl_arrive, zl_up lg_fl_arrive, zl_up li_fl_arrive)
def fn_fl_arrive : List zm_V → zm_M → Option (Int32 × zm_M) := zm_fv zt_Y 5 2 (fun av M => zm_rn zt_Y lx_fl_arrive zr_z cd_fl_arrive 1 0 (zm_lo av 3) [] M)
def lf_fl_begin : List (Nat × (Nat × Nat)) := [(21, (5, 5)), (24, (5, 6)), (36, (5, 1)), (28, (5, 7))]
def lc_fl_begin : List (Nat × Int32) := []
def lg_fl_begin : List (Nat × (Nat × Nat)) := []
def li_fl_begin : List (Nat × zm_F) := [(145, (2, .inr (.inl fn_pr_enter))), (153, (3, .inl fn_fl_arrive))]
def lx_fl_begin : zm_X := (zl_up lf_fl_begin, zl_up lc_fl_begin, zl_up lg_fl_begin, zl_up li_fl_begin)
def fn_fl_begin : List zm_V → zm_M → Option zm_M := zm_fv zt_Y 5 0 (fun av M => zm_rn zt_Y lx_fl_begin zr_v cd_fl_begin 1073741824 0 (zm_lo av 2) [] M)
def lf_pr_isGuarded : List (Nat × (Nat × Nat)) := [(27, (1, 10)), (30, (1, 11))]
def lc_pr_isGuarded : List (Nat × Int32) := []
def lg_pr_isGuarded : List (Nat × (Nat × Nat)) := []
def li_pr_isGuarded : List (Nat × zm_F) := []
def lx_pr_isGuarded : zm_X := (zl_up lf_pr_isGuarded, zl_up lc_pr_isGuarded, zl_up lg_pr_isGuarded, zl_up li_pr_isGuarded)
def fn_pr_isGuarded : List zm_V → zm_M → Option (Int32 × zm_M) := zm_fv zt_Y 1 2 (fun av M => zm_rn zt_Y lx_pr_isGuarded zr_z cd_pr_isGuarded 1 0 (zm_lo av 3) [] M)
def lf_fr_push : List (Nat × (Nat × Nat)) := [(28, (4, 3)), (15, (4, 1)), (24, (4, 2))]
def lc_fr_push : List (Nat × Int32) := []
def lg_fr_push : List (Nat × (Nat × Nat)) := []
def li_fr_push : List (Nat × zm_F) := [(100, (1, .inl fn_mf_widthOf))]
def lx_fr_push : zm_X := (zl_up lf_fr_push, zl_up lc_fr_push, zl_up lg_fr_push, zl_up li_fr_push)
def fn_fr_push : List zm_V → zm_M → Option (Int32 × zm_M) := zm_fv zt_Y 4 1 (fun av M => zm_rn zt_Y lx_fr_push zr_z cd_fr_push 1 0 (zm_lo av 3) [] M)
def lf_fr_takeOverForHandler : List (Nat × (Nat × Nat)) := []
def lc_fr_takeOverForHandler : List (Nat × Int32) := []
def lg_fr_takeOverForHandler : List (Nat × (Nat × Nat)) := []
def li_fr_takeOverForHandler : List (Nat × zm_F) := [(71, (2, .inr (.inl fn_fr_takeOver))), (79, (1, .inr (.inl fn_fr_emptyStack))), (84, (2, .inl fn_mf_typeOf)), (93, (2, .inl fn_fr_push))]
def lx_fr_takeOverForHandler : zm_X := (zl_up lf_fr_takeOverForHandler, zl_up lc_fr_takeOverForHandler, zl_up lg_fr_takeOverForHandler, zl_up li_fr_takeOverForHandler)
def fn_fr_takeOverForHandler : List zm_V → zm_M → Option zm_M := zm_fv zt_Y 4 2 (fun av M => zm_rn zt_Y lx_fr_takeOverForHandler zr_v cd_fr_takeOverForHandler 1 0 (zm_lo av 3) [] M)
def lf_fl_leaveToHandlers : List (Nat × (Nat × Nat)) := [(36, (5, 1)), (80, (1, 14)), (28, (5, 7)), (11, (5, 3)), (87, (1, 13)), (95, (1, 12))]
def lc_fl_leaveToHandlers : List (Nat × Int32) := []
def lg_fl_leaveToHandlers : List (Nat × (Nat × Nat)) := []
def li_fl_leaveToHandlers : List (Nat × zm_F) := [(167, (3, .inl fn_pr_isGuarded)), (183, (3, .inr (.inl fn_fr_takeOverForHandler))), (153, (3, .inl fn_fl_arrive))]
def lx_fl_leaveToHandlers : zm_X := (zl_up lf_fl_leaveToHandlers, zl_up lc_fl_leaveToHandlers, zl_up lg_fl_leaveToHandlers, zl_up li_fl_leaveToHandlers)
def fn_fl_leaveToHandlers : List zm_V → zm_M → Option (Int32 × zm_M) := zm_fv zt_Y 5 1 (fun av M => zm_rn zt_Y lx_fl_leaveToHandlers zr_z cd_fl_leaveToHandlers 1073741824 0 (zm_lo av 3) [] M)
def lf_fr_peek : List (Nat × (Nat × Nat)) := [(24, (4, 2)), (15, (4, 1))]
def lc_fr_peek : List (Nat × Int32) := []
def lg_fr_peek : List (Nat × (Nat × Nat)) := []
def li_fr_peek : List (Nat × zm_F) := []
def lx_fr_peek : zm_X := (zl_up lf_fr_peek, zl_up lc_fr_peek, zl_up lg_fr_peek, zl_up li_fr_peek)
def fn_fr_peek : List zm_V → zm_M → Option (Int32 × zm_M) := zm_fv zt_Y 4 1 (fun av M => zm_rn zt_Y lx_fr_peek zr_i cd_fr_peek 1 0 (zm_lo av 2) [] M)
def lf_fr_drop : List (Nat × (Nat × Nat)) := [(24, (4, 2)), (28, (4, 3)), (15, (4, 1))]
def lc_fr_drop : List (Nat × Int32) := []
def lg_fr_drop : List (Nat × (Nat × Nat)) := []
def li_fr_drop : List (Nat × zm_F) := [(100, (1, .inl fn_mf_widthOf))]
def lx_fr_drop : zm_X := (zl_up lf_fr_drop, zl_up lc_fr_drop, zl_up lg_fr_drop, zl_up li_fr_drop)
def fn_fr_drop : List zm_V → zm_M → Option zm_M := zm_fv zt_Y 4 0 (fun av M => zm_rn zt_Y lx_fr_drop zr_v cd_fr_drop 1 0 (zm_lo av 1) [] M)
def lf_fr_take : List (Nat × (Nat × Nat)) := []
def lc_fr_take : List (Nat × Int32) := []
def lg_fr_take : List (Nat × (Nat × Nat)) := []
def li_fr_take : List (Nat × zm_F) := [(109, (2, .inl fn_fr_peek)), (115, (1, .inr (.inl fn_fr_drop)))]
def lx_fr_take : zm_X := (zl_up lf_fr_take, zl_up lc_fr_take, zl_up lg_fr_take, zl_up li_fr_take)
def fn_fr_take : List zm_V → zm_M → Option (Int32 × zm_M) := zm_fv zt_Y 4 1 (fun av M => zm_rn zt_Y lx_fr_take zr_z cd_fr_take 1 0 (zm_lo av 2) [] M)
def lf_mf_isSmall : List (Nat × (Nat × Nat)) := []
def lc_mf_isSmall : List (Nat × Int32) := []
def lg_mf_isSmall : List (Nat × (Nat × Nat)) := []
def li_mf_isSmall : List (Nat × zm_F) := [(170, (1, .inl fn_mf_kindOf))]
def lx_mf_isSmall : zm_X := (zl_up lf_mf_isSmall, zl_up lc_mf_isSmall, zl_up lg_mf_isSmall, zl_up li_mf_isSmall)
def fn_mf_isSmall : List zm_V → zm_M → Option (Int32 × zm_M) := zm_fs 1 (fun av M => zm_rn zt_Y lx_mf_isSmall zr_z cd_mf_isSmall 1 0 (zm_lo av 2) [] M)
def lf_ma_stepOne : List (Nat × (Nat × Nat)) := []
def lc_ma_stepOne : List (Nat × Int32) := []
def lg_ma_stepOne : List (Nat × (Nat × Nat)) := []
def li_ma_stepOne : List (Nat × zm_F) := [(97, (2, .inl fn_fr_push)), (149, (1, .inr (.inl fn_fr_drop)))]
def lx_ma_stepOne : zm_X := (zl_up lf_ma_stepOne, zl_up lc_ma_stepOne, zl_up lg_ma_stepOne, zl_up li_ma_stepOne)
def fn_ma_stepOne : List zm_V → zm_M → Option (Int32 × zm_M) := zm_fv zt_Y 3 3 (fun av M => zm_rn zt_Y lx_ma_stepOne zr_z cd_ma_stepOne 1 0 (zm_lo av 4) [] M)
def lf_fr_swap : List (Nat × (Nat × Nat)) := [(24, (4, 2)), (15, (4, 1))]
def lc_fr_swap : List (Nat × Int32) := []
def lg_fr_swap : List (Nat × (Nat × Nat)) := []
def li_fr_swap : List (Nat × zm_F) := []
def lx_fr_swap : zm_X := (zl_up lf_fr_swap, zl_up lc_fr_swap, zl_up lg_fr_swap, zl_up li_fr_swap)
def fn_fr_swap : List zm_V → zm_M → Option zm_M := zm_fv zt_Y 4 0 (fun av M => zm_rn zt_Y lx_fr_swap zr_v cd_fr_swap 1 0 (zm_lo av 2) [] M)
def lf_ma_stepTwo : List (Nat × (Nat × Nat)) := []
def lc_ma_stepTwo : List (Nat × Int32) := []
def lg_ma_stepTwo : List (Nat × (Nat × Nat)) := []
def li_ma_stepTwo : List (Nat × zm_F) := [(137, (2, .inl fn_fr_peek)), (154, (1, .inl fn_mf_isSmall)), (173, (1, .inr (.inl fn_fr_swap))), (149, (1, .inr (.inl fn_fr_drop)))]
def lx_ma_stepTwo : zm_X := (zl_up lf_ma_stepTwo, zl_up lc_ma_stepTwo, zl_up lg_ma_stepTwo, zl_up li_ma_stepTwo)
def fn_ma_stepTwo : List zm_V → zm_M → Option (Int32 × zm_M) := zm_fv zt_Y 3 2 (fun av M => zm_rn zt_Y lx_ma_stepTwo zr_z cd_ma_stepTwo 1 0 (zm_lo av 3) [] M)
def lf_ma_stepOnStack : List (Nat × (Nat × Nat)) := []
def lc_ma_stepOnStack : List (Nat × Int32) := []
def lg_ma_stepOnStack : List (Nat × (Nat × Nat)) := [(62, (62, 0))]
def li_ma_stepOnStack : List (Nat × zm_F) := [(97, (2, .inl fn_fr_push)), (131, (2, .inl fn_fr_take)), (137, (2, .inl fn_fr_peek)), (142, (1, .inl fn_mf_widthOf)), (149, (1, .inr (.inl fn_fr_drop))), (154, (1, .inl fn_mf_isSmall)), (161, (4, .inl fn_ma_stepOne)), (167, (3, .inl fn_ma_stepTwo))]
def lx_ma_stepOnStack : zm_X := (zl_up lf_ma_stepOnStack, zl_up lc_ma_stepOnStack, zl_up lg_ma_stepOnStack, zl_up li_ma_stepOnStack)
def fn_ma_stepOnStack : List zm_V → zm_M → Option (Int32 × zm_M) := zm_fv zt_Y 3 2 (fun av M => zm_rn zt_Y lx_ma_stepOnStack zr_z cd_ma_stepOnStack 1 0 (zm_lo av 4) [] M)
def lf_fa_is : List (Nat × (Nat × Nat)) := [(15, (0, 1)), (19, (0, 2))]
def lc_fa_is : List (Nat × Int32) := []
def lg_fa_is : List (Nat × (Nat × Nat)) := []
def li_fa_is : List (Nat × zm_F) := [(44, (1, .inl fn_mf_kindOf)), (52, (1, .inl fn_mf_partOf))]
def lx_fa_is : zm_X := (zl_up lf_fa_is, zl_up lc_fa_is, zl_up lg_fa_is, zl_up li_fa_is)
def fn_fa_is : List zm_V → zm_M → Option (Int32 × zm_M) := zm_fv zt_Y 0 2 (fun av M => zm_rn zt_Y lx_fa_is zr_z cd_fa_is 1 0 (zm_lo av 4) [] M)
def lf_ma_stepToOther : List (Nat × (Nat × Nat)) := [(15, (3, 1)), (89, (1, 2)), (93, (1, 1)), (97, (4, 4)), (9, (3, 0))]
def lc_ma_stepToOther : List (Nat × Int32) := []
def lg_ma_stepToOther : List (Nat × (Nat × Nat)) := []
def li_ma_stepToOther : List (Nat × zm_F) := [(131, (2, .inl fn_fr_take)), (97, (2, .inl fn_fr_push)), (137, (2, .inl fn_fr_peek)), (201, (3, .inl fn_fa_is))]
def lx_ma_stepToOther : zm_X := (zl_up lf_ma_stepToOther, zl_up lc_ma_stepToOther, zl_up lg_ma_stepToOther, zl_up li_ma_stepToOther)
def fn_ma_stepToOther : List zm_V → zm_M → Option (Int32 × zm_M) := zm_fv zt_Y 3 2 (fun av M => zm_rn zt_Y lx_ma_stepToOther zr_z cd_ma_stepToOther 1 0 (zm_lo av 3) [] M)
def lf_mf_isOfKind : List (Nat × (Nat × Nat)) := []
def lc_mf_isOfKind : List (Nat × Int32) := []
def lg_mf_isOfKind : List (Nat × (Nat × Nat)) := []
def li_mf_isOfKind : List (Nat × zm_F) := [(170, (1, .inl fn_mf_kindOf))]
def lx_mf_isOfKind : zm_X := (zl_up lf_mf_isOfKind, zl_up lc_mf_isOfKind, zl_up lg_mf_isOfKind, zl_up li_mf_isOfKind)
def fn_mf_isOfKind : List zm_V → zm_M → Option (Int32 × zm_M) := zm_fs 2 (fun av M => zm_rn zt_Y lx_mf_isOfKind zr_z cd_mf_isOfKind 1 0 (zm_lo av 2) [] M)
def lf_fr_store : List (Nat × (Nat × Nat)) := [(9, (4, 0))]
def lc_fr_store : List (Nat × Int32) := []
def lg_fr_store : List (Nat × (Nat × Nat)) := []
def li_fr_store : List (Nat × zm_F) := [(100, (1, .inl fn_mf_widthOf))]
def lx_fr_store : zm_X := (zl_up lf_fr_store, zl_up lc_fr_store, zl_up lg_fr_store, zl_up li_fr_store)
def fn_fr_store : List zm_V → zm_M → Option zm_M := zm_fv zt_Y 4 2 (fun av M => zm_rn zt_Y lx_fr_store zr_v cd_fr_store 1 0 (zm_lo av 3) [] M)
def lf_ma_stepStore : List (Nat × (Nat × Nat)) := []
def lc_ma_stepStore : List (Nat × Int32) := []
def lg_ma_stepStore : List (Nat × (Nat × Nat)) := []
def li_ma_stepStore : List (Nat × zm_F) := [(137, (2, .inl fn_fr_peek)), (80, (1, .inl fn_mf_localKindOf)), (88, (2, .inl fn_mf_isOfKind)), (149, (1, .inr (.inl fn_fr_drop))), (211, (3, .inr (.inl fn_fr_store)))]
def lx_ma_stepStore : zm_X := (zl_up lf_ma_stepStore, zl_up lc_ma_stepStore, zl_up lg_ma_stepStore, zl_up li_ma_stepStore)
def fn_ma_stepStore : List zm_V → zm_M → Option (Int32 × zm_M) := zm_fv zt_Y 3 3 (fun av M => zm_rn zt_Y lx_ma_stepStore zr_z cd_ma_stepStore 1 0 (zm_lo av 5) [] M)
def lf_ma_stepJump : List (Nat × (Nat × Nat)) := []
def lc_ma_stepJump : List (Nat × Int32) := []
def lg_ma_stepJump : List (Nat × (Nat × Nat)) := []
def li_ma_stepJump : List (Nat × zm_F) := [(131, (2, .inl fn_fr_take)), (137, (2, .inl fn_fr_peek)), (218, (1, .inl fn_mf_isObjectOrNull)), (149, (1, .inr (.inl fn_fr_drop)))]
def lx_ma_stepJump : zm_X := (zl_up lf_ma_stepJump, zl_up lc_ma_stepJump, zl_up lg_ma_stepJump, zl_up li_ma_stepJump)
def fn_ma_stepJump : List zm_V → zm_M → Option (Int32 × zm_M) := zm_fv zt_Y 3 2 (fun av M => zm_rn zt_Y lx_ma_stepJump zr_z cd_ma_stepJump 1 0 (zm_lo av 3) [] M)
def lf_fa_isAbove : List (Nat × (Nat × Nat)) := [(9, (0, 0))]
def lc_fa_isAbove : List (Nat × Int32) := []
def lg_fa_isAbove : List (Nat × (Nat × Nat)) := []
def li_fa_isAbove : List (Nat × zm_F) := []
def lx_fa_isAbove : zm_X := (zl_up lf_fa_isAbove, zl_up lc_fa_isAbove, zl_up lg_fa_isAbove, zl_up li_fa_isAbove)
def fn_fa_isAbove : List zm_V → zm_M → Option (Int32 × zm_M) := zm_fv zt_Y 0 2 (fun av M => zm_rn zt_Y lx_fa_isAbove zr_z cd_fa_isAbove 1 0 (zm_lo av 3) [] M)
def lf_fr_replaceAll : List (Nat × (Nat × Nat)) := [(9, (4, 0)), (24, (4, 2)), (15, (4, 1))]
def lc_fr_replaceAll : List (Nat × Int32) := []
def lg_fr_replaceAll : List (Nat × (Nat × Nat)) := []
def li_fr_replaceAll : List (Nat × zm_F) := []
def lx_fr_replaceAll : zm_X := (zl_up lf_fr_replaceAll, zl_up lc_fr_replaceAll, zl_up lg_fr_replaceAll, zl_up li_fr_replaceAll)
def fn_fr_replaceAll : List zm_V → zm_M → Option zm_M := zm_fv zt_Y 4 2 (fun av M => zm_rn zt_Y lx_fr_replaceAll zr_v cd_fr_replaceAll 1073741824 0 (zm_lo av 4) [] M)
def lf_pr_placeAt : List (Nat × (Nat × Nat)) := [(53, (1, 9)), (24, (1, 8))]
def lc_pr_placeAt : List (Nat × Int32) := []
def lg_pr_placeAt : List (Nat × (Nat × Nat)) := []
def li_pr_placeAt : List (Nat × zm_F) := []
def lx_pr_placeAt : zm_X := (zl_up lf_pr_placeAt, zl_up lc_pr_placeAt, zl_up lg_pr_placeAt, zl_up li_pr_placeAt)
def fn_pr_placeAt : List zm_V → zm_M → Option (Int32 × zm_M) := zm_fv zt_Y 1 1 (fun av M => zm_rn zt_Y lx_pr_placeAt zr_i cd_pr_placeAt 1073741824 0 (zm_lo av 3) [] M)
def lf_ma_stepInit : List (Nat × (Nat × Nat)) := [(15, (3, 1)), (125, (1, 0)), (9, (3, 0)), (97, (4, 4)), (19, (1, 5)), (37, (1, 6))]
def lc_ma_stepInit : List (Nat × Int32) := []
def lg_ma_stepInit : List (Nat × (Nat × Nat)) := []
def li_ma_stepInit : List (Nat × zm_F) := [(257, (3, .inl fn_fa_isAbove)), (149, (1, .inr (.inl fn_fr_drop))), (230, (2, .inl fn_mf_typeOf)), (263, (3, .inr (.inl fn_fr_replaceAll))), (268, (1, .inl fn_mf_kindOf)), (274, (1, .inl fn_mf_partOf)), (281, (2, .inl fn_pr_placeAt))]
def lx_ma_stepInit : zm_X := (zl_up lf_ma_stepInit, zl_up lc_ma_stepInit, zl_up lg_ma_stepInit, zl_up li_ma_stepInit)
def fn_ma_stepInit : List zm_V → zm_M → Option (Int32 × zm_M) := zm_fv zt_Y 3 3 (fun av M => zm_rn zt_Y lx_ma_stepInit zr_z cd_ma_stepInit 1 0 (zm_lo av 5) [] M)
def lf_ma_stepObject : List (Nat × (Nat × Nat)) := [(15, (3, 1)), (19, (1, 5)), (37, (1, 6)), (112, (1, 8)), (9, (3, 0)), (122, (1, 7))]
def lc_ma_stepObject : List (Nat × Int32) := []
def lg_ma_stepObject : List (Nat × (Nat × Nat)) := []
def li_ma_stepObject : List (Nat × zm_F) := [(230, (2, .inl fn_mf_typeOf)), (97, (2, .inl fn_fr_push)), (137, (2, .inl fn_fr_peek)), (239, (4, .inl fn_ma_stepInit)), (201, (3, .inl fn_fa_is)), (149, (1, .inr (.inl fn_fr_drop)))]
def lx_ma_stepObject : zm_X := (zl_up lf_ma_stepObject, zl_up lc_ma_stepObject, zl_up lg_ma_stepObject, zl_up li_ma_stepObject)
def fn_ma_stepObject : List zm_V → zm_M → Option (Int32 × zm_M) := zm_fv zt_Y 3 2 (fun av M => zm_rn zt_Y lx_ma_stepObject zr_z cd_ma_stepObject 1 0 (zm_lo av 6) [] M)
def lf_ma_step : List (Nat × (Nat × Nat)) := [(15, (3, 1)), (19, (1, 5)), (32, (4, 0)), (37, (1, 6))]
def lc_ma_step : List (Nat × Int32) := []
def lg_ma_step : List (Nat × (Nat × Nat)) := []
def li_ma_step : List (Nat × zm_F) := [(51, (3, .inl fn_ma_stepOnStack)), (59, (3, .inl fn_ma_stepToOther)), (80, (1, .inl fn_mf_localKindOf)), (88, (2, .inl fn_mf_isOfKind)), (97, (2, .inl fn_fr_push)), (105, (4, .inl fn_ma_stepStore)), (113, (3, .inl fn_ma_stepJump)), (119, (3, .inl fn_ma_stepObject))]
def lx_ma_step : zm_X := (zl_up lf_ma_step, zl_up lc_ma_step, zl_up lg_ma_step, zl_up li_ma_step)
def fn_ma_step : List zm_V → zm_M → Option (Int32 × zm_M) := zm_fv zt_Y 3 2 (fun av M => zm_rn zt_Y lx_ma_step zr_z cd_ma_step 1 0 (zm_lo av 5) [] M)
def lf_mf_isEnd : List (Nat × (Nat × Nat)) := []
def lc_mf_isEnd : List (Nat × Int32) := []
def lg_mf_isEnd : List (Nat × (Nat × Nat)) := []
def li_mf_isEnd : List (Nat × zm_F) := []
def lx_mf_isEnd : zm_X := (zl_up lf_mf_isEnd, zl_up lc_mf_isEnd, zl_up lg_mf_isEnd, zl_up li_mf_isEnd)
def fn_mf_isEnd : List zm_V → zm_M → Option (Int32 × zm_M) := zm_fs 1 (fun av M => zm_rn zt_Y lx_mf_isEnd zr_z cd_mf_isEnd 1 0 (zm_lo av 1) [] M)
def lf_fl_leave : List (Nat × (Nat × Nat)) := [(28, (5, 7)), (11, (5, 3)), (40, (5, 2)), (36, (5, 1)), (106, (1, 5)), (112, (1, 7))]
def lc_fl_leave : List (Nat × Int32) := []
def lg_fl_leave : List (Nat × (Nat × Nat)) := []
def li_fl_leave : List (Nat × zm_F) := [(197, (2, .inr (.inl fn_fr_takeOver))), (203, (3, .inl fn_ma_step)), (218, (1, .inl fn_mf_isJump)), (153, (3, .inl fn_fl_arrive)), (230, (1, .inl fn_mf_isEnd))]
def lx_fl_leave : zm_X := (zl_up lf_fl_leave, zl_up lc_fl_leave, zl_up lg_fl_leave, zl_up li_fl_leave)
def fn_fl_leave : List zm_V → zm_M → Option (Int32 × zm_M) := zm_fv zt_Y 5 1 (fun av M => zm_rn zt_Y lx_fl_leave zr_z cd_fl_leave 1 0 (zm_lo av 3) [] M)
def lf_pr_markRows : List (Nat × (Nat × Nat)) := [(53, (1, 9)), (15, (1, 5)), (21, (1, 7)), (56, (1, 14)), (33, (1, 12))]
def lc_pr_markRows : List (Nat × Int32) := []
def lg_pr_markRows : List (Nat × (Nat × Nat)) := []
def li_pr_markRows : List (Nat × zm_F) := [(140, (1, .inl fn_mf_isEnd)), (126, (1, .inl fn_mf_isJump))]
def lx_pr_markRows : zm_X := (zl_up lf_pr_markRows, zl_up lc_pr_markRows, zl_up lg_pr_markRows, zl_up li_pr_markRows)
def fn_pr_markRows : List zm_V → zm_M → Option zm_M := zm_fv zt_Y 1 1 (fun av M => zm_rn zt_Y lx_pr_markRows zr_v cd_pr_markRows 1073741824 0 (zm_lo av 3) [] M)
def lf_fr_hasRawThisInLocal : List (Nat × (Nat × Nat)) := [(9, (4, 0))]
def lc_fr_hasRawThisInLocal : List (Nat × Int32) := []
def lg_fr_hasRawThisInLocal : List (Nat × (Nat × Nat)) := []
def li_fr_hasRawThisInLocal : List (Nat × zm_F) := []
def lx_fr_hasRawThisInLocal : zm_X := (zl_up lf_fr_hasRawThisInLocal, zl_up lc_fr_hasRawThisInLocal, zl_up lg_fr_hasRawThisInLocal, zl_up li_fr_hasRawThisInLocal)
def fn_fr_hasRawThisInLocal : List zm_V → zm_M → Option (Int32 × zm_M) := zm_fv zt_Y 4 0 (fun av M => zm_rn zt_Y lx_fr_hasRawThisInLocal zr_z cd_fr_hasRawThisInLocal 1073741824 0 (zm_lo av 2) [] M)
def lf_fl_isWhole : List (Nat × (Nat × Nat)) := [(36, (5, 1)), (17, (5, 4)), (55, (1, 9)), (21, (5, 5)), (11, (5, 3)), (124, (4, 4))]
def lc_fl_isWhole : List (Nat × Int32) := []
def lg_fl_isWhole : List (Nat × (Nat × Nat)) := []
def li_fl_isWhole : List (Nat × zm_F) := [(279, (2, .inr (.inl fn_pr_markRows))), (287, (1, .inl fn_fr_hasRawThisInLocal))]
def lx_fl_isWhole : zm_X := (zl_up lf_fl_isWhole, zl_up lc_fl_isWhole, zl_up lg_fl_isWhole, zl_up li_fl_isWhole)
def fn_fl_isWhole : List zm_V → zm_M → Option (Int32 × zm_M) := zm_fv zt_Y 5 0 (fun av M => zm_rn zt_Y lx_fl_isWhole zr_z cd_fl_isWhole 1073741824 0 (zm_lo av 2) [] M)
def lf_fl_isRight : List (Nat × (Nat × Nat)) := [(44, (5, 8)), (48, (5, 9)), (36, (5, 1)), (55, (1, 9)), (24, (5, 6))]
def lc_fl_isRight : List (Nat × Int32) := [(54, 100000)]
def lg_fl_isRight : List (Nat × (Nat × Nat)) := []
def li_fl_isRight : List (Nat × zm_F) := [(103, (1, .inr (.inl fn_fl_begin))), (123, (2, .inl fn_fl_leaveToHandlers)), (131, (2, .inl fn_fl_leave)), (137, (1, .inl fn_fl_isWhole))]
def lx_fl_isRight : zm_X := (zl_up lf_fl_isRight, zl_up lc_fl_isRight, zl_up lg_fl_isRight, zl_up li_fl_isRight)
def fn_fl_isRight : List zm_V → zm_M → Option (Int32 × zm_M) := zm_fv zt_Y 5 0 (fun av M => zm_rn zt_Y lx_fl_isRight zr_z cd_fl_isRight 1073741824 0 (zm_lo av 4) [] M)
def lf_tl_empty : List (Nat × (Nat × Nat)) := [(15, (6, 1)), (19, (6, 2))]
def lc_tl_empty : List (Nat × Int32) := []
def lg_tl_empty : List (Nat × (Nat × Nat)) := []
def li_tl_empty : List (Nat × zm_F) := []
def lx_tl_empty : zm_X := (zl_up lf_tl_empty, zl_up lc_tl_empty, zl_up lg_tl_empty, zl_up li_tl_empty)
def fn_tl_empty : List zm_V → zm_M → Option zm_M := zm_fv zt_Y 6 0 (fun av M => zm_rn zt_Y lx_tl_empty zr_v cd_tl_empty 1 0 (zm_lo av 1) [] M)
def lf_tl_append : List (Nat × (Nat × Nat)) := [(19, (6, 2)), (9, (6, 0)), (15, (6, 1))]
def lc_tl_append : List (Nat × Int32) := []
def lg_tl_append : List (Nat × (Nat × Nat)) := []
def li_tl_append : List (Nat × zm_F) := [(44, (1, .inl fn_mf_widthOf))]
def lx_tl_append : zm_X := (zl_up lf_tl_append, zl_up lc_tl_append, zl_up lg_tl_append, zl_up li_tl_append)
def fn_tl_append : List zm_V → zm_M → Option (Int32 × zm_M) := zm_fv zt_Y 6 1 (fun av M => zm_rn zt_Y lx_tl_append zr_z cd_tl_append 1 0 (zm_lo av 3) [] M)
def lf_tl_drop : List (Nat × (Nat × Nat)) := [(15, (6, 1)), (19, (6, 2)), (9, (6, 0))]
def lc_tl_drop : List (Nat × Int32) := []
def lg_tl_drop : List (Nat × (Nat × Nat)) := []
def li_tl_drop : List (Nat × zm_F) := [(44, (1, .inl fn_mf_widthOf))]
def lx_tl_drop : zm_X := (zl_up lf_tl_drop, zl_up lc_tl_drop, zl_up lg_tl_drop, zl_up li_tl_drop)
def fn_tl_drop : List zm_V → zm_M → Option zm_M := zm_fv zt_Y 6 0 (fun av M => zm_rn zt_Y lx_tl_drop zr_v cd_tl_drop 1 0 (zm_lo av 1) [] M)
def lf_tl_gather : List (Nat × (Nat × Nat)) := [(35, (4, 0)), (15, (6, 1)), (9, (6, 0))]
def lc_tl_gather : List (Nat × Int32) := []
def lg_tl_gather : List (Nat × (Nat × Nat)) := []
def li_tl_gather : List (Nat × zm_F) := [(65, (1, .inr (.inl fn_tl_empty))), (81, (2, .inl fn_tl_append)), (44, (1, .inl fn_mf_widthOf)), (89, (1, .inr (.inl fn_tl_drop)))]
def lx_tl_gather : zm_X := (zl_up lf_tl_gather, zl_up lc_tl_gather, zl_up lg_tl_gather, zl_up li_tl_gather)
def fn_tl_gather : List zm_V → zm_M → Option zm_M := zm_fv zt_Y 6 1 (fun av M => zm_rn zt_Y lx_tl_gather zr_v cd_tl_gather 1073741824 0 (zm_lo av 3) [] M)
def lf_tl_sharedStart : List (Nat × (Nat × Nat)) := [(15, (6, 1)), (9, (6, 0))]
def lc_tl_sharedStart : List (Nat × Int32) := []
def lg_tl_sharedStart : List (Nat × (Nat × Nat)) := []
def li_tl_sharedStart : List (Nat × zm_F) := []
def lx_tl_sharedStart : zm_X := (zl_up lf_tl_sharedStart, zl_up lc_tl_sharedStart, zl_up lg_tl_sharedStart, zl_up li_tl_sharedStart)
def fn_tl_sharedStart : List zm_V → zm_M → Option (Int32 × zm_M) := zm_fv zt_Y 6 1 (fun av M => zm_rn zt_Y lx_tl_sharedStart zr_i cd_tl_sharedStart 1073741824 0 (zm_lo av 3) [] M)
def lf_by_put : List (Nat × (Nat × Nat)) := [(15, (2, 1)), (9, (2, 0))]
def lc_by_put : List (Nat × Int32) := []
def lg_by_put : List (Nat × (Nat × Nat)) := []
def li_by_put : List (Nat × zm_F) := []
def lx_by_put : zm_X := (zl_up lf_by_put, zl_up lc_by_put, zl_up lg_by_put, zl_up li_by_put)
def fn_by_put : List zm_V → zm_M → Option zm_M := zm_fv zt_Y 2 1 (fun av M => zm_rn zt_Y lx_by_put zr_v cd_by_put 1 0 (zm_lo av 2) [] M)
def lf_by_putTwo : List (Nat × (Nat × Nat)) := []
def lc_by_putTwo : List (Nat × Int32) := []
def lg_by_putTwo : List (Nat × (Nat × Nat)) := []
def li_by_putTwo : List (Nat × zm_F) := [(39, (2, .inr (.inl fn_by_put)))]
def lx_by_putTwo : zm_X := (zl_up lf_by_putTwo, zl_up lc_by_putTwo, zl_up lg_by_putTwo, zl_up li_by_putTwo)
def fn_by_putTwo : List zm_V → zm_M → Option zm_M := zm_fv zt_Y 2 1 (fun av M => zm_rn zt_Y lx_by_putTwo zr_v cd_by_putTwo 1 0 (zm_lo av 2) [] M)
def lf_wr_writeHead : List (Nat × (Nat × Nat)) := [(31, (7, 5))]
def lc_wr_writeHead : List (Nat × Int32) := []
def lg_wr_writeHead : List (Nat × (Nat × Nat)) := []
def li_wr_writeHead : List (Nat × zm_F) := [(217, (2, .inr (.inl fn_by_put))), (223, (2, .inr (.inl fn_by_putTwo)))]
def lx_wr_writeHead : zm_X := (zl_up lf_wr_writeHead, zl_up lc_wr_writeHead, zl_up lg_wr_writeHead, zl_up li_wr_writeHead)
def fn_wr_writeHead : List zm_V → zm_M → Option zm_M := zm_fv zt_Y 7 3 (fun av M => zm_rn zt_Y lx_wr_writeHead zr_v cd_wr_writeHead 1 0 (zm_lo av 4) [] M)
def lf_by_putType : List (Nat × (Nat × Nat)) := []
def lc_by_putType : List (Nat × Int32) := []
def lg_by_putType : List (Nat × (Nat × Nat)) := []
def li_by_putType : List (Nat × zm_F) := [(46, (1, .inl fn_mf_kindOf)), (39, (2, .inr (.inl fn_by_put))), (54, (1, .inl fn_mf_partOf)), (61, (2, .inr (.inl fn_by_putTwo)))]
def lx_by_putType : zm_X := (zl_up lf_by_putType, zl_up lc_by_putType, zl_up lg_by_putType, zl_up li_by_putType)
def fn_by_putType : List zm_V → zm_M → Option zm_M := zm_fv zt_Y 2 1 (fun av M => zm_rn zt_Y lx_by_putType zr_v cd_by_putType 1 0 (zm_lo av 3) [] M)
def lf_wr_writeTypes : List (Nat × (Nat × Nat)) := [(31, (7, 5))]
def lc_wr_writeTypes : List (Nat × Int32) := []
def lg_wr_writeTypes : List (Nat × (Nat × Nat)) := []
def li_wr_writeTypes : List (Nat × zm_F) := [(209, (2, .inr (.inl fn_by_putType)))]
def lx_wr_writeTypes : zm_X := (zl_up lf_wr_writeTypes, zl_up lc_wr_writeTypes, zl_up lg_wr_writeTypes, zl_up li_wr_writeTypes)
def fn_wr_writeTypes : List zm_V → zm_M → Option zm_M := zm_fv zt_Y 7 3 (fun av M => zm_rn zt_Y lx_wr_writeTypes zr_v cd_wr_writeTypes 1073741824 0 (zm_lo av 5) [] M)
def lf_wr_writeWhole : List (Nat × (Nat × Nat)) := [(31, (7, 5)), (25, (7, 4)), (83, (6, 1)), (114, (6, 0)), (94, (4, 2)), (101, (4, 1))]
def lc_wr_writeWhole : List (Nat × Int32) := []
def lg_wr_writeWhole : List (Nat × (Nat × Nat)) := []
def li_wr_writeWhole : List (Nat × zm_F) := [(217, (2, .inr (.inl fn_by_put))), (223, (2, .inr (.inl fn_by_putTwo))), (235, (4, .inr (.inl fn_wr_writeTypes)))]
def lx_wr_writeWhole : zm_X := (zl_up lf_wr_writeWhole, zl_up lc_wr_writeWhole, zl_up lg_wr_writeWhole, zl_up li_wr_writeWhole)
def fn_wr_writeWhole : List zm_V → zm_M → Option zm_M := zm_fv zt_Y 7 2 (fun av M => zm_rn zt_Y lx_wr_writeWhole zr_v cd_wr_writeWhole 1 0 (zm_lo av 3) [] M)
def lf_wr_writeRow : List (Nat × (Nat × Nat)) := [(25, (7, 4)), (21, (7, 3)), (83, (6, 1)), (94, (4, 2)), (31, (7, 5)), (101, (4, 1)), (114, (6, 0))]
def lc_wr_writeRow : List (Nat × Int32) := []
def lg_wr_writeRow : List (Nat × (Nat × Nat)) := []
def li_wr_writeRow : List (Nat × zm_F) := [(159, (2, .inl fn_tl_sharedStart)), (168, (1, .inl zm_ab)), (180, (2, .inl zm_mn)), (195, (4, .inr (.inl fn_wr_writeHead))), (209, (2, .inr (.inl fn_by_putType))), (217, (2, .inr (.inl fn_by_put))), (223, (2, .inr (.inl fn_by_putTwo))), (235, (4, .inr (.inl fn_wr_writeTypes))), (243, (3, .inr (.inl fn_wr_writeWhole)))]
def lx_wr_writeRow : zm_X := (zl_up lf_wr_writeRow, zl_up lc_wr_writeRow, zl_up lg_wr_writeRow, zl_up li_wr_writeRow)
def fn_wr_writeRow : List zm_V → zm_M → Option zm_M := zm_fv zt_Y 7 2 (fun av M => zm_rn zt_Y lx_wr_writeRow zr_v cd_wr_writeRow 1 0 (zm_lo av 7) [] M)
def lf_tl_takeOver : List (Nat × (Nat × Nat)) := [(9, (6, 0)), (15, (6, 1)), (19, (6, 2))]
def lc_tl_takeOver : List (Nat × Int32) := []
def lg_tl_takeOver : List (Nat × (Nat × Nat)) := []
def li_tl_takeOver : List (Nat × zm_F) := [(52, (5, .inr (.inl (zm_ac zt_Y))))]
def lx_tl_takeOver : zm_X := (zl_up lf_tl_takeOver, zl_up lc_tl_takeOver, zl_up lg_tl_takeOver, zl_up li_tl_takeOver)
def fn_tl_takeOver : List zm_V → zm_M → Option zm_M := zm_fv zt_Y 6 1 (fun av M => zm_rn zt_Y lx_tl_takeOver zr_v cd_tl_takeOver 1 0 (zm_lo av 2) [] M)
def lf_wr_writeRows : List (Nat × (Nat × Nat)) := [(35, (7, 0)), (12, (7, 2)), (21, (7, 3)), (31, (7, 5)), (52, (2, 1)), (56, (1, 9)), (39, (7, 1)), (57, (5, 4)), (25, (7, 4)), (63, (5, 3)), (67, (1, 8))]
def lc_wr_writeRows : List (Nat × Int32) := []
def lg_wr_writeRows : List (Nat × (Nat × Nat)) := []
def li_wr_writeRows : List (Nat × zm_F) := [(87, (2, .inr (.inl fn_pr_enter))), (99, (2, .inr (.inl fn_tl_gather))), (143, (3, .inr (.inl fn_wr_writeRow))), (151, (2, .inr (.inl fn_tl_takeOver)))]
def lx_wr_writeRows : zm_X := (zl_up lf_wr_writeRows, zl_up lc_wr_writeRows, zl_up lg_wr_writeRows, zl_up li_wr_writeRows)
def fn_wr_writeRows : List zm_V → zm_M → Option (Int32 × zm_M) := zm_fv zt_Y 7 0 (fun av M => zm_rn zt_Y lx_wr_writeRows zr_i cd_wr_writeRows 1073741824 0 (zm_lo av 4) [] M)
def lf_by_takeOver : List (Nat × (Nat × Nat)) := [(15, (2, 1)), (9, (2, 0))]
def lc_by_takeOver : List (Nat × Int32) := []
def lg_by_takeOver : List (Nat × (Nat × Nat)) := []
def li_by_takeOver : List (Nat × zm_F) := [(66, (2, .inl zm_mn)), (78, (5, .inr (.inl (zm_ac zt_Y))))]
def lx_by_takeOver : zm_X := (zl_up lf_by_takeOver, zl_up lc_by_takeOver, zl_up lg_by_takeOver, zl_up li_by_takeOver)
def fn_by_takeOver : List zm_V → zm_M → Option zm_M := zm_fv zt_Y 2 1 (fun av M => zm_rn zt_Y lx_by_takeOver zr_v cd_by_takeOver 1 0 (zm_lo av 2) [] M)
def lf_mf_make : List (Nat × (Nat × Nat)) := [(40, (10, 3)), (49, (10, 4)), (128, (7, 5)), (131, (2, 1)), (26, (10, 2)), (58, (10, 5)), (136, (8, 9))]
def lc_mf_make : List (Nat × Int32) := []
def lg_mf_make : List (Nat × (Nat × Nat)) := []
def li_mf_make : List (Nat × zm_F) := [(241, (1, .inl fn_fl_isRight)), (249, (1, .inl fn_wr_writeRows)), (265, (2, .inr (.inl fn_by_takeOver)))]
def lx_mf_make : zm_X := (zl_up lf_mf_make, zl_up lc_mf_make, zl_up lg_mf_make, zl_up li_mf_make)
def fn_mf_make : List zm_V → zm_M → Option (Int32 × zm_M) := zm_fv zt_Y 10 0 (fun av M => zm_rn zt_Y lx_mf_make zr_i cd_mf_make 1 0 (zm_lo av 2) [] M)
def lf_mf_isQuestion : List (Nat × (Nat × Nat)) := []
def lc_mf_isQuestion : List (Nat × Int32) := []
def lg_mf_isQuestion : List (Nat × (Nat × Nat)) := []
def li_mf_isQuestion : List (Nat × zm_F) := []
def lx_mf_isQuestion : zm_X := (zl_up lf_mf_isQuestion, zl_up lc_mf_isQuestion, zl_up lg_mf_isQuestion, zl_up li_mf_isQuestion)
def fn_mf_isQuestion : List zm_V → zm_M → Option (Int32 × zm_M) := zm_fs 2 (fun av M => zm_rn zt_Y lx_mf_isQuestion zr_z cd_mf_isQuestion 1 0 (zm_lo av 2) [] M)
def lf_fr_tell : List (Nat × (Nat × Nat)) := [(9, (4, 0)), (24, (4, 2)), (15, (4, 1)), (31, (4, 4))]
def lc_fr_tell : List (Nat × Int32) := []
def lg_fr_tell : List (Nat × (Nat × Nat)) := []
def li_fr_tell : List (Nat × zm_F) := []
def lx_fr_tell : zm_X := (zl_up lf_fr_tell, zl_up lc_fr_tell, zl_up lg_fr_tell, zl_up li_fr_tell)
def fn_fr_tell : List zm_V → zm_M → Option (Int32 × zm_M) := zm_fv zt_Y 4 1 (fun av M => zm_rn zt_Y lx_fr_tell zr_i cd_fr_tell 1 0 (zm_lo av 2) [] M)
def lf_mf_flow : List (Nat × (Nat × Nat)) := [(19, (10, 1)), (104, (1, 9)), (40, (10, 3)), (144, (5, 3))]
def lc_mf_flow : List (Nat × Int32) := []
def lg_mf_flow : List (Nat × (Nat × Nat)) := []
def li_mf_flow : List (Nat × zm_F) := [(280, (2, .inl fn_mf_isQuestion)), (241, (1, .inl fn_fl_isRight)), (297, (2, .inl fn_fr_tell))]
def lx_mf_flow : zm_X := (zl_up lf_mf_flow, zl_up lc_mf_flow, zl_up lg_mf_flow, zl_up li_mf_flow)
def fn_mf_flow : List zm_V → zm_M → Option (Int32 × zm_M) := zm_fv zt_Y 10 2 (fun av M => zm_rn zt_Y lx_mf_flow zr_i cd_mf_flow 1 0 (zm_lo av 3) [] M)
def lf_re_begin : List (Nat × (Nat × Nat)) := [(39, (8, 0)), (12, (8, 2)), (21, (8, 3)), (36, (8, 7)), (57, (8, 8)), (61, (8, 11))]
def lc_re_begin : List (Nat × Int32) := []
def lg_re_begin : List (Nat × (Nat × Nat)) := []
def li_re_begin : List (Nat × zm_F) := [(159, (2, .inr (.inl fn_pr_enter))), (167, (2, .inr (.inl fn_tl_gather))), (172, (2, .inr (.inl fn_ja_fill)))]
def lx_re_begin : zm_X := (zl_up lf_re_begin, zl_up lc_re_begin, zl_up lg_re_begin, zl_up li_re_begin)
def fn_re_begin : List zm_V → zm_M → Option zm_M := zm_fv zt_Y 8 0 (fun av M => zm_rn zt_Y lx_re_begin zr_v cd_re_begin 1 0 (zm_lo av 1) [] M)
def lf_re_readByte : List (Nat × (Nat × Nat)) := [(61, (8, 11)), (43, (8, 1)), (64, (2, 1)), (150, (2, 0))]
def lc_re_readByte : List (Nat × Int32) := []
def lg_re_readByte : List (Nat × (Nat × Nat)) := []
def li_re_readByte : List (Nat × zm_F) := []
def lx_re_readByte : zm_X := (zl_up lf_re_readByte, zl_up lc_re_readByte, zl_up lg_re_readByte, zl_up li_re_readByte)
def fn_re_readByte : List zm_V → zm_M → Option (Int32 × zm_M) := zm_fv zt_Y 8 0 (fun av M => zm_rn zt_Y lx_re_readByte zr_i cd_re_readByte 1 0 (zm_lo av 1) [] M)
def lf_re_readTwo : List (Nat × (Nat × Nat)) := []
def lc_re_readTwo : List (Nat × Int32) := []
def lg_re_readTwo : List (Nat × (Nat × Nat)) := []
def li_re_readTwo : List (Nat × zm_F) := [(185, (1, .inl fn_re_readByte))]
def lx_re_readTwo : zm_X := (zl_up lf_re_readTwo, zl_up lc_re_readTwo, zl_up lg_re_readTwo, zl_up li_re_readTwo)
def fn_re_readTwo : List zm_V → zm_M → Option (Int32 × zm_M) := zm_fv zt_Y 8 0 (fun av M => zm_rn zt_Y lx_re_readTwo zr_i cd_re_readTwo 1 0 (zm_lo av 3) [] M)
def lf_re_readType : List (Nat × (Nat × Nat)) := []
def lc_re_readType : List (Nat × Int32) := []
def lg_re_readType : List (Nat × (Nat × Nat)) := []
def li_re_readType : List (Nat × zm_F) := [(185, (1, .inl fn_re_readByte)), (207, (1, .inl fn_re_readTwo)), (286, (1, .inl fn_mf_isClass)), (292, (2, .inl fn_mf_typeOf))]
def lx_re_readType : zm_X := (zl_up lf_re_readType, zl_up lc_re_readType, zl_up lg_re_readType, zl_up li_re_readType)
def fn_re_readType : List zm_V → zm_M → Option (Int32 × zm_M) := zm_fv zt_Y 8 0 (fun av M => zm_rn zt_Y lx_re_readType zr_i cd_re_readType 1 0 (zm_lo av 3) [] M)
def lf_re_readStack : List (Nat × (Nat × Nat)) := []
def lc_re_readStack : List (Nat × Int32) := []
def lg_re_readStack : List (Nat × (Nat × Nat)) := []
def li_re_readStack : List (Nat × zm_F) := [(269, (1, .inl fn_re_readType)), (281, (2, .inl fn_fr_push))]
def lx_re_readStack : zm_X := (zl_up lf_re_readStack, zl_up lc_re_readStack, zl_up lg_re_readStack, zl_up li_re_readStack)
def fn_re_readStack : List zm_V → zm_M → Option (Int32 × zm_M) := zm_fv zt_Y 8 2 (fun av M => zm_rn zt_Y lx_re_readStack zr_z cd_re_readStack 1073741824 0 (zm_lo av 5) [] M)
def lf_re_readList : List (Nat × (Nat × Nat)) := [(21, (8, 3))]
def lc_re_readList : List (Nat × Int32) := []
def lg_re_readList : List (Nat × (Nat × Nat)) := []
def li_re_readList : List (Nat × zm_F) := [(269, (1, .inl fn_re_readType)), (275, (2, .inl fn_tl_append))]
def lx_re_readList : zm_X := (zl_up lf_re_readList, zl_up lc_re_readList, zl_up lg_re_readList, zl_up li_re_readList)
def fn_re_readList : List zm_V → zm_M → Option (Int32 × zm_M) := zm_fv zt_Y 8 1 (fun av M => zm_rn zt_Y lx_re_readList zr_z cd_re_readList 1073741824 0 (zm_lo av 4) [] M)
def lf_re_shorten : List (Nat × (Nat × Nat)) := [(21, (8, 3)), (130, (6, 1))]
def lc_re_shorten : List (Nat × Int32) := []
def lg_re_shorten : List (Nat × (Nat × Nat)) := []
def li_re_shorten : List (Nat × zm_F) := [(263, (1, .inr (.inl fn_tl_drop)))]
def lx_re_shorten : zm_X := (zl_up lf_re_shorten, zl_up lc_re_shorten, zl_up lg_re_shorten, zl_up li_re_shorten)
def fn_re_shorten : List zm_V → zm_M → Option (Int32 × zm_M) := zm_fv zt_Y 8 1 (fun av M => zm_rn zt_Y lx_re_shorten zr_z cd_re_shorten 1073741824 0 (zm_lo av 3) [] M)
def lf_re_readRest : List (Nat × (Nat × Nat)) := [(21, (8, 3))]
def lc_re_readRest : List (Nat × Int32) := []
def lg_re_readRest : List (Nat × (Nat × Nat)) := []
def li_re_readRest : List (Nat × zm_F) := [(199, (3, .inl fn_re_readStack)), (241, (1, .inr (.inl fn_tl_empty))), (207, (1, .inl fn_re_readTwo)), (247, (2, .inl fn_re_readList)), (255, (2, .inl fn_re_shorten))]
def lx_re_readRest : zm_X := (zl_up lf_re_readRest, zl_up lc_re_readRest, zl_up lg_re_readRest, zl_up li_re_readRest)
def fn_re_readRest : List zm_V → zm_M → Option (Int32 × zm_M) := zm_fv zt_Y 8 2 (fun av M => zm_rn zt_Y lx_re_readRest zr_z cd_re_readRest 1 0 (zm_lo av 3) [] M)
def lf_tl_spread : List (Nat × (Nat × Nat)) := [(35, (4, 0)), (15, (6, 1)), (9, (6, 0))]
def lc_tl_spread : List (Nat × Int32) := []
def lg_tl_spread : List (Nat × (Nat × Nat)) := []
def li_tl_spread : List (Nat × zm_F) := [(94, (2, .inr (.inl fn_ja_fill))), (44, (1, .inl fn_mf_widthOf))]
def lx_tl_spread : zm_X := (zl_up lf_tl_spread, zl_up lc_tl_spread, zl_up lg_tl_spread, zl_up li_tl_spread)
def fn_tl_spread : List zm_V → zm_M → Option zm_M := zm_fv zt_Y 6 1 (fun av M => zm_rn zt_Y lx_tl_spread zr_v cd_tl_spread 1073741824 0 (zm_lo av 4) [] M)
def lf_re_readRow : List (Nat × (Nat × Nat)) := [(33, (8, 6)), (57, (8, 8)), (29, (8, 5)), (21, (8, 3)), (117, (4, 4))]
def lc_re_readRow : List (Nat × Int32) := []
def lg_re_readRow : List (Nat × (Nat × Nat)) := []
def li_re_readRow : List (Nat × zm_F) := [(185, (1, .inl fn_re_readByte)), (193, (1, .inr (.inl fn_fr_emptyStack))), (199, (3, .inl fn_re_readStack)), (207, (1, .inl fn_re_readTwo)), (213, (3, .inl fn_re_readRest)), (221, (2, .inr (.inl fn_tl_spread))), (227, (1, .inl fn_fr_hasRawThisInLocal))]
def lx_re_readRow : zm_X := (zl_up lf_re_readRow, zl_up lc_re_readRow, zl_up lg_re_readRow, zl_up li_re_readRow)
def fn_re_readRow : List zm_V → zm_M → Option (Int32 × zm_M) := zm_fv zt_Y 8 1 (fun av M => zm_rn zt_Y lx_re_readRow zr_z cd_re_readRow 1 0 (zm_lo av 4) [] M)
def lf_re_isSound : List (Nat × (Nat × Nat)) := [(47, (8, 9)), (51, (8, 10)), (57, (8, 8)), (61, (8, 11)), (43, (8, 1)), (64, (2, 1)), (25, (8, 4)), (29, (8, 5)), (39, (8, 0)), (36, (8, 7))]
def lc_re_isSound : List (Nat × Int32) := []
def lg_re_isSound : List (Nat × (Nat × Nat)) := []
def li_re_isSound : List (Nat × zm_F) := [(109, (1, .inr (.inl fn_re_begin))), (139, (2, .inl fn_re_readRow)), (147, (2, .inl fn_pr_placeAt))]
def lx_re_isSound : zm_X := (zl_up lf_re_isSound, zl_up lc_re_isSound, zl_up lg_re_isSound, zl_up li_re_isSound)
def fn_re_isSound : List zm_V → zm_M → Option (Int32 × zm_M) := zm_fv zt_Y 8 0 (fun av M => zm_rn zt_Y lx_re_isSound zr_z cd_re_isSound 1073741824 0 (zm_lo av 3) [] M)
def lf_fa_fits : List (Nat × (Nat × Nat)) := [(37, (4, 4)), (43, (4, 2)), (47, (4, 0)), (54, (4, 1))]
def lc_fa_fits : List (Nat × Int32) := []
def lg_fa_fits : List (Nat × (Nat × Nat)) := []
def li_fa_fits : List (Nat × zm_F) := [(101, (3, .inl fn_fa_is))]
def lx_fa_fits : zm_X := (zl_up lf_fa_fits, zl_up lc_fa_fits, zl_up lg_fa_fits, zl_up li_fa_fits)
def fn_fa_fits : List zm_V → zm_M → Option (Int32 × zm_M) := zm_fv zt_Y 0 2 (fun av M => zm_rn zt_Y lx_fa_fits zr_z cd_fa_fits 1073741824 0 (zm_lo av 4) [] M)
def lf_ck_begins : List (Nat × (Nat × Nat)) := [(33, (9, 3)), (71, (8, 7)), (21, (9, 0)), (12, (9, 4)), (76, (8, 4))]
def lc_ck_begins : List (Nat × Int32) := []
def lg_ck_begins : List (Nat × (Nat × Nat)) := []
def li_ck_begins : List (Nat × zm_F) := [(161, (3, .inl fn_fa_fits)), (173, (2, .inr (.inl fn_fr_takeOver)))]
def lx_ck_begins : zm_X := (zl_up lf_ck_begins, zl_up lc_ck_begins, zl_up lg_ck_begins, zl_up li_ck_begins)
def fn_ck_begins : List zm_V → zm_M → Option (Int32 × zm_M) := zm_fv zt_Y 9 2 (fun av M => zm_rn zt_Y lx_ck_begins zr_z cd_ck_begins 1 0 (zm_lo av 4) [] M)
def lf_ck_fitsAt : List (Nat × (Nat × Nat)) := [(33, (9, 3)), (71, (8, 7)), (21, (9, 0)), (76, (8, 4))]
def lc_ck_fitsAt : List (Nat × Int32) := []
def lg_ck_fitsAt : List (Nat × (Nat × Nat)) := []
def li_ck_fitsAt : List (Nat × zm_F) := [(161, (3, .inl fn_fa_fits))]
def lx_ck_fitsAt : zm_X := (zl_up lf_ck_fitsAt, zl_up lc_ck_fitsAt, zl_up lg_ck_fitsAt, zl_up li_ck_fitsAt)
def fn_ck_fitsAt : List zm_V → zm_M → Option (Int32 × zm_M) := zm_fv zt_Y 9 2 (fun av M => zm_rn zt_Y lx_ck_fitsAt zr_z cd_ck_fitsAt 1 0 (zm_lo av 4) [] M)
def lf_ck_handlersFit : List (Nat × (Nat × Nat)) := [(25, (9, 1)), (89, (1, 14)), (18, (9, 5)), (12, (9, 4)), (96, (1, 13)), (103, (1, 12))]
def lc_ck_handlersFit : List (Nat × Int32) := []
def lg_ck_handlersFit : List (Nat × (Nat × Nat)) := []
def li_ck_handlersFit : List (Nat × zm_F) := [(185, (3, .inl fn_pr_isGuarded)), (199, (3, .inr (.inl fn_fr_takeOverForHandler))), (213, (3, .inl fn_ck_fitsAt))]
def lx_ck_handlersFit : zm_X := (zl_up lf_ck_handlersFit, zl_up lc_ck_handlersFit, zl_up lg_ck_handlersFit, zl_up li_ck_handlersFit)
def fn_ck_handlersFit : List zm_V → zm_M → Option (Int32 × zm_M) := zm_fv zt_Y 9 1 (fun av M => zm_rn zt_Y lx_ck_handlersFit zr_z cd_ck_handlersFit 1073741824 0 (zm_lo av 3) [] M)
def lf_ck_jumpFits : List (Nat × (Nat × Nat)) := [(25, (9, 1)), (64, (1, 5)), (112, (1, 7)), (12, (9, 4))]
def lc_ck_jumpFits : List (Nat × Int32) := []
def lg_ck_jumpFits : List (Nat × (Nat × Nat)) := []
def li_ck_jumpFits : List (Nat × zm_F) := [(218, (1, .inl fn_mf_isJump)), (213, (3, .inl fn_ck_fitsAt))]
def lx_ck_jumpFits : zm_X := (zl_up lf_ck_jumpFits, zl_up lc_ck_jumpFits, zl_up lg_ck_jumpFits, zl_up li_ck_jumpFits)
def fn_ck_jumpFits : List zm_V → zm_M → Option (Int32 × zm_M) := zm_fv zt_Y 9 1 (fun av M => zm_rn zt_Y lx_ck_jumpFits zr_z cd_ck_jumpFits 1 0 (zm_lo av 2) [] M)
def lf_ck_firstBad : List (Nat × (Nat × Nat)) := [(25, (9, 1)), (12, (9, 4)), (43, (1, 9)), (29, (9, 2)), (64, (1, 5))]
def lc_ck_firstBad : List (Nat × Int32) := []
def lg_ck_firstBad : List (Nat × (Nat × Nat)) := []
def li_ck_firstBad : List (Nat × zm_F) := [(75, (2, .inr (.inl fn_pr_enter))), (95, (3, .inl fn_ck_begins)), (103, (2, .inl fn_ck_handlersFit)), (111, (3, .inl fn_ma_step)), (123, (2, .inl fn_ck_jumpFits)), (136, (1, .inl fn_mf_isEnd))]
def lx_ck_firstBad : zm_X := (zl_up lf_ck_firstBad, zl_up lc_ck_firstBad, zl_up lg_ck_firstBad, zl_up li_ck_firstBad)
def fn_ck_firstBad : List zm_V → zm_M → Option (Int32 × zm_M) := zm_fv zt_Y 9 0 (fun av M => zm_rn zt_Y lx_ck_firstBad zr_i cd_ck_firstBad 1073741824 0 (zm_lo av 3) [] M)
def lf_mf_check : List (Nat × (Nat × Nat)) := [(19, (10, 1)), (104, (1, 9)), (58, (10, 5)), (67, (10, 6))]
def lc_mf_check : List (Nat × Int32) := []
def lg_mf_check : List (Nat × (Nat × Nat)) := []
def li_mf_check : List (Nat × zm_F) := [(307, (1, .inl fn_re_isSound)), (313, (1, .inl fn_ck_firstBad))]
def lx_mf_check : zm_X := (zl_up lf_mf_check, zl_up lc_mf_check, zl_up lg_mf_check, zl_up li_mf_check)
def fn_mf_check : List zm_V → zm_M → Option (Int32 × zm_M) := zm_fv zt_Y 10 0 (fun av M => zm_rn zt_Y lx_mf_check zr_i cd_mf_check 1 0 (zm_lo av 1) [] M)
def lf_mf_map : List (Nat × (Nat × Nat)) := [(26, (10, 2)), (131, (2, 1)), (159, (2, 0))]
def lc_mf_map : List (Nat × Int32) := []
def lg_mf_map : List (Nat × (Nat × Nat)) := []
def li_mf_map : List (Nat × zm_F) := []
def lx_mf_map : zm_X := (zl_up lf_mf_map, zl_up lc_mf_map, zl_up lg_mf_map, zl_up li_mf_map)
def fn_mf_map : List zm_V → zm_M → Option (Int32 × zm_M) := zm_fv zt_Y 10 1 (fun av M => zm_rn zt_Y lx_mf_map zr_i cd_mf_map 1 0 (zm_lo av 2) [] M)
def lf_mf_patch : List (Nat × (Nat × Nat)) := [(26, (10, 2)), (131, (2, 1)), (159, (2, 0)), (58, (10, 5)), (136, (8, 9))]
def lc_mf_patch : List (Nat × Int32) := []
def lg_mf_patch : List (Nat × (Nat × Nat)) := []
def li_mf_patch : List (Nat × zm_F) := [(324, (2, .inl zm_mx))]
def lx_mf_patch : zm_X := (zl_up lf_mf_patch, zl_up lc_mf_patch, zl_up lg_mf_patch, zl_up li_mf_patch)
def fn_mf_patch : List zm_V → zm_M → Option (Int32 × zm_M) := zm_fv zt_Y 10 2 (fun av M => zm_rn zt_Y lx_mf_patch zr_z cd_mf_patch 1 0 (zm_lo av 3) [] M)
def lf_mf_cut : List (Nat × (Nat × Nat)) := [(26, (10, 2)), (131, (2, 1)), (58, (10, 5)), (136, (8, 9))]
def lc_mf_cut : List (Nat × Int32) := []
def lg_mf_cut : List (Nat × (Nat × Nat)) := []
def li_mf_cut : List (Nat × zm_F) := []
def lx_mf_cut : zm_X := (zl_up lf_mf_cut, zl_up lc_mf_cut, zl_up lg_mf_cut, zl_up li_mf_cut)
def fn_mf_cut : List zm_V → zm_M → Option (Int32 × zm_M) := zm_fv zt_Y 10 1 (fun av M => zm_rn zt_Y lx_mf_cut zr_i cd_mf_cut 1 0 (zm_lo av 3) [] M)
def lf_mf_row : List (Nat × (Nat × Nat)) := [(58, (10, 5)), (168, (8, 8)), (171, (8, 5)), (174, (8, 6)), (177, (8, 4))]
def lc_mf_row : List (Nat × Int32) := []
def lg_mf_row : List (Nat × (Nat × Nat)) := []
def li_mf_row : List (Nat × zm_F) := [(280, (2, .inl fn_mf_isQuestion)), (307, (1, .inl fn_re_isSound)), (297, (2, .inl fn_fr_tell))]
def lx_mf_row : zm_X := (zl_up lf_mf_row, zl_up lc_mf_row, zl_up lg_mf_row, zl_up li_mf_row)
def fn_mf_row : List zm_V → zm_M → Option (Int32 × zm_M) := zm_fv zt_Y 10 2 (fun av M => zm_rn zt_Y lx_mf_row zr_i cd_mf_row 1 0 (zm_lo av 3) [] M)
def lf_mf_code : List (Nat × (Nat × Nat)) := [(19, (10, 1)), (104, (1, 9)), (178, (1, 5)), (181, (1, 6)), (184, (1, 7)), (187, (1, 8))]
def lc_mf_code : List (Nat × Int32) := []
def lg_mf_code : List (Nat × (Nat × Nat)) := []
def li_mf_code : List (Nat × zm_F) := []
def lx_mf_code : zm_X := (zl_up lf_mf_code, zl_up lc_mf_code, zl_up lg_mf_code, zl_up li_mf_code)
def fn_mf_code : List zm_V → zm_M → Option (Int32 × zm_M) := zm_fv zt_Y 10 2 (fun av M => zm_rn zt_Y lx_mf_code zr_i cd_mf_code 1 0 (zm_lo av 3) [] M)
def lf_mf_count : List (Nat × (Nat × Nat)) := [(19, (10, 1)), (104, (1, 9)), (114, (1, 14)), (92, (1, 4)), (187, (1, 8)), (58, (10, 5)), (168, (8, 8))]
def lc_mf_count : List (Nat × Int32) := []
def lg_mf_count : List (Nat × (Nat × Nat)) := []
def li_mf_count : List (Nat × zm_F) := [(307, (1, .inl fn_re_isSound))]
def lx_mf_count : zm_X := (zl_up lf_mf_count, zl_up lc_mf_count, zl_up lg_mf_count, zl_up li_mf_count)
def fn_mf_count : List zm_V → zm_M → Option (Int32 × zm_M) := zm_fv zt_Y 10 1 (fun av M => zm_rn zt_Y lx_mf_count zr_i cd_mf_count 1 0 (zm_lo av 2) [] M)
def lf_mo_in : List (Nat × (Nat × Nat)) := []
def lc_mo_in : List (Nat × Int32) := []
def lg_mo_in : List (Nat × (Nat × Nat)) := []
def li_mo_in : List (Nat × zm_F) := []
def lx_mo_in : zm_X := (zl_up lf_mo_in, zl_up lc_mo_in, zl_up lg_mo_in, zl_up li_mo_in)
def fn_mo_in : List zm_V → zm_M → Option (Int32 × zm_M) := zm_fs 3 (fun av M => zm_rn zt_Y lx_mo_in zr_z cd_mo_in 1 0 (zm_lo av 3) [] M)
def lf_mo_type : List (Nat × (Nat × Nat)) := [(7, (11, 0)), (13, (11, 1))]
def lc_mo_type : List (Nat × Int32) := []
def lg_mo_type : List (Nat × (Nat × Nat)) := []
def li_mo_type : List (Nat × zm_F) := [(194, (3, .inl fn_mo_in))]
def lx_mo_type : zm_X := (zl_up lf_mo_type, zl_up lc_mo_type, zl_up lg_mo_type, zl_up li_mo_type)
def fn_mo_type : List zm_V → zm_M → Option (Int32 × zm_M) := zm_fv zt_Y 11 3 (fun av M => zm_rn zt_Y lx_mo_type zr_z cd_mo_type 1 0 (zm_lo av 4) [] M)
def lf_mo_method : List (Nat × (Nat × Nat)) := [(101, (11, 2)), (105, (11, 3)), (108, (11, 8)), (112, (11, 4)), (115, (11, 5)), (118, (11, 6))]
def lc_mo_method : List (Nat × Int32) := []
def lg_mo_method : List (Nat × (Nat × Nat)) := []
def li_mo_method : List (Nat × zm_F) := [(194, (3, .inl fn_mo_in))]
def lx_mo_method : zm_X := (zl_up lf_mo_method, zl_up lc_mo_method, zl_up lg_mo_method, zl_up li_mo_method)
def fn_mo_method : List zm_V → zm_M → Option (Int32 × zm_M) := zm_fv zt_Y 11 3 (fun av M => zm_rn zt_Y lx_mo_method zr_z cd_mo_method 1 0 (zm_lo av 4) [] M)
def lf_mo_kind : List (Nat × (Nat × Nat)) := []
def lc_mo_kind : List (Nat × Int32) := []
def lg_mo_kind : List (Nat × (Nat × Nat)) := []
def li_mo_kind : List (Nat × zm_F) := []
def lx_mo_kind : zm_X := (zl_up lf_mo_kind, zl_up lc_mo_kind, zl_up lg_mo_kind, zl_up li_mo_kind)
def fn_mo_kind : List zm_V → zm_M → Option (Int32 × zm_M) := zm_fs 1 (fun av M => zm_rn zt_Y lx_mo_kind zr_i cd_mo_kind 1 0 (zm_lo av 1) [] M)
def lf_mo_argument : List (Nat × (Nat × Nat)) := [(112, (11, 4)), (17, (11, 9))]
def lc_mo_argument : List (Nat × Int32) := []
def lg_mo_argument : List (Nat × (Nat × Nat)) := []
def li_mo_argument : List (Nat × zm_F) := [(194, (3, .inl fn_mo_in)), (178, (1, .inl fn_mo_kind))]
def lx_mo_argument : zm_X := (zl_up lf_mo_argument, zl_up lc_mo_argument, zl_up lg_mo_argument, zl_up li_mo_argument)
def fn_mo_argument : List zm_V → zm_M → Option (Int32 × zm_M) := zm_fv zt_Y 11 1 (fun av M => zm_rn zt_Y lx_mo_argument zr_i cd_mo_argument 1 0 (zm_lo av 2) [] M)
def lf_mo_isWideLocal : List (Nat × (Nat × Nat)) := []
def lc_mo_isWideLocal : List (Nat × Int32) := []
def lg_mo_isWideLocal : List (Nat × (Nat × Nat)) := []
def li_mo_isWideLocal : List (Nat × zm_F) := []
def lx_mo_isWideLocal : zm_X := (zl_up lf_mo_isWideLocal, zl_up lc_mo_isWideLocal, zl_up lg_mo_isWideLocal, zl_up li_mo_isWideLocal)
def fn_mo_isWideLocal : List zm_V → zm_M → Option (Int32 × zm_M) := zm_fs 1 (fun av M => zm_rn zt_Y lx_mo_isWideLocal zr_z cd_mo_isWideLocal 1 0 (zm_lo av 1) [] M)
def lf_mo_isGood : List (Nat × (Nat × Nat)) := []
def lc_mo_isGood : List (Nat × Int32) := []
def lg_mo_isGood : List (Nat × (Nat × Nat)) := []
def li_mo_isGood : List (Nat × zm_F) := [(194, (3, .inl fn_mo_in)), (242, (1, .inl fn_mo_isWideLocal))]
def lx_mo_isGood : zm_X := (zl_up lf_mo_isGood, zl_up lc_mo_isGood, zl_up lg_mo_isGood, zl_up li_mo_isGood)
def fn_mo_isGood : List zm_V → zm_M → Option (Int32 × zm_M) := zm_fs 3 (fun av M => zm_rn zt_Y lx_mo_isGood zr_z cd_mo_isGood 1 0 (zm_lo av 3) [] M)
def lf_mo_set : List (Nat × (Nat × Nat)) := [(20, (11, 10)), (23, (11, 11)), (26, (11, 12))]
def lc_mo_set : List (Nat × Int32) := []
def lg_mo_set : List (Nat × (Nat × Nat)) := []
def li_mo_set : List (Nat × zm_F) := [(194, (3, .inl fn_mo_in))]
def lx_mo_set : zm_X := (zl_up lf_mo_set, zl_up lc_mo_set, zl_up lg_mo_set, zl_up li_mo_set)
def fn_mo_set : List zm_V → zm_M → Option zm_M := zm_fv zt_Y 11 4 (fun av M => zm_rn zt_Y lx_mo_set zr_v cd_mo_set 1 0 (zm_lo av 5) [] M)
def lf_mo_add : List (Nat × (Nat × Nat)) := [(115, (11, 5))]
def lc_mo_add : List (Nat × Int32) := []
def lg_mo_add : List (Nat × (Nat × Nat)) := []
def li_mo_add : List (Nat × zm_F) := [(250, (3, .inl fn_mo_isGood)), (257, (5, .inr (.inl fn_mo_set)))]
def lx_mo_add : zm_X := (zl_up lf_mo_add, zl_up lc_mo_add, zl_up lg_mo_add, zl_up li_mo_add)
def fn_mo_add : List zm_V → zm_M → Option (Int32 × zm_M) := zm_fv zt_Y 11 3 (fun av M => zm_rn zt_Y lx_mo_add zr_i cd_mo_add 1 0 (zm_lo av 5) [] M)
def lf_mo_change : List (Nat × (Nat × Nat)) := [(115, (11, 5))]
def lc_mo_change : List (Nat × Int32) := []
def lg_mo_change : List (Nat × (Nat × Nat)) := []
def li_mo_change : List (Nat × zm_F) := [(250, (3, .inl fn_mo_isGood)), (194, (3, .inl fn_mo_in)), (257, (5, .inr (.inl fn_mo_set)))]
def lx_mo_change : zm_X := (zl_up lf_mo_change, zl_up lc_mo_change, zl_up lg_mo_change, zl_up li_mo_change)
def fn_mo_change : List zm_V → zm_M → Option (Int32 × zm_M) := zm_fv zt_Y 11 4 (fun av M => zm_rn zt_Y lx_mo_change zr_z cd_mo_change 1 0 (zm_lo av 6) [] M)
def lf_mo_handle : List (Nat × (Nat × Nat)) := [(118, (11, 6)), (29, (11, 13)), (32, (11, 14)), (35, (11, 15)), (38, (11, 16))]
def lc_mo_handle : List (Nat × Int32) := []
def lg_mo_handle : List (Nat × (Nat × Nat)) := []
def li_mo_handle : List (Nat × zm_F) := [(194, (3, .inl fn_mo_in))]
def lx_mo_handle : zm_X := (zl_up lf_mo_handle, zl_up lc_mo_handle, zl_up lg_mo_handle, zl_up li_mo_handle)
def fn_mo_handle : List zm_V → zm_M → Option (Int32 × zm_M) := zm_fv zt_Y 11 4 (fun av M => zm_rn zt_Y lx_mo_handle zr_i cd_mo_handle 1 0 (zm_lo av 5) [] M)
def lf_mo_isWide : List (Nat × (Nat × Nat)) := []
def lc_mo_isWide : List (Nat × Int32) := []
def lg_mo_isWide : List (Nat × (Nat × Nat)) := []
def li_mo_isWide : List (Nat × zm_F) := []
def lx_mo_isWide : zm_X := (zl_up lf_mo_isWide, zl_up lc_mo_isWide, zl_up lg_mo_isWide, zl_up li_mo_isWide)
def fn_mo_isWide : List zm_V → zm_M → Option (Int32 × zm_M) := zm_fs 1 (fun av M => zm_rn zt_Y lx_mo_isWide zr_z cd_mo_isWide 1 0 (zm_lo av 1) [] M)
def lf_mo_first : List (Nat × (Nat × Nat)) := [(44, (11, 18)), (105, (11, 3)), (101, (11, 2)), (112, (11, 4)), (17, (11, 9)), (138, (11, 20)), (141, (11, 21))]
def lc_mo_first : List (Nat × Int32) := []
def lg_mo_first : List (Nat × (Nat × Nat)) := []
def li_mo_first : List (Nat × zm_F) := [(270, (1, .inl fn_mo_isWide))]
def lx_mo_first : zm_X := (zl_up lf_mo_first, zl_up lc_mo_first, zl_up lg_mo_first, zl_up li_mo_first)
def fn_mo_first : List zm_V → zm_M → Option zm_M := zm_fv zt_Y 11 0 (fun av M => zm_rn zt_Y lx_mo_first zr_v cd_mo_first 1073741824 0 (zm_lo av 3) [] M)
def lf_mo_isInLine : List (Nat × (Nat × Nat)) := [(7, (11, 0))]
def lc_mo_isInLine : List (Nat × Int32) := []
def lg_mo_isInLine : List (Nat × (Nat × Nat)) := []
def li_mo_isInLine : List (Nat × zm_F) := []
def lx_mo_isInLine : zm_X := (zl_up lf_mo_isInLine, zl_up lc_mo_isInLine, zl_up lg_mo_isInLine, zl_up li_mo_isInLine)
def fn_mo_isInLine : List zm_V → zm_M → Option (Int32 × zm_M) := zm_fv zt_Y 11 2 (fun av M => zm_rn zt_Y lx_mo_isInLine zr_z cd_mo_isInLine 1073741824 0 (zm_lo av 4) [] M)
def lf_mo_join : List (Nat × (Nat × Nat)) := [(7, (11, 0))]
def lc_mo_join : List (Nat × Int32) := []
def lg_mo_join : List (Nat × (Nat × Nat)) := []
def li_mo_join : List (Nat × zm_F) := [(178, (1, .inl fn_mo_kind)), (187, (3, .inl fn_mo_isInLine))]
def lx_mo_join : zm_X := (zl_up lf_mo_join, zl_up lc_mo_join, zl_up lg_mo_join, zl_up li_mo_join)
def fn_mo_join : List zm_V → zm_M → Option (Int32 × zm_M) := zm_fv zt_Y 11 2 (fun av M => zm_rn zt_Y lx_mo_join zr_i cd_mo_join 1073741824 0 (zm_lo av 7) [] M)
def lf_mo_arrive : List (Nat × (Nat × Nat)) := [(115, (11, 5)), (50, (11, 22)), (56, (11, 24)), (138, (11, 20)), (194, (11, 27)), (44, (11, 18)), (59, (11, 25)), (201, (11, 28)), (47, (11, 19)), (62, (11, 26)), (141, (11, 21)), (53, (11, 23))]
def lc_mo_arrive : List (Nat × Int32) := []
def lg_mo_arrive : List (Nat × (Nat × Nat)) := []
def li_mo_arrive : List (Nat × zm_F) := [(395, (3, .inl fn_mo_join))]
def lx_mo_arrive : zm_X := (zl_up lf_mo_arrive, zl_up lc_mo_arrive, zl_up lg_mo_arrive, zl_up li_mo_arrive)
def fn_mo_arrive : List zm_V → zm_M → Option zm_M := zm_fv zt_Y 11 1 (fun av M => zm_rn zt_Y lx_mo_arrive zr_v cd_mo_arrive 1073741824 0 (zm_lo av 6) [] M)
def lf_mo_fetch : List (Nat × (Nat × Nat)) := [(56, (11, 24)), (138, (11, 20)), (53, (11, 23)), (141, (11, 21)), (44, (11, 18)), (59, (11, 25)), (47, (11, 19)), (62, (11, 26))]
def lc_mo_fetch : List (Nat × Int32) := []
def lg_mo_fetch : List (Nat × (Nat × Nat)) := []
def li_mo_fetch : List (Nat × zm_F) := []
def lx_mo_fetch : zm_X := (zl_up lf_mo_fetch, zl_up lc_mo_fetch, zl_up lg_mo_fetch, zl_up li_mo_fetch)
def fn_mo_fetch : List zm_V → zm_M → Option zm_M := zm_fv zt_Y 11 1 (fun av M => zm_rn zt_Y lx_mo_fetch zr_v cd_mo_fetch 1073741824 0 (zm_lo av 3) [] M)
def lf_mo_top : List (Nat × (Nat × Nat)) := [(138, (11, 20)), (47, (11, 19))]
def lc_mo_top : List (Nat × Int32) := []
def lg_mo_top : List (Nat × (Nat × Nat)) := []
def li_mo_top : List (Nat × zm_F) := []
def lx_mo_top : zm_X := (zl_up lf_mo_top, zl_up lc_mo_top, zl_up lg_mo_top, zl_up li_mo_top)
def fn_mo_top : List zm_V → zm_M → Option (Int32 × zm_M) := zm_fv zt_Y 11 1 (fun av M => zm_rn zt_Y lx_mo_top zr_i cd_mo_top 1 0 (zm_lo av 2) [] M)
def lf_mo_slots : List (Nat × (Nat × Nat)) := [(138, (11, 20)), (47, (11, 19))]
def lc_mo_slots : List (Nat × Int32) := []
def lg_mo_slots : List (Nat × (Nat × Nat)) := []
def li_mo_slots : List (Nat × zm_F) := [(270, (1, .inl fn_mo_isWide))]
def lx_mo_slots : zm_X := (zl_up lf_mo_slots, zl_up lc_mo_slots, zl_up lg_mo_slots, zl_up li_mo_slots)
def fn_mo_slots : List zm_V → zm_M → Option (Int32 × zm_M) := zm_fv zt_Y 11 0 (fun av M => zm_rn zt_Y lx_mo_slots zr_i cd_mo_slots 1073741824 0 (zm_lo av 3) [] M)
def lf_mo_push : List (Nat × (Nat × Nat)) := [(47, (11, 19)), (138, (11, 20))]
def lc_mo_push : List (Nat × Int32) := []
def lg_mo_push : List (Nat × (Nat × Nat)) := []
def li_mo_push : List (Nat × zm_F) := [(289, (1, .inl fn_mo_slots)), (270, (1, .inl fn_mo_isWide))]
def lx_mo_push : zm_X := (zl_up lf_mo_push, zl_up lc_mo_push, zl_up lg_mo_push, zl_up li_mo_push)
def fn_mo_push : List zm_V → zm_M → Option (Int32 × zm_M) := zm_fv zt_Y 11 1 (fun av M => zm_rn zt_Y lx_mo_push zr_z cd_mo_push 1 0 (zm_lo av 2) [] M)
def lf_mo_isSmall : List (Nat × (Nat × Nat)) := []
def lc_mo_isSmall : List (Nat × Int32) := []
def lg_mo_isSmall : List (Nat × (Nat × Nat)) := []
def li_mo_isSmall : List (Nat × zm_F) := [(270, (1, .inl fn_mo_isWide))]
def lx_mo_isSmall : zm_X := (zl_up lf_mo_isSmall, zl_up lc_mo_isSmall, zl_up lg_mo_isSmall, zl_up li_mo_isSmall)
def fn_mo_isSmall : List zm_V → zm_M → Option (Int32 × zm_M) := zm_fs 1 (fun av M => zm_rn zt_Y lx_mo_isSmall zr_z cd_mo_isSmall 1 0 (zm_lo av 1) [] M)
def lf_mo_takes : List (Nat × (Nat × Nat)) := [(138, (11, 20))]
def lc_mo_takes : List (Nat × Int32) := []
def lg_mo_takes : List (Nat × (Nat × Nat)) := []
def li_mo_takes : List (Nat × zm_F) := []
def lx_mo_takes : zm_X := (zl_up lf_mo_takes, zl_up lc_mo_takes, zl_up lg_mo_takes, zl_up li_mo_takes)
def fn_mo_takes : List zm_V → zm_M → Option (Int32 × zm_M) := zm_fv zt_Y 11 2 (fun av M => zm_rn zt_Y lx_mo_takes zr_z cd_mo_takes 1 0 (zm_lo av 3) [] M)
def lf_mo_sum : List (Nat × (Nat × Nat)) := [(138, (11, 20))]
def lc_mo_sum : List (Nat × Int32) := []
def lg_mo_sum : List (Nat × (Nat × Nat)) := []
def li_mo_sum : List (Nat × zm_F) := [(303, (2, .inl fn_mo_top))]
def lx_mo_sum : zm_X := (zl_up lf_mo_sum, zl_up lc_mo_sum, zl_up lg_mo_sum, zl_up li_mo_sum)
def fn_mo_sum : List zm_V → zm_M → Option (Int32 × zm_M) := zm_fv zt_Y 11 1 (fun av M => zm_rn zt_Y lx_mo_sum zr_z cd_mo_sum 1 0 (zm_lo av 2) [] M)
def lf_mo_swap : List (Nat × (Nat × Nat)) := [(138, (11, 20))]
def lc_mo_swap : List (Nat × Int32) := []
def lg_mo_swap : List (Nat × (Nat × Nat)) := []
def li_mo_swap : List (Nat × zm_F) := [(303, (2, .inl fn_mo_top)), (309, (2, .inl fn_mo_push))]
def lx_mo_swap : zm_X := (zl_up lf_mo_swap, zl_up lc_mo_swap, zl_up lg_mo_swap, zl_up li_mo_swap)
def fn_mo_swap : List zm_V → zm_M → Option (Int32 × zm_M) := zm_fv zt_Y 11 2 (fun av M => zm_rn zt_Y lx_mo_swap zr_z cd_mo_swap 1 0 (zm_lo av 3) [] M)
def lf_mo_is : List (Nat × (Nat × Nat)) := [(13, (11, 1))]
def lc_mo_is : List (Nat × Int32) := []
def lg_mo_is : List (Nat × (Nat × Nat)) := []
def li_mo_is : List (Nat × zm_F) := [(178, (1, .inl fn_mo_kind)), (187, (3, .inl fn_mo_isInLine))]
def lx_mo_is : zm_X := (zl_up lf_mo_is, zl_up lc_mo_is, zl_up lg_mo_is, zl_up li_mo_is)
def fn_mo_is : List zm_V → zm_M → Option (Int32 × zm_M) := zm_fv zt_Y 11 2 (fun av M => zm_rn zt_Y lx_mo_is zr_z cd_mo_is 1 0 (zm_lo av 3) [] M)
def lf_mo_simple : List (Nat × (Nat × Nat)) := [(47, (11, 19)), (138, (11, 20)), (108, (11, 8)), (105, (11, 3)), (141, (11, 21))]
def lc_mo_simple : List (Nat × Int32) := []
def lg_mo_simple : List (Nat × (Nat × Nat)) := []
def li_mo_simple : List (Nat × zm_F) := [(303, (2, .inl fn_mo_top)), (309, (2, .inl fn_mo_push)), (314, (1, .inl fn_mo_isSmall)), (321, (3, .inl fn_mo_takes)), (270, (1, .inl fn_mo_isWide)), (329, (2, .inl fn_mo_sum)), (335, (3, .inl fn_mo_swap)), (341, (3, .inl fn_mo_is))]
def lx_mo_simple : zm_X := (zl_up lf_mo_simple, zl_up lc_mo_simple, zl_up lg_mo_simple, zl_up li_mo_simple)
def fn_mo_simple : List zm_V → zm_M → Option (Int32 × zm_M) := zm_fv zt_Y 11 1 (fun av M => zm_rn zt_Y lx_mo_simple zr_z cd_mo_simple 1 0 (zm_lo av 4) [] M)
def lf_mo_typeFor : List (Nat × (Nat × Nat)) := []
def lc_mo_typeFor : List (Nat × Int32) := []
def lg_mo_typeFor : List (Nat × (Nat × Nat)) := []
def li_mo_typeFor : List (Nat × zm_F) := []
def lx_mo_typeFor : zm_X := (zl_up lf_mo_typeFor, zl_up lc_mo_typeFor, zl_up lg_mo_typeFor, zl_up li_mo_typeFor)
def fn_mo_typeFor : List zm_V → zm_M → Option (Int32 × zm_M) := zm_fs 1 (fun av M => zm_rn zt_Y lx_mo_typeFor zr_i cd_mo_typeFor 1 0 (zm_lo av 1) [] M)
def lf_mo_isPointer : List (Nat × (Nat × Nat)) := []
def lc_mo_isPointer : List (Nat × Int32) := []
def lg_mo_isPointer : List (Nat × (Nat × Nat)) := []
def li_mo_isPointer : List (Nat × zm_F) := [(178, (1, .inl fn_mo_kind))]
def lx_mo_isPointer : zm_X := (zl_up lf_mo_isPointer, zl_up lc_mo_isPointer, zl_up lg_mo_isPointer, zl_up li_mo_isPointer)
def fn_mo_isPointer : List zm_V → zm_M → Option (Int32 × zm_M) := zm_fs 1 (fun av M => zm_rn zt_Y lx_mo_isPointer zr_z cd_mo_isPointer 1 0 (zm_lo av 1) [] M)
def lf_mo_isReference : List (Nat × (Nat × Nat)) := []
def lc_mo_isReference : List (Nat × Int32) := []
def lg_mo_isReference : List (Nat × (Nat × Nat)) := []
def li_mo_isReference : List (Nat × zm_F) := [(296, (1, .inl fn_mo_isPointer)), (178, (1, .inl fn_mo_kind))]
def lx_mo_isReference : zm_X := (zl_up lf_mo_isReference, zl_up lc_mo_isReference, zl_up lg_mo_isReference, zl_up li_mo_isReference)
def fn_mo_isReference : List zm_V → zm_M → Option (Int32 × zm_M) := zm_fs 1 (fun av M => zm_rn zt_Y lx_mo_isReference zr_z cd_mo_isReference 1 0 (zm_lo av 1) [] M)
def lf_mo_move : List (Nat × (Nat × Nat)) := [(44, (11, 18)), (138, (11, 20))]
def lc_mo_move : List (Nat × Int32) := []
def lg_mo_move : List (Nat × (Nat × Nat)) := []
def li_mo_move : List (Nat × zm_F) := [(346, (1, .inl fn_mo_typeFor)), (352, (1, .inl fn_mo_isReference)), (309, (2, .inl fn_mo_push)), (303, (2, .inl fn_mo_top)), (270, (1, .inl fn_mo_isWide))]
def lx_mo_move : zm_X := (zl_up lf_mo_move, zl_up lc_mo_move, zl_up lg_mo_move, zl_up li_mo_move)
def fn_mo_move : List zm_V → zm_M → Option (Int32 × zm_M) := zm_fv zt_Y 11 2 (fun av M => zm_rn zt_Y lx_mo_move zr_z cd_mo_move 1 0 (zm_lo av 5) [] M)
def lf_mo_sizeOf : List (Nat × (Nat × Nat)) := []
def lc_mo_sizeOf : List (Nat × Int32) := []
def lg_mo_sizeOf : List (Nat × (Nat × Nat)) := []
def li_mo_sizeOf : List (Nat × zm_F) := []
def lx_mo_sizeOf : zm_X := (zl_up lf_mo_sizeOf, zl_up lc_mo_sizeOf, zl_up lg_mo_sizeOf, zl_up li_mo_sizeOf)
def fn_mo_sizeOf : List zm_V → zm_M → Option (Int32 × zm_M) := zm_fs 1 (fun av M => zm_rn zt_Y lx_mo_sizeOf zr_i cd_mo_sizeOf 1 0 (zm_lo av 1) [] M)
def lf_mo_offset : List (Nat × (Nat × Nat)) := [(20, (11, 10))]
def lc_mo_offset : List (Nat × Int32) := []
def lg_mo_offset : List (Nat × (Nat × Nat)) := []
def li_mo_offset : List (Nat × zm_F) := [(264, (1, .inl fn_mo_sizeOf))]
def lx_mo_offset : zm_X := (zl_up lf_mo_offset, zl_up lc_mo_offset, zl_up lg_mo_offset, zl_up li_mo_offset)
def fn_mo_offset : List zm_V → zm_M → Option (Int32 × zm_M) := zm_fv zt_Y 11 1 (fun av M => zm_rn zt_Y lx_mo_offset zr_i cd_mo_offset 1073741824 0 (zm_lo av 4) [] M)
def lf_mo_placeAt : List (Nat × (Nat × Nat)) := [(115, (11, 5)), (20, (11, 10))]
def lc_mo_placeAt : List (Nat × Int32) := []
def lg_mo_placeAt : List (Nat × (Nat × Nat)) := []
def li_mo_placeAt : List (Nat × zm_F) := [(264, (1, .inl fn_mo_sizeOf))]
def lx_mo_placeAt : zm_X := (zl_up lf_mo_placeAt, zl_up lc_mo_placeAt, zl_up lg_mo_placeAt, zl_up li_mo_placeAt)
def fn_mo_placeAt : List zm_V → zm_M → Option (Int32 × zm_M) := zm_fv zt_Y 11 1 (fun av M => zm_rn zt_Y lx_mo_placeAt zr_i cd_mo_placeAt 1073741824 0 (zm_lo av 4) [] M)
def lf_mo_init : List (Nat × (Nat × Nat)) := [(101, (11, 2)), (7, (11, 0)), (20, (11, 10)), (23, (11, 11)), (138, (11, 20)), (47, (11, 19)), (44, (11, 18)), (141, (11, 21))]
def lc_mo_init : List (Nat × Int32) := []
def lg_mo_init : List (Nat × (Nat × Nat)) := []
def li_mo_init : List (Nat × zm_F) := [(303, (2, .inl fn_mo_top)), (178, (1, .inl fn_mo_kind)), (359, (2, .inl fn_mo_placeAt))]
def lx_mo_init : zm_X := (zl_up lf_mo_init, zl_up lc_mo_init, zl_up lg_mo_init, zl_up li_mo_init)
def fn_mo_init : List zm_V → zm_M → Option (Int32 × zm_M) := zm_fv zt_Y 11 1 (fun av M => zm_rn zt_Y lx_mo_init zr_z cd_mo_init 1073741824 0 (zm_lo av 6) [] M)
def lf_mo_leave : List (Nat × (Nat × Nat)) := [(20, (11, 10)), (23, (11, 11)), (138, (11, 20)), (26, (11, 12))]
def lc_mo_leave : List (Nat × Int32) := []
def lg_mo_leave : List (Nat × (Nat × Nat)) := []
def li_mo_leave : List (Nat × zm_F) := [(303, (2, .inl fn_mo_top)), (365, (2, .inl fn_mo_simple)), (371, (3, .inl fn_mo_move)), (321, (3, .inl fn_mo_takes)), (296, (1, .inl fn_mo_isPointer)), (377, (2, .inl fn_mo_offset)), (309, (2, .inl fn_mo_push)), (383, (2, .inl fn_mo_init)), (341, (3, .inl fn_mo_is))]
def lx_mo_leave : zm_X := (zl_up lf_mo_leave, zl_up lc_mo_leave, zl_up lg_mo_leave, zl_up li_mo_leave)
def fn_mo_leave : List zm_V → zm_M → Option (Int32 × zm_M) := zm_fv zt_Y 11 1 (fun av M => zm_rn zt_Y lx_mo_leave zr_z cd_mo_leave 1 0 (zm_lo av 6) [] M)
def lf_mo_isEnd : List (Nat × (Nat × Nat)) := []
def lc_mo_isEnd : List (Nat × Int32) := []
def lg_mo_isEnd : List (Nat × (Nat × Nat)) := []
def li_mo_isEnd : List (Nat × zm_F) := [(194, (3, .inl fn_mo_in))]
def lx_mo_isEnd : zm_X := (zl_up lf_mo_isEnd, zl_up lc_mo_isEnd, zl_up lg_mo_isEnd, zl_up li_mo_isEnd)
def fn_mo_isEnd : List zm_V → zm_M → Option (Int32 × zm_M) := zm_fs 1 (fun av M => zm_rn zt_Y lx_mo_isEnd zr_z cd_mo_isEnd 1 0 (zm_lo av 1) [] M)
def lf_mo_goHandled : List (Nat × (Nat × Nat)) := [(118, (11, 6)), (194, (11, 27)), (29, (11, 13)), (32, (11, 14)), (138, (11, 20)), (47, (11, 19)), (38, (11, 16)), (35, (11, 15))]
def lc_mo_goHandled : List (Nat × Int32) := []
def lg_mo_goHandled : List (Nat × (Nat × Nat)) := []
def li_mo_goHandled : List (Nat × zm_F) := [(415, (2, .inr (.inl fn_mo_fetch))), (423, (2, .inr (.inl fn_mo_arrive)))]
def lx_mo_goHandled : zm_X := (zl_up lf_mo_goHandled, zl_up lc_mo_goHandled, zl_up lg_mo_goHandled, zl_up li_mo_goHandled)
def fn_mo_goHandled : List zm_V → zm_M → Option zm_M := zm_fv zt_Y 11 1 (fun av M => zm_rn zt_Y lx_mo_goHandled zr_v cd_mo_goHandled 1073741824 0 (zm_lo av 3) [] M)
def lf_mo_hasRow : List (Nat × (Nat × Nat)) := [(20, (11, 10)), (115, (11, 5)), (26, (11, 12)), (118, (11, 6)), (35, (11, 15))]
def lc_mo_hasRow : List (Nat × Int32) := []
def lg_mo_hasRow : List (Nat × (Nat × Nat)) := []
def li_mo_hasRow : List (Nat × zm_F) := [(408, (1, .inl fn_mo_isEnd)), (194, (3, .inl fn_mo_in))]
def lx_mo_hasRow : zm_X := (zl_up lf_mo_hasRow, zl_up lc_mo_hasRow, zl_up lg_mo_hasRow, zl_up li_mo_hasRow)
def fn_mo_hasRow : List zm_V → zm_M → Option (Int32 × zm_M) := zm_fv zt_Y 11 1 (fun av M => zm_rn zt_Y lx_mo_hasRow zr_z cd_mo_hasRow 1073741824 0 (zm_lo av 3) [] M)
def lf_mo_hasThis : List (Nat × (Nat × Nat)) := [(59, (11, 25))]
def lc_mo_hasThis : List (Nat × Int32) := []
def lg_mo_hasThis : List (Nat × (Nat × Nat)) := []
def li_mo_hasThis : List (Nat × zm_F) := []
def lx_mo_hasThis : zm_X := (zl_up lf_mo_hasThis, zl_up lc_mo_hasThis, zl_up lg_mo_hasThis, zl_up li_mo_hasThis)
def fn_mo_hasThis : List zm_V → zm_M → Option (Int32 × zm_M) := zm_fv zt_Y 11 1 (fun av M => zm_rn zt_Y lx_mo_hasThis zr_z cd_mo_hasThis 1073741824 0 (zm_lo av 3) [] M)
def lf_mo_isRight : List (Nat × (Nat × Nat)) := [(115, (11, 5)), (194, (11, 27)), (50, (11, 22)), (201, (11, 28)), (20, (11, 10)), (26, (11, 12)), (53, (11, 23))]
def lc_mo_isRight : List (Nat × Int32) := []
def lg_mo_isRight : List (Nat × (Nat × Nat)) := []
def li_mo_isRight : List (Nat × zm_F) := [(429, (1, .inr (.inl fn_mo_first))), (423, (2, .inr (.inl fn_mo_arrive))), (415, (2, .inr (.inl fn_mo_fetch))), (435, (2, .inl fn_mo_leave)), (194, (3, .inl fn_mo_in)), (408, (1, .inl fn_mo_isEnd)), (441, (2, .inr (.inl fn_mo_goHandled))), (447, (2, .inl fn_mo_hasRow)), (453, (2, .inl fn_mo_hasThis))]
def lx_mo_isRight : zm_X := (zl_up lf_mo_isRight, zl_up lc_mo_isRight, zl_up lg_mo_isRight, zl_up li_mo_isRight)
def fn_mo_isRight : List zm_V → zm_M → Option (Int32 × zm_M) := zm_fv zt_Y 11 0 (fun av M => zm_rn zt_Y lx_mo_isRight zr_z cd_mo_isRight 1073741824 0 (zm_lo av 2) [] M)
def lf_mo_enlist : List (Nat × (Nat × Nat)) := [(233, (11, 37)), (80, (11, 35)), (44, (11, 18))]
def lc_mo_enlist : List (Nat × Int32) := []
def lg_mo_enlist : List (Nat × (Nat × Nat)) := []
def li_mo_enlist : List (Nat × zm_F) := [(270, (1, .inl fn_mo_isWide))]
def lx_mo_enlist : zm_X := (zl_up lf_mo_enlist, zl_up lc_mo_enlist, zl_up lg_mo_enlist, zl_up li_mo_enlist)
def fn_mo_enlist : List zm_V → zm_M → Option zm_M := zm_fv zt_Y 11 0 (fun av M => zm_rn zt_Y lx_mo_enlist zr_v cd_mo_enlist 1073741824 0 (zm_lo av 2) [] M)
def lf_mo_keep : List (Nat × (Nat × Nat)) := [(233, (11, 37)), (83, (11, 36)), (80, (11, 35)), (236, (11, 38))]
def lc_mo_keep : List (Nat × Int32) := []
def lg_mo_keep : List (Nat × (Nat × Nat)) := []
def li_mo_keep : List (Nat × zm_F) := []
def lx_mo_keep : zm_X := (zl_up lf_mo_keep, zl_up lc_mo_keep, zl_up lg_mo_keep, zl_up li_mo_keep)
def fn_mo_keep : List zm_V → zm_M → Option zm_M := zm_fv zt_Y 11 0 (fun av M => zm_rn zt_Y lx_mo_keep zr_v cd_mo_keep 1073741824 0 (zm_lo av 2) [] M)
def lf_mo_begins : List (Nat × (Nat × Nat)) := [(233, (11, 37)), (236, (11, 38)), (80, (11, 35)), (83, (11, 36))]
def lc_mo_begins : List (Nat × Int32) := []
def lg_mo_begins : List (Nat × (Nat × Nat)) := []
def li_mo_begins : List (Nat × zm_F) := []
def lx_mo_begins : zm_X := (zl_up lf_mo_begins, zl_up lc_mo_begins, zl_up lg_mo_begins, zl_up li_mo_begins)
def fn_mo_begins : List zm_V → zm_M → Option (Int32 × zm_M) := zm_fv zt_Y 11 0 (fun av M => zm_rn zt_Y lx_mo_begins zr_z cd_mo_begins 1073741824 0 (zm_lo av 3) [] M)
def lf_mo_write : List (Nat × (Nat × Nat)) := [(86, (11, 39)), (239, (11, 40))]
def lc_mo_write : List (Nat × Int32) := []
def lg_mo_write : List (Nat × (Nat × Nat)) := []
def li_mo_write : List (Nat × zm_F) := []
def lx_mo_write : zm_X := (zl_up lf_mo_write, zl_up lc_mo_write, zl_up lg_mo_write, zl_up li_mo_write)
def fn_mo_write : List zm_V → zm_M → Option zm_M := zm_fv zt_Y 11 1 (fun av M => zm_rn zt_Y lx_mo_write zr_v cd_mo_write 1 0 (zm_lo av 2) [] M)
def lf_mo_writeTwo : List (Nat × (Nat × Nat)) := []
def lc_mo_writeTwo : List (Nat × Int32) := []
def lg_mo_writeTwo : List (Nat × (Nat × Nat)) := []
def li_mo_writeTwo : List (Nat × zm_F) := [(485, (2, .inr (.inl fn_mo_write)))]
def lx_mo_writeTwo : zm_X := (zl_up lf_mo_writeTwo, zl_up lc_mo_writeTwo, zl_up lg_mo_writeTwo, zl_up li_mo_writeTwo)
def fn_mo_writeTwo : List zm_V → zm_M → Option zm_M := zm_fv zt_Y 11 1 (fun av M => zm_rn zt_Y lx_mo_writeTwo zr_v cd_mo_writeTwo 1 0 (zm_lo av 2) [] M)
def lf_mo_writeType : List (Nat × (Nat × Nat)) := []
def lc_mo_writeType : List (Nat × Int32) := []
def lg_mo_writeType : List (Nat × (Nat × Nat)) := []
def li_mo_writeType : List (Nat × zm_F) := [(178, (1, .inl fn_mo_kind)), (485, (2, .inr (.inl fn_mo_write))), (491, (2, .inr (.inl fn_mo_writeTwo)))]
def lx_mo_writeType : zm_X := (zl_up lf_mo_writeType, zl_up lc_mo_writeType, zl_up lg_mo_writeType, zl_up li_mo_writeType)
def fn_mo_writeType : List zm_V → zm_M → Option zm_M := zm_fv zt_Y 11 1 (fun av M => zm_rn zt_Y lx_mo_writeType zr_v cd_mo_writeType 1 0 (zm_lo av 2) [] M)
def lf_mo_writeRow : List (Nat × (Nat × Nat)) := [(233, (11, 37)), (236, (11, 38)), (138, (11, 20)), (47, (11, 19)), (80, (11, 35))]
def lc_mo_writeRow : List (Nat × Int32) := []
def lg_mo_writeRow : List (Nat × (Nat × Nat)) := []
def li_mo_writeRow : List (Nat × zm_F) := [(497, (1, .inl fn_mo_begins)), (485, (2, .inr (.inl fn_mo_write))), (491, (2, .inr (.inl fn_mo_writeTwo))), (503, (2, .inr (.inl fn_mo_writeType))), (194, (3, .inl fn_mo_in))]
def lx_mo_writeRow : zm_X := (zl_up lf_mo_writeRow, zl_up lc_mo_writeRow, zl_up lg_mo_writeRow, zl_up li_mo_writeRow)
def fn_mo_writeRow : List zm_V → zm_M → Option zm_M := zm_fv zt_Y 11 1 (fun av M => zm_rn zt_Y lx_mo_writeRow zr_v cd_mo_writeRow 1073741824 0 (zm_lo av 5) [] M)
def lf_mo_make : List (Nat × (Nat × Nat)) := [(239, (11, 40)), (115, (11, 5)), (41, (11, 17)), (86, (11, 39)), (263, (11, 7))]
def lc_mo_make : List (Nat × Int32) := []
def lg_mo_make : List (Nat × (Nat × Nat)) := []
def li_mo_make : List (Nat × zm_F) := [(459, (1, .inl fn_mo_isRight)), (429, (1, .inr (.inl fn_mo_first))), (509, (1, .inr (.inl fn_mo_enlist))), (515, (1, .inr (.inl fn_mo_keep))), (447, (2, .inl fn_mo_hasRow)), (377, (2, .inl fn_mo_offset)), (415, (2, .inr (.inl fn_mo_fetch))), (521, (2, .inr (.inl fn_mo_writeRow)))]
def lx_mo_make : zm_X := (zl_up lf_mo_make, zl_up lc_mo_make, zl_up lg_mo_make, zl_up li_mo_make)
def fn_mo_make : List zm_V → zm_M → Option (Int32 × zm_M) := zm_fv zt_Y 11 0 (fun av M => zm_rn zt_Y lx_mo_make zr_i cd_mo_make 1073741824 0 (zm_lo av 7) [] M)
def lf_mo_flow : List (Nat × (Nat × Nat)) := [(115, (11, 5)), (59, (11, 25)), (56, (11, 24)), (62, (11, 26)), (53, (11, 23))]
def lc_mo_flow : List (Nat × Int32) := []
def lg_mo_flow : List (Nat × (Nat × Nat)) := []
def li_mo_flow : List (Nat × zm_F) := [(194, (3, .inl fn_mo_in)), (459, (1, .inl fn_mo_isRight))]
def lx_mo_flow : zm_X := (zl_up lf_mo_flow, zl_up lc_mo_flow, zl_up lg_mo_flow, zl_up li_mo_flow)
def fn_mo_flow : List zm_V → zm_M → Option (Int32 × zm_M) := zm_fv zt_Y 11 2 (fun av M => zm_rn zt_Y lx_mo_flow zr_i cd_mo_flow 1 0 (zm_lo av 4) [] M)
def lf_mo_byteNext : List (Nat × (Nat × Nat)) := [(266, (11, 41)), (263, (11, 7)), (269, (11, 42)), (41, (11, 17))]
def lc_mo_byteNext : List (Nat × Int32) := []
def lg_mo_byteNext : List (Nat × (Nat × Nat)) := []
def li_mo_byteNext : List (Nat × zm_F) := []
def lx_mo_byteNext : zm_X := (zl_up lf_mo_byteNext, zl_up lc_mo_byteNext, zl_up lg_mo_byteNext, zl_up li_mo_byteNext)
def fn_mo_byteNext : List zm_V → zm_M → Option (Int32 × zm_M) := zm_fv zt_Y 11 0 (fun av M => zm_rn zt_Y lx_mo_byteNext zr_i cd_mo_byteNext 1 0 (zm_lo av 1) [] M)
def lf_mo_twoNext : List (Nat × (Nat × Nat)) := []
def lc_mo_twoNext : List (Nat × Int32) := []
def lg_mo_twoNext : List (Nat × (Nat × Nat)) := []
def li_mo_twoNext : List (Nat × zm_F) := [(545, (1, .inl fn_mo_byteNext))]
def lx_mo_twoNext : zm_X := (zl_up lf_mo_twoNext, zl_up lc_mo_twoNext, zl_up lg_mo_twoNext, zl_up li_mo_twoNext)
def fn_mo_twoNext : List zm_V → zm_M → Option (Int32 × zm_M) := zm_fv zt_Y 11 0 (fun av M => zm_rn zt_Y lx_mo_twoNext zr_i cd_mo_twoNext 1 0 (zm_lo av 2) [] M)
def lf_mo_typeNext : List (Nat × (Nat × Nat)) := [(269, (11, 42))]
def lc_mo_typeNext : List (Nat × Int32) := []
def lg_mo_typeNext : List (Nat × (Nat × Nat)) := []
def li_mo_typeNext : List (Nat × zm_F) := [(545, (1, .inl fn_mo_byteNext)), (551, (1, .inl fn_mo_twoNext))]
def lx_mo_typeNext : zm_X := (zl_up lf_mo_typeNext, zl_up lc_mo_typeNext, zl_up lg_mo_typeNext, zl_up li_mo_typeNext)
def fn_mo_typeNext : List zm_V → zm_M → Option (Int32 × zm_M) := zm_fv zt_Y 11 0 (fun av M => zm_rn zt_Y lx_mo_typeNext zr_i cd_mo_typeNext 1 0 (zm_lo av 3) [] M)
def lf_mo_stackNext : List (Nat × (Nat × Nat)) := [(269, (11, 42))]
def lc_mo_stackNext : List (Nat × Int32) := []
def lg_mo_stackNext : List (Nat × (Nat × Nat)) := []
def li_mo_stackNext : List (Nat × zm_F) := [(557, (1, .inl fn_mo_typeNext)), (309, (2, .inl fn_mo_push))]
def lx_mo_stackNext : zm_X := (zl_up lf_mo_stackNext, zl_up lc_mo_stackNext, zl_up lg_mo_stackNext, zl_up li_mo_stackNext)
def fn_mo_stackNext : List zm_V → zm_M → Option zm_M := zm_fv zt_Y 11 0 (fun av M => zm_rn zt_Y lx_mo_stackNext zr_v cd_mo_stackNext 1 0 (zm_lo av 3) [] M)
def lf_mo_enter : List (Nat × (Nat × Nat)) := [(233, (11, 37)), (80, (11, 35)), (269, (11, 42))]
def lc_mo_enter : List (Nat × Int32) := []
def lg_mo_enter : List (Nat × (Nat × Nat)) := []
def li_mo_enter : List (Nat × zm_F) := [(270, (1, .inl fn_mo_isWide))]
def lx_mo_enter : zm_X := (zl_up lf_mo_enter, zl_up lc_mo_enter, zl_up lg_mo_enter, zl_up li_mo_enter)
def fn_mo_enter : List zm_V → zm_M → Option zm_M := zm_fv zt_Y 11 1 (fun av M => zm_rn zt_Y lx_mo_enter zr_v cd_mo_enter 1073741824 0 (zm_lo av 4) [] M)
def lf_mo_readFull : List (Nat × (Nat × Nat)) := [(233, (11, 37)), (269, (11, 42))]
def lc_mo_readFull : List (Nat × Int32) := []
def lg_mo_readFull : List (Nat × (Nat × Nat)) := []
def li_mo_readFull : List (Nat × zm_F) := [(551, (1, .inl fn_mo_twoNext)), (557, (1, .inl fn_mo_typeNext)), (569, (2, .inr (.inl fn_mo_enter))), (563, (1, .inr (.inl fn_mo_stackNext)))]
def lx_mo_readFull : zm_X := (zl_up lf_mo_readFull, zl_up lc_mo_readFull, zl_up lg_mo_readFull, zl_up li_mo_readFull)
def fn_mo_readFull : List zm_V → zm_M → Option zm_M := zm_fv zt_Y 11 0 (fun av M => zm_rn zt_Y lx_mo_readFull zr_v cd_mo_readFull 1073741824 0 (zm_lo av 4) [] M)
def lf_mo_readForm : List (Nat × (Nat × Nat)) := [(269, (11, 42)), (233, (11, 37))]
def lc_mo_readForm : List (Nat × Int32) := []
def lg_mo_readForm : List (Nat × (Nat × Nat)) := []
def li_mo_readForm : List (Nat × zm_F) := [(194, (3, .inl fn_mo_in)), (551, (1, .inl fn_mo_twoNext)), (563, (1, .inr (.inl fn_mo_stackNext))), (557, (1, .inl fn_mo_typeNext)), (569, (2, .inr (.inl fn_mo_enter))), (575, (1, .inr (.inl fn_mo_readFull)))]
def lx_mo_readForm : zm_X := (zl_up lf_mo_readForm, zl_up lc_mo_readForm, zl_up lg_mo_readForm, zl_up li_mo_readForm)
def fn_mo_readForm : List zm_V → zm_M → Option (Int32 × zm_M) := zm_fv zt_Y 11 1 (fun av M => zm_rn zt_Y lx_mo_readForm zr_i cd_mo_readForm 1073741824 0 (zm_lo av 5) [] M)
def lf_mo_readRows : List (Nat × (Nat × Nat)) := [(290, (11, 34)), (266, (11, 41)), (269, (11, 42)), (263, (11, 7)), (138, (11, 20)), (65, (11, 29)), (68, (11, 30)), (71, (11, 31)), (77, (11, 33)), (47, (11, 19)), (74, (11, 32)), (233, (11, 37)), (80, (11, 35))]
def lc_mo_readRows : List (Nat × Int32) := []
def lg_mo_readRows : List (Nat × (Nat × Nat)) := []
def li_mo_readRows : List (Nat × zm_F) := [(429, (1, .inr (.inl fn_mo_first))), (509, (1, .inr (.inl fn_mo_enlist))), (545, (1, .inl fn_mo_byteNext)), (587, (2, .inl fn_mo_readForm)), (359, (2, .inl fn_mo_placeAt)), (270, (1, .inl fn_mo_isWide))]
def lx_mo_readRows : zm_X := (zl_up lf_mo_readRows, zl_up lc_mo_readRows, zl_up lg_mo_readRows, zl_up li_mo_readRows)
def fn_mo_readRows : List zm_V → zm_M → Option (Int32 × zm_M) := zm_fv zt_Y 11 0 (fun av M => zm_rn zt_Y lx_mo_readRows zr_z cd_mo_readRows 1073741824 0 (zm_lo av 7) [] M)
def lf_mo_rowAt : List (Nat × (Nat × Nat)) := [(290, (11, 34)), (65, (11, 29))]
def lc_mo_rowAt : List (Nat × Int32) := []
def lg_mo_rowAt : List (Nat × (Nat × Nat)) := []
def li_mo_rowAt : List (Nat × zm_F) := []
def lx_mo_rowAt : zm_X := (zl_up lf_mo_rowAt, zl_up lc_mo_rowAt, zl_up lg_mo_rowAt, zl_up li_mo_rowAt)
def fn_mo_rowAt : List zm_V → zm_M → Option (Int32 × zm_M) := zm_fv zt_Y 11 1 (fun av M => zm_rn zt_Y lx_mo_rowAt zr_i cd_mo_rowAt 1073741824 0 (zm_lo av 3) [] M)
def lf_mo_rowIsRaw : List (Nat × (Nat × Nat)) := [(74, (11, 32))]
def lc_mo_rowIsRaw : List (Nat × Int32) := []
def lg_mo_rowIsRaw : List (Nat × (Nat × Nat)) := []
def li_mo_rowIsRaw : List (Nat × zm_F) := []
def lx_mo_rowIsRaw : zm_X := (zl_up lf_mo_rowIsRaw, zl_up lc_mo_rowIsRaw, zl_up lg_mo_rowIsRaw, zl_up li_mo_rowIsRaw)
def fn_mo_rowIsRaw : List zm_V → zm_M → Option (Int32 × zm_M) := zm_fv zt_Y 11 1 (fun av M => zm_rn zt_Y lx_mo_rowIsRaw zr_z cd_mo_rowIsRaw 1073741824 0 (zm_lo av 3) [] M)
def lf_mo_fits : List (Nat × (Nat × Nat)) := [(138, (11, 20)), (71, (11, 31)), (141, (11, 21)), (44, (11, 18)), (74, (11, 32)), (47, (11, 19)), (77, (11, 33))]
def lc_mo_fits : List (Nat × Int32) := []
def lg_mo_fits : List (Nat × (Nat × Nat)) := []
def li_mo_fits : List (Nat × zm_F) := [(593, (2, .inl fn_mo_rowIsRaw)), (341, (3, .inl fn_mo_is))]
def lx_mo_fits : zm_X := (zl_up lf_mo_fits, zl_up lc_mo_fits, zl_up lg_mo_fits, zl_up li_mo_fits)
def fn_mo_fits : List zm_V → zm_M → Option (Int32 × zm_M) := zm_fv zt_Y 11 1 (fun av M => zm_rn zt_Y lx_mo_fits zr_z cd_mo_fits 1073741824 0 (zm_lo av 4) [] M)
def lf_mo_take : List (Nat × (Nat × Nat)) := [(71, (11, 31)), (138, (11, 20)), (141, (11, 21)), (44, (11, 18)), (74, (11, 32)), (47, (11, 19)), (77, (11, 33))]
def lc_mo_take : List (Nat × Int32) := []
def lg_mo_take : List (Nat × (Nat × Nat)) := []
def li_mo_take : List (Nat × zm_F) := [(593, (2, .inl fn_mo_rowIsRaw))]
def lx_mo_take : zm_X := (zl_up lf_mo_take, zl_up lc_mo_take, zl_up lg_mo_take, zl_up li_mo_take)
def fn_mo_take : List zm_V → zm_M → Option zm_M := zm_fv zt_Y 11 1 (fun av M => zm_rn zt_Y lx_mo_take zr_v cd_mo_take 1073741824 0 (zm_lo av 3) [] M)
def lf_mo_fitsAt : List (Nat × (Nat × Nat)) := [(115, (11, 5))]
def lc_mo_fitsAt : List (Nat × Int32) := []
def lg_mo_fitsAt : List (Nat × (Nat × Nat)) := []
def li_mo_fitsAt : List (Nat × zm_F) := [(377, (2, .inl fn_mo_offset)), (599, (2, .inl fn_mo_rowAt)), (605, (2, .inl fn_mo_fits))]
def lx_mo_fitsAt : zm_X := (zl_up lf_mo_fitsAt, zl_up lc_mo_fitsAt, zl_up lg_mo_fitsAt, zl_up li_mo_fitsAt)
def fn_mo_fitsAt : List zm_V → zm_M → Option (Int32 × zm_M) := zm_fv zt_Y 11 1 (fun av M => zm_rn zt_Y lx_mo_fitsAt zr_z cd_mo_fitsAt 1 0 (zm_lo av 3) [] M)
def lf_mo_handled : List (Nat × (Nat × Nat)) := [(118, (11, 6)), (29, (11, 13)), (32, (11, 14)), (138, (11, 20)), (47, (11, 19)), (38, (11, 16)), (35, (11, 15))]
def lc_mo_handled : List (Nat × Int32) := []
def lg_mo_handled : List (Nat × (Nat × Nat)) := []
def li_mo_handled : List (Nat × zm_F) := [(611, (2, .inl fn_mo_fitsAt))]
def lx_mo_handled : zm_X := (zl_up lf_mo_handled, zl_up lc_mo_handled, zl_up lg_mo_handled, zl_up li_mo_handled)
def fn_mo_handled : List zm_V → zm_M → Option (Int32 × zm_M) := zm_fv zt_Y 11 1 (fun av M => zm_rn zt_Y lx_mo_handled zr_z cd_mo_handled 1073741824 0 (zm_lo av 6) [] M)
def lf_mo_check : List (Nat × (Nat × Nat)) := [(115, (11, 5)), (20, (11, 10)), (26, (11, 12))]
def lc_mo_check : List (Nat × Int32) := []
def lg_mo_check : List (Nat × (Nat × Nat)) := []
def li_mo_check : List (Nat × zm_F) := [(617, (1, .inl fn_mo_readRows)), (429, (1, .inr (.inl fn_mo_first))), (377, (2, .inl fn_mo_offset)), (599, (2, .inl fn_mo_rowAt)), (605, (2, .inl fn_mo_fits)), (623, (2, .inr (.inl fn_mo_take))), (629, (2, .inl fn_mo_handled)), (435, (2, .inl fn_mo_leave)), (194, (3, .inl fn_mo_in)), (611, (2, .inl fn_mo_fitsAt)), (408, (1, .inl fn_mo_isEnd))]
def lx_mo_check : zm_X := (zl_up lf_mo_check, zl_up lc_mo_check, zl_up lg_mo_check, zl_up li_mo_check)
def fn_mo_check : List zm_V → zm_M → Option (Int32 × zm_M) := zm_fv zt_Y 11 0 (fun av M => zm_rn zt_Y lx_mo_check zr_i cd_mo_check 1073741824 0 (zm_lo av 6) [] M)
def lf_mo_map : List (Nat × (Nat × Nat)) := [(263, (11, 7)), (41, (11, 17))]
def lc_mo_map : List (Nat × Int32) := []
def lg_mo_map : List (Nat × (Nat × Nat)) := []
def li_mo_map : List (Nat × zm_F) := [(194, (3, .inl fn_mo_in))]
def lx_mo_map : zm_X := (zl_up lf_mo_map, zl_up lc_mo_map, zl_up lg_mo_map, zl_up li_mo_map)
def fn_mo_map : List zm_V → zm_M → Option (Int32 × zm_M) := zm_fv zt_Y 11 1 (fun av M => zm_rn zt_Y lx_mo_map zr_i cd_mo_map 1 0 (zm_lo av 2) [] M)
def lf_mo_patch : List (Nat × (Nat × Nat)) := [(263, (11, 7)), (41, (11, 17))]
def lc_mo_patch : List (Nat × Int32) := []
def lg_mo_patch : List (Nat × (Nat × Nat)) := []
def li_mo_patch : List (Nat × zm_F) := [(194, (3, .inl fn_mo_in))]
def lx_mo_patch : zm_X := (zl_up lf_mo_patch, zl_up lc_mo_patch, zl_up lg_mo_patch, zl_up li_mo_patch)
def fn_mo_patch : List zm_V → zm_M → Option (Int32 × zm_M) := zm_fv zt_Y 11 2 (fun av M => zm_rn zt_Y lx_mo_patch zr_z cd_mo_patch 1 0 (zm_lo av 3) [] M)
def lf_mo_cut : List (Nat × (Nat × Nat)) := [(263, (11, 7))]
def lc_mo_cut : List (Nat × Int32) := []
def lg_mo_cut : List (Nat × (Nat × Nat)) := []
def li_mo_cut : List (Nat × zm_F) := [(194, (3, .inl fn_mo_in))]
def lx_mo_cut : zm_X := (zl_up lf_mo_cut, zl_up lc_mo_cut, zl_up lg_mo_cut, zl_up li_mo_cut)
def fn_mo_cut : List zm_V → zm_M → Option (Int32 × zm_M) := zm_fv zt_Y 11 1 (fun av M => zm_rn zt_Y lx_mo_cut zr_i cd_mo_cut 1 0 (zm_lo av 3) [] M)
def lf_mo_row : List (Nat × (Nat × Nat)) := [(290, (11, 34)), (74, (11, 32)), (71, (11, 31)), (77, (11, 33)), (65, (11, 29)), (68, (11, 30))]
def lc_mo_row : List (Nat × Int32) := []
def lg_mo_row : List (Nat × (Nat × Nat)) := []
def li_mo_row : List (Nat × zm_F) := [(194, (3, .inl fn_mo_in)), (617, (1, .inl fn_mo_readRows))]
def lx_mo_row : zm_X := (zl_up lf_mo_row, zl_up lc_mo_row, zl_up lg_mo_row, zl_up li_mo_row)
def fn_mo_row : List zm_V → zm_M → Option (Int32 × zm_M) := zm_fv zt_Y 11 2 (fun av M => zm_rn zt_Y lx_mo_row zr_i cd_mo_row 1 0 (zm_lo av 4) [] M)
def lf_mo_code : List (Nat × (Nat × Nat)) := [(115, (11, 5)), (20, (11, 10)), (23, (11, 11)), (26, (11, 12))]
def lc_mo_code : List (Nat × Int32) := []
def lg_mo_code : List (Nat × (Nat × Nat)) := []
def li_mo_code : List (Nat × zm_F) := [(194, (3, .inl fn_mo_in)), (377, (2, .inl fn_mo_offset))]
def lx_mo_code : zm_X := (zl_up lf_mo_code, zl_up lc_mo_code, zl_up lg_mo_code, zl_up li_mo_code)
def fn_mo_code : List zm_V → zm_M → Option (Int32 × zm_M) := zm_fv zt_Y 11 2 (fun av M => zm_rn zt_Y lx_mo_code zr_i cd_mo_code 1 0 (zm_lo av 3) [] M)
def lf_mo_count : List (Nat × (Nat × Nat)) := [(290, (11, 34)), (115, (11, 5)), (118, (11, 6)), (112, (11, 4))]
def lc_mo_count : List (Nat × Int32) := []
def lg_mo_count : List (Nat × (Nat × Nat)) := []
def li_mo_count : List (Nat × zm_F) := [(617, (1, .inl fn_mo_readRows)), (377, (2, .inl fn_mo_offset))]
def lx_mo_count : zm_X := (zl_up lf_mo_count, zl_up lc_mo_count, zl_up lg_mo_count, zl_up li_mo_count)
def fn_mo_count : List zm_V → zm_M → Option (Int32 × zm_M) := zm_fv zt_Y 11 1 (fun av M => zm_rn zt_Y lx_mo_count zr_i cd_mo_count 1 0 (zm_lo av 3) [] M)
end
section
/-- the machine with cuts: a way on to a cut goes to kt, a way back to bk -/
def zm_ic : List Nat → Nat → Bool
  | [], _ => false
  | a :: l, n => match Nat.beq a n with
    | true => true
    | false => zm_ic l n
def zm_gc {T : Type} (Y : zm_Y) (X : zm_X) (ret : Option zm_V → zm_M → Option T) (cuts : List Nat) (kt bk : Nat → zm_L → List zm_V → zm_M → Option T) : zm_C → Nat → zm_L → List zm_V → zm_M → Option T
  | [], _, _, _, _ => none
  | (q, ins, nx, ts) :: code, pc, lo, st, M => match Nat.beq q pc with
    | true => zm_ex Y X ret (fun pc' lo st M => match Nat.ble pc' q with
      | true => bk pc' lo st M
      | false => match zm_ic cuts pc' with
        | true => kt pc' lo st M
        | false => zm_gc Y X ret cuts kt bk code pc' lo st M) nx ts lo st M ins
    | false => zm_gc Y X ret cuts kt bk code pc lo st M
theorem zm_go_sk {T : Type} {Y : zm_Y} {X : zm_X} {ret : Option zm_V → zm_M → Option T} {back : Nat → zm_L → List zm_V → zm_M → Option T} {suf : zm_C} {pc : Nat} {lo : zm_L} {st : List zm_V} {M : zm_M} : ∀ (pre : zm_C), (∀ e ∈ pre, e.1 ≠ pc) → zm_go Y X ret back (pre ++ suf) pc lo st M = zm_go Y X ret back suf pc lo st M
  | [], _ => rfl
  | (q, ins, nx, ts) :: pre, h => by
    have h1 : Nat.beq q pc = false := by
      cases hb : Nat.beq q pc with
      | false => rfl
      | true => exact absurd (Nat.eq_of_beq_eq_true hb) (h _ List.mem_cons_self)
    have ih := zm_go_sk (Y := Y) (X := X) (ret := ret) (back := back) (suf := suf) (lo := lo) (st := st) (M := M) pre (fun e he => h e (List.mem_cons_of_mem _ he))
    rw [List.cons_append, zm_go, h1]
    exact ih
theorem zm_gc_go {T : Type} {Y : zm_Y} {X : zm_X} {ret : Option zm_V → zm_M → Option T} {cuts : List Nat} {full : zm_C} {n : Nat} (hs : full.Pairwise (fun a b => a.1 < b.1)) : ∀ (code pre : zm_C), full = pre ++ code → ∀ pc lo st M, zm_gc Y X ret cuts (zm_rn Y X ret full (n + 1)) (zm_rn Y X ret full n) code pc lo st M = zm_go Y X ret (zm_rn Y X ret full n) code pc lo st M
  | [], _, _, _, _, _, _ => rfl
  | (q, ins, nx, ts) :: code, pre, hf, pc, lo, st, M => by
    have hf2 : full = (pre ++ [(q, ins, nx, ts)]) ++ code := by rw [hf, List.append_assoc]; rfl
    have ih := zm_gc_go (Y := Y) (X := X) (ret := ret) (cuts := cuts) (n := n) hs code (pre ++ [(q, ins, nx, ts)]) hf2
    rw [zm_gc, zm_go]
    cases hq : Nat.beq q pc with
    | false => exact ih _ _ _ _
    | true =>
      have hK : (fun (pc' : Nat) (lo : zm_L) (st : List zm_V) (M : zm_M) => match Nat.ble pc' q with
          | true => zm_rn Y X ret full n pc' lo st M
          | false => match zm_ic cuts pc' with
            | true => zm_rn Y X ret full (n + 1) pc' lo st M
            | false => zm_gc Y X ret cuts (zm_rn Y X ret full (n + 1)) (zm_rn Y X ret full n) code pc' lo st M) = (fun pc' lo st M => match Nat.ble pc' q with
          | true => zm_rn Y X ret full n pc' lo st M
          | false => zm_go Y X ret (zm_rn Y X ret full n) code pc' lo st M) := by
        funext pc' lo' st' M'
        cases hb : Nat.ble pc' q with
        | true => rfl
        | false =>
          cases hc : zm_ic cuts pc' with
          | false => exact ih _ _ _ _
          | true =>
            show zm_go Y X ret (zm_rn Y X ret full n) full pc' lo' st' M' = zm_go Y X ret (zm_rn Y X ret full n) code pc' lo' st' M'
            have hlt : q < pc' := Nat.lt_of_not_le fun h => by rw [Nat.ble_eq_true_of_le h] at hb; cases hb
            have e := zm_go_sk (Y := Y) (X := X) (ret := ret) (back := zm_rn Y X ret full n) (suf := code) (pc := pc') (lo := lo') (st := st') (M := M') (pre ++ [(q, ins, nx, ts)]) (fun e he => by
              rcases List.mem_append.mp he with h1 | h1
              · have h2 : e.1 < q := by
                  rw [hf] at hs
                  exact (List.pairwise_append.mp hs).2.2 e h1 (q, ins, nx, ts) List.mem_cons_self
                omega
              · rw [List.mem_singleton] at h1
                subst h1
                exact Nat.ne_of_lt hlt)
            rw [← hf2] at e
            exact e
      exact congrArg (fun K => zm_ex Y X ret K nx ts lo st M ins) hK
theorem zm_gc_ok {T : Type} {Y : zm_Y} {X : zm_X} {ret : Option zm_V → zm_M → Option T} {cuts : List Nat} {full : zm_C} {n : Nat} (pre code : zm_C) (hf : full = pre ++ code) (hs : full.Pairwise (fun a b => a.1 < b.1)) {pc : Nat} (hp : ∀ e ∈ pre, e.1 ≠ pc) {lo : zm_L} {st : List zm_V} {M : zm_M} : zm_gc Y X ret cuts (zm_rn Y X ret full (n + 1)) (zm_rn Y X ret full n) code pc lo st M = zm_rn Y X ret full (n + 1) pc lo st M := by
  rw [zm_gc_go hs code pre hf]
  have e := zm_go_sk (Y := Y) (X := X) (ret := ret) (back := zm_rn Y X ret full n) (suf := code) (pc := pc) (lo := lo) (st := st) (M := M) pre hp
  rw [← hf] at e
  exact e.symm
theorem zb_0 {α : Type} {A : Option α} : (if (0 : Int32) = 0 ∨ (0 : Int32) = 1 then A else none) = A := rfl
theorem zb_1 {α : Type} {A : Option α} : (if (1 : Int32) = 0 ∨ (1 : Int32) = 1 then A else none) = A := rfl
theorem kz_B10 : (Int8.ofInt 10).toInt32 = (10 : Int32) := by decide
theorem kz_B127 : (Int8.ofInt 127).toInt32 = (127 : Int32) := by decide
theorem kz_B13 : (Int8.ofInt 13).toInt32 = (13 : Int32) := by decide
theorem kz_B15 : (Int8.ofInt 15).toInt32 = (15 : Int32) := by decide
theorem kz_B16 : (Int8.ofInt 16).toInt32 = (16 : Int32) := by decide
theorem kz_B17 : (Int8.ofInt 17).toInt32 = (17 : Int32) := by decide
theorem kz_B18 : (Int8.ofInt 18).toInt32 = (18 : Int32) := by decide
theorem kz_B20 : (Int8.ofInt 20).toInt32 = (20 : Int32) := by decide
theorem kz_B21 : (Int8.ofInt 21).toInt32 = (21 : Int32) := by decide
theorem kz_B22 : (Int8.ofInt 22).toInt32 = (22 : Int32) := by decide
theorem kz_B24 : (Int8.ofInt 24).toInt32 = (24 : Int32) := by decide
theorem kz_B25 : (Int8.ofInt 25).toInt32 = (25 : Int32) := by decide
theorem kz_B26 : (Int8.ofInt 26).toInt32 = (26 : Int32) := by decide
theorem kz_B27 : (Int8.ofInt 27).toInt32 = (27 : Int32) := by decide
theorem kz_B29 : (Int8.ofInt 29).toInt32 = (29 : Int32) := by decide
theorem kz_B30 : (Int8.ofInt 30).toInt32 = (30 : Int32) := by decide
theorem kz_B31 : (Int8.ofInt 31).toInt32 = (31 : Int32) := by decide
theorem kz_B32 : (Int8.ofInt 32).toInt32 = (32 : Int32) := by decide
theorem kz_B34 : (Int8.ofInt 34).toInt32 = (34 : Int32) := by decide
theorem kz_B35 : (Int8.ofInt 35).toInt32 = (35 : Int32) := by decide
theorem kz_B36 : (Int8.ofInt 36).toInt32 = (36 : Int32) := by decide
theorem kz_B37 : (Int8.ofInt 37).toInt32 = (37 : Int32) := by decide
theorem kz_B38 : (Int8.ofInt 38).toInt32 = (38 : Int32) := by decide
theorem kz_B39 : (Int8.ofInt 39).toInt32 = (39 : Int32) := by decide
theorem kz_B49 : (Int8.ofInt 49).toInt32 = (49 : Int32) := by decide
theorem kz_B50 : (Int8.ofInt 50).toInt32 = (50 : Int32) := by decide
theorem kz_B6 : (Int8.ofInt 6).toInt32 = (6 : Int32) := by decide
theorem kz_B64 : (Int8.ofInt 64).toInt32 = (64 : Int32) := by decide
theorem kz_B7 : (Int8.ofInt 7).toInt32 = (7 : Int32) := by decide
theorem kz_B8 : (Int8.ofInt 8).toInt32 = (8 : Int32) := by decide
theorem kz_B9 : (Int8.ofInt 9).toInt32 = (9 : Int32) := by decide
theorem kz_Bm2 : (Int8.ofInt (-2)).toInt32 = (-2 : Int32) := by decide
theorem kz_Bm3 : (Int8.ofInt (-3)).toInt32 = (-3 : Int32) := by decide
theorem kz_Bm4 : (Int8.ofInt (-4)).toInt32 = (-4 : Int32) := by decide
theorem kz_Bm5 : (Int8.ofInt (-5)).toInt32 = (-5 : Int32) := by decide
theorem kz_I0 : (Int32.ofInt 0) = (0 : Int32) := by decide
theorem kz_I1 : (Int32.ofInt 1) = (1 : Int32) := by decide
theorem kz_I2 : (Int32.ofInt 2) = (2 : Int32) := by decide
theorem kz_I3 : (Int32.ofInt 3) = (3 : Int32) := by decide
theorem kz_I4 : (Int32.ofInt 4) = (4 : Int32) := by decide
theorem kz_I5 : (Int32.ofInt 5) = (5 : Int32) := by decide
theorem kz_Im1 : (Int32.ofInt (-1)) = (-1 : Int32) := by decide
theorem kz_S128 : (Int16.ofInt 128).toInt32 = (128 : Int32) := by decide
theorem kz_S246 : (Int16.ofInt 246).toInt32 = (246 : Int32) := by decide
theorem kz_S247 : (Int16.ofInt 247).toInt32 = (247 : Int32) := by decide
theorem kz_S248 : (Int16.ofInt 248).toInt32 = (248 : Int32) := by decide
theorem kz_S250 : (Int16.ofInt 250).toInt32 = (250 : Int32) := by decide
theorem kz_S251 : (Int16.ofInt 251).toInt32 = (251 : Int32) := by decide
theorem kz_S255 : (Int16.ofInt 255).toInt32 = (255 : Int32) := by decide
theorem kz_S256 : (Int16.ofInt 256).toInt32 = (256 : Int32) := by decide
theorem kz_S400 : (Int16.ofInt 400).toInt32 = (400 : Int32) := by decide
theorem kz_T0_0 : (Int32.ofInt 0) = (0 : Int32) := by decide
theorem kz_T0_1 : (Int32.ofInt (0 + 1)) = (1 : Int32) := by decide
theorem kz_T0_10 : (Int32.ofInt ((((((((((0 + 1) + 1) + 1) + 1) + 1) + 1) + 1) + 1) + 1) + 1)) = (10 : Int32) := by decide
theorem kz_T0_11 : (Int32.ofInt (((((((((((0 + 1) + 1) + 1) + 1) + 1) + 1) + 1) + 1) + 1) + 1) + 1)) = (11 : Int32) := by decide
theorem kz_T0_12 : (Int32.ofInt ((((((((((((0 + 1) + 1) + 1) + 1) + 1) + 1) + 1) + 1) + 1) + 1) + 1) + 1)) = (12 : Int32) := by decide
theorem kz_T0_13 : (Int32.ofInt (((((((((((((0 + 1) + 1) + 1) + 1) + 1) + 1) + 1) + 1) + 1) + 1) + 1) + 1) + 1)) = (13 : Int32) := by decide
theorem kz_T0_14 : (Int32.ofInt ((((((((((((((0 + 1) + 1) + 1) + 1) + 1) + 1) + 1) + 1) + 1) + 1) + 1) + 1) + 1) + 1)) = (14 : Int32) := by decide
theorem kz_T0_15 : (Int32.ofInt (((((((((((((((0 + 1) + 1) + 1) + 1) + 1) + 1) + 1) + 1) + 1) + 1) + 1) + 1) + 1) + 1) + 1)) = (15 : Int32) := by decide
theorem kz_T0_16 : (Int32.ofInt ((((((((((((((((0 + 1) + 1) + 1) + 1) + 1) + 1) + 1) + 1) + 1) + 1) + 1) + 1) + 1) + 1) + 1) + 1)) = (16 : Int32) := by decide
theorem kz_T0_17 : (Int32.ofInt (((((((((((((((((0 + 1) + 1) + 1) + 1) + 1) + 1) + 1) + 1) + 1) + 1) + 1) + 1) + 1) + 1) + 1) + 1) + 1)) = (17 : Int32) := by decide
theorem kz_T0_18 : (Int32.ofInt ((((((((((((((((((0 + 1) + 1) + 1) + 1) + 1) + 1) + 1) + 1) + 1) + 1) + 1) + 1) + 1) + 1) + 1) + 1) + 1) + 1)) = (18 : Int32) := by decide
theorem kz_T0_19 : (Int32.ofInt (((((((((((((((((((0 + 1) + 1) + 1) + 1) + 1) + 1) + 1) + 1) + 1) + 1) + 1) + 1) + 1) + 1) + 1) + 1) + 1) + 1) + 1)) = (19 : Int32) := by decide
theorem kz_T0_2 : (Int32.ofInt ((0 + 1) + 1)) = (2 : Int32) := by decide
theorem kz_T0_3 : (Int32.ofInt (((0 + 1) + 1) + 1)) = (3 : Int32) := by decide
theorem kz_T0_4 : (Int32.ofInt ((((0 + 1) + 1) + 1) + 1)) = (4 : Int32) := by decide
theorem kz_T0_5 : (Int32.ofInt (((((0 + 1) + 1) + 1) + 1) + 1)) = (5 : Int32) := by decide
theorem kz_T0_6 : (Int32.ofInt ((((((0 + 1) + 1) + 1) + 1) + 1) + 1)) = (6 : Int32) := by decide
theorem kz_T0_7 : (Int32.ofInt (((((((0 + 1) + 1) + 1) + 1) + 1) + 1) + 1)) = (7 : Int32) := by decide
theorem kz_T0_8 : (Int32.ofInt ((((((((0 + 1) + 1) + 1) + 1) + 1) + 1) + 1) + 1)) = (8 : Int32) := by decide
theorem kz_T0_9 : (Int32.ofInt (((((((((0 + 1) + 1) + 1) + 1) + 1) + 1) + 1) + 1) + 1)) = (9 : Int32) := by decide
theorem kz_T14_0 : (Int32.ofInt 14) = (14 : Int32) := by decide
theorem kz_T14_1 : (Int32.ofInt (14 + 1)) = (15 : Int32) := by decide
theorem kz_T14_2 : (Int32.ofInt ((14 + 1) + 1)) = (16 : Int32) := by decide
theorem kz_T14_3 : (Int32.ofInt (((14 + 1) + 1) + 1)) = (17 : Int32) := by decide
theorem kz_T14_4 : (Int32.ofInt ((((14 + 1) + 1) + 1) + 1)) = (18 : Int32) := by decide
theorem kz_T14_5 : (Int32.ofInt (((((14 + 1) + 1) + 1) + 1) + 1)) = (19 : Int32) := by decide
theorem kz_T31_0 : (Int32.ofInt 31) = (31 : Int32) := by decide
theorem kz_T31_1 : (Int32.ofInt (31 + 1)) = (32 : Int32) := by decide
theorem kz_T31_2 : (Int32.ofInt ((31 + 1) + 1)) = (33 : Int32) := by decide
theorem kz_T31_3 : (Int32.ofInt (((31 + 1) + 1) + 1)) = (34 : Int32) := by decide
theorem kz_T31_4 : (Int32.ofInt ((((31 + 1) + 1) + 1) + 1)) = (35 : Int32) := by decide
theorem kz_T31_5 : (Int32.ofInt (((((31 + 1) + 1) + 1) + 1) + 1)) = (36 : Int32) := by decide
end
section
def rr_fa_describe (n pc : Nat) (lo : zm_L) (st : List zm_V) (M : zm_M) : Option zm_M := zm_rn zt_Y lx_fa_describe zr_v cd_fa_describe n pc lo st M
set_option maxRecDepth 20000 in
theorem eq_fa_describe (x1 : Int32) (x2 : Int32) (x3 : Int32) (M : zm_M) : fn_fa_describe [.inr (1, 0), .inl x1, .inl x2, .inl x3] M = rr_fa_describe 1073741824 0 [some (.inr (1, 0)), some (.inl x1), some (.inl x2), some (.inl x3), none] [] M := rfl
set_option maxRecDepth 20000 in
theorem so_fa_describe : cd_fa_describe.Pairwise (fun a b => a.1 < b.1) := by decide +kernel
set_option maxRecDepth 20000 in
theorem er_fa_describe_0 (kt bk : Nat → zm_L → List zm_V → zm_M → Option zm_M) (x1 : Int32) (x2 : Int32) (x3 : Int32) (M : zm_M) : zm_gc zt_Y lx_fa_describe zr_v [17] kt bk (cd_fa_describe.drop 0) 0 [some (.inr (1, 0)), some (.inl x1), some (.inl x2), some (.inl x3), none] [] M = (if x1 < 0 ∨ 8 ≤ x1.toNatClampNeg then none else if x1 < 0 ∨ 8 ≤ x1.toNatClampNeg then none else kt 17 [some (.inr (1, 0)), some (.inl x1), some (.inl x2), some (.inl x3), some (.inl x1)] [] (zm_up (zm_up M 2 0 x1.toNatClampNeg x2) 3 0 x1.toNatClampNeg (x3 &&& 1))) := rfl
set_option maxRecDepth 20000 in
theorem eq_fa_describe_0 (n : Nat) (x1 : Int32) (x2 : Int32) (x3 : Int32) (M : zm_M) : rr_fa_describe (n + 1) 0 [some (.inr (1, 0)), some (.inl x1), some (.inl x2), some (.inl x3), none] [] M = (if x1 < 0 ∨ 8 ≤ x1.toNatClampNeg then none else if x1 < 0 ∨ 8 ≤ x1.toNatClampNeg then none else rr_fa_describe (n + 1) 17 [some (.inr (1, 0)), some (.inl x1), some (.inl x2), some (.inl x3), some (.inl x1)] [] (zm_up (zm_up M 2 0 x1.toNatClampNeg x2) 3 0 x1.toNatClampNeg (x3 &&& 1))) := (zm_gc_ok (cd_fa_describe.take 0) (cd_fa_describe.drop 0) (List.take_append_drop 0 cd_fa_describe).symm so_fa_describe (by decide +kernel)).symm.trans (er_fa_describe_0 (rr_fa_describe (n + 1)) (rr_fa_describe n) x1 x2 x3 M)
set_option maxRecDepth 20000 in
theorem er_fa_describe_17 (kt bk : Nat → zm_L → List zm_V → zm_M → Option zm_M) (v1 : Int32) (v2 : Int32) (v3 : Int32) (v4 : Int32) (M : zm_M) : zm_gc zt_Y lx_fa_describe zr_v [17] kt bk (cd_fa_describe.drop 12) 17 [some (.inr (1, 0)), some (.inl v1), some (.inl v2), some (.inl v3), some (.inl v4)] [] M = (if v4 < ((Int8.ofInt 8).toInt32) then if v4 < 0 ∨ 8 ≤ v4.toNatClampNeg then none else if (M 2 0 v4.toNatClampNeg) < 0 ∨ 8 ≤ (M 2 0 v4.toNatClampNeg).toNatClampNeg then none else if v4 < 0 ∨ 8 ≤ v4.toNatClampNeg then none else bk 17 [some (.inr (1, 0)), some (.inl v1), some (.inl v2), some (.inl v3), some (.inl (v4 + (Int32.ofInt 1)))] [] (zm_up M 4 0 v4.toNatClampNeg ((M 4 0 ((M 2 0 v4.toNatClampNeg).toNatClampNeg)) ||| ((Int32.ofInt 1) <<< (v4 &&& 31)))) else some M) := rfl
set_option maxRecDepth 20000 in
theorem eq_fa_describe_17 (n : Nat) (v1 : Int32) (v2 : Int32) (v3 : Int32) (v4 : Int32) (M : zm_M) : rr_fa_describe (n + 1) 17 [some (.inr (1, 0)), some (.inl v1), some (.inl v2), some (.inl v3), some (.inl v4)] [] M = (if v4 < (8 : Int32) then if v4 < 0 ∨ 8 ≤ v4.toNatClampNeg then none else if (M 2 0 v4.toNatClampNeg) < 0 ∨ 8 ≤ (M 2 0 v4.toNatClampNeg).toNatClampNeg then none else if v4 < 0 ∨ 8 ≤ v4.toNatClampNeg then none else rr_fa_describe n 17 [some (.inr (1, 0)), some (.inl v1), some (.inl v2), some (.inl v3), some (.inl (v4 + (1 : Int32)))] [] (zm_up M 4 0 v4.toNatClampNeg ((M 4 0 ((M 2 0 v4.toNatClampNeg).toNatClampNeg)) ||| ((1 : Int32) <<< (v4 &&& 31)))) else some M) := by
  have h := (zm_gc_ok (cd_fa_describe.take 12) (cd_fa_describe.drop 12) (List.take_append_drop 12 cd_fa_describe).symm so_fa_describe (by decide +kernel)).symm.trans (er_fa_describe_17 (rr_fa_describe (n + 1)) (rr_fa_describe n) v1 v2 v3 v4 M)
  simp only [kz_B8, kz_I1] at h
  exact h
def rr_mf_forgetFindings (n pc : Nat) (lo : zm_L) (st : List zm_V) (M : zm_M) : Option zm_M := zm_rn zt_Y lx_mf_forgetFindings zr_v cd_mf_forgetFindings n pc lo st M
set_option maxRecDepth 20000 in
theorem er_mf_forgetFindings  (M : zm_M) : fn_mf_forgetFindings [.inr (0, 0)] M = ((if (Int32.ofInt 0) = 0 ∨ (Int32.ofInt 0) = 1 then (if (Int32.ofInt 0) = 0 ∨ (Int32.ofInt 0) = 1 then some (zm_up (zm_up M 18 0 8 (Int32.ofInt 0)) 29 0 9 (Int32.ofInt 0)) else none) else none)) := rfl
set_option maxRecDepth 20000 in
theorem eq_mf_forgetFindings  (M : zm_M) : fn_mf_forgetFindings [.inr (0, 0)] M = ((some (zm_up (zm_up M 18 0 8 (0 : Int32)) 29 0 9 (0 : Int32)))) := by
  rw [er_mf_forgetFindings]
  simp only [kz_I0, true_or, or_true, ↓reduceIte]
def rr_mf_type (n pc : Nat) (lo : zm_L) (st : List zm_V) (M : zm_M) : Option (Int32 × zm_M) := zm_rn zt_Y lx_mf_type zr_z cd_mf_type n pc lo st M
set_option maxRecDepth 20000 in
theorem er_mf_type (x1 : Int32) (x2 : Int32) (x3 : Int32) (M : zm_M) : fn_mf_type [.inr (0, 0), .inl x1, .inl x2, .inl x3] M = (if x1 < (Int32.ofInt 1) then (if (Int32.ofInt 0) = 0 ∨ (Int32.ofInt 0) = 1 then some ((Int32.ofInt 0), M) else none) else if x1 < ((Int8.ofInt 8).toInt32) then if x2 < 0 then (if (Int32.ofInt 0) = 0 ∨ (Int32.ofInt 0) = 1 then some ((Int32.ofInt 0), M) else none) else if x2 < x1 then (fn_fa_describe [.inr (1, 0), .inl x1, .inl x2, .inl x3] M).bind fun q1 => (fn_mf_forgetFindings [.inr (0, 0)] q1).bind fun q2 => (if (Int32.ofInt 1) = 0 ∨ (Int32.ofInt 1) = 1 then some ((Int32.ofInt 1), q2) else none) else (if (Int32.ofInt 0) = 0 ∨ (Int32.ofInt 0) = 1 then some ((Int32.ofInt 0), M) else none) else (if (Int32.ofInt 0) = 0 ∨ (Int32.ofInt 0) = 1 then some ((Int32.ofInt 0), M) else none)) := rfl
set_option maxRecDepth 20000 in
theorem eq_mf_type (x1 : Int32) (x2 : Int32) (x3 : Int32) (M : zm_M) : fn_mf_type [.inr (0, 0), .inl x1, .inl x2, .inl x3] M = (if x1 < (1 : Int32) then (some ((0 : Int32), M)) else if x1 < (8 : Int32) then if x2 < 0 then (some ((0 : Int32), M)) else if x2 < x1 then (fn_fa_describe [.inr (1, 0), .inl x1, .inl x2, .inl x3] M).bind fun q1 => (fn_mf_forgetFindings [.inr (0, 0)] q1).bind fun q2 => (some ((1 : Int32), q2)) else (some ((0 : Int32), M)) else (some ((0 : Int32), M))) := by
  rw [er_mf_type]
  simp only [kz_I1, kz_I0, kz_B8, true_or, or_true, ↓reduceIte]
def rr_mf_isClass (n pc : Nat) (lo : zm_L) (st : List zm_V) (M : zm_M) : Option (Int32 × zm_M) := zm_rn zt_Y lx_mf_isClass zr_z cd_mf_isClass n pc lo st M
set_option maxRecDepth 20000 in
theorem er_mf_isClass (x0 : Int32) (M : zm_M) : fn_mf_isClass [.inl x0] M = (if x0 < 0 then (if (Int32.ofInt 0) = 0 ∨ (Int32.ofInt 0) = 1 then some ((Int32.ofInt 0), M) else none) else if x0 < ((Int8.ofInt 8).toInt32) then (if (Int32.ofInt 1) = 0 ∨ (Int32.ofInt 1) = 1 then some ((Int32.ofInt 1), M) else none) else (if (Int32.ofInt 0) = 0 ∨ (Int32.ofInt 0) = 1 then some ((Int32.ofInt 0), M) else none)) := rfl
set_option maxRecDepth 20000 in
theorem eq_mf_isClass (x0 : Int32) (M : zm_M) : fn_mf_isClass [.inl x0] M = (if x0 < 0 then (some ((0 : Int32), M)) else if x0 < (8 : Int32) then (some ((1 : Int32), M)) else (some ((0 : Int32), M))) := by
  rw [er_mf_isClass]
  simp only [kz_I0, kz_B8, kz_I1, true_or, or_true, ↓reduceIte]
def rr_pr_begin (n pc : Nat) (lo : zm_L) (st : List zm_V) (M : zm_M) : Option zm_M := zm_rn zt_Y lx_pr_begin zr_v cd_pr_begin n pc lo st M
set_option maxRecDepth 20000 in
theorem er_pr_begin (x1 : Int32) (x2 : Int32) (x3 : Int32) (M : zm_M) : fn_pr_begin [.inr (5, 0), .inl x1, .inl x2, .inl x3] M = (if x3 = 0 then (if (Int32.ofInt 0) = 0 ∨ (Int32.ofInt 0) = 1 then some (zm_up (zm_up (zm_up (zm_up (zm_up (zm_up M 5 0 0 x1) 5 0 1 x2) 5 0 2 (Int32.ofInt 0)) 5 0 4 (Int32.ofInt 0)) 5 0 9 (Int32.ofInt 0)) 5 0 14 (Int32.ofInt 0)) else none) else if x2 = (Int32.ofInt 2) then (if (Int32.ofInt 0) = 0 ∨ (Int32.ofInt 0) = 1 then some (zm_up (zm_up (zm_up (zm_up (zm_up (zm_up M 5 0 0 x1) 5 0 1 x2) 5 0 2 (Int32.ofInt 0)) 5 0 4 (Int32.ofInt 0)) 5 0 9 (Int32.ofInt 0)) 5 0 14 (Int32.ofInt 0)) else none) else (if (Int32.ofInt 1) = 0 ∨ (Int32.ofInt 1) = 1 then some (zm_up (zm_up (zm_up (zm_up (zm_up (zm_up M 5 0 0 x1) 5 0 1 x2) 5 0 2 (Int32.ofInt 1)) 5 0 4 (Int32.ofInt 0)) 5 0 9 (Int32.ofInt 0)) 5 0 14 (Int32.ofInt 0)) else none)) := rfl
set_option maxRecDepth 20000 in
theorem eq_pr_begin (x1 : Int32) (x2 : Int32) (x3 : Int32) (M : zm_M) : fn_pr_begin [.inr (5, 0), .inl x1, .inl x2, .inl x3] M = (if x3 = 0 then (some (zm_up (zm_up (zm_up (zm_up (zm_up (zm_up M 5 0 0 x1) 5 0 1 x2) 5 0 2 (0 : Int32)) 5 0 4 (0 : Int32)) 5 0 9 (0 : Int32)) 5 0 14 (0 : Int32))) else if x2 = (2 : Int32) then (some (zm_up (zm_up (zm_up (zm_up (zm_up (zm_up M 5 0 0 x1) 5 0 1 x2) 5 0 2 (0 : Int32)) 5 0 4 (0 : Int32)) 5 0 9 (0 : Int32)) 5 0 14 (0 : Int32))) else (some (zm_up (zm_up (zm_up (zm_up (zm_up (zm_up M 5 0 0 x1) 5 0 1 x2) 5 0 2 (1 : Int32)) 5 0 4 (0 : Int32)) 5 0 9 (0 : Int32)) 5 0 14 (0 : Int32)))) := by
  rw [er_pr_begin]
  simp only [kz_I0, kz_I2, kz_I1, true_or, or_true, ↓reduceIte]
def rr_mf_method (n pc : Nat) (lo : zm_L) (st : List zm_V) (M : zm_M) : Option (Int32 × zm_M) := zm_rn zt_Y lx_mf_method zr_z cd_mf_method n pc lo st M
set_option maxRecDepth 20000 in
theorem er_mf_method (x1 : Int32) (x2 : Int32) (x3 : Int32) (M : zm_M) : fn_mf_method [.inr (0, 0), .inl x1, .inl x2, .inl x3] M = ((fn_mf_isClass [.inl x1] M).bind fun q1 => if q1.1 = 0 then (if (Int32.ofInt 0) = 0 ∨ (Int32.ofInt 0) = 1 then some ((Int32.ofInt 0), q1.2) else none) else if x2 < 0 then (if (Int32.ofInt 0) = 0 ∨ (Int32.ofInt 0) = 1 then some ((Int32.ofInt 0), q1.2) else none) else if (Int32.ofInt 2) < x2 then (if (Int32.ofInt 0) = 0 ∨ (Int32.ofInt 0) = 1 then some ((Int32.ofInt 0), q1.2) else none) else (fn_pr_begin [.inr (5, 0), .inl x1, .inl x2, .inl x3] q1.2).bind fun q2 => (fn_mf_forgetFindings [.inr (0, 0)] q2).bind fun q3 => (if (Int32.ofInt 1) = 0 ∨ (Int32.ofInt 1) = 1 then some ((Int32.ofInt 1), q3) else none)) := rfl
set_option maxRecDepth 20000 in
theorem eq_mf_method (x1 : Int32) (x2 : Int32) (x3 : Int32) (M : zm_M) : fn_mf_method [.inr (0, 0), .inl x1, .inl x2, .inl x3] M = ((fn_mf_isClass [.inl x1] M).bind fun q1 => if q1.1 = 0 then (some ((0 : Int32), q1.2)) else if x2 < 0 then (some ((0 : Int32), q1.2)) else if (2 : Int32) < x2 then (some ((0 : Int32), q1.2)) else (fn_pr_begin [.inr (5, 0), .inl x1, .inl x2, .inl x3] q1.2).bind fun q2 => (fn_mf_forgetFindings [.inr (0, 0)] q2).bind fun q3 => (some ((1 : Int32), q3))) := by
  rw [er_mf_method]
  simp only [kz_I0, kz_I2, kz_I1, true_or, or_true, ↓reduceIte]
def rr_mf_kindOf (n pc : Nat) (lo : zm_L) (st : List zm_V) (M : zm_M) : Option (Int32 × zm_M) := zm_rn zt_Y lx_mf_kindOf zr_i cd_mf_kindOf n pc lo st M
set_option maxRecDepth 20000 in
theorem er_mf_kindOf (x0 : Int32) (M : zm_M) : fn_mf_kindOf [.inl x0] M = (some (x0 &&& ((Int8.ofInt 15).toInt32), M)) := rfl
set_option maxRecDepth 20000 in
theorem eq_mf_kindOf (x0 : Int32) (M : zm_M) : fn_mf_kindOf [.inl x0] M = (some (x0 &&& (15 : Int32), M)) := by
  rw [er_mf_kindOf]
  simp only [kz_B15]
def rr_mf_partOf (n pc : Nat) (lo : zm_L) (st : List zm_V) (M : zm_M) : Option (Int32 × zm_M) := zm_rn zt_Y lx_mf_partOf zr_i cd_mf_partOf n pc lo st M
set_option maxRecDepth 20000 in
theorem er_mf_partOf (x0 : Int32) (M : zm_M) : fn_mf_partOf [.inl x0] M = (some (x0 >>> ((Int32.ofInt 4) &&& 31), M)) := rfl
set_option maxRecDepth 20000 in
theorem eq_mf_partOf (x0 : Int32) (M : zm_M) : fn_mf_partOf [.inl x0] M = (some (x0 >>> ((4 : Int32) &&& 31), M)) := by
  rw [er_mf_partOf]
  simp only [kz_I4]
def rr_mf_argument (n pc : Nat) (lo : zm_L) (st : List zm_V) (M : zm_M) : Option (Int32 × zm_M) := zm_rn zt_Y lx_mf_argument zr_i cd_mf_argument n pc lo st M
set_option maxRecDepth 20000 in
theorem eq_mf_argument (x1 : Int32) (M : zm_M) : fn_mf_argument [.inr (0, 0), .inl x1] M = rr_mf_argument 1 0 [some (.inr (0, 0)), some (.inl x1), none, none] [] M := rfl
set_option maxRecDepth 20000 in
theorem so_mf_argument : cd_mf_argument.Pairwise (fun a b => a.1 < b.1) := by decide +kernel
set_option maxRecDepth 20000 in
theorem er_mf_argument_0 (kt bk : Nat → zm_L → List zm_V → zm_M → Option (Int32 × zm_M)) (x1 : Int32) (M : zm_M) : zm_gc zt_Y lx_mf_argument zr_i [14, 15, 43, 44, 55] kt bk (cd_mf_argument.drop 0) 0 [some (.inr (0, 0)), some (.inl x1), none, none] [] M = (if x1 < (Int32.ofInt 1) then kt 14 [some (.inr (0, 0)), some (.inl x1), none, none] [] M else if (Int32.ofInt 4) < x1 then kt 14 [some (.inr (0, 0)), some (.inl x1), none, none] [] M else kt 15 [some (.inr (0, 0)), some (.inl x1), none, none] [.inl (Int32.ofInt 1)] M) := rfl
set_option maxRecDepth 20000 in
theorem eq_mf_argument_0 (n : Nat) (x1 : Int32) (M : zm_M) : rr_mf_argument (n + 1) 0 [some (.inr (0, 0)), some (.inl x1), none, none] [] M = (if x1 < (1 : Int32) then rr_mf_argument (n + 1) 14 [some (.inr (0, 0)), some (.inl x1), none, none] [] M else if (4 : Int32) < x1 then rr_mf_argument (n + 1) 14 [some (.inr (0, 0)), some (.inl x1), none, none] [] M else rr_mf_argument (n + 1) 15 [some (.inr (0, 0)), some (.inl x1), none, none] [.inl (1 : Int32)] M) := by
  have h := (zm_gc_ok (cd_mf_argument.take 0) (cd_mf_argument.drop 0) (List.take_append_drop 0 cd_mf_argument).symm so_mf_argument (by decide +kernel)).symm.trans (er_mf_argument_0 (rr_mf_argument (n + 1)) (rr_mf_argument n) x1 M)
  simp only [kz_I1, kz_I4] at h
  exact h
set_option maxRecDepth 20000 in
theorem er_mf_argument_14 (kt bk : Nat → zm_L → List zm_V → zm_M → Option (Int32 × zm_M)) (v1 : Int32) (o2 : Option zm_V) (o3 : Option zm_V) (M : zm_M) : zm_gc zt_Y lx_mf_argument zr_i [14, 15, 43, 44, 55] kt bk (cd_mf_argument.drop 8) 14 [some (.inr (0, 0)), some (.inl v1), o2, o3] [] M = (kt 15 [some (.inr (0, 0)), some (.inl v1), o2, o3] [.inl (Int32.ofInt 0)] M) := rfl
set_option maxRecDepth 20000 in
theorem eq_mf_argument_14 (n : Nat) (v1 : Int32) (o2 : Option zm_V) (o3 : Option zm_V) (M : zm_M) : rr_mf_argument (n + 1) 14 [some (.inr (0, 0)), some (.inl v1), o2, o3] [] M = (rr_mf_argument (n + 1) 15 [some (.inr (0, 0)), some (.inl v1), o2, o3] [.inl (0 : Int32)] M) := by
  have h := (zm_gc_ok (cd_mf_argument.take 8) (cd_mf_argument.drop 8) (List.take_append_drop 8 cd_mf_argument).symm so_mf_argument (by decide +kernel)).symm.trans (er_mf_argument_14 (rr_mf_argument (n + 1)) (rr_mf_argument n) v1 o2 o3 M)
  simp only [kz_I0] at h
  exact h
set_option maxRecDepth 20000 in
theorem er_mf_argument_15 (kt bk : Nat → zm_L → List zm_V → zm_M → Option (Int32 × zm_M)) (v1 : Int32) (o2 : Option zm_V) (o3 : Option zm_V) (s0 : Int32) (M : zm_M) : zm_gc zt_Y lx_mf_argument zr_i [14, 15, 43, 44, 55] kt bk (cd_mf_argument.drop 9) 15 [some (.inr (0, 0)), some (.inl v1), o2, o3] [.inl s0] M = (if v1 < 0 then kt 43 [some (.inr (0, 0)), some (.inl v1), some (.inl s0), o3] [] M else (fn_mf_kindOf [.inl v1] M).bind fun q1 => if q1.1 = ((Int8.ofInt 7).toInt32) then (fn_mf_partOf [.inl v1] q1.2).bind fun q2 => (fn_mf_isClass [.inl q2.1] q2.2).bind fun q3 => if q3.1 = 0 then kt 43 [some (.inr (0, 0)), some (.inl v1), some (.inl s0), o3] [] q3.2 else kt 44 [some (.inr (0, 0)), some (.inl v1), some (.inl s0), o3] [.inl (Int32.ofInt 1)] q3.2 else kt 43 [some (.inr (0, 0)), some (.inl v1), some (.inl s0), o3] [] q1.2) := rfl
set_option maxRecDepth 20000 in
theorem eq_mf_argument_15 (n : Nat) (v1 : Int32) (o2 : Option zm_V) (o3 : Option zm_V) (s0 : Int32) (M : zm_M) : rr_mf_argument (n + 1) 15 [some (.inr (0, 0)), some (.inl v1), o2, o3] [.inl s0] M = (if v1 < 0 then rr_mf_argument (n + 1) 43 [some (.inr (0, 0)), some (.inl v1), some (.inl s0), o3] [] M else (fn_mf_kindOf [.inl v1] M).bind fun q1 => if q1.1 = (7 : Int32) then (fn_mf_partOf [.inl v1] q1.2).bind fun q2 => (fn_mf_isClass [.inl q2.1] q2.2).bind fun q3 => if q3.1 = 0 then rr_mf_argument (n + 1) 43 [some (.inr (0, 0)), some (.inl v1), some (.inl s0), o3] [] q3.2 else rr_mf_argument (n + 1) 44 [some (.inr (0, 0)), some (.inl v1), some (.inl s0), o3] [.inl (1 : Int32)] q3.2 else rr_mf_argument (n + 1) 43 [some (.inr (0, 0)), some (.inl v1), some (.inl s0), o3] [] q1.2) := by
  have h := (zm_gc_ok (cd_mf_argument.take 9) (cd_mf_argument.drop 9) (List.take_append_drop 9 cd_mf_argument).symm so_mf_argument (by decide +kernel)).symm.trans (er_mf_argument_15 (rr_mf_argument (n + 1)) (rr_mf_argument n) v1 o2 o3 s0 M)
  simp only [kz_B7, kz_I1] at h
  exact h
set_option maxRecDepth 20000 in
theorem er_mf_argument_43 (kt bk : Nat → zm_L → List zm_V → zm_M → Option (Int32 × zm_M)) (v1 : Int32) (v2 : Int32) (o3 : Option zm_V) (M : zm_M) : zm_gc zt_Y lx_mf_argument zr_i [14, 15, 43, 44, 55] kt bk (cd_mf_argument.drop 22) 43 [some (.inr (0, 0)), some (.inl v1), some (.inl v2), o3] [] M = (kt 44 [some (.inr (0, 0)), some (.inl v1), some (.inl v2), o3] [.inl (Int32.ofInt 0)] M) := rfl
set_option maxRecDepth 20000 in
theorem eq_mf_argument_43 (n : Nat) (v1 : Int32) (v2 : Int32) (o3 : Option zm_V) (M : zm_M) : rr_mf_argument (n + 1) 43 [some (.inr (0, 0)), some (.inl v1), some (.inl v2), o3] [] M = (rr_mf_argument (n + 1) 44 [some (.inr (0, 0)), some (.inl v1), some (.inl v2), o3] [.inl (0 : Int32)] M) := by
  have h := (zm_gc_ok (cd_mf_argument.take 22) (cd_mf_argument.drop 22) (List.take_append_drop 22 cd_mf_argument).symm so_mf_argument (by decide +kernel)).symm.trans (er_mf_argument_43 (rr_mf_argument (n + 1)) (rr_mf_argument n) v1 v2 o3 M)
  simp only [kz_I0] at h
  exact h
set_option maxRecDepth 20000 in
theorem er_mf_argument_44 (kt bk : Nat → zm_L → List zm_V → zm_M → Option (Int32 × zm_M)) (v1 : Int32) (v2 : Int32) (o3 : Option zm_V) (s0 : Int32) (M : zm_M) : zm_gc zt_Y lx_mf_argument zr_i [14, 15, 43, 44, 55] kt bk (cd_mf_argument.drop 23) 44 [some (.inr (0, 0)), some (.inl v1), some (.inl v2), o3] [.inl s0] M = (if v2 = 0 then if s0 = 0 then some ((Int32.ofInt (-1)), M) else kt 55 [some (.inr (0, 0)), some (.inl v1), some (.inl v2), some (.inl s0)] [] M else kt 55 [some (.inr (0, 0)), some (.inl v1), some (.inl v2), some (.inl s0)] [] M) := rfl
set_option maxRecDepth 20000 in
theorem eq_mf_argument_44 (n : Nat) (v1 : Int32) (v2 : Int32) (o3 : Option zm_V) (s0 : Int32) (M : zm_M) : rr_mf_argument (n + 1) 44 [some (.inr (0, 0)), some (.inl v1), some (.inl v2), o3] [.inl s0] M = (if v2 = 0 then if s0 = 0 then some ((-1 : Int32), M) else rr_mf_argument (n + 1) 55 [some (.inr (0, 0)), some (.inl v1), some (.inl v2), some (.inl s0)] [] M else rr_mf_argument (n + 1) 55 [some (.inr (0, 0)), some (.inl v1), some (.inl v2), some (.inl s0)] [] M) := by
  have h := (zm_gc_ok (cd_mf_argument.take 23) (cd_mf_argument.drop 23) (List.take_append_drop 23 cd_mf_argument).symm so_mf_argument (by decide +kernel)).symm.trans (er_mf_argument_44 (rr_mf_argument (n + 1)) (rr_mf_argument n) v1 v2 o3 s0 M)
  simp only [kz_Im1] at h
  exact h
set_option maxRecDepth 20000 in
theorem er_mf_argument_55 (kt bk : Nat → zm_L → List zm_V → zm_M → Option (Int32 × zm_M)) (v1 : Int32) (v2 : Int32) (v3 : Int32) (M : zm_M) : zm_gc zt_Y lx_mf_argument zr_i [14, 15, 43, 44, 55] kt bk (cd_mf_argument.drop 30) 55 [some (.inr (0, 0)), some (.inl v1), some (.inl v2), some (.inl v3)] [] M = (if (M 5 0 4) = (Int32.ofInt 4) then some (((Int8.ofInt (-3)).toInt32), M) else if (M 5 0 4) < 0 ∨ 4 ≤ (M 5 0 4).toNatClampNeg then none else (fn_mf_forgetFindings [.inr (0, 0)] (zm_up (zm_up M 6 0 ((M 5 0 4).toNatClampNeg) v1) 5 0 4 ((M 5 0 4) + (Int32.ofInt 1)))).bind fun q1 => some (q1 5 0 4, q1)) := rfl
set_option maxRecDepth 20000 in
theorem eq_mf_argument_55 (n : Nat) (v1 : Int32) (v2 : Int32) (v3 : Int32) (M : zm_M) : rr_mf_argument (n + 1) 55 [some (.inr (0, 0)), some (.inl v1), some (.inl v2), some (.inl v3)] [] M = (if (M 5 0 4) = (4 : Int32) then some ((-3 : Int32), M) else if (M 5 0 4) < 0 ∨ 4 ≤ (M 5 0 4).toNatClampNeg then none else (fn_mf_forgetFindings [.inr (0, 0)] (zm_up (zm_up M 6 0 ((M 5 0 4).toNatClampNeg) v1) 5 0 4 ((M 5 0 4) + (1 : Int32)))).bind fun q1 => some (q1 5 0 4, q1)) := by
  have h := (zm_gc_ok (cd_mf_argument.take 30) (cd_mf_argument.drop 30) (List.take_append_drop 30 cd_mf_argument).symm so_mf_argument (by decide +kernel)).symm.trans (er_mf_argument_55 (rr_mf_argument (n + 1)) (rr_mf_argument n) v1 v2 v3 M)
  simp only [kz_I4, kz_Bm3, kz_I1] at h
  exact h
def rr_mf_hasLocal (n pc : Nat) (lo : zm_L) (st : List zm_V) (M : zm_M) : Option (Int32 × zm_M) := zm_rn zt_Y lx_mf_hasLocal zr_z cd_mf_hasLocal n pc lo st M
set_option maxRecDepth 20000 in
theorem er_mf_hasLocal (x0 : Int32) (M : zm_M) : fn_mf_hasLocal [.inl x0] M = (if x0 < ((Int8.ofInt 21).toInt32) then (if (Int32.ofInt 0) = 0 ∨ (Int32.ofInt 0) = 1 then some ((Int32.ofInt 0), M) else none) else if ((Int8.ofInt 30).toInt32) < x0 then (if (Int32.ofInt 0) = 0 ∨ (Int32.ofInt 0) = 1 then some ((Int32.ofInt 0), M) else none) else (if (Int32.ofInt 1) = 0 ∨ (Int32.ofInt 1) = 1 then some ((Int32.ofInt 1), M) else none)) := rfl
set_option maxRecDepth 20000 in
theorem eq_mf_hasLocal (x0 : Int32) (M : zm_M) : fn_mf_hasLocal [.inl x0] M = (if x0 < (21 : Int32) then (some ((0 : Int32), M)) else if (30 : Int32) < x0 then (some ((0 : Int32), M)) else (some ((1 : Int32), M))) := by
  rw [er_mf_hasLocal]
  simp only [kz_B21, kz_I0, kz_B30, kz_I1, true_or, or_true, ↓reduceIte]
def rr_mf_localKindOf (n pc : Nat) (lo : zm_L) (st : List zm_V) (M : zm_M) : Option (Int32 × zm_M) := zm_rn zt_Y lx_mf_localKindOf zr_i cd_mf_localKindOf n pc lo st M
set_option maxRecDepth 20000 in
theorem er_mf_localKindOf (x0 : Int32) (M : zm_M) : fn_mf_localKindOf [.inl x0] M = (if ((Int8.ofInt 25).toInt32) < x0 then if (x0 - ((Int8.ofInt 26).toInt32)) < 0 ∨ 5 ≤ (x0 - ((Int8.ofInt 26).toInt32)).toNatClampNeg then none else some (zn_at ly_t ((x0 - ((Int8.ofInt 26).toInt32)).toNatClampNeg) 0, M) else if (x0 - ((Int8.ofInt 21).toInt32)) < 0 ∨ 5 ≤ (x0 - ((Int8.ofInt 21).toInt32)).toNatClampNeg then none else some (zn_at ly_t ((x0 - ((Int8.ofInt 21).toInt32)).toNatClampNeg) 0, M)) := rfl
set_option maxRecDepth 20000 in
theorem eq_mf_localKindOf (x0 : Int32) (M : zm_M) : fn_mf_localKindOf [.inl x0] M = (if (25 : Int32) < x0 then if (x0 - (26 : Int32)) < 0 ∨ 5 ≤ (x0 - (26 : Int32)).toNatClampNeg then none else some (zn_at ly_t ((x0 - (26 : Int32)).toNatClampNeg) 0, M) else if (x0 - (21 : Int32)) < 0 ∨ 5 ≤ (x0 - (21 : Int32)).toNatClampNeg then none else some (zn_at ly_t ((x0 - (21 : Int32)).toNatClampNeg) 0, M)) := by
  rw [er_mf_localKindOf]
  simp only [kz_B25, kz_B26, kz_B21]
def rr_mf_widthOf (n pc : Nat) (lo : zm_L) (st : List zm_V) (M : zm_M) : Option (Int32 × zm_M) := zm_rn zt_Y lx_mf_widthOf zr_i cd_mf_widthOf n pc lo st M
set_option maxRecDepth 20000 in
theorem er_mf_widthOf (x0 : Int32) (M : zm_M) : fn_mf_widthOf [.inl x0] M = (if x0 = (Int32.ofInt 3) then some ((Int32.ofInt 2), M) else if x0 = (Int32.ofInt 4) then some ((Int32.ofInt 2), M) else some ((Int32.ofInt 1), M)) := rfl
set_option maxRecDepth 20000 in
theorem eq_mf_widthOf (x0 : Int32) (M : zm_M) : fn_mf_widthOf [.inl x0] M = (if x0 = (3 : Int32) then some ((2 : Int32), M) else if x0 = (4 : Int32) then some ((2 : Int32), M) else some ((1 : Int32), M)) := by
  rw [er_mf_widthOf]
  simp only [kz_I3, kz_I2, kz_I4, kz_I1]
def rr_mf_isJump (n pc : Nat) (lo : zm_L) (st : List zm_V) (M : zm_M) : Option (Int32 × zm_M) := zm_rn zt_Y lx_mf_isJump zr_z cd_mf_isJump n pc lo st M
set_option maxRecDepth 20000 in
theorem er_mf_isJump (x0 : Int32) (M : zm_M) : fn_mf_isJump [.inl x0] M = (if x0 < ((Int8.ofInt 31).toInt32) then (if (Int32.ofInt 0) = 0 ∨ (Int32.ofInt 0) = 1 then some ((Int32.ofInt 0), M) else none) else if ((Int8.ofInt 34).toInt32) < x0 then (if (Int32.ofInt 0) = 0 ∨ (Int32.ofInt 0) = 1 then some ((Int32.ofInt 0), M) else none) else (if (Int32.ofInt 1) = 0 ∨ (Int32.ofInt 1) = 1 then some ((Int32.ofInt 1), M) else none)) := rfl
set_option maxRecDepth 20000 in
theorem eq_mf_isJump (x0 : Int32) (M : zm_M) : fn_mf_isJump [.inl x0] M = (if x0 < (31 : Int32) then (some ((0 : Int32), M)) else if (34 : Int32) < x0 then (some ((0 : Int32), M)) else (some ((1 : Int32), M))) := by
  rw [er_mf_isJump]
  simp only [kz_B31, kz_I0, kz_B34, kz_I1, true_or, or_true, ↓reduceIte]
def rr_mf_isPlace (n pc : Nat) (lo : zm_L) (st : List zm_V) (M : zm_M) : Option (Int32 × zm_M) := zm_rn zt_Y lx_mf_isPlace zr_z cd_mf_isPlace n pc lo st M
set_option maxRecDepth 20000 in
theorem er_mf_isPlace (x0 : Int32) (M : zm_M) : fn_mf_isPlace [.inl x0] M = (if x0 < 0 then (if (Int32.ofInt 0) = 0 ∨ (Int32.ofInt 0) = 1 then some ((Int32.ofInt 0), M) else none) else if x0 < ((Int8.ofInt 50).toInt32) then (if (Int32.ofInt 1) = 0 ∨ (Int32.ofInt 1) = 1 then some ((Int32.ofInt 1), M) else none) else (if (Int32.ofInt 0) = 0 ∨ (Int32.ofInt 0) = 1 then some ((Int32.ofInt 0), M) else none)) := rfl
set_option maxRecDepth 20000 in
theorem eq_mf_isPlace (x0 : Int32) (M : zm_M) : fn_mf_isPlace [.inl x0] M = (if x0 < 0 then (some ((0 : Int32), M)) else if x0 < (50 : Int32) then (some ((1 : Int32), M)) else (some ((0 : Int32), M))) := by
  rw [er_mf_isPlace]
  simp only [kz_I0, kz_B50, kz_I1, true_or, or_true, ↓reduceIte]
def rr_mf_isInstruction (n pc : Nat) (lo : zm_L) (st : List zm_V) (M : zm_M) : Option (Int32 × zm_M) := zm_rn zt_Y lx_mf_isInstruction zr_z cd_mf_isInstruction n pc lo st M
set_option maxRecDepth 20000 in
theorem er_mf_isInstruction (x0 : Int32) (x1 : Int32) (x2 : Int32) (M : zm_M) : fn_mf_isInstruction [.inl x0, .inl x1, .inl x2] M = (if x0 < 0 then (if (Int32.ofInt 0) = 0 ∨ (Int32.ofInt 0) = 1 then some ((Int32.ofInt 0), M) else none) else if ((Int8.ofInt 39).toInt32) < x0 then (if (Int32.ofInt 0) = 0 ∨ (Int32.ofInt 0) = 1 then some ((Int32.ofInt 0), M) else none) else (fn_mf_hasLocal [.inl x0] M).bind fun q1 => if q1.1 = 0 then (fn_mf_isJump [.inl x0] q1.2).bind fun q2 => if q2.1 = 0 then if x0 < ((Int8.ofInt 35).toInt32) then (if (Int32.ofInt 1) = 0 ∨ (Int32.ofInt 1) = 1 then some ((Int32.ofInt 1), q2.2) else none) else (fn_mf_isClass [.inl x1] q2.2).bind fun q3 => if q3.1 = 0 then (if (Int32.ofInt 0) = 0 ∨ (Int32.ofInt 0) = 1 then some ((Int32.ofInt 0), q3.2) else none) else if x0 = ((Int8.ofInt 38).toInt32) then (fn_mf_isClass [.inl x2] q3.2).bind fun q4 => if q4.1 = 0 then (if (Int32.ofInt 0) = 0 ∨ (Int32.ofInt 0) = 1 then some ((Int32.ofInt 0), q4.2) else none) else (if (Int32.ofInt 1) = 0 ∨ (Int32.ofInt 1) = 1 then some ((Int32.ofInt 1), q4.2) else none) else (if (Int32.ofInt 1) = 0 ∨ (Int32.ofInt 1) = 1 then some ((Int32.ofInt 1), q3.2) else none) else (fn_mf_isPlace [.inl x2] q2.2).bind fun q5 => if q5.1 = 0 ∨ q5.1 = 1 then some (q5.1, q5.2) else none else if x1 < 0 then (if (Int32.ofInt 0) = 0 ∨ (Int32.ofInt 0) = 1 then some ((Int32.ofInt 0), q1.2) else none) else (fn_mf_localKindOf [.inl x0] q1.2).bind fun q6 => (fn_mf_widthOf [.inl q6.1] q6.2).bind fun q7 => if (((Int8.ofInt 10).toInt32) - q7.1) < x1 then (if (Int32.ofInt 0) = 0 ∨ (Int32.ofInt 0) = 1 then some ((Int32.ofInt 0), q7.2) else none) else (if (Int32.ofInt 1) = 0 ∨ (Int32.ofInt 1) = 1 then some ((Int32.ofInt 1), q7.2) else none)) := rfl
set_option maxRecDepth 20000 in
theorem eq_mf_isInstruction (x0 : Int32) (x1 : Int32) (x2 : Int32) (M : zm_M) : fn_mf_isInstruction [.inl x0, .inl x1, .inl x2] M = (if x0 < 0 then (some ((0 : Int32), M)) else if (39 : Int32) < x0 then (some ((0 : Int32), M)) else (fn_mf_hasLocal [.inl x0] M).bind fun q1 => if q1.1 = 0 then (fn_mf_isJump [.inl x0] q1.2).bind fun q2 => if q2.1 = 0 then if x0 < (35 : Int32) then (some ((1 : Int32), q2.2)) else (fn_mf_isClass [.inl x1] q2.2).bind fun q3 => if q3.1 = 0 then (some ((0 : Int32), q3.2)) else if x0 = (38 : Int32) then (fn_mf_isClass [.inl x2] q3.2).bind fun q4 => if q4.1 = 0 then (some ((0 : Int32), q4.2)) else (some ((1 : Int32), q4.2)) else (some ((1 : Int32), q3.2)) else (fn_mf_isPlace [.inl x2] q2.2).bind fun q5 => if q5.1 = 0 ∨ q5.1 = 1 then some (q5.1, q5.2) else none else if x1 < 0 then (some ((0 : Int32), q1.2)) else (fn_mf_localKindOf [.inl x0] q1.2).bind fun q6 => (fn_mf_widthOf [.inl q6.1] q6.2).bind fun q7 => if ((10 : Int32) - q7.1) < x1 then (some ((0 : Int32), q7.2)) else (some ((1 : Int32), q7.2))) := by
  rw [er_mf_isInstruction]
  simp only [kz_I0, kz_B39, kz_B35, kz_I1, kz_B38, kz_B10, true_or, or_true, ↓reduceIte]
def rr_mf_lengthOf (n pc : Nat) (lo : zm_L) (st : List zm_V) (M : zm_M) : Option (Int32 × zm_M) := zm_rn zt_Y lx_mf_lengthOf zr_i cd_mf_lengthOf n pc lo st M
set_option maxRecDepth 20000 in
theorem er_mf_lengthOf (x0 : Int32) (M : zm_M) : fn_mf_lengthOf [.inl x0] M = (if ((Int8.ofInt 20).toInt32) < x0 then if ((Int8.ofInt 30).toInt32) < x0 then some ((Int32.ofInt 3), M) else some ((Int32.ofInt 2), M) else some ((Int32.ofInt 1), M)) := rfl
set_option maxRecDepth 20000 in
theorem eq_mf_lengthOf (x0 : Int32) (M : zm_M) : fn_mf_lengthOf [.inl x0] M = (if (20 : Int32) < x0 then if (30 : Int32) < x0 then some ((3 : Int32), M) else some ((2 : Int32), M) else some ((1 : Int32), M)) := by
  rw [er_mf_lengthOf]
  simp only [kz_B20, kz_B30, kz_I3, kz_I2, kz_I1]
def rr_pr_write (n pc : Nat) (lo : zm_L) (st : List zm_V) (M : zm_M) : Option zm_M := zm_rn zt_Y lx_pr_write zr_v cd_pr_write n pc lo st M
set_option maxRecDepth 20000 in
theorem eq_pr_write (x1 : Int32) (x2 : Int32) (x3 : Int32) (x4 : Int32) (M : zm_M) : fn_pr_write [.inr (5, 0), .inl x1, .inl x2, .inl x3, .inl x4] M = rr_pr_write 1073741824 0 [some (.inr (5, 0)), some (.inl x1), some (.inl x2), some (.inl x3), some (.inl x4), none] [] M := rfl
set_option maxRecDepth 20000 in
theorem so_pr_write : cd_pr_write.Pairwise (fun a b => a.1 < b.1) := by decide +kernel
set_option maxRecDepth 20000 in
theorem er_pr_write_0 (kt bk : Nat → zm_L → List zm_V → zm_M → Option zm_M) (x1 : Int32) (x2 : Int32) (x3 : Int32) (x4 : Int32) (M : zm_M) : zm_gc zt_Y lx_pr_write zr_v [59] kt bk (cd_pr_write.drop 0) 0 [some (.inr (5, 0)), some (.inl x1), some (.inl x2), some (.inl x3), some (.inl x4), none] [] M = (if x1 < 0 ∨ 50 ≤ x1.toNatClampNeg then none else (fn_mf_hasLocal [.inl x2] (zm_up M 7 0 x1.toNatClampNeg x2)).bind fun q1 => if q1.1 = 0 then if x2 < ((Int8.ofInt 35).toInt32) then if x1 < 0 ∨ 50 ≤ x1.toNatClampNeg then none else (fn_mf_isJump [.inl x2] (zm_up q1.2 8 0 x1.toNatClampNeg (Int32.ofInt 0))).bind fun q3 => if q3.1 = 0 then if x2 = ((Int8.ofInt 38).toInt32) then if x1 < 0 ∨ 50 ≤ x1.toNatClampNeg then none else kt 59 [some (.inr (5, 0)), some (.inl x1), some (.inl x2), some (.inl x3), some (.inl x4), some (.inl x1)] [] (zm_up q3.2 9 0 x1.toNatClampNeg x4) else if x1 < 0 ∨ 50 ≤ x1.toNatClampNeg then none else kt 59 [some (.inr (5, 0)), some (.inl x1), some (.inl x2), some (.inl x3), some (.inl x4), some (.inl x1)] [] (zm_up q3.2 9 0 x1.toNatClampNeg (Int32.ofInt 0)) else if x1 < 0 ∨ 50 ≤ x1.toNatClampNeg then none else kt 59 [some (.inr (5, 0)), some (.inl x1), some (.inl x2), some (.inl x3), some (.inl x4), some (.inl x1)] [] (zm_up q3.2 9 0 x1.toNatClampNeg x4) else if x1 < 0 ∨ 50 ≤ x1.toNatClampNeg then none else (fn_mf_isJump [.inl x2] (zm_up q1.2 8 0 x1.toNatClampNeg x3)).bind fun q4 => if q4.1 = 0 then if x2 = ((Int8.ofInt 38).toInt32) then if x1 < 0 ∨ 50 ≤ x1.toNatClampNeg then none else kt 59 [some (.inr (5, 0)), some (.inl x1), some (.inl x2), some (.inl x3), some (.inl x4), some (.inl x1)] [] (zm_up q4.2 9 0 x1.toNatClampNeg x4) else if x1 < 0 ∨ 50 ≤ x1.toNatClampNeg then none else kt 59 [some (.inr (5, 0)), some (.inl x1), some (.inl x2), some (.inl x3), some (.inl x4), some (.inl x1)] [] (zm_up q4.2 9 0 x1.toNatClampNeg (Int32.ofInt 0)) else if x1 < 0 ∨ 50 ≤ x1.toNatClampNeg then none else kt 59 [some (.inr (5, 0)), some (.inl x1), some (.inl x2), some (.inl x3), some (.inl x4), some (.inl x1)] [] (zm_up q4.2 9 0 x1.toNatClampNeg x4) else if x1 < 0 ∨ 50 ≤ x1.toNatClampNeg then none else (fn_mf_isJump [.inl x2] (zm_up q1.2 8 0 x1.toNatClampNeg x3)).bind fun q2 => if q2.1 = 0 then if x2 = ((Int8.ofInt 38).toInt32) then if x1 < 0 ∨ 50 ≤ x1.toNatClampNeg then none else kt 59 [some (.inr (5, 0)), some (.inl x1), some (.inl x2), some (.inl x3), some (.inl x4), some (.inl x1)] [] (zm_up q2.2 9 0 x1.toNatClampNeg x4) else if x1 < 0 ∨ 50 ≤ x1.toNatClampNeg then none else kt 59 [some (.inr (5, 0)), some (.inl x1), some (.inl x2), some (.inl x3), some (.inl x4), some (.inl x1)] [] (zm_up q2.2 9 0 x1.toNatClampNeg (Int32.ofInt 0)) else if x1 < 0 ∨ 50 ≤ x1.toNatClampNeg then none else kt 59 [some (.inr (5, 0)), some (.inl x1), some (.inl x2), some (.inl x3), some (.inl x4), some (.inl x1)] [] (zm_up q2.2 9 0 x1.toNatClampNeg x4)) := rfl
set_option maxRecDepth 20000 in
theorem eq_pr_write_0 (n : Nat) (x1 : Int32) (x2 : Int32) (x3 : Int32) (x4 : Int32) (M : zm_M) : rr_pr_write (n + 1) 0 [some (.inr (5, 0)), some (.inl x1), some (.inl x2), some (.inl x3), some (.inl x4), none] [] M = (if x1 < 0 ∨ 50 ≤ x1.toNatClampNeg then none else (fn_mf_hasLocal [.inl x2] (zm_up M 7 0 x1.toNatClampNeg x2)).bind fun q1 => if q1.1 = 0 then if x2 < (35 : Int32) then if x1 < 0 ∨ 50 ≤ x1.toNatClampNeg then none else (fn_mf_isJump [.inl x2] (zm_up q1.2 8 0 x1.toNatClampNeg (0 : Int32))).bind fun q3 => if q3.1 = 0 then if x2 = (38 : Int32) then if x1 < 0 ∨ 50 ≤ x1.toNatClampNeg then none else rr_pr_write (n + 1) 59 [some (.inr (5, 0)), some (.inl x1), some (.inl x2), some (.inl x3), some (.inl x4), some (.inl x1)] [] (zm_up q3.2 9 0 x1.toNatClampNeg x4) else if x1 < 0 ∨ 50 ≤ x1.toNatClampNeg then none else rr_pr_write (n + 1) 59 [some (.inr (5, 0)), some (.inl x1), some (.inl x2), some (.inl x3), some (.inl x4), some (.inl x1)] [] (zm_up q3.2 9 0 x1.toNatClampNeg (0 : Int32)) else if x1 < 0 ∨ 50 ≤ x1.toNatClampNeg then none else rr_pr_write (n + 1) 59 [some (.inr (5, 0)), some (.inl x1), some (.inl x2), some (.inl x3), some (.inl x4), some (.inl x1)] [] (zm_up q3.2 9 0 x1.toNatClampNeg x4) else if x1 < 0 ∨ 50 ≤ x1.toNatClampNeg then none else (fn_mf_isJump [.inl x2] (zm_up q1.2 8 0 x1.toNatClampNeg x3)).bind fun q4 => if q4.1 = 0 then if x2 = (38 : Int32) then if x1 < 0 ∨ 50 ≤ x1.toNatClampNeg then none else rr_pr_write (n + 1) 59 [some (.inr (5, 0)), some (.inl x1), some (.inl x2), some (.inl x3), some (.inl x4), some (.inl x1)] [] (zm_up q4.2 9 0 x1.toNatClampNeg x4) else if x1 < 0 ∨ 50 ≤ x1.toNatClampNeg then none else rr_pr_write (n + 1) 59 [some (.inr (5, 0)), some (.inl x1), some (.inl x2), some (.inl x3), some (.inl x4), some (.inl x1)] [] (zm_up q4.2 9 0 x1.toNatClampNeg (0 : Int32)) else if x1 < 0 ∨ 50 ≤ x1.toNatClampNeg then none else rr_pr_write (n + 1) 59 [some (.inr (5, 0)), some (.inl x1), some (.inl x2), some (.inl x3), some (.inl x4), some (.inl x1)] [] (zm_up q4.2 9 0 x1.toNatClampNeg x4) else if x1 < 0 ∨ 50 ≤ x1.toNatClampNeg then none else (fn_mf_isJump [.inl x2] (zm_up q1.2 8 0 x1.toNatClampNeg x3)).bind fun q2 => if q2.1 = 0 then if x2 = (38 : Int32) then if x1 < 0 ∨ 50 ≤ x1.toNatClampNeg then none else rr_pr_write (n + 1) 59 [some (.inr (5, 0)), some (.inl x1), some (.inl x2), some (.inl x3), some (.inl x4), some (.inl x1)] [] (zm_up q2.2 9 0 x1.toNatClampNeg x4) else if x1 < 0 ∨ 50 ≤ x1.toNatClampNeg then none else rr_pr_write (n + 1) 59 [some (.inr (5, 0)), some (.inl x1), some (.inl x2), some (.inl x3), some (.inl x4), some (.inl x1)] [] (zm_up q2.2 9 0 x1.toNatClampNeg (0 : Int32)) else if x1 < 0 ∨ 50 ≤ x1.toNatClampNeg then none else rr_pr_write (n + 1) 59 [some (.inr (5, 0)), some (.inl x1), some (.inl x2), some (.inl x3), some (.inl x4), some (.inl x1)] [] (zm_up q2.2 9 0 x1.toNatClampNeg x4)) := by
  have h := (zm_gc_ok (cd_pr_write.take 0) (cd_pr_write.drop 0) (List.take_append_drop 0 cd_pr_write).symm so_pr_write (by decide +kernel)).symm.trans (er_pr_write_0 (rr_pr_write (n + 1)) (rr_pr_write n) x1 x2 x3 x4 M)
  simp only [kz_B35, kz_I0, kz_B38] at h
  exact h
set_option maxRecDepth 20000 in
theorem er_pr_write_59 (kt bk : Nat → zm_L → List zm_V → zm_M → Option zm_M) (v1 : Int32) (v2 : Int32) (v3 : Int32) (v4 : Int32) (v5 : Int32) (M : zm_M) : zm_gc zt_Y lx_pr_write zr_v [59] kt bk (cd_pr_write.drop 33) 59 [some (.inr (5, 0)), some (.inl v1), some (.inl v2), some (.inl v3), some (.inl v4), some (.inl v5)] [] M = (if v5 < (M 5 0 9) then if v5 < 0 ∨ 51 ≤ v5.toNatClampNeg then none else if v5 < 0 ∨ 50 ≤ v5.toNatClampNeg then none else (fn_mf_lengthOf [.inl (M 7 0 v5.toNatClampNeg)] M).bind fun q1 => if (v5 + (Int32.ofInt 1)) < 0 ∨ 51 ≤ (v5 + (Int32.ofInt 1)).toNatClampNeg then none else bk 59 [some (.inr (5, 0)), some (.inl v1), some (.inl v2), some (.inl v3), some (.inl v4), some (.inl (v5 + (Int32.ofInt 1)))] [] (zm_up q1.2 10 0 ((v5 + (Int32.ofInt 1)).toNatClampNeg) ((M 10 0 v5.toNatClampNeg) + q1.1)) else some M) := rfl
set_option maxRecDepth 20000 in
theorem eq_pr_write_59 (n : Nat) (v1 : Int32) (v2 : Int32) (v3 : Int32) (v4 : Int32) (v5 : Int32) (M : zm_M) : rr_pr_write (n + 1) 59 [some (.inr (5, 0)), some (.inl v1), some (.inl v2), some (.inl v3), some (.inl v4), some (.inl v5)] [] M = (if v5 < (M 5 0 9) then if v5 < 0 ∨ 51 ≤ v5.toNatClampNeg then none else if v5 < 0 ∨ 50 ≤ v5.toNatClampNeg then none else (fn_mf_lengthOf [.inl (M 7 0 v5.toNatClampNeg)] M).bind fun q1 => if (v5 + (1 : Int32)) < 0 ∨ 51 ≤ (v5 + (1 : Int32)).toNatClampNeg then none else rr_pr_write n 59 [some (.inr (5, 0)), some (.inl v1), some (.inl v2), some (.inl v3), some (.inl v4), some (.inl (v5 + (1 : Int32)))] [] (zm_up q1.2 10 0 ((v5 + (1 : Int32)).toNatClampNeg) ((M 10 0 v5.toNatClampNeg) + q1.1)) else some M) := by
  have h := (zm_gc_ok (cd_pr_write.take 33) (cd_pr_write.drop 33) (List.take_append_drop 33 cd_pr_write).symm so_pr_write (by decide +kernel)).symm.trans (er_pr_write_59 (rr_pr_write (n + 1)) (rr_pr_write n) v1 v2 v3 v4 v5 M)
  simp only [kz_I1] at h
  exact h
def rr_mf_add (n pc : Nat) (lo : zm_L) (st : List zm_V) (M : zm_M) : Option (Int32 × zm_M) := zm_rn zt_Y lx_mf_add zr_i cd_mf_add n pc lo st M
set_option maxRecDepth 20000 in
theorem er_mf_add (x1 : Int32) (x2 : Int32) (x3 : Int32) (M : zm_M) : fn_mf_add [.inr (0, 0), .inl x1, .inl x2, .inl x3] M = ((fn_mf_isInstruction [.inl x1, .inl x2, .inl x3] M).bind fun q1 => if q1.1 = 0 then some ((Int32.ofInt (-1)), q1.2) else if (q1.2 5 0 9) = ((Int8.ofInt 50).toInt32) then some (((Int8.ofInt (-3)).toInt32), q1.2) else (fn_pr_write [.inr (5, 0), .inl (((q1.2 5 0 9) + (Int32.ofInt 1)) - (Int32.ofInt 1)), .inl x1, .inl x2, .inl x3] (zm_up q1.2 5 0 9 ((q1.2 5 0 9) + (Int32.ofInt 1)))).bind fun q2 => (fn_mf_forgetFindings [.inr (0, 0)] q2).bind fun q3 => some (q3 5 0 9, q3)) := rfl
set_option maxRecDepth 20000 in
theorem eq_mf_add (x1 : Int32) (x2 : Int32) (x3 : Int32) (M : zm_M) : fn_mf_add [.inr (0, 0), .inl x1, .inl x2, .inl x3] M = ((fn_mf_isInstruction [.inl x1, .inl x2, .inl x3] M).bind fun q1 => if q1.1 = 0 then some ((-1 : Int32), q1.2) else if (q1.2 5 0 9) = (50 : Int32) then some ((-3 : Int32), q1.2) else (fn_pr_write [.inr (5, 0), .inl (((q1.2 5 0 9) + (1 : Int32)) - (1 : Int32)), .inl x1, .inl x2, .inl x3] (zm_up q1.2 5 0 9 ((q1.2 5 0 9) + (1 : Int32)))).bind fun q2 => (fn_mf_forgetFindings [.inr (0, 0)] q2).bind fun q3 => some (q3 5 0 9, q3)) := by
  rw [er_mf_add]
  simp only [kz_Im1, kz_B50, kz_Bm3, kz_I1]
def rr_mf_change (n pc : Nat) (lo : zm_L) (st : List zm_V) (M : zm_M) : Option (Int32 × zm_M) := zm_rn zt_Y lx_mf_change zr_z cd_mf_change n pc lo st M
set_option maxRecDepth 20000 in
theorem er_mf_change (x1 : Int32) (x2 : Int32) (x3 : Int32) (x4 : Int32) (M : zm_M) : fn_mf_change [.inr (0, 0), .inl x1, .inl x2, .inl x3, .inl x4] M = (if x1 < 0 then (if (Int32.ofInt 0) = 0 ∨ (Int32.ofInt 0) = 1 then some ((Int32.ofInt 0), M) else none) else if x1 < (M 5 0 9) then (fn_mf_isInstruction [.inl x2, .inl x3, .inl x4] M).bind fun q1 => if q1.1 = 0 then (if (Int32.ofInt 0) = 0 ∨ (Int32.ofInt 0) = 1 then some ((Int32.ofInt 0), q1.2) else none) else (fn_pr_write [.inr (5, 0), .inl x1, .inl x2, .inl x3, .inl x4] q1.2).bind fun q2 => (fn_mf_forgetFindings [.inr (0, 0)] q2).bind fun q3 => (if (Int32.ofInt 1) = 0 ∨ (Int32.ofInt 1) = 1 then some ((Int32.ofInt 1), q3) else none) else (if (Int32.ofInt 0) = 0 ∨ (Int32.ofInt 0) = 1 then some ((Int32.ofInt 0), M) else none)) := rfl
set_option maxRecDepth 20000 in
theorem eq_mf_change (x1 : Int32) (x2 : Int32) (x3 : Int32) (x4 : Int32) (M : zm_M) : fn_mf_change [.inr (0, 0), .inl x1, .inl x2, .inl x3, .inl x4] M = (if x1 < 0 then (some ((0 : Int32), M)) else if x1 < (M 5 0 9) then (fn_mf_isInstruction [.inl x2, .inl x3, .inl x4] M).bind fun q1 => if q1.1 = 0 then (some ((0 : Int32), q1.2)) else (fn_pr_write [.inr (5, 0), .inl x1, .inl x2, .inl x3, .inl x4] q1.2).bind fun q2 => (fn_mf_forgetFindings [.inr (0, 0)] q2).bind fun q3 => (some ((1 : Int32), q3)) else (some ((0 : Int32), M))) := by
  rw [er_mf_change]
  simp only [kz_I0, kz_I1, true_or, or_true, ↓reduceIte]
def rr_pr_guard (n pc : Nat) (lo : zm_L) (st : List zm_V) (M : zm_M) : Option zm_M := zm_rn zt_Y lx_pr_guard zr_v cd_pr_guard n pc lo st M
set_option maxRecDepth 20000 in
theorem er_pr_guard (x1 : Int32) (x2 : Int32) (x3 : Int32) (x4 : Int32) (M : zm_M) : fn_pr_guard [.inr (5, 0), .inl x1, .inl x2, .inl x3, .inl x4] M = (if (M 5 0 14) < 0 ∨ 4 ≤ (M 5 0 14).toNatClampNeg then none else if (M 5 0 14) < 0 ∨ 4 ≤ (M 5 0 14).toNatClampNeg then none else if (M 5 0 14) < 0 ∨ 4 ≤ (M 5 0 14).toNatClampNeg then none else if (M 5 0 14) < 0 ∨ 4 ≤ (M 5 0 14).toNatClampNeg then none else some (zm_up (zm_up (zm_up (zm_up (zm_up M 11 0 ((M 5 0 14).toNatClampNeg) x1) 12 0 ((M 5 0 14).toNatClampNeg) x2) 13 0 ((M 5 0 14).toNatClampNeg) x3) 14 0 ((M 5 0 14).toNatClampNeg) x4) 5 0 14 ((M 5 0 14) + (Int32.ofInt 1)))) := rfl
set_option maxRecDepth 20000 in
theorem eq_pr_guard (x1 : Int32) (x2 : Int32) (x3 : Int32) (x4 : Int32) (M : zm_M) : fn_pr_guard [.inr (5, 0), .inl x1, .inl x2, .inl x3, .inl x4] M = (if (M 5 0 14) < 0 ∨ 4 ≤ (M 5 0 14).toNatClampNeg then none else if (M 5 0 14) < 0 ∨ 4 ≤ (M 5 0 14).toNatClampNeg then none else if (M 5 0 14) < 0 ∨ 4 ≤ (M 5 0 14).toNatClampNeg then none else if (M 5 0 14) < 0 ∨ 4 ≤ (M 5 0 14).toNatClampNeg then none else some (zm_up (zm_up (zm_up (zm_up (zm_up M 11 0 ((M 5 0 14).toNatClampNeg) x1) 12 0 ((M 5 0 14).toNatClampNeg) x2) 13 0 ((M 5 0 14).toNatClampNeg) x3) 14 0 ((M 5 0 14).toNatClampNeg) x4) 5 0 14 ((M 5 0 14) + (1 : Int32)))) := by
  rw [er_pr_guard]
  simp only [kz_I1]
def rr_mf_handle (n pc : Nat) (lo : zm_L) (st : List zm_V) (M : zm_M) : Option (Int32 × zm_M) := zm_rn zt_Y lx_mf_handle zr_i cd_mf_handle n pc lo st M
set_option maxRecDepth 20000 in
theorem er_mf_handle (x1 : Int32) (x2 : Int32) (x3 : Int32) (x4 : Int32) (M : zm_M) : fn_mf_handle [.inr (0, 0), .inl x1, .inl x2, .inl x3, .inl x4] M = ((fn_mf_isPlace [.inl x1] M).bind fun q1 => if q1.1 = 0 then some ((Int32.ofInt (-1)), q1.2) else (fn_mf_isPlace [.inl x3] q1.2).bind fun q2 => if q2.1 = 0 then some ((Int32.ofInt (-1)), q2.2) else if x1 < x2 then if ((Int8.ofInt 50).toInt32) < x2 then some ((Int32.ofInt (-1)), q2.2) else (fn_mf_isClass [.inl x4] q2.2).bind fun q3 => if q3.1 = 0 then some ((Int32.ofInt (-1)), q3.2) else if (q3.2 5 0 14) = (Int32.ofInt 4) then some (((Int8.ofInt (-3)).toInt32), q3.2) else (fn_pr_guard [.inr (5, 0), .inl x1, .inl x2, .inl x3, .inl x4] q3.2).bind fun q4 => (fn_mf_forgetFindings [.inr (0, 0)] q4).bind fun q5 => some (q5 5 0 14, q5) else some ((Int32.ofInt (-1)), q2.2)) := rfl
set_option maxRecDepth 20000 in
theorem eq_mf_handle (x1 : Int32) (x2 : Int32) (x3 : Int32) (x4 : Int32) (M : zm_M) : fn_mf_handle [.inr (0, 0), .inl x1, .inl x2, .inl x3, .inl x4] M = ((fn_mf_isPlace [.inl x1] M).bind fun q1 => if q1.1 = 0 then some ((-1 : Int32), q1.2) else (fn_mf_isPlace [.inl x3] q1.2).bind fun q2 => if q2.1 = 0 then some ((-1 : Int32), q2.2) else if x1 < x2 then if (50 : Int32) < x2 then some ((-1 : Int32), q2.2) else (fn_mf_isClass [.inl x4] q2.2).bind fun q3 => if q3.1 = 0 then some ((-1 : Int32), q3.2) else if (q3.2 5 0 14) = (4 : Int32) then some ((-3 : Int32), q3.2) else (fn_pr_guard [.inr (5, 0), .inl x1, .inl x2, .inl x3, .inl x4] q3.2).bind fun q4 => (fn_mf_forgetFindings [.inr (0, 0)] q4).bind fun q5 => some (q5 5 0 14, q5) else some ((-1 : Int32), q2.2)) := by
  rw [er_mf_handle]
  simp only [kz_Im1, kz_B50, kz_I4, kz_Bm3]
def rr_ja_fill (n pc : Nat) (lo : zm_L) (st : List zm_V) (M : zm_M) : Option zm_M := zm_rn zt_Y lx_ja_fill zr_v cd_ja_fill n pc lo st M
set_option maxRecDepth 20000 in
theorem eq_ja_filla (f0 : Nat) (x1 : Int32) (M : zm_M) : fn_ja_fill [.inr (24, f0), .inl x1] M = rr_ja_fill 1073741824 0 [some (.inr (24, f0)), some (.inl x1), none, none] [] M := rfl
set_option maxRecDepth 20000 in
theorem so_ja_fill : cd_ja_fill.Pairwise (fun a b => a.1 < b.1) := by decide +kernel
set_option maxRecDepth 20000 in
theorem er_ja_fill_0a (kt bk : Nat → zm_L → List zm_V → zm_M → Option zm_M) (f0 : Nat) (x1 : Int32) (M : zm_M) : zm_gc zt_Y lx_ja_fill zr_v [5] kt bk (cd_ja_fill.drop 0) 0 [some (.inr (24, f0)), some (.inl x1), none, none] [] M = (kt 5 [some (.inr (24, f0)), some (.inl x1), some (.inl (Int32.ofInt 0)), some (.inl (nI 10))] [] M) := rfl
set_option maxRecDepth 20000 in
theorem eq_ja_fill_0a (n : Nat) (f0 : Nat) (x1 : Int32) (M : zm_M) : rr_ja_fill (n + 1) 0 [some (.inr (24, f0)), some (.inl x1), none, none] [] M = (rr_ja_fill (n + 1) 5 [some (.inr (24, f0)), some (.inl x1), some (.inl (0 : Int32)), some (.inl (nI 10))] [] M) := by
  have h := (zm_gc_ok (cd_ja_fill.take 0) (cd_ja_fill.drop 0) (List.take_append_drop 0 cd_ja_fill).symm so_ja_fill (by decide +kernel)).symm.trans (er_ja_fill_0a (rr_ja_fill (n + 1)) (rr_ja_fill n) f0 x1 M)
  simp only [kz_I0] at h
  exact h
set_option maxRecDepth 20000 in
theorem er_ja_fill_5a (kt bk : Nat → zm_L → List zm_V → zm_M → Option zm_M) (f0 : Nat) (v1 : Int32) (v2 : Int32) (v3 : Int32) (M : zm_M) : zm_gc zt_Y lx_ja_fill zr_v [5] kt bk (cd_ja_fill.drop 5) 5 [some (.inr (24, f0)), some (.inl v1), some (.inl v2), some (.inl v3)] [] M = (if v2 < v3 then if v2 < 0 ∨ 10 ≤ v2.toNatClampNeg then none else bk 5 [some (.inr (24, f0)), some (.inl v1), some (.inl (v2 + (Int32.ofInt 1))), some (.inl v3)] [] (zm_up M 24 f0 v2.toNatClampNeg v1) else some M) := rfl
set_option maxRecDepth 20000 in
theorem eq_ja_fill_5a (n : Nat) (f0 : Nat) (v1 : Int32) (v2 : Int32) (v3 : Int32) (M : zm_M) : rr_ja_fill (n + 1) 5 [some (.inr (24, f0)), some (.inl v1), some (.inl v2), some (.inl v3)] [] M = (if v2 < v3 then if v2 < 0 ∨ 10 ≤ v2.toNatClampNeg then none else rr_ja_fill n 5 [some (.inr (24, f0)), some (.inl v1), some (.inl (v2 + (1 : Int32))), some (.inl v3)] [] (zm_up M 24 f0 v2.toNatClampNeg v1) else some M) := by
  have h := (zm_gc_ok (cd_ja_fill.take 5) (cd_ja_fill.drop 5) (List.take_append_drop 5 cd_ja_fill).symm so_ja_fill (by decide +kernel)).symm.trans (er_ja_fill_5a (rr_ja_fill (n + 1)) (rr_ja_fill n) f0 v1 v2 v3 M)
  simp only [kz_I1] at h
  exact h
set_option maxRecDepth 20000 in
theorem eq_ja_fillb (x1 : Int32) (M : zm_M) : fn_ja_fill [.inr (33, 0), .inl x1] M = rr_ja_fill 1073741824 0 [some (.inr (33, 0)), some (.inl x1), none, none] [] M := rfl
set_option maxRecDepth 20000 in
theorem er_ja_fill_0b (kt bk : Nat → zm_L → List zm_V → zm_M → Option zm_M) (x1 : Int32) (M : zm_M) : zm_gc zt_Y lx_ja_fill zr_v [5] kt bk (cd_ja_fill.drop 0) 0 [some (.inr (33, 0)), some (.inl x1), none, none] [] M = (kt 5 [some (.inr (33, 0)), some (.inl x1), some (.inl (Int32.ofInt 0)), some (.inl (nI 50))] [] M) := rfl
set_option maxRecDepth 20000 in
theorem eq_ja_fill_0b (n : Nat) (x1 : Int32) (M : zm_M) : rr_ja_fill (n + 1) 0 [some (.inr (33, 0)), some (.inl x1), none, none] [] M = (rr_ja_fill (n + 1) 5 [some (.inr (33, 0)), some (.inl x1), some (.inl (0 : Int32)), some (.inl (nI 50))] [] M) := by
  have h := (zm_gc_ok (cd_ja_fill.take 0) (cd_ja_fill.drop 0) (List.take_append_drop 0 cd_ja_fill).symm so_ja_fill (by decide +kernel)).symm.trans (er_ja_fill_0b (rr_ja_fill (n + 1)) (rr_ja_fill n) x1 M)
  simp only [kz_I0] at h
  exact h
set_option maxRecDepth 20000 in
theorem er_ja_fill_5b (kt bk : Nat → zm_L → List zm_V → zm_M → Option zm_M) (v1 : Int32) (v2 : Int32) (v3 : Int32) (M : zm_M) : zm_gc zt_Y lx_ja_fill zr_v [5] kt bk (cd_ja_fill.drop 5) 5 [some (.inr (33, 0)), some (.inl v1), some (.inl v2), some (.inl v3)] [] M = (if v2 < v3 then if v2 < 0 ∨ 50 ≤ v2.toNatClampNeg then none else bk 5 [some (.inr (33, 0)), some (.inl v1), some (.inl (v2 + (Int32.ofInt 1))), some (.inl v3)] [] (zm_up M 33 0 v2.toNatClampNeg v1) else some M) := rfl
set_option maxRecDepth 20000 in
theorem eq_ja_fill_5b (n : Nat) (v1 : Int32) (v2 : Int32) (v3 : Int32) (M : zm_M) : rr_ja_fill (n + 1) 5 [some (.inr (33, 0)), some (.inl v1), some (.inl v2), some (.inl v3)] [] M = (if v2 < v3 then if v2 < 0 ∨ 50 ≤ v2.toNatClampNeg then none else rr_ja_fill n 5 [some (.inr (33, 0)), some (.inl v1), some (.inl (v2 + (1 : Int32))), some (.inl v3)] [] (zm_up M 33 0 v2.toNatClampNeg v1) else some M) := by
  have h := (zm_gc_ok (cd_ja_fill.take 5) (cd_ja_fill.drop 5) (List.take_append_drop 5 cd_ja_fill).symm so_ja_fill (by decide +kernel)).symm.trans (er_ja_fill_5b (rr_ja_fill (n + 1)) (rr_ja_fill n) v1 v2 v3 M)
  simp only [kz_I1] at h
  exact h
def rr_fr_emptyStack (n pc : Nat) (lo : zm_L) (st : List zm_V) (M : zm_M) : Option zm_M := zm_rn zt_Y lx_fr_emptyStack zr_v cd_fr_emptyStack n pc lo st M
set_option maxRecDepth 20000 in
theorem er_fr_emptyStack (f0 : Nat) (M : zm_M) : fn_fr_emptyStack [.inr (23, f0)] M = (some (zm_up (zm_up M 23 f0 2 (Int32.ofInt 0)) 23 f0 3 (Int32.ofInt 0))) := rfl
set_option maxRecDepth 20000 in
theorem eq_fr_emptyStack (f0 : Nat) (M : zm_M) : fn_fr_emptyStack [.inr (23, f0)] M = (some (zm_up (zm_up M 23 f0 2 (0 : Int32)) 23 f0 3 (0 : Int32))) := by
  rw [er_fr_emptyStack]
  simp only [kz_I0]
def rr_mf_typeOf (n pc : Nat) (lo : zm_L) (st : List zm_V) (M : zm_M) : Option (Int32 × zm_M) := zm_rn zt_Y lx_mf_typeOf zr_i cd_mf_typeOf n pc lo st M
set_option maxRecDepth 20000 in
theorem er_mf_typeOf (x0 : Int32) (x1 : Int32) (M : zm_M) : fn_mf_typeOf [.inl x0, .inl x1] M = (some ((((Int8.ofInt 16).toInt32) * x1) + x0, M)) := rfl
set_option maxRecDepth 20000 in
theorem eq_mf_typeOf (x0 : Int32) (x1 : Int32) (M : zm_M) : fn_mf_typeOf [.inl x0, .inl x1] M = (some (((16 : Int32) * x1) + x0, M)) := by
  rw [er_mf_typeOf]
  simp only [kz_B16]
def rr_pr_enter (n pc : Nat) (lo : zm_L) (st : List zm_V) (M : zm_M) : Option zm_M := zm_rn zt_Y lx_pr_enter zr_v cd_pr_enter n pc lo st M
set_option maxRecDepth 20000 in
theorem eq_pr_enter (f1 : Nat) (M : zm_M) : fn_pr_enter [.inr (5, 0), .inr (23, f1)] M = rr_pr_enter 1073741824 0 [some (.inr (5, 0)), some (.inr (23, f1)), none, none] [] M := rfl
set_option maxRecDepth 20000 in
theorem so_pr_enter : cd_pr_enter.Pairwise (fun a b => a.1 < b.1) := by decide +kernel
set_option maxRecDepth 20000 in
theorem er_pr_enter_0 (kt bk : Nat → zm_L → List zm_V → zm_M → Option zm_M) (f1 : Nat) (M : zm_M) : zm_gc zt_Y lx_pr_enter zr_v [69] kt bk (cd_pr_enter.drop 0) 0 [some (.inr (5, 0)), some (.inr (23, f1)), none, none] [] M = ((fn_ja_fill [.inr (24, f1), .inl (Int32.ofInt 0)] M).bind fun q1 => (fn_fr_emptyStack [.inr (23, f1)] q1).bind fun q2 => if (q2 5 0 1) = (Int32.ofInt 2) then (if (Int32.ofInt 1) = 0 ∨ (Int32.ofInt 1) = 1 then if (q2 5 0 1) = 0 then kt 69 [some (.inr (5, 0)), some (.inr (23, f1)), some (.inl (Int32.ofInt 0)), some (.inl (Int32.ofInt 0))] [] (zm_up q2 23 f1 4 (Int32.ofInt 1)) else if ((zm_up q2 23 f1 4 (Int32.ofInt 1)) 23 f1 4) = 0 then (fn_mf_typeOf [.inl ((Int8.ofInt 7).toInt32), .inl (q2 5 0 0)] (zm_up q2 23 f1 4 (Int32.ofInt 1))).bind fun q4 => if (Int32.ofInt 0) < 0 ∨ 10 ≤ (Int32.ofInt 0).toNatClampNeg then none else kt 69 [some (.inr (5, 0)), some (.inr (23, f1)), some (.inl (Int32.ofInt 1)), some (.inl (Int32.ofInt 0))] [] (zm_up q4.2 24 f1 (Int32.ofInt 0).toNatClampNeg q4.1) else if (Int32.ofInt 0) < 0 ∨ 10 ≤ (Int32.ofInt 0).toNatClampNeg then none else kt 69 [some (.inr (5, 0)), some (.inr (23, f1)), some (.inl (Int32.ofInt 1)), some (.inl (Int32.ofInt 0))] [] (zm_up (zm_up q2 23 f1 4 (Int32.ofInt 1)) 24 f1 (Int32.ofInt 0).toNatClampNeg ((Int8.ofInt 6).toInt32)) else none) else (if (Int32.ofInt 0) = 0 ∨ (Int32.ofInt 0) = 1 then if (q2 5 0 1) = 0 then kt 69 [some (.inr (5, 0)), some (.inr (23, f1)), some (.inl (Int32.ofInt 0)), some (.inl (Int32.ofInt 0))] [] (zm_up q2 23 f1 4 (Int32.ofInt 0)) else if ((zm_up q2 23 f1 4 (Int32.ofInt 0)) 23 f1 4) = 0 then (fn_mf_typeOf [.inl ((Int8.ofInt 7).toInt32), .inl (q2 5 0 0)] (zm_up q2 23 f1 4 (Int32.ofInt 0))).bind fun q3 => if (Int32.ofInt 0) < 0 ∨ 10 ≤ (Int32.ofInt 0).toNatClampNeg then none else kt 69 [some (.inr (5, 0)), some (.inr (23, f1)), some (.inl (Int32.ofInt 1)), some (.inl (Int32.ofInt 0))] [] (zm_up q3.2 24 f1 (Int32.ofInt 0).toNatClampNeg q3.1) else if (Int32.ofInt 0) < 0 ∨ 10 ≤ (Int32.ofInt 0).toNatClampNeg then none else kt 69 [some (.inr (5, 0)), some (.inr (23, f1)), some (.inl (Int32.ofInt 1)), some (.inl (Int32.ofInt 0))] [] (zm_up (zm_up q2 23 f1 4 (Int32.ofInt 0)) 24 f1 (Int32.ofInt 0).toNatClampNeg ((Int8.ofInt 6).toInt32)) else none)) := rfl
set_option maxRecDepth 20000 in
theorem eq_pr_enter_0 (n : Nat) (f1 : Nat) (M : zm_M) : rr_pr_enter (n + 1) 0 [some (.inr (5, 0)), some (.inr (23, f1)), none, none] [] M = ((fn_ja_fill [.inr (24, f1), .inl (0 : Int32)] M).bind fun q1 => (fn_fr_emptyStack [.inr (23, f1)] q1).bind fun q2 => if (q2 5 0 1) = (2 : Int32) then (if (q2 5 0 1) = 0 then rr_pr_enter (n + 1) 69 [some (.inr (5, 0)), some (.inr (23, f1)), some (.inl (0 : Int32)), some (.inl (0 : Int32))] [] (zm_up q2 23 f1 4 (1 : Int32)) else if ((zm_up q2 23 f1 4 (1 : Int32)) 23 f1 4) = 0 then (fn_mf_typeOf [.inl (7 : Int32), .inl (q2 5 0 0)] (zm_up q2 23 f1 4 (1 : Int32))).bind fun q4 => if (0 : Int32) < 0 ∨ 10 ≤ (0 : Int32).toNatClampNeg then none else rr_pr_enter (n + 1) 69 [some (.inr (5, 0)), some (.inr (23, f1)), some (.inl (1 : Int32)), some (.inl (0 : Int32))] [] (zm_up q4.2 24 f1 (0 : Int32).toNatClampNeg q4.1) else if (0 : Int32) < 0 ∨ 10 ≤ (0 : Int32).toNatClampNeg then none else rr_pr_enter (n + 1) 69 [some (.inr (5, 0)), some (.inr (23, f1)), some (.inl (1 : Int32)), some (.inl (0 : Int32))] [] (zm_up (zm_up q2 23 f1 4 (1 : Int32)) 24 f1 (0 : Int32).toNatClampNeg (6 : Int32))) else (if (q2 5 0 1) = 0 then rr_pr_enter (n + 1) 69 [some (.inr (5, 0)), some (.inr (23, f1)), some (.inl (0 : Int32)), some (.inl (0 : Int32))] [] (zm_up q2 23 f1 4 (0 : Int32)) else if ((zm_up q2 23 f1 4 (0 : Int32)) 23 f1 4) = 0 then (fn_mf_typeOf [.inl (7 : Int32), .inl (q2 5 0 0)] (zm_up q2 23 f1 4 (0 : Int32))).bind fun q3 => if (0 : Int32) < 0 ∨ 10 ≤ (0 : Int32).toNatClampNeg then none else rr_pr_enter (n + 1) 69 [some (.inr (5, 0)), some (.inr (23, f1)), some (.inl (1 : Int32)), some (.inl (0 : Int32))] [] (zm_up q3.2 24 f1 (0 : Int32).toNatClampNeg q3.1) else if (0 : Int32) < 0 ∨ 10 ≤ (0 : Int32).toNatClampNeg then none else rr_pr_enter (n + 1) 69 [some (.inr (5, 0)), some (.inr (23, f1)), some (.inl (1 : Int32)), some (.inl (0 : Int32))] [] (zm_up (zm_up q2 23 f1 4 (0 : Int32)) 24 f1 (0 : Int32).toNatClampNeg (6 : Int32)))) := by
  have h := (zm_gc_ok (cd_pr_enter.take 0) (cd_pr_enter.drop 0) (List.take_append_drop 0 cd_pr_enter).symm so_pr_enter (by decide +kernel)).symm.trans (er_pr_enter_0 (rr_pr_enter (n + 1)) (rr_pr_enter n) f1 M)
  simp only [kz_I0, kz_I2, kz_I1, kz_B7, kz_B6, true_or, or_true, ↓reduceIte] at h
  exact h
set_option maxRecDepth 20000 in
theorem er_pr_enter_69 (kt bk : Nat → zm_L → List zm_V → zm_M → Option zm_M) (f1 : Nat) (v2 : Int32) (v3 : Int32) (M : zm_M) : zm_gc zt_Y lx_pr_enter zr_v [69] kt bk (cd_pr_enter.drop 37) 69 [some (.inr (5, 0)), some (.inr (23, f1)), some (.inl v2), some (.inl v3)] [] M = (if v3 < (M 5 0 4) then if v3 < 0 ∨ 4 ≤ v3.toNatClampNeg then none else if v2 < 0 ∨ 10 ≤ v2.toNatClampNeg then none else if v3 < 0 ∨ 4 ≤ v3.toNatClampNeg then none else (fn_mf_widthOf [.inl (M 6 0 v3.toNatClampNeg)] (zm_up M 24 f1 v2.toNatClampNeg (M 6 0 v3.toNatClampNeg))).bind fun q1 => bk 69 [some (.inr (5, 0)), some (.inr (23, f1)), some (.inl (v2 + q1.1)), some (.inl (v3 + (Int32.ofInt 1)))] [] q1.2 else some M) := rfl
set_option maxRecDepth 20000 in
theorem eq_pr_enter_69 (n : Nat) (f1 : Nat) (v2 : Int32) (v3 : Int32) (M : zm_M) : rr_pr_enter (n + 1) 69 [some (.inr (5, 0)), some (.inr (23, f1)), some (.inl v2), some (.inl v3)] [] M = (if v3 < (M 5 0 4) then if v3 < 0 ∨ 4 ≤ v3.toNatClampNeg then none else if v2 < 0 ∨ 10 ≤ v2.toNatClampNeg then none else if v3 < 0 ∨ 4 ≤ v3.toNatClampNeg then none else (fn_mf_widthOf [.inl (M 6 0 v3.toNatClampNeg)] (zm_up M 24 f1 v2.toNatClampNeg (M 6 0 v3.toNatClampNeg))).bind fun q1 => rr_pr_enter n 69 [some (.inr (5, 0)), some (.inr (23, f1)), some (.inl (v2 + q1.1)), some (.inl (v3 + (1 : Int32)))] [] q1.2 else some M) := by
  have h := (zm_gc_ok (cd_pr_enter.take 37) (cd_pr_enter.drop 37) (List.take_append_drop 37 cd_pr_enter).symm so_pr_enter (by decide +kernel)).symm.trans (er_pr_enter_69 (rr_pr_enter (n + 1)) (rr_pr_enter n) f1 v2 v3 M)
  simp only [kz_I1] at h
  exact h
def rr_mf_isObjectOrNull (n pc : Nat) (lo : zm_L) (st : List zm_V) (M : zm_M) : Option (Int32 × zm_M) := zm_rn zt_Y lx_mf_isObjectOrNull zr_z cd_mf_isObjectOrNull n pc lo st M
set_option maxRecDepth 20000 in
theorem er_mf_isObjectOrNull (x0 : Int32) (M : zm_M) : fn_mf_isObjectOrNull [.inl x0] M = (if x0 = (Int32.ofInt 5) then (if (Int32.ofInt 1) = 0 ∨ (Int32.ofInt 1) = 1 then some ((Int32.ofInt 1), M) else none) else (fn_mf_kindOf [.inl x0] M).bind fun q1 => if q1.1 = ((Int8.ofInt 7).toInt32) then (if (Int32.ofInt 1) = 0 ∨ (Int32.ofInt 1) = 1 then some ((Int32.ofInt 1), q1.2) else none) else (if (Int32.ofInt 0) = 0 ∨ (Int32.ofInt 0) = 1 then some ((Int32.ofInt 0), q1.2) else none)) := rfl
set_option maxRecDepth 20000 in
theorem eq_mf_isObjectOrNull (x0 : Int32) (M : zm_M) : fn_mf_isObjectOrNull [.inl x0] M = (if x0 = (5 : Int32) then (some ((1 : Int32), M)) else (fn_mf_kindOf [.inl x0] M).bind fun q1 => if q1.1 = (7 : Int32) then (some ((1 : Int32), q1.2)) else (some ((0 : Int32), q1.2))) := by
  rw [er_mf_isObjectOrNull]
  simp only [kz_I5, kz_I1, kz_B7, kz_I0, true_or, or_true, ↓reduceIte]
def rr_fa_join (n pc : Nat) (lo : zm_L) (st : List zm_V) (M : zm_M) : Option (Int32 × zm_M) := zm_rn zt_Y lx_fa_join zr_i cd_fa_join n pc lo st M
set_option maxRecDepth 20000 in
theorem eq_fa_join (x1 : Int32) (x2 : Int32) (M : zm_M) : fn_fa_join [.inr (1, 0), .inl x1, .inl x2] M = rr_fa_join 1073741824 0 [some (.inr (1, 0)), some (.inl x1), some (.inl x2), none, none] [] M := rfl
set_option maxRecDepth 20000 in
theorem so_fa_join : cd_fa_join.Pairwise (fun a b => a.1 < b.1) := by decide +kernel
set_option maxRecDepth 20000 in
theorem er_fa_join_0 (kt bk : Nat → zm_L → List zm_V → zm_M → Option (Int32 × zm_M)) (x1 : Int32) (x2 : Int32) (M : zm_M) : zm_gc zt_Y lx_fa_join zr_i [52] kt bk (cd_fa_join.drop 0) 0 [some (.inr (1, 0)), some (.inl x1), some (.inl x2), none, none] [] M = (if x1 = x2 then some (x1, M) else (fn_mf_isObjectOrNull [.inl x1] M).bind fun q1 => if q1.1 = 0 then some ((Int32.ofInt 0), q1.2) else (fn_mf_isObjectOrNull [.inl x2] q1.2).bind fun q2 => if q2.1 = 0 then some ((Int32.ofInt 0), q2.2) else if x1 = (Int32.ofInt 5) then if x1 = (Int32.ofInt 5) then some (x2, q2.2) else some (x1, q2.2) else if x2 = (Int32.ofInt 5) then if x1 = (Int32.ofInt 5) then some (x2, q2.2) else some (x1, q2.2) else (fn_mf_partOf [.inl x1] q2.2).bind fun q3 => kt 52 [some (.inr (1, 0)), some (.inl x1), some (.inl x2), some (.inl q3.1), some (.inl (Int32.ofInt 0))] [] q3.2) := rfl
set_option maxRecDepth 20000 in
theorem eq_fa_join_0 (n : Nat) (x1 : Int32) (x2 : Int32) (M : zm_M) : rr_fa_join (n + 1) 0 [some (.inr (1, 0)), some (.inl x1), some (.inl x2), none, none] [] M = (if x1 = x2 then some (x1, M) else (fn_mf_isObjectOrNull [.inl x1] M).bind fun q1 => if q1.1 = 0 then some ((0 : Int32), q1.2) else (fn_mf_isObjectOrNull [.inl x2] q1.2).bind fun q2 => if q2.1 = 0 then some ((0 : Int32), q2.2) else if x1 = (5 : Int32) then if x1 = (5 : Int32) then some (x2, q2.2) else some (x1, q2.2) else if x2 = (5 : Int32) then if x1 = (5 : Int32) then some (x2, q2.2) else some (x1, q2.2) else (fn_mf_partOf [.inl x1] q2.2).bind fun q3 => rr_fa_join (n + 1) 52 [some (.inr (1, 0)), some (.inl x1), some (.inl x2), some (.inl q3.1), some (.inl (0 : Int32))] [] q3.2) := by
  have h := (zm_gc_ok (cd_fa_join.take 0) (cd_fa_join.drop 0) (List.take_append_drop 0 cd_fa_join).symm so_fa_join (by decide +kernel)).symm.trans (er_fa_join_0 (rr_fa_join (n + 1)) (rr_fa_join n) x1 x2 M)
  simp only [kz_I0, kz_I5] at h
  exact h
set_option maxRecDepth 20000 in
theorem er_fa_join_52 (kt bk : Nat → zm_L → List zm_V → zm_M → Option (Int32 × zm_M)) (v1 : Int32) (v2 : Int32) (v3 : Int32) (v4 : Int32) (M : zm_M) : zm_gc zt_Y lx_fa_join zr_i [52] kt bk (cd_fa_join.drop 31) 52 [some (.inr (1, 0)), some (.inl v1), some (.inl v2), some (.inl v3), some (.inl v4)] [] M = (if v4 < ((Int8.ofInt 8).toInt32) then (fn_mf_partOf [.inl v2] M).bind fun q2 => if q2.1 < 0 ∨ 8 ≤ (q2.1).toNatClampNeg then none else if (((q2.2 4 0 (q2.1).toNatClampNeg) >>> (v3 &&& 31)) &&& (Int32.ofInt 1)) = 0 then if v3 < 0 ∨ 8 ≤ v3.toNatClampNeg then none else bk 52 [some (.inr (1, 0)), some (.inl v1), some (.inl v2), some (.inl (q2.2 2 0 v3.toNatClampNeg)), some (.inl (v4 + (Int32.ofInt 1)))] [] q2.2 else (fn_mf_typeOf [.inl ((Int8.ofInt 7).toInt32), .inl v3] q2.2).bind fun q3 => some (q3.1, q3.2) else (fn_mf_typeOf [.inl ((Int8.ofInt 7).toInt32), .inl v3] M).bind fun q1 => some (q1.1, q1.2)) := rfl
set_option maxRecDepth 20000 in
theorem eq_fa_join_52 (n : Nat) (v1 : Int32) (v2 : Int32) (v3 : Int32) (v4 : Int32) (M : zm_M) : rr_fa_join (n + 1) 52 [some (.inr (1, 0)), some (.inl v1), some (.inl v2), some (.inl v3), some (.inl v4)] [] M = (if v4 < (8 : Int32) then (fn_mf_partOf [.inl v2] M).bind fun q2 => if q2.1 < 0 ∨ 8 ≤ (q2.1).toNatClampNeg then none else if (((q2.2 4 0 (q2.1).toNatClampNeg) >>> (v3 &&& 31)) &&& (1 : Int32)) = 0 then if v3 < 0 ∨ 8 ≤ v3.toNatClampNeg then none else rr_fa_join n 52 [some (.inr (1, 0)), some (.inl v1), some (.inl v2), some (.inl (q2.2 2 0 v3.toNatClampNeg)), some (.inl (v4 + (1 : Int32)))] [] q2.2 else (fn_mf_typeOf [.inl (7 : Int32), .inl v3] q2.2).bind fun q3 => some (q3.1, q3.2) else (fn_mf_typeOf [.inl (7 : Int32), .inl v3] M).bind fun q1 => some (q1.1, q1.2)) := by
  have h := (zm_gc_ok (cd_fa_join.take 31) (cd_fa_join.drop 31) (List.take_append_drop 31 cd_fa_join).symm so_fa_join (by decide +kernel)).symm.trans (er_fa_join_52 (rr_fa_join (n + 1)) (rr_fa_join n) v1 v2 v3 v4 M)
  simp only [kz_B8, kz_I1, kz_B7] at h
  exact h
def rr_fl_joinAt (n pc : Nat) (lo : zm_L) (st : List zm_V) (M : zm_M) : Option (Int32 × zm_M) := zm_rn zt_Y lx_fl_joinAt zr_z cd_fl_joinAt n pc lo st M
set_option maxRecDepth 20000 in
theorem eq_fl_joinAt (x1 : Int32) (f2 : Nat) (M : zm_M) : fn_fl_joinAt [.inr (18, 0), .inl x1, .inr (23, f2)] M = rr_fl_joinAt 1073741824 0 [some (.inr (18, 0)), some (.inl x1), some (.inr (23, f2)), none, none, none] [] M := rfl
set_option maxRecDepth 20000 in
theorem so_fl_joinAt : cd_fl_joinAt.Pairwise (fun a b => a.1 < b.1) := by decide +kernel
set_option maxRecDepth 20000 in
theorem er_fl_joinAt_0 (kt bk : Nat → zm_L → List zm_V → zm_M → Option (Int32 × zm_M)) (x1 : Int32) (f2 : Nat) (M : zm_M) : zm_gc zt_Y lx_fl_joinAt zr_z [49, 123] kt bk (cd_fl_joinAt.drop 0) 0 [some (.inr (18, 0)), some (.inl x1), some (.inr (23, f2)), none, none, none] [] M = (if x1 < 0 ∨ 50 ≤ x1.toNatClampNeg then none else if (M 23 x1.toNatClampNeg 2) = (M 23 f2 2) then if (M 23 f2 4) = 0 then kt 49 [some (.inr (18, 0)), some (.inl x1), some (.inr (23, f2)), some (.inr (23, x1.toNatClampNeg)), some (.inl (Int32.ofInt 0)), none] [] M else if (M 23 x1.toNatClampNeg 4) = 0 then (if (Int32.ofInt 1) = 0 ∨ (Int32.ofInt 1) = 1 then if x1 < 0 ∨ 50 ≤ x1.toNatClampNeg then none else kt 49 [some (.inr (18, 0)), some (.inl x1), some (.inr (23, f2)), some (.inr (23, x1.toNatClampNeg)), some (.inl (Int32.ofInt 0)), none] [] (zm_up (zm_up M 23 x1.toNatClampNeg 4 (Int32.ofInt 1)) 22 0 x1.toNatClampNeg ((Int32.ofInt 1) &&& 1)) else none) else kt 49 [some (.inr (18, 0)), some (.inl x1), some (.inr (23, f2)), some (.inr (23, x1.toNatClampNeg)), some (.inl (Int32.ofInt 0)), none] [] M else (if (Int32.ofInt 0) = 0 ∨ (Int32.ofInt 0) = 1 then some ((Int32.ofInt 0), M) else none)) := rfl
set_option maxRecDepth 20000 in
theorem eq_fl_joinAt_0 (n : Nat) (x1 : Int32) (f2 : Nat) (M : zm_M) : rr_fl_joinAt (n + 1) 0 [some (.inr (18, 0)), some (.inl x1), some (.inr (23, f2)), none, none, none] [] M = (if x1 < 0 ∨ 50 ≤ x1.toNatClampNeg then none else if (M 23 x1.toNatClampNeg 2) = (M 23 f2 2) then if (M 23 f2 4) = 0 then rr_fl_joinAt (n + 1) 49 [some (.inr (18, 0)), some (.inl x1), some (.inr (23, f2)), some (.inr (23, x1.toNatClampNeg)), some (.inl (0 : Int32)), none] [] M else if (M 23 x1.toNatClampNeg 4) = 0 then (if x1 < 0 ∨ 50 ≤ x1.toNatClampNeg then none else rr_fl_joinAt (n + 1) 49 [some (.inr (18, 0)), some (.inl x1), some (.inr (23, f2)), some (.inr (23, x1.toNatClampNeg)), some (.inl (0 : Int32)), none] [] (zm_up (zm_up M 23 x1.toNatClampNeg 4 (1 : Int32)) 22 0 x1.toNatClampNeg ((1 : Int32) &&& 1))) else rr_fl_joinAt (n + 1) 49 [some (.inr (18, 0)), some (.inl x1), some (.inr (23, f2)), some (.inr (23, x1.toNatClampNeg)), some (.inl (0 : Int32)), none] [] M else (some ((0 : Int32), M))) := by
  have h := (zm_gc_ok (cd_fl_joinAt.take 0) (cd_fl_joinAt.drop 0) (List.take_append_drop 0 cd_fl_joinAt).symm so_fl_joinAt (by decide +kernel)).symm.trans (er_fl_joinAt_0 (rr_fl_joinAt (n + 1)) (rr_fl_joinAt n) x1 f2 M)
  simp only [kz_I0, kz_I1, true_or, or_true, ↓reduceIte] at h
  exact h
set_option maxRecDepth 20000 in
theorem er_fl_joinAt_49 (kt bk : Nat → zm_L → List zm_V → zm_M → Option (Int32 × zm_M)) (v1 : Int32) (f2 : Nat) (g3 : Nat) (v4 : Int32) (o5 : Option zm_V) (M : zm_M) : zm_gc zt_Y lx_fl_joinAt zr_z [49, 123] kt bk (cd_fl_joinAt.drop 28) 49 [some (.inr (18, 0)), some (.inl v1), some (.inr (23, f2)), some (.inr (23, g3)), some (.inl v4), o5] [] M = (if v4 < ((Int8.ofInt 10).toInt32) then if v4 < 0 ∨ 10 ≤ v4.toNatClampNeg then none else if v4 < 0 ∨ 10 ≤ v4.toNatClampNeg then none else (fn_fa_join [.inr (1, 0), .inl (M 24 g3 v4.toNatClampNeg), .inl (M 24 f2 v4.toNatClampNeg)] M).bind fun q1 => if v1 < 0 ∨ 50 ≤ v1.toNatClampNeg then none else if v4 < 0 ∨ 10 ≤ v4.toNatClampNeg then none else if q1.1 = (q1.2 24 g3 v4.toNatClampNeg) then if v1 < 0 ∨ 50 ≤ v1.toNatClampNeg then none else if v4 < 0 ∨ 10 ≤ v4.toNatClampNeg then none else bk 49 [some (.inr (18, 0)), some (.inl v1), some (.inr (23, f2)), some (.inr (23, g3)), some (.inl (v4 + (Int32.ofInt 1))), some (.inl q1.1)] [] (zm_up (zm_up q1.2 22 0 v1.toNatClampNeg (((q1.2 22 0 v1.toNatClampNeg) ||| (Int32.ofInt 0)) &&& 1)) 24 g3 v4.toNatClampNeg q1.1) else if v1 < 0 ∨ 50 ≤ v1.toNatClampNeg then none else if v4 < 0 ∨ 10 ≤ v4.toNatClampNeg then none else bk 49 [some (.inr (18, 0)), some (.inl v1), some (.inr (23, f2)), some (.inr (23, g3)), some (.inl (v4 + (Int32.ofInt 1))), some (.inl q1.1)] [] (zm_up (zm_up q1.2 22 0 v1.toNatClampNeg (((q1.2 22 0 v1.toNatClampNeg) ||| (Int32.ofInt 1)) &&& 1)) 24 g3 v4.toNatClampNeg q1.1) else kt 123 [some (.inr (18, 0)), some (.inl v1), some (.inr (23, f2)), some (.inr (23, g3)), some (.inl (Int32.ofInt 0)), o5] [] M) := rfl
set_option maxRecDepth 20000 in
theorem eq_fl_joinAt_49 (n : Nat) (v1 : Int32) (f2 : Nat) (g3 : Nat) (v4 : Int32) (o5 : Option zm_V) (M : zm_M) : rr_fl_joinAt (n + 1) 49 [some (.inr (18, 0)), some (.inl v1), some (.inr (23, f2)), some (.inr (23, g3)), some (.inl v4), o5] [] M = (if v4 < (10 : Int32) then if v4 < 0 ∨ 10 ≤ v4.toNatClampNeg then none else if v4 < 0 ∨ 10 ≤ v4.toNatClampNeg then none else (fn_fa_join [.inr (1, 0), .inl (M 24 g3 v4.toNatClampNeg), .inl (M 24 f2 v4.toNatClampNeg)] M).bind fun q1 => if v1 < 0 ∨ 50 ≤ v1.toNatClampNeg then none else if v4 < 0 ∨ 10 ≤ v4.toNatClampNeg then none else if q1.1 = (q1.2 24 g3 v4.toNatClampNeg) then if v1 < 0 ∨ 50 ≤ v1.toNatClampNeg then none else if v4 < 0 ∨ 10 ≤ v4.toNatClampNeg then none else rr_fl_joinAt n 49 [some (.inr (18, 0)), some (.inl v1), some (.inr (23, f2)), some (.inr (23, g3)), some (.inl (v4 + (1 : Int32))), some (.inl q1.1)] [] (zm_up (zm_up q1.2 22 0 v1.toNatClampNeg (((q1.2 22 0 v1.toNatClampNeg) ||| (0 : Int32)) &&& 1)) 24 g3 v4.toNatClampNeg q1.1) else if v1 < 0 ∨ 50 ≤ v1.toNatClampNeg then none else if v4 < 0 ∨ 10 ≤ v4.toNatClampNeg then none else rr_fl_joinAt n 49 [some (.inr (18, 0)), some (.inl v1), some (.inr (23, f2)), some (.inr (23, g3)), some (.inl (v4 + (1 : Int32))), some (.inl q1.1)] [] (zm_up (zm_up q1.2 22 0 v1.toNatClampNeg (((q1.2 22 0 v1.toNatClampNeg) ||| (1 : Int32)) &&& 1)) 24 g3 v4.toNatClampNeg q1.1) else rr_fl_joinAt (n + 1) 123 [some (.inr (18, 0)), some (.inl v1), some (.inr (23, f2)), some (.inr (23, g3)), some (.inl (0 : Int32)), o5] [] M) := by
  have h := (zm_gc_ok (cd_fl_joinAt.take 28) (cd_fl_joinAt.drop 28) (List.take_append_drop 28 cd_fl_joinAt).symm so_fl_joinAt (by decide +kernel)).symm.trans (er_fl_joinAt_49 (rr_fl_joinAt (n + 1)) (rr_fl_joinAt n) v1 f2 g3 v4 o5 M)
  simp only [kz_B10, kz_I1, kz_I0] at h
  exact h
set_option maxRecDepth 20000 in
theorem er_fl_joinAt_123 (kt bk : Nat → zm_L → List zm_V → zm_M → Option (Int32 × zm_M)) (v1 : Int32) (f2 : Nat) (g3 : Nat) (v4 : Int32) (o5 : Option zm_V) (M : zm_M) : zm_gc zt_Y lx_fl_joinAt zr_z [49, 123] kt bk (cd_fl_joinAt.drop 68) 123 [some (.inr (18, 0)), some (.inl v1), some (.inr (23, f2)), some (.inr (23, g3)), some (.inl v4), o5] [] M = (if v4 < (M 23 g3 2) then if v4 < 0 ∨ 8 ≤ v4.toNatClampNeg then none else if v4 < 0 ∨ 8 ≤ v4.toNatClampNeg then none else (fn_fa_join [.inr (1, 0), .inl (M 25 g3 v4.toNatClampNeg), .inl (M 25 f2 v4.toNatClampNeg)] M).bind fun q1 => if q1.1 = 0 then (if (Int32.ofInt 0) = 0 ∨ (Int32.ofInt 0) = 1 then some ((Int32.ofInt 0), q1.2) else none) else if v1 < 0 ∨ 50 ≤ v1.toNatClampNeg then none else if v4 < 0 ∨ 8 ≤ v4.toNatClampNeg then none else if q1.1 = (q1.2 25 g3 v4.toNatClampNeg) then if v1 < 0 ∨ 50 ≤ v1.toNatClampNeg then none else if v4 < 0 ∨ 8 ≤ v4.toNatClampNeg then none else bk 123 [some (.inr (18, 0)), some (.inl v1), some (.inr (23, f2)), some (.inr (23, g3)), some (.inl (v4 + (Int32.ofInt 1))), some (.inl q1.1)] [] (zm_up (zm_up q1.2 22 0 v1.toNatClampNeg (((q1.2 22 0 v1.toNatClampNeg) ||| (Int32.ofInt 0)) &&& 1)) 25 g3 v4.toNatClampNeg q1.1) else if v1 < 0 ∨ 50 ≤ v1.toNatClampNeg then none else if v4 < 0 ∨ 8 ≤ v4.toNatClampNeg then none else bk 123 [some (.inr (18, 0)), some (.inl v1), some (.inr (23, f2)), some (.inr (23, g3)), some (.inl (v4 + (Int32.ofInt 1))), some (.inl q1.1)] [] (zm_up (zm_up q1.2 22 0 v1.toNatClampNeg (((q1.2 22 0 v1.toNatClampNeg) ||| (Int32.ofInt 1)) &&& 1)) 25 g3 v4.toNatClampNeg q1.1) else (if (Int32.ofInt 1) = 0 ∨ (Int32.ofInt 1) = 1 then some ((Int32.ofInt 1), M) else none)) := rfl
set_option maxRecDepth 20000 in
theorem eq_fl_joinAt_123 (n : Nat) (v1 : Int32) (f2 : Nat) (g3 : Nat) (v4 : Int32) (o5 : Option zm_V) (M : zm_M) : rr_fl_joinAt (n + 1) 123 [some (.inr (18, 0)), some (.inl v1), some (.inr (23, f2)), some (.inr (23, g3)), some (.inl v4), o5] [] M = (if v4 < (M 23 g3 2) then if v4 < 0 ∨ 8 ≤ v4.toNatClampNeg then none else if v4 < 0 ∨ 8 ≤ v4.toNatClampNeg then none else (fn_fa_join [.inr (1, 0), .inl (M 25 g3 v4.toNatClampNeg), .inl (M 25 f2 v4.toNatClampNeg)] M).bind fun q1 => if q1.1 = 0 then (some ((0 : Int32), q1.2)) else if v1 < 0 ∨ 50 ≤ v1.toNatClampNeg then none else if v4 < 0 ∨ 8 ≤ v4.toNatClampNeg then none else if q1.1 = (q1.2 25 g3 v4.toNatClampNeg) then if v1 < 0 ∨ 50 ≤ v1.toNatClampNeg then none else if v4 < 0 ∨ 8 ≤ v4.toNatClampNeg then none else rr_fl_joinAt n 123 [some (.inr (18, 0)), some (.inl v1), some (.inr (23, f2)), some (.inr (23, g3)), some (.inl (v4 + (1 : Int32))), some (.inl q1.1)] [] (zm_up (zm_up q1.2 22 0 v1.toNatClampNeg (((q1.2 22 0 v1.toNatClampNeg) ||| (0 : Int32)) &&& 1)) 25 g3 v4.toNatClampNeg q1.1) else if v1 < 0 ∨ 50 ≤ v1.toNatClampNeg then none else if v4 < 0 ∨ 8 ≤ v4.toNatClampNeg then none else rr_fl_joinAt n 123 [some (.inr (18, 0)), some (.inl v1), some (.inr (23, f2)), some (.inr (23, g3)), some (.inl (v4 + (1 : Int32))), some (.inl q1.1)] [] (zm_up (zm_up q1.2 22 0 v1.toNatClampNeg (((q1.2 22 0 v1.toNatClampNeg) ||| (1 : Int32)) &&& 1)) 25 g3 v4.toNatClampNeg q1.1) else (some ((1 : Int32), M))) := by
  have h := (zm_gc_ok (cd_fl_joinAt.take 68) (cd_fl_joinAt.drop 68) (List.take_append_drop 68 cd_fl_joinAt).symm so_fl_joinAt (by decide +kernel)).symm.trans (er_fl_joinAt_123 (rr_fl_joinAt (n + 1)) (rr_fl_joinAt n) v1 f2 g3 v4 o5 M)
  simp only [kz_I0, kz_I1, true_or, or_true, ↓reduceIte] at h
  exact h
def rr_fr_takeOver (n pc : Nat) (lo : zm_L) (st : List zm_V) (M : zm_M) : Option zm_M := zm_rn zt_Y lx_fr_takeOver zr_v cd_fr_takeOver n pc lo st M
set_option maxRecDepth 20000 in
theorem er_fr_takeOver (f0 : Nat) (f1 : Nat) (M : zm_M) : fn_fr_takeOver [.inr (23, f0), .inr (23, f1)] M = ((zm_ac zt_Y [.inr (24, f1), .inl (Int32.ofInt 0), .inr (24, f0), .inl (Int32.ofInt 0), .inl ((Int8.ofInt 10).toInt32)] M).bind fun q1 => (zm_ac zt_Y [.inr (25, f1), .inl (Int32.ofInt 0), .inr (25, f0), .inl (Int32.ofInt 0), .inl (q1 23 f1 2)] q1).bind fun q2 => if (q2 23 f1 4) = 0 ∨ (q2 23 f1 4) = 1 then some (zm_up (zm_up (zm_up q2 23 f0 2 (q2 23 f1 2)) 23 f0 3 (q2 23 f1 3)) 23 f0 4 (q2 23 f1 4)) else none) := rfl
set_option maxRecDepth 20000 in
theorem eq_fr_takeOver (f0 : Nat) (f1 : Nat) (M : zm_M) : fn_fr_takeOver [.inr (23, f0), .inr (23, f1)] M = ((zm_ac zt_Y [.inr (24, f1), .inl (0 : Int32), .inr (24, f0), .inl (0 : Int32), .inl (10 : Int32)] M).bind fun q1 => (zm_ac zt_Y [.inr (25, f1), .inl (0 : Int32), .inr (25, f0), .inl (0 : Int32), .inl (q1 23 f1 2)] q1).bind fun q2 => if (q2 23 f1 4) = 0 ∨ (q2 23 f1 4) = 1 then some (zm_up (zm_up (zm_up q2 23 f0 2 (q2 23 f1 2)) 23 f0 3 (q2 23 f1 3)) 23 f0 4 (q2 23 f1 4)) else none) := by
  rw [er_fr_takeOver]
  simp only [kz_I0, kz_B10]
def rr_fl_arrive (n pc : Nat) (lo : zm_L) (st : List zm_V) (M : zm_M) : Option (Int32 × zm_M) := zm_rn zt_Y lx_fl_arrive zr_z cd_fl_arrive n pc lo st M
set_option maxRecDepth 20000 in
theorem er_fl_arrive (x1 : Int32) (f2 : Nat) (M : zm_M) : fn_fl_arrive [.inr (18, 0), .inl x1, .inr (23, f2)] M = (if x1 < (M 5 0 9) then if x1 < 0 ∨ 50 ≤ x1.toNatClampNeg then none else if (M 21 0 x1.toNatClampNeg) = 0 then if x1 < 0 ∨ 50 ≤ x1.toNatClampNeg then none else if x1 < 0 ∨ 50 ≤ x1.toNatClampNeg then none else if x1 < 0 ∨ 50 ≤ x1.toNatClampNeg then none else (fn_fr_takeOver [.inr (23, x1.toNatClampNeg), .inr (23, f2)] (zm_up (zm_up M 21 0 x1.toNatClampNeg ((Int32.ofInt 1) &&& 1)) 22 0 x1.toNatClampNeg ((Int32.ofInt 1) &&& 1))).bind fun q1 => (if (Int32.ofInt 1) = 0 ∨ (Int32.ofInt 1) = 1 then some ((Int32.ofInt 1), q1) else none) else (fn_fl_joinAt [.inr (18, 0), .inl x1, .inr (23, f2)] M).bind fun q2 => if q2.1 = 0 ∨ q2.1 = 1 then some (q2.1, q2.2) else none else (if (Int32.ofInt 0) = 0 ∨ (Int32.ofInt 0) = 1 then some ((Int32.ofInt 0), M) else none)) := rfl
set_option maxRecDepth 20000 in
theorem eq_fl_arrive (x1 : Int32) (f2 : Nat) (M : zm_M) : fn_fl_arrive [.inr (18, 0), .inl x1, .inr (23, f2)] M = (if x1 < (M 5 0 9) then if x1 < 0 ∨ 50 ≤ x1.toNatClampNeg then none else if (M 21 0 x1.toNatClampNeg) = 0 then if x1 < 0 ∨ 50 ≤ x1.toNatClampNeg then none else if x1 < 0 ∨ 50 ≤ x1.toNatClampNeg then none else if x1 < 0 ∨ 50 ≤ x1.toNatClampNeg then none else (fn_fr_takeOver [.inr (23, x1.toNatClampNeg), .inr (23, f2)] (zm_up (zm_up M 21 0 x1.toNatClampNeg ((1 : Int32) &&& 1)) 22 0 x1.toNatClampNeg ((1 : Int32) &&& 1))).bind fun q1 => (some ((1 : Int32), q1)) else (fn_fl_joinAt [.inr (18, 0), .inl x1, .inr (23, f2)] M).bind fun q2 => if q2.1 = 0 ∨ q2.1 = 1 then some (q2.1, q2.2) else none else (some ((0 : Int32), M))) := by
  rw [er_fl_arrive]
  simp only [kz_I1, kz_I0, true_or, or_true, ↓reduceIte]
def rr_fl_begin (n pc : Nat) (lo : zm_L) (st : List zm_V) (M : zm_M) : Option zm_M := zm_rn zt_Y lx_fl_begin zr_v cd_fl_begin n pc lo st M
set_option maxRecDepth 20000 in
theorem eq_fl_begin  (M : zm_M) : fn_fl_begin [.inr (18, 0)] M = rr_fl_begin 1073741824 0 [some (.inr (18, 0)), none] [] M := rfl
set_option maxRecDepth 20000 in
theorem so_fl_begin : cd_fl_begin.Pairwise (fun a b => a.1 < b.1) := by decide +kernel
set_option maxRecDepth 20000 in
theorem er_fl_begin_0 (kt bk : Nat → zm_L → List zm_V → zm_M → Option zm_M)  (M : zm_M) : zm_gc zt_Y lx_fl_begin zr_v [2] kt bk (cd_fl_begin.drop 0) 0 [some (.inr (18, 0)), none] [] M = (kt 2 [some (.inr (18, 0)), some (.inl (Int32.ofInt 0))] [] M) := rfl
set_option maxRecDepth 20000 in
theorem eq_fl_begin_0 (n : Nat)  (M : zm_M) : rr_fl_begin (n + 1) 0 [some (.inr (18, 0)), none] [] M = (rr_fl_begin (n + 1) 2 [some (.inr (18, 0)), some (.inl (0 : Int32))] [] M) := by
  have h := (zm_gc_ok (cd_fl_begin.take 0) (cd_fl_begin.drop 0) (List.take_append_drop 0 cd_fl_begin).symm so_fl_begin (by decide +kernel)).symm.trans (er_fl_begin_0 (rr_fl_begin (n + 1)) (rr_fl_begin n)  M)
  simp only [kz_I0] at h
  exact h
set_option maxRecDepth 20000 in
theorem er_fl_begin_2 (kt bk : Nat → zm_L → List zm_V → zm_M → Option zm_M) (v1 : Int32) (M : zm_M) : zm_gc zt_Y lx_fl_begin zr_v [2] kt bk (cd_fl_begin.drop 2) 2 [some (.inr (18, 0)), some (.inl v1)] [] M = (if v1 < ((Int8.ofInt 50).toInt32) then if v1 < 0 ∨ 50 ≤ v1.toNatClampNeg then none else if v1 < 0 ∨ 50 ≤ v1.toNatClampNeg then none else bk 2 [some (.inr (18, 0)), some (.inl (v1 + (Int32.ofInt 1)))] [] (zm_up (zm_up M 21 0 v1.toNatClampNeg ((Int32.ofInt 0) &&& 1)) 22 0 v1.toNatClampNeg ((Int32.ofInt 0) &&& 1)) else (fn_pr_enter [.inr (5, 0), .inr (23, 100)] M).bind fun q1 => (fn_fl_arrive [.inr (18, 0), .inl (Int32.ofInt 0), .inr (23, 100)] q1).bind fun q2 => some q2.2) := rfl
set_option maxRecDepth 20000 in
theorem eq_fl_begin_2 (n : Nat) (v1 : Int32) (M : zm_M) : rr_fl_begin (n + 1) 2 [some (.inr (18, 0)), some (.inl v1)] [] M = (if v1 < (50 : Int32) then if v1 < 0 ∨ 50 ≤ v1.toNatClampNeg then none else if v1 < 0 ∨ 50 ≤ v1.toNatClampNeg then none else rr_fl_begin n 2 [some (.inr (18, 0)), some (.inl (v1 + (1 : Int32)))] [] (zm_up (zm_up M 21 0 v1.toNatClampNeg ((0 : Int32) &&& 1)) 22 0 v1.toNatClampNeg ((0 : Int32) &&& 1)) else (fn_pr_enter [.inr (5, 0), .inr (23, 100)] M).bind fun q1 => (fn_fl_arrive [.inr (18, 0), .inl (0 : Int32), .inr (23, 100)] q1).bind fun q2 => some q2.2) := by
  have h := (zm_gc_ok (cd_fl_begin.take 2) (cd_fl_begin.drop 2) (List.take_append_drop 2 cd_fl_begin).symm so_fl_begin (by decide +kernel)).symm.trans (er_fl_begin_2 (rr_fl_begin (n + 1)) (rr_fl_begin n) v1 M)
  simp only [kz_B50, kz_I1, kz_I0] at h
  exact h
def rr_pr_isGuarded (n pc : Nat) (lo : zm_L) (st : List zm_V) (M : zm_M) : Option (Int32 × zm_M) := zm_rn zt_Y lx_pr_isGuarded zr_z cd_pr_isGuarded n pc lo st M
set_option maxRecDepth 20000 in
theorem er_pr_isGuarded (x1 : Int32) (x2 : Int32) (M : zm_M) : fn_pr_isGuarded [.inr (5, 0), .inl x1, .inl x2] M = (if x2 < 0 ∨ 4 ≤ x2.toNatClampNeg then none else if x1 < (M 11 0 x2.toNatClampNeg) then (if (Int32.ofInt 0) = 0 ∨ (Int32.ofInt 0) = 1 then some ((Int32.ofInt 0), M) else none) else if x2 < 0 ∨ 4 ≤ x2.toNatClampNeg then none else if x1 < (M 12 0 x2.toNatClampNeg) then (if (Int32.ofInt 1) = 0 ∨ (Int32.ofInt 1) = 1 then some ((Int32.ofInt 1), M) else none) else (if (Int32.ofInt 0) = 0 ∨ (Int32.ofInt 0) = 1 then some ((Int32.ofInt 0), M) else none)) := rfl
set_option maxRecDepth 20000 in
theorem eq_pr_isGuarded (x1 : Int32) (x2 : Int32) (M : zm_M) : fn_pr_isGuarded [.inr (5, 0), .inl x1, .inl x2] M = (if x2 < 0 ∨ 4 ≤ x2.toNatClampNeg then none else if x1 < (M 11 0 x2.toNatClampNeg) then (some ((0 : Int32), M)) else if x2 < 0 ∨ 4 ≤ x2.toNatClampNeg then none else if x1 < (M 12 0 x2.toNatClampNeg) then (some ((1 : Int32), M)) else (some ((0 : Int32), M))) := by
  rw [er_pr_isGuarded]
  simp only [kz_I0, kz_I1, true_or, or_true, ↓reduceIte]
def rr_fr_push (n pc : Nat) (lo : zm_L) (st : List zm_V) (M : zm_M) : Option (Int32 × zm_M) := zm_rn zt_Y lx_fr_push zr_z cd_fr_push n pc lo st M
set_option maxRecDepth 20000 in
theorem er_fr_push (f0 : Nat) (x1 : Int32) (M : zm_M) : fn_fr_push [.inr (23, f0), .inl x1] M = ((fn_mf_widthOf [.inl x1] M).bind fun q1 => if ((Int8.ofInt 8).toInt32) < ((q1.2 23 f0 3) + q1.1) then (if (Int32.ofInt 0) = 0 ∨ (Int32.ofInt 0) = 1 then some ((Int32.ofInt 0), q1.2) else none) else if (q1.2 23 f0 2) < 0 ∨ 8 ≤ (q1.2 23 f0 2).toNatClampNeg then none else (if (Int32.ofInt 1) = 0 ∨ (Int32.ofInt 1) = 1 then some ((Int32.ofInt 1), zm_up (zm_up (zm_up q1.2 25 f0 ((q1.2 23 f0 2).toNatClampNeg) x1) 23 f0 2 ((q1.2 23 f0 2) + (Int32.ofInt 1))) 23 f0 3 ((q1.2 23 f0 3) + q1.1)) else none)) := rfl
set_option maxRecDepth 20000 in
theorem eq_fr_push (f0 : Nat) (x1 : Int32) (M : zm_M) : fn_fr_push [.inr (23, f0), .inl x1] M = ((fn_mf_widthOf [.inl x1] M).bind fun q1 => if (8 : Int32) < ((q1.2 23 f0 3) + q1.1) then (some ((0 : Int32), q1.2)) else if (q1.2 23 f0 2) < 0 ∨ 8 ≤ (q1.2 23 f0 2).toNatClampNeg then none else (some ((1 : Int32), zm_up (zm_up (zm_up q1.2 25 f0 ((q1.2 23 f0 2).toNatClampNeg) x1) 23 f0 2 ((q1.2 23 f0 2) + (1 : Int32))) 23 f0 3 ((q1.2 23 f0 3) + q1.1)))) := by
  rw [er_fr_push]
  simp only [kz_B8, kz_I0, kz_I1, true_or, or_true, ↓reduceIte]
def rr_fr_takeOverForHandler (n pc : Nat) (lo : zm_L) (st : List zm_V) (M : zm_M) : Option zm_M := zm_rn zt_Y lx_fr_takeOverForHandler zr_v cd_fr_takeOverForHandler n pc lo st M
set_option maxRecDepth 20000 in
theorem er_fr_takeOverForHandler (f0 : Nat) (f1 : Nat) (x2 : Int32) (M : zm_M) : fn_fr_takeOverForHandler [.inr (23, f0), .inr (23, f1), .inl x2] M = ((fn_fr_takeOver [.inr (23, f0), .inr (23, f1)] M).bind fun q1 => (fn_fr_emptyStack [.inr (23, f0)] q1).bind fun q2 => (fn_mf_typeOf [.inl ((Int8.ofInt 7).toInt32), .inl x2] q2).bind fun q3 => (fn_fr_push [.inr (23, f0), .inl q3.1] q3.2).bind fun q4 => some q4.2) := rfl
set_option maxRecDepth 20000 in
theorem eq_fr_takeOverForHandler (f0 : Nat) (f1 : Nat) (x2 : Int32) (M : zm_M) : fn_fr_takeOverForHandler [.inr (23, f0), .inr (23, f1), .inl x2] M = ((fn_fr_takeOver [.inr (23, f0), .inr (23, f1)] M).bind fun q1 => (fn_fr_emptyStack [.inr (23, f0)] q1).bind fun q2 => (fn_mf_typeOf [.inl (7 : Int32), .inl x2] q2).bind fun q3 => (fn_fr_push [.inr (23, f0), .inl q3.1] q3.2).bind fun q4 => some q4.2) := by
  rw [er_fr_takeOverForHandler]
  simp only [kz_B7]
def rr_fl_leaveToHandlers (n pc : Nat) (lo : zm_L) (st : List zm_V) (M : zm_M) : Option (Int32 × zm_M) := zm_rn zt_Y lx_fl_leaveToHandlers zr_z cd_fl_leaveToHandlers n pc lo st M
set_option maxRecDepth 20000 in
theorem eq_fl_leaveToHandlers (x1 : Int32) (M : zm_M) : fn_fl_leaveToHandlers [.inr (18, 0), .inl x1] M = rr_fl_leaveToHandlers 1073741824 0 [some (.inr (18, 0)), some (.inl x1), none] [] M := rfl
set_option maxRecDepth 20000 in
theorem so_fl_leaveToHandlers : cd_fl_leaveToHandlers.Pairwise (fun a b => a.1 < b.1) := by decide +kernel
set_option maxRecDepth 20000 in
theorem er_fl_leaveToHandlers_0 (kt bk : Nat → zm_L → List zm_V → zm_M → Option (Int32 × zm_M)) (x1 : Int32) (M : zm_M) : zm_gc zt_Y lx_fl_leaveToHandlers zr_z [2] kt bk (cd_fl_leaveToHandlers.drop 0) 0 [some (.inr (18, 0)), some (.inl x1), none] [] M = (kt 2 [some (.inr (18, 0)), some (.inl x1), some (.inl (Int32.ofInt 0))] [] M) := rfl
set_option maxRecDepth 20000 in
theorem eq_fl_leaveToHandlers_0 (n : Nat) (x1 : Int32) (M : zm_M) : rr_fl_leaveToHandlers (n + 1) 0 [some (.inr (18, 0)), some (.inl x1), none] [] M = (rr_fl_leaveToHandlers (n + 1) 2 [some (.inr (18, 0)), some (.inl x1), some (.inl (0 : Int32))] [] M) := by
  have h := (zm_gc_ok (cd_fl_leaveToHandlers.take 0) (cd_fl_leaveToHandlers.drop 0) (List.take_append_drop 0 cd_fl_leaveToHandlers).symm so_fl_leaveToHandlers (by decide +kernel)).symm.trans (er_fl_leaveToHandlers_0 (rr_fl_leaveToHandlers (n + 1)) (rr_fl_leaveToHandlers n) x1 M)
  simp only [kz_I0] at h
  exact h
set_option maxRecDepth 20000 in
theorem er_fl_leaveToHandlers_2 (kt bk : Nat → zm_L → List zm_V → zm_M → Option (Int32 × zm_M)) (v1 : Int32) (v2 : Int32) (M : zm_M) : zm_gc zt_Y lx_fl_leaveToHandlers zr_z [2] kt bk (cd_fl_leaveToHandlers.drop 2) 2 [some (.inr (18, 0)), some (.inl v1), some (.inl v2)] [] M = (if v2 < (M 5 0 14) then (fn_pr_isGuarded [.inr (5, 0), .inl v1, .inl v2] M).bind fun q1 => if q1.1 = 0 then bk 2 [some (.inr (18, 0)), some (.inl v1), some (.inl (v2 + (Int32.ofInt 1)))] [] q1.2 else if v1 < 0 ∨ 50 ≤ v1.toNatClampNeg then none else if v2 < 0 ∨ 4 ≤ v2.toNatClampNeg then none else (fn_fr_takeOverForHandler [.inr (23, 100), .inr (23, v1.toNatClampNeg), .inl (q1.2 14 0 v2.toNatClampNeg)] q1.2).bind fun q2 => if v2 < 0 ∨ 4 ≤ v2.toNatClampNeg then none else (fn_fl_arrive [.inr (18, 0), .inl (q2 13 0 v2.toNatClampNeg), .inr (23, 100)] q2).bind fun q3 => if q3.1 = 0 then (if (Int32.ofInt 0) = 0 ∨ (Int32.ofInt 0) = 1 then some ((Int32.ofInt 0), q3.2) else none) else bk 2 [some (.inr (18, 0)), some (.inl v1), some (.inl (v2 + (Int32.ofInt 1)))] [] q3.2 else (if (Int32.ofInt 1) = 0 ∨ (Int32.ofInt 1) = 1 then some ((Int32.ofInt 1), M) else none)) := rfl
set_option maxRecDepth 20000 in
theorem eq_fl_leaveToHandlers_2 (n : Nat) (v1 : Int32) (v2 : Int32) (M : zm_M) : rr_fl_leaveToHandlers (n + 1) 2 [some (.inr (18, 0)), some (.inl v1), some (.inl v2)] [] M = (if v2 < (M 5 0 14) then (fn_pr_isGuarded [.inr (5, 0), .inl v1, .inl v2] M).bind fun q1 => if q1.1 = 0 then rr_fl_leaveToHandlers n 2 [some (.inr (18, 0)), some (.inl v1), some (.inl (v2 + (1 : Int32)))] [] q1.2 else if v1 < 0 ∨ 50 ≤ v1.toNatClampNeg then none else if v2 < 0 ∨ 4 ≤ v2.toNatClampNeg then none else (fn_fr_takeOverForHandler [.inr (23, 100), .inr (23, v1.toNatClampNeg), .inl (q1.2 14 0 v2.toNatClampNeg)] q1.2).bind fun q2 => if v2 < 0 ∨ 4 ≤ v2.toNatClampNeg then none else (fn_fl_arrive [.inr (18, 0), .inl (q2 13 0 v2.toNatClampNeg), .inr (23, 100)] q2).bind fun q3 => if q3.1 = 0 then (some ((0 : Int32), q3.2)) else rr_fl_leaveToHandlers n 2 [some (.inr (18, 0)), some (.inl v1), some (.inl (v2 + (1 : Int32)))] [] q3.2 else (some ((1 : Int32), M))) := by
  have h := (zm_gc_ok (cd_fl_leaveToHandlers.take 2) (cd_fl_leaveToHandlers.drop 2) (List.take_append_drop 2 cd_fl_leaveToHandlers).symm so_fl_leaveToHandlers (by decide +kernel)).symm.trans (er_fl_leaveToHandlers_2 (rr_fl_leaveToHandlers (n + 1)) (rr_fl_leaveToHandlers n) v1 v2 M)
  simp only [kz_I1, kz_I0, true_or, or_true, ↓reduceIte] at h
  exact h
def rr_fr_peek (n pc : Nat) (lo : zm_L) (st : List zm_V) (M : zm_M) : Option (Int32 × zm_M) := zm_rn zt_Y lx_fr_peek zr_i cd_fr_peek n pc lo st M
set_option maxRecDepth 20000 in
theorem er_fr_peek (f0 : Nat) (x1 : Int32) (M : zm_M) : fn_fr_peek [.inr (23, f0), .inl x1] M = (if x1 < (M 23 f0 2) then if (((M 23 f0 2) - (Int32.ofInt 1)) - x1) < 0 ∨ 8 ≤ (((M 23 f0 2) - (Int32.ofInt 1)) - x1).toNatClampNeg then none else some (M 25 f0 ((((M 23 f0 2) - (Int32.ofInt 1)) - x1).toNatClampNeg), M) else some ((Int32.ofInt (-1)), M)) := rfl
set_option maxRecDepth 20000 in
theorem eq_fr_peek (f0 : Nat) (x1 : Int32) (M : zm_M) : fn_fr_peek [.inr (23, f0), .inl x1] M = (if x1 < (M 23 f0 2) then if (((M 23 f0 2) - (1 : Int32)) - x1) < 0 ∨ 8 ≤ (((M 23 f0 2) - (1 : Int32)) - x1).toNatClampNeg then none else some (M 25 f0 ((((M 23 f0 2) - (1 : Int32)) - x1).toNatClampNeg), M) else some ((-1 : Int32), M)) := by
  rw [er_fr_peek]
  simp only [kz_I1, kz_Im1]
def rr_fr_drop (n pc : Nat) (lo : zm_L) (st : List zm_V) (M : zm_M) : Option zm_M := zm_rn zt_Y lx_fr_drop zr_v cd_fr_drop n pc lo st M
set_option maxRecDepth 20000 in
theorem er_fr_drop (f0 : Nat) (M : zm_M) : fn_fr_drop [.inr (23, f0)] M = (if (0 : Int32) < (M 23 f0 2) then if ((zm_up M 23 f0 2 ((M 23 f0 2) - (Int32.ofInt 1))) 23 f0 2) < 0 ∨ 8 ≤ ((zm_up M 23 f0 2 ((M 23 f0 2) - (Int32.ofInt 1))) 23 f0 2).toNatClampNeg then none else (fn_mf_widthOf [.inl (M 25 f0 (((zm_up M 23 f0 2 ((M 23 f0 2) - (Int32.ofInt 1))) 23 f0 2).toNatClampNeg))] (zm_up M 23 f0 2 ((M 23 f0 2) - (Int32.ofInt 1)))).bind fun q1 => some (zm_up q1.2 23 f0 3 ((M 23 f0 3) - q1.1)) else some M) := rfl
set_option maxRecDepth 20000 in
theorem eq_fr_drop (f0 : Nat) (M : zm_M) : fn_fr_drop [.inr (23, f0)] M = (if (0 : Int32) < (M 23 f0 2) then if ((zm_up M 23 f0 2 ((M 23 f0 2) - (1 : Int32))) 23 f0 2) < 0 ∨ 8 ≤ ((zm_up M 23 f0 2 ((M 23 f0 2) - (1 : Int32))) 23 f0 2).toNatClampNeg then none else (fn_mf_widthOf [.inl (M 25 f0 (((zm_up M 23 f0 2 ((M 23 f0 2) - (1 : Int32))) 23 f0 2).toNatClampNeg))] (zm_up M 23 f0 2 ((M 23 f0 2) - (1 : Int32)))).bind fun q1 => some (zm_up q1.2 23 f0 3 ((M 23 f0 3) - q1.1)) else some M) := by
  rw [er_fr_drop]
  simp only [kz_I1]
def rr_fr_take (n pc : Nat) (lo : zm_L) (st : List zm_V) (M : zm_M) : Option (Int32 × zm_M) := zm_rn zt_Y lx_fr_take zr_z cd_fr_take n pc lo st M
set_option maxRecDepth 20000 in
theorem er_fr_take (f0 : Nat) (x1 : Int32) (M : zm_M) : fn_fr_take [.inr (23, f0), .inl x1] M = ((fn_fr_peek [.inr (23, f0), .inl (Int32.ofInt 0)] M).bind fun q1 => if q1.1 = x1 then (fn_fr_drop [.inr (23, f0)] q1.2).bind fun q2 => (if (Int32.ofInt 1) = 0 ∨ (Int32.ofInt 1) = 1 then some ((Int32.ofInt 1), q2) else none) else (if (Int32.ofInt 0) = 0 ∨ (Int32.ofInt 0) = 1 then some ((Int32.ofInt 0), q1.2) else none)) := rfl
set_option maxRecDepth 20000 in
theorem eq_fr_take (f0 : Nat) (x1 : Int32) (M : zm_M) : fn_fr_take [.inr (23, f0), .inl x1] M = ((fn_fr_peek [.inr (23, f0), .inl (0 : Int32)] M).bind fun q1 => if q1.1 = x1 then (fn_fr_drop [.inr (23, f0)] q1.2).bind fun q2 => (some ((1 : Int32), q2)) else (some ((0 : Int32), q1.2))) := by
  rw [er_fr_take]
  simp only [kz_I0, kz_I1, true_or, or_true, ↓reduceIte]
def rr_mf_isSmall (n pc : Nat) (lo : zm_L) (st : List zm_V) (M : zm_M) : Option (Int32 × zm_M) := zm_rn zt_Y lx_mf_isSmall zr_z cd_mf_isSmall n pc lo st M
set_option maxRecDepth 20000 in
theorem er_mf_isSmall (x0 : Int32) (M : zm_M) : fn_mf_isSmall [.inl x0] M = ((fn_mf_kindOf [.inl x0] M).bind fun q1 => if q1.1 = (Int32.ofInt 1) then (if (Int32.ofInt 1) = 0 ∨ (Int32.ofInt 1) = 1 then some ((Int32.ofInt 1), q1.2) else none) else if q1.1 = (Int32.ofInt 2) then (if (Int32.ofInt 1) = 0 ∨ (Int32.ofInt 1) = 1 then some ((Int32.ofInt 1), q1.2) else none) else if q1.1 < (Int32.ofInt 5) then (if (Int32.ofInt 0) = 0 ∨ (Int32.ofInt 0) = 1 then some ((Int32.ofInt 0), q1.2) else none) else if ((Int8.ofInt 8).toInt32) < q1.1 then (if (Int32.ofInt 0) = 0 ∨ (Int32.ofInt 0) = 1 then some ((Int32.ofInt 0), q1.2) else none) else (if (Int32.ofInt 1) = 0 ∨ (Int32.ofInt 1) = 1 then some ((Int32.ofInt 1), q1.2) else none)) := rfl
set_option maxRecDepth 20000 in
theorem eq_mf_isSmall (x0 : Int32) (M : zm_M) : fn_mf_isSmall [.inl x0] M = ((fn_mf_kindOf [.inl x0] M).bind fun q1 => if q1.1 = (1 : Int32) then (some ((1 : Int32), q1.2)) else if q1.1 = (2 : Int32) then (some ((1 : Int32), q1.2)) else if q1.1 < (5 : Int32) then (some ((0 : Int32), q1.2)) else if (8 : Int32) < q1.1 then (some ((0 : Int32), q1.2)) else (some ((1 : Int32), q1.2))) := by
  rw [er_mf_isSmall]
  simp only [kz_I1, kz_I2, kz_I5, kz_I0, kz_B8, true_or, or_true, ↓reduceIte]
def rr_ma_stepOne (n pc : Nat) (lo : zm_L) (st : List zm_V) (M : zm_M) : Option (Int32 × zm_M) := zm_rn zt_Y lx_ma_stepOne zr_z cd_ma_stepOne n pc lo st M
set_option maxRecDepth 20000 in
theorem er_ma_stepOne (x1 : Int32) (x2 : Int32) (f3 : Nat) (M : zm_M) : fn_ma_stepOne [.inr (17, 0), .inl x1, .inl x2, .inr (23, f3)] M = (if x1 = ((Int8.ofInt 8).toInt32) then (fn_fr_push [.inr (23, f3), .inl x2] M).bind fun q2 => if q2.1 = 0 ∨ q2.1 = 1 then some (q2.1, q2.2) else none else (fn_fr_drop [.inr (23, f3)] M).bind fun q1 => (if (Int32.ofInt 1) = 0 ∨ (Int32.ofInt 1) = 1 then some ((Int32.ofInt 1), q1) else none)) := rfl
set_option maxRecDepth 20000 in
theorem eq_ma_stepOne (x1 : Int32) (x2 : Int32) (f3 : Nat) (M : zm_M) : fn_ma_stepOne [.inr (17, 0), .inl x1, .inl x2, .inr (23, f3)] M = (if x1 = (8 : Int32) then (fn_fr_push [.inr (23, f3), .inl x2] M).bind fun q2 => if q2.1 = 0 ∨ q2.1 = 1 then some (q2.1, q2.2) else none else (fn_fr_drop [.inr (23, f3)] M).bind fun q1 => (some ((1 : Int32), q1))) := by
  rw [er_ma_stepOne]
  simp only [kz_B8, kz_I1, true_or, or_true, ↓reduceIte]
def rr_fr_swap (n pc : Nat) (lo : zm_L) (st : List zm_V) (M : zm_M) : Option zm_M := zm_rn zt_Y lx_fr_swap zr_v cd_fr_swap n pc lo st M
set_option maxRecDepth 20000 in
theorem er_fr_swap (f0 : Nat) (M : zm_M) : fn_fr_swap [.inr (23, f0)] M = (if (Int32.ofInt 1) < (M 23 f0 2) then if ((M 23 f0 2) - (Int32.ofInt 1)) < 0 ∨ 8 ≤ ((M 23 f0 2) - (Int32.ofInt 1)).toNatClampNeg then none else if ((M 23 f0 2) - (Int32.ofInt 2)) < 0 ∨ 8 ≤ ((M 23 f0 2) - (Int32.ofInt 2)).toNatClampNeg then none else if ((M 23 f0 2) - (Int32.ofInt 1)) < 0 ∨ 8 ≤ ((M 23 f0 2) - (Int32.ofInt 1)).toNatClampNeg then none else if ((M 23 f0 2) - (Int32.ofInt 2)) < 0 ∨ 8 ≤ ((M 23 f0 2) - (Int32.ofInt 2)).toNatClampNeg then none else some (zm_up (zm_up M 25 f0 (((M 23 f0 2) - (Int32.ofInt 1)).toNatClampNeg) (M 25 f0 (((M 23 f0 2) - (Int32.ofInt 2)).toNatClampNeg))) 25 f0 (((M 23 f0 2) - (Int32.ofInt 2)).toNatClampNeg) (M 25 f0 (((M 23 f0 2) - (Int32.ofInt 1)).toNatClampNeg))) else some M) := rfl
set_option maxRecDepth 20000 in
theorem eq_fr_swap (f0 : Nat) (M : zm_M) : fn_fr_swap [.inr (23, f0)] M = (if (1 : Int32) < (M 23 f0 2) then if ((M 23 f0 2) - (1 : Int32)) < 0 ∨ 8 ≤ ((M 23 f0 2) - (1 : Int32)).toNatClampNeg then none else if ((M 23 f0 2) - (2 : Int32)) < 0 ∨ 8 ≤ ((M 23 f0 2) - (2 : Int32)).toNatClampNeg then none else if ((M 23 f0 2) - (1 : Int32)) < 0 ∨ 8 ≤ ((M 23 f0 2) - (1 : Int32)).toNatClampNeg then none else if ((M 23 f0 2) - (2 : Int32)) < 0 ∨ 8 ≤ ((M 23 f0 2) - (2 : Int32)).toNatClampNeg then none else some (zm_up (zm_up M 25 f0 (((M 23 f0 2) - (1 : Int32)).toNatClampNeg) (M 25 f0 (((M 23 f0 2) - (2 : Int32)).toNatClampNeg))) 25 f0 (((M 23 f0 2) - (2 : Int32)).toNatClampNeg) (M 25 f0 (((M 23 f0 2) - (1 : Int32)).toNatClampNeg))) else some M) := by
  rw [er_fr_swap]
  simp only [kz_I1, kz_I2]
def rr_ma_stepTwo (n pc : Nat) (lo : zm_L) (st : List zm_V) (M : zm_M) : Option (Int32 × zm_M) := zm_rn zt_Y lx_ma_stepTwo zr_z cd_ma_stepTwo n pc lo st M
set_option maxRecDepth 20000 in
theorem er_ma_stepTwo (x1 : Int32) (f2 : Nat) (M : zm_M) : fn_ma_stepTwo [.inr (17, 0), .inl x1, .inr (23, f2)] M = ((fn_fr_peek [.inr (23, f2), .inl (Int32.ofInt 1)] M).bind fun q1 => (fn_mf_isSmall [.inl q1.1] q1.2).bind fun q2 => if q2.1 = 0 then (if (Int32.ofInt 0) = 0 ∨ (Int32.ofInt 0) = 1 then some ((Int32.ofInt 0), q2.2) else none) else if x1 = ((Int8.ofInt 9).toInt32) then (fn_fr_swap [.inr (23, f2)] q2.2).bind fun q5 => (if (Int32.ofInt 1) = 0 ∨ (Int32.ofInt 1) = 1 then some ((Int32.ofInt 1), q5) else none) else (fn_fr_drop [.inr (23, f2)] q2.2).bind fun q3 => (fn_fr_drop [.inr (23, f2)] q3).bind fun q4 => (if (Int32.ofInt 1) = 0 ∨ (Int32.ofInt 1) = 1 then some ((Int32.ofInt 1), q4) else none)) := rfl
set_option maxRecDepth 20000 in
theorem eq_ma_stepTwo (x1 : Int32) (f2 : Nat) (M : zm_M) : fn_ma_stepTwo [.inr (17, 0), .inl x1, .inr (23, f2)] M = ((fn_fr_peek [.inr (23, f2), .inl (1 : Int32)] M).bind fun q1 => (fn_mf_isSmall [.inl q1.1] q1.2).bind fun q2 => if q2.1 = 0 then (some ((0 : Int32), q2.2)) else if x1 = (9 : Int32) then (fn_fr_swap [.inr (23, f2)] q2.2).bind fun q5 => (some ((1 : Int32), q5)) else (fn_fr_drop [.inr (23, f2)] q2.2).bind fun q3 => (fn_fr_drop [.inr (23, f2)] q3).bind fun q4 => (some ((1 : Int32), q4))) := by
  rw [er_ma_stepTwo]
  simp only [kz_I1, kz_I0, kz_B9, true_or, or_true, ↓reduceIte]
def rr_ma_stepOnStack (n pc : Nat) (lo : zm_L) (st : List zm_V) (M : zm_M) : Option (Int32 × zm_M) := zm_rn zt_Y lx_ma_stepOnStack zr_z cd_ma_stepOnStack n pc lo st M
set_option maxRecDepth 20000 in
theorem er_ma_stepOnStack (x1 : Int32) (f2 : Nat) (M : zm_M) : fn_ma_stepOnStack [.inr (17, 0), .inl x1, .inr (23, f2)] M = (if x1 = 0 then (if (Int32.ofInt 1) = 0 ∨ (Int32.ofInt 1) = 1 then some ((Int32.ofInt 1), M) else none) else if (Int32.ofInt 5) < x1 then if x1 < ((Int8.ofInt 10).toInt32) then (fn_fr_peek [.inr (23, f2), .inl (Int32.ofInt 0)] M).bind fun q1 => if x1 = ((Int8.ofInt 7).toInt32) then (fn_mf_widthOf [.inl q1.1] q1.2).bind fun q6 => if q6.1 = (Int32.ofInt 2) then (fn_fr_drop [.inr (23, f2)] q6.2).bind fun q11 => (if (Int32.ofInt 1) = 0 ∨ (Int32.ofInt 1) = 1 then some ((Int32.ofInt 1), q11) else none) else (fn_mf_isSmall [.inl q1.1] q6.2).bind fun q7 => if q7.1 = 0 then (if (Int32.ofInt 0) = 0 ∨ (Int32.ofInt 0) = 1 then some ((Int32.ofInt 0), q7.2) else none) else if x1 = ((Int8.ofInt 6).toInt32) then (fn_ma_stepOne [.inr (17, 0), .inl x1, .inl q1.1, .inr (23, f2)] q7.2).bind fun q8 => if q8.1 = 0 ∨ q8.1 = 1 then some (q8.1, q8.2) else none else if x1 = ((Int8.ofInt 8).toInt32) then (fn_ma_stepOne [.inr (17, 0), .inl x1, .inl q1.1, .inr (23, f2)] q7.2).bind fun q10 => if q10.1 = 0 ∨ q10.1 = 1 then some (q10.1, q10.2) else none else (fn_ma_stepTwo [.inr (17, 0), .inl x1, .inr (23, f2)] q7.2).bind fun q9 => if q9.1 = 0 ∨ q9.1 = 1 then some (q9.1, q9.2) else none else (fn_mf_isSmall [.inl q1.1] q1.2).bind fun q2 => if q2.1 = 0 then (if (Int32.ofInt 0) = 0 ∨ (Int32.ofInt 0) = 1 then some ((Int32.ofInt 0), q2.2) else none) else if x1 = ((Int8.ofInt 6).toInt32) then (fn_ma_stepOne [.inr (17, 0), .inl x1, .inl q1.1, .inr (23, f2)] q2.2).bind fun q3 => if q3.1 = 0 ∨ q3.1 = 1 then some (q3.1, q3.2) else none else if x1 = ((Int8.ofInt 8).toInt32) then (fn_ma_stepOne [.inr (17, 0), .inl x1, .inl q1.1, .inr (23, f2)] q2.2).bind fun q5 => if q5.1 = 0 ∨ q5.1 = 1 then some (q5.1, q5.2) else none else (fn_ma_stepTwo [.inr (17, 0), .inl x1, .inr (23, f2)] q2.2).bind fun q4 => if q4.1 = 0 ∨ q4.1 = 1 then some (q4.1, q4.2) else none else if (x1 - ((Int8.ofInt 10).toInt32)) < 0 ∨ 5 ≤ (x1 - ((Int8.ofInt 10).toInt32)).toNatClampNeg then none else (fn_fr_take [.inr (23, f2), .inl (zn_at ly_t ((x1 - ((Int8.ofInt 10).toInt32)).toNatClampNeg) 0)] M).bind fun q12 => if q12.1 = 0 then (if (Int32.ofInt 0) = 0 ∨ (Int32.ofInt 0) = 1 then some ((Int32.ofInt 0), q12.2) else none) else (fn_fr_take [.inr (23, f2), .inl (zn_at ly_t ((x1 - ((Int8.ofInt 10).toInt32)).toNatClampNeg) 0)] q12.2).bind fun q13 => if q13.1 = 0 then (if (Int32.ofInt 0) = 0 ∨ (Int32.ofInt 0) = 1 then some ((Int32.ofInt 0), q13.2) else none) else (fn_fr_push [.inr (23, f2), .inl (zn_at ly_t ((x1 - ((Int8.ofInt 10).toInt32)).toNatClampNeg) 0)] q13.2).bind fun q14 => if q14.1 = 0 then (if (Int32.ofInt 0) = 0 ∨ (Int32.ofInt 0) = 1 then some ((Int32.ofInt 0), q14.2) else none) else (if (Int32.ofInt 1) = 0 ∨ (Int32.ofInt 1) = 1 then some ((Int32.ofInt 1), q14.2) else none) else (fn_fr_push [.inr (23, f2), .inl x1] M).bind fun q15 => if q15.1 = 0 ∨ q15.1 = 1 then some (q15.1, q15.2) else none) := rfl
set_option maxRecDepth 20000 in
theorem eq_ma_stepOnStack (x1 : Int32) (f2 : Nat) (M : zm_M) : fn_ma_stepOnStack [.inr (17, 0), .inl x1, .inr (23, f2)] M = (if x1 = 0 then (some ((1 : Int32), M)) else if (5 : Int32) < x1 then if x1 < (10 : Int32) then (fn_fr_peek [.inr (23, f2), .inl (0 : Int32)] M).bind fun q1 => if x1 = (7 : Int32) then (fn_mf_widthOf [.inl q1.1] q1.2).bind fun q6 => if q6.1 = (2 : Int32) then (fn_fr_drop [.inr (23, f2)] q6.2).bind fun q11 => (some ((1 : Int32), q11)) else (fn_mf_isSmall [.inl q1.1] q6.2).bind fun q7 => if q7.1 = 0 then (some ((0 : Int32), q7.2)) else if x1 = (6 : Int32) then (fn_ma_stepOne [.inr (17, 0), .inl x1, .inl q1.1, .inr (23, f2)] q7.2).bind fun q8 => if q8.1 = 0 ∨ q8.1 = 1 then some (q8.1, q8.2) else none else if x1 = (8 : Int32) then (fn_ma_stepOne [.inr (17, 0), .inl x1, .inl q1.1, .inr (23, f2)] q7.2).bind fun q10 => if q10.1 = 0 ∨ q10.1 = 1 then some (q10.1, q10.2) else none else (fn_ma_stepTwo [.inr (17, 0), .inl x1, .inr (23, f2)] q7.2).bind fun q9 => if q9.1 = 0 ∨ q9.1 = 1 then some (q9.1, q9.2) else none else (fn_mf_isSmall [.inl q1.1] q1.2).bind fun q2 => if q2.1 = 0 then (some ((0 : Int32), q2.2)) else if x1 = (6 : Int32) then (fn_ma_stepOne [.inr (17, 0), .inl x1, .inl q1.1, .inr (23, f2)] q2.2).bind fun q3 => if q3.1 = 0 ∨ q3.1 = 1 then some (q3.1, q3.2) else none else if x1 = (8 : Int32) then (fn_ma_stepOne [.inr (17, 0), .inl x1, .inl q1.1, .inr (23, f2)] q2.2).bind fun q5 => if q5.1 = 0 ∨ q5.1 = 1 then some (q5.1, q5.2) else none else (fn_ma_stepTwo [.inr (17, 0), .inl x1, .inr (23, f2)] q2.2).bind fun q4 => if q4.1 = 0 ∨ q4.1 = 1 then some (q4.1, q4.2) else none else if (x1 - (10 : Int32)) < 0 ∨ 5 ≤ (x1 - (10 : Int32)).toNatClampNeg then none else (fn_fr_take [.inr (23, f2), .inl (zn_at ly_t ((x1 - (10 : Int32)).toNatClampNeg) 0)] M).bind fun q12 => if q12.1 = 0 then (some ((0 : Int32), q12.2)) else (fn_fr_take [.inr (23, f2), .inl (zn_at ly_t ((x1 - (10 : Int32)).toNatClampNeg) 0)] q12.2).bind fun q13 => if q13.1 = 0 then (some ((0 : Int32), q13.2)) else (fn_fr_push [.inr (23, f2), .inl (zn_at ly_t ((x1 - (10 : Int32)).toNatClampNeg) 0)] q13.2).bind fun q14 => if q14.1 = 0 then (some ((0 : Int32), q14.2)) else (some ((1 : Int32), q14.2)) else (fn_fr_push [.inr (23, f2), .inl x1] M).bind fun q15 => if q15.1 = 0 ∨ q15.1 = 1 then some (q15.1, q15.2) else none) := by
  rw [er_ma_stepOnStack]
  simp only [kz_I1, kz_I5, kz_B10, kz_I0, kz_B7, kz_I2, kz_B6, kz_B8, true_or, or_true, ↓reduceIte]
def rr_fa_is (n pc : Nat) (lo : zm_L) (st : List zm_V) (M : zm_M) : Option (Int32 × zm_M) := zm_rn zt_Y lx_fa_is zr_z cd_fa_is n pc lo st M
set_option maxRecDepth 20000 in
theorem er_fa_is (x1 : Int32) (x2 : Int32) (M : zm_M) : fn_fa_is [.inr (1, 0), .inl x1, .inl x2] M = (if x1 = x2 then (if (Int32.ofInt 1) = 0 ∨ (Int32.ofInt 1) = 1 then some ((Int32.ofInt 1), M) else none) else if x2 = 0 then (if (Int32.ofInt 1) = 0 ∨ (Int32.ofInt 1) = 1 then some ((Int32.ofInt 1), M) else none) else (fn_mf_kindOf [.inl x2] M).bind fun q1 => if q1.1 = ((Int8.ofInt 7).toInt32) then (fn_mf_partOf [.inl x2] q1.2).bind fun q2 => if x1 = (Int32.ofInt 5) then (if (Int32.ofInt 1) = 0 ∨ (Int32.ofInt 1) = 1 then some ((Int32.ofInt 1), q2.2) else none) else (fn_mf_kindOf [.inl x1] q2.2).bind fun q3 => if q3.1 = ((Int8.ofInt 7).toInt32) then if q2.1 < 0 ∨ 8 ≤ (q2.1).toNatClampNeg then none else if (q3.2 3 0 (q2.1).toNatClampNeg) = 0 then (fn_mf_partOf [.inl x1] q3.2).bind fun q4 => if q4.1 < 0 ∨ 8 ≤ (q4.1).toNatClampNeg then none else if (((q4.2 4 0 (q4.1).toNatClampNeg) >>> (q2.1 &&& 31)) &&& (Int32.ofInt 1)) = (Int32.ofInt 1) then (if (Int32.ofInt 1) = 0 ∨ (Int32.ofInt 1) = 1 then some ((Int32.ofInt 1), q4.2) else none) else (if (Int32.ofInt 0) = 0 ∨ (Int32.ofInt 0) = 1 then some ((Int32.ofInt 0), q4.2) else none) else (if (Int32.ofInt 1) = 0 ∨ (Int32.ofInt 1) = 1 then some ((Int32.ofInt 1), q3.2) else none) else (if (Int32.ofInt 0) = 0 ∨ (Int32.ofInt 0) = 1 then some ((Int32.ofInt 0), q3.2) else none) else (if (Int32.ofInt 0) = 0 ∨ (Int32.ofInt 0) = 1 then some ((Int32.ofInt 0), q1.2) else none)) := rfl
set_option maxRecDepth 20000 in
theorem eq_fa_is (x1 : Int32) (x2 : Int32) (M : zm_M) : fn_fa_is [.inr (1, 0), .inl x1, .inl x2] M = (if x1 = x2 then (some ((1 : Int32), M)) else if x2 = 0 then (some ((1 : Int32), M)) else (fn_mf_kindOf [.inl x2] M).bind fun q1 => if q1.1 = (7 : Int32) then (fn_mf_partOf [.inl x2] q1.2).bind fun q2 => if x1 = (5 : Int32) then (some ((1 : Int32), q2.2)) else (fn_mf_kindOf [.inl x1] q2.2).bind fun q3 => if q3.1 = (7 : Int32) then if q2.1 < 0 ∨ 8 ≤ (q2.1).toNatClampNeg then none else if (q3.2 3 0 (q2.1).toNatClampNeg) = 0 then (fn_mf_partOf [.inl x1] q3.2).bind fun q4 => if q4.1 < 0 ∨ 8 ≤ (q4.1).toNatClampNeg then none else if (((q4.2 4 0 (q4.1).toNatClampNeg) >>> (q2.1 &&& 31)) &&& (1 : Int32)) = (1 : Int32) then (some ((1 : Int32), q4.2)) else (some ((0 : Int32), q4.2)) else (some ((1 : Int32), q3.2)) else (some ((0 : Int32), q3.2)) else (some ((0 : Int32), q1.2))) := by
  rw [er_fa_is]
  simp only [kz_I1, kz_B7, kz_I5, kz_I0, true_or, or_true, ↓reduceIte]
def rr_ma_stepToOther (n pc : Nat) (lo : zm_L) (st : List zm_V) (M : zm_M) : Option (Int32 × zm_M) := zm_rn zt_Y lx_ma_stepToOther zr_z cd_ma_stepToOther n pc lo st M
set_option maxRecDepth 20000 in
theorem er_ma_stepToOther (x1 : Int32) (f2 : Nat) (M : zm_M) : fn_ma_stepToOther [.inr (17, 0), .inl x1, .inr (23, f2)] M = (if x1 = (Int32.ofInt 14) then (fn_fr_take [.inr (23, f2), .inl (Int32.ofInt 1)] M).bind fun q1 => if q1.1 = 0 then (if (Int32.ofInt 0) = 0 ∨ (Int32.ofInt 0) = 1 then some ((Int32.ofInt 0), q1.2) else none) else (fn_fr_push [.inr (23, f2), .inl (Int32.ofInt 4)] q1.2).bind fun q2 => if q2.1 = 0 then (if (Int32.ofInt 0) = 0 ∨ (Int32.ofInt 0) = 1 then some ((Int32.ofInt 0), q2.2) else none) else (if (Int32.ofInt 1) = 0 ∨ (Int32.ofInt 1) = 1 then some ((Int32.ofInt 1), q2.2) else none) else if x1 = (Int32.ofInt (14 + 1)) then (fn_fr_take [.inr (23, f2), .inl (Int32.ofInt 4)] M).bind fun q3 => if q3.1 = 0 then (if (Int32.ofInt 0) = 0 ∨ (Int32.ofInt 0) = 1 then some ((Int32.ofInt 0), q3.2) else none) else (fn_fr_push [.inr (23, f2), .inl (Int32.ofInt 1)] q3.2).bind fun q4 => if q4.1 = 0 then (if (Int32.ofInt 0) = 0 ∨ (Int32.ofInt 0) = 1 then some ((Int32.ofInt 0), q4.2) else none) else (if (Int32.ofInt 1) = 0 ∨ (Int32.ofInt 1) = 1 then some ((Int32.ofInt 1), q4.2) else none) else if x1 = (Int32.ofInt ((14 + 1) + 1)) then (fn_fr_take [.inr (23, f2), .inl (Int32.ofInt 1)] M).bind fun q5 => if q5.1 = 0 then (if (Int32.ofInt 0) = 0 ∨ (Int32.ofInt 0) = 1 then some ((Int32.ofInt 0), q5.2) else none) else (fn_fr_push [.inr (23, f2), .inl (Int32.ofInt 3)] q5.2).bind fun q6 => if q6.1 = 0 then (if (Int32.ofInt 0) = 0 ∨ (Int32.ofInt 0) = 1 then some ((Int32.ofInt 0), q6.2) else none) else (if (Int32.ofInt 1) = 0 ∨ (Int32.ofInt 1) = 1 then some ((Int32.ofInt 1), q6.2) else none) else if x1 = (Int32.ofInt (((14 + 1) + 1) + 1)) then (fn_fr_take [.inr (23, f2), .inl (Int32.ofInt 3)] M).bind fun q7 => if q7.1 = 0 then (if (Int32.ofInt 0) = 0 ∨ (Int32.ofInt 0) = 1 then some ((Int32.ofInt 0), q7.2) else none) else (fn_fr_push [.inr (23, f2), .inl (Int32.ofInt 1)] q7.2).bind fun q8 => if q8.1 = 0 then (if (Int32.ofInt 0) = 0 ∨ (Int32.ofInt 0) = 1 then some ((Int32.ofInt 0), q8.2) else none) else (if (Int32.ofInt 1) = 0 ∨ (Int32.ofInt 1) = 1 then some ((Int32.ofInt 1), q8.2) else none) else if x1 = (Int32.ofInt ((((14 + 1) + 1) + 1) + 1)) then if (M 5 0 2) = 0 then if (M 5 0 1) = (Int32.ofInt 2) then if (M 23 f2 4) = 0 then (if (Int32.ofInt 1) = 0 ∨ (Int32.ofInt 1) = 1 then some ((Int32.ofInt 1), M) else none) else (if (Int32.ofInt 0) = 0 ∨ (Int32.ofInt 0) = 1 then some ((Int32.ofInt 0), M) else none) else (if (Int32.ofInt 1) = 0 ∨ (Int32.ofInt 1) = 1 then some ((Int32.ofInt 1), M) else none) else (if (Int32.ofInt 0) = 0 ∨ (Int32.ofInt 0) = 1 then some ((Int32.ofInt 0), M) else none) else if x1 = (Int32.ofInt (((((14 + 1) + 1) + 1) + 1) + 1)) then if (M 5 0 2) = 0 then (if (Int32.ofInt 0) = 0 ∨ (Int32.ofInt 0) = 1 then some ((Int32.ofInt 0), M) else none) else (fn_fr_take [.inr (23, f2), .inl (Int32.ofInt 1)] M).bind fun q9 => if q9.1 = 0 then (if (Int32.ofInt 0) = 0 ∨ (Int32.ofInt 0) = 1 then some ((Int32.ofInt 0), q9.2) else none) else (if (Int32.ofInt 1) = 0 ∨ (Int32.ofInt 1) = 1 then some ((Int32.ofInt 1), q9.2) else none) else (fn_fr_peek [.inr (23, f2), .inl (Int32.ofInt 0)] M).bind fun q10 => (fn_fa_is [.inr (1, 0), .inl q10.1, .inl ((Int8.ofInt 7).toInt32)] q10.2).bind fun q11 => if q11.1 = 0 ∨ q11.1 = 1 then some (q11.1, q11.2) else none) := rfl
set_option maxRecDepth 20000 in
theorem eq_ma_stepToOther (x1 : Int32) (f2 : Nat) (M : zm_M) : fn_ma_stepToOther [.inr (17, 0), .inl x1, .inr (23, f2)] M = (if x1 = (14 : Int32) then (fn_fr_take [.inr (23, f2), .inl (1 : Int32)] M).bind fun q1 => if q1.1 = 0 then (some ((0 : Int32), q1.2)) else (fn_fr_push [.inr (23, f2), .inl (4 : Int32)] q1.2).bind fun q2 => if q2.1 = 0 then (some ((0 : Int32), q2.2)) else (some ((1 : Int32), q2.2)) else if x1 = (15 : Int32) then (fn_fr_take [.inr (23, f2), .inl (4 : Int32)] M).bind fun q3 => if q3.1 = 0 then (some ((0 : Int32), q3.2)) else (fn_fr_push [.inr (23, f2), .inl (1 : Int32)] q3.2).bind fun q4 => if q4.1 = 0 then (some ((0 : Int32), q4.2)) else (some ((1 : Int32), q4.2)) else if x1 = (16 : Int32) then (fn_fr_take [.inr (23, f2), .inl (1 : Int32)] M).bind fun q5 => if q5.1 = 0 then (some ((0 : Int32), q5.2)) else (fn_fr_push [.inr (23, f2), .inl (3 : Int32)] q5.2).bind fun q6 => if q6.1 = 0 then (some ((0 : Int32), q6.2)) else (some ((1 : Int32), q6.2)) else if x1 = (17 : Int32) then (fn_fr_take [.inr (23, f2), .inl (3 : Int32)] M).bind fun q7 => if q7.1 = 0 then (some ((0 : Int32), q7.2)) else (fn_fr_push [.inr (23, f2), .inl (1 : Int32)] q7.2).bind fun q8 => if q8.1 = 0 then (some ((0 : Int32), q8.2)) else (some ((1 : Int32), q8.2)) else if x1 = (18 : Int32) then if (M 5 0 2) = 0 then if (M 5 0 1) = (2 : Int32) then if (M 23 f2 4) = 0 then (some ((1 : Int32), M)) else (some ((0 : Int32), M)) else (some ((1 : Int32), M)) else (some ((0 : Int32), M)) else if x1 = (19 : Int32) then if (M 5 0 2) = 0 then (some ((0 : Int32), M)) else (fn_fr_take [.inr (23, f2), .inl (1 : Int32)] M).bind fun q9 => if q9.1 = 0 then (some ((0 : Int32), q9.2)) else (some ((1 : Int32), q9.2)) else (fn_fr_peek [.inr (23, f2), .inl (0 : Int32)] M).bind fun q10 => (fn_fa_is [.inr (1, 0), .inl q10.1, .inl (7 : Int32)] q10.2).bind fun q11 => if q11.1 = 0 ∨ q11.1 = 1 then some (q11.1, q11.2) else none) := by
  rw [er_ma_stepToOther]
  simp only [kz_T14_0, kz_I1, kz_I0, kz_I4, kz_T14_1, kz_T14_2, kz_I3, kz_T14_3, kz_T14_4, kz_I2, kz_T14_5, kz_B7, true_or, or_true, ↓reduceIte]
def rr_mf_isOfKind (n pc : Nat) (lo : zm_L) (st : List zm_V) (M : zm_M) : Option (Int32 × zm_M) := zm_rn zt_Y lx_mf_isOfKind zr_z cd_mf_isOfKind n pc lo st M
set_option maxRecDepth 20000 in
theorem er_mf_isOfKind (x0 : Int32) (x1 : Int32) (M : zm_M) : fn_mf_isOfKind [.inl x0, .inl x1] M = (if x1 = ((Int8.ofInt 7).toInt32) then (fn_mf_kindOf [.inl x0] M).bind fun q1 => if q1.1 < (Int32.ofInt 5) then (if (Int32.ofInt 0) = 0 ∨ (Int32.ofInt 0) = 1 then some ((Int32.ofInt 0), q1.2) else none) else (fn_mf_kindOf [.inl x0] q1.2).bind fun q2 => if ((Int8.ofInt 8).toInt32) < q2.1 then (if (Int32.ofInt 0) = 0 ∨ (Int32.ofInt 0) = 1 then some ((Int32.ofInt 0), q2.2) else none) else (if (Int32.ofInt 1) = 0 ∨ (Int32.ofInt 1) = 1 then some ((Int32.ofInt 1), q2.2) else none) else if x0 = x1 then (if (Int32.ofInt 1) = 0 ∨ (Int32.ofInt 1) = 1 then some ((Int32.ofInt 1), M) else none) else (if (Int32.ofInt 0) = 0 ∨ (Int32.ofInt 0) = 1 then some ((Int32.ofInt 0), M) else none)) := rfl
set_option maxRecDepth 20000 in
theorem eq_mf_isOfKind (x0 : Int32) (x1 : Int32) (M : zm_M) : fn_mf_isOfKind [.inl x0, .inl x1] M = (if x1 = (7 : Int32) then (fn_mf_kindOf [.inl x0] M).bind fun q1 => if q1.1 < (5 : Int32) then (some ((0 : Int32), q1.2)) else (fn_mf_kindOf [.inl x0] q1.2).bind fun q2 => if (8 : Int32) < q2.1 then (some ((0 : Int32), q2.2)) else (some ((1 : Int32), q2.2)) else if x0 = x1 then (some ((1 : Int32), M)) else (some ((0 : Int32), M))) := by
  rw [er_mf_isOfKind]
  simp only [kz_B7, kz_I5, kz_I0, kz_B8, kz_I1, true_or, or_true, ↓reduceIte]
def rr_fr_store (n pc : Nat) (lo : zm_L) (st : List zm_V) (M : zm_M) : Option zm_M := zm_rn zt_Y lx_fr_store zr_v cd_fr_store n pc lo st M
set_option maxRecDepth 20000 in
theorem er_fr_store (f0 : Nat) (x1 : Int32) (x2 : Int32) (M : zm_M) : fn_fr_store [.inr (23, f0), .inl x1, .inl x2] M = (if (0 : Int32) < x1 then if (x1 - (Int32.ofInt 1)) < 0 ∨ 10 ≤ (x1 - (Int32.ofInt 1)).toNatClampNeg then none else (fn_mf_widthOf [.inl (M 24 f0 ((x1 - (Int32.ofInt 1)).toNatClampNeg))] M).bind fun q2 => if q2.1 = (Int32.ofInt 2) then if (x1 - (Int32.ofInt 1)) < 0 ∨ 10 ≤ (x1 - (Int32.ofInt 1)).toNatClampNeg then none else if x1 < 0 ∨ 10 ≤ x1.toNatClampNeg then none else (fn_mf_widthOf [.inl x2] (zm_up (zm_up q2.2 24 f0 ((x1 - (Int32.ofInt 1)).toNatClampNeg) (Int32.ofInt 0)) 24 f0 x1.toNatClampNeg x2)).bind fun q4 => if q4.1 = (Int32.ofInt 2) then if (x1 + (Int32.ofInt 1)) < ((Int8.ofInt 10).toInt32) then if (x1 + (Int32.ofInt 1)) < 0 ∨ 10 ≤ (x1 + (Int32.ofInt 1)).toNatClampNeg then none else some (zm_up q4.2 24 f0 ((x1 + (Int32.ofInt 1)).toNatClampNeg) (Int32.ofInt 0)) else some q4.2 else some q4.2 else if x1 < 0 ∨ 10 ≤ x1.toNatClampNeg then none else (fn_mf_widthOf [.inl x2] (zm_up q2.2 24 f0 x1.toNatClampNeg x2)).bind fun q3 => if q3.1 = (Int32.ofInt 2) then if (x1 + (Int32.ofInt 1)) < ((Int8.ofInt 10).toInt32) then if (x1 + (Int32.ofInt 1)) < 0 ∨ 10 ≤ (x1 + (Int32.ofInt 1)).toNatClampNeg then none else some (zm_up q3.2 24 f0 ((x1 + (Int32.ofInt 1)).toNatClampNeg) (Int32.ofInt 0)) else some q3.2 else some q3.2 else if x1 < 0 ∨ 10 ≤ x1.toNatClampNeg then none else (fn_mf_widthOf [.inl x2] (zm_up M 24 f0 x1.toNatClampNeg x2)).bind fun q1 => if q1.1 = (Int32.ofInt 2) then if (x1 + (Int32.ofInt 1)) < ((Int8.ofInt 10).toInt32) then if (x1 + (Int32.ofInt 1)) < 0 ∨ 10 ≤ (x1 + (Int32.ofInt 1)).toNatClampNeg then none else some (zm_up q1.2 24 f0 ((x1 + (Int32.ofInt 1)).toNatClampNeg) (Int32.ofInt 0)) else some q1.2 else some q1.2) := rfl
set_option maxRecDepth 20000 in
theorem eq_fr_store (f0 : Nat) (x1 : Int32) (x2 : Int32) (M : zm_M) : fn_fr_store [.inr (23, f0), .inl x1, .inl x2] M = (if (0 : Int32) < x1 then if (x1 - (1 : Int32)) < 0 ∨ 10 ≤ (x1 - (1 : Int32)).toNatClampNeg then none else (fn_mf_widthOf [.inl (M 24 f0 ((x1 - (1 : Int32)).toNatClampNeg))] M).bind fun q2 => if q2.1 = (2 : Int32) then if (x1 - (1 : Int32)) < 0 ∨ 10 ≤ (x1 - (1 : Int32)).toNatClampNeg then none else if x1 < 0 ∨ 10 ≤ x1.toNatClampNeg then none else (fn_mf_widthOf [.inl x2] (zm_up (zm_up q2.2 24 f0 ((x1 - (1 : Int32)).toNatClampNeg) (0 : Int32)) 24 f0 x1.toNatClampNeg x2)).bind fun q4 => if q4.1 = (2 : Int32) then if (x1 + (1 : Int32)) < (10 : Int32) then if (x1 + (1 : Int32)) < 0 ∨ 10 ≤ (x1 + (1 : Int32)).toNatClampNeg then none else some (zm_up q4.2 24 f0 ((x1 + (1 : Int32)).toNatClampNeg) (0 : Int32)) else some q4.2 else some q4.2 else if x1 < 0 ∨ 10 ≤ x1.toNatClampNeg then none else (fn_mf_widthOf [.inl x2] (zm_up q2.2 24 f0 x1.toNatClampNeg x2)).bind fun q3 => if q3.1 = (2 : Int32) then if (x1 + (1 : Int32)) < (10 : Int32) then if (x1 + (1 : Int32)) < 0 ∨ 10 ≤ (x1 + (1 : Int32)).toNatClampNeg then none else some (zm_up q3.2 24 f0 ((x1 + (1 : Int32)).toNatClampNeg) (0 : Int32)) else some q3.2 else some q3.2 else if x1 < 0 ∨ 10 ≤ x1.toNatClampNeg then none else (fn_mf_widthOf [.inl x2] (zm_up M 24 f0 x1.toNatClampNeg x2)).bind fun q1 => if q1.1 = (2 : Int32) then if (x1 + (1 : Int32)) < (10 : Int32) then if (x1 + (1 : Int32)) < 0 ∨ 10 ≤ (x1 + (1 : Int32)).toNatClampNeg then none else some (zm_up q1.2 24 f0 ((x1 + (1 : Int32)).toNatClampNeg) (0 : Int32)) else some q1.2 else some q1.2) := by
  rw [er_fr_store]
  simp only [kz_I1, kz_I2, kz_I0, kz_B10]
def rr_ma_stepStore (n pc : Nat) (lo : zm_L) (st : List zm_V) (M : zm_M) : Option (Int32 × zm_M) := zm_rn zt_Y lx_ma_stepStore zr_z cd_ma_stepStore n pc lo st M
set_option maxRecDepth 20000 in
theorem er_ma_stepStore (x1 : Int32) (x2 : Int32) (f3 : Nat) (M : zm_M) : fn_ma_stepStore [.inr (17, 0), .inl x1, .inl x2, .inr (23, f3)] M = ((fn_fr_peek [.inr (23, f3), .inl (Int32.ofInt 0)] M).bind fun q1 => (fn_mf_localKindOf [.inl x1] q1.2).bind fun q2 => (fn_mf_isOfKind [.inl q1.1, .inl q2.1] q2.2).bind fun q3 => if q3.1 = 0 then (if (Int32.ofInt 0) = 0 ∨ (Int32.ofInt 0) = 1 then some ((Int32.ofInt 0), q3.2) else none) else (fn_fr_drop [.inr (23, f3)] q3.2).bind fun q4 => (fn_fr_store [.inr (23, f3), .inl x2, .inl q1.1] q4).bind fun q5 => (if (Int32.ofInt 1) = 0 ∨ (Int32.ofInt 1) = 1 then some ((Int32.ofInt 1), q5) else none)) := rfl
set_option maxRecDepth 20000 in
theorem eq_ma_stepStore (x1 : Int32) (x2 : Int32) (f3 : Nat) (M : zm_M) : fn_ma_stepStore [.inr (17, 0), .inl x1, .inl x2, .inr (23, f3)] M = ((fn_fr_peek [.inr (23, f3), .inl (0 : Int32)] M).bind fun q1 => (fn_mf_localKindOf [.inl x1] q1.2).bind fun q2 => (fn_mf_isOfKind [.inl q1.1, .inl q2.1] q2.2).bind fun q3 => if q3.1 = 0 then (some ((0 : Int32), q3.2)) else (fn_fr_drop [.inr (23, f3)] q3.2).bind fun q4 => (fn_fr_store [.inr (23, f3), .inl x2, .inl q1.1] q4).bind fun q5 => (some ((1 : Int32), q5))) := by
  rw [er_ma_stepStore]
  simp only [kz_I0, kz_I1, true_or, or_true, ↓reduceIte]
def rr_ma_stepJump (n pc : Nat) (lo : zm_L) (st : List zm_V) (M : zm_M) : Option (Int32 × zm_M) := zm_rn zt_Y lx_ma_stepJump zr_z cd_ma_stepJump n pc lo st M
set_option maxRecDepth 20000 in
theorem er_ma_stepJump (x1 : Int32) (f2 : Nat) (M : zm_M) : fn_ma_stepJump [.inr (17, 0), .inl x1, .inr (23, f2)] M = (if x1 = ((Int8.ofInt 31).toInt32) then (if (Int32.ofInt 1) = 0 ∨ (Int32.ofInt 1) = 1 then some ((Int32.ofInt 1), M) else none) else if x1 = ((Int8.ofInt 32).toInt32) then (fn_fr_take [.inr (23, f2), .inl (Int32.ofInt 1)] M).bind fun q9 => if q9.1 = 0 ∨ q9.1 = 1 then some (q9.1, q9.2) else none else (fn_fr_peek [.inr (23, f2), .inl (Int32.ofInt 0)] M).bind fun q1 => (fn_mf_isObjectOrNull [.inl q1.1] q1.2).bind fun q2 => if q2.1 = 0 then (if (Int32.ofInt 0) = 0 ∨ (Int32.ofInt 0) = 1 then some ((Int32.ofInt 0), q2.2) else none) else if x1 = ((Int8.ofInt 34).toInt32) then (fn_fr_peek [.inr (23, f2), .inl (Int32.ofInt 1)] q2.2).bind fun q5 => (fn_mf_isObjectOrNull [.inl q5.1] q5.2).bind fun q6 => if q6.1 = 0 then (if (Int32.ofInt 0) = 0 ∨ (Int32.ofInt 0) = 1 then some ((Int32.ofInt 0), q6.2) else none) else (fn_fr_drop [.inr (23, f2)] q6.2).bind fun q7 => if x1 = ((Int8.ofInt 34).toInt32) then (fn_fr_drop [.inr (23, f2)] q7).bind fun q8 => (if (Int32.ofInt 1) = 0 ∨ (Int32.ofInt 1) = 1 then some ((Int32.ofInt 1), q8) else none) else (if (Int32.ofInt 1) = 0 ∨ (Int32.ofInt 1) = 1 then some ((Int32.ofInt 1), q7) else none) else (fn_fr_drop [.inr (23, f2)] q2.2).bind fun q3 => if x1 = ((Int8.ofInt 34).toInt32) then (fn_fr_drop [.inr (23, f2)] q3).bind fun q4 => (if (Int32.ofInt 1) = 0 ∨ (Int32.ofInt 1) = 1 then some ((Int32.ofInt 1), q4) else none) else (if (Int32.ofInt 1) = 0 ∨ (Int32.ofInt 1) = 1 then some ((Int32.ofInt 1), q3) else none)) := rfl
set_option maxRecDepth 20000 in
theorem eq_ma_stepJump (x1 : Int32) (f2 : Nat) (M : zm_M) : fn_ma_stepJump [.inr (17, 0), .inl x1, .inr (23, f2)] M = (if x1 = (31 : Int32) then (some ((1 : Int32), M)) else if x1 = (32 : Int32) then (fn_fr_take [.inr (23, f2), .inl (1 : Int32)] M).bind fun q9 => if q9.1 = 0 ∨ q9.1 = 1 then some (q9.1, q9.2) else none else (fn_fr_peek [.inr (23, f2), .inl (0 : Int32)] M).bind fun q1 => (fn_mf_isObjectOrNull [.inl q1.1] q1.2).bind fun q2 => if q2.1 = 0 then (some ((0 : Int32), q2.2)) else if x1 = (34 : Int32) then (fn_fr_peek [.inr (23, f2), .inl (1 : Int32)] q2.2).bind fun q5 => (fn_mf_isObjectOrNull [.inl q5.1] q5.2).bind fun q6 => if q6.1 = 0 then (some ((0 : Int32), q6.2)) else (fn_fr_drop [.inr (23, f2)] q6.2).bind fun q7 => if x1 = (34 : Int32) then (fn_fr_drop [.inr (23, f2)] q7).bind fun q8 => (some ((1 : Int32), q8)) else (some ((1 : Int32), q7)) else (fn_fr_drop [.inr (23, f2)] q2.2).bind fun q3 => if x1 = (34 : Int32) then (fn_fr_drop [.inr (23, f2)] q3).bind fun q4 => (some ((1 : Int32), q4)) else (some ((1 : Int32), q3))) := by
  rw [er_ma_stepJump]
  simp only [kz_B31, kz_I1, kz_B32, kz_I0, kz_B34, true_or, or_true, ↓reduceIte]
def rr_fa_isAbove (n pc : Nat) (lo : zm_L) (st : List zm_V) (M : zm_M) : Option (Int32 × zm_M) := zm_rn zt_Y lx_fa_isAbove zr_z cd_fa_isAbove n pc lo st M
set_option maxRecDepth 20000 in
theorem er_fa_isAbove (x1 : Int32) (x2 : Int32) (M : zm_M) : fn_fa_isAbove [.inr (1, 0), .inl x1, .inl x2] M = (if (0 : Int32) < x2 then if x2 < 0 ∨ 8 ≤ x2.toNatClampNeg then none else if (M 2 0 x2.toNatClampNeg) = x1 then (if (Int32.ofInt 1) = 0 ∨ (Int32.ofInt 1) = 1 then some ((Int32.ofInt 1), M) else none) else (if (Int32.ofInt 0) = 0 ∨ (Int32.ofInt 0) = 1 then some ((Int32.ofInt 0), M) else none) else (if (Int32.ofInt 0) = 0 ∨ (Int32.ofInt 0) = 1 then some ((Int32.ofInt 0), M) else none)) := rfl
set_option maxRecDepth 20000 in
theorem eq_fa_isAbove (x1 : Int32) (x2 : Int32) (M : zm_M) : fn_fa_isAbove [.inr (1, 0), .inl x1, .inl x2] M = (if (0 : Int32) < x2 then if x2 < 0 ∨ 8 ≤ x2.toNatClampNeg then none else if (M 2 0 x2.toNatClampNeg) = x1 then (some ((1 : Int32), M)) else (some ((0 : Int32), M)) else (some ((0 : Int32), M))) := by
  rw [er_fa_isAbove]
  simp only [kz_I1, kz_I0, true_or, or_true, ↓reduceIte]
def rr_fr_replaceAll (n pc : Nat) (lo : zm_L) (st : List zm_V) (M : zm_M) : Option zm_M := zm_rn zt_Y lx_fr_replaceAll zr_v cd_fr_replaceAll n pc lo st M
set_option maxRecDepth 20000 in
theorem eq_fr_replaceAll (f0 : Nat) (x1 : Int32) (x2 : Int32) (M : zm_M) : fn_fr_replaceAll [.inr (23, f0), .inl x1, .inl x2] M = rr_fr_replaceAll 1073741824 0 [some (.inr (23, f0)), some (.inl x1), some (.inl x2), none] [] M := rfl
set_option maxRecDepth 20000 in
theorem so_fr_replaceAll : cd_fr_replaceAll.Pairwise (fun a b => a.1 < b.1) := by decide +kernel
set_option maxRecDepth 20000 in
theorem er_fr_replaceAll_0 (kt bk : Nat → zm_L → List zm_V → zm_M → Option zm_M) (f0 : Nat) (x1 : Int32) (x2 : Int32) (M : zm_M) : zm_gc zt_Y lx_fr_replaceAll zr_v [2, 33] kt bk (cd_fr_replaceAll.drop 0) 0 [some (.inr (23, f0)), some (.inl x1), some (.inl x2), none] [] M = (kt 2 [some (.inr (23, f0)), some (.inl x1), some (.inl x2), some (.inl (Int32.ofInt 0))] [] M) := rfl
set_option maxRecDepth 20000 in
theorem eq_fr_replaceAll_0 (n : Nat) (f0 : Nat) (x1 : Int32) (x2 : Int32) (M : zm_M) : rr_fr_replaceAll (n + 1) 0 [some (.inr (23, f0)), some (.inl x1), some (.inl x2), none] [] M = (rr_fr_replaceAll (n + 1) 2 [some (.inr (23, f0)), some (.inl x1), some (.inl x2), some (.inl (0 : Int32))] [] M) := by
  have h := (zm_gc_ok (cd_fr_replaceAll.take 0) (cd_fr_replaceAll.drop 0) (List.take_append_drop 0 cd_fr_replaceAll).symm so_fr_replaceAll (by decide +kernel)).symm.trans (er_fr_replaceAll_0 (rr_fr_replaceAll (n + 1)) (rr_fr_replaceAll n) f0 x1 x2 M)
  simp only [kz_I0] at h
  exact h
set_option maxRecDepth 20000 in
theorem er_fr_replaceAll_2 (kt bk : Nat → zm_L → List zm_V → zm_M → Option zm_M) (f0 : Nat) (v1 : Int32) (v2 : Int32) (v3 : Int32) (M : zm_M) : zm_gc zt_Y lx_fr_replaceAll zr_v [2, 33] kt bk (cd_fr_replaceAll.drop 2) 2 [some (.inr (23, f0)), some (.inl v1), some (.inl v2), some (.inl v3)] [] M = (if v3 < ((Int8.ofInt 10).toInt32) then if v3 < 0 ∨ 10 ≤ v3.toNatClampNeg then none else if (M 24 f0 v3.toNatClampNeg) = v1 then if v3 < 0 ∨ 10 ≤ v3.toNatClampNeg then none else bk 2 [some (.inr (23, f0)), some (.inl v1), some (.inl v2), some (.inl (v3 + (Int32.ofInt 1)))] [] (zm_up M 24 f0 v3.toNatClampNeg v2) else bk 2 [some (.inr (23, f0)), some (.inl v1), some (.inl v2), some (.inl (v3 + (Int32.ofInt 1)))] [] M else kt 33 [some (.inr (23, f0)), some (.inl v1), some (.inl v2), some (.inl (Int32.ofInt 0))] [] M) := rfl
set_option maxRecDepth 20000 in
theorem eq_fr_replaceAll_2 (n : Nat) (f0 : Nat) (v1 : Int32) (v2 : Int32) (v3 : Int32) (M : zm_M) : rr_fr_replaceAll (n + 1) 2 [some (.inr (23, f0)), some (.inl v1), some (.inl v2), some (.inl v3)] [] M = (if v3 < (10 : Int32) then if v3 < 0 ∨ 10 ≤ v3.toNatClampNeg then none else if (M 24 f0 v3.toNatClampNeg) = v1 then if v3 < 0 ∨ 10 ≤ v3.toNatClampNeg then none else rr_fr_replaceAll n 2 [some (.inr (23, f0)), some (.inl v1), some (.inl v2), some (.inl (v3 + (1 : Int32)))] [] (zm_up M 24 f0 v3.toNatClampNeg v2) else rr_fr_replaceAll n 2 [some (.inr (23, f0)), some (.inl v1), some (.inl v2), some (.inl (v3 + (1 : Int32)))] [] M else rr_fr_replaceAll (n + 1) 33 [some (.inr (23, f0)), some (.inl v1), some (.inl v2), some (.inl (0 : Int32))] [] M) := by
  have h := (zm_gc_ok (cd_fr_replaceAll.take 2) (cd_fr_replaceAll.drop 2) (List.take_append_drop 2 cd_fr_replaceAll).symm so_fr_replaceAll (by decide +kernel)).symm.trans (er_fr_replaceAll_2 (rr_fr_replaceAll (n + 1)) (rr_fr_replaceAll n) f0 v1 v2 v3 M)
  simp only [kz_B10, kz_I1, kz_I0] at h
  exact h
set_option maxRecDepth 20000 in
theorem er_fr_replaceAll_33 (kt bk : Nat → zm_L → List zm_V → zm_M → Option zm_M) (f0 : Nat) (v1 : Int32) (v2 : Int32) (v3 : Int32) (M : zm_M) : zm_gc zt_Y lx_fr_replaceAll zr_v [2, 33] kt bk (cd_fr_replaceAll.drop 20) 33 [some (.inr (23, f0)), some (.inl v1), some (.inl v2), some (.inl v3)] [] M = (if v3 < (M 23 f0 2) then if v3 < 0 ∨ 8 ≤ v3.toNatClampNeg then none else if (M 25 f0 v3.toNatClampNeg) = v1 then if v3 < 0 ∨ 8 ≤ v3.toNatClampNeg then none else bk 33 [some (.inr (23, f0)), some (.inl v1), some (.inl v2), some (.inl (v3 + (Int32.ofInt 1)))] [] (zm_up M 25 f0 v3.toNatClampNeg v2) else bk 33 [some (.inr (23, f0)), some (.inl v1), some (.inl v2), some (.inl (v3 + (Int32.ofInt 1)))] [] M else some M) := rfl
set_option maxRecDepth 20000 in
theorem eq_fr_replaceAll_33 (n : Nat) (f0 : Nat) (v1 : Int32) (v2 : Int32) (v3 : Int32) (M : zm_M) : rr_fr_replaceAll (n + 1) 33 [some (.inr (23, f0)), some (.inl v1), some (.inl v2), some (.inl v3)] [] M = (if v3 < (M 23 f0 2) then if v3 < 0 ∨ 8 ≤ v3.toNatClampNeg then none else if (M 25 f0 v3.toNatClampNeg) = v1 then if v3 < 0 ∨ 8 ≤ v3.toNatClampNeg then none else rr_fr_replaceAll n 33 [some (.inr (23, f0)), some (.inl v1), some (.inl v2), some (.inl (v3 + (1 : Int32)))] [] (zm_up M 25 f0 v3.toNatClampNeg v2) else rr_fr_replaceAll n 33 [some (.inr (23, f0)), some (.inl v1), some (.inl v2), some (.inl (v3 + (1 : Int32)))] [] M else some M) := by
  have h := (zm_gc_ok (cd_fr_replaceAll.take 20) (cd_fr_replaceAll.drop 20) (List.take_append_drop 20 cd_fr_replaceAll).symm so_fr_replaceAll (by decide +kernel)).symm.trans (er_fr_replaceAll_33 (rr_fr_replaceAll (n + 1)) (rr_fr_replaceAll n) f0 v1 v2 v3 M)
  simp only [kz_I1] at h
  exact h
def rr_pr_placeAt (n pc : Nat) (lo : zm_L) (st : List zm_V) (M : zm_M) : Option (Int32 × zm_M) := zm_rn zt_Y lx_pr_placeAt zr_i cd_pr_placeAt n pc lo st M
set_option maxRecDepth 20000 in
theorem eq_pr_placeAt (x1 : Int32) (M : zm_M) : fn_pr_placeAt [.inr (5, 0), .inl x1] M = rr_pr_placeAt 1073741824 0 [some (.inr (5, 0)), some (.inl x1), none] [] M := rfl
set_option maxRecDepth 20000 in
theorem so_pr_placeAt : cd_pr_placeAt.Pairwise (fun a b => a.1 < b.1) := by decide +kernel
set_option maxRecDepth 20000 in
theorem er_pr_placeAt_0 (kt bk : Nat → zm_L → List zm_V → zm_M → Option (Int32 × zm_M)) (x1 : Int32) (M : zm_M) : zm_gc zt_Y lx_pr_placeAt zr_i [2] kt bk (cd_pr_placeAt.drop 0) 0 [some (.inr (5, 0)), some (.inl x1), none] [] M = (kt 2 [some (.inr (5, 0)), some (.inl x1), some (.inl (Int32.ofInt 0))] [] M) := rfl
set_option maxRecDepth 20000 in
theorem eq_pr_placeAt_0 (n : Nat) (x1 : Int32) (M : zm_M) : rr_pr_placeAt (n + 1) 0 [some (.inr (5, 0)), some (.inl x1), none] [] M = (rr_pr_placeAt (n + 1) 2 [some (.inr (5, 0)), some (.inl x1), some (.inl (0 : Int32))] [] M) := by
  have h := (zm_gc_ok (cd_pr_placeAt.take 0) (cd_pr_placeAt.drop 0) (List.take_append_drop 0 cd_pr_placeAt).symm so_pr_placeAt (by decide +kernel)).symm.trans (er_pr_placeAt_0 (rr_pr_placeAt (n + 1)) (rr_pr_placeAt n) x1 M)
  simp only [kz_I0] at h
  exact h
set_option maxRecDepth 20000 in
theorem er_pr_placeAt_2 (kt bk : Nat → zm_L → List zm_V → zm_M → Option (Int32 × zm_M)) (v1 : Int32) (v2 : Int32) (M : zm_M) : zm_gc zt_Y lx_pr_placeAt zr_i [2] kt bk (cd_pr_placeAt.drop 2) 2 [some (.inr (5, 0)), some (.inl v1), some (.inl v2)] [] M = (if v2 < (M 5 0 9) then if v2 < 0 ∨ 51 ≤ v2.toNatClampNeg then none else if (M 10 0 v2.toNatClampNeg) = v1 then some (v2, M) else bk 2 [some (.inr (5, 0)), some (.inl v1), some (.inl (v2 + (Int32.ofInt 1)))] [] M else some (((Int8.ofInt (-2)).toInt32), M)) := rfl
set_option maxRecDepth 20000 in
theorem eq_pr_placeAt_2 (n : Nat) (v1 : Int32) (v2 : Int32) (M : zm_M) : rr_pr_placeAt (n + 1) 2 [some (.inr (5, 0)), some (.inl v1), some (.inl v2)] [] M = (if v2 < (M 5 0 9) then if v2 < 0 ∨ 51 ≤ v2.toNatClampNeg then none else if (M 10 0 v2.toNatClampNeg) = v1 then some (v2, M) else rr_pr_placeAt n 2 [some (.inr (5, 0)), some (.inl v1), some (.inl (v2 + (1 : Int32)))] [] M else some ((-2 : Int32), M)) := by
  have h := (zm_gc_ok (cd_pr_placeAt.take 2) (cd_pr_placeAt.drop 2) (List.take_append_drop 2 cd_pr_placeAt).symm so_pr_placeAt (by decide +kernel)).symm.trans (er_pr_placeAt_2 (rr_pr_placeAt (n + 1)) (rr_pr_placeAt n) v1 v2 M)
  simp only [kz_I1, kz_Bm2] at h
  exact h
def rr_ma_stepInit (n pc : Nat) (lo : zm_L) (st : List zm_V) (M : zm_M) : Option (Int32 × zm_M) := zm_rn zt_Y lx_ma_stepInit zr_z cd_ma_stepInit n pc lo st M
set_option maxRecDepth 20000 in
theorem er_ma_stepInit (x1 : Int32) (x2 : Int32) (f3 : Nat) (M : zm_M) : fn_ma_stepInit [.inr (17, 0), .inl x1, .inl x2, .inr (23, f3)] M = (if x2 = ((Int8.ofInt 6).toInt32) then if x1 = (M 5 0 0) then (fn_fr_drop [.inr (23, f3)] M).bind fun q7 => (fn_mf_typeOf [.inl ((Int8.ofInt 7).toInt32), .inl (q7 5 0 0)] q7).bind fun q8 => (fn_fr_replaceAll [.inr (23, f3), .inl x2, .inl q8.1] q8.2).bind fun q9 => (if (Int32.ofInt 0) = 0 ∨ (Int32.ofInt 0) = 1 then (if (Int32.ofInt 1) = 0 ∨ (Int32.ofInt 1) = 1 then some ((Int32.ofInt 1), zm_up q9 23 f3 4 (Int32.ofInt 0)) else none) else none) else (fn_fa_isAbove [.inr (1, 0), .inl x1, .inl (M 5 0 0)] M).bind fun q10 => if q10.1 = 0 then (fn_mf_kindOf [.inl x2] q10.2).bind fun q11 => if q11.1 = ((Int8.ofInt 8).toInt32) then (fn_mf_partOf [.inl x2] q11.2).bind fun q12 => (fn_pr_placeAt [.inr (5, 0), .inl q12.1] q12.2).bind fun q13 => if q13.1 = ((Int8.ofInt (-2)).toInt32) then (if (Int32.ofInt 0) = 0 ∨ (Int32.ofInt 0) = 1 then some ((Int32.ofInt 0), q13.2) else none) else if q13.1 < 0 ∨ 50 ≤ (q13.1).toNatClampNeg then none else if (q13.2 7 0 (q13.1).toNatClampNeg) = ((Int8.ofInt 35).toInt32) then if q13.1 < 0 ∨ 50 ≤ (q13.1).toNatClampNeg then none else if (q13.2 8 0 (q13.1).toNatClampNeg) = x1 then (fn_fr_drop [.inr (23, f3)] q13.2).bind fun q14 => (fn_mf_typeOf [.inl ((Int8.ofInt 7).toInt32), .inl x1] q14).bind fun q15 => (fn_fr_replaceAll [.inr (23, f3), .inl x2, .inl q15.1] q15.2).bind fun q16 => (if (Int32.ofInt 1) = 0 ∨ (Int32.ofInt 1) = 1 then some ((Int32.ofInt 1), q16) else none) else (if (Int32.ofInt 0) = 0 ∨ (Int32.ofInt 0) = 1 then some ((Int32.ofInt 0), q13.2) else none) else (if (Int32.ofInt 0) = 0 ∨ (Int32.ofInt 0) = 1 then some ((Int32.ofInt 0), q13.2) else none) else (if (Int32.ofInt 0) = 0 ∨ (Int32.ofInt 0) = 1 then some ((Int32.ofInt 0), q11.2) else none) else (fn_fr_drop [.inr (23, f3)] q10.2).bind fun q17 => (fn_mf_typeOf [.inl ((Int8.ofInt 7).toInt32), .inl (q17 5 0 0)] q17).bind fun q18 => (fn_fr_replaceAll [.inr (23, f3), .inl x2, .inl q18.1] q18.2).bind fun q19 => (if (Int32.ofInt 0) = 0 ∨ (Int32.ofInt 0) = 1 then (if (Int32.ofInt 1) = 0 ∨ (Int32.ofInt 1) = 1 then some ((Int32.ofInt 1), zm_up q19 23 f3 4 (Int32.ofInt 0)) else none) else none) else (fn_mf_kindOf [.inl x2] M).bind fun q1 => if q1.1 = ((Int8.ofInt 8).toInt32) then (fn_mf_partOf [.inl x2] q1.2).bind fun q2 => (fn_pr_placeAt [.inr (5, 0), .inl q2.1] q2.2).bind fun q3 => if q3.1 = ((Int8.ofInt (-2)).toInt32) then (if (Int32.ofInt 0) = 0 ∨ (Int32.ofInt 0) = 1 then some ((Int32.ofInt 0), q3.2) else none) else if q3.1 < 0 ∨ 50 ≤ (q3.1).toNatClampNeg then none else if (q3.2 7 0 (q3.1).toNatClampNeg) = ((Int8.ofInt 35).toInt32) then if q3.1 < 0 ∨ 50 ≤ (q3.1).toNatClampNeg then none else if (q3.2 8 0 (q3.1).toNatClampNeg) = x1 then (fn_fr_drop [.inr (23, f3)] q3.2).bind fun q4 => (fn_mf_typeOf [.inl ((Int8.ofInt 7).toInt32), .inl x1] q4).bind fun q5 => (fn_fr_replaceAll [.inr (23, f3), .inl x2, .inl q5.1] q5.2).bind fun q6 => (if (Int32.ofInt 1) = 0 ∨ (Int32.ofInt 1) = 1 then some ((Int32.ofInt 1), q6) else none) else (if (Int32.ofInt 0) = 0 ∨ (Int32.ofInt 0) = 1 then some ((Int32.ofInt 0), q3.2) else none) else (if (Int32.ofInt 0) = 0 ∨ (Int32.ofInt 0) = 1 then some ((Int32.ofInt 0), q3.2) else none) else (if (Int32.ofInt 0) = 0 ∨ (Int32.ofInt 0) = 1 then some ((Int32.ofInt 0), q1.2) else none)) := rfl
set_option maxRecDepth 20000 in
theorem eq_ma_stepInit (x1 : Int32) (x2 : Int32) (f3 : Nat) (M : zm_M) : fn_ma_stepInit [.inr (17, 0), .inl x1, .inl x2, .inr (23, f3)] M = (if x2 = (6 : Int32) then if x1 = (M 5 0 0) then (fn_fr_drop [.inr (23, f3)] M).bind fun q7 => (fn_mf_typeOf [.inl (7 : Int32), .inl (q7 5 0 0)] q7).bind fun q8 => (fn_fr_replaceAll [.inr (23, f3), .inl x2, .inl q8.1] q8.2).bind fun q9 => (some ((1 : Int32), zm_up q9 23 f3 4 (0 : Int32))) else (fn_fa_isAbove [.inr (1, 0), .inl x1, .inl (M 5 0 0)] M).bind fun q10 => if q10.1 = 0 then (fn_mf_kindOf [.inl x2] q10.2).bind fun q11 => if q11.1 = (8 : Int32) then (fn_mf_partOf [.inl x2] q11.2).bind fun q12 => (fn_pr_placeAt [.inr (5, 0), .inl q12.1] q12.2).bind fun q13 => if q13.1 = (-2 : Int32) then (some ((0 : Int32), q13.2)) else if q13.1 < 0 ∨ 50 ≤ (q13.1).toNatClampNeg then none else if (q13.2 7 0 (q13.1).toNatClampNeg) = (35 : Int32) then if q13.1 < 0 ∨ 50 ≤ (q13.1).toNatClampNeg then none else if (q13.2 8 0 (q13.1).toNatClampNeg) = x1 then (fn_fr_drop [.inr (23, f3)] q13.2).bind fun q14 => (fn_mf_typeOf [.inl (7 : Int32), .inl x1] q14).bind fun q15 => (fn_fr_replaceAll [.inr (23, f3), .inl x2, .inl q15.1] q15.2).bind fun q16 => (some ((1 : Int32), q16)) else (some ((0 : Int32), q13.2)) else (some ((0 : Int32), q13.2)) else (some ((0 : Int32), q11.2)) else (fn_fr_drop [.inr (23, f3)] q10.2).bind fun q17 => (fn_mf_typeOf [.inl (7 : Int32), .inl (q17 5 0 0)] q17).bind fun q18 => (fn_fr_replaceAll [.inr (23, f3), .inl x2, .inl q18.1] q18.2).bind fun q19 => (some ((1 : Int32), zm_up q19 23 f3 4 (0 : Int32))) else (fn_mf_kindOf [.inl x2] M).bind fun q1 => if q1.1 = (8 : Int32) then (fn_mf_partOf [.inl x2] q1.2).bind fun q2 => (fn_pr_placeAt [.inr (5, 0), .inl q2.1] q2.2).bind fun q3 => if q3.1 = (-2 : Int32) then (some ((0 : Int32), q3.2)) else if q3.1 < 0 ∨ 50 ≤ (q3.1).toNatClampNeg then none else if (q3.2 7 0 (q3.1).toNatClampNeg) = (35 : Int32) then if q3.1 < 0 ∨ 50 ≤ (q3.1).toNatClampNeg then none else if (q3.2 8 0 (q3.1).toNatClampNeg) = x1 then (fn_fr_drop [.inr (23, f3)] q3.2).bind fun q4 => (fn_mf_typeOf [.inl (7 : Int32), .inl x1] q4).bind fun q5 => (fn_fr_replaceAll [.inr (23, f3), .inl x2, .inl q5.1] q5.2).bind fun q6 => (some ((1 : Int32), q6)) else (some ((0 : Int32), q3.2)) else (some ((0 : Int32), q3.2)) else (some ((0 : Int32), q1.2))) := by
  rw [er_ma_stepInit]
  simp only [kz_B6, kz_B7, kz_I0, kz_I1, kz_B8, kz_Bm2, kz_B35, true_or, or_true, ↓reduceIte]
def rr_ma_stepObject (n pc : Nat) (lo : zm_L) (st : List zm_V) (M : zm_M) : Option (Int32 × zm_M) := zm_rn zt_Y lx_ma_stepObject zr_z cd_ma_stepObject n pc lo st M
set_option maxRecDepth 20000 in
theorem eq_ma_stepObject (x1 : Int32) (f2 : Nat) (M : zm_M) : fn_ma_stepObject [.inr (17, 0), .inl x1, .inr (23, f2)] M = rr_ma_stepObject 1 0 [some (.inr (17, 0)), some (.inl x1), some (.inr (23, f2)), none, none, none] [] M := rfl
set_option maxRecDepth 20000 in
theorem so_ma_stepObject : cd_ma_stepObject.Pairwise (fun a b => a.1 < b.1) := by decide +kernel
set_option maxRecDepth 20000 in
theorem er_ma_stepObject_0 (kt bk : Nat → zm_L → List zm_V → zm_M → Option (Int32 × zm_M)) (x1 : Int32) (f2 : Nat) (M : zm_M) : zm_gc zt_Y lx_ma_stepObject zr_z [89, 139] kt bk (cd_ma_stepObject.drop 0) 0 [some (.inr (17, 0)), some (.inl x1), some (.inr (23, f2)), none, none, none] [] M = (if x1 < 0 ∨ 50 ≤ x1.toNatClampNeg then none else if x1 < 0 ∨ 50 ≤ x1.toNatClampNeg then none else if (M 7 0 x1.toNatClampNeg) = ((Int8.ofInt 35).toInt32) then if x1 < 0 ∨ 51 ≤ x1.toNatClampNeg then none else (fn_mf_typeOf [.inl ((Int8.ofInt 8).toInt32), .inl (M 10 0 x1.toNatClampNeg)] M).bind fun q3 => (fn_fr_push [.inr (23, f2), .inl q3.1] q3.2).bind fun q4 => if q4.1 = 0 ∨ q4.1 = 1 then some (q4.1, q4.2) else none else (fn_fr_peek [.inr (23, f2), .inl (Int32.ofInt 0)] M).bind fun q1 => if (M 7 0 x1.toNatClampNeg) = ((Int8.ofInt 36).toInt32) then (fn_ma_stepInit [.inr (17, 0), .inl (M 8 0 x1.toNatClampNeg), .inl q1.1, .inr (23, f2)] q1.2).bind fun q2 => if q2.1 = 0 ∨ q2.1 = 1 then some (q2.1, q2.2) else none else if (M 7 0 x1.toNatClampNeg) = ((Int8.ofInt 39).toInt32) then kt 89 [some (.inr (17, 0)), some (.inl x1), some (.inr (23, f2)), some (.inl (M 7 0 x1.toNatClampNeg)), some (.inl (M 8 0 x1.toNatClampNeg)), some (.inl q1.1)] [.inl (Int32.ofInt 0), .inl ((Int8.ofInt 7).toInt32), .inl q1.1, .inr (1, 0)] q1.2 else kt 89 [some (.inr (17, 0)), some (.inl x1), some (.inr (23, f2)), some (.inl (M 7 0 x1.toNatClampNeg)), some (.inl (M 8 0 x1.toNatClampNeg)), some (.inl q1.1)] [.inl (M 8 0 x1.toNatClampNeg), .inl ((Int8.ofInt 7).toInt32), .inl q1.1, .inr (1, 0)] q1.2) := rfl
set_option maxRecDepth 20000 in
theorem eq_ma_stepObject_0 (n : Nat) (x1 : Int32) (f2 : Nat) (M : zm_M) : rr_ma_stepObject (n + 1) 0 [some (.inr (17, 0)), some (.inl x1), some (.inr (23, f2)), none, none, none] [] M = (if x1 < 0 ∨ 50 ≤ x1.toNatClampNeg then none else if x1 < 0 ∨ 50 ≤ x1.toNatClampNeg then none else if (M 7 0 x1.toNatClampNeg) = (35 : Int32) then if x1 < 0 ∨ 51 ≤ x1.toNatClampNeg then none else (fn_mf_typeOf [.inl (8 : Int32), .inl (M 10 0 x1.toNatClampNeg)] M).bind fun q3 => (fn_fr_push [.inr (23, f2), .inl q3.1] q3.2).bind fun q4 => if q4.1 = 0 ∨ q4.1 = 1 then some (q4.1, q4.2) else none else (fn_fr_peek [.inr (23, f2), .inl (0 : Int32)] M).bind fun q1 => if (M 7 0 x1.toNatClampNeg) = (36 : Int32) then (fn_ma_stepInit [.inr (17, 0), .inl (M 8 0 x1.toNatClampNeg), .inl q1.1, .inr (23, f2)] q1.2).bind fun q2 => if q2.1 = 0 ∨ q2.1 = 1 then some (q2.1, q2.2) else none else if (M 7 0 x1.toNatClampNeg) = (39 : Int32) then rr_ma_stepObject (n + 1) 89 [some (.inr (17, 0)), some (.inl x1), some (.inr (23, f2)), some (.inl (M 7 0 x1.toNatClampNeg)), some (.inl (M 8 0 x1.toNatClampNeg)), some (.inl q1.1)] [.inl (0 : Int32), .inl (7 : Int32), .inl q1.1, .inr (1, 0)] q1.2 else rr_ma_stepObject (n + 1) 89 [some (.inr (17, 0)), some (.inl x1), some (.inr (23, f2)), some (.inl (M 7 0 x1.toNatClampNeg)), some (.inl (M 8 0 x1.toNatClampNeg)), some (.inl q1.1)] [.inl (M 8 0 x1.toNatClampNeg), .inl (7 : Int32), .inl q1.1, .inr (1, 0)] q1.2) := by
  have h := (zm_gc_ok (cd_ma_stepObject.take 0) (cd_ma_stepObject.drop 0) (List.take_append_drop 0 cd_ma_stepObject).symm so_ma_stepObject (by decide +kernel)).symm.trans (er_ma_stepObject_0 (rr_ma_stepObject (n + 1)) (rr_ma_stepObject n) x1 f2 M)
  simp only [kz_B35, kz_B8, kz_I0, kz_B36, kz_B39, kz_B7] at h
  exact h
set_option maxRecDepth 20000 in
theorem er_ma_stepObject_89 (kt bk : Nat → zm_L → List zm_V → zm_M → Option (Int32 × zm_M)) (v1 : Int32) (f2 : Nat) (v3 : Int32) (v4 : Int32) (v5 : Int32) (s0 : Int32) (s1 : Int32) (s2 : Int32) (M : zm_M) : zm_gc zt_Y lx_ma_stepObject zr_z [89, 139] kt bk (cd_ma_stepObject.drop 48) 89 [some (.inr (17, 0)), some (.inl v1), some (.inr (23, f2)), some (.inl v3), some (.inl v4), some (.inl v5)] [.inl s0, .inl s1, .inl s2, .inr (1, 0)] M = ((fn_mf_typeOf [.inl s1, .inl s0] M).bind fun q1 => (fn_fa_is [.inr (1, 0), .inl s2, .inl q1.1] q1.2).bind fun q2 => if q2.1 = 0 then (if (Int32.ofInt 0) = 0 ∨ (Int32.ofInt 0) = 1 then some ((Int32.ofInt 0), q2.2) else none) else (fn_fr_drop [.inr (23, f2)] q2.2).bind fun q3 => if v3 = ((Int8.ofInt 37).toInt32) then (fn_fr_push [.inr (23, f2), .inl (Int32.ofInt 1)] q3).bind fun q4 => if q4.1 = 0 ∨ q4.1 = 1 then some (q4.1, q4.2) else none else if v3 = ((Int8.ofInt 38).toInt32) then if v1 < 0 ∨ 50 ≤ v1.toNatClampNeg then none else kt 139 [some (.inr (17, 0)), some (.inl v1), some (.inr (23, f2)), some (.inl v3), some (.inl v4), some (.inl v5)] [.inl (q3 9 0 v1.toNatClampNeg), .inl ((Int8.ofInt 7).toInt32), .inr (23, f2)] q3 else kt 139 [some (.inr (17, 0)), some (.inl v1), some (.inr (23, f2)), some (.inl v3), some (.inl v4), some (.inl v5)] [.inl v4, .inl ((Int8.ofInt 7).toInt32), .inr (23, f2)] q3) := rfl
set_option maxRecDepth 20000 in
theorem eq_ma_stepObject_89 (n : Nat) (v1 : Int32) (f2 : Nat) (v3 : Int32) (v4 : Int32) (v5 : Int32) (s0 : Int32) (s1 : Int32) (s2 : Int32) (M : zm_M) : rr_ma_stepObject (n + 1) 89 [some (.inr (17, 0)), some (.inl v1), some (.inr (23, f2)), some (.inl v3), some (.inl v4), some (.inl v5)] [.inl s0, .inl s1, .inl s2, .inr (1, 0)] M = ((fn_mf_typeOf [.inl s1, .inl s0] M).bind fun q1 => (fn_fa_is [.inr (1, 0), .inl s2, .inl q1.1] q1.2).bind fun q2 => if q2.1 = 0 then (some ((0 : Int32), q2.2)) else (fn_fr_drop [.inr (23, f2)] q2.2).bind fun q3 => if v3 = (37 : Int32) then (fn_fr_push [.inr (23, f2), .inl (1 : Int32)] q3).bind fun q4 => if q4.1 = 0 ∨ q4.1 = 1 then some (q4.1, q4.2) else none else if v3 = (38 : Int32) then if v1 < 0 ∨ 50 ≤ v1.toNatClampNeg then none else rr_ma_stepObject (n + 1) 139 [some (.inr (17, 0)), some (.inl v1), some (.inr (23, f2)), some (.inl v3), some (.inl v4), some (.inl v5)] [.inl (q3 9 0 v1.toNatClampNeg), .inl (7 : Int32), .inr (23, f2)] q3 else rr_ma_stepObject (n + 1) 139 [some (.inr (17, 0)), some (.inl v1), some (.inr (23, f2)), some (.inl v3), some (.inl v4), some (.inl v5)] [.inl v4, .inl (7 : Int32), .inr (23, f2)] q3) := by
  have h := (zm_gc_ok (cd_ma_stepObject.take 48) (cd_ma_stepObject.drop 48) (List.take_append_drop 48 cd_ma_stepObject).symm so_ma_stepObject (by decide +kernel)).symm.trans (er_ma_stepObject_89 (rr_ma_stepObject (n + 1)) (rr_ma_stepObject n) v1 f2 v3 v4 v5 s0 s1 s2 M)
  simp only [kz_I0, kz_B37, kz_I1, kz_B38, kz_B7, true_or, or_true, ↓reduceIte] at h
  exact h
set_option maxRecDepth 20000 in
theorem er_ma_stepObject_139 (kt bk : Nat → zm_L → List zm_V → zm_M → Option (Int32 × zm_M)) (v1 : Int32) (f2 : Nat) (v3 : Int32) (v4 : Int32) (v5 : Int32) (s0 : Int32) (s1 : Int32) (M : zm_M) : zm_gc zt_Y lx_ma_stepObject zr_z [89, 139] kt bk (cd_ma_stepObject.drop 74) 139 [some (.inr (17, 0)), some (.inl v1), some (.inr (23, f2)), some (.inl v3), some (.inl v4), some (.inl v5)] [.inl s0, .inl s1, .inr (23, f2)] M = ((fn_mf_typeOf [.inl s1, .inl s0] M).bind fun q1 => (fn_fr_push [.inr (23, f2), .inl q1.1] q1.2).bind fun q2 => if q2.1 = 0 ∨ q2.1 = 1 then some (q2.1, q2.2) else none) := rfl
set_option maxRecDepth 20000 in
theorem eq_ma_stepObject_139 (n : Nat) (v1 : Int32) (f2 : Nat) (v3 : Int32) (v4 : Int32) (v5 : Int32) (s0 : Int32) (s1 : Int32) (M : zm_M) : rr_ma_stepObject (n + 1) 139 [some (.inr (17, 0)), some (.inl v1), some (.inr (23, f2)), some (.inl v3), some (.inl v4), some (.inl v5)] [.inl s0, .inl s1, .inr (23, f2)] M = ((fn_mf_typeOf [.inl s1, .inl s0] M).bind fun q1 => (fn_fr_push [.inr (23, f2), .inl q1.1] q1.2).bind fun q2 => if q2.1 = 0 ∨ q2.1 = 1 then some (q2.1, q2.2) else none) := (zm_gc_ok (cd_ma_stepObject.take 74) (cd_ma_stepObject.drop 74) (List.take_append_drop 74 cd_ma_stepObject).symm so_ma_stepObject (by decide +kernel)).symm.trans (er_ma_stepObject_139 (rr_ma_stepObject (n + 1)) (rr_ma_stepObject n) v1 f2 v3 v4 v5 s0 s1 M)
def rr_ma_step (n pc : Nat) (lo : zm_L) (st : List zm_V) (M : zm_M) : Option (Int32 × zm_M) := zm_rn zt_Y lx_ma_step zr_z cd_ma_step n pc lo st M
set_option maxRecDepth 20000 in
theorem er_ma_step (x1 : Int32) (f2 : Nat) (M : zm_M) : fn_ma_step [.inr (17, 0), .inl x1, .inr (23, f2)] M = (if x1 < 0 ∨ 50 ≤ x1.toNatClampNeg then none else if ((Int8.ofInt 13).toInt32) < (M 7 0 x1.toNatClampNeg) then if ((Int8.ofInt 20).toInt32) < (M 7 0 x1.toNatClampNeg) then if ((Int8.ofInt 25).toInt32) < (M 7 0 x1.toNatClampNeg) then if ((Int8.ofInt 30).toInt32) < (M 7 0 x1.toNatClampNeg) then if ((Int8.ofInt 34).toInt32) < (M 7 0 x1.toNatClampNeg) then (fn_ma_stepObject [.inr (17, 0), .inl x1, .inr (23, f2)] M).bind fun q1 => if q1.1 = 0 ∨ q1.1 = 1 then some (q1.1, q1.2) else none else (fn_ma_stepJump [.inr (17, 0), .inl (M 7 0 x1.toNatClampNeg), .inr (23, f2)] M).bind fun q2 => if q2.1 = 0 ∨ q2.1 = 1 then some (q2.1, q2.2) else none else if x1 < 0 ∨ 50 ≤ x1.toNatClampNeg then none else (fn_ma_stepStore [.inr (17, 0), .inl (M 7 0 x1.toNatClampNeg), .inl (M 8 0 x1.toNatClampNeg), .inr (23, f2)] M).bind fun q3 => if q3.1 = 0 ∨ q3.1 = 1 then some (q3.1, q3.2) else none else if x1 < 0 ∨ 50 ≤ x1.toNatClampNeg then none else if (M 8 0 x1.toNatClampNeg) < 0 ∨ 10 ≤ (M 8 0 x1.toNatClampNeg).toNatClampNeg then none else (fn_mf_localKindOf [.inl (M 7 0 x1.toNatClampNeg)] M).bind fun q4 => (fn_mf_isOfKind [.inl (M 24 f2 ((M 8 0 x1.toNatClampNeg).toNatClampNeg)), .inl q4.1] q4.2).bind fun q5 => if q5.1 = 0 then (if (Int32.ofInt 0) = 0 ∨ (Int32.ofInt 0) = 1 then some ((Int32.ofInt 0), q5.2) else none) else (fn_fr_push [.inr (23, f2), .inl (M 24 f2 ((M 8 0 x1.toNatClampNeg).toNatClampNeg))] q5.2).bind fun q6 => if q6.1 = 0 then (if (Int32.ofInt 0) = 0 ∨ (Int32.ofInt 0) = 1 then some ((Int32.ofInt 0), q6.2) else none) else (if (Int32.ofInt 1) = 0 ∨ (Int32.ofInt 1) = 1 then some ((Int32.ofInt 1), q6.2) else none) else (fn_ma_stepToOther [.inr (17, 0), .inl (M 7 0 x1.toNatClampNeg), .inr (23, f2)] M).bind fun q7 => if q7.1 = 0 ∨ q7.1 = 1 then some (q7.1, q7.2) else none else (fn_ma_stepOnStack [.inr (17, 0), .inl (M 7 0 x1.toNatClampNeg), .inr (23, f2)] M).bind fun q8 => if q8.1 = 0 ∨ q8.1 = 1 then some (q8.1, q8.2) else none) := rfl
set_option maxRecDepth 20000 in
theorem eq_ma_step (x1 : Int32) (f2 : Nat) (M : zm_M) : fn_ma_step [.inr (17, 0), .inl x1, .inr (23, f2)] M = (if x1 < 0 ∨ 50 ≤ x1.toNatClampNeg then none else if (13 : Int32) < (M 7 0 x1.toNatClampNeg) then if (20 : Int32) < (M 7 0 x1.toNatClampNeg) then if (25 : Int32) < (M 7 0 x1.toNatClampNeg) then if (30 : Int32) < (M 7 0 x1.toNatClampNeg) then if (34 : Int32) < (M 7 0 x1.toNatClampNeg) then (fn_ma_stepObject [.inr (17, 0), .inl x1, .inr (23, f2)] M).bind fun q1 => if q1.1 = 0 ∨ q1.1 = 1 then some (q1.1, q1.2) else none else (fn_ma_stepJump [.inr (17, 0), .inl (M 7 0 x1.toNatClampNeg), .inr (23, f2)] M).bind fun q2 => if q2.1 = 0 ∨ q2.1 = 1 then some (q2.1, q2.2) else none else if x1 < 0 ∨ 50 ≤ x1.toNatClampNeg then none else (fn_ma_stepStore [.inr (17, 0), .inl (M 7 0 x1.toNatClampNeg), .inl (M 8 0 x1.toNatClampNeg), .inr (23, f2)] M).bind fun q3 => if q3.1 = 0 ∨ q3.1 = 1 then some (q3.1, q3.2) else none else if x1 < 0 ∨ 50 ≤ x1.toNatClampNeg then none else if (M 8 0 x1.toNatClampNeg) < 0 ∨ 10 ≤ (M 8 0 x1.toNatClampNeg).toNatClampNeg then none else (fn_mf_localKindOf [.inl (M 7 0 x1.toNatClampNeg)] M).bind fun q4 => (fn_mf_isOfKind [.inl (M 24 f2 ((M 8 0 x1.toNatClampNeg).toNatClampNeg)), .inl q4.1] q4.2).bind fun q5 => if q5.1 = 0 then (some ((0 : Int32), q5.2)) else (fn_fr_push [.inr (23, f2), .inl (M 24 f2 ((M 8 0 x1.toNatClampNeg).toNatClampNeg))] q5.2).bind fun q6 => if q6.1 = 0 then (some ((0 : Int32), q6.2)) else (some ((1 : Int32), q6.2)) else (fn_ma_stepToOther [.inr (17, 0), .inl (M 7 0 x1.toNatClampNeg), .inr (23, f2)] M).bind fun q7 => if q7.1 = 0 ∨ q7.1 = 1 then some (q7.1, q7.2) else none else (fn_ma_stepOnStack [.inr (17, 0), .inl (M 7 0 x1.toNatClampNeg), .inr (23, f2)] M).bind fun q8 => if q8.1 = 0 ∨ q8.1 = 1 then some (q8.1, q8.2) else none) := by
  rw [er_ma_step]
  simp only [kz_B13, kz_B20, kz_B25, kz_B30, kz_B34, kz_I0, kz_I1, true_or, or_true, ↓reduceIte]
def rr_mf_isEnd (n pc : Nat) (lo : zm_L) (st : List zm_V) (M : zm_M) : Option (Int32 × zm_M) := zm_rn zt_Y lx_mf_isEnd zr_z cd_mf_isEnd n pc lo st M
set_option maxRecDepth 20000 in
theorem er_mf_isEnd (x0 : Int32) (M : zm_M) : fn_mf_isEnd [.inl x0] M = (if x0 < ((Int8.ofInt 18).toInt32) then if x0 = ((Int8.ofInt 31).toInt32) then (if (Int32.ofInt 1) = 0 ∨ (Int32.ofInt 1) = 1 then some ((Int32.ofInt 1), M) else none) else (if (Int32.ofInt 0) = 0 ∨ (Int32.ofInt 0) = 1 then some ((Int32.ofInt 0), M) else none) else if ((Int8.ofInt 20).toInt32) < x0 then if x0 = ((Int8.ofInt 31).toInt32) then (if (Int32.ofInt 1) = 0 ∨ (Int32.ofInt 1) = 1 then some ((Int32.ofInt 1), M) else none) else (if (Int32.ofInt 0) = 0 ∨ (Int32.ofInt 0) = 1 then some ((Int32.ofInt 0), M) else none) else (if (Int32.ofInt 1) = 0 ∨ (Int32.ofInt 1) = 1 then some ((Int32.ofInt 1), M) else none)) := rfl
set_option maxRecDepth 20000 in
theorem eq_mf_isEnd (x0 : Int32) (M : zm_M) : fn_mf_isEnd [.inl x0] M = (if x0 < (18 : Int32) then if x0 = (31 : Int32) then (some ((1 : Int32), M)) else (some ((0 : Int32), M)) else if (20 : Int32) < x0 then if x0 = (31 : Int32) then (some ((1 : Int32), M)) else (some ((0 : Int32), M)) else (some ((1 : Int32), M))) := by
  rw [er_mf_isEnd]
  simp only [kz_B18, kz_B31, kz_I1, kz_I0, kz_B20, true_or, or_true, ↓reduceIte]
def rr_fl_leave (n pc : Nat) (lo : zm_L) (st : List zm_V) (M : zm_M) : Option (Int32 × zm_M) := zm_rn zt_Y lx_fl_leave zr_z cd_fl_leave n pc lo st M
set_option maxRecDepth 20000 in
theorem er_fl_leave (x1 : Int32) (M : zm_M) : fn_fl_leave [.inr (18, 0), .inl x1] M = (if x1 < 0 ∨ 50 ≤ x1.toNatClampNeg then none else (fn_fr_takeOver [.inr (23, 100), .inr (23, x1.toNatClampNeg)] M).bind fun q1 => (fn_ma_step [.inr (17, 0), .inl x1, .inr (23, 100)] q1).bind fun q2 => if q2.1 = 0 then (if (Int32.ofInt 0) = 0 ∨ (Int32.ofInt 0) = 1 then some ((Int32.ofInt 0), q2.2) else none) else if x1 < 0 ∨ 50 ≤ x1.toNatClampNeg then none else (fn_mf_isJump [.inl (q2.2 7 0 x1.toNatClampNeg)] q2.2).bind fun q3 => if q3.1 = 0 then (fn_mf_isEnd [.inl (q2.2 7 0 x1.toNatClampNeg)] q3.2).bind fun q4 => if q4.1 = 0 then (fn_fl_arrive [.inr (18, 0), .inl (x1 + (Int32.ofInt 1)), .inr (23, 100)] q4.2).bind fun q5 => if q5.1 = 0 then (if (Int32.ofInt 0) = 0 ∨ (Int32.ofInt 0) = 1 then some ((Int32.ofInt 0), q5.2) else none) else (if (Int32.ofInt 1) = 0 ∨ (Int32.ofInt 1) = 1 then some ((Int32.ofInt 1), q5.2) else none) else (if (Int32.ofInt 1) = 0 ∨ (Int32.ofInt 1) = 1 then some ((Int32.ofInt 1), q4.2) else none) else if x1 < 0 ∨ 50 ≤ x1.toNatClampNeg then none else (fn_fl_arrive [.inr (18, 0), .inl (q3.2 9 0 x1.toNatClampNeg), .inr (23, 100)] q3.2).bind fun q6 => if q6.1 = 0 then (if (Int32.ofInt 0) = 0 ∨ (Int32.ofInt 0) = 1 then some ((Int32.ofInt 0), q6.2) else none) else (fn_mf_isEnd [.inl (q2.2 7 0 x1.toNatClampNeg)] q6.2).bind fun q7 => if q7.1 = 0 then (fn_fl_arrive [.inr (18, 0), .inl (x1 + (Int32.ofInt 1)), .inr (23, 100)] q7.2).bind fun q8 => if q8.1 = 0 then (if (Int32.ofInt 0) = 0 ∨ (Int32.ofInt 0) = 1 then some ((Int32.ofInt 0), q8.2) else none) else (if (Int32.ofInt 1) = 0 ∨ (Int32.ofInt 1) = 1 then some ((Int32.ofInt 1), q8.2) else none) else (if (Int32.ofInt 1) = 0 ∨ (Int32.ofInt 1) = 1 then some ((Int32.ofInt 1), q7.2) else none)) := rfl
set_option maxRecDepth 20000 in
theorem eq_fl_leave (x1 : Int32) (M : zm_M) : fn_fl_leave [.inr (18, 0), .inl x1] M = (if x1 < 0 ∨ 50 ≤ x1.toNatClampNeg then none else (fn_fr_takeOver [.inr (23, 100), .inr (23, x1.toNatClampNeg)] M).bind fun q1 => (fn_ma_step [.inr (17, 0), .inl x1, .inr (23, 100)] q1).bind fun q2 => if q2.1 = 0 then (some ((0 : Int32), q2.2)) else if x1 < 0 ∨ 50 ≤ x1.toNatClampNeg then none else (fn_mf_isJump [.inl (q2.2 7 0 x1.toNatClampNeg)] q2.2).bind fun q3 => if q3.1 = 0 then (fn_mf_isEnd [.inl (q2.2 7 0 x1.toNatClampNeg)] q3.2).bind fun q4 => if q4.1 = 0 then (fn_fl_arrive [.inr (18, 0), .inl (x1 + (1 : Int32)), .inr (23, 100)] q4.2).bind fun q5 => if q5.1 = 0 then (some ((0 : Int32), q5.2)) else (some ((1 : Int32), q5.2)) else (some ((1 : Int32), q4.2)) else if x1 < 0 ∨ 50 ≤ x1.toNatClampNeg then none else (fn_fl_arrive [.inr (18, 0), .inl (q3.2 9 0 x1.toNatClampNeg), .inr (23, 100)] q3.2).bind fun q6 => if q6.1 = 0 then (some ((0 : Int32), q6.2)) else (fn_mf_isEnd [.inl (q2.2 7 0 x1.toNatClampNeg)] q6.2).bind fun q7 => if q7.1 = 0 then (fn_fl_arrive [.inr (18, 0), .inl (x1 + (1 : Int32)), .inr (23, 100)] q7.2).bind fun q8 => if q8.1 = 0 then (some ((0 : Int32), q8.2)) else (some ((1 : Int32), q8.2)) else (some ((1 : Int32), q7.2))) := by
  rw [er_fl_leave]
  simp only [kz_I0, kz_I1, true_or, or_true, ↓reduceIte]
def rr_pr_markRows (n pc : Nat) (lo : zm_L) (st : List zm_V) (M : zm_M) : Option zm_M := zm_rn zt_Y lx_pr_markRows zr_v cd_pr_markRows n pc lo st M
set_option maxRecDepth 20000 in
theorem eq_pr_markRows  (M : zm_M) : fn_pr_markRows [.inr (5, 0), .inr (20, 0)] M = rr_pr_markRows 1073741824 0 [some (.inr (5, 0)), some (.inr (20, 0)), none] [] M := rfl
set_option maxRecDepth 20000 in
theorem so_pr_markRows : cd_pr_markRows.Pairwise (fun a b => a.1 < b.1) := by decide +kernel
set_option maxRecDepth 20000 in
theorem er_pr_markRows_0 (kt bk : Nat → zm_L → List zm_V → zm_M → Option zm_M)  (M : zm_M) : zm_gc zt_Y lx_pr_markRows zr_v [2, 50, 87] kt bk (cd_pr_markRows.drop 0) 0 [some (.inr (5, 0)), some (.inr (20, 0)), none] [] M = (kt 2 [some (.inr (5, 0)), some (.inr (20, 0)), some (.inl (Int32.ofInt 0))] [] M) := rfl
set_option maxRecDepth 20000 in
theorem eq_pr_markRows_0 (n : Nat)  (M : zm_M) : rr_pr_markRows (n + 1) 0 [some (.inr (5, 0)), some (.inr (20, 0)), none] [] M = (rr_pr_markRows (n + 1) 2 [some (.inr (5, 0)), some (.inr (20, 0)), some (.inl (0 : Int32))] [] M) := by
  have h := (zm_gc_ok (cd_pr_markRows.take 0) (cd_pr_markRows.drop 0) (List.take_append_drop 0 cd_pr_markRows).symm so_pr_markRows (by decide +kernel)).symm.trans (er_pr_markRows_0 (rr_pr_markRows (n + 1)) (rr_pr_markRows n)  M)
  simp only [kz_I0] at h
  exact h
set_option maxRecDepth 20000 in
theorem er_pr_markRows_2 (kt bk : Nat → zm_L → List zm_V → zm_M → Option zm_M) (v2 : Int32) (M : zm_M) : zm_gc zt_Y lx_pr_markRows zr_v [2, 50, 87] kt bk (cd_pr_markRows.drop 2) 2 [some (.inr (5, 0)), some (.inr (20, 0)), some (.inl v2)] [] M = (if v2 < ((Int8.ofInt 50).toInt32) then if (0 : Int32) < v2 then if v2 < (M 5 0 9) then if (v2 - (Int32.ofInt 1)) < 0 ∨ 50 ≤ (v2 - (Int32.ofInt 1)).toNatClampNeg then none else (fn_mf_isEnd [.inl (M 7 0 ((v2 - (Int32.ofInt 1)).toNatClampNeg))] M).bind fun q1 => if q1.1 = 0 then if v2 < 0 ∨ 50 ≤ v2.toNatClampNeg then none else bk 2 [some (.inr (5, 0)), some (.inr (20, 0)), some (.inl (v2 + (Int32.ofInt 1)))] [] (zm_up q1.2 20 0 v2.toNatClampNeg ((Int32.ofInt 0) &&& 1)) else if v2 < 0 ∨ 50 ≤ v2.toNatClampNeg then none else bk 2 [some (.inr (5, 0)), some (.inr (20, 0)), some (.inl (v2 + (Int32.ofInt 1)))] [] (zm_up q1.2 20 0 v2.toNatClampNeg ((Int32.ofInt 1) &&& 1)) else if v2 < 0 ∨ 50 ≤ v2.toNatClampNeg then none else bk 2 [some (.inr (5, 0)), some (.inr (20, 0)), some (.inl (v2 + (Int32.ofInt 1)))] [] (zm_up M 20 0 v2.toNatClampNeg ((Int32.ofInt 0) &&& 1)) else if v2 < 0 ∨ 50 ≤ v2.toNatClampNeg then none else bk 2 [some (.inr (5, 0)), some (.inr (20, 0)), some (.inl (v2 + (Int32.ofInt 1)))] [] (zm_up M 20 0 v2.toNatClampNeg ((Int32.ofInt 0) &&& 1)) else kt 50 [some (.inr (5, 0)), some (.inr (20, 0)), some (.inl (Int32.ofInt 0))] [] M) := rfl
set_option maxRecDepth 20000 in
theorem eq_pr_markRows_2 (n : Nat) (v2 : Int32) (M : zm_M) : rr_pr_markRows (n + 1) 2 [some (.inr (5, 0)), some (.inr (20, 0)), some (.inl v2)] [] M = (if v2 < (50 : Int32) then if (0 : Int32) < v2 then if v2 < (M 5 0 9) then if (v2 - (1 : Int32)) < 0 ∨ 50 ≤ (v2 - (1 : Int32)).toNatClampNeg then none else (fn_mf_isEnd [.inl (M 7 0 ((v2 - (1 : Int32)).toNatClampNeg))] M).bind fun q1 => if q1.1 = 0 then if v2 < 0 ∨ 50 ≤ v2.toNatClampNeg then none else rr_pr_markRows n 2 [some (.inr (5, 0)), some (.inr (20, 0)), some (.inl (v2 + (1 : Int32)))] [] (zm_up q1.2 20 0 v2.toNatClampNeg ((0 : Int32) &&& 1)) else if v2 < 0 ∨ 50 ≤ v2.toNatClampNeg then none else rr_pr_markRows n 2 [some (.inr (5, 0)), some (.inr (20, 0)), some (.inl (v2 + (1 : Int32)))] [] (zm_up q1.2 20 0 v2.toNatClampNeg ((1 : Int32) &&& 1)) else if v2 < 0 ∨ 50 ≤ v2.toNatClampNeg then none else rr_pr_markRows n 2 [some (.inr (5, 0)), some (.inr (20, 0)), some (.inl (v2 + (1 : Int32)))] [] (zm_up M 20 0 v2.toNatClampNeg ((0 : Int32) &&& 1)) else if v2 < 0 ∨ 50 ≤ v2.toNatClampNeg then none else rr_pr_markRows n 2 [some (.inr (5, 0)), some (.inr (20, 0)), some (.inl (v2 + (1 : Int32)))] [] (zm_up M 20 0 v2.toNatClampNeg ((0 : Int32) &&& 1)) else rr_pr_markRows (n + 1) 50 [some (.inr (5, 0)), some (.inr (20, 0)), some (.inl (0 : Int32))] [] M) := by
  have h := (zm_gc_ok (cd_pr_markRows.take 2) (cd_pr_markRows.drop 2) (List.take_append_drop 2 cd_pr_markRows).symm so_pr_markRows (by decide +kernel)).symm.trans (er_pr_markRows_2 (rr_pr_markRows (n + 1)) (rr_pr_markRows n) v2 M)
  simp only [kz_B50, kz_I1, kz_I0] at h
  exact h
set_option maxRecDepth 20000 in
theorem er_pr_markRows_50 (kt bk : Nat → zm_L → List zm_V → zm_M → Option zm_M) (v2 : Int32) (M : zm_M) : zm_gc zt_Y lx_pr_markRows zr_v [2, 50, 87] kt bk (cd_pr_markRows.drop 29) 50 [some (.inr (5, 0)), some (.inr (20, 0)), some (.inl v2)] [] M = (if v2 < (M 5 0 9) then if v2 < 0 ∨ 50 ≤ v2.toNatClampNeg then none else (fn_mf_isJump [.inl (M 7 0 v2.toNatClampNeg)] M).bind fun q1 => if q1.1 = 0 then bk 50 [some (.inr (5, 0)), some (.inr (20, 0)), some (.inl (v2 + (Int32.ofInt 1)))] [] q1.2 else if v2 < 0 ∨ 50 ≤ v2.toNatClampNeg then none else if (q1.2 9 0 v2.toNatClampNeg) < 0 ∨ 50 ≤ (q1.2 9 0 v2.toNatClampNeg).toNatClampNeg then none else bk 50 [some (.inr (5, 0)), some (.inr (20, 0)), some (.inl (v2 + (Int32.ofInt 1)))] [] (zm_up q1.2 20 0 ((q1.2 9 0 v2.toNatClampNeg).toNatClampNeg) ((Int32.ofInt 1) &&& 1)) else kt 87 [some (.inr (5, 0)), some (.inr (20, 0)), some (.inl (Int32.ofInt 0))] [] M) := rfl
set_option maxRecDepth 20000 in
theorem eq_pr_markRows_50 (n : Nat) (v2 : Int32) (M : zm_M) : rr_pr_markRows (n + 1) 50 [some (.inr (5, 0)), some (.inr (20, 0)), some (.inl v2)] [] M = (if v2 < (M 5 0 9) then if v2 < 0 ∨ 50 ≤ v2.toNatClampNeg then none else (fn_mf_isJump [.inl (M 7 0 v2.toNatClampNeg)] M).bind fun q1 => if q1.1 = 0 then rr_pr_markRows n 50 [some (.inr (5, 0)), some (.inr (20, 0)), some (.inl (v2 + (1 : Int32)))] [] q1.2 else if v2 < 0 ∨ 50 ≤ v2.toNatClampNeg then none else if (q1.2 9 0 v2.toNatClampNeg) < 0 ∨ 50 ≤ (q1.2 9 0 v2.toNatClampNeg).toNatClampNeg then none else rr_pr_markRows n 50 [some (.inr (5, 0)), some (.inr (20, 0)), some (.inl (v2 + (1 : Int32)))] [] (zm_up q1.2 20 0 ((q1.2 9 0 v2.toNatClampNeg).toNatClampNeg) ((1 : Int32) &&& 1)) else rr_pr_markRows (n + 1) 87 [some (.inr (5, 0)), some (.inr (20, 0)), some (.inl (0 : Int32))] [] M) := by
  have h := (zm_gc_ok (cd_pr_markRows.take 29) (cd_pr_markRows.drop 29) (List.take_append_drop 29 cd_pr_markRows).symm so_pr_markRows (by decide +kernel)).symm.trans (er_pr_markRows_50 (rr_pr_markRows (n + 1)) (rr_pr_markRows n) v2 M)
  simp only [kz_I1, kz_I0] at h
  exact h
set_option maxRecDepth 20000 in
theorem er_pr_markRows_87 (kt bk : Nat → zm_L → List zm_V → zm_M → Option zm_M) (v2 : Int32) (M : zm_M) : zm_gc zt_Y lx_pr_markRows zr_v [2, 50, 87] kt bk (cd_pr_markRows.drop 50) 87 [some (.inr (5, 0)), some (.inr (20, 0)), some (.inl v2)] [] M = (if v2 < (M 5 0 14) then if v2 < 0 ∨ 4 ≤ v2.toNatClampNeg then none else if (M 13 0 v2.toNatClampNeg) < 0 ∨ 50 ≤ (M 13 0 v2.toNatClampNeg).toNatClampNeg then none else bk 87 [some (.inr (5, 0)), some (.inr (20, 0)), some (.inl (v2 + (Int32.ofInt 1)))] [] (zm_up M 20 0 ((M 13 0 v2.toNatClampNeg).toNatClampNeg) ((Int32.ofInt 1) &&& 1)) else some M) := rfl
set_option maxRecDepth 20000 in
theorem eq_pr_markRows_87 (n : Nat) (v2 : Int32) (M : zm_M) : rr_pr_markRows (n + 1) 87 [some (.inr (5, 0)), some (.inr (20, 0)), some (.inl v2)] [] M = (if v2 < (M 5 0 14) then if v2 < 0 ∨ 4 ≤ v2.toNatClampNeg then none else if (M 13 0 v2.toNatClampNeg) < 0 ∨ 50 ≤ (M 13 0 v2.toNatClampNeg).toNatClampNeg then none else rr_pr_markRows n 87 [some (.inr (5, 0)), some (.inr (20, 0)), some (.inl (v2 + (1 : Int32)))] [] (zm_up M 20 0 ((M 13 0 v2.toNatClampNeg).toNatClampNeg) ((1 : Int32) &&& 1)) else some M) := by
  have h := (zm_gc_ok (cd_pr_markRows.take 50) (cd_pr_markRows.drop 50) (List.take_append_drop 50 cd_pr_markRows).symm so_pr_markRows (by decide +kernel)).symm.trans (er_pr_markRows_87 (rr_pr_markRows (n + 1)) (rr_pr_markRows n) v2 M)
  simp only [kz_I1] at h
  exact h
def rr_fr_hasRawThisInLocal (n pc : Nat) (lo : zm_L) (st : List zm_V) (M : zm_M) : Option (Int32 × zm_M) := zm_rn zt_Y lx_fr_hasRawThisInLocal zr_z cd_fr_hasRawThisInLocal n pc lo st M
set_option maxRecDepth 20000 in
theorem eq_fr_hasRawThisInLocal (f0 : Nat) (M : zm_M) : fn_fr_hasRawThisInLocal [.inr (23, f0)] M = rr_fr_hasRawThisInLocal 1073741824 0 [some (.inr (23, f0)), none] [] M := rfl
set_option maxRecDepth 20000 in
theorem so_fr_hasRawThisInLocal : cd_fr_hasRawThisInLocal.Pairwise (fun a b => a.1 < b.1) := by decide +kernel
set_option maxRecDepth 20000 in
theorem er_fr_hasRawThisInLocal_0 (kt bk : Nat → zm_L → List zm_V → zm_M → Option (Int32 × zm_M)) (f0 : Nat) (M : zm_M) : zm_gc zt_Y lx_fr_hasRawThisInLocal zr_z [2] kt bk (cd_fr_hasRawThisInLocal.drop 0) 0 [some (.inr (23, f0)), none] [] M = (kt 2 [some (.inr (23, f0)), some (.inl (Int32.ofInt 0))] [] M) := rfl
set_option maxRecDepth 20000 in
theorem eq_fr_hasRawThisInLocal_0 (n : Nat) (f0 : Nat) (M : zm_M) : rr_fr_hasRawThisInLocal (n + 1) 0 [some (.inr (23, f0)), none] [] M = (rr_fr_hasRawThisInLocal (n + 1) 2 [some (.inr (23, f0)), some (.inl (0 : Int32))] [] M) := by
  have h := (zm_gc_ok (cd_fr_hasRawThisInLocal.take 0) (cd_fr_hasRawThisInLocal.drop 0) (List.take_append_drop 0 cd_fr_hasRawThisInLocal).symm so_fr_hasRawThisInLocal (by decide +kernel)).symm.trans (er_fr_hasRawThisInLocal_0 (rr_fr_hasRawThisInLocal (n + 1)) (rr_fr_hasRawThisInLocal n) f0 M)
  simp only [kz_I0] at h
  exact h
set_option maxRecDepth 20000 in
theorem er_fr_hasRawThisInLocal_2 (kt bk : Nat → zm_L → List zm_V → zm_M → Option (Int32 × zm_M)) (f0 : Nat) (v1 : Int32) (M : zm_M) : zm_gc zt_Y lx_fr_hasRawThisInLocal zr_z [2] kt bk (cd_fr_hasRawThisInLocal.drop 2) 2 [some (.inr (23, f0)), some (.inl v1)] [] M = (if v1 < ((Int8.ofInt 10).toInt32) then if v1 < 0 ∨ 10 ≤ v1.toNatClampNeg then none else if (M 24 f0 v1.toNatClampNeg) = ((Int8.ofInt 6).toInt32) then (if (Int32.ofInt 1) = 0 ∨ (Int32.ofInt 1) = 1 then some ((Int32.ofInt 1), M) else none) else bk 2 [some (.inr (23, f0)), some (.inl (v1 + (Int32.ofInt 1)))] [] M else (if (Int32.ofInt 0) = 0 ∨ (Int32.ofInt 0) = 1 then some ((Int32.ofInt 0), M) else none)) := rfl
set_option maxRecDepth 20000 in
theorem eq_fr_hasRawThisInLocal_2 (n : Nat) (f0 : Nat) (v1 : Int32) (M : zm_M) : rr_fr_hasRawThisInLocal (n + 1) 2 [some (.inr (23, f0)), some (.inl v1)] [] M = (if v1 < (10 : Int32) then if v1 < 0 ∨ 10 ≤ v1.toNatClampNeg then none else if (M 24 f0 v1.toNatClampNeg) = (6 : Int32) then (some ((1 : Int32), M)) else rr_fr_hasRawThisInLocal n 2 [some (.inr (23, f0)), some (.inl (v1 + (1 : Int32)))] [] M else (some ((0 : Int32), M))) := by
  have h := (zm_gc_ok (cd_fr_hasRawThisInLocal.take 2) (cd_fr_hasRawThisInLocal.drop 2) (List.take_append_drop 2 cd_fr_hasRawThisInLocal).symm so_fr_hasRawThisInLocal (by decide +kernel)).symm.trans (er_fr_hasRawThisInLocal_2 (rr_fr_hasRawThisInLocal (n + 1)) (rr_fr_hasRawThisInLocal n) f0 v1 M)
  simp only [kz_B10, kz_B6, kz_I1, kz_I0, true_or, or_true, ↓reduceIte] at h
  exact h
def rr_fl_isWhole (n pc : Nat) (lo : zm_L) (st : List zm_V) (M : zm_M) : Option (Int32 × zm_M) := zm_rn zt_Y lx_fl_isWhole zr_z cd_fl_isWhole n pc lo st M
set_option maxRecDepth 20000 in
theorem eq_fl_isWhole  (M : zm_M) : fn_fl_isWhole [.inr (18, 0)] M = rr_fl_isWhole 1073741824 0 [some (.inr (18, 0)), none] [] M := rfl
set_option maxRecDepth 20000 in
theorem so_fl_isWhole : cd_fl_isWhole.Pairwise (fun a b => a.1 < b.1) := by decide +kernel
set_option maxRecDepth 20000 in
theorem er_fl_isWhole_0 (kt bk : Nat → zm_L → List zm_V → zm_M → Option (Int32 × zm_M))  (M : zm_M) : zm_gc zt_Y lx_fl_isWhole zr_z [13] kt bk (cd_fl_isWhole.drop 0) 0 [some (.inr (18, 0)), none] [] M = ((fn_pr_markRows [.inr (5, 0), .inr (20, 0)] M).bind fun q1 => kt 13 [some (.inr (18, 0)), some (.inl (Int32.ofInt 0))] [] q1) := rfl
set_option maxRecDepth 20000 in
theorem eq_fl_isWhole_0 (n : Nat)  (M : zm_M) : rr_fl_isWhole (n + 1) 0 [some (.inr (18, 0)), none] [] M = ((fn_pr_markRows [.inr (5, 0), .inr (20, 0)] M).bind fun q1 => rr_fl_isWhole (n + 1) 13 [some (.inr (18, 0)), some (.inl (0 : Int32))] [] q1) := by
  have h := (zm_gc_ok (cd_fl_isWhole.take 0) (cd_fl_isWhole.drop 0) (List.take_append_drop 0 cd_fl_isWhole).symm so_fl_isWhole (by decide +kernel)).symm.trans (er_fl_isWhole_0 (rr_fl_isWhole (n + 1)) (rr_fl_isWhole n)  M)
  simp only [kz_I0] at h
  exact h
set_option maxRecDepth 20000 in
theorem er_fl_isWhole_13 (kt bk : Nat → zm_L → List zm_V → zm_M → Option (Int32 × zm_M)) (v1 : Int32) (M : zm_M) : zm_gc zt_Y lx_fl_isWhole zr_z [13] kt bk (cd_fl_isWhole.drop 7) 13 [some (.inr (18, 0)), some (.inl v1)] [] M = (if v1 < (M 5 0 9) then if v1 < 0 ∨ 50 ≤ v1.toNatClampNeg then none else if (M 21 0 v1.toNatClampNeg) = 0 then (if (Int32.ofInt 0) = 0 ∨ (Int32.ofInt 0) = 1 then some ((Int32.ofInt 0), M) else none) else if v1 < 0 ∨ 50 ≤ v1.toNatClampNeg then none else if (M 20 0 v1.toNatClampNeg) = 0 then bk 13 [some (.inr (18, 0)), some (.inl (v1 + (Int32.ofInt 1)))] [] M else if v1 < 0 ∨ 50 ≤ v1.toNatClampNeg then none else if (M 23 v1.toNatClampNeg 4) = 0 then bk 13 [some (.inr (18, 0)), some (.inl (v1 + (Int32.ofInt 1)))] [] M else if v1 < 0 ∨ 50 ≤ v1.toNatClampNeg then none else (fn_fr_hasRawThisInLocal [.inr (23, v1.toNatClampNeg)] M).bind fun q1 => if q1.1 = 0 then (if (Int32.ofInt 0) = 0 ∨ (Int32.ofInt 0) = 1 then some ((Int32.ofInt 0), q1.2) else none) else bk 13 [some (.inr (18, 0)), some (.inl (v1 + (Int32.ofInt 1)))] [] q1.2 else if (0 : Int32) < (M 5 0 9) then (if (Int32.ofInt 1) = 0 ∨ (Int32.ofInt 1) = 1 then some ((Int32.ofInt 1), M) else none) else (if (Int32.ofInt 0) = 0 ∨ (Int32.ofInt 0) = 1 then some ((Int32.ofInt 0), M) else none)) := rfl
set_option maxRecDepth 20000 in
theorem eq_fl_isWhole_13 (n : Nat) (v1 : Int32) (M : zm_M) : rr_fl_isWhole (n + 1) 13 [some (.inr (18, 0)), some (.inl v1)] [] M = (if v1 < (M 5 0 9) then if v1 < 0 ∨ 50 ≤ v1.toNatClampNeg then none else if (M 21 0 v1.toNatClampNeg) = 0 then (some ((0 : Int32), M)) else if v1 < 0 ∨ 50 ≤ v1.toNatClampNeg then none else if (M 20 0 v1.toNatClampNeg) = 0 then rr_fl_isWhole n 13 [some (.inr (18, 0)), some (.inl (v1 + (1 : Int32)))] [] M else if v1 < 0 ∨ 50 ≤ v1.toNatClampNeg then none else if (M 23 v1.toNatClampNeg 4) = 0 then rr_fl_isWhole n 13 [some (.inr (18, 0)), some (.inl (v1 + (1 : Int32)))] [] M else if v1 < 0 ∨ 50 ≤ v1.toNatClampNeg then none else (fn_fr_hasRawThisInLocal [.inr (23, v1.toNatClampNeg)] M).bind fun q1 => if q1.1 = 0 then (some ((0 : Int32), q1.2)) else rr_fl_isWhole n 13 [some (.inr (18, 0)), some (.inl (v1 + (1 : Int32)))] [] q1.2 else if (0 : Int32) < (M 5 0 9) then (some ((1 : Int32), M)) else (some ((0 : Int32), M))) := by
  have h := (zm_gc_ok (cd_fl_isWhole.take 7) (cd_fl_isWhole.drop 7) (List.take_append_drop 7 cd_fl_isWhole).symm so_fl_isWhole (by decide +kernel)).symm.trans (er_fl_isWhole_13 (rr_fl_isWhole (n + 1)) (rr_fl_isWhole n) v1 M)
  simp only [kz_I0, kz_I1, true_or, or_true, ↓reduceIte] at h
  exact h
def rr_fl_isRight (n pc : Nat) (lo : zm_L) (st : List zm_V) (M : zm_M) : Option (Int32 × zm_M) := zm_rn zt_Y lx_fl_isRight zr_z cd_fl_isRight n pc lo st M
set_option maxRecDepth 20000 in
theorem eq_fl_isRight  (M : zm_M) : fn_fl_isRight [.inr (18, 0)] M = rr_fl_isRight 1073741824 0 [some (.inr (18, 0)), none, none, none] [] M := rfl
set_option maxRecDepth 20000 in
theorem so_fl_isRight : cd_fl_isRight.Pairwise (fun a b => a.1 < b.1) := by decide +kernel
set_option maxRecDepth 20000 in
theorem er_fl_isRight_0 (kt bk : Nat → zm_L → List zm_V → zm_M → Option (Int32 × zm_M))  (M : zm_M) : zm_gc zt_Y lx_fl_isRight zr_z [30, 44] kt bk (cd_fl_isRight.drop 0) 0 [some (.inr (18, 0)), none, none, none] [] M = (if (M 18 0 8) = 0 then (if (Int32.ofInt 1) = 0 ∨ (Int32.ofInt 1) = 1 then (if (Int32.ofInt 0) = 0 ∨ (Int32.ofInt 0) = 1 then (fn_fl_begin [.inr (18, 0)] (zm_up (zm_up M 18 0 8 (Int32.ofInt 1)) 18 0 9 (Int32.ofInt 0))).bind fun q1 => kt 30 [some (.inr (18, 0)), some (.inl (Int32.ofInt 1)), some (.inl (Int32.ofInt 0)), none] [] q1 else none) else none) else if (M 18 0 9) = 0 ∨ (M 18 0 9) = 1 then some (M 18 0 9, M) else none) := rfl
set_option maxRecDepth 20000 in
theorem eq_fl_isRight_0 (n : Nat)  (M : zm_M) : rr_fl_isRight (n + 1) 0 [some (.inr (18, 0)), none, none, none] [] M = (if (M 18 0 8) = 0 then (fn_fl_begin [.inr (18, 0)] (zm_up (zm_up M 18 0 8 (1 : Int32)) 18 0 9 (0 : Int32))).bind fun q1 => rr_fl_isRight (n + 1) 30 [some (.inr (18, 0)), some (.inl (1 : Int32)), some (.inl (0 : Int32)), none] [] q1 else if (M 18 0 9) = 0 ∨ (M 18 0 9) = 1 then some (M 18 0 9, M) else none) := by
  have h := (zm_gc_ok (cd_fl_isRight.take 0) (cd_fl_isRight.drop 0) (List.take_append_drop 0 cd_fl_isRight).symm so_fl_isRight (by decide +kernel)).symm.trans (er_fl_isRight_0 (rr_fl_isRight (n + 1)) (rr_fl_isRight n)  M)
  simp only [kz_I1, kz_I0, true_or, or_true, ↓reduceIte] at h
  exact h
set_option maxRecDepth 20000 in
theorem er_fl_isRight_30 (kt bk : Nat → zm_L → List zm_V → zm_M → Option (Int32 × zm_M)) (v1 : Int32) (v2 : Int32) (o3 : Option zm_V) (M : zm_M) : zm_gc zt_Y lx_fl_isRight zr_z [30, 44] kt bk (cd_fl_isRight.drop 18) 30 [some (.inr (18, 0)), some (.inl v1), some (.inl v2), o3] [] M = (if v1 = 0 then (fn_fl_isWhole [.inr (18, 0)] M).bind fun q1 => if q1.1 = 0 ∨ q1.1 = 1 then if q1.1 = 0 ∨ q1.1 = 1 then some (q1.1, zm_up q1.2 18 0 9 q1.1) else none else none else if v2 < 100000 then kt 44 [some (.inr (18, 0)), some (.inl (Int32.ofInt 0)), some (.inl v2), some (.inl (Int32.ofInt 0))] [] M else (fn_fl_isWhole [.inr (18, 0)] M).bind fun q2 => if q2.1 = 0 ∨ q2.1 = 1 then if q2.1 = 0 ∨ q2.1 = 1 then some (q2.1, zm_up q2.2 18 0 9 q2.1) else none else none) := rfl
set_option maxRecDepth 20000 in
theorem eq_fl_isRight_30 (n : Nat) (v1 : Int32) (v2 : Int32) (o3 : Option zm_V) (M : zm_M) : rr_fl_isRight (n + 1) 30 [some (.inr (18, 0)), some (.inl v1), some (.inl v2), o3] [] M = (if v1 = 0 then (fn_fl_isWhole [.inr (18, 0)] M).bind fun q1 => if q1.1 = 0 ∨ q1.1 = 1 then if q1.1 = 0 ∨ q1.1 = 1 then some (q1.1, zm_up q1.2 18 0 9 q1.1) else none else none else if v2 < 100000 then rr_fl_isRight (n + 1) 44 [some (.inr (18, 0)), some (.inl (0 : Int32)), some (.inl v2), some (.inl (0 : Int32))] [] M else (fn_fl_isWhole [.inr (18, 0)] M).bind fun q2 => if q2.1 = 0 ∨ q2.1 = 1 then if q2.1 = 0 ∨ q2.1 = 1 then some (q2.1, zm_up q2.2 18 0 9 q2.1) else none else none) := by
  have h := (zm_gc_ok (cd_fl_isRight.take 18) (cd_fl_isRight.drop 18) (List.take_append_drop 18 cd_fl_isRight).symm so_fl_isRight (by decide +kernel)).symm.trans (er_fl_isRight_30 (rr_fl_isRight (n + 1)) (rr_fl_isRight n) v1 v2 o3 M)
  simp only [kz_I0] at h
  exact h
set_option maxRecDepth 20000 in
theorem er_fl_isRight_44 (kt bk : Nat → zm_L → List zm_V → zm_M → Option (Int32 × zm_M)) (v1 : Int32) (v2 : Int32) (v3 : Int32) (M : zm_M) : zm_gc zt_Y lx_fl_isRight zr_z [30, 44] kt bk (cd_fl_isRight.drop 27) 44 [some (.inr (18, 0)), some (.inl v1), some (.inl v2), some (.inl v3)] [] M = (if v3 < (M 5 0 9) then if v3 < 0 ∨ 50 ≤ v3.toNatClampNeg then none else if (M 22 0 v3.toNatClampNeg) = 0 then bk 44 [some (.inr (18, 0)), some (.inl v1), some (.inl v2), some (.inl (v3 + (Int32.ofInt 1)))] [] M else if v3 < 0 ∨ 50 ≤ v3.toNatClampNeg then none else (fn_fl_leaveToHandlers [.inr (18, 0), .inl v3] (zm_up M 22 0 v3.toNatClampNeg ((Int32.ofInt 0) &&& 1))).bind fun q1 => if q1.1 = 0 then (if (Int32.ofInt 0) = 0 ∨ (Int32.ofInt 0) = 1 then some ((Int32.ofInt 0), q1.2) else none) else (fn_fl_leave [.inr (18, 0), .inl v3] q1.2).bind fun q2 => if q2.1 = 0 then (if (Int32.ofInt 0) = 0 ∨ (Int32.ofInt 0) = 1 then some ((Int32.ofInt 0), q2.2) else none) else bk 44 [some (.inr (18, 0)), some (.inl (Int32.ofInt 1)), some (.inl v2), some (.inl (v3 + (Int32.ofInt 1)))] [] q2.2 else bk 30 [some (.inr (18, 0)), some (.inl v1), some (.inl (v2 + (Int32.ofInt 1))), some (.inl v3)] [] M) := rfl
set_option maxRecDepth 20000 in
theorem eq_fl_isRight_44 (n : Nat) (v1 : Int32) (v2 : Int32) (v3 : Int32) (M : zm_M) : rr_fl_isRight (n + 1) 44 [some (.inr (18, 0)), some (.inl v1), some (.inl v2), some (.inl v3)] [] M = (if v3 < (M 5 0 9) then if v3 < 0 ∨ 50 ≤ v3.toNatClampNeg then none else if (M 22 0 v3.toNatClampNeg) = 0 then rr_fl_isRight n 44 [some (.inr (18, 0)), some (.inl v1), some (.inl v2), some (.inl (v3 + (1 : Int32)))] [] M else if v3 < 0 ∨ 50 ≤ v3.toNatClampNeg then none else (fn_fl_leaveToHandlers [.inr (18, 0), .inl v3] (zm_up M 22 0 v3.toNatClampNeg ((0 : Int32) &&& 1))).bind fun q1 => if q1.1 = 0 then (some ((0 : Int32), q1.2)) else (fn_fl_leave [.inr (18, 0), .inl v3] q1.2).bind fun q2 => if q2.1 = 0 then (some ((0 : Int32), q2.2)) else rr_fl_isRight n 44 [some (.inr (18, 0)), some (.inl (1 : Int32)), some (.inl v2), some (.inl (v3 + (1 : Int32)))] [] q2.2 else rr_fl_isRight n 30 [some (.inr (18, 0)), some (.inl v1), some (.inl (v2 + (1 : Int32))), some (.inl v3)] [] M) := by
  have h := (zm_gc_ok (cd_fl_isRight.take 27) (cd_fl_isRight.drop 27) (List.take_append_drop 27 cd_fl_isRight).symm so_fl_isRight (by decide +kernel)).symm.trans (er_fl_isRight_44 (rr_fl_isRight (n + 1)) (rr_fl_isRight n) v1 v2 v3 M)
  simp only [kz_I1, kz_I0, true_or, or_true, ↓reduceIte] at h
  exact h
def rr_tl_empty (n pc : Nat) (lo : zm_L) (st : List zm_V) (M : zm_M) : Option zm_M := zm_rn zt_Y lx_tl_empty zr_v cd_tl_empty n pc lo st M
set_option maxRecDepth 20000 in
theorem er_tl_empty (f0 : Nat) (M : zm_M) : fn_tl_empty [.inr (27, f0)] M = (some (zm_up (zm_up M 27 f0 1 (Int32.ofInt 0)) 27 f0 2 (Int32.ofInt 0))) := rfl
set_option maxRecDepth 20000 in
theorem eq_tl_empty (f0 : Nat) (M : zm_M) : fn_tl_empty [.inr (27, f0)] M = (some (zm_up (zm_up M 27 f0 1 (0 : Int32)) 27 f0 2 (0 : Int32))) := by
  rw [er_tl_empty]
  simp only [kz_I0]
def rr_tl_append (n pc : Nat) (lo : zm_L) (st : List zm_V) (M : zm_M) : Option (Int32 × zm_M) := zm_rn zt_Y lx_tl_append zr_z cd_tl_append n pc lo st M
set_option maxRecDepth 20000 in
theorem er_tl_append (f0 : Nat) (x1 : Int32) (M : zm_M) : fn_tl_append [.inr (27, f0), .inl x1] M = ((fn_mf_widthOf [.inl x1] M).bind fun q1 => if ((Int8.ofInt 10).toInt32) < ((q1.2 27 f0 2) + q1.1) then (if (Int32.ofInt 0) = 0 ∨ (Int32.ofInt 0) = 1 then some ((Int32.ofInt 0), q1.2) else none) else if (q1.2 27 f0 1) < 0 ∨ 10 ≤ (q1.2 27 f0 1).toNatClampNeg then none else (if (Int32.ofInt 1) = 0 ∨ (Int32.ofInt 1) = 1 then some ((Int32.ofInt 1), zm_up (zm_up (zm_up q1.2 28 f0 ((q1.2 27 f0 1).toNatClampNeg) x1) 27 f0 1 ((q1.2 27 f0 1) + (Int32.ofInt 1))) 27 f0 2 ((q1.2 27 f0 2) + q1.1)) else none)) := rfl
set_option maxRecDepth 20000 in
theorem eq_tl_append (f0 : Nat) (x1 : Int32) (M : zm_M) : fn_tl_append [.inr (27, f0), .inl x1] M = ((fn_mf_widthOf [.inl x1] M).bind fun q1 => if (10 : Int32) < ((q1.2 27 f0 2) + q1.1) then (some ((0 : Int32), q1.2)) else if (q1.2 27 f0 1) < 0 ∨ 10 ≤ (q1.2 27 f0 1).toNatClampNeg then none else (some ((1 : Int32), zm_up (zm_up (zm_up q1.2 28 f0 ((q1.2 27 f0 1).toNatClampNeg) x1) 27 f0 1 ((q1.2 27 f0 1) + (1 : Int32))) 27 f0 2 ((q1.2 27 f0 2) + q1.1)))) := by
  rw [er_tl_append]
  simp only [kz_B10, kz_I0, kz_I1, true_or, or_true, ↓reduceIte]
def rr_tl_drop (n pc : Nat) (lo : zm_L) (st : List zm_V) (M : zm_M) : Option zm_M := zm_rn zt_Y lx_tl_drop zr_v cd_tl_drop n pc lo st M
set_option maxRecDepth 20000 in
theorem er_tl_drop (f0 : Nat) (M : zm_M) : fn_tl_drop [.inr (27, f0)] M = (if (0 : Int32) < (M 27 f0 1) then if ((zm_up M 27 f0 1 ((M 27 f0 1) - (Int32.ofInt 1))) 27 f0 1) < 0 ∨ 10 ≤ ((zm_up M 27 f0 1 ((M 27 f0 1) - (Int32.ofInt 1))) 27 f0 1).toNatClampNeg then none else (fn_mf_widthOf [.inl (M 28 f0 (((zm_up M 27 f0 1 ((M 27 f0 1) - (Int32.ofInt 1))) 27 f0 1).toNatClampNeg))] (zm_up M 27 f0 1 ((M 27 f0 1) - (Int32.ofInt 1)))).bind fun q1 => some (zm_up q1.2 27 f0 2 ((M 27 f0 2) - q1.1)) else some M) := rfl
set_option maxRecDepth 20000 in
theorem eq_tl_drop (f0 : Nat) (M : zm_M) : fn_tl_drop [.inr (27, f0)] M = (if (0 : Int32) < (M 27 f0 1) then if ((zm_up M 27 f0 1 ((M 27 f0 1) - (1 : Int32))) 27 f0 1) < 0 ∨ 10 ≤ ((zm_up M 27 f0 1 ((M 27 f0 1) - (1 : Int32))) 27 f0 1).toNatClampNeg then none else (fn_mf_widthOf [.inl (M 28 f0 (((zm_up M 27 f0 1 ((M 27 f0 1) - (1 : Int32))) 27 f0 1).toNatClampNeg))] (zm_up M 27 f0 1 ((M 27 f0 1) - (1 : Int32)))).bind fun q1 => some (zm_up q1.2 27 f0 2 ((M 27 f0 2) - q1.1)) else some M) := by
  rw [er_tl_drop]
  simp only [kz_I1]
def rr_tl_gather (n pc : Nat) (lo : zm_L) (st : List zm_V) (M : zm_M) : Option zm_M := zm_rn zt_Y lx_tl_gather zr_v cd_tl_gather n pc lo st M
set_option maxRecDepth 20000 in
theorem eq_tl_gather (f0 : Nat) (f1 : Nat) (M : zm_M) : fn_tl_gather [.inr (27, f0), .inr (23, f1)] M = rr_tl_gather 1073741824 0 [some (.inr (27, f0)), some (.inr (23, f1)), none] [] M := rfl
set_option maxRecDepth 20000 in
theorem so_tl_gather : cd_tl_gather.Pairwise (fun a b => a.1 < b.1) := by decide +kernel
set_option maxRecDepth 20000 in
theorem er_tl_gather_0 (kt bk : Nat → zm_L → List zm_V → zm_M → Option zm_M) (f0 : Nat) (f1 : Nat) (M : zm_M) : zm_gc zt_Y lx_tl_gather zr_v [6, 40] kt bk (cd_tl_gather.drop 0) 0 [some (.inr (27, f0)), some (.inr (23, f1)), none] [] M = ((fn_tl_empty [.inr (27, f0)] M).bind fun q1 => kt 6 [some (.inr (27, f0)), some (.inr (23, f1)), some (.inl (Int32.ofInt 0))] [] q1) := rfl
set_option maxRecDepth 20000 in
theorem eq_tl_gather_0 (n : Nat) (f0 : Nat) (f1 : Nat) (M : zm_M) : rr_tl_gather (n + 1) 0 [some (.inr (27, f0)), some (.inr (23, f1)), none] [] M = ((fn_tl_empty [.inr (27, f0)] M).bind fun q1 => rr_tl_gather (n + 1) 6 [some (.inr (27, f0)), some (.inr (23, f1)), some (.inl (0 : Int32))] [] q1) := by
  have h := (zm_gc_ok (cd_tl_gather.take 0) (cd_tl_gather.drop 0) (List.take_append_drop 0 cd_tl_gather).symm so_tl_gather (by decide +kernel)).symm.trans (er_tl_gather_0 (rr_tl_gather (n + 1)) (rr_tl_gather n) f0 f1 M)
  simp only [kz_I0] at h
  exact h
set_option maxRecDepth 20000 in
theorem er_tl_gather_6 (kt bk : Nat → zm_L → List zm_V → zm_M → Option zm_M) (f0 : Nat) (f1 : Nat) (v2 : Int32) (M : zm_M) : zm_gc zt_Y lx_tl_gather zr_v [6, 40] kt bk (cd_tl_gather.drop 4) 6 [some (.inr (27, f0)), some (.inr (23, f1)), some (.inl v2)] [] M = (if v2 < ((Int8.ofInt 10).toInt32) then if v2 < 0 ∨ 10 ≤ v2.toNatClampNeg then none else (fn_tl_append [.inr (27, f0), .inl (M 24 f1 v2.toNatClampNeg)] M).bind fun q1 => if v2 < 0 ∨ 10 ≤ v2.toNatClampNeg then none else (fn_mf_widthOf [.inl (q1.2 24 f1 v2.toNatClampNeg)] q1.2).bind fun q2 => bk 6 [some (.inr (27, f0)), some (.inr (23, f1)), some (.inl (v2 + q2.1))] [] q2.2 else kt 40 [some (.inr (27, f0)), some (.inr (23, f1)), some (.inl (Int32.ofInt 0))] [] M) := rfl
set_option maxRecDepth 20000 in
theorem eq_tl_gather_6 (n : Nat) (f0 : Nat) (f1 : Nat) (v2 : Int32) (M : zm_M) : rr_tl_gather (n + 1) 6 [some (.inr (27, f0)), some (.inr (23, f1)), some (.inl v2)] [] M = (if v2 < (10 : Int32) then if v2 < 0 ∨ 10 ≤ v2.toNatClampNeg then none else (fn_tl_append [.inr (27, f0), .inl (M 24 f1 v2.toNatClampNeg)] M).bind fun q1 => if v2 < 0 ∨ 10 ≤ v2.toNatClampNeg then none else (fn_mf_widthOf [.inl (q1.2 24 f1 v2.toNatClampNeg)] q1.2).bind fun q2 => rr_tl_gather n 6 [some (.inr (27, f0)), some (.inr (23, f1)), some (.inl (v2 + q2.1))] [] q2.2 else rr_tl_gather (n + 1) 40 [some (.inr (27, f0)), some (.inr (23, f1)), some (.inl (0 : Int32))] [] M) := by
  have h := (zm_gc_ok (cd_tl_gather.take 4) (cd_tl_gather.drop 4) (List.take_append_drop 4 cd_tl_gather).symm so_tl_gather (by decide +kernel)).symm.trans (er_tl_gather_6 (rr_tl_gather (n + 1)) (rr_tl_gather n) f0 f1 v2 M)
  simp only [kz_B10, kz_I0] at h
  exact h
set_option maxRecDepth 20000 in
theorem er_tl_gather_40 (kt bk : Nat → zm_L → List zm_V → zm_M → Option zm_M) (f0 : Nat) (f1 : Nat) (v2 : Int32) (M : zm_M) : zm_gc zt_Y lx_tl_gather zr_v [6, 40] kt bk (cd_tl_gather.drop 25) 40 [some (.inr (27, f0)), some (.inr (23, f1)), some (.inl v2)] [] M = (if v2 < ((Int8.ofInt 10).toInt32) then if (0 : Int32) < (M 27 f0 1) then if ((M 27 f0 1) - (Int32.ofInt 1)) < 0 ∨ 10 ≤ ((M 27 f0 1) - (Int32.ofInt 1)).toNatClampNeg then none else if (M 28 f0 (((M 27 f0 1) - (Int32.ofInt 1)).toNatClampNeg)) = 0 then (fn_tl_drop [.inr (27, f0)] M).bind fun q1 => bk 40 [some (.inr (27, f0)), some (.inr (23, f1)), some (.inl (v2 + (Int32.ofInt 1)))] [] q1 else some M else some M else some M) := rfl
set_option maxRecDepth 20000 in
theorem eq_tl_gather_40 (n : Nat) (f0 : Nat) (f1 : Nat) (v2 : Int32) (M : zm_M) : rr_tl_gather (n + 1) 40 [some (.inr (27, f0)), some (.inr (23, f1)), some (.inl v2)] [] M = (if v2 < (10 : Int32) then if (0 : Int32) < (M 27 f0 1) then if ((M 27 f0 1) - (1 : Int32)) < 0 ∨ 10 ≤ ((M 27 f0 1) - (1 : Int32)).toNatClampNeg then none else if (M 28 f0 (((M 27 f0 1) - (1 : Int32)).toNatClampNeg)) = 0 then (fn_tl_drop [.inr (27, f0)] M).bind fun q1 => rr_tl_gather n 40 [some (.inr (27, f0)), some (.inr (23, f1)), some (.inl (v2 + (1 : Int32)))] [] q1 else some M else some M else some M) := by
  have h := (zm_gc_ok (cd_tl_gather.take 25) (cd_tl_gather.drop 25) (List.take_append_drop 25 cd_tl_gather).symm so_tl_gather (by decide +kernel)).symm.trans (er_tl_gather_40 (rr_tl_gather (n + 1)) (rr_tl_gather n) f0 f1 v2 M)
  simp only [kz_B10, kz_I1] at h
  exact h
def rr_tl_sharedStart (n pc : Nat) (lo : zm_L) (st : List zm_V) (M : zm_M) : Option (Int32 × zm_M) := zm_rn zt_Y lx_tl_sharedStart zr_i cd_tl_sharedStart n pc lo st M
set_option maxRecDepth 20000 in
theorem eq_tl_sharedStart (f0 : Nat) (f1 : Nat) (M : zm_M) : fn_tl_sharedStart [.inr (27, f0), .inr (27, f1)] M = rr_tl_sharedStart 1073741824 0 [some (.inr (27, f0)), some (.inr (27, f1)), none] [] M := rfl
set_option maxRecDepth 20000 in
theorem so_tl_sharedStart : cd_tl_sharedStart.Pairwise (fun a b => a.1 < b.1) := by decide +kernel
set_option maxRecDepth 20000 in
theorem er_tl_sharedStart_0 (kt bk : Nat → zm_L → List zm_V → zm_M → Option (Int32 × zm_M)) (f0 : Nat) (f1 : Nat) (M : zm_M) : zm_gc zt_Y lx_tl_sharedStart zr_i [2] kt bk (cd_tl_sharedStart.drop 0) 0 [some (.inr (27, f0)), some (.inr (27, f1)), none] [] M = (kt 2 [some (.inr (27, f0)), some (.inr (27, f1)), some (.inl (Int32.ofInt 0))] [] M) := rfl
set_option maxRecDepth 20000 in
theorem eq_tl_sharedStart_0 (n : Nat) (f0 : Nat) (f1 : Nat) (M : zm_M) : rr_tl_sharedStart (n + 1) 0 [some (.inr (27, f0)), some (.inr (27, f1)), none] [] M = (rr_tl_sharedStart (n + 1) 2 [some (.inr (27, f0)), some (.inr (27, f1)), some (.inl (0 : Int32))] [] M) := by
  have h := (zm_gc_ok (cd_tl_sharedStart.take 0) (cd_tl_sharedStart.drop 0) (List.take_append_drop 0 cd_tl_sharedStart).symm so_tl_sharedStart (by decide +kernel)).symm.trans (er_tl_sharedStart_0 (rr_tl_sharedStart (n + 1)) (rr_tl_sharedStart n) f0 f1 M)
  simp only [kz_I0] at h
  exact h
set_option maxRecDepth 20000 in
theorem er_tl_sharedStart_2 (kt bk : Nat → zm_L → List zm_V → zm_M → Option (Int32 × zm_M)) (f0 : Nat) (f1 : Nat) (v2 : Int32) (M : zm_M) : zm_gc zt_Y lx_tl_sharedStart zr_i [2] kt bk (cd_tl_sharedStart.drop 2) 2 [some (.inr (27, f0)), some (.inr (27, f1)), some (.inl v2)] [] M = (if v2 < (M 27 f0 1) then if v2 < (M 27 f1 1) then if v2 < 0 ∨ 10 ≤ v2.toNatClampNeg then none else if v2 < 0 ∨ 10 ≤ v2.toNatClampNeg then none else if (M 28 f0 v2.toNatClampNeg) = (M 28 f1 v2.toNatClampNeg) then bk 2 [some (.inr (27, f0)), some (.inr (27, f1)), some (.inl (v2 + (Int32.ofInt 1)))] [] M else some (v2, M) else some (v2, M) else some (v2, M)) := rfl
set_option maxRecDepth 20000 in
theorem eq_tl_sharedStart_2 (n : Nat) (f0 : Nat) (f1 : Nat) (v2 : Int32) (M : zm_M) : rr_tl_sharedStart (n + 1) 2 [some (.inr (27, f0)), some (.inr (27, f1)), some (.inl v2)] [] M = (if v2 < (M 27 f0 1) then if v2 < (M 27 f1 1) then if v2 < 0 ∨ 10 ≤ v2.toNatClampNeg then none else if v2 < 0 ∨ 10 ≤ v2.toNatClampNeg then none else if (M 28 f0 v2.toNatClampNeg) = (M 28 f1 v2.toNatClampNeg) then rr_tl_sharedStart n 2 [some (.inr (27, f0)), some (.inr (27, f1)), some (.inl (v2 + (1 : Int32)))] [] M else some (v2, M) else some (v2, M) else some (v2, M)) := by
  have h := (zm_gc_ok (cd_tl_sharedStart.take 2) (cd_tl_sharedStart.drop 2) (List.take_append_drop 2 cd_tl_sharedStart).symm so_tl_sharedStart (by decide +kernel)).symm.trans (er_tl_sharedStart_2 (rr_tl_sharedStart (n + 1)) (rr_tl_sharedStart n) f0 f1 v2 M)
  simp only [kz_I1] at h
  exact h
def rr_by_put (n pc : Nat) (lo : zm_L) (st : List zm_V) (M : zm_M) : Option zm_M := zm_rn zt_Y lx_by_put zr_v cd_by_put n pc lo st M
set_option maxRecDepth 20000 in
theorem er_by_put (f0 : Nat) (x1 : Int32) (M : zm_M) : fn_by_put [.inr (15, f0), .inl x1] M = (if (M 15 f0 1) < ((Int16.ofInt 400).toInt32) then if (M 15 f0 1) < 0 ∨ 400 ≤ (M 15 f0 1).toNatClampNeg then none else some (zm_up (zm_up M 16 f0 ((M 15 f0 1).toNatClampNeg) x1) 15 f0 1 ((M 15 f0 1) + (Int32.ofInt 1))) else some (zm_up M 15 f0 1 ((M 15 f0 1) + (Int32.ofInt 1)))) := rfl
set_option maxRecDepth 20000 in
theorem eq_by_put (f0 : Nat) (x1 : Int32) (M : zm_M) : fn_by_put [.inr (15, f0), .inl x1] M = (if (M 15 f0 1) < (400 : Int32) then if (M 15 f0 1) < 0 ∨ 400 ≤ (M 15 f0 1).toNatClampNeg then none else some (zm_up (zm_up M 16 f0 ((M 15 f0 1).toNatClampNeg) x1) 15 f0 1 ((M 15 f0 1) + (1 : Int32))) else some (zm_up M 15 f0 1 ((M 15 f0 1) + (1 : Int32)))) := by
  rw [er_by_put]
  simp only [kz_S400, kz_I1]
def rr_by_putTwo (n pc : Nat) (lo : zm_L) (st : List zm_V) (M : zm_M) : Option zm_M := zm_rn zt_Y lx_by_putTwo zr_v cd_by_putTwo n pc lo st M
set_option maxRecDepth 20000 in
theorem er_by_putTwo (f0 : Nat) (x1 : Int32) (M : zm_M) : fn_by_putTwo [.inr (15, f0), .inl x1] M = ((fn_by_put [.inr (15, f0), .inl ((x1 >>> (((Int8.ofInt 8).toInt32) &&& 31)) &&& ((Int16.ofInt 255).toInt32))] M).bind fun q1 => (fn_by_put [.inr (15, f0), .inl (x1 &&& ((Int16.ofInt 255).toInt32))] q1).bind fun q2 => some q2) := rfl
set_option maxRecDepth 20000 in
theorem eq_by_putTwo (f0 : Nat) (x1 : Int32) (M : zm_M) : fn_by_putTwo [.inr (15, f0), .inl x1] M = ((fn_by_put [.inr (15, f0), .inl ((x1 >>> ((8 : Int32) &&& 31)) &&& (255 : Int32))] M).bind fun q1 => (fn_by_put [.inr (15, f0), .inl (x1 &&& (255 : Int32))] q1).bind fun q2 => some q2) := by
  rw [er_by_putTwo]
  simp only [kz_B8, kz_S255]
def rr_wr_writeHead (n pc : Nat) (lo : zm_L) (st : List zm_V) (M : zm_M) : Option zm_M := zm_rn zt_Y lx_wr_writeHead zr_v cd_wr_writeHead n pc lo st M
set_option maxRecDepth 20000 in
theorem er_wr_writeHead (x1 : Int32) (x2 : Int32) (x3 : Int32) (M : zm_M) : fn_wr_writeHead [.inr (26, 0), .inl x1, .inl x2, .inl x3] M = (if x3 < ((Int8.ofInt 64).toInt32) then (fn_by_put [.inr (15, 1), .inl (x1 + x3)] M).bind fun q3 => some q3 else (fn_by_put [.inr (15, 1), .inl x2] M).bind fun q1 => (fn_by_putTwo [.inr (15, 1), .inl x3] q1).bind fun q2 => some q2) := rfl
set_option maxRecDepth 20000 in
theorem eq_wr_writeHead (x1 : Int32) (x2 : Int32) (x3 : Int32) (M : zm_M) : fn_wr_writeHead [.inr (26, 0), .inl x1, .inl x2, .inl x3] M = (if x3 < (64 : Int32) then (fn_by_put [.inr (15, 1), .inl (x1 + x3)] M).bind fun q3 => some q3 else (fn_by_put [.inr (15, 1), .inl x2] M).bind fun q1 => (fn_by_putTwo [.inr (15, 1), .inl x3] q1).bind fun q2 => some q2) := by
  rw [er_wr_writeHead]
  simp only [kz_B64]
def rr_by_putType (n pc : Nat) (lo : zm_L) (st : List zm_V) (M : zm_M) : Option zm_M := zm_rn zt_Y lx_by_putType zr_v cd_by_putType n pc lo st M
set_option maxRecDepth 20000 in
theorem er_by_putType (f0 : Nat) (x1 : Int32) (M : zm_M) : fn_by_putType [.inr (15, f0), .inl x1] M = ((fn_mf_kindOf [.inl x1] M).bind fun q1 => (fn_by_put [.inr (15, f0), .inl q1.1] q1.2).bind fun q2 => if q1.1 = ((Int8.ofInt 7).toInt32) then (fn_mf_partOf [.inl x1] q2).bind fun q3 => (fn_by_putTwo [.inr (15, f0), .inl q3.1] q3.2).bind fun q4 => some q4 else if q1.1 = ((Int8.ofInt 8).toInt32) then (fn_mf_partOf [.inl x1] q2).bind fun q5 => (fn_by_putTwo [.inr (15, f0), .inl q5.1] q5.2).bind fun q6 => some q6 else some q2) := rfl
set_option maxRecDepth 20000 in
theorem eq_by_putType (f0 : Nat) (x1 : Int32) (M : zm_M) : fn_by_putType [.inr (15, f0), .inl x1] M = ((fn_mf_kindOf [.inl x1] M).bind fun q1 => (fn_by_put [.inr (15, f0), .inl q1.1] q1.2).bind fun q2 => if q1.1 = (7 : Int32) then (fn_mf_partOf [.inl x1] q2).bind fun q3 => (fn_by_putTwo [.inr (15, f0), .inl q3.1] q3.2).bind fun q4 => some q4 else if q1.1 = (8 : Int32) then (fn_mf_partOf [.inl x1] q2).bind fun q5 => (fn_by_putTwo [.inr (15, f0), .inl q5.1] q5.2).bind fun q6 => some q6 else some q2) := by
  rw [er_by_putType]
  simp only [kz_B7, kz_B8]
def rr_wr_writeTypes (n pc : Nat) (lo : zm_L) (st : List zm_V) (M : zm_M) : Option zm_M := zm_rn zt_Y lx_wr_writeTypes zr_v cd_wr_writeTypes n pc lo st M
set_option maxRecDepth 20000 in
theorem eq_wr_writeTypesa (x2 : Int32) (x3 : Int32) (M : zm_M) : fn_wr_writeTypes [.inr (26, 0), .inr (28, 1), .inl x2, .inl x3] M = rr_wr_writeTypes 1073741824 0 [some (.inr (26, 0)), some (.inr (28, 1)), some (.inl x2), some (.inl x3), none] [] M := rfl
set_option maxRecDepth 20000 in
theorem so_wr_writeTypes : cd_wr_writeTypes.Pairwise (fun a b => a.1 < b.1) := by decide +kernel
set_option maxRecDepth 20000 in
theorem er_wr_writeTypes_0a (kt bk : Nat → zm_L → List zm_V → zm_M → Option zm_M) (x2 : Int32) (x3 : Int32) (M : zm_M) : zm_gc zt_Y lx_wr_writeTypes zr_v [3] kt bk (cd_wr_writeTypes.drop 0) 0 [some (.inr (26, 0)), some (.inr (28, 1)), some (.inl x2), some (.inl x3), none] [] M = (kt 3 [some (.inr (26, 0)), some (.inr (28, 1)), some (.inl x2), some (.inl x3), some (.inl x2)] [] M) := rfl
set_option maxRecDepth 20000 in
theorem eq_wr_writeTypes_0a (n : Nat) (x2 : Int32) (x3 : Int32) (M : zm_M) : rr_wr_writeTypes (n + 1) 0 [some (.inr (26, 0)), some (.inr (28, 1)), some (.inl x2), some (.inl x3), none] [] M = (rr_wr_writeTypes (n + 1) 3 [some (.inr (26, 0)), some (.inr (28, 1)), some (.inl x2), some (.inl x3), some (.inl x2)] [] M) := (zm_gc_ok (cd_wr_writeTypes.take 0) (cd_wr_writeTypes.drop 0) (List.take_append_drop 0 cd_wr_writeTypes).symm so_wr_writeTypes (by decide +kernel)).symm.trans (er_wr_writeTypes_0a (rr_wr_writeTypes (n + 1)) (rr_wr_writeTypes n) x2 x3 M)
set_option maxRecDepth 20000 in
theorem er_wr_writeTypes_3a (kt bk : Nat → zm_L → List zm_V → zm_M → Option zm_M) (v2 : Int32) (v3 : Int32) (v4 : Int32) (M : zm_M) : zm_gc zt_Y lx_wr_writeTypes zr_v [3] kt bk (cd_wr_writeTypes.drop 2) 3 [some (.inr (26, 0)), some (.inr (28, 1)), some (.inl v2), some (.inl v3), some (.inl v4)] [] M = (if v4 < v3 then if v4 < 0 ∨ 10 ≤ v4.toNatClampNeg then none else (fn_by_putType [.inr (15, 1), .inl (M 28 1 v4.toNatClampNeg)] M).bind fun q1 => bk 3 [some (.inr (26, 0)), some (.inr (28, 1)), some (.inl v2), some (.inl v3), some (.inl (v4 + (Int32.ofInt 1)))] [] q1 else some M) := rfl
set_option maxRecDepth 20000 in
theorem eq_wr_writeTypes_3a (n : Nat) (v2 : Int32) (v3 : Int32) (v4 : Int32) (M : zm_M) : rr_wr_writeTypes (n + 1) 3 [some (.inr (26, 0)), some (.inr (28, 1)), some (.inl v2), some (.inl v3), some (.inl v4)] [] M = (if v4 < v3 then if v4 < 0 ∨ 10 ≤ v4.toNatClampNeg then none else (fn_by_putType [.inr (15, 1), .inl (M 28 1 v4.toNatClampNeg)] M).bind fun q1 => rr_wr_writeTypes n 3 [some (.inr (26, 0)), some (.inr (28, 1)), some (.inl v2), some (.inl v3), some (.inl (v4 + (1 : Int32)))] [] q1 else some M) := by
  have h := (zm_gc_ok (cd_wr_writeTypes.take 2) (cd_wr_writeTypes.drop 2) (List.take_append_drop 2 cd_wr_writeTypes).symm so_wr_writeTypes (by decide +kernel)).symm.trans (er_wr_writeTypes_3a (rr_wr_writeTypes (n + 1)) (rr_wr_writeTypes n) v2 v3 v4 M)
  simp only [kz_I1] at h
  exact h
set_option maxRecDepth 20000 in
theorem eq_wr_writeTypesb (f1 : Nat) (x2 : Int32) (x3 : Int32) (M : zm_M) : fn_wr_writeTypes [.inr (26, 0), .inr (25, f1), .inl x2, .inl x3] M = rr_wr_writeTypes 1073741824 0 [some (.inr (26, 0)), some (.inr (25, f1)), some (.inl x2), some (.inl x3), none] [] M := rfl
set_option maxRecDepth 20000 in
theorem er_wr_writeTypes_0b (kt bk : Nat → zm_L → List zm_V → zm_M → Option zm_M) (f1 : Nat) (x2 : Int32) (x3 : Int32) (M : zm_M) : zm_gc zt_Y lx_wr_writeTypes zr_v [3] kt bk (cd_wr_writeTypes.drop 0) 0 [some (.inr (26, 0)), some (.inr (25, f1)), some (.inl x2), some (.inl x3), none] [] M = (kt 3 [some (.inr (26, 0)), some (.inr (25, f1)), some (.inl x2), some (.inl x3), some (.inl x2)] [] M) := rfl
set_option maxRecDepth 20000 in
theorem eq_wr_writeTypes_0b (n : Nat) (f1 : Nat) (x2 : Int32) (x3 : Int32) (M : zm_M) : rr_wr_writeTypes (n + 1) 0 [some (.inr (26, 0)), some (.inr (25, f1)), some (.inl x2), some (.inl x3), none] [] M = (rr_wr_writeTypes (n + 1) 3 [some (.inr (26, 0)), some (.inr (25, f1)), some (.inl x2), some (.inl x3), some (.inl x2)] [] M) := (zm_gc_ok (cd_wr_writeTypes.take 0) (cd_wr_writeTypes.drop 0) (List.take_append_drop 0 cd_wr_writeTypes).symm so_wr_writeTypes (by decide +kernel)).symm.trans (er_wr_writeTypes_0b (rr_wr_writeTypes (n + 1)) (rr_wr_writeTypes n) f1 x2 x3 M)
set_option maxRecDepth 20000 in
theorem er_wr_writeTypes_3b (kt bk : Nat → zm_L → List zm_V → zm_M → Option zm_M) (f1 : Nat) (v2 : Int32) (v3 : Int32) (v4 : Int32) (M : zm_M) : zm_gc zt_Y lx_wr_writeTypes zr_v [3] kt bk (cd_wr_writeTypes.drop 2) 3 [some (.inr (26, 0)), some (.inr (25, f1)), some (.inl v2), some (.inl v3), some (.inl v4)] [] M = (if v4 < v3 then if v4 < 0 ∨ 8 ≤ v4.toNatClampNeg then none else (fn_by_putType [.inr (15, 1), .inl (M 25 f1 v4.toNatClampNeg)] M).bind fun q1 => bk 3 [some (.inr (26, 0)), some (.inr (25, f1)), some (.inl v2), some (.inl v3), some (.inl (v4 + (Int32.ofInt 1)))] [] q1 else some M) := rfl
set_option maxRecDepth 20000 in
theorem eq_wr_writeTypes_3b (n : Nat) (f1 : Nat) (v2 : Int32) (v3 : Int32) (v4 : Int32) (M : zm_M) : rr_wr_writeTypes (n + 1) 3 [some (.inr (26, 0)), some (.inr (25, f1)), some (.inl v2), some (.inl v3), some (.inl v4)] [] M = (if v4 < v3 then if v4 < 0 ∨ 8 ≤ v4.toNatClampNeg then none else (fn_by_putType [.inr (15, 1), .inl (M 25 f1 v4.toNatClampNeg)] M).bind fun q1 => rr_wr_writeTypes n 3 [some (.inr (26, 0)), some (.inr (25, f1)), some (.inl v2), some (.inl v3), some (.inl (v4 + (1 : Int32)))] [] q1 else some M) := by
  have h := (zm_gc_ok (cd_wr_writeTypes.take 2) (cd_wr_writeTypes.drop 2) (List.take_append_drop 2 cd_wr_writeTypes).symm so_wr_writeTypes (by decide +kernel)).symm.trans (er_wr_writeTypes_3b (rr_wr_writeTypes (n + 1)) (rr_wr_writeTypes n) f1 v2 v3 v4 M)
  simp only [kz_I1] at h
  exact h
def rr_wr_writeWhole (n pc : Nat) (lo : zm_L) (st : List zm_V) (M : zm_M) : Option zm_M := zm_rn zt_Y lx_wr_writeWhole zr_v cd_wr_writeWhole n pc lo st M
set_option maxRecDepth 20000 in
theorem er_wr_writeWhole (f1 : Nat) (x2 : Int32) (M : zm_M) : fn_wr_writeWhole [.inr (26, 0), .inr (23, f1), .inl x2] M = ((fn_by_put [.inr (15, 1), .inl ((Int16.ofInt 255).toInt32)] M).bind fun q1 => (fn_by_putTwo [.inr (15, 1), .inl x2] q1).bind fun q2 => (fn_by_putTwo [.inr (15, 1), .inl (q2 27 1 1)] q2).bind fun q3 => (fn_wr_writeTypes [.inr (26, 0), .inr (28, 1), .inl (Int32.ofInt 0), .inl (q3 27 1 1)] q3).bind fun q4 => (fn_by_putTwo [.inr (15, 1), .inl (q4 23 f1 2)] q4).bind fun q5 => (fn_wr_writeTypes [.inr (26, 0), .inr (25, f1), .inl (Int32.ofInt 0), .inl (q5 23 f1 2)] q5).bind fun q6 => some q6) := rfl
set_option maxRecDepth 20000 in
theorem eq_wr_writeWhole (f1 : Nat) (x2 : Int32) (M : zm_M) : fn_wr_writeWhole [.inr (26, 0), .inr (23, f1), .inl x2] M = ((fn_by_put [.inr (15, 1), .inl (255 : Int32)] M).bind fun q1 => (fn_by_putTwo [.inr (15, 1), .inl x2] q1).bind fun q2 => (fn_by_putTwo [.inr (15, 1), .inl (q2 27 1 1)] q2).bind fun q3 => (fn_wr_writeTypes [.inr (26, 0), .inr (28, 1), .inl (0 : Int32), .inl (q3 27 1 1)] q3).bind fun q4 => (fn_by_putTwo [.inr (15, 1), .inl (q4 23 f1 2)] q4).bind fun q5 => (fn_wr_writeTypes [.inr (26, 0), .inr (25, f1), .inl (0 : Int32), .inl (q5 23 f1 2)] q5).bind fun q6 => some q6) := by
  rw [er_wr_writeWhole]
  simp only [kz_S255, kz_I0]
def rr_wr_writeRow (n pc : Nat) (lo : zm_L) (st : List zm_V) (M : zm_M) : Option zm_M := zm_rn zt_Y lx_wr_writeRow zr_v cd_wr_writeRow n pc lo st M
set_option maxRecDepth 20000 in
theorem eq_wr_writeRow (f1 : Nat) (x2 : Int32) (M : zm_M) : fn_wr_writeRow [.inr (26, 0), .inr (23, f1), .inl x2] M = rr_wr_writeRow 1 0 [some (.inr (26, 0)), some (.inr (23, f1)), some (.inl x2), none, none, none, none] [] M := rfl
set_option maxRecDepth 20000 in
theorem so_wr_writeRow : cd_wr_writeRow.Pairwise (fun a b => a.1 < b.1) := by decide +kernel
set_option maxRecDepth 20000 in
theorem er_wr_writeRow_0 (kt bk : Nat → zm_L → List zm_V → zm_M → Option zm_M) (f1 : Nat) (x2 : Int32) (M : zm_M) : zm_gc zt_Y lx_wr_writeRow zr_v [49, 50, 86, 87, 113, 152, 213, 219] kt bk (cd_wr_writeRow.drop 0) 0 [some (.inr (26, 0)), some (.inr (23, f1)), some (.inl x2), none, none, none, none] [] M = ((fn_tl_sharedStart [.inr (27, 1), .inr (27, 0)] M).bind fun q1 => if ((q1.2 27 1 1) - (q1.2 27 0 1)) = 0 then if q1.1 = (q1.2 27 1 1) then kt 50 [some (.inr (26, 0)), some (.inr (23, f1)), some (.inl x2), some (.inl q1.1), some (.inl ((q1.2 27 1 1) - (q1.2 27 0 1))), none, none] [.inl (Int32.ofInt 1)] q1.2 else kt 49 [some (.inr (26, 0)), some (.inr (23, f1)), some (.inl x2), some (.inl q1.1), some (.inl ((q1.2 27 1 1) - (q1.2 27 0 1))), none, none] [] q1.2 else kt 49 [some (.inr (26, 0)), some (.inr (23, f1)), some (.inl x2), some (.inl q1.1), some (.inl ((q1.2 27 1 1) - (q1.2 27 0 1))), none, none] [] q1.2) := rfl
set_option maxRecDepth 20000 in
theorem eq_wr_writeRow_0 (n : Nat) (f1 : Nat) (x2 : Int32) (M : zm_M) : rr_wr_writeRow (n + 1) 0 [some (.inr (26, 0)), some (.inr (23, f1)), some (.inl x2), none, none, none, none] [] M = ((fn_tl_sharedStart [.inr (27, 1), .inr (27, 0)] M).bind fun q1 => if ((q1.2 27 1 1) - (q1.2 27 0 1)) = 0 then if q1.1 = (q1.2 27 1 1) then rr_wr_writeRow (n + 1) 50 [some (.inr (26, 0)), some (.inr (23, f1)), some (.inl x2), some (.inl q1.1), some (.inl ((q1.2 27 1 1) - (q1.2 27 0 1))), none, none] [.inl (1 : Int32)] q1.2 else rr_wr_writeRow (n + 1) 49 [some (.inr (26, 0)), some (.inr (23, f1)), some (.inl x2), some (.inl q1.1), some (.inl ((q1.2 27 1 1) - (q1.2 27 0 1))), none, none] [] q1.2 else rr_wr_writeRow (n + 1) 49 [some (.inr (26, 0)), some (.inr (23, f1)), some (.inl x2), some (.inl q1.1), some (.inl ((q1.2 27 1 1) - (q1.2 27 0 1))), none, none] [] q1.2) := by
  have h := (zm_gc_ok (cd_wr_writeRow.take 0) (cd_wr_writeRow.drop 0) (List.take_append_drop 0 cd_wr_writeRow).symm so_wr_writeRow (by decide +kernel)).symm.trans (er_wr_writeRow_0 (rr_wr_writeRow (n + 1)) (rr_wr_writeRow n) f1 x2 M)
  simp only [kz_I1] at h
  exact h
set_option maxRecDepth 20000 in
theorem er_wr_writeRow_49 (kt bk : Nat → zm_L → List zm_V → zm_M → Option zm_M) (f1 : Nat) (v2 : Int32) (v3 : Int32) (v4 : Int32) (o5 : Option zm_V) (o6 : Option zm_V) (M : zm_M) : zm_gc zt_Y lx_wr_writeRow zr_v [49, 50, 86, 87, 113, 152, 213, 219] kt bk (cd_wr_writeRow.drop 23) 49 [some (.inr (26, 0)), some (.inr (23, f1)), some (.inl v2), some (.inl v3), some (.inl v4), o5, o6] [] M = (kt 50 [some (.inr (26, 0)), some (.inr (23, f1)), some (.inl v2), some (.inl v3), some (.inl v4), o5, o6] [.inl (Int32.ofInt 0)] M) := rfl
set_option maxRecDepth 20000 in
theorem eq_wr_writeRow_49 (n : Nat) (f1 : Nat) (v2 : Int32) (v3 : Int32) (v4 : Int32) (o5 : Option zm_V) (o6 : Option zm_V) (M : zm_M) : rr_wr_writeRow (n + 1) 49 [some (.inr (26, 0)), some (.inr (23, f1)), some (.inl v2), some (.inl v3), some (.inl v4), o5, o6] [] M = (rr_wr_writeRow (n + 1) 50 [some (.inr (26, 0)), some (.inr (23, f1)), some (.inl v2), some (.inl v3), some (.inl v4), o5, o6] [.inl (0 : Int32)] M) := by
  have h := (zm_gc_ok (cd_wr_writeRow.take 23) (cd_wr_writeRow.drop 23) (List.take_append_drop 23 cd_wr_writeRow).symm so_wr_writeRow (by decide +kernel)).symm.trans (er_wr_writeRow_49 (rr_wr_writeRow (n + 1)) (rr_wr_writeRow n) f1 v2 v3 v4 o5 o6 M)
  simp only [kz_I0] at h
  exact h
set_option maxRecDepth 20000 in
theorem er_wr_writeRow_50 (kt bk : Nat → zm_L → List zm_V → zm_M → Option zm_M) (f1 : Nat) (v2 : Int32) (v3 : Int32) (v4 : Int32) (o5 : Option zm_V) (o6 : Option zm_V) (s0 : Int32) (M : zm_M) : zm_gc zt_Y lx_wr_writeRow zr_v [49, 50, 86, 87, 113, 152, 213, 219] kt bk (cd_wr_writeRow.drop 24) 50 [some (.inr (26, 0)), some (.inr (23, f1)), some (.inl v2), some (.inl v3), some (.inl v4), o5, o6] [.inl s0] M = ((zm_ab [.inl v4] M).bind fun q1 => if (Int32.ofInt 3) < q1.1 then kt 86 [some (.inr (26, 0)), some (.inr (23, f1)), some (.inl v2), some (.inl v3), some (.inl v4), some (.inl s0), o6] [] q1.2 else (zm_mn [.inl (q1.2 27 1 1), .inl (q1.2 27 0 1)] q1.2).bind fun q2 => if v3 = q2.1 then kt 87 [some (.inr (26, 0)), some (.inr (23, f1)), some (.inl v2), some (.inl v3), some (.inl v4), some (.inl s0), o6] [.inl (Int32.ofInt 1)] q2.2 else kt 86 [some (.inr (26, 0)), some (.inr (23, f1)), some (.inl v2), some (.inl v3), some (.inl v4), some (.inl s0), o6] [] q2.2) := rfl
set_option maxRecDepth 20000 in
theorem eq_wr_writeRow_50 (n : Nat) (f1 : Nat) (v2 : Int32) (v3 : Int32) (v4 : Int32) (o5 : Option zm_V) (o6 : Option zm_V) (s0 : Int32) (M : zm_M) : rr_wr_writeRow (n + 1) 50 [some (.inr (26, 0)), some (.inr (23, f1)), some (.inl v2), some (.inl v3), some (.inl v4), o5, o6] [.inl s0] M = ((zm_ab [.inl v4] M).bind fun q1 => if (3 : Int32) < q1.1 then rr_wr_writeRow (n + 1) 86 [some (.inr (26, 0)), some (.inr (23, f1)), some (.inl v2), some (.inl v3), some (.inl v4), some (.inl s0), o6] [] q1.2 else (zm_mn [.inl (q1.2 27 1 1), .inl (q1.2 27 0 1)] q1.2).bind fun q2 => if v3 = q2.1 then rr_wr_writeRow (n + 1) 87 [some (.inr (26, 0)), some (.inr (23, f1)), some (.inl v2), some (.inl v3), some (.inl v4), some (.inl s0), o6] [.inl (1 : Int32)] q2.2 else rr_wr_writeRow (n + 1) 86 [some (.inr (26, 0)), some (.inr (23, f1)), some (.inl v2), some (.inl v3), some (.inl v4), some (.inl s0), o6] [] q2.2) := by
  have h := (zm_gc_ok (cd_wr_writeRow.take 24) (cd_wr_writeRow.drop 24) (List.take_append_drop 24 cd_wr_writeRow).symm so_wr_writeRow (by decide +kernel)).symm.trans (er_wr_writeRow_50 (rr_wr_writeRow (n + 1)) (rr_wr_writeRow n) f1 v2 v3 v4 o5 o6 s0 M)
  simp only [kz_I3, kz_I1] at h
  exact h
set_option maxRecDepth 20000 in
theorem er_wr_writeRow_86 (kt bk : Nat → zm_L → List zm_V → zm_M → Option zm_M) (f1 : Nat) (v2 : Int32) (v3 : Int32) (v4 : Int32) (v5 : Int32) (o6 : Option zm_V) (M : zm_M) : zm_gc zt_Y lx_wr_writeRow zr_v [49, 50, 86, 87, 113, 152, 213, 219] kt bk (cd_wr_writeRow.drop 40) 86 [some (.inr (26, 0)), some (.inr (23, f1)), some (.inl v2), some (.inl v3), some (.inl v4), some (.inl v5), o6] [] M = (kt 87 [some (.inr (26, 0)), some (.inr (23, f1)), some (.inl v2), some (.inl v3), some (.inl v4), some (.inl v5), o6] [.inl (Int32.ofInt 0)] M) := rfl
set_option maxRecDepth 20000 in
theorem eq_wr_writeRow_86 (n : Nat) (f1 : Nat) (v2 : Int32) (v3 : Int32) (v4 : Int32) (v5 : Int32) (o6 : Option zm_V) (M : zm_M) : rr_wr_writeRow (n + 1) 86 [some (.inr (26, 0)), some (.inr (23, f1)), some (.inl v2), some (.inl v3), some (.inl v4), some (.inl v5), o6] [] M = (rr_wr_writeRow (n + 1) 87 [some (.inr (26, 0)), some (.inr (23, f1)), some (.inl v2), some (.inl v3), some (.inl v4), some (.inl v5), o6] [.inl (0 : Int32)] M) := by
  have h := (zm_gc_ok (cd_wr_writeRow.take 40) (cd_wr_writeRow.drop 40) (List.take_append_drop 40 cd_wr_writeRow).symm so_wr_writeRow (by decide +kernel)).symm.trans (er_wr_writeRow_86 (rr_wr_writeRow (n + 1)) (rr_wr_writeRow n) f1 v2 v3 v4 v5 o6 M)
  simp only [kz_I0] at h
  exact h
set_option maxRecDepth 20000 in
theorem er_wr_writeRow_87 (kt bk : Nat → zm_L → List zm_V → zm_M → Option zm_M) (f1 : Nat) (v2 : Int32) (v3 : Int32) (v4 : Int32) (v5 : Int32) (o6 : Option zm_V) (s0 : Int32) (M : zm_M) : zm_gc zt_Y lx_wr_writeRow zr_v [49, 50, 86, 87, 113, 152, 213, 219] kt bk (cd_wr_writeRow.drop 41) 87 [some (.inr (26, 0)), some (.inr (23, f1)), some (.inl v2), some (.inl v3), some (.inl v4), some (.inl v5), o6] [.inl s0] M = (if v5 = 0 then kt 113 [some (.inr (26, 0)), some (.inr (23, f1)), some (.inl v2), some (.inl v3), some (.inl v4), some (.inl v5), some (.inl s0)] [] M else if (M 23 f1 2) = 0 then (fn_wr_writeHead [.inr (26, 0), .inl (Int32.ofInt 0), .inl ((Int16.ofInt 251).toInt32), .inl v2] M).bind fun q1 => kt 219 [some (.inr (26, 0)), some (.inr (23, f1)), some (.inl v2), some (.inl v3), some (.inl v4), some (.inl v5), some (.inl s0)] [] q1 else kt 113 [some (.inr (26, 0)), some (.inr (23, f1)), some (.inl v2), some (.inl v3), some (.inl v4), some (.inl v5), some (.inl s0)] [] M) := rfl
set_option maxRecDepth 20000 in
theorem eq_wr_writeRow_87 (n : Nat) (f1 : Nat) (v2 : Int32) (v3 : Int32) (v4 : Int32) (v5 : Int32) (o6 : Option zm_V) (s0 : Int32) (M : zm_M) : rr_wr_writeRow (n + 1) 87 [some (.inr (26, 0)), some (.inr (23, f1)), some (.inl v2), some (.inl v3), some (.inl v4), some (.inl v5), o6] [.inl s0] M = (if v5 = 0 then rr_wr_writeRow (n + 1) 113 [some (.inr (26, 0)), some (.inr (23, f1)), some (.inl v2), some (.inl v3), some (.inl v4), some (.inl v5), some (.inl s0)] [] M else if (M 23 f1 2) = 0 then (fn_wr_writeHead [.inr (26, 0), .inl (0 : Int32), .inl (251 : Int32), .inl v2] M).bind fun q1 => rr_wr_writeRow (n + 1) 219 [some (.inr (26, 0)), some (.inr (23, f1)), some (.inl v2), some (.inl v3), some (.inl v4), some (.inl v5), some (.inl s0)] [] q1 else rr_wr_writeRow (n + 1) 113 [some (.inr (26, 0)), some (.inr (23, f1)), some (.inl v2), some (.inl v3), some (.inl v4), some (.inl v5), some (.inl s0)] [] M) := by
  have h := (zm_gc_ok (cd_wr_writeRow.take 41) (cd_wr_writeRow.drop 41) (List.take_append_drop 41 cd_wr_writeRow).symm so_wr_writeRow (by decide +kernel)).symm.trans (er_wr_writeRow_87 (rr_wr_writeRow (n + 1)) (rr_wr_writeRow n) f1 v2 v3 v4 v5 o6 s0 M)
  simp only [kz_I0, kz_S251] at h
  exact h
set_option maxRecDepth 20000 in
theorem er_wr_writeRow_113 (kt bk : Nat → zm_L → List zm_V → zm_M → Option zm_M) (f1 : Nat) (v2 : Int32) (v3 : Int32) (v4 : Int32) (v5 : Int32) (v6 : Int32) (M : zm_M) : zm_gc zt_Y lx_wr_writeRow zr_v [49, 50, 86, 87, 113, 152, 213, 219] kt bk (cd_wr_writeRow.drop 53) 113 [some (.inr (26, 0)), some (.inr (23, f1)), some (.inl v2), some (.inl v3), some (.inl v4), some (.inl v5), some (.inl v6)] [] M = (if v5 = 0 then kt 152 [some (.inr (26, 0)), some (.inr (23, f1)), some (.inl v2), some (.inl v3), some (.inl v4), some (.inl v5), some (.inl v6)] [] M else if (M 23 f1 2) = (Int32.ofInt 1) then (fn_wr_writeHead [.inr (26, 0), .inl ((Int8.ofInt 64).toInt32), .inl ((Int16.ofInt 247).toInt32), .inl v2] M).bind fun q1 => if (Int32.ofInt 0) < 0 ∨ 8 ≤ (Int32.ofInt 0).toNatClampNeg then none else (fn_by_putType [.inr (15, 1), .inl (q1 25 f1 (Int32.ofInt 0).toNatClampNeg)] q1).bind fun q2 => kt 219 [some (.inr (26, 0)), some (.inr (23, f1)), some (.inl v2), some (.inl v3), some (.inl v4), some (.inl v5), some (.inl v6)] [] q2 else kt 152 [some (.inr (26, 0)), some (.inr (23, f1)), some (.inl v2), some (.inl v3), some (.inl v4), some (.inl v5), some (.inl v6)] [] M) := rfl
set_option maxRecDepth 20000 in
theorem eq_wr_writeRow_113 (n : Nat) (f1 : Nat) (v2 : Int32) (v3 : Int32) (v4 : Int32) (v5 : Int32) (v6 : Int32) (M : zm_M) : rr_wr_writeRow (n + 1) 113 [some (.inr (26, 0)), some (.inr (23, f1)), some (.inl v2), some (.inl v3), some (.inl v4), some (.inl v5), some (.inl v6)] [] M = (if v5 = 0 then rr_wr_writeRow (n + 1) 152 [some (.inr (26, 0)), some (.inr (23, f1)), some (.inl v2), some (.inl v3), some (.inl v4), some (.inl v5), some (.inl v6)] [] M else if (M 23 f1 2) = (1 : Int32) then (fn_wr_writeHead [.inr (26, 0), .inl (64 : Int32), .inl (247 : Int32), .inl v2] M).bind fun q1 => if (0 : Int32) < 0 ∨ 8 ≤ (0 : Int32).toNatClampNeg then none else (fn_by_putType [.inr (15, 1), .inl (q1 25 f1 (0 : Int32).toNatClampNeg)] q1).bind fun q2 => rr_wr_writeRow (n + 1) 219 [some (.inr (26, 0)), some (.inr (23, f1)), some (.inl v2), some (.inl v3), some (.inl v4), some (.inl v5), some (.inl v6)] [] q2 else rr_wr_writeRow (n + 1) 152 [some (.inr (26, 0)), some (.inr (23, f1)), some (.inl v2), some (.inl v3), some (.inl v4), some (.inl v5), some (.inl v6)] [] M) := by
  have h := (zm_gc_ok (cd_wr_writeRow.take 53) (cd_wr_writeRow.drop 53) (List.take_append_drop 53 cd_wr_writeRow).symm so_wr_writeRow (by decide +kernel)).symm.trans (er_wr_writeRow_113 (rr_wr_writeRow (n + 1)) (rr_wr_writeRow n) f1 v2 v3 v4 v5 v6 M)
  simp only [kz_I1, kz_B64, kz_S247, kz_I0] at h
  exact h
set_option maxRecDepth 20000 in
theorem er_wr_writeRow_152 (kt bk : Nat → zm_L → List zm_V → zm_M → Option zm_M) (f1 : Nat) (v2 : Int32) (v3 : Int32) (v4 : Int32) (v5 : Int32) (v6 : Int32) (M : zm_M) : zm_gc zt_Y lx_wr_writeRow zr_v [49, 50, 86, 87, 113, 152, 213, 219] kt bk (cd_wr_writeRow.drop 72) 152 [some (.inr (26, 0)), some (.inr (23, f1)), some (.inl v2), some (.inl v3), some (.inl v4), some (.inl v5), some (.inl v6)] [] M = (if v6 = 0 then kt 213 [some (.inr (26, 0)), some (.inr (23, f1)), some (.inl v2), some (.inl v3), some (.inl v4), some (.inl v5), some (.inl v6)] [] M else if (M 23 f1 2) = 0 then (fn_by_put [.inr (15, 1), .inl (((Int16.ofInt 251).toInt32) + v4)] M).bind fun q1 => (fn_by_putTwo [.inr (15, 1), .inl v2] q1).bind fun q2 => (fn_wr_writeTypes [.inr (26, 0), .inr (28, 1), .inl (q2 27 0 1), .inl (q2 27 1 1)] q2).bind fun q3 => kt 219 [some (.inr (26, 0)), some (.inr (23, f1)), some (.inl v2), some (.inl v3), some (.inl v4), some (.inl v5), some (.inl v6)] [] q3 else kt 213 [some (.inr (26, 0)), some (.inr (23, f1)), some (.inl v2), some (.inl v3), some (.inl v4), some (.inl v5), some (.inl v6)] [] M) := rfl
set_option maxRecDepth 20000 in
theorem eq_wr_writeRow_152 (n : Nat) (f1 : Nat) (v2 : Int32) (v3 : Int32) (v4 : Int32) (v5 : Int32) (v6 : Int32) (M : zm_M) : rr_wr_writeRow (n + 1) 152 [some (.inr (26, 0)), some (.inr (23, f1)), some (.inl v2), some (.inl v3), some (.inl v4), some (.inl v5), some (.inl v6)] [] M = (if v6 = 0 then rr_wr_writeRow (n + 1) 213 [some (.inr (26, 0)), some (.inr (23, f1)), some (.inl v2), some (.inl v3), some (.inl v4), some (.inl v5), some (.inl v6)] [] M else if (M 23 f1 2) = 0 then (fn_by_put [.inr (15, 1), .inl ((251 : Int32) + v4)] M).bind fun q1 => (fn_by_putTwo [.inr (15, 1), .inl v2] q1).bind fun q2 => (fn_wr_writeTypes [.inr (26, 0), .inr (28, 1), .inl (q2 27 0 1), .inl (q2 27 1 1)] q2).bind fun q3 => rr_wr_writeRow (n + 1) 219 [some (.inr (26, 0)), some (.inr (23, f1)), some (.inl v2), some (.inl v3), some (.inl v4), some (.inl v5), some (.inl v6)] [] q3 else rr_wr_writeRow (n + 1) 213 [some (.inr (26, 0)), some (.inr (23, f1)), some (.inl v2), some (.inl v3), some (.inl v4), some (.inl v5), some (.inl v6)] [] M) := by
  have h := (zm_gc_ok (cd_wr_writeRow.take 72) (cd_wr_writeRow.drop 72) (List.take_append_drop 72 cd_wr_writeRow).symm so_wr_writeRow (by decide +kernel)).symm.trans (er_wr_writeRow_152 (rr_wr_writeRow (n + 1)) (rr_wr_writeRow n) f1 v2 v3 v4 v5 v6 M)
  simp only [kz_S251] at h
  exact h
set_option maxRecDepth 20000 in
theorem er_wr_writeRow_213 (kt bk : Nat → zm_L → List zm_V → zm_M → Option zm_M) (f1 : Nat) (v2 : Int32) (v3 : Int32) (v4 : Int32) (v5 : Int32) (v6 : Int32) (M : zm_M) : zm_gc zt_Y lx_wr_writeRow zr_v [49, 50, 86, 87, 113, 152, 213, 219] kt bk (cd_wr_writeRow.drop 99) 213 [some (.inr (26, 0)), some (.inr (23, f1)), some (.inl v2), some (.inl v3), some (.inl v4), some (.inl v5), some (.inl v6)] [] M = ((fn_wr_writeWhole [.inr (26, 0), .inr (23, f1), .inl v2] M).bind fun q1 => kt 219 [some (.inr (26, 0)), some (.inr (23, f1)), some (.inl v2), some (.inl v3), some (.inl v4), some (.inl v5), some (.inl v6)] [] q1) := rfl
set_option maxRecDepth 20000 in
theorem eq_wr_writeRow_213 (n : Nat) (f1 : Nat) (v2 : Int32) (v3 : Int32) (v4 : Int32) (v5 : Int32) (v6 : Int32) (M : zm_M) : rr_wr_writeRow (n + 1) 213 [some (.inr (26, 0)), some (.inr (23, f1)), some (.inl v2), some (.inl v3), some (.inl v4), some (.inl v5), some (.inl v6)] [] M = ((fn_wr_writeWhole [.inr (26, 0), .inr (23, f1), .inl v2] M).bind fun q1 => rr_wr_writeRow (n + 1) 219 [some (.inr (26, 0)), some (.inr (23, f1)), some (.inl v2), some (.inl v3), some (.inl v4), some (.inl v5), some (.inl v6)] [] q1) := (zm_gc_ok (cd_wr_writeRow.take 99) (cd_wr_writeRow.drop 99) (List.take_append_drop 99 cd_wr_writeRow).symm so_wr_writeRow (by decide +kernel)).symm.trans (er_wr_writeRow_213 (rr_wr_writeRow (n + 1)) (rr_wr_writeRow n) f1 v2 v3 v4 v5 v6 M)
set_option maxRecDepth 20000 in
theorem er_wr_writeRow_219 (kt bk : Nat → zm_L → List zm_V → zm_M → Option zm_M) (f1 : Nat) (v2 : Int32) (v3 : Int32) (v4 : Int32) (v5 : Int32) (v6 : Int32) (M : zm_M) : zm_gc zt_Y lx_wr_writeRow zr_v [49, 50, 86, 87, 113, 152, 213, 219] kt bk (cd_wr_writeRow.drop 103) 219 [some (.inr (26, 0)), some (.inr (23, f1)), some (.inl v2), some (.inl v3), some (.inl v4), some (.inl v5), some (.inl v6)] [] M = (some M) := rfl
set_option maxRecDepth 20000 in
theorem eq_wr_writeRow_219 (n : Nat) (f1 : Nat) (v2 : Int32) (v3 : Int32) (v4 : Int32) (v5 : Int32) (v6 : Int32) (M : zm_M) : rr_wr_writeRow (n + 1) 219 [some (.inr (26, 0)), some (.inr (23, f1)), some (.inl v2), some (.inl v3), some (.inl v4), some (.inl v5), some (.inl v6)] [] M = (some M) := (zm_gc_ok (cd_wr_writeRow.take 103) (cd_wr_writeRow.drop 103) (List.take_append_drop 103 cd_wr_writeRow).symm so_wr_writeRow (by decide +kernel)).symm.trans (er_wr_writeRow_219 (rr_wr_writeRow (n + 1)) (rr_wr_writeRow n) f1 v2 v3 v4 v5 v6 M)
def rr_tl_takeOver (n pc : Nat) (lo : zm_L) (st : List zm_V) (M : zm_M) : Option zm_M := zm_rn zt_Y lx_tl_takeOver zr_v cd_tl_takeOver n pc lo st M
set_option maxRecDepth 20000 in
theorem er_tl_takeOver (f0 : Nat) (f1 : Nat) (M : zm_M) : fn_tl_takeOver [.inr (27, f0), .inr (27, f1)] M = ((zm_ac zt_Y [.inr (28, f1), .inl (Int32.ofInt 0), .inr (28, f0), .inl (Int32.ofInt 0), .inl (M 27 f1 1)] M).bind fun q1 => some (zm_up (zm_up q1 27 f0 1 (q1 27 f1 1)) 27 f0 2 (q1 27 f1 2))) := rfl
set_option maxRecDepth 20000 in
theorem eq_tl_takeOver (f0 : Nat) (f1 : Nat) (M : zm_M) : fn_tl_takeOver [.inr (27, f0), .inr (27, f1)] M = ((zm_ac zt_Y [.inr (28, f1), .inl (0 : Int32), .inr (28, f0), .inl (0 : Int32), .inl (M 27 f1 1)] M).bind fun q1 => some (zm_up (zm_up q1 27 f0 1 (q1 27 f1 1)) 27 f0 2 (q1 27 f1 2))) := by
  rw [er_tl_takeOver]
  simp only [kz_I0]
def rr_wr_writeRows (n pc : Nat) (lo : zm_L) (st : List zm_V) (M : zm_M) : Option (Int32 × zm_M) := zm_rn zt_Y lx_wr_writeRows zr_i cd_wr_writeRows n pc lo st M
set_option maxRecDepth 20000 in
theorem eq_wr_writeRows  (M : zm_M) : fn_wr_writeRows [.inr (26, 0)] M = rr_wr_writeRows 1073741824 0 [some (.inr (26, 0)), none, none, none] [] M := rfl
set_option maxRecDepth 20000 in
theorem so_wr_writeRows : cd_wr_writeRows.Pairwise (fun a b => a.1 < b.1) := by decide +kernel
set_option maxRecDepth 20000 in
theorem er_wr_writeRows_0 (kt bk : Nat → zm_L → List zm_V → zm_M → Option (Int32 × zm_M))  (M : zm_M) : zm_gc zt_Y lx_wr_writeRows zr_i [36] kt bk (cd_wr_writeRows.drop 0) 0 [some (.inr (26, 0)), none, none, none] [] M = ((fn_pr_enter [.inr (5, 0), .inr (23, 101)] M).bind fun q1 => (fn_tl_gather [.inr (27, 0), .inr (23, 101)] q1).bind fun q2 => kt 36 [some (.inr (26, 0)), some (.inl (Int32.ofInt 0)), some (.inl (Int32.ofInt (-1))), some (.inl (Int32.ofInt 0))] [] (zm_up q2 15 1 1 (Int32.ofInt 0))) := rfl
set_option maxRecDepth 20000 in
theorem eq_wr_writeRows_0 (n : Nat)  (M : zm_M) : rr_wr_writeRows (n + 1) 0 [some (.inr (26, 0)), none, none, none] [] M = ((fn_pr_enter [.inr (5, 0), .inr (23, 101)] M).bind fun q1 => (fn_tl_gather [.inr (27, 0), .inr (23, 101)] q1).bind fun q2 => rr_wr_writeRows (n + 1) 36 [some (.inr (26, 0)), some (.inl (0 : Int32)), some (.inl (-1 : Int32)), some (.inl (0 : Int32))] [] (zm_up q2 15 1 1 (0 : Int32))) := by
  have h := (zm_gc_ok (cd_wr_writeRows.take 0) (cd_wr_writeRows.drop 0) (List.take_append_drop 0 cd_wr_writeRows).symm so_wr_writeRows (by decide +kernel)).symm.trans (er_wr_writeRows_0 (rr_wr_writeRows (n + 1)) (rr_wr_writeRows n)  M)
  simp only [kz_I0, kz_Im1] at h
  exact h
set_option maxRecDepth 20000 in
theorem er_wr_writeRows_36 (kt bk : Nat → zm_L → List zm_V → zm_M → Option (Int32 × zm_M)) (v1 : Int32) (v2 : Int32) (v3 : Int32) (M : zm_M) : zm_gc zt_Y lx_wr_writeRows zr_i [36] kt bk (cd_wr_writeRows.drop 20) 36 [some (.inr (26, 0)), some (.inl v1), some (.inl v2), some (.inl v3)] [] M = (if v3 < (M 5 0 9) then if v3 < 0 ∨ 50 ≤ v3.toNatClampNeg then none else if (M 20 0 v3.toNatClampNeg) = 0 then bk 36 [some (.inr (26, 0)), some (.inl v1), some (.inl v2), some (.inl (v3 + (Int32.ofInt 1)))] [] M else if v3 < 0 ∨ 50 ≤ v3.toNatClampNeg then none else (fn_tl_gather [.inr (27, 1), .inr (23, v3.toNatClampNeg)] M).bind fun q1 => if v3 < 0 ∨ 50 ≤ v3.toNatClampNeg then none else if v3 < 0 ∨ 51 ≤ v3.toNatClampNeg then none else (fn_wr_writeRow [.inr (26, 0), .inr (23, v3.toNatClampNeg), .inl (((q1 10 0 v3.toNatClampNeg) - v2) - (Int32.ofInt 1))] q1).bind fun q2 => (fn_tl_takeOver [.inr (27, 0), .inr (27, 1)] q2).bind fun q3 => if v3 < 0 ∨ 51 ≤ v3.toNatClampNeg then none else bk 36 [some (.inr (26, 0)), some (.inl (v1 + (Int32.ofInt 1))), some (.inl (q3 10 0 v3.toNatClampNeg)), some (.inl (v3 + (Int32.ofInt 1)))] [] q3 else some (v1, M)) := rfl
set_option maxRecDepth 20000 in
theorem eq_wr_writeRows_36 (n : Nat) (v1 : Int32) (v2 : Int32) (v3 : Int32) (M : zm_M) : rr_wr_writeRows (n + 1) 36 [some (.inr (26, 0)), some (.inl v1), some (.inl v2), some (.inl v3)] [] M = (if v3 < (M 5 0 9) then if v3 < 0 ∨ 50 ≤ v3.toNatClampNeg then none else if (M 20 0 v3.toNatClampNeg) = 0 then rr_wr_writeRows n 36 [some (.inr (26, 0)), some (.inl v1), some (.inl v2), some (.inl (v3 + (1 : Int32)))] [] M else if v3 < 0 ∨ 50 ≤ v3.toNatClampNeg then none else (fn_tl_gather [.inr (27, 1), .inr (23, v3.toNatClampNeg)] M).bind fun q1 => if v3 < 0 ∨ 50 ≤ v3.toNatClampNeg then none else if v3 < 0 ∨ 51 ≤ v3.toNatClampNeg then none else (fn_wr_writeRow [.inr (26, 0), .inr (23, v3.toNatClampNeg), .inl (((q1 10 0 v3.toNatClampNeg) - v2) - (1 : Int32))] q1).bind fun q2 => (fn_tl_takeOver [.inr (27, 0), .inr (27, 1)] q2).bind fun q3 => if v3 < 0 ∨ 51 ≤ v3.toNatClampNeg then none else rr_wr_writeRows n 36 [some (.inr (26, 0)), some (.inl (v1 + (1 : Int32))), some (.inl (q3 10 0 v3.toNatClampNeg)), some (.inl (v3 + (1 : Int32)))] [] q3 else some (v1, M)) := by
  have h := (zm_gc_ok (cd_wr_writeRows.take 20) (cd_wr_writeRows.drop 20) (List.take_append_drop 20 cd_wr_writeRows).symm so_wr_writeRows (by decide +kernel)).symm.trans (er_wr_writeRows_36 (rr_wr_writeRows (n + 1)) (rr_wr_writeRows n) v1 v2 v3 M)
  simp only [kz_I1] at h
  exact h
def rr_by_takeOver (n pc : Nat) (lo : zm_L) (st : List zm_V) (M : zm_M) : Option zm_M := zm_rn zt_Y lx_by_takeOver zr_v cd_by_takeOver n pc lo st M
set_option maxRecDepth 20000 in
theorem er_by_takeOver (f0 : Nat) (f1 : Nat) (M : zm_M) : fn_by_takeOver [.inr (15, f0), .inr (15, f1)] M = ((zm_mn [.inl (M 15 f1 1), .inl ((Int16.ofInt 400).toInt32)] M).bind fun q1 => (zm_ac zt_Y [.inr (16, f1), .inl (Int32.ofInt 0), .inr (16, f0), .inl (Int32.ofInt 0), .inl ((zm_up q1.2 15 f0 1 q1.1) 15 f0 1)] (zm_up q1.2 15 f0 1 q1.1)).bind fun q2 => some q2) := rfl
set_option maxRecDepth 20000 in
theorem eq_by_takeOver (f0 : Nat) (f1 : Nat) (M : zm_M) : fn_by_takeOver [.inr (15, f0), .inr (15, f1)] M = ((zm_mn [.inl (M 15 f1 1), .inl (400 : Int32)] M).bind fun q1 => (zm_ac zt_Y [.inr (16, f1), .inl (0 : Int32), .inr (16, f0), .inl (0 : Int32), .inl ((zm_up q1.2 15 f0 1 q1.1) 15 f0 1)] (zm_up q1.2 15 f0 1 q1.1)).bind fun q2 => some q2) := by
  rw [er_by_takeOver]
  simp only [kz_S400, kz_I0]
def rr_mf_make (n pc : Nat) (lo : zm_L) (st : List zm_V) (M : zm_M) : Option (Int32 × zm_M) := zm_rn zt_Y lx_mf_make zr_i cd_mf_make n pc lo st M
set_option maxRecDepth 20000 in
theorem er_mf_make  (M : zm_M) : fn_mf_make [.inr (0, 0)] M = ((fn_fl_isRight [.inr (18, 0)] M).bind fun q1 => if q1.1 = 0 then some (((Int8.ofInt (-4)).toInt32), q1.2) else (fn_wr_writeRows [.inr (26, 0)] q1.2).bind fun q2 => if ((Int16.ofInt 400).toInt32) < (q2.2 15 1 1) then some (((Int8.ofInt (-3)).toInt32), q2.2) else (fn_by_takeOver [.inr (15, 0), .inr (15, 1)] q2.2).bind fun q3 => (if (Int32.ofInt 0) = 0 ∨ (Int32.ofInt 0) = 1 then some (q2.1, zm_up q3 29 0 9 (Int32.ofInt 0)) else none)) := rfl
set_option maxRecDepth 20000 in
theorem eq_mf_make  (M : zm_M) : fn_mf_make [.inr (0, 0)] M = ((fn_fl_isRight [.inr (18, 0)] M).bind fun q1 => if q1.1 = 0 then some ((-4 : Int32), q1.2) else (fn_wr_writeRows [.inr (26, 0)] q1.2).bind fun q2 => if (400 : Int32) < (q2.2 15 1 1) then some ((-3 : Int32), q2.2) else (fn_by_takeOver [.inr (15, 0), .inr (15, 1)] q2.2).bind fun q3 => (some (q2.1, zm_up q3 29 0 9 (0 : Int32)))) := by
  rw [er_mf_make]
  simp only [kz_Bm4, kz_S400, kz_Bm3, kz_I0, true_or, or_true, ↓reduceIte]
def rr_mf_isQuestion (n pc : Nat) (lo : zm_L) (st : List zm_V) (M : zm_M) : Option (Int32 × zm_M) := zm_rn zt_Y lx_mf_isQuestion zr_z cd_mf_isQuestion n pc lo st M
set_option maxRecDepth 20000 in
theorem er_mf_isQuestion (x0 : Int32) (x1 : Int32) (M : zm_M) : fn_mf_isQuestion [.inl x0, .inl x1] M = (if x0 < 0 then if x0 < ((Int8.ofInt 20).toInt32) then (if (Int32.ofInt 0) = 0 ∨ (Int32.ofInt 0) = 1 then some ((Int32.ofInt 0), M) else none) else if x1 < x0 then (if (Int32.ofInt 0) = 0 ∨ (Int32.ofInt 0) = 1 then some ((Int32.ofInt 0), M) else none) else (if (Int32.ofInt 1) = 0 ∨ (Int32.ofInt 1) = 1 then some ((Int32.ofInt 1), M) else none) else if x0 < ((Int8.ofInt 18).toInt32) then (if (Int32.ofInt 1) = 0 ∨ (Int32.ofInt 1) = 1 then some ((Int32.ofInt 1), M) else none) else if x0 < ((Int8.ofInt 20).toInt32) then (if (Int32.ofInt 0) = 0 ∨ (Int32.ofInt 0) = 1 then some ((Int32.ofInt 0), M) else none) else if x1 < x0 then (if (Int32.ofInt 0) = 0 ∨ (Int32.ofInt 0) = 1 then some ((Int32.ofInt 0), M) else none) else (if (Int32.ofInt 1) = 0 ∨ (Int32.ofInt 1) = 1 then some ((Int32.ofInt 1), M) else none)) := rfl
set_option maxRecDepth 20000 in
theorem eq_mf_isQuestion (x0 : Int32) (x1 : Int32) (M : zm_M) : fn_mf_isQuestion [.inl x0, .inl x1] M = (if x0 < 0 then if x0 < (20 : Int32) then (some ((0 : Int32), M)) else if x1 < x0 then (some ((0 : Int32), M)) else (some ((1 : Int32), M)) else if x0 < (18 : Int32) then (some ((1 : Int32), M)) else if x0 < (20 : Int32) then (some ((0 : Int32), M)) else if x1 < x0 then (some ((0 : Int32), M)) else (some ((1 : Int32), M))) := by
  rw [er_mf_isQuestion]
  simp only [kz_B20, kz_I0, kz_I1, kz_B18, true_or, or_true, ↓reduceIte]
def rr_fr_tell (n pc : Nat) (lo : zm_L) (st : List zm_V) (M : zm_M) : Option (Int32 × zm_M) := zm_rn zt_Y lx_fr_tell zr_i cd_fr_tell n pc lo st M
set_option maxRecDepth 20000 in
theorem er_fr_tell (f0 : Nat) (x1 : Int32) (M : zm_M) : fn_fr_tell [.inr (23, f0), .inl x1] M = (if x1 < ((Int8.ofInt 10).toInt32) then if x1 < 0 ∨ 10 ≤ x1.toNatClampNeg then none else some (M 24 f0 x1.toNatClampNeg, M) else if x1 < ((Int8.ofInt 18).toInt32) then if (x1 - ((Int8.ofInt 10).toInt32)) < (M 23 f0 2) then if (x1 - ((Int8.ofInt 10).toInt32)) < 0 ∨ 8 ≤ (x1 - ((Int8.ofInt 10).toInt32)).toNatClampNeg then none else some (M 25 f0 ((x1 - ((Int8.ofInt 10).toInt32)).toNatClampNeg), M) else some (((Int8.ofInt (-2)).toInt32), M) else if x1 = ((Int8.ofInt 20).toInt32) then some (M 23 f0 2, M) else if (M 23 f0 4) = 0 then some ((Int32.ofInt 0), M) else some ((Int32.ofInt 1), M)) := rfl
set_option maxRecDepth 20000 in
theorem eq_fr_tell (f0 : Nat) (x1 : Int32) (M : zm_M) : fn_fr_tell [.inr (23, f0), .inl x1] M = (if x1 < (10 : Int32) then if x1 < 0 ∨ 10 ≤ x1.toNatClampNeg then none else some (M 24 f0 x1.toNatClampNeg, M) else if x1 < (18 : Int32) then if (x1 - (10 : Int32)) < (M 23 f0 2) then if (x1 - (10 : Int32)) < 0 ∨ 8 ≤ (x1 - (10 : Int32)).toNatClampNeg then none else some (M 25 f0 ((x1 - (10 : Int32)).toNatClampNeg), M) else some ((-2 : Int32), M) else if x1 = (20 : Int32) then some (M 23 f0 2, M) else if (M 23 f0 4) = 0 then some ((0 : Int32), M) else some ((1 : Int32), M)) := by
  rw [er_fr_tell]
  simp only [kz_B10, kz_B18, kz_Bm2, kz_B20, kz_I0, kz_I1]
def rr_mf_flow (n pc : Nat) (lo : zm_L) (st : List zm_V) (M : zm_M) : Option (Int32 × zm_M) := zm_rn zt_Y lx_mf_flow zr_i cd_mf_flow n pc lo st M
set_option maxRecDepth 20000 in
theorem er_mf_flow (x1 : Int32) (x2 : Int32) (M : zm_M) : fn_mf_flow [.inr (0, 0), .inl x1, .inl x2] M = ((fn_mf_isQuestion [.inl x2, .inl ((Int8.ofInt 21).toInt32)] M).bind fun q1 => if q1.1 = 0 then some ((Int32.ofInt (-1)), q1.2) else if x1 < 0 then some (((Int8.ofInt (-2)).toInt32), q1.2) else if x1 < (q1.2 5 0 9) then (fn_fl_isRight [.inr (18, 0)] q1.2).bind fun q2 => if q2.1 = 0 then some (((Int8.ofInt (-2)).toInt32), q2.2) else if x1 < 0 ∨ 50 ≤ x1.toNatClampNeg then none else (fn_fr_tell [.inr (23, x1.toNatClampNeg), .inl x2] q2.2).bind fun q3 => some (q3.1, q3.2) else some (((Int8.ofInt (-2)).toInt32), q1.2)) := rfl
set_option maxRecDepth 20000 in
theorem eq_mf_flow (x1 : Int32) (x2 : Int32) (M : zm_M) : fn_mf_flow [.inr (0, 0), .inl x1, .inl x2] M = ((fn_mf_isQuestion [.inl x2, .inl (21 : Int32)] M).bind fun q1 => if q1.1 = 0 then some ((-1 : Int32), q1.2) else if x1 < 0 then some ((-2 : Int32), q1.2) else if x1 < (q1.2 5 0 9) then (fn_fl_isRight [.inr (18, 0)] q1.2).bind fun q2 => if q2.1 = 0 then some ((-2 : Int32), q2.2) else if x1 < 0 ∨ 50 ≤ x1.toNatClampNeg then none else (fn_fr_tell [.inr (23, x1.toNatClampNeg), .inl x2] q2.2).bind fun q3 => some (q3.1, q3.2) else some ((-2 : Int32), q1.2)) := by
  rw [er_mf_flow]
  simp only [kz_B21, kz_Im1, kz_Bm2]
def rr_re_begin (n pc : Nat) (lo : zm_L) (st : List zm_V) (M : zm_M) : Option zm_M := zm_rn zt_Y lx_re_begin zr_v cd_re_begin n pc lo st M
set_option maxRecDepth 20000 in
theorem er_re_begin  (M : zm_M) : fn_re_begin [.inr (29, 0)] M = ((fn_pr_enter [.inr (5, 0), .inr (23, 102)] M).bind fun q1 => (fn_tl_gather [.inr (27, 2), .inr (23, 102)] q1).bind fun q2 => (fn_ja_fill [.inr (33, 0), .inl ((Int8.ofInt (-2)).toInt32)] q2).bind fun q3 => some (zm_up (zm_up q3 29 0 8 (Int32.ofInt 0)) 29 0 11 (Int32.ofInt 0))) := rfl
set_option maxRecDepth 20000 in
theorem eq_re_begin  (M : zm_M) : fn_re_begin [.inr (29, 0)] M = ((fn_pr_enter [.inr (5, 0), .inr (23, 102)] M).bind fun q1 => (fn_tl_gather [.inr (27, 2), .inr (23, 102)] q1).bind fun q2 => (fn_ja_fill [.inr (33, 0), .inl (-2 : Int32)] q2).bind fun q3 => some (zm_up (zm_up q3 29 0 8 (0 : Int32)) 29 0 11 (0 : Int32))) := by
  rw [er_re_begin]
  simp only [kz_Bm2, kz_I0]
def rr_re_readByte (n pc : Nat) (lo : zm_L) (st : List zm_V) (M : zm_M) : Option (Int32 × zm_M) := zm_rn zt_Y lx_re_readByte zr_i cd_re_readByte n pc lo st M
set_option maxRecDepth 20000 in
theorem er_re_readByte  (M : zm_M) : fn_re_readByte [.inr (29, 0)] M = (if (M 29 0 11) < (M 15 0 1) then if (((M 29 0 11) + (Int32.ofInt 1)) - (Int32.ofInt 1)) < 0 ∨ 400 ≤ (((M 29 0 11) + (Int32.ofInt 1)) - (Int32.ofInt 1)).toNatClampNeg then none else some (M 16 0 ((((M 29 0 11) + (Int32.ofInt 1)) - (Int32.ofInt 1)).toNatClampNeg), zm_up M 29 0 11 ((M 29 0 11) + (Int32.ofInt 1))) else some ((Int32.ofInt (-1)), M)) := rfl
set_option maxRecDepth 20000 in
theorem eq_re_readByte  (M : zm_M) : fn_re_readByte [.inr (29, 0)] M = (if (M 29 0 11) < (M 15 0 1) then if (((M 29 0 11) + (1 : Int32)) - (1 : Int32)) < 0 ∨ 400 ≤ (((M 29 0 11) + (1 : Int32)) - (1 : Int32)).toNatClampNeg then none else some (M 16 0 ((((M 29 0 11) + (1 : Int32)) - (1 : Int32)).toNatClampNeg), zm_up M 29 0 11 ((M 29 0 11) + (1 : Int32))) else some ((-1 : Int32), M)) := by
  rw [er_re_readByte]
  simp only [kz_I1, kz_Im1]
def rr_re_readTwo (n pc : Nat) (lo : zm_L) (st : List zm_V) (M : zm_M) : Option (Int32 × zm_M) := zm_rn zt_Y lx_re_readTwo zr_i cd_re_readTwo n pc lo st M
set_option maxRecDepth 20000 in
theorem er_re_readTwo  (M : zm_M) : fn_re_readTwo [.inr (29, 0)] M = ((fn_re_readByte [.inr (29, 0)] M).bind fun q1 => (fn_re_readByte [.inr (29, 0)] q1.2).bind fun q2 => if q1.1 < 0 then some ((Int32.ofInt (-1)), q2.2) else if q2.1 < 0 then some ((Int32.ofInt (-1)), q2.2) else some ((q1.1 <<< (((Int8.ofInt 8).toInt32) &&& 31)) ||| q2.1, q2.2)) := rfl
set_option maxRecDepth 20000 in
theorem eq_re_readTwo  (M : zm_M) : fn_re_readTwo [.inr (29, 0)] M = ((fn_re_readByte [.inr (29, 0)] M).bind fun q1 => (fn_re_readByte [.inr (29, 0)] q1.2).bind fun q2 => if q1.1 < 0 then some ((-1 : Int32), q2.2) else if q2.1 < 0 then some ((-1 : Int32), q2.2) else some ((q1.1 <<< ((8 : Int32) &&& 31)) ||| q2.1, q2.2)) := by
  rw [er_re_readTwo]
  simp only [kz_Im1, kz_B8]
def rr_re_readType (n pc : Nat) (lo : zm_L) (st : List zm_V) (M : zm_M) : Option (Int32 × zm_M) := zm_rn zt_Y lx_re_readType zr_i cd_re_readType n pc lo st M
set_option maxRecDepth 20000 in
theorem er_re_readType  (M : zm_M) : fn_re_readType [.inr (29, 0)] M = ((fn_re_readByte [.inr (29, 0)] M).bind fun q1 => if q1.1 < 0 then some ((Int32.ofInt (-1)), q1.2) else if ((Int8.ofInt 8).toInt32) < q1.1 then some ((Int32.ofInt (-1)), q1.2) else if q1.1 < ((Int8.ofInt 7).toInt32) then some (q1.1, q1.2) else (fn_re_readTwo [.inr (29, 0)] q1.2).bind fun q2 => if q2.1 < 0 then some ((Int32.ofInt (-1)), q2.2) else if q1.1 = ((Int8.ofInt 7).toInt32) then (fn_mf_isClass [.inl q2.1] q2.2).bind fun q4 => if q4.1 = 0 then some ((Int32.ofInt (-1)), q4.2) else (fn_mf_typeOf [.inl q1.1, .inl q2.1] q4.2).bind fun q5 => some (q5.1, q5.2) else (fn_mf_typeOf [.inl q1.1, .inl q2.1] q2.2).bind fun q3 => some (q3.1, q3.2)) := rfl
set_option maxRecDepth 20000 in
theorem eq_re_readType  (M : zm_M) : fn_re_readType [.inr (29, 0)] M = ((fn_re_readByte [.inr (29, 0)] M).bind fun q1 => if q1.1 < 0 then some ((-1 : Int32), q1.2) else if (8 : Int32) < q1.1 then some ((-1 : Int32), q1.2) else if q1.1 < (7 : Int32) then some (q1.1, q1.2) else (fn_re_readTwo [.inr (29, 0)] q1.2).bind fun q2 => if q2.1 < 0 then some ((-1 : Int32), q2.2) else if q1.1 = (7 : Int32) then (fn_mf_isClass [.inl q2.1] q2.2).bind fun q4 => if q4.1 = 0 then some ((-1 : Int32), q4.2) else (fn_mf_typeOf [.inl q1.1, .inl q2.1] q4.2).bind fun q5 => some (q5.1, q5.2) else (fn_mf_typeOf [.inl q1.1, .inl q2.1] q2.2).bind fun q3 => some (q3.1, q3.2)) := by
  rw [er_re_readType]
  simp only [kz_Im1, kz_B8, kz_B7]
def rr_re_readStack (n pc : Nat) (lo : zm_L) (st : List zm_V) (M : zm_M) : Option (Int32 × zm_M) := zm_rn zt_Y lx_re_readStack zr_z cd_re_readStack n pc lo st M
set_option maxRecDepth 20000 in
theorem eq_re_readStack (f1 : Nat) (x2 : Int32) (M : zm_M) : fn_re_readStack [.inr (29, 0), .inr (23, f1), .inl x2] M = rr_re_readStack 1073741824 0 [some (.inr (29, 0)), some (.inr (23, f1)), some (.inl x2), none, none] [] M := rfl
set_option maxRecDepth 20000 in
theorem so_re_readStack : cd_re_readStack.Pairwise (fun a b => a.1 < b.1) := by decide +kernel
set_option maxRecDepth 20000 in
theorem er_re_readStack_0 (kt bk : Nat → zm_L → List zm_V → zm_M → Option (Int32 × zm_M)) (f1 : Nat) (x2 : Int32) (M : zm_M) : zm_gc zt_Y lx_re_readStack zr_z [2] kt bk (cd_re_readStack.drop 0) 0 [some (.inr (29, 0)), some (.inr (23, f1)), some (.inl x2), none, none] [] M = (kt 2 [some (.inr (29, 0)), some (.inr (23, f1)), some (.inl x2), some (.inl (Int32.ofInt 0)), none] [] M) := rfl
set_option maxRecDepth 20000 in
theorem eq_re_readStack_0 (n : Nat) (f1 : Nat) (x2 : Int32) (M : zm_M) : rr_re_readStack (n + 1) 0 [some (.inr (29, 0)), some (.inr (23, f1)), some (.inl x2), none, none] [] M = (rr_re_readStack (n + 1) 2 [some (.inr (29, 0)), some (.inr (23, f1)), some (.inl x2), some (.inl (0 : Int32)), none] [] M) := by
  have h := (zm_gc_ok (cd_re_readStack.take 0) (cd_re_readStack.drop 0) (List.take_append_drop 0 cd_re_readStack).symm so_re_readStack (by decide +kernel)).symm.trans (er_re_readStack_0 (rr_re_readStack (n + 1)) (rr_re_readStack n) f1 x2 M)
  simp only [kz_I0] at h
  exact h
set_option maxRecDepth 20000 in
theorem er_re_readStack_2 (kt bk : Nat → zm_L → List zm_V → zm_M → Option (Int32 × zm_M)) (f1 : Nat) (v2 : Int32) (v3 : Int32) (o4 : Option zm_V) (M : zm_M) : zm_gc zt_Y lx_re_readStack zr_z [2] kt bk (cd_re_readStack.drop 2) 2 [some (.inr (29, 0)), some (.inr (23, f1)), some (.inl v2), some (.inl v3), o4] [] M = (if v3 < v2 then (fn_re_readType [.inr (29, 0)] M).bind fun q1 => if q1.1 = (Int32.ofInt (-1)) then (if (Int32.ofInt 0) = 0 ∨ (Int32.ofInt 0) = 1 then some ((Int32.ofInt 0), q1.2) else none) else (fn_fr_push [.inr (23, f1), .inl q1.1] q1.2).bind fun q2 => if q2.1 = 0 then (if (Int32.ofInt 0) = 0 ∨ (Int32.ofInt 0) = 1 then some ((Int32.ofInt 0), q2.2) else none) else bk 2 [some (.inr (29, 0)), some (.inr (23, f1)), some (.inl v2), some (.inl (v3 + (Int32.ofInt 1))), some (.inl q1.1)] [] q2.2 else if v2 < 0 then (if (Int32.ofInt 0) = 0 ∨ (Int32.ofInt 0) = 1 then some ((Int32.ofInt 0), M) else none) else (if (Int32.ofInt 1) = 0 ∨ (Int32.ofInt 1) = 1 then some ((Int32.ofInt 1), M) else none)) := rfl
set_option maxRecDepth 20000 in
theorem eq_re_readStack_2 (n : Nat) (f1 : Nat) (v2 : Int32) (v3 : Int32) (o4 : Option zm_V) (M : zm_M) : rr_re_readStack (n + 1) 2 [some (.inr (29, 0)), some (.inr (23, f1)), some (.inl v2), some (.inl v3), o4] [] M = (if v3 < v2 then (fn_re_readType [.inr (29, 0)] M).bind fun q1 => if q1.1 = (-1 : Int32) then (some ((0 : Int32), q1.2)) else (fn_fr_push [.inr (23, f1), .inl q1.1] q1.2).bind fun q2 => if q2.1 = 0 then (some ((0 : Int32), q2.2)) else rr_re_readStack n 2 [some (.inr (29, 0)), some (.inr (23, f1)), some (.inl v2), some (.inl (v3 + (1 : Int32))), some (.inl q1.1)] [] q2.2 else if v2 < 0 then (some ((0 : Int32), M)) else (some ((1 : Int32), M))) := by
  have h := (zm_gc_ok (cd_re_readStack.take 2) (cd_re_readStack.drop 2) (List.take_append_drop 2 cd_re_readStack).symm so_re_readStack (by decide +kernel)).symm.trans (er_re_readStack_2 (rr_re_readStack (n + 1)) (rr_re_readStack n) f1 v2 v3 o4 M)
  simp only [kz_Im1, kz_I0, kz_I1, true_or, or_true, ↓reduceIte] at h
  exact h
def rr_re_readList (n pc : Nat) (lo : zm_L) (st : List zm_V) (M : zm_M) : Option (Int32 × zm_M) := zm_rn zt_Y lx_re_readList zr_z cd_re_readList n pc lo st M
set_option maxRecDepth 20000 in
theorem eq_re_readList (x1 : Int32) (M : zm_M) : fn_re_readList [.inr (29, 0), .inl x1] M = rr_re_readList 1073741824 0 [some (.inr (29, 0)), some (.inl x1), none, none] [] M := rfl
set_option maxRecDepth 20000 in
theorem so_re_readList : cd_re_readList.Pairwise (fun a b => a.1 < b.1) := by decide +kernel
set_option maxRecDepth 20000 in
theorem er_re_readList_0 (kt bk : Nat → zm_L → List zm_V → zm_M → Option (Int32 × zm_M)) (x1 : Int32) (M : zm_M) : zm_gc zt_Y lx_re_readList zr_z [2] kt bk (cd_re_readList.drop 0) 0 [some (.inr (29, 0)), some (.inl x1), none, none] [] M = (kt 2 [some (.inr (29, 0)), some (.inl x1), some (.inl (Int32.ofInt 0)), none] [] M) := rfl
set_option maxRecDepth 20000 in
theorem eq_re_readList_0 (n : Nat) (x1 : Int32) (M : zm_M) : rr_re_readList (n + 1) 0 [some (.inr (29, 0)), some (.inl x1), none, none] [] M = (rr_re_readList (n + 1) 2 [some (.inr (29, 0)), some (.inl x1), some (.inl (0 : Int32)), none] [] M) := by
  have h := (zm_gc_ok (cd_re_readList.take 0) (cd_re_readList.drop 0) (List.take_append_drop 0 cd_re_readList).symm so_re_readList (by decide +kernel)).symm.trans (er_re_readList_0 (rr_re_readList (n + 1)) (rr_re_readList n) x1 M)
  simp only [kz_I0] at h
  exact h
set_option maxRecDepth 20000 in
theorem er_re_readList_2 (kt bk : Nat → zm_L → List zm_V → zm_M → Option (Int32 × zm_M)) (v1 : Int32) (v2 : Int32) (o3 : Option zm_V) (M : zm_M) : zm_gc zt_Y lx_re_readList zr_z [2] kt bk (cd_re_readList.drop 2) 2 [some (.inr (29, 0)), some (.inl v1), some (.inl v2), o3] [] M = (if v2 < v1 then (fn_re_readType [.inr (29, 0)] M).bind fun q1 => if q1.1 = (Int32.ofInt (-1)) then (if (Int32.ofInt 0) = 0 ∨ (Int32.ofInt 0) = 1 then some ((Int32.ofInt 0), q1.2) else none) else (fn_tl_append [.inr (27, 2), .inl q1.1] q1.2).bind fun q2 => if q2.1 = 0 then (if (Int32.ofInt 0) = 0 ∨ (Int32.ofInt 0) = 1 then some ((Int32.ofInt 0), q2.2) else none) else bk 2 [some (.inr (29, 0)), some (.inl v1), some (.inl (v2 + (Int32.ofInt 1))), some (.inl q1.1)] [] q2.2 else if v1 < 0 then (if (Int32.ofInt 0) = 0 ∨ (Int32.ofInt 0) = 1 then some ((Int32.ofInt 0), M) else none) else (if (Int32.ofInt 1) = 0 ∨ (Int32.ofInt 1) = 1 then some ((Int32.ofInt 1), M) else none)) := rfl
set_option maxRecDepth 20000 in
theorem eq_re_readList_2 (n : Nat) (v1 : Int32) (v2 : Int32) (o3 : Option zm_V) (M : zm_M) : rr_re_readList (n + 1) 2 [some (.inr (29, 0)), some (.inl v1), some (.inl v2), o3] [] M = (if v2 < v1 then (fn_re_readType [.inr (29, 0)] M).bind fun q1 => if q1.1 = (-1 : Int32) then (some ((0 : Int32), q1.2)) else (fn_tl_append [.inr (27, 2), .inl q1.1] q1.2).bind fun q2 => if q2.1 = 0 then (some ((0 : Int32), q2.2)) else rr_re_readList n 2 [some (.inr (29, 0)), some (.inl v1), some (.inl (v2 + (1 : Int32))), some (.inl q1.1)] [] q2.2 else if v1 < 0 then (some ((0 : Int32), M)) else (some ((1 : Int32), M))) := by
  have h := (zm_gc_ok (cd_re_readList.take 2) (cd_re_readList.drop 2) (List.take_append_drop 2 cd_re_readList).symm so_re_readList (by decide +kernel)).symm.trans (er_re_readList_2 (rr_re_readList (n + 1)) (rr_re_readList n) v1 v2 o3 M)
  simp only [kz_Im1, kz_I0, kz_I1, true_or, or_true, ↓reduceIte] at h
  exact h
def rr_re_shorten (n pc : Nat) (lo : zm_L) (st : List zm_V) (M : zm_M) : Option (Int32 × zm_M) := zm_rn zt_Y lx_re_shorten zr_z cd_re_shorten n pc lo st M
set_option maxRecDepth 20000 in
theorem eq_re_shorten (x1 : Int32) (M : zm_M) : fn_re_shorten [.inr (29, 0), .inl x1] M = rr_re_shorten 1073741824 0 [some (.inr (29, 0)), some (.inl x1), none] [] M := rfl
set_option maxRecDepth 20000 in
theorem so_re_shorten : cd_re_shorten.Pairwise (fun a b => a.1 < b.1) := by decide +kernel
set_option maxRecDepth 20000 in
theorem er_re_shorten_0 (kt bk : Nat → zm_L → List zm_V → zm_M → Option (Int32 × zm_M)) (x1 : Int32) (M : zm_M) : zm_gc zt_Y lx_re_shorten zr_z [15] kt bk (cd_re_shorten.drop 0) 0 [some (.inr (29, 0)), some (.inl x1), none] [] M = (if (M 27 2 1) < x1 then (if (Int32.ofInt 0) = 0 ∨ (Int32.ofInt 0) = 1 then some ((Int32.ofInt 0), M) else none) else kt 15 [some (.inr (29, 0)), some (.inl x1), some (.inl (Int32.ofInt 0))] [] M) := rfl
set_option maxRecDepth 20000 in
theorem eq_re_shorten_0 (n : Nat) (x1 : Int32) (M : zm_M) : rr_re_shorten (n + 1) 0 [some (.inr (29, 0)), some (.inl x1), none] [] M = (if (M 27 2 1) < x1 then (some ((0 : Int32), M)) else rr_re_shorten (n + 1) 15 [some (.inr (29, 0)), some (.inl x1), some (.inl (0 : Int32))] [] M) := by
  have h := (zm_gc_ok (cd_re_shorten.take 0) (cd_re_shorten.drop 0) (List.take_append_drop 0 cd_re_shorten).symm so_re_shorten (by decide +kernel)).symm.trans (er_re_shorten_0 (rr_re_shorten (n + 1)) (rr_re_shorten n) x1 M)
  simp only [kz_I0, true_or, or_true, ↓reduceIte] at h
  exact h
set_option maxRecDepth 20000 in
theorem er_re_shorten_15 (kt bk : Nat → zm_L → List zm_V → zm_M → Option (Int32 × zm_M)) (v1 : Int32) (v2 : Int32) (M : zm_M) : zm_gc zt_Y lx_re_shorten zr_z [15] kt bk (cd_re_shorten.drop 9) 15 [some (.inr (29, 0)), some (.inl v1), some (.inl v2)] [] M = (if v2 < v1 then (fn_tl_drop [.inr (27, 2)] M).bind fun q1 => bk 15 [some (.inr (29, 0)), some (.inl v1), some (.inl (v2 + (Int32.ofInt 1)))] [] q1 else (if (Int32.ofInt 1) = 0 ∨ (Int32.ofInt 1) = 1 then some ((Int32.ofInt 1), M) else none)) := rfl
set_option maxRecDepth 20000 in
theorem eq_re_shorten_15 (n : Nat) (v1 : Int32) (v2 : Int32) (M : zm_M) : rr_re_shorten (n + 1) 15 [some (.inr (29, 0)), some (.inl v1), some (.inl v2)] [] M = (if v2 < v1 then (fn_tl_drop [.inr (27, 2)] M).bind fun q1 => rr_re_shorten n 15 [some (.inr (29, 0)), some (.inl v1), some (.inl (v2 + (1 : Int32)))] [] q1 else (some ((1 : Int32), M))) := by
  have h := (zm_gc_ok (cd_re_shorten.take 9) (cd_re_shorten.drop 9) (List.take_append_drop 9 cd_re_shorten).symm so_re_shorten (by decide +kernel)).symm.trans (er_re_shorten_15 (rr_re_shorten (n + 1)) (rr_re_shorten n) v1 v2 M)
  simp only [kz_I1, true_or, or_true, ↓reduceIte] at h
  exact h
def rr_re_readRest (n pc : Nat) (lo : zm_L) (st : List zm_V) (M : zm_M) : Option (Int32 × zm_M) := zm_rn zt_Y lx_re_readRest zr_z cd_re_readRest n pc lo st M
set_option maxRecDepth 20000 in
theorem eq_re_readRest (x1 : Int32) (f2 : Nat) (M : zm_M) : fn_re_readRest [.inr (29, 0), .inl x1, .inr (23, f2)] M = rr_re_readRest 1 0 [some (.inr (29, 0)), some (.inl x1), some (.inr (23, f2))] [] M := rfl
set_option maxRecDepth 20000 in
theorem so_re_readRest : cd_re_readRest.Pairwise (fun a b => a.1 < b.1) := by decide +kernel
set_option maxRecDepth 20000 in
theorem er_re_readRest_0 (kt bk : Nat → zm_L → List zm_V → zm_M → Option (Int32 × zm_M)) (x1 : Int32) (f2 : Nat) (M : zm_M) : zm_gc zt_Y lx_re_readRest zr_z [55, 56, 85] kt bk (cd_re_readRest.drop 0) 0 [some (.inr (29, 0)), some (.inl x1), some (.inr (23, f2))] [] M = (if x1 = ((Int16.ofInt 247).toInt32) then (fn_re_readStack [.inr (29, 0), .inr (23, f2), .inl (Int32.ofInt 1)] M).bind fun q8 => if q8.1 = 0 ∨ q8.1 = 1 then some (q8.1, q8.2) else none else if x1 = ((Int16.ofInt 255).toInt32) then (fn_tl_empty [.inr (27, 2)] M).bind fun q3 => (fn_re_readTwo [.inr (29, 0)] q3).bind fun q4 => (fn_re_readList [.inr (29, 0), .inl q4.1] q4.2).bind fun q5 => if q5.1 = 0 then kt 55 [some (.inr (29, 0)), some (.inl x1), some (.inr (23, f2))] [] q5.2 else (fn_re_readTwo [.inr (29, 0)] q5.2).bind fun q6 => (fn_re_readStack [.inr (29, 0), .inr (23, f2), .inl q6.1] q6.2).bind fun q7 => if q7.1 = 0 then kt 55 [some (.inr (29, 0)), some (.inl x1), some (.inr (23, f2))] [] q7.2 else kt 56 [some (.inr (29, 0)), some (.inl x1), some (.inr (23, f2))] [.inl (Int32.ofInt 1)] q7.2 else if x1 < ((Int16.ofInt 251).toInt32) then (fn_re_shorten [.inr (29, 0), .inl (((Int16.ofInt 251).toInt32) - x1)] M).bind fun q2 => kt 85 [some (.inr (29, 0)), some (.inl x1), some (.inr (23, f2))] [.inl q2.1] q2.2 else (fn_re_readList [.inr (29, 0), .inl (x1 - ((Int16.ofInt 251).toInt32))] M).bind fun q1 => kt 85 [some (.inr (29, 0)), some (.inl x1), some (.inr (23, f2))] [.inl q1.1] q1.2) := rfl
set_option maxRecDepth 20000 in
theorem eq_re_readRest_0 (n : Nat) (x1 : Int32) (f2 : Nat) (M : zm_M) : rr_re_readRest (n + 1) 0 [some (.inr (29, 0)), some (.inl x1), some (.inr (23, f2))] [] M = (if x1 = (247 : Int32) then (fn_re_readStack [.inr (29, 0), .inr (23, f2), .inl (1 : Int32)] M).bind fun q8 => if q8.1 = 0 ∨ q8.1 = 1 then some (q8.1, q8.2) else none else if x1 = (255 : Int32) then (fn_tl_empty [.inr (27, 2)] M).bind fun q3 => (fn_re_readTwo [.inr (29, 0)] q3).bind fun q4 => (fn_re_readList [.inr (29, 0), .inl q4.1] q4.2).bind fun q5 => if q5.1 = 0 then rr_re_readRest (n + 1) 55 [some (.inr (29, 0)), some (.inl x1), some (.inr (23, f2))] [] q5.2 else (fn_re_readTwo [.inr (29, 0)] q5.2).bind fun q6 => (fn_re_readStack [.inr (29, 0), .inr (23, f2), .inl q6.1] q6.2).bind fun q7 => if q7.1 = 0 then rr_re_readRest (n + 1) 55 [some (.inr (29, 0)), some (.inl x1), some (.inr (23, f2))] [] q7.2 else rr_re_readRest (n + 1) 56 [some (.inr (29, 0)), some (.inl x1), some (.inr (23, f2))] [.inl (1 : Int32)] q7.2 else if x1 < (251 : Int32) then (fn_re_shorten [.inr (29, 0), .inl ((251 : Int32) - x1)] M).bind fun q2 => rr_re_readRest (n + 1) 85 [some (.inr (29, 0)), some (.inl x1), some (.inr (23, f2))] [.inl q2.1] q2.2 else (fn_re_readList [.inr (29, 0), .inl (x1 - (251 : Int32))] M).bind fun q1 => rr_re_readRest (n + 1) 85 [some (.inr (29, 0)), some (.inl x1), some (.inr (23, f2))] [.inl q1.1] q1.2) := by
  have h := (zm_gc_ok (cd_re_readRest.take 0) (cd_re_readRest.drop 0) (List.take_append_drop 0 cd_re_readRest).symm so_re_readRest (by decide +kernel)).symm.trans (er_re_readRest_0 (rr_re_readRest (n + 1)) (rr_re_readRest n) x1 f2 M)
  simp only [kz_S247, kz_I1, kz_S255, kz_S251] at h
  exact h
set_option maxRecDepth 20000 in
theorem er_re_readRest_55 (kt bk : Nat → zm_L → List zm_V → zm_M → Option (Int32 × zm_M)) (v1 : Int32) (f2 : Nat) (M : zm_M) : zm_gc zt_Y lx_re_readRest zr_z [55, 56, 85] kt bk (cd_re_readRest.drop 27) 55 [some (.inr (29, 0)), some (.inl v1), some (.inr (23, f2))] [] M = (kt 56 [some (.inr (29, 0)), some (.inl v1), some (.inr (23, f2))] [.inl (Int32.ofInt 0)] M) := rfl
set_option maxRecDepth 20000 in
theorem eq_re_readRest_55 (n : Nat) (v1 : Int32) (f2 : Nat) (M : zm_M) : rr_re_readRest (n + 1) 55 [some (.inr (29, 0)), some (.inl v1), some (.inr (23, f2))] [] M = (rr_re_readRest (n + 1) 56 [some (.inr (29, 0)), some (.inl v1), some (.inr (23, f2))] [.inl (0 : Int32)] M) := by
  have h := (zm_gc_ok (cd_re_readRest.take 27) (cd_re_readRest.drop 27) (List.take_append_drop 27 cd_re_readRest).symm so_re_readRest (by decide +kernel)).symm.trans (er_re_readRest_55 (rr_re_readRest (n + 1)) (rr_re_readRest n) v1 f2 M)
  simp only [kz_I0] at h
  exact h
set_option maxRecDepth 20000 in
theorem er_re_readRest_56 (kt bk : Nat → zm_L → List zm_V → zm_M → Option (Int32 × zm_M)) (v1 : Int32) (f2 : Nat) (s0 : Int32) (M : zm_M) : zm_gc zt_Y lx_re_readRest zr_z [55, 56, 85] kt bk (cd_re_readRest.drop 28) 56 [some (.inr (29, 0)), some (.inl v1), some (.inr (23, f2))] [.inl s0] M = (if s0 = 0 ∨ s0 = 1 then some (s0, M) else none) := rfl
set_option maxRecDepth 20000 in
theorem eq_re_readRest_56 (n : Nat) (v1 : Int32) (f2 : Nat) (s0 : Int32) (M : zm_M) : rr_re_readRest (n + 1) 56 [some (.inr (29, 0)), some (.inl v1), some (.inr (23, f2))] [.inl s0] M = (if s0 = 0 ∨ s0 = 1 then some (s0, M) else none) := (zm_gc_ok (cd_re_readRest.take 28) (cd_re_readRest.drop 28) (List.take_append_drop 28 cd_re_readRest).symm so_re_readRest (by decide +kernel)).symm.trans (er_re_readRest_56 (rr_re_readRest (n + 1)) (rr_re_readRest n) v1 f2 s0 M)
set_option maxRecDepth 20000 in
theorem er_re_readRest_85 (kt bk : Nat → zm_L → List zm_V → zm_M → Option (Int32 × zm_M)) (v1 : Int32) (f2 : Nat) (s0 : Int32) (M : zm_M) : zm_gc zt_Y lx_re_readRest zr_z [55, 56, 85] kt bk (cd_re_readRest.drop 43) 85 [some (.inr (29, 0)), some (.inl v1), some (.inr (23, f2))] [.inl s0] M = (if s0 = 0 ∨ s0 = 1 then some (s0, M) else none) := rfl
set_option maxRecDepth 20000 in
theorem eq_re_readRest_85 (n : Nat) (v1 : Int32) (f2 : Nat) (s0 : Int32) (M : zm_M) : rr_re_readRest (n + 1) 85 [some (.inr (29, 0)), some (.inl v1), some (.inr (23, f2))] [.inl s0] M = (if s0 = 0 ∨ s0 = 1 then some (s0, M) else none) := (zm_gc_ok (cd_re_readRest.take 43) (cd_re_readRest.drop 43) (List.take_append_drop 43 cd_re_readRest).symm so_re_readRest (by decide +kernel)).symm.trans (er_re_readRest_85 (rr_re_readRest (n + 1)) (rr_re_readRest n) v1 f2 s0 M)
def rr_tl_spread (n pc : Nat) (lo : zm_L) (st : List zm_V) (M : zm_M) : Option zm_M := zm_rn zt_Y lx_tl_spread zr_v cd_tl_spread n pc lo st M
set_option maxRecDepth 20000 in
theorem eq_tl_spread (f0 : Nat) (f1 : Nat) (M : zm_M) : fn_tl_spread [.inr (27, f0), .inr (23, f1)] M = rr_tl_spread 1073741824 0 [some (.inr (27, f0)), some (.inr (23, f1)), none, none] [] M := rfl
set_option maxRecDepth 20000 in
theorem so_tl_spread : cd_tl_spread.Pairwise (fun a b => a.1 < b.1) := by decide +kernel
set_option maxRecDepth 20000 in
theorem er_tl_spread_0 (kt bk : Nat → zm_L → List zm_V → zm_M → Option zm_M) (f0 : Nat) (f1 : Nat) (M : zm_M) : zm_gc zt_Y lx_tl_spread zr_v [12] kt bk (cd_tl_spread.drop 0) 0 [some (.inr (27, f0)), some (.inr (23, f1)), none, none] [] M = ((fn_ja_fill [.inr (24, f1), .inl (Int32.ofInt 0)] M).bind fun q1 => kt 12 [some (.inr (27, f0)), some (.inr (23, f1)), some (.inl (Int32.ofInt 0)), some (.inl (Int32.ofInt 0))] [] q1) := rfl
set_option maxRecDepth 20000 in
theorem eq_tl_spread_0 (n : Nat) (f0 : Nat) (f1 : Nat) (M : zm_M) : rr_tl_spread (n + 1) 0 [some (.inr (27, f0)), some (.inr (23, f1)), none, none] [] M = ((fn_ja_fill [.inr (24, f1), .inl (0 : Int32)] M).bind fun q1 => rr_tl_spread (n + 1) 12 [some (.inr (27, f0)), some (.inr (23, f1)), some (.inl (0 : Int32)), some (.inl (0 : Int32))] [] q1) := by
  have h := (zm_gc_ok (cd_tl_spread.take 0) (cd_tl_spread.drop 0) (List.take_append_drop 0 cd_tl_spread).symm so_tl_spread (by decide +kernel)).symm.trans (er_tl_spread_0 (rr_tl_spread (n + 1)) (rr_tl_spread n) f0 f1 M)
  simp only [kz_I0] at h
  exact h
set_option maxRecDepth 20000 in
theorem er_tl_spread_12 (kt bk : Nat → zm_L → List zm_V → zm_M → Option zm_M) (f0 : Nat) (f1 : Nat) (v2 : Int32) (v3 : Int32) (M : zm_M) : zm_gc zt_Y lx_tl_spread zr_v [12] kt bk (cd_tl_spread.drop 8) 12 [some (.inr (27, f0)), some (.inr (23, f1)), some (.inl v2), some (.inl v3)] [] M = (if v3 < (M 27 f0 1) then if v3 < 0 ∨ 10 ≤ v3.toNatClampNeg then none else if v2 < 0 ∨ 10 ≤ v2.toNatClampNeg then none else if v3 < 0 ∨ 10 ≤ v3.toNatClampNeg then none else (fn_mf_widthOf [.inl (M 28 f0 v3.toNatClampNeg)] (zm_up M 24 f1 v2.toNatClampNeg (M 28 f0 v3.toNatClampNeg))).bind fun q1 => bk 12 [some (.inr (27, f0)), some (.inr (23, f1)), some (.inl (v2 + q1.1)), some (.inl (v3 + (Int32.ofInt 1)))] [] q1.2 else some M) := rfl
set_option maxRecDepth 20000 in
theorem eq_tl_spread_12 (n : Nat) (f0 : Nat) (f1 : Nat) (v2 : Int32) (v3 : Int32) (M : zm_M) : rr_tl_spread (n + 1) 12 [some (.inr (27, f0)), some (.inr (23, f1)), some (.inl v2), some (.inl v3)] [] M = (if v3 < (M 27 f0 1) then if v3 < 0 ∨ 10 ≤ v3.toNatClampNeg then none else if v2 < 0 ∨ 10 ≤ v2.toNatClampNeg then none else if v3 < 0 ∨ 10 ≤ v3.toNatClampNeg then none else (fn_mf_widthOf [.inl (M 28 f0 v3.toNatClampNeg)] (zm_up M 24 f1 v2.toNatClampNeg (M 28 f0 v3.toNatClampNeg))).bind fun q1 => rr_tl_spread n 12 [some (.inr (27, f0)), some (.inr (23, f1)), some (.inl (v2 + q1.1)), some (.inl (v3 + (1 : Int32)))] [] q1.2 else some M) := by
  have h := (zm_gc_ok (cd_tl_spread.take 8) (cd_tl_spread.drop 8) (List.take_append_drop 8 cd_tl_spread).symm so_tl_spread (by decide +kernel)).symm.trans (er_tl_spread_12 (rr_tl_spread (n + 1)) (rr_tl_spread n) f0 f1 v2 v3 M)
  simp only [kz_I1] at h
  exact h
def rr_re_readRow (n pc : Nat) (lo : zm_L) (st : List zm_V) (M : zm_M) : Option (Int32 × zm_M) := zm_rn zt_Y lx_re_readRow zr_z cd_re_readRow n pc lo st M
set_option maxRecDepth 20000 in
theorem eq_re_readRow (f1 : Nat) (M : zm_M) : fn_re_readRow [.inr (29, 0), .inr (23, f1)] M = rr_re_readRow 1 0 [some (.inr (29, 0)), some (.inr (23, f1)), none, none] [] M := rfl
set_option maxRecDepth 20000 in
theorem so_re_readRow : cd_re_readRow.Pairwise (fun a b => a.1 < b.1) := by decide +kernel
set_option maxRecDepth 20000 in
theorem er_re_readRow_0 (kt bk : Nat → zm_L → List zm_V → zm_M → Option (Int32 × zm_M)) (f1 : Nat) (M : zm_M) : zm_gc zt_Y lx_re_readRow zr_z [102, 103, 104] kt bk (cd_re_readRow.drop 0) 0 [some (.inr (29, 0)), some (.inr (23, f1)), none, none] [] M = ((fn_re_readByte [.inr (29, 0)] M).bind fun q1 => if (q1.2 29 0 8) < 0 ∨ 50 ≤ (q1.2 29 0 8).toNatClampNeg then none else (fn_fr_emptyStack [.inr (23, f1)] (zm_up q1.2 32 0 ((q1.2 29 0 8).toNatClampNeg) q1.1)).bind fun q2 => if q1.1 < ((Int16.ofInt 128).toInt32) then if ((Int8.ofInt 64).toInt32) = 0 then none else if (q2 29 0 8) < 0 ∨ 50 ≤ (q2 29 0 8).toNatClampNeg then none else if ((Int8.ofInt 64).toInt32) = 0 then none else (fn_re_readStack [.inr (29, 0), .inr (23, f1), .inl (q1.1 / ((Int8.ofInt 64).toInt32))] (zm_up q2 31 0 ((q2 29 0 8).toNatClampNeg) (q1.1 - q1.1 / ((Int8.ofInt 64).toInt32) * ((Int8.ofInt 64).toInt32)))).bind fun q5 => kt 104 [some (.inr (29, 0)), some (.inr (23, f1)), some (.inl q1.1), some (.inl q5.1)] [] q5.2 else if q1.1 < ((Int16.ofInt 247).toInt32) then kt 104 [some (.inr (29, 0)), some (.inr (23, f1)), some (.inl q1.1), some (.inl (Int32.ofInt 0))] [] q2 else (fn_re_readTwo [.inr (29, 0)] q2).bind fun q3 => if (q2 29 0 8) < 0 ∨ 50 ≤ (q2 29 0 8).toNatClampNeg then none else if (q3.2 29 0 8) < 0 ∨ 50 ≤ (q3.2 29 0 8).toNatClampNeg then none else if ((zm_up q3.2 31 0 ((q2 29 0 8).toNatClampNeg) q3.1) 31 0 ((q3.2 29 0 8).toNatClampNeg)) < 0 then kt 102 [some (.inr (29, 0)), some (.inr (23, f1)), some (.inl q1.1), none] [] (zm_up q3.2 31 0 ((q2 29 0 8).toNatClampNeg) q3.1) else (fn_re_readRest [.inr (29, 0), .inl q1.1, .inr (23, f1)] (zm_up q3.2 31 0 ((q2 29 0 8).toNatClampNeg) q3.1)).bind fun q4 => if q4.1 = 0 then kt 102 [some (.inr (29, 0)), some (.inr (23, f1)), some (.inl q1.1), none] [] q4.2 else kt 103 [some (.inr (29, 0)), some (.inr (23, f1)), some (.inl q1.1), none] [.inl (Int32.ofInt 1)] q4.2) := rfl
set_option maxRecDepth 20000 in
theorem eq_re_readRow_0 (n : Nat) (f1 : Nat) (M : zm_M) : rr_re_readRow (n + 1) 0 [some (.inr (29, 0)), some (.inr (23, f1)), none, none] [] M = ((fn_re_readByte [.inr (29, 0)] M).bind fun q1 => if (q1.2 29 0 8) < 0 ∨ 50 ≤ (q1.2 29 0 8).toNatClampNeg then none else (fn_fr_emptyStack [.inr (23, f1)] (zm_up q1.2 32 0 ((q1.2 29 0 8).toNatClampNeg) q1.1)).bind fun q2 => if q1.1 < (128 : Int32) then if (64 : Int32) = 0 then none else if (q2 29 0 8) < 0 ∨ 50 ≤ (q2 29 0 8).toNatClampNeg then none else if (64 : Int32) = 0 then none else (fn_re_readStack [.inr (29, 0), .inr (23, f1), .inl (q1.1 / (64 : Int32))] (zm_up q2 31 0 ((q2 29 0 8).toNatClampNeg) (q1.1 - q1.1 / (64 : Int32) * (64 : Int32)))).bind fun q5 => rr_re_readRow (n + 1) 104 [some (.inr (29, 0)), some (.inr (23, f1)), some (.inl q1.1), some (.inl q5.1)] [] q5.2 else if q1.1 < (247 : Int32) then rr_re_readRow (n + 1) 104 [some (.inr (29, 0)), some (.inr (23, f1)), some (.inl q1.1), some (.inl (0 : Int32))] [] q2 else (fn_re_readTwo [.inr (29, 0)] q2).bind fun q3 => if (q2 29 0 8) < 0 ∨ 50 ≤ (q2 29 0 8).toNatClampNeg then none else if (q3.2 29 0 8) < 0 ∨ 50 ≤ (q3.2 29 0 8).toNatClampNeg then none else if ((zm_up q3.2 31 0 ((q2 29 0 8).toNatClampNeg) q3.1) 31 0 ((q3.2 29 0 8).toNatClampNeg)) < 0 then rr_re_readRow (n + 1) 102 [some (.inr (29, 0)), some (.inr (23, f1)), some (.inl q1.1), none] [] (zm_up q3.2 31 0 ((q2 29 0 8).toNatClampNeg) q3.1) else (fn_re_readRest [.inr (29, 0), .inl q1.1, .inr (23, f1)] (zm_up q3.2 31 0 ((q2 29 0 8).toNatClampNeg) q3.1)).bind fun q4 => if q4.1 = 0 then rr_re_readRow (n + 1) 102 [some (.inr (29, 0)), some (.inr (23, f1)), some (.inl q1.1), none] [] q4.2 else rr_re_readRow (n + 1) 103 [some (.inr (29, 0)), some (.inr (23, f1)), some (.inl q1.1), none] [.inl (1 : Int32)] q4.2) := by
  have h := (zm_gc_ok (cd_re_readRow.take 0) (cd_re_readRow.drop 0) (List.take_append_drop 0 cd_re_readRow).symm so_re_readRow (by decide +kernel)).symm.trans (er_re_readRow_0 (rr_re_readRow (n + 1)) (rr_re_readRow n) f1 M)
  simp only [kz_S128, kz_B64, kz_S247, kz_I0, kz_I1] at h
  exact h
set_option maxRecDepth 20000 in
theorem er_re_readRow_102 (kt bk : Nat → zm_L → List zm_V → zm_M → Option (Int32 × zm_M)) (f1 : Nat) (v2 : Int32) (o3 : Option zm_V) (M : zm_M) : zm_gc zt_Y lx_re_readRow zr_z [102, 103, 104] kt bk (cd_re_readRow.drop 56) 102 [some (.inr (29, 0)), some (.inr (23, f1)), some (.inl v2), o3] [] M = (kt 103 [some (.inr (29, 0)), some (.inr (23, f1)), some (.inl v2), o3] [.inl (Int32.ofInt 0)] M) := rfl
set_option maxRecDepth 20000 in
theorem eq_re_readRow_102 (n : Nat) (f1 : Nat) (v2 : Int32) (o3 : Option zm_V) (M : zm_M) : rr_re_readRow (n + 1) 102 [some (.inr (29, 0)), some (.inr (23, f1)), some (.inl v2), o3] [] M = (rr_re_readRow (n + 1) 103 [some (.inr (29, 0)), some (.inr (23, f1)), some (.inl v2), o3] [.inl (0 : Int32)] M) := by
  have h := (zm_gc_ok (cd_re_readRow.take 56) (cd_re_readRow.drop 56) (List.take_append_drop 56 cd_re_readRow).symm so_re_readRow (by decide +kernel)).symm.trans (er_re_readRow_102 (rr_re_readRow (n + 1)) (rr_re_readRow n) f1 v2 o3 M)
  simp only [kz_I0] at h
  exact h
set_option maxRecDepth 20000 in
theorem er_re_readRow_103 (kt bk : Nat → zm_L → List zm_V → zm_M → Option (Int32 × zm_M)) (f1 : Nat) (v2 : Int32) (o3 : Option zm_V) (s0 : Int32) (M : zm_M) : zm_gc zt_Y lx_re_readRow zr_z [102, 103, 104] kt bk (cd_re_readRow.drop 57) 103 [some (.inr (29, 0)), some (.inr (23, f1)), some (.inl v2), o3] [.inl s0] M = (kt 104 [some (.inr (29, 0)), some (.inr (23, f1)), some (.inl v2), some (.inl s0)] [] M) := rfl
set_option maxRecDepth 20000 in
theorem eq_re_readRow_103 (n : Nat) (f1 : Nat) (v2 : Int32) (o3 : Option zm_V) (s0 : Int32) (M : zm_M) : rr_re_readRow (n + 1) 103 [some (.inr (29, 0)), some (.inr (23, f1)), some (.inl v2), o3] [.inl s0] M = (rr_re_readRow (n + 1) 104 [some (.inr (29, 0)), some (.inr (23, f1)), some (.inl v2), some (.inl s0)] [] M) := (zm_gc_ok (cd_re_readRow.take 57) (cd_re_readRow.drop 57) (List.take_append_drop 57 cd_re_readRow).symm so_re_readRow (by decide +kernel)).symm.trans (er_re_readRow_103 (rr_re_readRow (n + 1)) (rr_re_readRow n) f1 v2 o3 s0 M)
set_option maxRecDepth 20000 in
theorem er_re_readRow_104 (kt bk : Nat → zm_L → List zm_V → zm_M → Option (Int32 × zm_M)) (f1 : Nat) (v2 : Int32) (v3 : Int32) (M : zm_M) : zm_gc zt_Y lx_re_readRow zr_z [102, 103, 104] kt bk (cd_re_readRow.drop 58) 104 [some (.inr (29, 0)), some (.inr (23, f1)), some (.inl v2), some (.inl v3)] [] M = ((fn_tl_spread [.inr (27, 2), .inr (23, f1)] M).bind fun q1 => (fn_fr_hasRawThisInLocal [.inr (23, f1)] q1).bind fun q2 => if q2.1 = 0 ∨ q2.1 = 1 then if v3 = 0 ∨ v3 = 1 then some (v3, zm_up q2.2 23 f1 4 q2.1) else none else none) := rfl
set_option maxRecDepth 20000 in
theorem eq_re_readRow_104 (n : Nat) (f1 : Nat) (v2 : Int32) (v3 : Int32) (M : zm_M) : rr_re_readRow (n + 1) 104 [some (.inr (29, 0)), some (.inr (23, f1)), some (.inl v2), some (.inl v3)] [] M = ((fn_tl_spread [.inr (27, 2), .inr (23, f1)] M).bind fun q1 => (fn_fr_hasRawThisInLocal [.inr (23, f1)] q1).bind fun q2 => if q2.1 = 0 ∨ q2.1 = 1 then if v3 = 0 ∨ v3 = 1 then some (v3, zm_up q2.2 23 f1 4 q2.1) else none else none) := (zm_gc_ok (cd_re_readRow.take 58) (cd_re_readRow.drop 58) (List.take_append_drop 58 cd_re_readRow).symm so_re_readRow (by decide +kernel)).symm.trans (er_re_readRow_104 (rr_re_readRow (n + 1)) (rr_re_readRow n) f1 v2 v3 M)
def rr_re_isSound (n pc : Nat) (lo : zm_L) (st : List zm_V) (M : zm_M) : Option (Int32 × zm_M) := zm_rn zt_Y lx_re_isSound zr_z cd_re_isSound n pc lo st M
set_option maxRecDepth 20000 in
theorem eq_re_isSound  (M : zm_M) : fn_re_isSound [.inr (29, 0)] M = rr_re_isSound 1073741824 0 [some (.inr (29, 0)), none, none] [] M := rfl
set_option maxRecDepth 20000 in
theorem so_re_isSound : cd_re_isSound.Pairwise (fun a b => a.1 < b.1) := by decide +kernel
set_option maxRecDepth 20000 in
theorem er_re_isSound_0 (kt bk : Nat → zm_L → List zm_V → zm_M → Option (Int32 × zm_M))  (M : zm_M) : zm_gc zt_Y lx_re_isSound zr_z [28] kt bk (cd_re_isSound.drop 0) 0 [some (.inr (29, 0)), none, none] [] M = (if (M 29 0 9) = 0 then (if (Int32.ofInt 1) = 0 ∨ (Int32.ofInt 1) = 1 then (if (Int32.ofInt 0) = 0 ∨ (Int32.ofInt 0) = 1 then (fn_re_begin [.inr (29, 0)] (zm_up (zm_up M 29 0 9 (Int32.ofInt 1)) 29 0 10 (Int32.ofInt 0))).bind fun q1 => kt 28 [some (.inr (29, 0)), some (.inl (Int32.ofInt (-1))), none] [] q1 else none) else none) else if (M 29 0 10) = 0 ∨ (M 29 0 10) = 1 then some (M 29 0 10, M) else none) := rfl
set_option maxRecDepth 20000 in
theorem eq_re_isSound_0 (n : Nat)  (M : zm_M) : rr_re_isSound (n + 1) 0 [some (.inr (29, 0)), none, none] [] M = (if (M 29 0 9) = 0 then (fn_re_begin [.inr (29, 0)] (zm_up (zm_up M 29 0 9 (1 : Int32)) 29 0 10 (0 : Int32))).bind fun q1 => rr_re_isSound (n + 1) 28 [some (.inr (29, 0)), some (.inl (-1 : Int32)), none] [] q1 else if (M 29 0 10) = 0 ∨ (M 29 0 10) = 1 then some (M 29 0 10, M) else none) := by
  have h := (zm_gc_ok (cd_re_isSound.take 0) (cd_re_isSound.drop 0) (List.take_append_drop 0 cd_re_isSound).symm so_re_isSound (by decide +kernel)).symm.trans (er_re_isSound_0 (rr_re_isSound (n + 1)) (rr_re_isSound n)  M)
  simp only [kz_I1, kz_I0, kz_Im1, true_or, or_true, ↓reduceIte] at h
  exact h
set_option maxRecDepth 20000 in
theorem er_re_isSound_28 (kt bk : Nat → zm_L → List zm_V → zm_M → Option (Int32 × zm_M)) (v1 : Int32) (o2 : Option zm_V) (M : zm_M) : zm_gc zt_Y lx_re_isSound zr_z [28] kt bk (cd_re_isSound.drop 16) 28 [some (.inr (29, 0)), some (.inl v1), o2] [] M = (if (M 29 0 8) < ((Int8.ofInt 50).toInt32) then if (M 29 0 11) < (M 15 0 1) then if (M 29 0 8) < 0 ∨ 50 ≤ (M 29 0 8).toNatClampNeg then none else (fn_re_readRow [.inr (29, 0), .inr (23, 50 + (M 29 0 8).toNatClampNeg)] M).bind fun q1 => if q1.1 = 0 then (if (Int32.ofInt 0) = 0 ∨ (Int32.ofInt 0) = 1 then some ((Int32.ofInt 0), q1.2) else none) else if (q1.2 29 0 8) < 0 ∨ 50 ≤ (q1.2 29 0 8).toNatClampNeg then none else (fn_pr_placeAt [.inr (5, 0), .inl (v1 + ((q1.2 31 0 ((q1.2 29 0 8).toNatClampNeg)) + (Int32.ofInt 1)))] q1.2).bind fun q2 => if q2.1 = ((Int8.ofInt (-2)).toInt32) then (if (Int32.ofInt 0) = 0 ∨ (Int32.ofInt 0) = 1 then some ((Int32.ofInt 0), q2.2) else none) else if (q2.2 29 0 8) < 0 ∨ 50 ≤ (q2.2 29 0 8).toNatClampNeg then none else if q2.1 < 0 ∨ 50 ≤ (q2.1).toNatClampNeg then none else bk 28 [some (.inr (29, 0)), some (.inl (v1 + ((q1.2 31 0 ((q1.2 29 0 8).toNatClampNeg)) + (Int32.ofInt 1)))), some (.inl q2.1)] [] (zm_up (zm_up (zm_up q2.2 31 0 ((q2.2 29 0 8).toNatClampNeg) (v1 + ((q1.2 31 0 ((q1.2 29 0 8).toNatClampNeg)) + (Int32.ofInt 1)))) 33 0 (q2.1).toNatClampNeg (q2.2 29 0 8)) 29 0 8 ((q2.2 29 0 8) + (Int32.ofInt 1))) else if (M 29 0 11) = (M 15 0 1) then (if (Int32.ofInt 1) = 0 ∨ (Int32.ofInt 1) = 1 then (if (Int32.ofInt 1) = 0 ∨ (Int32.ofInt 1) = 1 then some ((Int32.ofInt 1), zm_up M 29 0 10 (Int32.ofInt 1)) else none) else none) else (if (Int32.ofInt 0) = 0 ∨ (Int32.ofInt 0) = 1 then (if (Int32.ofInt 0) = 0 ∨ (Int32.ofInt 0) = 1 then some ((Int32.ofInt 0), zm_up M 29 0 10 (Int32.ofInt 0)) else none) else none) else if (M 29 0 11) = (M 15 0 1) then (if (Int32.ofInt 1) = 0 ∨ (Int32.ofInt 1) = 1 then (if (Int32.ofInt 1) = 0 ∨ (Int32.ofInt 1) = 1 then some ((Int32.ofInt 1), zm_up M 29 0 10 (Int32.ofInt 1)) else none) else none) else (if (Int32.ofInt 0) = 0 ∨ (Int32.ofInt 0) = 1 then (if (Int32.ofInt 0) = 0 ∨ (Int32.ofInt 0) = 1 then some ((Int32.ofInt 0), zm_up M 29 0 10 (Int32.ofInt 0)) else none) else none)) := rfl
set_option maxRecDepth 20000 in
theorem eq_re_isSound_28 (n : Nat) (v1 : Int32) (o2 : Option zm_V) (M : zm_M) : rr_re_isSound (n + 1) 28 [some (.inr (29, 0)), some (.inl v1), o2] [] M = (if (M 29 0 8) < (50 : Int32) then if (M 29 0 11) < (M 15 0 1) then if (M 29 0 8) < 0 ∨ 50 ≤ (M 29 0 8).toNatClampNeg then none else (fn_re_readRow [.inr (29, 0), .inr (23, 50 + (M 29 0 8).toNatClampNeg)] M).bind fun q1 => if q1.1 = 0 then (some ((0 : Int32), q1.2)) else if (q1.2 29 0 8) < 0 ∨ 50 ≤ (q1.2 29 0 8).toNatClampNeg then none else (fn_pr_placeAt [.inr (5, 0), .inl (v1 + ((q1.2 31 0 ((q1.2 29 0 8).toNatClampNeg)) + (1 : Int32)))] q1.2).bind fun q2 => if q2.1 = (-2 : Int32) then (some ((0 : Int32), q2.2)) else if (q2.2 29 0 8) < 0 ∨ 50 ≤ (q2.2 29 0 8).toNatClampNeg then none else if q2.1 < 0 ∨ 50 ≤ (q2.1).toNatClampNeg then none else rr_re_isSound n 28 [some (.inr (29, 0)), some (.inl (v1 + ((q1.2 31 0 ((q1.2 29 0 8).toNatClampNeg)) + (1 : Int32)))), some (.inl q2.1)] [] (zm_up (zm_up (zm_up q2.2 31 0 ((q2.2 29 0 8).toNatClampNeg) (v1 + ((q1.2 31 0 ((q1.2 29 0 8).toNatClampNeg)) + (1 : Int32)))) 33 0 (q2.1).toNatClampNeg (q2.2 29 0 8)) 29 0 8 ((q2.2 29 0 8) + (1 : Int32))) else if (M 29 0 11) = (M 15 0 1) then (some ((1 : Int32), zm_up M 29 0 10 (1 : Int32))) else (some ((0 : Int32), zm_up M 29 0 10 (0 : Int32))) else if (M 29 0 11) = (M 15 0 1) then (some ((1 : Int32), zm_up M 29 0 10 (1 : Int32))) else (some ((0 : Int32), zm_up M 29 0 10 (0 : Int32)))) := by
  have h := (zm_gc_ok (cd_re_isSound.take 16) (cd_re_isSound.drop 16) (List.take_append_drop 16 cd_re_isSound).symm so_re_isSound (by decide +kernel)).symm.trans (er_re_isSound_28 (rr_re_isSound (n + 1)) (rr_re_isSound n) v1 o2 M)
  simp only [kz_B50, kz_I0, kz_I1, kz_Bm2, true_or, or_true, ↓reduceIte] at h
  exact h
def rr_fa_fits (n pc : Nat) (lo : zm_L) (st : List zm_V) (M : zm_M) : Option (Int32 × zm_M) := zm_rn zt_Y lx_fa_fits zr_z cd_fa_fits n pc lo st M
set_option maxRecDepth 20000 in
theorem eq_fa_fits (f1 : Nat) (f2 : Nat) (M : zm_M) : fn_fa_fits [.inr (1, 0), .inr (23, f1), .inr (23, f2)] M = rr_fa_fits 1073741824 0 [some (.inr (1, 0)), some (.inr (23, f1)), some (.inr (23, f2)), none] [] M := rfl
set_option maxRecDepth 20000 in
theorem so_fa_fits : cd_fa_fits.Pairwise (fun a b => a.1 < b.1) := by decide +kernel
set_option maxRecDepth 20000 in
theorem er_fa_fits_0 (kt bk : Nat → zm_L → List zm_V → zm_M → Option (Int32 × zm_M)) (f1 : Nat) (f2 : Nat) (M : zm_M) : zm_gc zt_Y lx_fa_fits zr_z [26, 61] kt bk (cd_fa_fits.drop 0) 0 [some (.inr (1, 0)), some (.inr (23, f1)), some (.inr (23, f2)), none] [] M = (if (M 23 f1 4) = (M 23 f2 4) then if (M 23 f1 2) = (M 23 f2 2) then kt 26 [some (.inr (1, 0)), some (.inr (23, f1)), some (.inr (23, f2)), some (.inl (Int32.ofInt 0))] [] M else (if (Int32.ofInt 0) = 0 ∨ (Int32.ofInt 0) = 1 then some ((Int32.ofInt 0), M) else none) else (if (Int32.ofInt 0) = 0 ∨ (Int32.ofInt 0) = 1 then some ((Int32.ofInt 0), M) else none)) := rfl
set_option maxRecDepth 20000 in
theorem eq_fa_fits_0 (n : Nat) (f1 : Nat) (f2 : Nat) (M : zm_M) : rr_fa_fits (n + 1) 0 [some (.inr (1, 0)), some (.inr (23, f1)), some (.inr (23, f2)), none] [] M = (if (M 23 f1 4) = (M 23 f2 4) then if (M 23 f1 2) = (M 23 f2 2) then rr_fa_fits (n + 1) 26 [some (.inr (1, 0)), some (.inr (23, f1)), some (.inr (23, f2)), some (.inl (0 : Int32))] [] M else (some ((0 : Int32), M)) else (some ((0 : Int32), M))) := by
  have h := (zm_gc_ok (cd_fa_fits.take 0) (cd_fa_fits.drop 0) (List.take_append_drop 0 cd_fa_fits).symm so_fa_fits (by decide +kernel)).symm.trans (er_fa_fits_0 (rr_fa_fits (n + 1)) (rr_fa_fits n) f1 f2 M)
  simp only [kz_I0, true_or, or_true, ↓reduceIte] at h
  exact h
set_option maxRecDepth 20000 in
theorem er_fa_fits_26 (kt bk : Nat → zm_L → List zm_V → zm_M → Option (Int32 × zm_M)) (f1 : Nat) (f2 : Nat) (v3 : Int32) (M : zm_M) : zm_gc zt_Y lx_fa_fits zr_z [26, 61] kt bk (cd_fa_fits.drop 14) 26 [some (.inr (1, 0)), some (.inr (23, f1)), some (.inr (23, f2)), some (.inl v3)] [] M = (if v3 < ((Int8.ofInt 10).toInt32) then if v3 < 0 ∨ 10 ≤ v3.toNatClampNeg then none else if v3 < 0 ∨ 10 ≤ v3.toNatClampNeg then none else (fn_fa_is [.inr (1, 0), .inl (M 24 f1 v3.toNatClampNeg), .inl (M 24 f2 v3.toNatClampNeg)] M).bind fun q1 => if q1.1 = 0 then (if (Int32.ofInt 0) = 0 ∨ (Int32.ofInt 0) = 1 then some ((Int32.ofInt 0), q1.2) else none) else bk 26 [some (.inr (1, 0)), some (.inr (23, f1)), some (.inr (23, f2)), some (.inl (v3 + (Int32.ofInt 1)))] [] q1.2 else kt 61 [some (.inr (1, 0)), some (.inr (23, f1)), some (.inr (23, f2)), some (.inl (Int32.ofInt 0))] [] M) := rfl
set_option maxRecDepth 20000 in
theorem eq_fa_fits_26 (n : Nat) (f1 : Nat) (f2 : Nat) (v3 : Int32) (M : zm_M) : rr_fa_fits (n + 1) 26 [some (.inr (1, 0)), some (.inr (23, f1)), some (.inr (23, f2)), some (.inl v3)] [] M = (if v3 < (10 : Int32) then if v3 < 0 ∨ 10 ≤ v3.toNatClampNeg then none else if v3 < 0 ∨ 10 ≤ v3.toNatClampNeg then none else (fn_fa_is [.inr (1, 0), .inl (M 24 f1 v3.toNatClampNeg), .inl (M 24 f2 v3.toNatClampNeg)] M).bind fun q1 => if q1.1 = 0 then (some ((0 : Int32), q1.2)) else rr_fa_fits n 26 [some (.inr (1, 0)), some (.inr (23, f1)), some (.inr (23, f2)), some (.inl (v3 + (1 : Int32)))] [] q1.2 else rr_fa_fits (n + 1) 61 [some (.inr (1, 0)), some (.inr (23, f1)), some (.inr (23, f2)), some (.inl (0 : Int32))] [] M) := by
  have h := (zm_gc_ok (cd_fa_fits.take 14) (cd_fa_fits.drop 14) (List.take_append_drop 14 cd_fa_fits).symm so_fa_fits (by decide +kernel)).symm.trans (er_fa_fits_26 (rr_fa_fits (n + 1)) (rr_fa_fits n) f1 f2 v3 M)
  simp only [kz_B10, kz_I0, kz_I1, true_or, or_true, ↓reduceIte] at h
  exact h
set_option maxRecDepth 20000 in
theorem er_fa_fits_61 (kt bk : Nat → zm_L → List zm_V → zm_M → Option (Int32 × zm_M)) (f1 : Nat) (f2 : Nat) (v3 : Int32) (M : zm_M) : zm_gc zt_Y lx_fa_fits zr_z [26, 61] kt bk (cd_fa_fits.drop 34) 61 [some (.inr (1, 0)), some (.inr (23, f1)), some (.inr (23, f2)), some (.inl v3)] [] M = (if v3 < (M 23 f1 2) then if v3 < 0 ∨ 8 ≤ v3.toNatClampNeg then none else if v3 < 0 ∨ 8 ≤ v3.toNatClampNeg then none else (fn_fa_is [.inr (1, 0), .inl (M 25 f1 v3.toNatClampNeg), .inl (M 25 f2 v3.toNatClampNeg)] M).bind fun q1 => if q1.1 = 0 then (if (Int32.ofInt 0) = 0 ∨ (Int32.ofInt 0) = 1 then some ((Int32.ofInt 0), q1.2) else none) else bk 61 [some (.inr (1, 0)), some (.inr (23, f1)), some (.inr (23, f2)), some (.inl (v3 + (Int32.ofInt 1)))] [] q1.2 else (if (Int32.ofInt 1) = 0 ∨ (Int32.ofInt 1) = 1 then some ((Int32.ofInt 1), M) else none)) := rfl
set_option maxRecDepth 20000 in
theorem eq_fa_fits_61 (n : Nat) (f1 : Nat) (f2 : Nat) (v3 : Int32) (M : zm_M) : rr_fa_fits (n + 1) 61 [some (.inr (1, 0)), some (.inr (23, f1)), some (.inr (23, f2)), some (.inl v3)] [] M = (if v3 < (M 23 f1 2) then if v3 < 0 ∨ 8 ≤ v3.toNatClampNeg then none else if v3 < 0 ∨ 8 ≤ v3.toNatClampNeg then none else (fn_fa_is [.inr (1, 0), .inl (M 25 f1 v3.toNatClampNeg), .inl (M 25 f2 v3.toNatClampNeg)] M).bind fun q1 => if q1.1 = 0 then (some ((0 : Int32), q1.2)) else rr_fa_fits n 61 [some (.inr (1, 0)), some (.inr (23, f1)), some (.inr (23, f2)), some (.inl (v3 + (1 : Int32)))] [] q1.2 else (some ((1 : Int32), M))) := by
  have h := (zm_gc_ok (cd_fa_fits.take 34) (cd_fa_fits.drop 34) (List.take_append_drop 34 cd_fa_fits).symm so_fa_fits (by decide +kernel)).symm.trans (er_fa_fits_61 (rr_fa_fits (n + 1)) (rr_fa_fits n) f1 f2 v3 M)
  simp only [kz_I0, kz_I1, true_or, or_true, ↓reduceIte] at h
  exact h
def rr_ck_begins (n pc : Nat) (lo : zm_L) (st : List zm_V) (M : zm_M) : Option (Int32 × zm_M) := zm_rn zt_Y lx_ck_begins zr_z cd_ck_begins n pc lo st M
set_option maxRecDepth 20000 in
theorem er_ck_begins (x1 : Int32) (x2 : Int32) (M : zm_M) : fn_ck_begins [.inr (34, 0), .inl x1, .inl x2] M = (if x1 < 0 ∨ 50 ≤ x1.toNatClampNeg then none else if (M 33 0 x1.toNatClampNeg) = ((Int8.ofInt (-2)).toInt32) then if x2 = 0 ∨ x2 = 1 then some (x2, M) else none else if x2 = 0 then if (M 33 0 x1.toNatClampNeg) < 0 ∨ 50 ≤ (M 33 0 x1.toNatClampNeg).toNatClampNeg then none else (fn_fr_takeOver [.inr (23, 103), .inr (23, 50 + (M 33 0 x1.toNatClampNeg).toNatClampNeg)] M).bind fun q1 => (if (Int32.ofInt 1) = 0 ∨ (Int32.ofInt 1) = 1 then some ((Int32.ofInt 1), q1) else none) else if (M 33 0 x1.toNatClampNeg) < 0 ∨ 50 ≤ (M 33 0 x1.toNatClampNeg).toNatClampNeg then none else (fn_fa_fits [.inr (1, 0), .inr (23, 103), .inr (23, 50 + (M 33 0 x1.toNatClampNeg).toNatClampNeg)] M).bind fun q2 => if q2.1 = 0 then (if (Int32.ofInt 0) = 0 ∨ (Int32.ofInt 0) = 1 then some ((Int32.ofInt 0), q2.2) else none) else if (M 33 0 x1.toNatClampNeg) < 0 ∨ 50 ≤ (M 33 0 x1.toNatClampNeg).toNatClampNeg then none else (fn_fr_takeOver [.inr (23, 103), .inr (23, 50 + (M 33 0 x1.toNatClampNeg).toNatClampNeg)] q2.2).bind fun q3 => (if (Int32.ofInt 1) = 0 ∨ (Int32.ofInt 1) = 1 then some ((Int32.ofInt 1), q3) else none)) := rfl
set_option maxRecDepth 20000 in
theorem eq_ck_begins (x1 : Int32) (x2 : Int32) (M : zm_M) : fn_ck_begins [.inr (34, 0), .inl x1, .inl x2] M = (if x1 < 0 ∨ 50 ≤ x1.toNatClampNeg then none else if (M 33 0 x1.toNatClampNeg) = (-2 : Int32) then if x2 = 0 ∨ x2 = 1 then some (x2, M) else none else if x2 = 0 then if (M 33 0 x1.toNatClampNeg) < 0 ∨ 50 ≤ (M 33 0 x1.toNatClampNeg).toNatClampNeg then none else (fn_fr_takeOver [.inr (23, 103), .inr (23, 50 + (M 33 0 x1.toNatClampNeg).toNatClampNeg)] M).bind fun q1 => (some ((1 : Int32), q1)) else if (M 33 0 x1.toNatClampNeg) < 0 ∨ 50 ≤ (M 33 0 x1.toNatClampNeg).toNatClampNeg then none else (fn_fa_fits [.inr (1, 0), .inr (23, 103), .inr (23, 50 + (M 33 0 x1.toNatClampNeg).toNatClampNeg)] M).bind fun q2 => if q2.1 = 0 then (some ((0 : Int32), q2.2)) else if (M 33 0 x1.toNatClampNeg) < 0 ∨ 50 ≤ (M 33 0 x1.toNatClampNeg).toNatClampNeg then none else (fn_fr_takeOver [.inr (23, 103), .inr (23, 50 + (M 33 0 x1.toNatClampNeg).toNatClampNeg)] q2.2).bind fun q3 => (some ((1 : Int32), q3))) := by
  rw [er_ck_begins]
  simp only [kz_Bm2, kz_I1, kz_I0, true_or, or_true, ↓reduceIte]
def rr_ck_fitsAt (n pc : Nat) (lo : zm_L) (st : List zm_V) (M : zm_M) : Option (Int32 × zm_M) := zm_rn zt_Y lx_ck_fitsAt zr_z cd_ck_fitsAt n pc lo st M
set_option maxRecDepth 20000 in
theorem er_ck_fitsAt (x1 : Int32) (f2 : Nat) (M : zm_M) : fn_ck_fitsAt [.inr (34, 0), .inl x1, .inr (23, f2)] M = (if x1 < 0 ∨ 50 ≤ x1.toNatClampNeg then none else if (M 33 0 x1.toNatClampNeg) = ((Int8.ofInt (-2)).toInt32) then (if (Int32.ofInt 0) = 0 ∨ (Int32.ofInt 0) = 1 then some ((Int32.ofInt 0), M) else none) else if (M 33 0 x1.toNatClampNeg) < 0 ∨ 50 ≤ (M 33 0 x1.toNatClampNeg).toNatClampNeg then none else (fn_fa_fits [.inr (1, 0), .inr (23, f2), .inr (23, 50 + (M 33 0 x1.toNatClampNeg).toNatClampNeg)] M).bind fun q1 => if q1.1 = 0 then (if (Int32.ofInt 0) = 0 ∨ (Int32.ofInt 0) = 1 then some ((Int32.ofInt 0), q1.2) else none) else (if (Int32.ofInt 1) = 0 ∨ (Int32.ofInt 1) = 1 then some ((Int32.ofInt 1), q1.2) else none)) := rfl
set_option maxRecDepth 20000 in
theorem eq_ck_fitsAt (x1 : Int32) (f2 : Nat) (M : zm_M) : fn_ck_fitsAt [.inr (34, 0), .inl x1, .inr (23, f2)] M = (if x1 < 0 ∨ 50 ≤ x1.toNatClampNeg then none else if (M 33 0 x1.toNatClampNeg) = (-2 : Int32) then (some ((0 : Int32), M)) else if (M 33 0 x1.toNatClampNeg) < 0 ∨ 50 ≤ (M 33 0 x1.toNatClampNeg).toNatClampNeg then none else (fn_fa_fits [.inr (1, 0), .inr (23, f2), .inr (23, 50 + (M 33 0 x1.toNatClampNeg).toNatClampNeg)] M).bind fun q1 => if q1.1 = 0 then (some ((0 : Int32), q1.2)) else (some ((1 : Int32), q1.2))) := by
  rw [er_ck_fitsAt]
  simp only [kz_Bm2, kz_I0, kz_I1, true_or, or_true, ↓reduceIte]
def rr_ck_handlersFit (n pc : Nat) (lo : zm_L) (st : List zm_V) (M : zm_M) : Option (Int32 × zm_M) := zm_rn zt_Y lx_ck_handlersFit zr_z cd_ck_handlersFit n pc lo st M
set_option maxRecDepth 20000 in
theorem eq_ck_handlersFit (x1 : Int32) (M : zm_M) : fn_ck_handlersFit [.inr (34, 0), .inl x1] M = rr_ck_handlersFit 1073741824 0 [some (.inr (34, 0)), some (.inl x1), none] [] M := rfl
set_option maxRecDepth 20000 in
theorem so_ck_handlersFit : cd_ck_handlersFit.Pairwise (fun a b => a.1 < b.1) := by decide +kernel
set_option maxRecDepth 20000 in
theorem er_ck_handlersFit_0 (kt bk : Nat → zm_L → List zm_V → zm_M → Option (Int32 × zm_M)) (x1 : Int32) (M : zm_M) : zm_gc zt_Y lx_ck_handlersFit zr_z [2] kt bk (cd_ck_handlersFit.drop 0) 0 [some (.inr (34, 0)), some (.inl x1), none] [] M = (kt 2 [some (.inr (34, 0)), some (.inl x1), some (.inl (Int32.ofInt 0))] [] M) := rfl
set_option maxRecDepth 20000 in
theorem eq_ck_handlersFit_0 (n : Nat) (x1 : Int32) (M : zm_M) : rr_ck_handlersFit (n + 1) 0 [some (.inr (34, 0)), some (.inl x1), none] [] M = (rr_ck_handlersFit (n + 1) 2 [some (.inr (34, 0)), some (.inl x1), some (.inl (0 : Int32))] [] M) := by
  have h := (zm_gc_ok (cd_ck_handlersFit.take 0) (cd_ck_handlersFit.drop 0) (List.take_append_drop 0 cd_ck_handlersFit).symm so_ck_handlersFit (by decide +kernel)).symm.trans (er_ck_handlersFit_0 (rr_ck_handlersFit (n + 1)) (rr_ck_handlersFit n) x1 M)
  simp only [kz_I0] at h
  exact h
set_option maxRecDepth 20000 in
theorem er_ck_handlersFit_2 (kt bk : Nat → zm_L → List zm_V → zm_M → Option (Int32 × zm_M)) (v1 : Int32) (v2 : Int32) (M : zm_M) : zm_gc zt_Y lx_ck_handlersFit zr_z [2] kt bk (cd_ck_handlersFit.drop 2) 2 [some (.inr (34, 0)), some (.inl v1), some (.inl v2)] [] M = (if v2 < (M 5 0 14) then (fn_pr_isGuarded [.inr (5, 0), .inl v1, .inl v2] M).bind fun q1 => if q1.1 = 0 then bk 2 [some (.inr (34, 0)), some (.inl v1), some (.inl (v2 + (Int32.ofInt 1)))] [] q1.2 else if v2 < 0 ∨ 4 ≤ v2.toNatClampNeg then none else (fn_fr_takeOverForHandler [.inr (23, 104), .inr (23, 103), .inl (q1.2 14 0 v2.toNatClampNeg)] q1.2).bind fun q2 => if v2 < 0 ∨ 4 ≤ v2.toNatClampNeg then none else (fn_ck_fitsAt [.inr (34, 0), .inl (q2 13 0 v2.toNatClampNeg), .inr (23, 104)] q2).bind fun q3 => if q3.1 = 0 then (if (Int32.ofInt 0) = 0 ∨ (Int32.ofInt 0) = 1 then some ((Int32.ofInt 0), q3.2) else none) else bk 2 [some (.inr (34, 0)), some (.inl v1), some (.inl (v2 + (Int32.ofInt 1)))] [] q3.2 else (if (Int32.ofInt 1) = 0 ∨ (Int32.ofInt 1) = 1 then some ((Int32.ofInt 1), M) else none)) := rfl
set_option maxRecDepth 20000 in
theorem eq_ck_handlersFit_2 (n : Nat) (v1 : Int32) (v2 : Int32) (M : zm_M) : rr_ck_handlersFit (n + 1) 2 [some (.inr (34, 0)), some (.inl v1), some (.inl v2)] [] M = (if v2 < (M 5 0 14) then (fn_pr_isGuarded [.inr (5, 0), .inl v1, .inl v2] M).bind fun q1 => if q1.1 = 0 then rr_ck_handlersFit n 2 [some (.inr (34, 0)), some (.inl v1), some (.inl (v2 + (1 : Int32)))] [] q1.2 else if v2 < 0 ∨ 4 ≤ v2.toNatClampNeg then none else (fn_fr_takeOverForHandler [.inr (23, 104), .inr (23, 103), .inl (q1.2 14 0 v2.toNatClampNeg)] q1.2).bind fun q2 => if v2 < 0 ∨ 4 ≤ v2.toNatClampNeg then none else (fn_ck_fitsAt [.inr (34, 0), .inl (q2 13 0 v2.toNatClampNeg), .inr (23, 104)] q2).bind fun q3 => if q3.1 = 0 then (some ((0 : Int32), q3.2)) else rr_ck_handlersFit n 2 [some (.inr (34, 0)), some (.inl v1), some (.inl (v2 + (1 : Int32)))] [] q3.2 else (some ((1 : Int32), M))) := by
  have h := (zm_gc_ok (cd_ck_handlersFit.take 2) (cd_ck_handlersFit.drop 2) (List.take_append_drop 2 cd_ck_handlersFit).symm so_ck_handlersFit (by decide +kernel)).symm.trans (er_ck_handlersFit_2 (rr_ck_handlersFit (n + 1)) (rr_ck_handlersFit n) v1 v2 M)
  simp only [kz_I1, kz_I0, true_or, or_true, ↓reduceIte] at h
  exact h
def rr_ck_jumpFits (n pc : Nat) (lo : zm_L) (st : List zm_V) (M : zm_M) : Option (Int32 × zm_M) := zm_rn zt_Y lx_ck_jumpFits zr_z cd_ck_jumpFits n pc lo st M
set_option maxRecDepth 20000 in
theorem er_ck_jumpFits (x1 : Int32) (M : zm_M) : fn_ck_jumpFits [.inr (34, 0), .inl x1] M = (if x1 < 0 ∨ 50 ≤ x1.toNatClampNeg then none else (fn_mf_isJump [.inl (M 7 0 x1.toNatClampNeg)] M).bind fun q1 => if q1.1 = 0 then (if (Int32.ofInt 1) = 0 ∨ (Int32.ofInt 1) = 1 then some ((Int32.ofInt 1), q1.2) else none) else if x1 < 0 ∨ 50 ≤ x1.toNatClampNeg then none else (fn_ck_fitsAt [.inr (34, 0), .inl (q1.2 9 0 x1.toNatClampNeg), .inr (23, 103)] q1.2).bind fun q2 => if q2.1 = 0 then (if (Int32.ofInt 0) = 0 ∨ (Int32.ofInt 0) = 1 then some ((Int32.ofInt 0), q2.2) else none) else (if (Int32.ofInt 1) = 0 ∨ (Int32.ofInt 1) = 1 then some ((Int32.ofInt 1), q2.2) else none)) := rfl
set_option maxRecDepth 20000 in
theorem eq_ck_jumpFits (x1 : Int32) (M : zm_M) : fn_ck_jumpFits [.inr (34, 0), .inl x1] M = (if x1 < 0 ∨ 50 ≤ x1.toNatClampNeg then none else (fn_mf_isJump [.inl (M 7 0 x1.toNatClampNeg)] M).bind fun q1 => if q1.1 = 0 then (some ((1 : Int32), q1.2)) else if x1 < 0 ∨ 50 ≤ x1.toNatClampNeg then none else (fn_ck_fitsAt [.inr (34, 0), .inl (q1.2 9 0 x1.toNatClampNeg), .inr (23, 103)] q1.2).bind fun q2 => if q2.1 = 0 then (some ((0 : Int32), q2.2)) else (some ((1 : Int32), q2.2))) := by
  rw [er_ck_jumpFits]
  simp only [kz_I1, kz_I0, true_or, or_true, ↓reduceIte]
def rr_ck_firstBad (n pc : Nat) (lo : zm_L) (st : List zm_V) (M : zm_M) : Option (Int32 × zm_M) := zm_rn zt_Y lx_ck_firstBad zr_i cd_ck_firstBad n pc lo st M
set_option maxRecDepth 20000 in
theorem eq_ck_firstBad  (M : zm_M) : fn_ck_firstBad [.inr (34, 0)] M = rr_ck_firstBad 1073741824 0 [some (.inr (34, 0)), none, none] [] M := rfl
set_option maxRecDepth 20000 in
theorem so_ck_firstBad : cd_ck_firstBad.Pairwise (fun a b => a.1 < b.1) := by decide +kernel
set_option maxRecDepth 20000 in
theorem er_ck_firstBad_0 (kt bk : Nat → zm_L → List zm_V → zm_M → Option (Int32 × zm_M))  (M : zm_M) : zm_gc zt_Y lx_ck_firstBad zr_i [15] kt bk (cd_ck_firstBad.drop 0) 0 [some (.inr (34, 0)), none, none] [] M = ((fn_pr_enter [.inr (5, 0), .inr (23, 103)] M).bind fun q1 => kt 15 [some (.inr (34, 0)), some (.inl (Int32.ofInt 1)), some (.inl (Int32.ofInt 0))] [] q1) := rfl
set_option maxRecDepth 20000 in
theorem eq_ck_firstBad_0 (n : Nat)  (M : zm_M) : rr_ck_firstBad (n + 1) 0 [some (.inr (34, 0)), none, none] [] M = ((fn_pr_enter [.inr (5, 0), .inr (23, 103)] M).bind fun q1 => rr_ck_firstBad (n + 1) 15 [some (.inr (34, 0)), some (.inl (1 : Int32)), some (.inl (0 : Int32))] [] q1) := by
  have h := (zm_gc_ok (cd_ck_firstBad.take 0) (cd_ck_firstBad.drop 0) (List.take_append_drop 0 cd_ck_firstBad).symm so_ck_firstBad (by decide +kernel)).symm.trans (er_ck_firstBad_0 (rr_ck_firstBad (n + 1)) (rr_ck_firstBad n)  M)
  simp only [kz_I1, kz_I0] at h
  exact h
set_option maxRecDepth 20000 in
theorem er_ck_firstBad_15 (kt bk : Nat → zm_L → List zm_V → zm_M → Option (Int32 × zm_M)) (v1 : Int32) (v2 : Int32) (M : zm_M) : zm_gc zt_Y lx_ck_firstBad zr_i [15] kt bk (cd_ck_firstBad.drop 9) 15 [some (.inr (34, 0)), some (.inl v1), some (.inl v2)] [] M = (if v2 < (M 5 0 9) then (fn_ck_begins [.inr (34, 0), .inl v2, .inl v1] M).bind fun q1 => if q1.1 = 0 then some (v2, q1.2) else (fn_ck_handlersFit [.inr (34, 0), .inl v2] q1.2).bind fun q2 => if q2.1 = 0 then some (v2, q2.2) else (fn_ma_step [.inr (17, 0), .inl v2, .inr (23, 103)] q2.2).bind fun q3 => if q3.1 = 0 then some (v2, q3.2) else (fn_ck_jumpFits [.inr (34, 0), .inl v2] q3.2).bind fun q4 => if q4.1 = 0 then some (v2, q4.2) else if v2 < 0 ∨ 50 ≤ v2.toNatClampNeg then none else (fn_mf_isEnd [.inl (q4.2 7 0 v2.toNatClampNeg)] q4.2).bind fun q5 => if q5.1 = 0 then bk 15 [some (.inr (34, 0)), some (.inl (Int32.ofInt 1)), some (.inl (v2 + (Int32.ofInt 1)))] [] q5.2 else bk 15 [some (.inr (34, 0)), some (.inl (Int32.ofInt 0)), some (.inl (v2 + (Int32.ofInt 1)))] [] q5.2 else if v1 = 0 then some (((Int8.ofInt (-2)).toInt32), M) else some (M 5 0 9, M)) := rfl
set_option maxRecDepth 20000 in
theorem eq_ck_firstBad_15 (n : Nat) (v1 : Int32) (v2 : Int32) (M : zm_M) : rr_ck_firstBad (n + 1) 15 [some (.inr (34, 0)), some (.inl v1), some (.inl v2)] [] M = (if v2 < (M 5 0 9) then (fn_ck_begins [.inr (34, 0), .inl v2, .inl v1] M).bind fun q1 => if q1.1 = 0 then some (v2, q1.2) else (fn_ck_handlersFit [.inr (34, 0), .inl v2] q1.2).bind fun q2 => if q2.1 = 0 then some (v2, q2.2) else (fn_ma_step [.inr (17, 0), .inl v2, .inr (23, 103)] q2.2).bind fun q3 => if q3.1 = 0 then some (v2, q3.2) else (fn_ck_jumpFits [.inr (34, 0), .inl v2] q3.2).bind fun q4 => if q4.1 = 0 then some (v2, q4.2) else if v2 < 0 ∨ 50 ≤ v2.toNatClampNeg then none else (fn_mf_isEnd [.inl (q4.2 7 0 v2.toNatClampNeg)] q4.2).bind fun q5 => if q5.1 = 0 then rr_ck_firstBad n 15 [some (.inr (34, 0)), some (.inl (1 : Int32)), some (.inl (v2 + (1 : Int32)))] [] q5.2 else rr_ck_firstBad n 15 [some (.inr (34, 0)), some (.inl (0 : Int32)), some (.inl (v2 + (1 : Int32)))] [] q5.2 else if v1 = 0 then some ((-2 : Int32), M) else some (M 5 0 9, M)) := by
  have h := (zm_gc_ok (cd_ck_firstBad.take 9) (cd_ck_firstBad.drop 9) (List.take_append_drop 9 cd_ck_firstBad).symm so_ck_firstBad (by decide +kernel)).symm.trans (er_ck_firstBad_15 (rr_ck_firstBad (n + 1)) (rr_ck_firstBad n) v1 v2 M)
  simp only [kz_I1, kz_I0, kz_Bm2] at h
  exact h
def rr_mf_check (n pc : Nat) (lo : zm_L) (st : List zm_V) (M : zm_M) : Option (Int32 × zm_M) := zm_rn zt_Y lx_mf_check zr_i cd_mf_check n pc lo st M
set_option maxRecDepth 20000 in
theorem er_mf_check  (M : zm_M) : fn_mf_check [.inr (0, 0)] M = (if (M 5 0 9) = 0 then some (((Int8.ofInt (-4)).toInt32), M) else (fn_re_isSound [.inr (29, 0)] M).bind fun q1 => if q1.1 = 0 then some (((Int8.ofInt (-5)).toInt32), q1.2) else (fn_ck_firstBad [.inr (34, 0)] q1.2).bind fun q2 => some (q2.1, q2.2)) := rfl
set_option maxRecDepth 20000 in
theorem eq_mf_check  (M : zm_M) : fn_mf_check [.inr (0, 0)] M = (if (M 5 0 9) = 0 then some ((-4 : Int32), M) else (fn_re_isSound [.inr (29, 0)] M).bind fun q1 => if q1.1 = 0 then some ((-5 : Int32), q1.2) else (fn_ck_firstBad [.inr (34, 0)] q1.2).bind fun q2 => some (q2.1, q2.2)) := by
  rw [er_mf_check]
  simp only [kz_Bm4, kz_Bm5]
def rr_mf_map (n pc : Nat) (lo : zm_L) (st : List zm_V) (M : zm_M) : Option (Int32 × zm_M) := zm_rn zt_Y lx_mf_map zr_i cd_mf_map n pc lo st M
set_option maxRecDepth 20000 in
theorem er_mf_map (x1 : Int32) (M : zm_M) : fn_mf_map [.inr (0, 0), .inl x1] M = (if x1 = (Int32.ofInt (-1)) then some (M 15 0 1, M) else if x1 < 0 then some (((Int8.ofInt (-2)).toInt32), M) else if x1 < (M 15 0 1) then if x1 < 0 ∨ 400 ≤ x1.toNatClampNeg then none else some (M 16 0 x1.toNatClampNeg, M) else some (((Int8.ofInt (-2)).toInt32), M)) := rfl
set_option maxRecDepth 20000 in
theorem eq_mf_map (x1 : Int32) (M : zm_M) : fn_mf_map [.inr (0, 0), .inl x1] M = (if x1 = (-1 : Int32) then some (M 15 0 1, M) else if x1 < 0 then some ((-2 : Int32), M) else if x1 < (M 15 0 1) then if x1 < 0 ∨ 400 ≤ x1.toNatClampNeg then none else some (M 16 0 x1.toNatClampNeg, M) else some ((-2 : Int32), M)) := by
  rw [er_mf_map]
  simp only [kz_Im1, kz_Bm2]
def rr_mf_patch (n pc : Nat) (lo : zm_L) (st : List zm_V) (M : zm_M) : Option (Int32 × zm_M) := zm_rn zt_Y lx_mf_patch zr_z cd_mf_patch n pc lo st M
set_option maxRecDepth 20000 in
theorem er_mf_patch (x1 : Int32) (x2 : Int32) (M : zm_M) : fn_mf_patch [.inr (0, 0), .inl x1, .inl x2] M = (if x1 < 0 then (if (Int32.ofInt 0) = 0 ∨ (Int32.ofInt 0) = 1 then some ((Int32.ofInt 0), M) else none) else if (M 15 0 1) < x1 then (if (Int32.ofInt 0) = 0 ∨ (Int32.ofInt 0) = 1 then some ((Int32.ofInt 0), M) else none) else if x1 < ((Int16.ofInt 400).toInt32) then if x2 < 0 then (if (Int32.ofInt 0) = 0 ∨ (Int32.ofInt 0) = 1 then some ((Int32.ofInt 0), M) else none) else if ((Int16.ofInt 255).toInt32) < x2 then (if (Int32.ofInt 0) = 0 ∨ (Int32.ofInt 0) = 1 then some ((Int32.ofInt 0), M) else none) else if x1 < 0 ∨ 400 ≤ x1.toNatClampNeg then none else (zm_mx [.inl (M 15 0 1), .inl (x1 + (Int32.ofInt 1))] (zm_up M 16 0 x1.toNatClampNeg x2)).bind fun q1 => (if (Int32.ofInt 0) = 0 ∨ (Int32.ofInt 0) = 1 then (if (Int32.ofInt 1) = 0 ∨ (Int32.ofInt 1) = 1 then some ((Int32.ofInt 1), zm_up (zm_up q1.2 15 0 1 q1.1) 29 0 9 (Int32.ofInt 0)) else none) else none) else (if (Int32.ofInt 0) = 0 ∨ (Int32.ofInt 0) = 1 then some ((Int32.ofInt 0), M) else none)) := rfl
set_option maxRecDepth 20000 in
theorem eq_mf_patch (x1 : Int32) (x2 : Int32) (M : zm_M) : fn_mf_patch [.inr (0, 0), .inl x1, .inl x2] M = (if x1 < 0 then (some ((0 : Int32), M)) else if (M 15 0 1) < x1 then (some ((0 : Int32), M)) else if x1 < (400 : Int32) then if x2 < 0 then (some ((0 : Int32), M)) else if (255 : Int32) < x2 then (some ((0 : Int32), M)) else if x1 < 0 ∨ 400 ≤ x1.toNatClampNeg then none else (zm_mx [.inl (M 15 0 1), .inl (x1 + (1 : Int32))] (zm_up M 16 0 x1.toNatClampNeg x2)).bind fun q1 => (some ((1 : Int32), zm_up (zm_up q1.2 15 0 1 q1.1) 29 0 9 (0 : Int32))) else (some ((0 : Int32), M))) := by
  rw [er_mf_patch]
  simp only [kz_I0, kz_S400, kz_S255, kz_I1, true_or, or_true, ↓reduceIte]
def rr_mf_cut (n pc : Nat) (lo : zm_L) (st : List zm_V) (M : zm_M) : Option (Int32 × zm_M) := zm_rn zt_Y lx_mf_cut zr_i cd_mf_cut n pc lo st M
set_option maxRecDepth 20000 in
theorem er_mf_cut (x1 : Int32) (M : zm_M) : fn_mf_cut [.inr (0, 0), .inl x1] M = (if x1 < 0 then some ((Int32.ofInt (-1)), M) else if (M 15 0 1) < x1 then some ((Int32.ofInt (-1)), M) else (if (Int32.ofInt 0) = 0 ∨ (Int32.ofInt 0) = 1 then some ((M 15 0 1) - x1, zm_up (zm_up M 15 0 1 x1) 29 0 9 (Int32.ofInt 0)) else none)) := rfl
set_option maxRecDepth 20000 in
theorem eq_mf_cut (x1 : Int32) (M : zm_M) : fn_mf_cut [.inr (0, 0), .inl x1] M = (if x1 < 0 then some ((-1 : Int32), M) else if (M 15 0 1) < x1 then some ((-1 : Int32), M) else (some ((M 15 0 1) - x1, zm_up (zm_up M 15 0 1 x1) 29 0 9 (0 : Int32)))) := by
  rw [er_mf_cut]
  simp only [kz_Im1, kz_I0, true_or, or_true, ↓reduceIte]
def rr_mf_row (n pc : Nat) (lo : zm_L) (st : List zm_V) (M : zm_M) : Option (Int32 × zm_M) := zm_rn zt_Y lx_mf_row zr_i cd_mf_row n pc lo st M
set_option maxRecDepth 20000 in
theorem er_mf_row (x1 : Int32) (x2 : Int32) (M : zm_M) : fn_mf_row [.inr (0, 0), .inl x1, .inl x2] M = ((fn_mf_isQuestion [.inl x2, .inl ((Int8.ofInt 22).toInt32)] M).bind fun q1 => if q1.1 = 0 then some ((Int32.ofInt (-1)), q1.2) else if x1 < 0 then some (((Int8.ofInt (-2)).toInt32), q1.2) else (fn_re_isSound [.inr (29, 0)] q1.2).bind fun q2 => if q2.1 = 0 then some (((Int8.ofInt (-2)).toInt32), q2.2) else if x1 < (q2.2 29 0 8) then if x2 = ((Int8.ofInt 21).toInt32) then if x1 < 0 ∨ 50 ≤ x1.toNatClampNeg then none else some (q2.2 31 0 x1.toNatClampNeg, q2.2) else if x2 = ((Int8.ofInt 22).toInt32) then if x1 < 0 ∨ 50 ≤ x1.toNatClampNeg then none else some (q2.2 32 0 x1.toNatClampNeg, q2.2) else if x1 < 0 ∨ 50 ≤ x1.toNatClampNeg then none else (fn_fr_tell [.inr (23, 50 + x1.toNatClampNeg), .inl x2] q2.2).bind fun q3 => some (q3.1, q3.2) else some (((Int8.ofInt (-2)).toInt32), q2.2)) := rfl
set_option maxRecDepth 20000 in
theorem eq_mf_row (x1 : Int32) (x2 : Int32) (M : zm_M) : fn_mf_row [.inr (0, 0), .inl x1, .inl x2] M = ((fn_mf_isQuestion [.inl x2, .inl (22 : Int32)] M).bind fun q1 => if q1.1 = 0 then some ((-1 : Int32), q1.2) else if x1 < 0 then some ((-2 : Int32), q1.2) else (fn_re_isSound [.inr (29, 0)] q1.2).bind fun q2 => if q2.1 = 0 then some ((-2 : Int32), q2.2) else if x1 < (q2.2 29 0 8) then if x2 = (21 : Int32) then if x1 < 0 ∨ 50 ≤ x1.toNatClampNeg then none else some (q2.2 31 0 x1.toNatClampNeg, q2.2) else if x2 = (22 : Int32) then if x1 < 0 ∨ 50 ≤ x1.toNatClampNeg then none else some (q2.2 32 0 x1.toNatClampNeg, q2.2) else if x1 < 0 ∨ 50 ≤ x1.toNatClampNeg then none else (fn_fr_tell [.inr (23, 50 + x1.toNatClampNeg), .inl x2] q2.2).bind fun q3 => some (q3.1, q3.2) else some ((-2 : Int32), q2.2)) := by
  rw [er_mf_row]
  simp only [kz_B22, kz_Im1, kz_Bm2, kz_B21]
def rr_mf_code (n pc : Nat) (lo : zm_L) (st : List zm_V) (M : zm_M) : Option (Int32 × zm_M) := zm_rn zt_Y lx_mf_code zr_i cd_mf_code n pc lo st M
set_option maxRecDepth 20000 in
theorem er_mf_code (x1 : Int32) (x2 : Int32) (M : zm_M) : fn_mf_code [.inr (0, 0), .inl x1, .inl x2] M = (if x2 < 0 then some ((Int32.ofInt (-1)), M) else if (Int32.ofInt 3) < x2 then some ((Int32.ofInt (-1)), M) else if x1 < 0 then some (((Int8.ofInt (-2)).toInt32), M) else if x1 < (M 5 0 9) then if x2 = (Int32.ofInt 0) then if x1 < 0 ∨ 50 ≤ x1.toNatClampNeg then none else some (M 7 0 x1.toNatClampNeg, M) else if x2 = (Int32.ofInt (0 + 1)) then if x1 < 0 ∨ 50 ≤ x1.toNatClampNeg then none else some (M 8 0 x1.toNatClampNeg, M) else if x2 = (Int32.ofInt ((0 + 1) + 1)) then if x1 < 0 ∨ 50 ≤ x1.toNatClampNeg then none else some (M 9 0 x1.toNatClampNeg, M) else if x1 < 0 ∨ 51 ≤ x1.toNatClampNeg then none else some (M 10 0 x1.toNatClampNeg, M) else some (((Int8.ofInt (-2)).toInt32), M)) := rfl
set_option maxRecDepth 20000 in
theorem eq_mf_code (x1 : Int32) (x2 : Int32) (M : zm_M) : fn_mf_code [.inr (0, 0), .inl x1, .inl x2] M = (if x2 < 0 then some ((-1 : Int32), M) else if (3 : Int32) < x2 then some ((-1 : Int32), M) else if x1 < 0 then some ((-2 : Int32), M) else if x1 < (M 5 0 9) then if x2 = (0 : Int32) then if x1 < 0 ∨ 50 ≤ x1.toNatClampNeg then none else some (M 7 0 x1.toNatClampNeg, M) else if x2 = (1 : Int32) then if x1 < 0 ∨ 50 ≤ x1.toNatClampNeg then none else some (M 8 0 x1.toNatClampNeg, M) else if x2 = (2 : Int32) then if x1 < 0 ∨ 50 ≤ x1.toNatClampNeg then none else some (M 9 0 x1.toNatClampNeg, M) else if x1 < 0 ∨ 51 ≤ x1.toNatClampNeg then none else some (M 10 0 x1.toNatClampNeg, M) else some ((-2 : Int32), M)) := by
  rw [er_mf_code]
  simp only [kz_Im1, kz_I3, kz_Bm2, kz_T0_0, kz_T0_1, kz_T0_2]
def rr_mf_count (n pc : Nat) (lo : zm_L) (st : List zm_V) (M : zm_M) : Option (Int32 × zm_M) := zm_rn zt_Y lx_mf_count zr_i cd_mf_count n pc lo st M
set_option maxRecDepth 20000 in
theorem er_mf_count (x1 : Int32) (M : zm_M) : fn_mf_count [.inr (0, 0), .inl x1] M = (if x1 = (Int32.ofInt 0) then some (M 5 0 9, M) else if x1 = (Int32.ofInt (0 + 1)) then some (M 5 0 14, M) else if x1 = (Int32.ofInt ((0 + 1) + 1)) then some (M 5 0 4, M) else if x1 = (Int32.ofInt (((0 + 1) + 1) + 1)) then if (M 5 0 9) < 0 ∨ 51 ≤ (M 5 0 9).toNatClampNeg then none else some (M 10 0 ((M 5 0 9).toNatClampNeg), M) else if x1 = (Int32.ofInt ((((0 + 1) + 1) + 1) + 1)) then (fn_re_isSound [.inr (29, 0)] M).bind fun q1 => if q1.1 = 0 then some (((Int8.ofInt (-5)).toInt32), q1.2) else some (q1.2 29 0 8, q1.2) else some ((Int32.ofInt (-1)), M)) := rfl
set_option maxRecDepth 20000 in
theorem eq_mf_count (x1 : Int32) (M : zm_M) : fn_mf_count [.inr (0, 0), .inl x1] M = (if x1 = (0 : Int32) then some (M 5 0 9, M) else if x1 = (1 : Int32) then some (M 5 0 14, M) else if x1 = (2 : Int32) then some (M 5 0 4, M) else if x1 = (3 : Int32) then if (M 5 0 9) < 0 ∨ 51 ≤ (M 5 0 9).toNatClampNeg then none else some (M 10 0 ((M 5 0 9).toNatClampNeg), M) else if x1 = (4 : Int32) then (fn_re_isSound [.inr (29, 0)] M).bind fun q1 => if q1.1 = 0 then some ((-5 : Int32), q1.2) else some (q1.2 29 0 8, q1.2) else some ((-1 : Int32), M)) := by
  rw [er_mf_count]
  simp only [kz_T0_0, kz_T0_1, kz_T0_2, kz_T0_3, kz_T0_4, kz_Bm5, kz_Im1]
end
