section
-- ===== PART A: goes FIRST, ahead of the names: the tables' words, and 'selects' of the private methods out of them =====
/-- a private method of a class that the tables say can be made, by its rows of tables_1 -/
def lw_okq (q : MethodName × Nat) : Prop := (q.1.cls ≠ "java/lang/invoke/MethodHandle" ∧ q.1.cls ≠ "java/lang/invoke/VarHandle") ∧ Cond.instantiable q.1.cls q.2 ∈ tables_1 ∧ Cond.privateMethod q.1 ∈ tables_1 ∧ Cond.instanceMethod q.1 ∈ tables_1
theorem lw_p0 : lw_okq (⟨"WellMap", "isPoint", "(III)Z"⟩, 10) := ⟨⟨by decide +kernel, by decide +kernel⟩, List.mem_of_getElem? (i := 18) (by decide +kernel), List.mem_of_getElem? (i := 504) (by decide +kernel), List.mem_of_getElem? (i := 505) (by decide +kernel)⟩
theorem lw_p1 : lw_okq (⟨"WellMap", "tellCosts", "(III)V"⟩, 10) := ⟨⟨by decide +kernel, by decide +kernel⟩, List.mem_of_getElem? (i := 18) (by decide +kernel), List.mem_of_getElem? (i := 508) (by decide +kernel), List.mem_of_getElem? (i := 509) (by decide +kernel)⟩
theorem lw_p2 : lw_okq (⟨"WellMap", "rankOf", "(IZ)I"⟩, 10) := ⟨⟨by decide +kernel, by decide +kernel⟩, List.mem_of_getElem? (i := 18) (by decide +kernel), List.mem_of_getElem? (i := 516) (by decide +kernel), List.mem_of_getElem? (i := 517) (by decide +kernel)⟩
theorem lw_p3 : lw_okq (⟨"WellMap$Ground", "beginWithMap", "()V"⟩, 10) := ⟨⟨by decide +kernel, by decide +kernel⟩, List.mem_of_getElem? (i := 177) (by decide +kernel), List.mem_of_getElem? (i := 537) (by decide +kernel), List.mem_of_getElem? (i := 538) (by decide +kernel)⟩
theorem lw_p4 : lw_okq (⟨"WellMap$Ground", "setLine", "(IIII)V"⟩, 10) := ⟨⟨by decide +kernel, by decide +kernel⟩, List.mem_of_getElem? (i := 177) (by decide +kernel), List.mem_of_getElem? (i := 541) (by decide +kernel), List.mem_of_getElem? (i := 542) (by decide +kernel)⟩
theorem lw_p5 : lw_okq (⟨"WellMap$Ground", "setBorder", "(IIZ)V"⟩, 10) := ⟨⟨by decide +kernel, by decide +kernel⟩, List.mem_of_getElem? (i := 177) (by decide +kernel), List.mem_of_getElem? (i := 549) (by decide +kernel), List.mem_of_getElem? (i := 550) (by decide +kernel)⟩
theorem lw_p6 : lw_okq (⟨"WellMap$Ground", "fromOrigin", "(I)I"⟩, 10) := ⟨⟨by decide +kernel, by decide +kernel⟩, List.mem_of_getElem? (i := 177) (by decide +kernel), List.mem_of_getElem? (i := 553) (by decide +kernel), List.mem_of_getElem? (i := 554) (by decide +kernel)⟩
theorem lw_p7 : lw_okq (⟨"WellMap$Ground", "cut", "(I)V"⟩, 10) := ⟨⟨by decide +kernel, by decide +kernel⟩, List.mem_of_getElem? (i := 177) (by decide +kernel), List.mem_of_getElem? (i := 558) (by decide +kernel), List.mem_of_getElem? (i := 559) (by decide +kernel)⟩
theorem lw_p8 : lw_okq (⟨"WellMap$Ground", "innerSide", "(II)J"⟩, 10) := ⟨⟨by decide +kernel, by decide +kernel⟩, List.mem_of_getElem? (i := 177) (by decide +kernel), List.mem_of_getElem? (i := 562) (by decide +kernel), List.mem_of_getElem? (i := 563) (by decide +kernel)⟩
theorem lw_p9 : lw_okq (⟨"WellMap$Ground", "leaveTouched", "(I)V"⟩, 10) := ⟨⟨by decide +kernel, by decide +kernel⟩, List.mem_of_getElem? (i := 177) (by decide +kernel), List.mem_of_getElem? (i := 566) (by decide +kernel), List.mem_of_getElem? (i := 567) (by decide +kernel)⟩
theorem lw_p10 : lw_okq (⟨"WellMap$Ground", "cutPiece", "(I)V"⟩, 10) := ⟨⟨by decide +kernel, by decide +kernel⟩, List.mem_of_getElem? (i := 177) (by decide +kernel), List.mem_of_getElem? (i := 575) (by decide +kernel), List.mem_of_getElem? (i := 576) (by decide +kernel)⟩
theorem lw_p11 : lw_okq (⟨"WellMap$Ground", "addCrossing", "(III)V"⟩, 10) := ⟨⟨by decide +kernel, by decide +kernel⟩, List.mem_of_getElem? (i := 177) (by decide +kernel), List.mem_of_getElem? (i := 579) (by decide +kernel), List.mem_of_getElem? (i := 580) (by decide +kernel)⟩
theorem lw_p12 : lw_okq (⟨"WellMap$Ground", "cutRing", "(I)V"⟩, 10) := ⟨⟨by decide +kernel, by decide +kernel⟩, List.mem_of_getElem? (i := 177) (by decide +kernel), List.mem_of_getElem? (i := 583) (by decide +kernel), List.mem_of_getElem? (i := 584) (by decide +kernel)⟩
theorem lw_p13 : lw_okq (⟨"WellMap", "areTwo", "(II)Z"⟩, 10) := ⟨⟨by decide +kernel, by decide +kernel⟩, List.mem_of_getElem? (i := 18) (by decide +kernel), List.mem_of_getElem? (i := 629) (by decide +kernel), List.mem_of_getElem? (i := 630) (by decide +kernel)⟩
theorem lw_p14 : lw_okq (⟨"WellMap$Rounds", "look", "(III)V"⟩, 11) := ⟨⟨by decide +kernel, by decide +kernel⟩, List.mem_of_getElem? (i := 246) (by decide +kernel), List.mem_of_getElem? (i := 662) (by decide +kernel), List.mem_of_getElem? (i := 663) (by decide +kernel)⟩
theorem lw_p15 : lw_okq (⟨"WellMap$Rounds", "setRound", "(III)Z"⟩, 11) := ⟨⟨by decide +kernel, by decide +kernel⟩, List.mem_of_getElem? (i := 246) (by decide +kernel), List.mem_of_getElem? (i := 666) (by decide +kernel), List.mem_of_getElem? (i := 667) (by decide +kernel)⟩
def lw_privs_1 : List (MethodName × Nat) := [(⟨"WellMap", "isPoint", "(III)Z"⟩, 10), (⟨"WellMap", "tellCosts", "(III)V"⟩, 10), (⟨"WellMap", "rankOf", "(IZ)I"⟩, 10), (⟨"WellMap$Ground", "beginWithMap", "()V"⟩, 10), (⟨"WellMap$Ground", "setLine", "(IIII)V"⟩, 10), (⟨"WellMap$Ground", "setBorder", "(IIZ)V"⟩, 10), (⟨"WellMap$Ground", "fromOrigin", "(I)I"⟩, 10), (⟨"WellMap$Ground", "cut", "(I)V"⟩, 10), (⟨"WellMap$Ground", "innerSide", "(II)J"⟩, 10), (⟨"WellMap$Ground", "leaveTouched", "(I)V"⟩, 10), (⟨"WellMap$Ground", "cutPiece", "(I)V"⟩, 10), (⟨"WellMap$Ground", "addCrossing", "(III)V"⟩, 10), (⟨"WellMap$Ground", "cutRing", "(I)V"⟩, 10), (⟨"WellMap", "areTwo", "(II)Z"⟩, 10), (⟨"WellMap$Rounds", "look", "(III)V"⟩, 11), (⟨"WellMap$Rounds", "setRound", "(III)Z"⟩, 11)]
theorem lw_r1 : ∀ q ∈ lw_privs_1, lw_okq q := List.forall_mem_cons.mpr ⟨lw_p0, List.forall_mem_cons.mpr ⟨lw_p1, List.forall_mem_cons.mpr ⟨lw_p2, List.forall_mem_cons.mpr ⟨lw_p3, List.forall_mem_cons.mpr ⟨lw_p4, List.forall_mem_cons.mpr ⟨lw_p5, List.forall_mem_cons.mpr ⟨lw_p6, List.forall_mem_cons.mpr ⟨lw_p7, List.forall_mem_cons.mpr ⟨lw_p8, List.forall_mem_cons.mpr ⟨lw_p9, List.forall_mem_cons.mpr ⟨lw_p10, List.forall_mem_cons.mpr ⟨lw_p11, List.forall_mem_cons.mpr ⟨lw_p12, List.forall_mem_cons.mpr ⟨lw_p13, List.forall_mem_cons.mpr ⟨lw_p14, List.forall_mem_cons.mpr ⟨lw_p15, fun _ h => absurd h List.not_mem_nil⟩⟩⟩⟩⟩⟩⟩⟩⟩⟩⟩⟩⟩⟩⟩⟩
theorem lw_p16 : lw_okq (⟨"WellMap$Rounds", "ringFrom", "(III)I"⟩, 11) := ⟨⟨by decide +kernel, by decide +kernel⟩, List.mem_of_getElem? (i := 246) (by decide +kernel), List.mem_of_getElem? (i := 680) (by decide +kernel), List.mem_of_getElem? (i := 681) (by decide +kernel)⟩
theorem lw_p17 : lw_okq (⟨"WellMap$Rounds", "outsideBy", "(II)J"⟩, 11) := ⟨⟨by decide +kernel, by decide +kernel⟩, List.mem_of_getElem? (i := 246) (by decide +kernel), List.mem_of_getElem? (i := 684) (by decide +kernel), List.mem_of_getElem? (i := 685) (by decide +kernel)⟩
theorem lw_p18 : lw_okq (⟨"WellMap$DryRound", "lookAt", "(LWellMap$Outline;II)V"⟩, 7) := ⟨⟨by decide +kernel, by decide +kernel⟩, List.mem_of_getElem? (i := 288) (by decide +kernel), List.mem_of_getElem? (i := 719) (by decide +kernel), List.mem_of_getElem? (i := 720) (by decide +kernel)⟩
theorem lw_p19 : lw_okq (⟨"WellMap$DryRound", "isBeforeBest", "(LWellMap$Outline;I)Z"⟩, 7) := ⟨⟨by decide +kernel, by decide +kernel⟩, List.mem_of_getElem? (i := 288) (by decide +kernel), List.mem_of_getElem? (i := 730) (by decide +kernel), List.mem_of_getElem? (i := 731) (by decide +kernel)⟩
theorem lw_p20 : lw_okq (⟨"WellMap$Net", "reachFrom", "(I)V"⟩, 5) := ⟨⟨by decide +kernel, by decide +kernel⟩, List.mem_of_getElem? (i := 320) (by decide +kernel), List.mem_of_getElem? (i := 757) (by decide +kernel), List.mem_of_getElem? (i := 758) (by decide +kernel)⟩
theorem lw_p21 : lw_okq (⟨"WellMap$Net", "pipeBetween", "(II)J"⟩, 5) := ⟨⟨by decide +kernel, by decide +kernel⟩, List.mem_of_getElem? (i := 320) (by decide +kernel), List.mem_of_getElem? (i := 761) (by decide +kernel), List.mem_of_getElem? (i := 762) (by decide +kernel)⟩
theorem lw_p22 : lw_okq (⟨"WellMap$Net", "leastReach", "()I"⟩, 5) := ⟨⟨by decide +kernel, by decide +kernel⟩, List.mem_of_getElem? (i := 320) (by decide +kernel), List.mem_of_getElem? (i := 773) (by decide +kernel), List.mem_of_getElem? (i := 774) (by decide +kernel)⟩
theorem lw_p23 : lw_okq (⟨"WellMap$Net", "addInOrder", "(J)V"⟩, 5) := ⟨⟨by decide +kernel, by decide +kernel⟩, List.mem_of_getElem? (i := 320) (by decide +kernel), List.mem_of_getElem? (i := 777) (by decide +kernel), List.mem_of_getElem? (i := 778) (by decide +kernel)⟩
theorem lw_p24 : lw_okq (⟨"WellMap$Hull", "leastPlace", "()I"⟩, 4) := ⟨⟨by decide +kernel, by decide +kernel⟩, List.mem_of_getElem? (i := 343) (by decide +kernel), List.mem_of_getElem? (i := 807) (by decide +kernel), List.mem_of_getElem? (i := 808) (by decide +kernel)⟩
theorem lw_p25 : lw_okq (⟨"WellMap$Hull", "rightmostFrom", "(I)I"⟩, 4) := ⟨⟨by decide +kernel, by decide +kernel⟩, List.mem_of_getElem? (i := 343) (by decide +kernel), List.mem_of_getElem? (i := 811) (by decide +kernel), List.mem_of_getElem? (i := 812) (by decide +kernel)⟩
theorem lw_p26 : lw_okq (⟨"WellMap$Hull", "isFartherRight", "(III)Z"⟩, 4) := ⟨⟨by decide +kernel, by decide +kernel⟩, List.mem_of_getElem? (i := 343) (by decide +kernel), List.mem_of_getElem? (i := 815) (by decide +kernel), List.mem_of_getElem? (i := 816) (by decide +kernel)⟩
theorem lw_p27 : lw_okq (⟨"WellMap$Ways", "toRim", "(IIIZ)J"⟩, 2) := ⟨⟨by decide +kernel, by decide +kernel⟩, List.mem_of_getElem? (i := 364) (by decide +kernel), List.mem_of_getElem? (i := 836) (by decide +kernel), List.mem_of_getElem? (i := 837) (by decide +kernel)⟩
theorem lw_p28 : lw_okq (⟨"WellMap$Ways", "toSide", "(II)I"⟩, 2) := ⟨⟨by decide +kernel, by decide +kernel⟩, List.mem_of_getElem? (i := 364) (by decide +kernel), List.mem_of_getElem? (i := 840) (by decide +kernel), List.mem_of_getElem? (i := 841) (by decide +kernel)⟩
theorem lw_p29 : lw_okq (⟨"WellMap$Ways", "leastGap", "()I"⟩, 2) := ⟨⟨by decide +kernel, by decide +kernel⟩, List.mem_of_getElem? (i := 364) (by decide +kernel), List.mem_of_getElem? (i := 846) (by decide +kernel), List.mem_of_getElem? (i := 847) (by decide +kernel)⟩
theorem lw_p30 : lw_okq (⟨"WellMap$Ways", "chainFrom", "(IJ)V"⟩, 2) := ⟨⟨by decide +kernel, by decide +kernel⟩, List.mem_of_getElem? (i := 364) (by decide +kernel), List.mem_of_getElem? (i := 854) (by decide +kernel), List.mem_of_getElem? (i := 855) (by decide +kernel)⟩
theorem lw_p31 : lw_okq (⟨"WellMap", "maySink", "(II)Z"⟩, 10) := ⟨⟨by decide +kernel, by decide +kernel⟩, List.mem_of_getElem? (i := 18) (by decide +kernel), List.mem_of_getElem? (i := 889) (by decide +kernel), List.mem_of_getElem? (i := 890) (by decide +kernel)⟩
def lw_privs_2 : List (MethodName × Nat) := [(⟨"WellMap$Rounds", "ringFrom", "(III)I"⟩, 11), (⟨"WellMap$Rounds", "outsideBy", "(II)J"⟩, 11), (⟨"WellMap$DryRound", "lookAt", "(LWellMap$Outline;II)V"⟩, 7), (⟨"WellMap$DryRound", "isBeforeBest", "(LWellMap$Outline;I)Z"⟩, 7), (⟨"WellMap$Net", "reachFrom", "(I)V"⟩, 5), (⟨"WellMap$Net", "pipeBetween", "(II)J"⟩, 5), (⟨"WellMap$Net", "leastReach", "()I"⟩, 5), (⟨"WellMap$Net", "addInOrder", "(J)V"⟩, 5), (⟨"WellMap$Hull", "leastPlace", "()I"⟩, 4), (⟨"WellMap$Hull", "rightmostFrom", "(I)I"⟩, 4), (⟨"WellMap$Hull", "isFartherRight", "(III)Z"⟩, 4), (⟨"WellMap$Ways", "toRim", "(IIIZ)J"⟩, 2), (⟨"WellMap$Ways", "toSide", "(II)I"⟩, 2), (⟨"WellMap$Ways", "leastGap", "()I"⟩, 2), (⟨"WellMap$Ways", "chainFrom", "(IJ)V"⟩, 2), (⟨"WellMap", "maySink", "(II)Z"⟩, 10)]
theorem lw_r2 : ∀ q ∈ lw_privs_2, lw_okq q := List.forall_mem_cons.mpr ⟨lw_p16, List.forall_mem_cons.mpr ⟨lw_p17, List.forall_mem_cons.mpr ⟨lw_p18, List.forall_mem_cons.mpr ⟨lw_p19, List.forall_mem_cons.mpr ⟨lw_p20, List.forall_mem_cons.mpr ⟨lw_p21, List.forall_mem_cons.mpr ⟨lw_p22, List.forall_mem_cons.mpr ⟨lw_p23, List.forall_mem_cons.mpr ⟨lw_p24, List.forall_mem_cons.mpr ⟨lw_p25, List.forall_mem_cons.mpr ⟨lw_p26, List.forall_mem_cons.mpr ⟨lw_p27, List.forall_mem_cons.mpr ⟨lw_p28, List.forall_mem_cons.mpr ⟨lw_p29, List.forall_mem_cons.mpr ⟨lw_p30, List.forall_mem_cons.mpr ⟨lw_p31, fun _ h => absurd h List.not_mem_nil⟩⟩⟩⟩⟩⟩⟩⟩⟩⟩⟩⟩⟩⟩⟩⟩
theorem lw_p32 : lw_okq (⟨"WellMapModel", "brings", "()V"⟩, 56) := ⟨⟨by decide +kernel, by decide +kernel⟩, List.mem_of_getElem? (i := 906) (by decide +kernel), List.mem_of_getElem? (i := 1086) (by decide +kernel), List.mem_of_getElem? (i := 1087) (by decide +kernel)⟩
theorem lw_p33 : lw_okq (⟨"WellMapModel", "keeps", "()V"⟩, 56) := ⟨⟨by decide +kernel, by decide +kernel⟩, List.mem_of_getElem? (i := 906) (by decide +kernel), List.mem_of_getElem? (i := 1094) (by decide +kernel), List.mem_of_getElem? (i := 1095) (by decide +kernel)⟩
theorem lw_p34 : lw_okq (⟨"WellMapModel", "sinks", "(IIII)I"⟩, 56) := ⟨⟨by decide +kernel, by decide +kernel⟩, List.mem_of_getElem? (i := 906) (by decide +kernel), List.mem_of_getElem? (i := 1106) (by decide +kernel), List.mem_of_getElem? (i := 1107) (by decide +kernel)⟩
theorem lw_p35 : lw_okq (⟨"WellMapModel", "isWell", "(I)Z"⟩, 56) := ⟨⟨by decide +kernel, by decide +kernel⟩, List.mem_of_getElem? (i := 906) (by decide +kernel), List.mem_of_getElem? (i := 1119) (by decide +kernel), List.mem_of_getElem? (i := 1120) (by decide +kernel)⟩
theorem lw_p36 : lw_okq (⟨"WellMapModel", "counts", "(I)Z"⟩, 56) := ⟨⟨by decide +kernel, by decide +kernel⟩, List.mem_of_getElem? (i := 906) (by decide +kernel), List.mem_of_getElem? (i := 1127) (by decide +kernel), List.mem_of_getElem? (i := 1128) (by decide +kernel)⟩
theorem lw_p37 : lw_okq (⟨"WellMapModel", "isPoint", "(III)Z"⟩, 56) := ⟨⟨by decide +kernel, by decide +kernel⟩, List.mem_of_getElem? (i := 906) (by decide +kernel), List.mem_of_getElem? (i := 1148) (by decide +kernel), List.mem_of_getElem? (i := 1149) (by decide +kernel)⟩
theorem lw_p38 : lw_okq (⟨"WellMapModel", "cost", "(IIII)J"⟩, 56) := ⟨⟨by decide +kernel, by decide +kernel⟩, List.mem_of_getElem? (i := 906) (by decide +kernel), List.mem_of_getElem? (i := 1152) (by decide +kernel), List.mem_of_getElem? (i := 1153) (by decide +kernel)⟩
theorem lw_p39 : lw_okq (⟨"WellMapModel", "off", "(I)J"⟩, 56) := ⟨⟨by decide +kernel, by decide +kernel⟩, List.mem_of_getElem? (i := 906) (by decide +kernel), List.mem_of_getElem? (i := 1156) (by decide +kernel), List.mem_of_getElem? (i := 1157) (by decide +kernel)⟩
theorem lw_p40 : lw_okq (⟨"WellMapModel", "groundOf", "(I)V"⟩, 56) := ⟨⟨by decide +kernel, by decide +kernel⟩, List.mem_of_getElem? (i := 906) (by decide +kernel), List.mem_of_getElem? (i := 1168) (by decide +kernel), List.mem_of_getElem? (i := 1169) (by decide +kernel)⟩
theorem lw_p41 : lw_okq (⟨"WellMapModel", "linesOf", "(II)V"⟩, 56) := ⟨⟨by decide +kernel, by decide +kernel⟩, List.mem_of_getElem? (i := 906) (by decide +kernel), List.mem_of_getElem? (i := 1172) (by decide +kernel), List.mem_of_getElem? (i := 1173) (by decide +kernel)⟩
theorem lw_p42 : lw_okq (⟨"WellMapModel", "against", "(II)V"⟩, 56) := ⟨⟨by decide +kernel, by decide +kernel⟩, List.mem_of_getElem? (i := 906) (by decide +kernel), List.mem_of_getElem? (i := 1176) (by decide +kernel), List.mem_of_getElem? (i := 1177) (by decide +kernel)⟩
theorem lw_p43 : lw_okq (⟨"WellMapModel", "line", "(JJJ)V"⟩, 56) := ⟨⟨by decide +kernel, by decide +kernel⟩, List.mem_of_getElem? (i := 906) (by decide +kernel), List.mem_of_getElem? (i := 1181) (by decide +kernel), List.mem_of_getElem? (i := 1182) (by decide +kernel)⟩
theorem lw_p44 : lw_okq (⟨"WellMapModel", "meets", "(II)V"⟩, 56) := ⟨⟨by decide +kernel, by decide +kernel⟩, List.mem_of_getElem? (i := 906) (by decide +kernel), List.mem_of_getElem? (i := 1186) (by decide +kernel), List.mem_of_getElem? (i := 1187) (by decide +kernel)⟩
theorem lw_p45 : lw_okq (⟨"WellMapModel", "over", "(IJJJ)J"⟩, 56) := ⟨⟨by decide +kernel, by decide +kernel⟩, List.mem_of_getElem? (i := 906) (by decide +kernel), List.mem_of_getElem? (i := 1190) (by decide +kernel), List.mem_of_getElem? (i := 1191) (by decide +kernel)⟩
theorem lw_p46 : lw_okq (⟨"WellMapModel", "isSame", "(IJJJ)Z"⟩, 56) := ⟨⟨by decide +kernel, by decide +kernel⟩, List.mem_of_getElem? (i := 906) (by decide +kernel), List.mem_of_getElem? (i := 1194) (by decide +kernel), List.mem_of_getElem? (i := 1195) (by decide +kernel)⟩
theorem lw_p47 : lw_okq (⟨"WellMapModel", "isAhead", "(II)Z"⟩, 56) := ⟨⟨by decide +kernel, by decide +kernel⟩, List.mem_of_getElem? (i := 906) (by decide +kernel), List.mem_of_getElem? (i := 1198) (by decide +kernel), List.mem_of_getElem? (i := 1199) (by decide +kernel)⟩
def lw_privs_3 : List (MethodName × Nat) := [(⟨"WellMapModel", "brings", "()V"⟩, 56), (⟨"WellMapModel", "keeps", "()V"⟩, 56), (⟨"WellMapModel", "sinks", "(IIII)I"⟩, 56), (⟨"WellMapModel", "isWell", "(I)Z"⟩, 56), (⟨"WellMapModel", "counts", "(I)Z"⟩, 56), (⟨"WellMapModel", "isPoint", "(III)Z"⟩, 56), (⟨"WellMapModel", "cost", "(IIII)J"⟩, 56), (⟨"WellMapModel", "off", "(I)J"⟩, 56), (⟨"WellMapModel", "groundOf", "(I)V"⟩, 56), (⟨"WellMapModel", "linesOf", "(II)V"⟩, 56), (⟨"WellMapModel", "against", "(II)V"⟩, 56), (⟨"WellMapModel", "line", "(JJJ)V"⟩, 56), (⟨"WellMapModel", "meets", "(II)V"⟩, 56), (⟨"WellMapModel", "over", "(IJJJ)J"⟩, 56), (⟨"WellMapModel", "isSame", "(IJJJ)Z"⟩, 56), (⟨"WellMapModel", "isAhead", "(II)Z"⟩, 56)]
theorem lw_r3 : ∀ q ∈ lw_privs_3, lw_okq q := List.forall_mem_cons.mpr ⟨lw_p32, List.forall_mem_cons.mpr ⟨lw_p33, List.forall_mem_cons.mpr ⟨lw_p34, List.forall_mem_cons.mpr ⟨lw_p35, List.forall_mem_cons.mpr ⟨lw_p36, List.forall_mem_cons.mpr ⟨lw_p37, List.forall_mem_cons.mpr ⟨lw_p38, List.forall_mem_cons.mpr ⟨lw_p39, List.forall_mem_cons.mpr ⟨lw_p40, List.forall_mem_cons.mpr ⟨lw_p41, List.forall_mem_cons.mpr ⟨lw_p42, List.forall_mem_cons.mpr ⟨lw_p43, List.forall_mem_cons.mpr ⟨lw_p44, List.forall_mem_cons.mpr ⟨lw_p45, List.forall_mem_cons.mpr ⟨lw_p46, List.forall_mem_cons.mpr ⟨lw_p47, fun _ h => absurd h List.not_mem_nil⟩⟩⟩⟩⟩⟩⟩⟩⟩⟩⟩⟩⟩⟩⟩⟩
theorem lw_p48 : lw_okq (⟨"WellMapModel", "orderX", "(II)I"⟩, 56) := ⟨⟨by decide +kernel, by decide +kernel⟩, List.mem_of_getElem? (i := 906) (by decide +kernel), List.mem_of_getElem? (i := 1202) (by decide +kernel), List.mem_of_getElem? (i := 1203) (by decide +kernel)⟩
theorem lw_p49 : lw_okq (⟨"WellMapModel", "orderY", "(II)I"⟩, 56) := ⟨⟨by decide +kernel, by decide +kernel⟩, List.mem_of_getElem? (i := 906) (by decide +kernel), List.mem_of_getElem? (i := 1209) (by decide +kernel), List.mem_of_getElem? (i := 1210) (by decide +kernel)⟩
theorem lw_p50 : lw_okq (⟨"WellMapModel", "endsOn", "(I)V"⟩, 56) := ⟨⟨by decide +kernel, by decide +kernel⟩, List.mem_of_getElem? (i := 906) (by decide +kernel), List.mem_of_getElem? (i := 1213) (by decide +kernel), List.mem_of_getElem? (i := 1214) (by decide +kernel)⟩
theorem lw_p51 : lw_okq (⟨"WellMapModel", "along", "(III)I"⟩, 56) := ⟨⟨by decide +kernel, by decide +kernel⟩, List.mem_of_getElem? (i := 906) (by decide +kernel), List.mem_of_getElem? (i := 1217) (by decide +kernel), List.mem_of_getElem? (i := 1218) (by decide +kernel)⟩
theorem lw_p52 : lw_okq (⟨"WellMapModel", "told", "(II)J"⟩, 56) := ⟨⟨by decide +kernel, by decide +kernel⟩, List.mem_of_getElem? (i := 906) (by decide +kernel), List.mem_of_getElem? (i := 1225) (by decide +kernel), List.mem_of_getElem? (i := 1226) (by decide +kernel)⟩
theorem lw_p53 : lw_okq (⟨"WellMapModel", "areTwo", "(II)Z"⟩, 56) := ⟨⟨by decide +kernel, by decide +kernel⟩, List.mem_of_getElem? (i := 906) (by decide +kernel), List.mem_of_getElem? (i := 1239) (by decide +kernel), List.mem_of_getElem? (i := 1240) (by decide +kernel)⟩
theorem lw_p54 : lw_okq (⟨"WellMapModel", "borderOf", "(II)I"⟩, 56) := ⟨⟨by decide +kernel, by decide +kernel⟩, List.mem_of_getElem? (i := 906) (by decide +kernel), List.mem_of_getElem? (i := 1243) (by decide +kernel), List.mem_of_getElem? (i := 1244) (by decide +kernel)⟩
theorem lw_p55 : lw_okq (⟨"WellMapModel", "ringsOf", "()V"⟩, 56) := ⟨⟨by decide +kernel, by decide +kernel⟩, List.mem_of_getElem? (i := 906) (by decide +kernel), List.mem_of_getElem? (i := 1263) (by decide +kernel), List.mem_of_getElem? (i := 1264) (by decide +kernel)⟩
theorem lw_p56 : lw_okq (⟨"WellMapModel", "cross", "(III)J"⟩, 56) := ⟨⟨by decide +kernel, by decide +kernel⟩, List.mem_of_getElem? (i := 906) (by decide +kernel), List.mem_of_getElem? (i := 1267) (by decide +kernel), List.mem_of_getElem? (i := 1268) (by decide +kernel)⟩
theorem lw_p57 : lw_okq (⟨"WellMapModel", "roundOf", "(III)I"⟩, 56) := ⟨⟨by decide +kernel, by decide +kernel⟩, List.mem_of_getElem? (i := 906) (by decide +kernel), List.mem_of_getElem? (i := 1271) (by decide +kernel), List.mem_of_getElem? (i := 1272) (by decide +kernel)⟩
theorem lw_p58 : lw_okq (⟨"WellMapModel", "within", "(IIII)J"⟩, 56) := ⟨⟨by decide +kernel, by decide +kernel⟩, List.mem_of_getElem? (i := 906) (by decide +kernel), List.mem_of_getElem? (i := 1275) (by decide +kernel), List.mem_of_getElem? (i := 1276) (by decide +kernel)⟩
theorem lw_p59 : lw_okq (⟨"WellMapModel", "middle", "(I)V"⟩, 56) := ⟨⟨by decide +kernel, by decide +kernel⟩, List.mem_of_getElem? (i := 906) (by decide +kernel), List.mem_of_getElem? (i := 1290) (by decide +kernel), List.mem_of_getElem? (i := 1291) (by decide +kernel)⟩
theorem lw_p60 : lw_okq (⟨"WellMapModel", "apart", "(II)J"⟩, 56) := ⟨⟨by decide +kernel, by decide +kernel⟩, List.mem_of_getElem? (i := 906) (by decide +kernel), List.mem_of_getElem? (i := 1294) (by decide +kernel), List.mem_of_getElem? (i := 1295) (by decide +kernel)⟩
theorem lw_p61 : lw_okq (⟨"WellMapModel", "middleTold", "(I)J"⟩, 56) := ⟨⟨by decide +kernel, by decide +kernel⟩, List.mem_of_getElem? (i := 906) (by decide +kernel), List.mem_of_getElem? (i := 1299) (by decide +kernel), List.mem_of_getElem? (i := 1300) (by decide +kernel)⟩
theorem lw_p62 : lw_okq (⟨"WellMapModel", "largestOf", "()V"⟩, 56) := ⟨⟨by decide +kernel, by decide +kernel⟩, List.mem_of_getElem? (i := 906) (by decide +kernel), List.mem_of_getElem? (i := 1307) (by decide +kernel), List.mem_of_getElem? (i := 1308) (by decide +kernel)⟩
theorem lw_p63 : lw_okq (⟨"WellMapModel", "tries", "(JJJ)V"⟩, 56) := ⟨⟨by decide +kernel, by decide +kernel⟩, List.mem_of_getElem? (i := 906) (by decide +kernel), List.mem_of_getElem? (i := 1311) (by decide +kernel), List.mem_of_getElem? (i := 1312) (by decide +kernel)⟩
def lw_privs_4 : List (MethodName × Nat) := [(⟨"WellMapModel", "orderX", "(II)I"⟩, 56), (⟨"WellMapModel", "orderY", "(II)I"⟩, 56), (⟨"WellMapModel", "endsOn", "(I)V"⟩, 56), (⟨"WellMapModel", "along", "(III)I"⟩, 56), (⟨"WellMapModel", "told", "(II)J"⟩, 56), (⟨"WellMapModel", "areTwo", "(II)Z"⟩, 56), (⟨"WellMapModel", "borderOf", "(II)I"⟩, 56), (⟨"WellMapModel", "ringsOf", "()V"⟩, 56), (⟨"WellMapModel", "cross", "(III)J"⟩, 56), (⟨"WellMapModel", "roundOf", "(III)I"⟩, 56), (⟨"WellMapModel", "within", "(IIII)J"⟩, 56), (⟨"WellMapModel", "middle", "(I)V"⟩, 56), (⟨"WellMapModel", "apart", "(II)J"⟩, 56), (⟨"WellMapModel", "middleTold", "(I)J"⟩, 56), (⟨"WellMapModel", "largestOf", "()V"⟩, 56), (⟨"WellMapModel", "tries", "(JJJ)V"⟩, 56)]
theorem lw_r4 : ∀ q ∈ lw_privs_4, lw_okq q := List.forall_mem_cons.mpr ⟨lw_p48, List.forall_mem_cons.mpr ⟨lw_p49, List.forall_mem_cons.mpr ⟨lw_p50, List.forall_mem_cons.mpr ⟨lw_p51, List.forall_mem_cons.mpr ⟨lw_p52, List.forall_mem_cons.mpr ⟨lw_p53, List.forall_mem_cons.mpr ⟨lw_p54, List.forall_mem_cons.mpr ⟨lw_p55, List.forall_mem_cons.mpr ⟨lw_p56, List.forall_mem_cons.mpr ⟨lw_p57, List.forall_mem_cons.mpr ⟨lw_p58, List.forall_mem_cons.mpr ⟨lw_p59, List.forall_mem_cons.mpr ⟨lw_p60, List.forall_mem_cons.mpr ⟨lw_p61, List.forall_mem_cons.mpr ⟨lw_p62, List.forall_mem_cons.mpr ⟨lw_p63, fun _ h => absurd h List.not_mem_nil⟩⟩⟩⟩⟩⟩⟩⟩⟩⟩⟩⟩⟩⟩⟩⟩
theorem lw_p64 : lw_okq (⟨"WellMapModel", "better", "()V"⟩, 56) := ⟨⟨by decide +kernel, by decide +kernel⟩, List.mem_of_getElem? (i := 906) (by decide +kernel), List.mem_of_getElem? (i := 1315) (by decide +kernel), List.mem_of_getElem? (i := 1316) (by decide +kernel)⟩
theorem lw_p65 : lw_okq (⟨"WellMapModel", "triesSides", "(II)V"⟩, 56) := ⟨⟨by decide +kernel, by decide +kernel⟩, List.mem_of_getElem? (i := 906) (by decide +kernel), List.mem_of_getElem? (i := 1322) (by decide +kernel), List.mem_of_getElem? (i := 1323) (by decide +kernel)⟩
theorem lw_p66 : lw_okq (⟨"WellMapModel", "triesOn", "(JJJZJ)V"⟩, 56) := ⟨⟨by decide +kernel, by decide +kernel⟩, List.mem_of_getElem? (i := 906) (by decide +kernel), List.mem_of_getElem? (i := 1326) (by decide +kernel), List.mem_of_getElem? (i := 1327) (by decide +kernel)⟩
theorem lw_p67 : lw_okq (⟨"WellMapModel", "toSides", "(II)J"⟩, 56) := ⟨⟨by decide +kernel, by decide +kernel⟩, List.mem_of_getElem? (i := 906) (by decide +kernel), List.mem_of_getElem? (i := 1361) (by decide +kernel), List.mem_of_getElem? (i := 1362) (by decide +kernel)⟩
theorem lw_p68 : lw_okq (⟨"WellMapModel", "toCorner", "(I)J"⟩, 56) := ⟨⟨by decide +kernel, by decide +kernel⟩, List.mem_of_getElem? (i := 906) (by decide +kernel), List.mem_of_getElem? (i := 1365) (by decide +kernel), List.mem_of_getElem? (i := 1366) (by decide +kernel)⟩
theorem lw_p69 : lw_okq (⟨"WellMapModel", "isSheet", "(I)Z"⟩, 56) := ⟨⟨by decide +kernel, by decide +kernel⟩, List.mem_of_getElem? (i := 906) (by decide +kernel), List.mem_of_getElem? (i := 1373) (by decide +kernel), List.mem_of_getElem? (i := 1374) (by decide +kernel)⟩
def lw_privs_5 : List (MethodName × Nat) := [(⟨"WellMapModel", "better", "()V"⟩, 56), (⟨"WellMapModel", "triesSides", "(II)V"⟩, 56), (⟨"WellMapModel", "triesOn", "(JJJZJ)V"⟩, 56), (⟨"WellMapModel", "toSides", "(II)J"⟩, 56), (⟨"WellMapModel", "toCorner", "(I)J"⟩, 56), (⟨"WellMapModel", "isSheet", "(I)Z"⟩, 56)]
theorem lw_r5 : ∀ q ∈ lw_privs_5, lw_okq q := List.forall_mem_cons.mpr ⟨lw_p64, List.forall_mem_cons.mpr ⟨lw_p65, List.forall_mem_cons.mpr ⟨lw_p66, List.forall_mem_cons.mpr ⟨lw_p67, List.forall_mem_cons.mpr ⟨lw_p68, List.forall_mem_cons.mpr ⟨lw_p69, fun _ h => absurd h List.not_mem_nil⟩⟩⟩⟩⟩⟩
def lw_privs : List (MethodName × Nat) := lw_privs_1 ++ (lw_privs_2 ++ (lw_privs_3 ++ (lw_privs_4 ++ (lw_privs_5))))
def lw_tbl : List Cond := k2_sels lw_privs ++ tables_1
theorem lw_privs_ok : ∀ q ∈ lw_privs, lw_okq q := by
  show ∀ q ∈ lw_privs_1 ++ (lw_privs_2 ++ (lw_privs_3 ++ (lw_privs_4 ++ (lw_privs_5)))), lw_okq q
  exact List.forall_mem_append.mpr ⟨lw_r1, List.forall_mem_append.mpr ⟨lw_r2, List.forall_mem_append.mpr ⟨lw_r3, List.forall_mem_append.mpr ⟨lw_r4, lw_r5⟩⟩⟩⟩
end
section
/-! ===== BASE 1: whole numbers, and the words that the pure functions are made of ===== -/
abbrev inI (a : Int) : Prop := -2147483648 ≤ a ∧ a < 2147483648
abbrev inL (a : Int) : Prop := -9223372036854775808 ≤ a ∧ a < 9223372036854775808
abbrev iv (a : Int) : Value := Value.int (Int32.ofInt a)
abbrev jv (a : Int) : Value := Value.long (Int64.ofInt a)
theorem oI {a : Int} (h : inI a) : (Int32.ofInt a).toInt = a := Int32.toInt_ofInt_of_le (by omega) (by omega)
theorem oL {a : Int} (h : inL a) : (Int64.ofInt a).toInt = a := Int64.toInt_ofInt_of_le (by omega) (by omega)
theorem oI_lt {a b : Int} (ha : inI a) (hb : inI b) : Int32.ofInt a < Int32.ofInt b ↔ a < b := by rw [Int32.lt_iff_toInt_lt, oI ha, oI hb]
theorem oI_le {a b : Int} (ha : inI a) (hb : inI b) : Int32.ofInt a ≤ Int32.ofInt b ↔ a ≤ b := by rw [Int32.le_iff_toInt_le, oI ha, oI hb]
theorem oI_eq {a b : Int} (ha : inI a) (hb : inI b) : Int32.ofInt a = Int32.ofInt b ↔ a = b := by rw [← Int32.toInt_inj, oI ha, oI hb]
theorem oL_lt {a b : Int} (ha : inL a) (hb : inL b) : Int64.ofInt a < Int64.ofInt b ↔ a < b := by rw [Int64.lt_iff_toInt_lt, oL ha, oL hb]
theorem oL_eq {a b : Int} (ha : inL a) (hb : inL b) : Int64.ofInt a = Int64.ofInt b ↔ a = b := by rw [← Int64.toInt_inj, oL ha, oL hb]
theorem oI_0 : Int32.ofInt 0 = 0 := by decide +kernel
theorem oL_0 : Int64.ofInt 0 = 0 := by decide +kernel
theorem oIL {a : Int} (h : inI a) : (Int32.ofInt a).toInt64 = Int64.ofInt a := by
  rw [← Int64.toInt_inj, Int32.toInt_toInt64, oI h, oL ⟨by omega, by omega⟩]
theorem oI_nat {a : Int} (h : inI a) : (Int32.ofInt a).toNatClampNeg = a.toNat := by
  show (Int32.ofInt a).toInt.toNat = a.toNat
  rw [oI h]
theorem oI_in {a : Int} {n : Nat} {N : Int} (hN : (n : Int) = N) (hn : n < 2147483648) (h : 0 ≤ a ∧ a < N) : vp_in (Int32.ofInt a) n ∧ (Int32.ofInt a).toNatClampNeg = a.toNat := by
  have hi : inI a := ⟨by omega, by omega⟩
  refine ⟨?_, oI_nat hi⟩
  intro q
  rcases q with q | q
  · rw [show (0 : Int32) = Int32.ofInt 0 from oI_0.symm, oI_lt hi ⟨by omega, by omega⟩] at q
    omega
  · rw [oI_nat hi] at q
    omega
abbrev St : Type := Nat → Nat → Int
def up1 (f : Nat → Int) (j : Nat) (v : Int) : Nat → Int := fun i => if i = j then v else f i
def upr (σ : St) (k : Nat) (g : Nat → Int) : St := fun i => if i = k then g else σ i
def up2 (σ : St) (k j : Nat) (v : Int) : St := upr σ k (up1 (σ k) j v)
def jchk {α : Type} (p : Prop) [Decidable p] (x : Option α) : Option α := if p then x else none
def jlet {α β : Type} (e : α) (k : α → β) : β := k e
def jbind {α β : Type} (x : Option α) (k : α → Option β) : Option β := match x with
  | some a => k a
  | none => none
def jloop {S E : Type} (body : S → Option (S ⊕ E)) : Nat → S → Option E
  | 0, _ => none
  | n + 1, s => match body s with
    | none => none
    | some (.inl s') => jloop body n s'
    | some (.inr e) => some e
theorem jchk_elim {α : Type} {p : Prop} [Decidable p] {x : Option α} {y : α} (h : jchk p x = some y) : p ∧ x = some y := by
  unfold jchk at h
  by_cases q : p
  · rw [if_pos q] at h; exact ⟨q, h⟩
  · rw [if_neg q] at h; cases h
theorem jbind_elim {α β : Type} {x : Option α} {k : α → Option β} {y : β} (h : jbind x k = some y) : ∃ a, x = some a ∧ k a = some y := by
  cases x with
  | none => cases h
  | some a => exact ⟨a, rfl, h⟩
theorem jchk_t {α : Type} {p : Prop} [Decidable p] {x : Option α} (h : p) : jchk p x = x := if_pos h
theorem jbind_s {α β : Type} {a : α} {k : α → Option β} : jbind (some a) k = k a := rfl
/-- operations of the machine that are no ring's -/
def jshl (a b : Int) : Int := (Int32.ofInt a <<< (Int32.ofInt b &&& 31)).toInt
def jshr (a b : Int) : Int := (Int32.ofInt a >>> (Int32.ofInt b &&& 31)).toInt
def jand (a b : Int) : Int := (Int32.ofInt a &&& Int32.ofInt b).toInt
def jor (a b : Int) : Int := (Int32.ofInt a ||| Int32.ofInt b).toInt
def jirem (a b : Int) : Int := (Int32.ofInt a - Int32.ofInt a / Int32.ofInt b * Int32.ofInt b).toInt
def jlshl (a b : Int) : Int := (Int64.ofInt a <<< ((Int32.ofInt b).toInt64 &&& 63)).toInt
def jlshr (a b : Int) : Int := (Int64.ofInt a >>> ((Int32.ofInt b).toInt64 &&& 63)).toInt
def jland (a b : Int) : Int := (Int64.ofInt a &&& Int64.ofInt b).toInt
def jlor (a b : Int) : Int := (Int64.ofInt a ||| Int64.ofInt b).toInt
def jldiv (a b : Int) : Int := (Int64.ofInt a / Int64.ofInt b).toInt
def jlrem (a b : Int) : Int := (Int64.ofInt a - Int64.ofInt a / Int64.ofInt b * Int64.ofInt b).toInt

/-! ===== BASE 2: the cells of a side, by their numbers ===== -/
abbrev Kd : Type := (Nat × Nat) ⊕ (Nat × List (Nat × Nat))
def sv (ad : Nat → Nat) (t : Nat × Nat) (v : Int) : Value := match t.1 with
  | 0 => .int (Int32.ofInt v)
  | 1 => .long (Int64.ofInt v)
  | 2 => .ref (ad t.2)
  | _ => .ref (ad v.toNat)
def ce (cs : Nat → ClassId) (ad : Nat → Nat) (t : Kd) (f : Nat → Int) : va_E := match t with
  | .inl (0, n) => .inl (cs 0, n, .inl (fun j => Int32.ofInt (f j)))
  | .inl (1, n) => .inl (cs 1, n, .inr (.inl (fun j => Int64.ofInt (f j))))
  | .inl (_, n) => .inl (cs 2, n, .inl (fun j => Int32.ofInt (f j)))
  | .inr (ci, sl) => .inr (ci, sl.mapIdx (fun j t => sv ad t (f j)))
def wd (cs : Nat → ClassId) (ad : Nat → Nat) (T : List Kd) (σ : St) : va_W := T.mapIdx (fun k t => (ad k, ce cs ad t (σ k)))
def tyL (cs : Nat → ClassId) : List (ClassId × FieldType) := [(cs 0, .int), (cs 1, .long), (cs 2, .boolean)]
theorem wd_get {cs : Nat → ClassId} {ad : Nat → Nat} {T : List Kd} {σ : St} {k : Nat} {t : Kd} (h : T[k]? = some t) : (wd cs ad T σ)[k]? = some (ad k, ce cs ad t (σ k)) := by
  unfold wd
  rw [List.getElem?_mapIdx, h]
  rfl
theorem wd_inv {cs : Nat → ClassId} {ad : Nat → Nat} {T : List Kd} {σ : St} {k : Nat} {q : Nat × va_E} (h : (wd cs ad T σ)[k]? = some q) : k < T.length ∧ q.1 = ad k := by
  unfold wd at h
  rw [List.getElem?_mapIdx] at h
  cases ht : T[k]? with
  | none => rw [ht] at h; cases h
  | some t =>
    rw [ht] at h
    cases h
    exact ⟨(List.getElem?_eq_some_iff.mp ht).1, rfl⟩
theorem wd_set {cs : Nat → ClassId} {ad : Nat → Nat} {T : List Kd} {σ : St} {k : Nat} {t : Kd} {g : Nat → Int} {e : va_E} (h : T[k]? = some t) (he : ce cs ad t g = e) : (wd cs ad T σ).set k (ad k, e) = wd cs ad T (upr σ k g) := by
  have hk : k < T.length := (List.getElem?_eq_some_iff.mp h).1
  refine List.ext_getElem? (fun i => ?_)
  by_cases hi : i = k
  · subst hi
    rw [List.getElem?_set_self (by unfold wd; rw [List.length_mapIdx]; exact hk), wd_get h, ← he]
    simp [upr]
  · rw [List.getElem?_set_ne (fun q => hi q.symm)]
    unfold wd
    rw [List.getElem?_mapIdx, List.getElem?_mapIdx]
    simp [upr, hi]
theorem wd_len {cs : Nat → ClassId} {ad : Nat → Nat} {T : List Kd} {σ : St} : (wd cs ad T σ).length = T.length := by unfold wd; rw [List.length_mapIdx]
/-- the cells that a side may change -/
def AW (ad : Nat → Nat) (n sz : Nat) : Nat → Prop := fun q => (∃ k, k < n ∧ q = ad k) ∨ sz ≤ q
def adI (ad : Nat → Nat) (n : Nat) : Prop := ∀ i j, i < n → j < n → ad i = ad j → i = j
theorem wd_D {cs : Nat → ClassId} {ad : Nat → Nat} {T : List Kd} {σ : St} {A : Nat → Prop} (h : adI ad T.length) (hA : ∀ k, k < T.length → A (ad k)) : va_D A (wd cs ad T σ) := by
  refine ⟨fun i j p q hp hq e => ?_, fun k q hq => ?_⟩
  · obtain ⟨a1, a2⟩ := wd_inv hp
    obtain ⟨b1, b2⟩ := wd_inv hq
    exact h i j a1 b1 (by rw [← a2, ← b2]; exact e)
  · obtain ⟨a1, a2⟩ := wd_inv hq
    rw [a2]; exact hA k a1
theorem sl_set {ad : Nat → Nat} {sl : List (Nat × Nat)} {f : Nat → Int} {j : Nat} {t : Nat × Nat} {v : Int} {w : Value} (hj : sl[j]? = some t) (hv : sv ad t v = w) : (sl.mapIdx (fun i t => sv ad t (f i))).set j w = sl.mapIdx (fun i t => sv ad t (up1 f j v i)) := by
  have hk : j < sl.length := (List.getElem?_eq_some_iff.mp hj).1
  refine List.ext_getElem? (fun i => ?_)
  by_cases hi : i = j
  · subst hi
    rw [List.getElem?_set_self (by rw [List.length_mapIdx]; exact hk), List.getElem?_mapIdx, hj, ← hv]
    simp [up1]
  · rw [List.getElem?_set_ne (fun q => hi q.symm), List.getElem?_mapIdx, List.getElem?_mapIdx]
    simp [up1, hi]
theorem sl_get {ad : Nat → Nat} {sl : List (Nat × Nat)} {f : Nat → Int} {j : Nat} {t : Nat × Nat} (hj : sl[j]? = some t) : (sl.mapIdx (fun i t => sv ad t (f i)))[j]? = some (sv ad t (f j)) := by
  rw [List.getElem?_mapIdx, hj]; rfl
end
section
/-! ===== BASE 3: what a method of a side stands on ===== -/
def lstN (j : Nat) : Int := if j = 4 then 1 else 0
def mstN (j : Nat) : Int := if j = 1 then 1000000 else if j = 2 then 999999 else if j = 4 then 15 else 0
/-- what holds of the start beside the side's own cells: words of nest mates, two tables of the class that nobody writes -/
def XS (NW : List Cond) (A : Nat → Prop) (U : State) : Prop := (∀ a i x h, Cond.methodLinkNest a i x h ∈ NW → va_Nw (.methodLinkNest a i x h) U) ∧ ∃ t1 t2 : Nat, va_Z "WellMap" "LEAST_NUMBER" "[I" (.ref t1) A U U.heap ∧ va_T .int t1 5 (fun j => iv (lstN j)) A U U.heap ∧ va_Z "WellMap" "MOST_NUMBER" "[I" (.ref t2) A U U.heap ∧ va_T .int t2 5 (fun j => iv (mstN j)) A U U.heap
theorem XS.call {NW : List Cond} {A : Nat → Prop} {U : State} (h : XS NW A U) (g : JFrame) (mk : MethodId) (a : Array Value) : XS NW A (U.calling g mk a) := by
  obtain ⟨h1, t1, t2, z1, w1, z2, w2⟩ := h
  have hv : U.vm.Alike (U.calling g mk a).vm := Vm.Alike.refl U.vm
  exact ⟨fun a i x h hm => va_Nw.same rfl rfl (h1 a i x h hm), t1, t2, z1.moved hv, w1.moved hv, z2.moved hv, w2.moved hv⟩
theorem XS.warm {NW : List Cond} {A B : Nat → Prop} {s U : State} {H : Heap} {locs : List Loc} (h : XS NW A s) (hS : va_S A s.heap H locs) (hU : U.heap = H) (hW : s.WarmedH U.vm) (hAB : ∀ q, B q → A q) : XS NW B U := by
  obtain ⟨h1, t1, t2, z1, w1, z2, w2⟩ := h
  subst hU
  exact ⟨fun a i x h hm => va_Nw.warmM hW (h1 a i x h hm), t1, t2, ((z1.moved hW.alike).kept hS.2.1).narrow hAB, ((w1.moved hW.alike).kept hS.2.1).narrow hAB, ((z2.moved hW.alike).kept hS.2.1).narrow hAB, ((w2.moved hW.alike).kept hS.2.1).narrow hAB⟩
def MX (cl : List vw_C) (WS NW : List Cond) (p : Program) (s : State) (m : MethodId) (args : Array Value) (meth : Method) (c : Code) (cc : ByteArray) (nL : Nat) (own : String) (ret : Option FieldType) (D : va_G) (cs : Nat → ClassId) (ad : Nat → Nat) (n : Nat) (A : Nat → Prop) : Prop :=
  CallFix p m c cc nL s args WS own ∧ va_K D cl (tyL cs) s ∧ (∀ q, s.heap.size ≤ q → A q) ∧ adI ad n ∧ (∀ k, k < n → A (ad k)) ∧ meth.locks = false ∧ meth.sig.returnType = ret ∧ XS NW A s
def GW (cl : List vw_C) (D : va_G) (cs : Nat → ClassId) (ad : Nat → Nat) (T : List Kd) (A : Nat → Prop) (H0 H : Heap) (locs : List Loc) (σ : St) : Prop := va_P D cl (wd cs ad T σ) H ∧ va_S A H0 H locs
/-- a side's world at a state: at a method's entry, and behind it -/
def PU (cl : List vw_C) (NW : List Cond) (D : va_G) (cs : Nat → ClassId) (ad : Nat → Nat) (T : List Kd) (sz : Nat) (σ : St) (U : State) : Prop := U.heap.size = sz ∧ va_P D cl (wd cs ad T σ) U.heap ∧ va_K D cl (tyL cs) U ∧ adI ad T.length ∧ XS NW (AW ad T.length sz) U
def BU (cl : List vw_C) (D : va_G) (cs : Nat → ClassId) (ad : Nat → Nat) (T : List Kd) (σ : St) (t : State) : Prop := va_P D cl (wd cs ad T σ) t.heap
/-- contracts: the method answers what the pure function does, by the kind of its answer -/
def CtrI (cl : List vw_C) (WS NW : List Cond) (T : List Kd) (l : Launch) (y : MethodName) (cc : ByteArray) (maxL : Nat) (ret : Option FieldType) (rm : Room) (as : (Nat → Nat) → List Value) (σ : St) (res : Option (Int × St)) : Prop :=
  ∀ v σ', res = some (v, σ') → ∀ D cs ad sz, Met l y (Cond.code y cc maxL ret :: WS) rm (va_Pc (as ad) (PU cl NW D cs ad T sz σ)) (va_Qi (fun r u => r = Int32.ofInt v ∧ u = σ') (BU cl D cs ad T) (AW ad T.length sz)) 0 0 (AW ad T.length sz)
def CtrL (cl : List vw_C) (WS NW : List Cond) (T : List Kd) (l : Launch) (y : MethodName) (cc : ByteArray) (maxL : Nat) (ret : Option FieldType) (rm : Room) (as : (Nat → Nat) → List Value) (σ : St) (res : Option (Int × St)) : Prop :=
  ∀ v σ', res = some (v, σ') → ∀ D cs ad sz, Met l y (Cond.code y cc maxL ret :: WS) rm (va_Pc (as ad) (PU cl NW D cs ad T sz σ)) (va_Ql (fun r u => r = Int64.ofInt v ∧ u = σ') (BU cl D cs ad T) (AW ad T.length sz)) 0 0 (AW ad T.length sz)
def CtrV (cl : List vw_C) (WS NW : List Cond) (T : List Kd) (l : Launch) (y : MethodName) (cc : ByteArray) (maxL : Nat) (ret : Option FieldType) (rm : Room) (as : (Nat → Nat) → List Value) (σ : St) (res : Option St) : Prop :=
  ∀ σ', res = some σ' → ∀ D cs ad sz, Met l y (Cond.code y cc maxL ret :: WS) rm (va_Pc (as ad) (PU cl NW D cs ad T sz σ)) (va_Qv (fun u => u = σ') (BU cl D cs ad T) (AW ad T.length sz)) 0 0 (AW ad T.length sz)
/-- an answer that is a cell of the side, by its number -/
def CtrR (cl : List vw_C) (WS NW : List Cond) (T : List Kd) (l : Launch) (y : MethodName) (cc : ByteArray) (maxL : Nat) (ret : Option FieldType) (rm : Room) (as : (Nat → Nat) → List Value) (σ : St) (res : Option (Nat × St)) : Prop :=
  ∀ v σ', res = some (v, σ') → ∀ D cs ad sz, Met l y (Cond.code y cc maxL ret :: WS) rm (va_Pc (as ad) (PU cl NW D cs ad T sz σ)) (va_Qr (fun u => u = σ') (fun u a t => a = ad v ∧ BU cl D cs ad T u t) (AW ad T.length sz)) 0 0 (AW ad T.length sz)
/-- a reader's answer, with the state as it was -/
def rd {α : Type} (x : Option α) (σ : St) : Option (α × St) := match x with
  | some a => some (a, σ)
  | none => none
theorem rd_s {α : Type} {a : α} {σ : St} : rd (some a) σ = some (a, σ) := rfl
theorem rd_elim {α : Type} {x : Option α} {σ : St} {a : α} {τ : St} (h : rd x σ = some (a, τ)) : x = some a ∧ τ = σ := by
  cases x with
  | none => cases h
  | some b => cases h; exact ⟨rfl, rfl⟩
/-- the words of a call of an own method, its receiver's class the method's own -/
def LinkV (WS : List Cond) (own : String) (index : Nat) (y : MethodName) (bytes : ByteArray) (maxL : Nat) (ret : Option FieldType) (n : Nat) : Prop :=
  GoodIn WS (wsV own index y.cls y (Cond.code y bytes maxL ret :: WS)) ∧ (y.cls = y.cls ∧ y.cls ≠ "java/lang/invoke/MethodHandle" ∧ y.cls ≠ "java/lang/invoke/VarHandle" ∧ (parseMethodDescriptor y.desc).map (fun d => d.parameters.length) = some n)
def LinkS (WS : List Cond) (own : String) (index : Nat) (y : MethodName) (bytes : ByteArray) (maxL : Nat) (ret : Option FieldType) (n : Nat) : Prop :=
  GoodIn WS (va_wsS own index y (Cond.code y bytes maxL ret :: WS)) ∧ (y.cls ≠ "java/lang/invoke/MethodHandle" ∧ y.cls ≠ "java/lang/invoke/VarHandle" ∧ (parseMethodDescriptor y.desc).map (fun d => d.parameters.length) = some n)
def LinkN (WS NW : List Cond) (own : String) (index : Nat) (y : MethodName) (host : String) (bytes : ByteArray) (maxL : Nat) (ret : Option FieldType) (n : Nat) : Prop :=
  GoodIn WS (Cond.code y bytes maxL ret :: WS) ∧ Cond.methodLinkNest own index y host ∈ NW ∧ Cond.initialized y.cls ∈ WS ∧ Cond.static y ∈ WS ∧ (y.cls ≠ "java/lang/invoke/MethodHandle" ∧ y.cls ≠ "java/lang/invoke/VarHandle" ∧ (parseMethodDescriptor y.desc).map (fun d => d.parameters.length) = some n)
theorem linkV_of {WS : List Cond} {own : String} {index : Nat} {y : MethodName} {bytes : ByteArray} {maxL : Nat} {ret : Option FieldType} {n : Nat} (hg : ∀ w ∈ WS, (w.onTables && w.keeps) = true ∨ ∃ ty, w = .arrayClass ty) (h1 : Cond.methodLink own index y ∈ WS) (h2 : Cond.instanceMethod y ∈ WS) (h3 : Cond.selects y.cls y y ∈ WS) (h4 : Cond.initialized y.cls ∈ WS) (h5 : Cond.code y bytes maxL ret ∈ WS) (hd : y.cls ≠ "java/lang/invoke/MethodHandle" ∧ y.cls ≠ "java/lang/invoke/VarHandle" ∧ (parseMethodDescriptor y.desc).map (fun d => d.parameters.length) = some n) : LinkV WS own index y bytes maxL ret n := by
  refine ⟨fun w hw => ?_, rfl, hd⟩
  have hm : w ∈ WS := by
    unfold wsV at hw
    rcases List.mem_append.mp hw with h | h
    · simp only [List.mem_cons, List.not_mem_nil, or_false] at h
      rcases h with rfl | rfl | rfl | rfl <;> assumption
    · rcases List.mem_cons.mp h with rfl | h
      · exact h5
      · exact h
  exact ⟨hm, hg w hm⟩
theorem linkS_of {WS : List Cond} {own : String} {index : Nat} {y : MethodName} {bytes : ByteArray} {maxL : Nat} {ret : Option FieldType} {n : Nat} (hg : ∀ w ∈ WS, (w.onTables && w.keeps) = true ∨ ∃ ty, w = .arrayClass ty) (h1 : Cond.methodLink own index y ∈ WS) (h2 : Cond.static y ∈ WS) (h4 : Cond.initialized y.cls ∈ WS) (h5 : Cond.code y bytes maxL ret ∈ WS) (hd : y.cls ≠ "java/lang/invoke/MethodHandle" ∧ y.cls ≠ "java/lang/invoke/VarHandle" ∧ (parseMethodDescriptor y.desc).map (fun d => d.parameters.length) = some n) : LinkS WS own index y bytes maxL ret n := by
  refine ⟨fun w hw => ?_, hd⟩
  have hm : w ∈ WS := by
    unfold va_wsS at hw
    rcases List.mem_append.mp hw with h | h
    · simp only [List.mem_cons, List.not_mem_nil, or_false] at h
      rcases h with rfl | rfl | rfl <;> assumption
    · rcases List.mem_cons.mp h with rfl | h
      · exact h5
      · exact h
  exact ⟨hm, hg w hm⟩
theorem linkN_of {WS NW : List Cond} {own : String} {index : Nat} {y : MethodName} {host : String} {bytes : ByteArray} {maxL : Nat} {ret : Option FieldType} {n : Nat} (hg : ∀ w ∈ WS, (w.onTables && w.keeps) = true ∨ ∃ ty, w = .arrayClass ty) (h1 : Cond.methodLinkNest own index y host ∈ NW) (h2 : Cond.static y ∈ WS) (h4 : Cond.initialized y.cls ∈ WS) (h5 : Cond.code y bytes maxL ret ∈ WS) (hd : y.cls ≠ "java/lang/invoke/MethodHandle" ∧ y.cls ≠ "java/lang/invoke/VarHandle" ∧ (parseMethodDescriptor y.desc).map (fun d => d.parameters.length) = some n) : LinkN WS NW own index y host bytes maxL ret n := by
  refine ⟨fun w hw => ?_, h1, h4, h2, hd⟩
  have hm : w ∈ WS := by
    rcases List.mem_cons.mp hw with rfl | h
    · exact h5
    · exact h
  exact ⟨hm, hg w hm⟩
section ROWS
variable {p : Program} {l : Launch} {e : Env} {R : Room} {s : State} {m : MethodId} {args : Array Value} {below : List Frame} {meth : Method} {c : Code} {H : Heap} {locs : List Loc} {Q : State → Prop}
variable {cl : List vw_C} {WS NW : List Cond} {cc : ByteArray} {nL : Nat} {own : String} {ret : Option FieldType} {D : va_G} {cs : Nat → ClassId} {ad : Nat → Nat} {T : List Kd} {A : Nat → Prop} {σ : St}
variable {pc : Nat} {ls : Array Slot} {st : List Value}
theorem MX_D (F : MX cl WS NW p s m args meth c cc nL own ret D cs ad T.length A) : va_D A (wd cs ad T σ) := wd_D F.2.2.2.1 F.2.2.2.2.1
/-- a guard, a name for a number, a branch -/
theorem r_topI {β : Type} {x : Int} {k : Int → Option β} {y : β} (hf : jlet x k = some y) (kk : ∀ z, k z = some y → W p l e R s m args below meth c H locs 0 0 Q (F0 m pc ls (iv z :: st))) : W p l e R s m args below meth c H locs 0 0 Q (F0 m pc ls (iv x :: st)) := kk x hf
theorem r_topJ {β : Type} {x : Int} {k : Int → Option β} {y : β} (hf : jlet x k = some y) (kk : ∀ z, k z = some y → W p l e R s m args below meth c H locs 0 0 Q (F0 m pc ls (jv z :: st))) : W p l e R s m args below meth c H locs 0 0 Q (F0 m pc ls (jv x :: st)) := kk x hf
theorem r_bipush (F : MX cl WS NW p s m args meth c cc nL own ret D cs ad T.length A) {n : Int} (d : decode cc pc = .ok (.bipush n, 2)) (hv : (Int8.ofInt n).toInt32 = Int32.ofInt n) (k : W p l e R s m args below meth c H locs 0 0 Q (F0 m (pc + 2) ls (iv n :: st))) : W p l e R s m args below meth c H locs 0 0 Q (F0 m pc ls st) := lv_bipush F.1.1 F.1.2.1 d hv k
theorem r_sipush (F : MX cl WS NW p s m args meth c cc nL own ret D cs ad T.length A) {n : Int} (d : decode cc pc = .ok (.sipush n, 3)) (hv : (Int16.ofInt n).toInt32 = Int32.ofInt n) (k : W p l e R s m args below meth c H locs 0 0 Q (F0 m (pc + 3) ls (iv n :: st))) : W p l e R s m args below meth c H locs 0 0 Q (F0 m pc ls st) := lv_sipush F.1.1 F.1.2.1 d hv k
theorem r_iconst (F : MX cl WS NW p s m args meth c cc nL own ret D cs ad T.length A) {n : Int} (d : decode cc pc = .ok (.iconst n, 1)) (k : W p l e R s m args below meth c H locs 0 0 Q (F0 m (pc + 1) ls (iv n :: st))) : W p l e R s m args below meth c H locs 0 0 Q (F0 m pc ls st) := lv_iconst F.1.1 F.1.2.1 d rfl k
theorem r_ldc (F : MX cl WS NW p s m args meth c cc nL own ret D cs ad T.length A) {n : Int} {i : Nat} {v : Int32} (hv : v = Int32.ofInt n) (hw : Cond.constant own i v ∈ WS) (d : decode cc pc = .ok (.ldc i, 2)) (k : W p l e R s m args below meth c H locs 0 0 Q (F0 m (pc + 2) ls (iv n :: st))) : W p l e R s m args below meth c H locs 0 0 Q (F0 m pc ls st) := by
  subst hv
  exact lv_ldc F.1.1 F.1.2.1 F.1.2.2.2.1 (F.1.2.2.2.2 _ hw) d k
theorem r_ldc2 (F : MX cl WS NW p s m args meth c cc nL own ret D cs ad T.length A) {n : Int} {i : Nat} {v : Int64} (hv : v = Int64.ofInt n) (hw : Cond.constantLong own i v ∈ WS) (d : decode cc pc = .ok (.ldc2_w i, 3)) (k : W p l e R s m args below meth c H locs 0 0 Q (F0 m (pc + 3) ls (jv n :: st))) : W p l e R s m args below meth c H locs 0 0 Q (F0 m pc ls st) := by
  subst hv
  exact lv_ldc2 F.1.1 F.1.2.1 F.1.2.2.2.1 (F.1.2.2.2.2 _ hw) d k
theorem r_lconst (F : MX cl WS NW p s m args meth c cc nL own ret D cs ad T.length A) {n : Int} {i : Fin 2} (d : decode cc pc = .ok (.lconst i, 1)) (hv : Int64.ofNat (i : Nat) = Int64.ofInt n) (k : W p l e R s m args below meth c H locs 0 0 Q (F0 m (pc + 1) ls (jv n :: st))) : W p l e R s m args below meth c H locs 0 0 Q (F0 m pc ls st) := lv_lconst F.1.1 F.1.2.1 d hv k
theorem r_iadd (F : MX cl WS NW p s m args meth c cc nL own ret D cs ad T.length A) {a b : Int} (d : decode cc pc = .ok (.iadd, 1)) (k : W p l e R s m args below meth c H locs 0 0 Q (F0 m (pc + 1) ls (iv (a + b) :: st))) : W p l e R s m args below meth c H locs 0 0 Q (F0 m pc ls (iv b :: iv a :: st)) := lv_iadd F.1.1 F.1.2.1 d (by rw [← Int32.ofInt_add]; exact k)
theorem r_isub (F : MX cl WS NW p s m args meth c cc nL own ret D cs ad T.length A) {a b : Int} (d : decode cc pc = .ok (.isub, 1)) (k : W p l e R s m args below meth c H locs 0 0 Q (F0 m (pc + 1) ls (iv (a - b) :: st))) : W p l e R s m args below meth c H locs 0 0 Q (F0 m pc ls (iv b :: iv a :: st)) := lv_isub F.1.1 F.1.2.1 d (by rw [← Int32.ofInt_sub]; exact k)
theorem r_imul (F : MX cl WS NW p s m args meth c cc nL own ret D cs ad T.length A) {a b : Int} (d : decode cc pc = .ok (.imul, 1)) (k : W p l e R s m args below meth c H locs 0 0 Q (F0 m (pc + 1) ls (iv (a * b) :: st))) : W p l e R s m args below meth c H locs 0 0 Q (F0 m pc ls (iv b :: iv a :: st)) := lv_imul F.1.1 F.1.2.1 d (by rw [← Int32.ofInt_mul]; exact k)
theorem r_ineg (F : MX cl WS NW p s m args meth c cc nL own ret D cs ad T.length A) {a : Int} (d : decode cc pc = .ok (.ineg, 1)) (k : W p l e R s m args below meth c H locs 0 0 Q (F0 m (pc + 1) ls (iv (-a) :: st))) : W p l e R s m args below meth c H locs 0 0 Q (F0 m pc ls (iv a :: st)) := lv_ineg F.1.1 F.1.2.1 d (by rw [← Int32.ofInt_neg]; exact k)
theorem r_ladd (F : MX cl WS NW p s m args meth c cc nL own ret D cs ad T.length A) {a b : Int} (d : decode cc pc = .ok (.ladd, 1)) (k : W p l e R s m args below meth c H locs 0 0 Q (F0 m (pc + 1) ls (jv (a + b) :: st))) : W p l e R s m args below meth c H locs 0 0 Q (F0 m pc ls (jv b :: jv a :: st)) := lv_ladd F.1.1 F.1.2.1 d (by rw [← Int64.ofInt_add]; exact k)
theorem r_lsub (F : MX cl WS NW p s m args meth c cc nL own ret D cs ad T.length A) {a b : Int} (d : decode cc pc = .ok (.lsub, 1)) (k : W p l e R s m args below meth c H locs 0 0 Q (F0 m (pc + 1) ls (jv (a - b) :: st))) : W p l e R s m args below meth c H locs 0 0 Q (F0 m pc ls (jv b :: jv a :: st)) := lv_lsub F.1.1 F.1.2.1 d (by rw [← Int64.ofInt_sub]; exact k)
theorem r_lmul (F : MX cl WS NW p s m args meth c cc nL own ret D cs ad T.length A) {a b : Int} (d : decode cc pc = .ok (.lmul, 1)) (k : W p l e R s m args below meth c H locs 0 0 Q (F0 m (pc + 1) ls (jv (a * b) :: st))) : W p l e R s m args below meth c H locs 0 0 Q (F0 m pc ls (jv b :: jv a :: st)) := lv_lmul F.1.1 F.1.2.1 d (by rw [← Int64.ofInt_mul]; exact k)
theorem r_lneg (F : MX cl WS NW p s m args meth c cc nL own ret D cs ad T.length A) {a : Int} (d : decode cc pc = .ok (.lneg, 1)) (k : W p l e R s m args below meth c H locs 0 0 Q (F0 m (pc + 1) ls (jv (-a) :: st))) : W p l e R s m args below meth c H locs 0 0 Q (F0 m pc ls (jv a :: st)) := lv_lneg F.1.1 F.1.2.1 d (by rw [← Int64.ofInt_neg]; exact k)
theorem r_ishl (F : MX cl WS NW p s m args meth c cc nL own ret D cs ad T.length A) {a b : Int} (d : decode cc pc = .ok (.ishl, 1)) (k : W p l e R s m args below meth c H locs 0 0 Q (F0 m (pc + 1) ls (iv (jshl a b) :: st))) : W p l e R s m args below meth c H locs 0 0 Q (F0 m pc ls (iv b :: iv a :: st)) := lv_ishl F.1.1 F.1.2.1 d (by rw [← Int32.ofInt_toInt (_ <<< _)]; exact k)
theorem r_ishr (F : MX cl WS NW p s m args meth c cc nL own ret D cs ad T.length A) {a b : Int} (d : decode cc pc = .ok (.ishr, 1)) (k : W p l e R s m args below meth c H locs 0 0 Q (F0 m (pc + 1) ls (iv (jshr a b) :: st))) : W p l e R s m args below meth c H locs 0 0 Q (F0 m pc ls (iv b :: iv a :: st)) := lv_ishr F.1.1 F.1.2.1 d (by rw [← Int32.ofInt_toInt (_ >>> _)]; exact k)
theorem r_iand (F : MX cl WS NW p s m args meth c cc nL own ret D cs ad T.length A) {a b : Int} (d : decode cc pc = .ok (.iand, 1)) (k : W p l e R s m args below meth c H locs 0 0 Q (F0 m (pc + 1) ls (iv (jand a b) :: st))) : W p l e R s m args below meth c H locs 0 0 Q (F0 m pc ls (iv b :: iv a :: st)) := lv_iand F.1.1 F.1.2.1 d (by rw [← Int32.ofInt_toInt (_ &&& _)]; exact k)
theorem r_ior (F : MX cl WS NW p s m args meth c cc nL own ret D cs ad T.length A) {a b : Int} (d : decode cc pc = .ok (.ior, 1)) (k : W p l e R s m args below meth c H locs 0 0 Q (F0 m (pc + 1) ls (iv (jor a b) :: st))) : W p l e R s m args below meth c H locs 0 0 Q (F0 m pc ls (iv b :: iv a :: st)) := lv_ior F.1.1 F.1.2.1 d (by rw [← Int32.ofInt_toInt (_ ||| _)]; exact k)
theorem r_land (F : MX cl WS NW p s m args meth c cc nL own ret D cs ad T.length A) {a b : Int} (d : decode cc pc = .ok (.land, 1)) (k : W p l e R s m args below meth c H locs 0 0 Q (F0 m (pc + 1) ls (jv (jland a b) :: st))) : W p l e R s m args below meth c H locs 0 0 Q (F0 m pc ls (jv b :: jv a :: st)) := lv_land F.1.1 F.1.2.1 d (by rw [← Int64.ofInt_toInt (_ &&& _)]; exact k)
theorem r_lor (F : MX cl WS NW p s m args meth c cc nL own ret D cs ad T.length A) {a b : Int} (d : decode cc pc = .ok (.lor, 1)) (k : W p l e R s m args below meth c H locs 0 0 Q (F0 m (pc + 1) ls (jv (jlor a b) :: st))) : W p l e R s m args below meth c H locs 0 0 Q (F0 m pc ls (jv b :: jv a :: st)) := lv_lor F.1.1 F.1.2.1 d (by rw [← Int64.ofInt_toInt (_ ||| _)]; exact k)
theorem r_lshl (F : MX cl WS NW p s m args meth c cc nL own ret D cs ad T.length A) {a b : Int} (d : decode cc pc = .ok (.lshl, 1)) (k : W p l e R s m args below meth c H locs 0 0 Q (F0 m (pc + 1) ls (jv (jlshl a b) :: st))) : W p l e R s m args below meth c H locs 0 0 Q (F0 m pc ls (iv b :: jv a :: st)) := lv_lshl F.1.1 F.1.2.1 d (v := Int64.ofInt (jlshl a b)) (by unfold jlshl; rw [Int64.ofInt_toInt]) k
theorem r_lshr (F : MX cl WS NW p s m args meth c cc nL own ret D cs ad T.length A) {a b : Int} (d : decode cc pc = .ok (.lshr, 1)) (k : W p l e R s m args below meth c H locs 0 0 Q (F0 m (pc + 1) ls (jv (jlshr a b) :: st))) : W p l e R s m args below meth c H locs 0 0 Q (F0 m pc ls (iv b :: jv a :: st)) := lv_lshr F.1.1 F.1.2.1 d (v := Int64.ofInt (jlshr a b)) (by unfold jlshr; rw [Int64.ofInt_toInt]) k
theorem r_irem (F : MX cl WS NW p s m args meth c cc nL own ret D cs ad T.length A) {a b : Int} {β : Type} {X : Option β} {y : β} (hf : jchk (inI b ∧ b ≠ 0) X = some y) (d : decode cc pc = .ok (.irem, 1)) (k : X = some y → W p l e R s m args below meth c H locs 0 0 Q (F0 m (pc + 1) ls (iv (jirem a b) :: st))) : W p l e R s m args below meth c H locs 0 0 Q (F0 m pc ls (iv b :: iv a :: st)) := by
  obtain ⟨⟨h1, h2⟩, hf⟩ := jchk_elim hf
  refine lv_irem F.1.1 F.1.2.1 d (fun q => h2 ?_) (by rw [← Int32.ofInt_toInt (_ - _)]; exact k hf)
  rw [← oI_0] at q
  exact (oI_eq h1 ⟨by omega, by omega⟩).mp q
theorem r_ldiv (F : MX cl WS NW p s m args meth c cc nL own ret D cs ad T.length A) {a b : Int} {β : Type} {X : Option β} {y : β} (hf : jchk (inL b ∧ b ≠ 0) X = some y) (d : decode cc pc = .ok (.ldiv, 1)) (k : X = some y → W p l e R s m args below meth c H locs 0 0 Q (F0 m (pc + 1) ls (jv (jldiv a b) :: st))) : W p l e R s m args below meth c H locs 0 0 Q (F0 m pc ls (jv b :: jv a :: st)) := by
  obtain ⟨⟨h1, h2⟩, hf⟩ := jchk_elim hf
  refine lv_ldiv F.1.1 F.1.2.1 d (fun q => h2 ?_) (by rw [← Int64.ofInt_toInt (_ / _)]; exact k hf)
  rw [← oL_0] at q
  exact (oL_eq h1 ⟨by omega, by omega⟩).mp q
theorem r_lrem (F : MX cl WS NW p s m args meth c cc nL own ret D cs ad T.length A) {a b : Int} {β : Type} {X : Option β} {y : β} (hf : jchk (inL b ∧ b ≠ 0) X = some y) (d : decode cc pc = .ok (.lrem, 1)) (k : X = some y → W p l e R s m args below meth c H locs 0 0 Q (F0 m (pc + 1) ls (jv (jlrem a b) :: st))) : W p l e R s m args below meth c H locs 0 0 Q (F0 m pc ls (jv b :: jv a :: st)) := by
  obtain ⟨⟨h1, h2⟩, hf⟩ := jchk_elim hf
  refine lv_lrem F.1.1 F.1.2.1 d (fun q => h2 ?_) (by rw [← Int64.ofInt_toInt (_ - _)]; exact k hf)
  rw [← oL_0] at q
  exact (oL_eq h1 ⟨by omega, by omega⟩).mp q
theorem r_i2l (F : MX cl WS NW p s m args meth c cc nL own ret D cs ad T.length A) {a : Int} {β : Type} {X : Option β} {y : β} (hf : jchk (inI a) X = some y) (d : decode cc pc = .ok (.i2l, 1)) (k : X = some y → W p l e R s m args below meth c H locs 0 0 Q (F0 m (pc + 1) ls (jv a :: st))) : W p l e R s m args below meth c H locs 0 0 Q (F0 m pc ls (iv a :: st)) := by
  obtain ⟨h1, hf⟩ := jchk_elim hf
  exact lv_i2l F.1.1 F.1.2.1 d (oIL h1) (k hf)
theorem r_l2i (F : MX cl WS NW p s m args meth c cc nL own ret D cs ad T.length A) {a : Int} (d : decode cc pc = .ok (.l2i, 1)) (k : W p l e R s m args below meth c H locs 0 0 Q (F0 m (pc + 1) ls (iv a :: st))) : W p l e R s m args below meth c H locs 0 0 Q (F0 m pc ls (jv a :: st)) := lv_l2i F.1.1 F.1.2.1 d Int64.toInt32_ofInt k
theorem r_icmp_lt (F : MX cl WS NW p s m args meth c cc nL own ret D cs ad T.length A) {a b : Int} {β : Type} {X Y : Option β} {y : β} (hf : jchk (inI a ∧ inI b) (if a < b then X else Y) = some y) {off : Int} {tgt : Nat} (d : decode cc pc = .ok (.if_icmp .lt off, 3)) (ht : (pc : Int) + off = (tgt : Int)) (kt : X = some y → W p l e R s m args below meth c H locs 0 0 Q (F0 m tgt ls st)) (kf : Y = some y → W p l e R s m args below meth c H locs 0 0 Q (F0 m (pc + 3) ls st)) : W p l e R s m args below meth c H locs 0 0 Q (F0 m pc ls (iv b :: iv a :: st)) := by
  obtain ⟨⟨ha, hb⟩, hf⟩ := jchk_elim hf
  have e1 := oI_lt ha hb
  have e2 := oI_lt hb ha
  have e3 := oI_eq ha hb
  have e4 := oI_le ha hb
  have e5 := oI_le hb ha
  by_cases q : a < b
  · rw [if_pos q] at hf
    refine lv_icmp_lt F.1.1 F.1.2.1 d ht (fun w => ?_) (fun w => ?_) <;> first | exact kt hf | (exfalso; first | omega | (simp only [ge_iff_le, gt_iff_lt, e1, e2, e3, e4, e5] at w; omega))
  · rw [if_neg q] at hf
    refine lv_icmp_lt F.1.1 F.1.2.1 d ht (fun w => ?_) (fun w => ?_) <;> first | exact kf hf | (exfalso; first | omega | (simp only [ge_iff_le, gt_iff_lt, e1, e2, e3, e4, e5] at w; omega))
theorem r_if_lt (F : MX cl WS NW p s m args meth c cc nL own ret D cs ad T.length A) {a : Int} {β : Type} {X Y : Option β} {y : β} (hf : jchk (inI a) (if a < 0 then X else Y) = some y) {off : Int} {tgt : Nat} (d : decode cc pc = .ok (.ifCond .lt off, 3)) (ht : (pc : Int) + off = (tgt : Int)) (kt : X = some y → W p l e R s m args below meth c H locs 0 0 Q (F0 m tgt ls st)) (kf : Y = some y → W p l e R s m args below meth c H locs 0 0 Q (F0 m (pc + 3) ls st)) : W p l e R s m args below meth c H locs 0 0 Q (F0 m pc ls (iv a :: st)) := by
  obtain ⟨ha, hf⟩ := jchk_elim hf
  have hb : inI 0 := ⟨by omega, by omega⟩
  have e1 := oI_lt ha hb
  have e2 := oI_lt hb ha
  have e3 := oI_eq ha hb
  have e4 := oI_le ha hb
  have e5 := oI_le hb ha
  rw [oI_0] at e1 e2 e3 e4 e5
  by_cases q : a < 0
  · rw [if_pos q] at hf
    refine lv_if_lt F.1.1 F.1.2.1 d ht (fun w => ?_) (fun w => ?_) <;> first | exact kt hf | (exfalso; first | omega | (simp only [ge_iff_le, gt_iff_lt, e1, e2, e3, e4, e5] at w; omega))
  · rw [if_neg q] at hf
    refine lv_if_lt F.1.1 F.1.2.1 d ht (fun w => ?_) (fun w => ?_) <;> first | exact kf hf | (exfalso; first | omega | (simp only [ge_iff_le, gt_iff_lt, e1, e2, e3, e4, e5] at w; omega))
theorem r_lcmp_lt (F : MX cl WS NW p s m args meth c cc nL own ret D cs ad T.length A) {a b : Int} {β : Type} {X Y : Option β} {y : β} (hf : jchk (inL a ∧ inL b) (if a < b then X else Y) = some y) {off : Int} {tgt : Nat} (d1 : decode cc pc = .ok (.lcmp, 1)) (d : decode cc (pc + 1) = .ok (.ifCond .lt off, 3)) (ht : ((pc + 1 : Nat) : Int) + off = (tgt : Int)) (kt : X = some y → W p l e R s m args below meth c H locs 0 0 Q (F0 m tgt ls st)) (kf : Y = some y → W p l e R s m args below meth c H locs 0 0 Q (F0 m (pc + 1 + 3) ls st)) : W p l e R s m args below meth c H locs 0 0 Q (F0 m pc ls (jv b :: jv a :: st)) := by
  refine W.lcmp F.1.1 F.1.2.1 d1 ?_
  obtain ⟨⟨ha, hb⟩, hf⟩ := jchk_elim hf
  have e0 : lg_cmp (Int64.ofInt a) (Int64.ofInt b) = Int32.ofInt (if b < a then 1 else if a = b then 0 else -1) := by
    unfold lg_cmp
    simp only [gt_iff_lt, oL_lt hb ha, oL_eq ha hb]
    split
    · decide
    · split
      · decide
      · decide
  rw [e0]
  have hr : inI (if b < a then 1 else if a = b then 0 else -1) := by
    split
    · exact ⟨by omega, by omega⟩
    · split
      · exact ⟨by omega, by omega⟩
      · exact ⟨by omega, by omega⟩
  refine r_if_lt F (X := X) (Y := Y) (y := y) ?_ d ht kt kf
  rw [jchk_t hr]
  by_cases q : a < b
  · rw [if_pos q] at hf
    rw [if_pos, hf]
    repeat' split
    all_goals omega
  · rw [if_neg q] at hf
    rw [if_neg, hf]
    repeat' split
    all_goals omega
theorem r_icmp_ge (F : MX cl WS NW p s m args meth c cc nL own ret D cs ad T.length A) {a b : Int} {β : Type} {X Y : Option β} {y : β} (hf : jchk (inI a ∧ inI b) (if a < b then X else Y) = some y) {off : Int} {tgt : Nat} (d : decode cc pc = .ok (.if_icmp .ge off, 3)) (ht : (pc : Int) + off = (tgt : Int)) (kt : X = some y → W p l e R s m args below meth c H locs 0 0 Q (F0 m (pc + 3) ls st)) (kf : Y = some y → W p l e R s m args below meth c H locs 0 0 Q (F0 m tgt ls st)) : W p l e R s m args below meth c H locs 0 0 Q (F0 m pc ls (iv b :: iv a :: st)) := by
  obtain ⟨⟨ha, hb⟩, hf⟩ := jchk_elim hf
  have e1 := oI_lt ha hb
  have e2 := oI_lt hb ha
  have e3 := oI_eq ha hb
  have e4 := oI_le ha hb
  have e5 := oI_le hb ha
  by_cases q : a < b
  · rw [if_pos q] at hf
    refine lv_icmp_ge F.1.1 F.1.2.1 d ht (fun w => ?_) (fun w => ?_) <;> first | exact kt hf | (exfalso; first | omega | (simp only [ge_iff_le, gt_iff_lt, e1, e2, e3, e4, e5] at w; omega))
  · rw [if_neg q] at hf
    refine lv_icmp_ge F.1.1 F.1.2.1 d ht (fun w => ?_) (fun w => ?_) <;> first | exact kf hf | (exfalso; first | omega | (simp only [ge_iff_le, gt_iff_lt, e1, e2, e3, e4, e5] at w; omega))
theorem r_if_ge (F : MX cl WS NW p s m args meth c cc nL own ret D cs ad T.length A) {a : Int} {β : Type} {X Y : Option β} {y : β} (hf : jchk (inI a) (if a < 0 then X else Y) = some y) {off : Int} {tgt : Nat} (d : decode cc pc = .ok (.ifCond .ge off, 3)) (ht : (pc : Int) + off = (tgt : Int)) (kt : X = some y → W p l e R s m args below meth c H locs 0 0 Q (F0 m (pc + 3) ls st)) (kf : Y = some y → W p l e R s m args below meth c H locs 0 0 Q (F0 m tgt ls st)) : W p l e R s m args below meth c H locs 0 0 Q (F0 m pc ls (iv a :: st)) := by
  obtain ⟨ha, hf⟩ := jchk_elim hf
  have hb : inI 0 := ⟨by omega, by omega⟩
  have e1 := oI_lt ha hb
  have e2 := oI_lt hb ha
  have e3 := oI_eq ha hb
  have e4 := oI_le ha hb
  have e5 := oI_le hb ha
  rw [oI_0] at e1 e2 e3 e4 e5
  by_cases q : a < 0
  · rw [if_pos q] at hf
    refine lv_if_ge F.1.1 F.1.2.1 d ht (fun w => ?_) (fun w => ?_) <;> first | exact kt hf | (exfalso; first | omega | (simp only [ge_iff_le, gt_iff_lt, e1, e2, e3, e4, e5] at w; omega))
  · rw [if_neg q] at hf
    refine lv_if_ge F.1.1 F.1.2.1 d ht (fun w => ?_) (fun w => ?_) <;> first | exact kf hf | (exfalso; first | omega | (simp only [ge_iff_le, gt_iff_lt, e1, e2, e3, e4, e5] at w; omega))
theorem r_lcmp_ge (F : MX cl WS NW p s m args meth c cc nL own ret D cs ad T.length A) {a b : Int} {β : Type} {X Y : Option β} {y : β} (hf : jchk (inL a ∧ inL b) (if a < b then X else Y) = some y) {off : Int} {tgt : Nat} (d1 : decode cc pc = .ok (.lcmp, 1)) (d : decode cc (pc + 1) = .ok (.ifCond .ge off, 3)) (ht : ((pc + 1 : Nat) : Int) + off = (tgt : Int)) (kt : X = some y → W p l e R s m args below meth c H locs 0 0 Q (F0 m (pc + 1 + 3) ls st)) (kf : Y = some y → W p l e R s m args below meth c H locs 0 0 Q (F0 m tgt ls st)) : W p l e R s m args below meth c H locs 0 0 Q (F0 m pc ls (jv b :: jv a :: st)) := by
  refine W.lcmp F.1.1 F.1.2.1 d1 ?_
  obtain ⟨⟨ha, hb⟩, hf⟩ := jchk_elim hf
  have e0 : lg_cmp (Int64.ofInt a) (Int64.ofInt b) = Int32.ofInt (if b < a then 1 else if a = b then 0 else -1) := by
    unfold lg_cmp
    simp only [gt_iff_lt, oL_lt hb ha, oL_eq ha hb]
    split
    · decide
    · split
      · decide
      · decide
  rw [e0]
  have hr : inI (if b < a then 1 else if a = b then 0 else -1) := by
    split
    · exact ⟨by omega, by omega⟩
    · split
      · exact ⟨by omega, by omega⟩
      · exact ⟨by omega, by omega⟩
  refine r_if_ge F (X := X) (Y := Y) (y := y) ?_ d ht kt kf
  rw [jchk_t hr]
  by_cases q : a < b
  · rw [if_pos q] at hf
    rw [if_pos, hf]
    repeat' split
    all_goals omega
  · rw [if_neg q] at hf
    rw [if_neg, hf]
    repeat' split
    all_goals omega
theorem r_icmp_gt (F : MX cl WS NW p s m args meth c cc nL own ret D cs ad T.length A) {a b : Int} {β : Type} {X Y : Option β} {y : β} (hf : jchk (inI a ∧ inI b) (if b < a then X else Y) = some y) {off : Int} {tgt : Nat} (d : decode cc pc = .ok (.if_icmp .gt off, 3)) (ht : (pc : Int) + off = (tgt : Int)) (kt : X = some y → W p l e R s m args below meth c H locs 0 0 Q (F0 m tgt ls st)) (kf : Y = some y → W p l e R s m args below meth c H locs 0 0 Q (F0 m (pc + 3) ls st)) : W p l e R s m args below meth c H locs 0 0 Q (F0 m pc ls (iv b :: iv a :: st)) := by
  obtain ⟨⟨ha, hb⟩, hf⟩ := jchk_elim hf
  have e1 := oI_lt ha hb
  have e2 := oI_lt hb ha
  have e3 := oI_eq ha hb
  have e4 := oI_le ha hb
  have e5 := oI_le hb ha
  by_cases q : b < a
  · rw [if_pos q] at hf
    refine lv_icmp_gt F.1.1 F.1.2.1 d ht (fun w => ?_) (fun w => ?_) <;> first | exact kt hf | (exfalso; first | omega | (simp only [ge_iff_le, gt_iff_lt, e1, e2, e3, e4, e5] at w; omega))
  · rw [if_neg q] at hf
    refine lv_icmp_gt F.1.1 F.1.2.1 d ht (fun w => ?_) (fun w => ?_) <;> first | exact kf hf | (exfalso; first | omega | (simp only [ge_iff_le, gt_iff_lt, e1, e2, e3, e4, e5] at w; omega))
theorem r_if_gt (F : MX cl WS NW p s m args meth c cc nL own ret D cs ad T.length A) {a : Int} {β : Type} {X Y : Option β} {y : β} (hf : jchk (inI a) (if 0 < a then X else Y) = some y) {off : Int} {tgt : Nat} (d : decode cc pc = .ok (.ifCond .gt off, 3)) (ht : (pc : Int) + off = (tgt : Int)) (kt : X = some y → W p l e R s m args below meth c H locs 0 0 Q (F0 m tgt ls st)) (kf : Y = some y → W p l e R s m args below meth c H locs 0 0 Q (F0 m (pc + 3) ls st)) : W p l e R s m args below meth c H locs 0 0 Q (F0 m pc ls (iv a :: st)) := by
  obtain ⟨ha, hf⟩ := jchk_elim hf
  have hb : inI 0 := ⟨by omega, by omega⟩
  have e1 := oI_lt ha hb
  have e2 := oI_lt hb ha
  have e3 := oI_eq ha hb
  have e4 := oI_le ha hb
  have e5 := oI_le hb ha
  rw [oI_0] at e1 e2 e3 e4 e5
  by_cases q : 0 < a
  · rw [if_pos q] at hf
    refine lv_if_gt F.1.1 F.1.2.1 d ht (fun w => ?_) (fun w => ?_) <;> first | exact kt hf | (exfalso; first | omega | (simp only [ge_iff_le, gt_iff_lt, e1, e2, e3, e4, e5] at w; omega))
  · rw [if_neg q] at hf
    refine lv_if_gt F.1.1 F.1.2.1 d ht (fun w => ?_) (fun w => ?_) <;> first | exact kf hf | (exfalso; first | omega | (simp only [ge_iff_le, gt_iff_lt, e1, e2, e3, e4, e5] at w; omega))
theorem r_lcmp_gt (F : MX cl WS NW p s m args meth c cc nL own ret D cs ad T.length A) {a b : Int} {β : Type} {X Y : Option β} {y : β} (hf : jchk (inL a ∧ inL b) (if b < a then X else Y) = some y) {off : Int} {tgt : Nat} (d1 : decode cc pc = .ok (.lcmp, 1)) (d : decode cc (pc + 1) = .ok (.ifCond .gt off, 3)) (ht : ((pc + 1 : Nat) : Int) + off = (tgt : Int)) (kt : X = some y → W p l e R s m args below meth c H locs 0 0 Q (F0 m tgt ls st)) (kf : Y = some y → W p l e R s m args below meth c H locs 0 0 Q (F0 m (pc + 1 + 3) ls st)) : W p l e R s m args below meth c H locs 0 0 Q (F0 m pc ls (jv b :: jv a :: st)) := by
  refine W.lcmp F.1.1 F.1.2.1 d1 ?_
  obtain ⟨⟨ha, hb⟩, hf⟩ := jchk_elim hf
  have e0 : lg_cmp (Int64.ofInt a) (Int64.ofInt b) = Int32.ofInt (if b < a then 1 else if a = b then 0 else -1) := by
    unfold lg_cmp
    simp only [gt_iff_lt, oL_lt hb ha, oL_eq ha hb]
    split
    · decide
    · split
      · decide
      · decide
  rw [e0]
  have hr : inI (if b < a then 1 else if a = b then 0 else -1) := by
    split
    · exact ⟨by omega, by omega⟩
    · split
      · exact ⟨by omega, by omega⟩
      · exact ⟨by omega, by omega⟩
  refine r_if_gt F (X := X) (Y := Y) (y := y) ?_ d ht kt kf
  rw [jchk_t hr]
  by_cases q : b < a
  · rw [if_pos q] at hf
    rw [if_pos, hf]
    repeat' split
    all_goals omega
  · rw [if_neg q] at hf
    rw [if_neg, hf]
    repeat' split
    all_goals omega
theorem r_icmp_le (F : MX cl WS NW p s m args meth c cc nL own ret D cs ad T.length A) {a b : Int} {β : Type} {X Y : Option β} {y : β} (hf : jchk (inI a ∧ inI b) (if b < a then X else Y) = some y) {off : Int} {tgt : Nat} (d : decode cc pc = .ok (.if_icmp .le off, 3)) (ht : (pc : Int) + off = (tgt : Int)) (kt : X = some y → W p l e R s m args below meth c H locs 0 0 Q (F0 m (pc + 3) ls st)) (kf : Y = some y → W p l e R s m args below meth c H locs 0 0 Q (F0 m tgt ls st)) : W p l e R s m args below meth c H locs 0 0 Q (F0 m pc ls (iv b :: iv a :: st)) := by
  obtain ⟨⟨ha, hb⟩, hf⟩ := jchk_elim hf
  have e1 := oI_lt ha hb
  have e2 := oI_lt hb ha
  have e3 := oI_eq ha hb
  have e4 := oI_le ha hb
  have e5 := oI_le hb ha
  by_cases q : b < a
  · rw [if_pos q] at hf
    refine lv_icmp_le F.1.1 F.1.2.1 d ht (fun w => ?_) (fun w => ?_) <;> first | exact kt hf | (exfalso; first | omega | (simp only [ge_iff_le, gt_iff_lt, e1, e2, e3, e4, e5] at w; omega))
  · rw [if_neg q] at hf
    refine lv_icmp_le F.1.1 F.1.2.1 d ht (fun w => ?_) (fun w => ?_) <;> first | exact kf hf | (exfalso; first | omega | (simp only [ge_iff_le, gt_iff_lt, e1, e2, e3, e4, e5] at w; omega))
theorem r_if_le (F : MX cl WS NW p s m args meth c cc nL own ret D cs ad T.length A) {a : Int} {β : Type} {X Y : Option β} {y : β} (hf : jchk (inI a) (if 0 < a then X else Y) = some y) {off : Int} {tgt : Nat} (d : decode cc pc = .ok (.ifCond .le off, 3)) (ht : (pc : Int) + off = (tgt : Int)) (kt : X = some y → W p l e R s m args below meth c H locs 0 0 Q (F0 m (pc + 3) ls st)) (kf : Y = some y → W p l e R s m args below meth c H locs 0 0 Q (F0 m tgt ls st)) : W p l e R s m args below meth c H locs 0 0 Q (F0 m pc ls (iv a :: st)) := by
  obtain ⟨ha, hf⟩ := jchk_elim hf
  have hb : inI 0 := ⟨by omega, by omega⟩
  have e1 := oI_lt ha hb
  have e2 := oI_lt hb ha
  have e3 := oI_eq ha hb
  have e4 := oI_le ha hb
  have e5 := oI_le hb ha
  rw [oI_0] at e1 e2 e3 e4 e5
  by_cases q : 0 < a
  · rw [if_pos q] at hf
    refine lv_if_le F.1.1 F.1.2.1 d ht (fun w => ?_) (fun w => ?_) <;> first | exact kt hf | (exfalso; first | omega | (simp only [ge_iff_le, gt_iff_lt, e1, e2, e3, e4, e5] at w; omega))
  · rw [if_neg q] at hf
    refine lv_if_le F.1.1 F.1.2.1 d ht (fun w => ?_) (fun w => ?_) <;> first | exact kf hf | (exfalso; first | omega | (simp only [ge_iff_le, gt_iff_lt, e1, e2, e3, e4, e5] at w; omega))
theorem r_lcmp_le (F : MX cl WS NW p s m args meth c cc nL own ret D cs ad T.length A) {a b : Int} {β : Type} {X Y : Option β} {y : β} (hf : jchk (inL a ∧ inL b) (if b < a then X else Y) = some y) {off : Int} {tgt : Nat} (d1 : decode cc pc = .ok (.lcmp, 1)) (d : decode cc (pc + 1) = .ok (.ifCond .le off, 3)) (ht : ((pc + 1 : Nat) : Int) + off = (tgt : Int)) (kt : X = some y → W p l e R s m args below meth c H locs 0 0 Q (F0 m (pc + 1 + 3) ls st)) (kf : Y = some y → W p l e R s m args below meth c H locs 0 0 Q (F0 m tgt ls st)) : W p l e R s m args below meth c H locs 0 0 Q (F0 m pc ls (jv b :: jv a :: st)) := by
  refine W.lcmp F.1.1 F.1.2.1 d1 ?_
  obtain ⟨⟨ha, hb⟩, hf⟩ := jchk_elim hf
  have e0 : lg_cmp (Int64.ofInt a) (Int64.ofInt b) = Int32.ofInt (if b < a then 1 else if a = b then 0 else -1) := by
    unfold lg_cmp
    simp only [gt_iff_lt, oL_lt hb ha, oL_eq ha hb]
    split
    · decide
    · split
      · decide
      · decide
  rw [e0]
  have hr : inI (if b < a then 1 else if a = b then 0 else -1) := by
    split
    · exact ⟨by omega, by omega⟩
    · split
      · exact ⟨by omega, by omega⟩
      · exact ⟨by omega, by omega⟩
  refine r_if_le F (X := X) (Y := Y) (y := y) ?_ d ht kt kf
  rw [jchk_t hr]
  by_cases q : b < a
  · rw [if_pos q] at hf
    rw [if_pos, hf]
    repeat' split
    all_goals omega
  · rw [if_neg q] at hf
    rw [if_neg, hf]
    repeat' split
    all_goals omega
theorem r_icmp_eq (F : MX cl WS NW p s m args meth c cc nL own ret D cs ad T.length A) {a b : Int} {β : Type} {X Y : Option β} {y : β} (hf : jchk (inI a ∧ inI b) (if a = b then X else Y) = some y) {off : Int} {tgt : Nat} (d : decode cc pc = .ok (.if_icmp .eq off, 3)) (ht : (pc : Int) + off = (tgt : Int)) (kt : X = some y → W p l e R s m args below meth c H locs 0 0 Q (F0 m tgt ls st)) (kf : Y = some y → W p l e R s m args below meth c H locs 0 0 Q (F0 m (pc + 3) ls st)) : W p l e R s m args below meth c H locs 0 0 Q (F0 m pc ls (iv b :: iv a :: st)) := by
  obtain ⟨⟨ha, hb⟩, hf⟩ := jchk_elim hf
  have e1 := oI_lt ha hb
  have e2 := oI_lt hb ha
  have e3 := oI_eq ha hb
  have e4 := oI_le ha hb
  have e5 := oI_le hb ha
  by_cases q : a = b
  · rw [if_pos q] at hf
    refine lv_icmp_eq F.1.1 F.1.2.1 d ht (fun w => ?_) (fun w => ?_) <;> first | exact kt hf | (exfalso; first | omega | (simp only [ge_iff_le, gt_iff_lt, e1, e2, e3, e4, e5] at w; omega))
  · rw [if_neg q] at hf
    refine lv_icmp_eq F.1.1 F.1.2.1 d ht (fun w => ?_) (fun w => ?_) <;> first | exact kf hf | (exfalso; first | omega | (simp only [ge_iff_le, gt_iff_lt, e1, e2, e3, e4, e5] at w; omega))
theorem r_if_eq (F : MX cl WS NW p s m args meth c cc nL own ret D cs ad T.length A) {a : Int} {β : Type} {X Y : Option β} {y : β} (hf : jchk (inI a) (if a = 0 then X else Y) = some y) {off : Int} {tgt : Nat} (d : decode cc pc = .ok (.ifCond .eq off, 3)) (ht : (pc : Int) + off = (tgt : Int)) (kt : X = some y → W p l e R s m args below meth c H locs 0 0 Q (F0 m tgt ls st)) (kf : Y = some y → W p l e R s m args below meth c H locs 0 0 Q (F0 m (pc + 3) ls st)) : W p l e R s m args below meth c H locs 0 0 Q (F0 m pc ls (iv a :: st)) := by
  obtain ⟨ha, hf⟩ := jchk_elim hf
  have hb : inI 0 := ⟨by omega, by omega⟩
  have e1 := oI_lt ha hb
  have e2 := oI_lt hb ha
  have e3 := oI_eq ha hb
  have e4 := oI_le ha hb
  have e5 := oI_le hb ha
  rw [oI_0] at e1 e2 e3 e4 e5
  by_cases q : a = 0
  · rw [if_pos q] at hf
    refine lv_if_eq F.1.1 F.1.2.1 d ht (fun w => ?_) (fun w => ?_) <;> first | exact kt hf | (exfalso; first | omega | (simp only [ge_iff_le, gt_iff_lt, e1, e2, e3, e4, e5] at w; omega))
  · rw [if_neg q] at hf
    refine lv_if_eq F.1.1 F.1.2.1 d ht (fun w => ?_) (fun w => ?_) <;> first | exact kf hf | (exfalso; first | omega | (simp only [ge_iff_le, gt_iff_lt, e1, e2, e3, e4, e5] at w; omega))
theorem r_lcmp_eq (F : MX cl WS NW p s m args meth c cc nL own ret D cs ad T.length A) {a b : Int} {β : Type} {X Y : Option β} {y : β} (hf : jchk (inL a ∧ inL b) (if a = b then X else Y) = some y) {off : Int} {tgt : Nat} (d1 : decode cc pc = .ok (.lcmp, 1)) (d : decode cc (pc + 1) = .ok (.ifCond .eq off, 3)) (ht : ((pc + 1 : Nat) : Int) + off = (tgt : Int)) (kt : X = some y → W p l e R s m args below meth c H locs 0 0 Q (F0 m tgt ls st)) (kf : Y = some y → W p l e R s m args below meth c H locs 0 0 Q (F0 m (pc + 1 + 3) ls st)) : W p l e R s m args below meth c H locs 0 0 Q (F0 m pc ls (jv b :: jv a :: st)) := by
  refine W.lcmp F.1.1 F.1.2.1 d1 ?_
  obtain ⟨⟨ha, hb⟩, hf⟩ := jchk_elim hf
  have e0 : lg_cmp (Int64.ofInt a) (Int64.ofInt b) = Int32.ofInt (if b < a then 1 else if a = b then 0 else -1) := by
    unfold lg_cmp
    simp only [gt_iff_lt, oL_lt hb ha, oL_eq ha hb]
    split
    · decide
    · split
      · decide
      · decide
  rw [e0]
  have hr : inI (if b < a then 1 else if a = b then 0 else -1) := by
    split
    · exact ⟨by omega, by omega⟩
    · split
      · exact ⟨by omega, by omega⟩
      · exact ⟨by omega, by omega⟩
  refine r_if_eq F (X := X) (Y := Y) (y := y) ?_ d ht kt kf
  rw [jchk_t hr]
  by_cases q : a = b
  · rw [if_pos q] at hf
    rw [if_pos, hf]
    repeat' split
    all_goals omega
  · rw [if_neg q] at hf
    rw [if_neg, hf]
    repeat' split
    all_goals omega
theorem r_icmp_ne (F : MX cl WS NW p s m args meth c cc nL own ret D cs ad T.length A) {a b : Int} {β : Type} {X Y : Option β} {y : β} (hf : jchk (inI a ∧ inI b) (if a = b then X else Y) = some y) {off : Int} {tgt : Nat} (d : decode cc pc = .ok (.if_icmp .ne off, 3)) (ht : (pc : Int) + off = (tgt : Int)) (kt : X = some y → W p l e R s m args below meth c H locs 0 0 Q (F0 m (pc + 3) ls st)) (kf : Y = some y → W p l e R s m args below meth c H locs 0 0 Q (F0 m tgt ls st)) : W p l e R s m args below meth c H locs 0 0 Q (F0 m pc ls (iv b :: iv a :: st)) := by
  obtain ⟨⟨ha, hb⟩, hf⟩ := jchk_elim hf
  have e1 := oI_lt ha hb
  have e2 := oI_lt hb ha
  have e3 := oI_eq ha hb
  have e4 := oI_le ha hb
  have e5 := oI_le hb ha
  by_cases q : a = b
  · rw [if_pos q] at hf
    refine lv_icmp_ne F.1.1 F.1.2.1 d ht (fun w => ?_) (fun w => ?_) <;> first | exact kt hf | (exfalso; first | omega | (simp only [ge_iff_le, gt_iff_lt, e1, e2, e3, e4, e5] at w; omega))
  · rw [if_neg q] at hf
    refine lv_icmp_ne F.1.1 F.1.2.1 d ht (fun w => ?_) (fun w => ?_) <;> first | exact kf hf | (exfalso; first | omega | (simp only [ge_iff_le, gt_iff_lt, e1, e2, e3, e4, e5] at w; omega))
theorem r_if_ne (F : MX cl WS NW p s m args meth c cc nL own ret D cs ad T.length A) {a : Int} {β : Type} {X Y : Option β} {y : β} (hf : jchk (inI a) (if a = 0 then X else Y) = some y) {off : Int} {tgt : Nat} (d : decode cc pc = .ok (.ifCond .ne off, 3)) (ht : (pc : Int) + off = (tgt : Int)) (kt : X = some y → W p l e R s m args below meth c H locs 0 0 Q (F0 m (pc + 3) ls st)) (kf : Y = some y → W p l e R s m args below meth c H locs 0 0 Q (F0 m tgt ls st)) : W p l e R s m args below meth c H locs 0 0 Q (F0 m pc ls (iv a :: st)) := by
  obtain ⟨ha, hf⟩ := jchk_elim hf
  have hb : inI 0 := ⟨by omega, by omega⟩
  have e1 := oI_lt ha hb
  have e2 := oI_lt hb ha
  have e3 := oI_eq ha hb
  have e4 := oI_le ha hb
  have e5 := oI_le hb ha
  rw [oI_0] at e1 e2 e3 e4 e5
  by_cases q : a = 0
  · rw [if_pos q] at hf
    refine lv_if_ne F.1.1 F.1.2.1 d ht (fun w => ?_) (fun w => ?_) <;> first | exact kt hf | (exfalso; first | omega | (simp only [ge_iff_le, gt_iff_lt, e1, e2, e3, e4, e5] at w; omega))
  · rw [if_neg q] at hf
    refine lv_if_ne F.1.1 F.1.2.1 d ht (fun w => ?_) (fun w => ?_) <;> first | exact kf hf | (exfalso; first | omega | (simp only [ge_iff_le, gt_iff_lt, e1, e2, e3, e4, e5] at w; omega))
theorem r_lcmp_ne (F : MX cl WS NW p s m args meth c cc nL own ret D cs ad T.length A) {a b : Int} {β : Type} {X Y : Option β} {y : β} (hf : jchk (inL a ∧ inL b) (if a = b then X else Y) = some y) {off : Int} {tgt : Nat} (d1 : decode cc pc = .ok (.lcmp, 1)) (d : decode cc (pc + 1) = .ok (.ifCond .ne off, 3)) (ht : ((pc + 1 : Nat) : Int) + off = (tgt : Int)) (kt : X = some y → W p l e R s m args below meth c H locs 0 0 Q (F0 m (pc + 1 + 3) ls st)) (kf : Y = some y → W p l e R s m args below meth c H locs 0 0 Q (F0 m tgt ls st)) : W p l e R s m args below meth c H locs 0 0 Q (F0 m pc ls (jv b :: jv a :: st)) := by
  refine W.lcmp F.1.1 F.1.2.1 d1 ?_
  obtain ⟨⟨ha, hb⟩, hf⟩ := jchk_elim hf
  have e0 : lg_cmp (Int64.ofInt a) (Int64.ofInt b) = Int32.ofInt (if b < a then 1 else if a = b then 0 else -1) := by
    unfold lg_cmp
    simp only [gt_iff_lt, oL_lt hb ha, oL_eq ha hb]
    split
    · decide
    · split
      · decide
      · decide
  rw [e0]
  have hr : inI (if b < a then 1 else if a = b then 0 else -1) := by
    split
    · exact ⟨by omega, by omega⟩
    · split
      · exact ⟨by omega, by omega⟩
      · exact ⟨by omega, by omega⟩
  refine r_if_ne F (X := X) (Y := Y) (y := y) ?_ d ht kt kf
  rw [jchk_t hr]
  by_cases q : a = b
  · rw [if_pos q] at hf
    rw [if_pos, hf]
    repeat' split
    all_goals omega
  · rw [if_neg q] at hf
    rw [if_neg, hf]
    repeat' split
    all_goals omega
end ROWS
end
section
section ROWS2
variable {p : Program} {l : Launch} {e : Env} {R : Room} {s : State} {m : MethodId} {args : Array Value} {below : List Frame} {meth : Method} {c : Code} {H : Heap} {locs : List Loc} {Q : State → Prop}
variable {cl : List vw_C} {WS NW : List Cond} {cc : ByteArray} {nL : Nat} {own : String} {ret : Option FieldType} {D : va_G} {cs : Nat → ClassId} {ad : Nat → Nat} {T : List Kd} {A : Nat → Prop} {σ : St}
variable {pc : Nat} {ls : Array Slot} {st : List Value}
theorem r_getI (F : MX cl WS NW p s m args meth c cc nL own ret D cs ad T.length A) (G : GW cl D cs ad T A s.heap H locs σ) {k j ci : Nat} {sl : List (Nat × Nat)} {C : String} {Tt : u_T} {N index : Nat} {x : Nat} (hk : T[k]? = some (.inr (ci, sl))) (hj : sl[j]? = some (0, x)) (hc : cl[ci]? = some (C, Tt, N)) (hjN : j < N) (hin : ∀ w ∈ u_ws C Tt N, w ∈ WS) (hw : Cond.fieldLink own index (Tt j).1 (Tt j).2.1 (Tt j).2.2.1 ∈ WS) (d : decode cc pc = .ok (.getfield index, 3)) (kk : W p l e R s m args below meth c H locs 0 0 Q (F0 m (pc + 3) ls (iv (σ k j) :: st))) : W p l e R s m args below meth c H locs 0 0 Q (F0 m pc ls (.ref (ad k) :: st)) :=
  va_get F.1.1 F.1.2.1 F.1.2.2.2.2 hin F.1.2.2.2.1 F.2.1 G.1 k (wd_get hk) hc j hjN (F.1.2.2.2.2 _ hw) (fun _ h9 => h9) (sl_get hj) d kk
theorem r_getJ (F : MX cl WS NW p s m args meth c cc nL own ret D cs ad T.length A) (G : GW cl D cs ad T A s.heap H locs σ) {k j ci : Nat} {sl : List (Nat × Nat)} {C : String} {Tt : u_T} {N index : Nat} {x : Nat} (hk : T[k]? = some (.inr (ci, sl))) (hj : sl[j]? = some (1, x)) (hc : cl[ci]? = some (C, Tt, N)) (hjN : j < N) (hin : ∀ w ∈ u_ws C Tt N, w ∈ WS) (hw : Cond.fieldLink own index (Tt j).1 (Tt j).2.1 (Tt j).2.2.1 ∈ WS) (d : decode cc pc = .ok (.getfield index, 3)) (kk : W p l e R s m args below meth c H locs 0 0 Q (F0 m (pc + 3) ls (jv (σ k j) :: st))) : W p l e R s m args below meth c H locs 0 0 Q (F0 m pc ls (.ref (ad k) :: st)) :=
  va_get F.1.1 F.1.2.1 F.1.2.2.2.2 hin F.1.2.2.2.1 F.2.1 G.1 k (wd_get hk) hc j hjN (F.1.2.2.2.2 _ hw) (fun _ h9 => h9) (sl_get hj) d kk
theorem r_getR (F : MX cl WS NW p s m args meth c cc nL own ret D cs ad T.length A) (G : GW cl D cs ad T A s.heap H locs σ) {k j ci : Nat} {sl : List (Nat × Nat)} {C : String} {Tt : u_T} {N index : Nat} {x : Nat} (hk : T[k]? = some (.inr (ci, sl))) (hj : sl[j]? = some (2, x)) (hc : cl[ci]? = some (C, Tt, N)) (hjN : j < N) (hin : ∀ w ∈ u_ws C Tt N, w ∈ WS) (hw : Cond.fieldLink own index (Tt j).1 (Tt j).2.1 (Tt j).2.2.1 ∈ WS) (d : decode cc pc = .ok (.getfield index, 3)) (kk : W p l e R s m args below meth c H locs 0 0 Q (F0 m (pc + 3) ls (.ref (ad x) :: st))) : W p l e R s m args below meth c H locs 0 0 Q (F0 m pc ls (.ref (ad k) :: st)) :=
  va_get F.1.1 F.1.2.1 F.1.2.2.2.2 hin F.1.2.2.2.1 F.2.1 G.1 k (wd_get hk) hc j hjN (F.1.2.2.2.2 _ hw) (fun _ h9 => h9) (sl_get hj) d kk
theorem r_getV (F : MX cl WS NW p s m args meth c cc nL own ret D cs ad T.length A) (G : GW cl D cs ad T A s.heap H locs σ) {k j ci : Nat} {sl : List (Nat × Nat)} {C : String} {Tt : u_T} {N index : Nat} {x : Nat} (hk : T[k]? = some (.inr (ci, sl))) (hj : sl[j]? = some (3, x)) (hc : cl[ci]? = some (C, Tt, N)) (hjN : j < N) (hin : ∀ w ∈ u_ws C Tt N, w ∈ WS) (hw : Cond.fieldLink own index (Tt j).1 (Tt j).2.1 (Tt j).2.2.1 ∈ WS) (d : decode cc pc = .ok (.getfield index, 3)) (kk : W p l e R s m args below meth c H locs 0 0 Q (F0 m (pc + 3) ls (.ref (ad (σ k j).toNat) :: st))) : W p l e R s m args below meth c H locs 0 0 Q (F0 m pc ls (.ref (ad k) :: st)) :=
  va_get F.1.1 F.1.2.1 F.1.2.2.2.2 hin F.1.2.2.2.1 F.2.1 G.1 k (wd_get hk) hc j hjN (F.1.2.2.2.2 _ hw) (fun _ h9 => h9) (sl_get hj) d kk
theorem r_putI (F : MX cl WS NW p s m args meth c cc nL own ret D cs ad T.length A) (G : GW cl D cs ad T A s.heap H locs σ) {k j ci : Nat} {sl : List (Nat × Nat)} {C : String} {Tt : u_T} {N index : Nat} {x : Nat} (hk : T[k]? = some (.inr (ci, sl))) (hj : sl[j]? = some (0, x)) (hc : cl[ci]? = some (C, Tt, N)) (hjN : j < N) (hin : ∀ w ∈ u_ws C Tt N, w ∈ WS) (hw : Cond.fieldLink own index (Tt j).1 (Tt j).2.1 (Tt j).2.2.1 ∈ WS) (ty0 : Nat → FieldType) (hty : ∀ k, k < N → parseFieldDescriptor (Tt k).2.2.1 = some (ty0 k)) (hnm : ∀ a, a < N → ∀ b, b < N → a ≠ b → (Tt a).2.1 ≠ (Tt b).2.1) (hfin : (Tt j).2.2.2 = false)  (hd : ty0 j = .int) {v : Int} {β : Type} {kont : St → Option β} {y : β} (hf : jlet (up2 σ k j v) kont = some y) (d : decode cc pc = .ok (.putfield index, 3)) (kk : ∀ σ' H' locs', GW cl D cs ad T A s.heap H' locs' σ' → kont σ' = some y → W p l e R s m args below meth c H' locs' 0 0 Q (F0 m (pc + 3) ls st)) : W p l e R s m args below meth c H locs 0 0 Q (F0 m pc ls (iv v :: .ref (ad k) :: st)) := by
  refine va_put F.1.1 F.1.2.1 F.1.2.2.2.2 hin ty0 hty hnm F.1.2.2.2.1 F.2.1 G.1 (MX_D F) G.2 k (wd_get hk) hc j hjN (F.1.2.2.2.2 _ hw) (fun _ h9 => h9) hfin (ty := .int) (by rw [hty j hjN, hd]) rfl rfl (by rw [List.length_mapIdx]; exact (List.getElem?_eq_some_iff.mp hj).1) d (fun H' locs' hP _ hS => ?_)
  refine kk _ H' locs' ⟨?_, hS⟩ hf
  have e := wd_set (cs := cs) (ad := ad) (σ := σ) (g := up1 (σ k) j v) hk (e := .inr (ci, (sl.mapIdx (fun i t => sv ad t (σ k i))).set j (iv v))) (by show (Sum.inr _ : va_E) = _; rw [sl_set (w := iv v) hj (v := v) rfl])
  rw [e] at hP
  exact hP
theorem r_putJ (F : MX cl WS NW p s m args meth c cc nL own ret D cs ad T.length A) (G : GW cl D cs ad T A s.heap H locs σ) {k j ci : Nat} {sl : List (Nat × Nat)} {C : String} {Tt : u_T} {N index : Nat} {x : Nat} (hk : T[k]? = some (.inr (ci, sl))) (hj : sl[j]? = some (1, x)) (hc : cl[ci]? = some (C, Tt, N)) (hjN : j < N) (hin : ∀ w ∈ u_ws C Tt N, w ∈ WS) (hw : Cond.fieldLink own index (Tt j).1 (Tt j).2.1 (Tt j).2.2.1 ∈ WS) (ty0 : Nat → FieldType) (hty : ∀ k, k < N → parseFieldDescriptor (Tt k).2.2.1 = some (ty0 k)) (hnm : ∀ a, a < N → ∀ b, b < N → a ≠ b → (Tt a).2.1 ≠ (Tt b).2.1) (hfin : (Tt j).2.2.2 = false)  (hd : ty0 j = .long) {v : Int} {β : Type} {kont : St → Option β} {y : β} (hf : jlet (up2 σ k j v) kont = some y) (d : decode cc pc = .ok (.putfield index, 3)) (kk : ∀ σ' H' locs', GW cl D cs ad T A s.heap H' locs' σ' → kont σ' = some y → W p l e R s m args below meth c H' locs' 0 0 Q (F0 m (pc + 3) ls st)) : W p l e R s m args below meth c H locs 0 0 Q (F0 m pc ls (jv v :: .ref (ad k) :: st)) := by
  refine va_put F.1.1 F.1.2.1 F.1.2.2.2.2 hin ty0 hty hnm F.1.2.2.2.1 F.2.1 G.1 (MX_D F) G.2 k (wd_get hk) hc j hjN (F.1.2.2.2.2 _ hw) (fun _ h9 => h9) hfin (ty := .long) (by rw [hty j hjN, hd]) rfl rfl (by rw [List.length_mapIdx]; exact (List.getElem?_eq_some_iff.mp hj).1) d (fun H' locs' hP _ hS => ?_)
  refine kk _ H' locs' ⟨?_, hS⟩ hf
  have e := wd_set (cs := cs) (ad := ad) (σ := σ) (g := up1 (σ k) j v) hk (e := .inr (ci, (sl.mapIdx (fun i t => sv ad t (σ k i))).set j (jv v))) (by show (Sum.inr _ : va_E) = _; rw [sl_set (w := jv v) hj (v := v) rfl])
  rw [e] at hP
  exact hP
theorem r_putZ (F : MX cl WS NW p s m args meth c cc nL own ret D cs ad T.length A) (G : GW cl D cs ad T A s.heap H locs σ) {k j ci : Nat} {sl : List (Nat × Nat)} {C : String} {Tt : u_T} {N index : Nat} {x : Nat} (hk : T[k]? = some (.inr (ci, sl))) (hj : sl[j]? = some (0, x)) (hc : cl[ci]? = some (C, Tt, N)) (hjN : j < N) (hin : ∀ w ∈ u_ws C Tt N, w ∈ WS) (hw : Cond.fieldLink own index (Tt j).1 (Tt j).2.1 (Tt j).2.2.1 ∈ WS) (ty0 : Nat → FieldType) (hty : ∀ k, k < N → parseFieldDescriptor (Tt k).2.2.1 = some (ty0 k)) (hnm : ∀ a, a < N → ∀ b, b < N → a ≠ b → (Tt a).2.1 ≠ (Tt b).2.1) (hfin : (Tt j).2.2.2 = false)  (hd : ty0 j = .boolean) {v : Int} {β : Type} {kont : St → Option β} {y : β} (hf : jchk (v = 0 ∨ v = 1) (jlet (up2 σ k j v) kont) = some y) (d : decode cc pc = .ok (.putfield index, 3)) (kk : ∀ σ' H' locs', GW cl D cs ad T A s.heap H' locs' σ' → kont σ' = some y → W p l e R s m args below meth c H' locs' 0 0 Q (F0 m (pc + 3) ls st)) : W p l e R s m args below meth c H locs 0 0 Q (F0 m pc ls (iv v :: .ref (ad k) :: st)) := by
  obtain ⟨hg, hf⟩ := jchk_elim hf
  refine va_put F.1.1 F.1.2.1 F.1.2.2.2.2 hin ty0 hty hnm F.1.2.2.2.1 F.2.1 G.1 (MX_D F) G.2 k (wd_get hk) hc j hjN (F.1.2.2.2.2 _ hw) (fun _ h9 => h9) hfin (ty := .boolean) (by rw [hty j hjN, hd]) (by rcases hg with rfl | rfl <;> decide) (by rcases hg with rfl | rfl <;> decide) (by rw [List.length_mapIdx]; exact (List.getElem?_eq_some_iff.mp hj).1) d (fun H' locs' hP _ hS => ?_)
  refine kk _ H' locs' ⟨?_, hS⟩ hf
  have e := wd_set (cs := cs) (ad := ad) (σ := σ) (g := up1 (σ k) j v) hk (e := .inr (ci, (sl.mapIdx (fun i t => sv ad t (σ k i))).set j (iv v))) (by show (Sum.inr _ : va_E) = _; rw [sl_set (w := iv v) hj (v := v) rfl])
  rw [e] at hP
  exact hP
theorem r_putV (F : MX cl WS NW p s m args meth c cc nL own ret D cs ad T.length A) (G : GW cl D cs ad T A s.heap H locs σ) {k j ci : Nat} {sl : List (Nat × Nat)} {C : String} {Tt : u_T} {N index : Nat} {x : Nat} (hk : T[k]? = some (.inr (ci, sl))) (hj : sl[j]? = some (3, x)) (hc : cl[ci]? = some (C, Tt, N)) (hjN : j < N) (hin : ∀ w ∈ u_ws C Tt N, w ∈ WS) (hw : Cond.fieldLink own index (Tt j).1 (Tt j).2.1 (Tt j).2.2.1 ∈ WS) (ty0 : Nat → FieldType) (hty : ∀ k, k < N → parseFieldDescriptor (Tt k).2.2.1 = some (ty0 k)) (hnm : ∀ a, a < N → ∀ b, b < N → a ≠ b → (Tt a).2.1 ≠ (Tt b).2.1) (hfin : (Tt j).2.2.2 = false) {OC : String} (hd : ty0 j = .object OC) {v : Nat} {β : Type} {kont : St → Option β} {y : β} (hf : jlet (up2 σ k j (v : Int)) kont = some y) (d : decode cc pc = .ok (.putfield index, 3)) (kk : ∀ σ' H' locs', GW cl D cs ad T A s.heap H' locs' σ' → kont σ' = some y → W p l e R s m args below meth c H' locs' 0 0 Q (F0 m (pc + 3) ls st)) : W p l e R s m args below meth c H locs 0 0 Q (F0 m pc ls (.ref (ad v) :: .ref (ad k) :: st)) := by
  refine va_put F.1.1 F.1.2.1 F.1.2.2.2.2 hin ty0 hty hnm F.1.2.2.2.1 F.2.1 G.1 (MX_D F) G.2 k (wd_get hk) hc j hjN (F.1.2.2.2.2 _ hw) (fun _ h9 => h9) hfin (ty := .object OC) (by rw [hty j hjN, hd]) rfl rfl (by rw [List.length_mapIdx]; exact (List.getElem?_eq_some_iff.mp hj).1) d (fun H' locs' hP _ hS => ?_)
  refine kk _ H' locs' ⟨?_, hS⟩ hf
  have e := wd_set (cs := cs) (ad := ad) (σ := σ) (g := up1 (σ k) j (v : Int)) hk (e := .inr (ci, (sl.mapIdx (fun i t => sv ad t (σ k i))).set j (.ref (ad v)))) (by show (Sum.inr _ : va_E) = _; rw [sl_set (w := .ref (ad v)) hj (v := (v : Int)) (by show Value.ref (ad (Int.toNat v)) = _; rw [Int.toNat_natCast])])
  rw [e] at hP
  exact hP
theorem r_iald (F : MX cl WS NW p s m args meth c cc nL own ret D cs ad T.length A) (G : GW cl D cs ad T A s.heap H locs σ) {k n : Nat} {N i : Int} (hk : T[k]? = some (.inl (0, n))) (hN : (n : Int) = N) (hn : n < 2147483648) {β : Type} {X : Option β} {y : β} (hf : jchk (0 ≤ i ∧ i < N) X = some y) (d : decode cc pc = .ok (.iaload, 1)) (kk : X = some y → W p l e R s m args below meth c H locs 0 0 Q (F0 m (pc + 1) ls (iv (σ k i.toNat) :: st))) : W p l e R s m args below meth c H locs 0 0 Q (F0 m pc ls (iv i :: .ref (ad k) :: st)) := by
  obtain ⟨hg, hf⟩ := jchk_elim hf
  obtain ⟨h1, h2⟩ := oI_in hN hn hg
  refine va_iald F.1.1 F.1.2.1 F.2.1 G.1 k 0 (wd_get hk) rfl h1 d ?_
  rw [h2]
  exact kk hf
theorem r_lald (F : MX cl WS NW p s m args meth c cc nL own ret D cs ad T.length A) (G : GW cl D cs ad T A s.heap H locs σ) {k n : Nat} {N i : Int} (hk : T[k]? = some (.inl (1, n))) (hN : (n : Int) = N) (hn : n < 2147483648) {β : Type} {X : Option β} {y : β} (hf : jchk (0 ≤ i ∧ i < N) X = some y) (d : decode cc pc = .ok (.laload, 1)) (kk : X = some y → W p l e R s m args below meth c H locs 0 0 Q (F0 m (pc + 1) ls (jv (σ k i.toNat) :: st))) : W p l e R s m args below meth c H locs 0 0 Q (F0 m pc ls (iv i :: .ref (ad k) :: st)) := by
  obtain ⟨hg, hf⟩ := jchk_elim hf
  obtain ⟨h1, h2⟩ := oI_in hN hn hg
  refine va_lald F.1.1 F.1.2.1 F.2.1 G.1 k 1 (wd_get hk) rfl h1 d ?_
  rw [h2]
  exact kk hf
theorem r_zald (F : MX cl WS NW p s m args meth c cc nL own ret D cs ad T.length A) (G : GW cl D cs ad T A s.heap H locs σ) {k n : Nat} {N i : Int} (hk : T[k]? = some (.inl (2, n))) (hN : (n : Int) = N) (hn : n < 2147483648) {β : Type} {X : Option β} {y : β} (hf : jchk (0 ≤ i ∧ i < N) X = some y) (d : decode cc pc = .ok (.baload, 1)) (kk : X = some y → W p l e R s m args below meth c H locs 0 0 Q (F0 m (pc + 1) ls (iv (σ k i.toNat) :: st))) : W p l e R s m args below meth c H locs 0 0 Q (F0 m pc ls (iv i :: .ref (ad k) :: st)) := by
  obtain ⟨hg, hf⟩ := jchk_elim hf
  obtain ⟨h1, h2⟩ := oI_in hN hn hg
  refine va_zald F.1.1 F.1.2.1 F.2.1 G.1 k 2 (wd_get hk) rfl h1 d ?_
  rw [h2]
  exact kk hf
theorem r_iast (F : MX cl WS NW p s m args meth c cc nL own ret D cs ad T.length A) (G : GW cl D cs ad T A s.heap H locs σ) {k n : Nat} {N i v : Int} (hk : T[k]? = some (.inl (0, n))) (hN : (n : Int) = N) (hn : n < 2147483648) {β : Type} {kont : St → Option β} {y : β} (hf : jchk (0 ≤ i ∧ i < N) (jlet (up2 σ k i.toNat v) kont) = some y) (d : decode cc pc = .ok (.iastore, 1)) (kk : ∀ σ' H' locs', GW cl D cs ad T A s.heap H' locs' σ' → kont σ' = some y → W p l e R s m args below meth c H' locs' 0 0 Q (F0 m (pc + 1) ls st)) : W p l e R s m args below meth c H locs 0 0 Q (F0 m pc ls (iv v :: iv i :: .ref (ad k) :: st)) := by
  obtain ⟨hg, hf⟩ := jchk_elim hf
  obtain ⟨h1, h2⟩ := oI_in hN hn hg
  refine va_iast F.1.1 F.1.2.1 F.2.1 G.1 (MX_D F) G.2 k 0 (wd_get hk) rfl h1 d (fun H' locs' hP _ hS => ?_)
  refine kk _ H' locs' ⟨?_, hS⟩ hf
  rw [h2] at hP
  have e : (upd (fun j => Int32.ofInt (σ k j)) i.toNat (Int32.ofInt v)) = (fun j => Int32.ofInt (up1 (σ k) i.toNat v j)) := by
    funext q
    by_cases hq : q = i.toNat
    · subst hq
      simp [upd, up1]
    · simp [upd, up1, hq]
  rw [e, wd_set (cs := cs) (ad := ad) (σ := σ) (g := up1 (σ k) i.toNat v) (e := .inl (cs 0, n, .inl (fun j => Int32.ofInt (up1 (σ k) i.toNat v j)))) hk rfl] at hP
  exact hP
theorem r_last (F : MX cl WS NW p s m args meth c cc nL own ret D cs ad T.length A) (G : GW cl D cs ad T A s.heap H locs σ) {k n : Nat} {N i v : Int} (hk : T[k]? = some (.inl (1, n))) (hN : (n : Int) = N) (hn : n < 2147483648) {β : Type} {kont : St → Option β} {y : β} (hf : jchk (0 ≤ i ∧ i < N) (jlet (up2 σ k i.toNat v) kont) = some y) (d : decode cc pc = .ok (.lastore, 1)) (kk : ∀ σ' H' locs', GW cl D cs ad T A s.heap H' locs' σ' → kont σ' = some y → W p l e R s m args below meth c H' locs' 0 0 Q (F0 m (pc + 1) ls st)) : W p l e R s m args below meth c H locs 0 0 Q (F0 m pc ls (jv v :: iv i :: .ref (ad k) :: st)) := by
  obtain ⟨hg, hf⟩ := jchk_elim hf
  obtain ⟨h1, h2⟩ := oI_in hN hn hg
  refine va_last F.1.1 F.1.2.1 F.2.1 G.1 (MX_D F) G.2 k 1 (wd_get hk) rfl h1 d (fun H' locs' hP _ hS => ?_)
  refine kk _ H' locs' ⟨?_, hS⟩ hf
  rw [h2] at hP
  have e : (vp_updL (fun j => Int64.ofInt (σ k j)) i.toNat (Int64.ofInt v)) = (fun j => Int64.ofInt (up1 (σ k) i.toNat v j)) := by
    funext q
    by_cases hq : q = i.toNat
    · subst hq
      simp [vp_updL, up1]
    · simp [vp_updL, up1, hq]
  rw [e, wd_set (cs := cs) (ad := ad) (σ := σ) (g := up1 (σ k) i.toNat v) (e := .inl (cs 1, n, .inr (.inl (fun j => Int64.ofInt (up1 (σ k) i.toNat v j))))) hk rfl] at hP
  exact hP
theorem r_zast (F : MX cl WS NW p s m args meth c cc nL own ret D cs ad T.length A) (G : GW cl D cs ad T A s.heap H locs σ) {k n : Nat} {N i v : Int} (hk : T[k]? = some (.inl (2, n))) (hN : (n : Int) = N) (hn : n < 2147483648) {β : Type} {kont : St → Option β} {y : β} (hf : jchk ((0 ≤ i ∧ i < N) ∧ (v = 0 ∨ v = 1)) (jlet (up2 σ k i.toNat v) kont) = some y) (d : decode cc pc = .ok (.bastore, 1)) (kk : ∀ σ' H' locs', GW cl D cs ad T A s.heap H' locs' σ' → kont σ' = some y → W p l e R s m args below meth c H' locs' 0 0 Q (F0 m (pc + 1) ls st)) : W p l e R s m args below meth c H locs 0 0 Q (F0 m pc ls (iv v :: iv i :: .ref (ad k) :: st)) := by
  obtain ⟨hg, hf⟩ := jchk_elim hf
  obtain ⟨hg, hz⟩ := hg
  obtain ⟨h1, h2⟩ := oI_in hN hn hg
  refine va_zast F.1.1 F.1.2.1 F.2.1 G.1 (MX_D F) G.2 k 2 (wd_get hk) rfl h1 d (fun H' locs' hP _ hS => ?_)
  refine kk _ H' locs' ⟨?_, hS⟩ hf
  rw [h2] at hP
  have e : (upd (fun j => Int32.ofInt (σ k j)) i.toNat (vp_nar .boolean (Int32.ofInt v))) = (fun j => Int32.ofInt (up1 (σ k) i.toNat v j)) := by
    funext q
    by_cases hq : q = i.toNat
    · subst hq
      rcases hz with rfl | rfl
      · simp [upd, up1]; decide
      · simp [upd, up1]; decide
    · simp [upd, up1, hq]
  rw [e, wd_set (cs := cs) (ad := ad) (σ := σ) (g := up1 (σ k) i.toNat v) (e := .inl (cs 2, n, .inl (fun j => Int32.ofInt (up1 (σ k) i.toNat v j)))) hk rfl] at hP
  exact hP
theorem r_alenI (F : MX cl WS NW p s m args meth c cc nL own ret D cs ad T.length A) (G : GW cl D cs ad T A s.heap H locs σ) {k n : Nat} {N : Int} (hk : T[k]? = some (.inl (0, n))) (hN : (n : Int) = N) (d : decode cc pc = .ok (.arraylength, 1)) (kk : W p l e R s m args below meth c H locs 0 0 Q (F0 m (pc + 1) ls (iv N :: st))) : W p l e R s m args below meth c H locs 0 0 Q (F0 m pc ls (.ref (ad k) :: st)) := by
  subst hN
  exact va_alen F.1.1 F.1.2.1 F.2.1 G.1 k 0 (wd_get hk) rfl rfl d kk
theorem r_alenJ (F : MX cl WS NW p s m args meth c cc nL own ret D cs ad T.length A) (G : GW cl D cs ad T A s.heap H locs σ) {k n : Nat} {N : Int} (hk : T[k]? = some (.inl (1, n))) (hN : (n : Int) = N) (d : decode cc pc = .ok (.arraylength, 1)) (kk : W p l e R s m args below meth c H locs 0 0 Q (F0 m (pc + 1) ls (iv N :: st))) : W p l e R s m args below meth c H locs 0 0 Q (F0 m pc ls (.ref (ad k) :: st)) := by
  subst hN
  exact va_alen F.1.1 F.1.2.1 F.2.1 G.1 k 1 (wd_get hk) rfl rfl d kk
theorem r_copyI (F : MX cl WS NW p s m args meth c cc nL own ret D cs ad T.length A) (G : GW cl D cs ad T A s.heap H locs σ) (hl : ls.size = nL) {k0 k1 n0 n1 index : Nat} {N0 N1 n dp sp : Int} (hk0 : T[k0]? = some (.inl (0, n0))) (hk1 : T[k1]? = some (.inl (0, n1))) (hN0 : (n0 : Int) = N0) (hN1 : (n1 : Int) = N1) (hn0 : n0 < 2147483648) (hn1 : n1 < 2147483648) (hw1 : Cond.methodLink own index arraycopyName ∈ WS) (hw2 : Cond.native arraycopyName ∈ WS) (hw3 : Cond.static arraycopyName ∈ WS) (hw4 : Cond.initialized "java/lang/System" ∈ WS) (hfr : 1 ≤ R.frames) (hlo : (st.map fun v => v.category).sum + (nativeFrameWords "java/lang/System" "arraycopy" 5 + 11) ≤ R.locals) {β : Type} {kont : St → Option β} {y : β} (hf : jchk (0 ≤ sp ∧ 0 ≤ dp ∧ 0 ≤ n ∧ sp + n ≤ N0 ∧ dp + n ≤ N1) (jlet (upr σ k1 (va_cpy (σ k0) (σ k1) sp.toNat dp.toNat n.toNat)) kont) = some y) (d : decode cc pc = .ok (.invokestatic index, 3)) (kk : ∀ σ' H' locs', GW cl D cs ad T A s.heap H' locs' σ' → kont σ' = some y → W p l e R s m args below meth c H' locs' 0 0 Q (F0 m (pc + 3) ls st)) : W p l e R s m args below meth c H locs 0 0 Q (F0 m pc ls (iv n :: iv dp :: .ref (ad k1) :: iv sp :: .ref (ad k0) :: st)) := by
  obtain ⟨⟨g1, g2, g3, g4, g5⟩, hf⟩ := jchk_elim hf
  have i1 : inI sp := ⟨by omega, by omega⟩
  have i2 : inI dp := ⟨by omega, by omega⟩
  have i3 : inI n := ⟨by omega, by omega⟩
  have z : inI 0 := ⟨by omega, by omega⟩
  refine va_copyi F.1.1 F.1.2.1 (by rw [F.1.2.2.1, hl]) F.1.2.2.2.1 (F.1.2.2.2.2 _ hw1) (F.1.2.2.2.2 _ hw2) (F.1.2.2.2.2 _ hw3) (F.1.2.2.2.2 _ hw4) F.2.1 G.1 (MX_D F) G.2 k0 k1 0 0 (wd_get hk0) (wd_get hk1) rfl rfl rfl (by rw [← oI_0, oI_lt i1 z]; omega) (by rw [← oI_0, oI_lt i2 z]; omega) (by rw [← oI_0, oI_lt i3 z]; omega) (by rw [oI_nat i1, oI_nat i3]; omega) (by rw [oI_nat i2, oI_nat i3]; omega) (fun _ _ => rfl) hfr hlo d (fun H' locs' hP _ hS => ?_)
  refine kk _ H' locs' ⟨?_, hS⟩ hf
  rw [oI_nat i1, oI_nat i2, oI_nat i3] at hP
  have e : va_cpy (fun j => Int32.ofInt (σ k0 j)) (fun j => Int32.ofInt (σ k1 j)) sp.toNat dp.toNat n.toNat = fun j => Int32.ofInt (va_cpy (σ k0) (σ k1) sp.toNat dp.toNat n.toNat j) := by
    funext q
    unfold va_cpy
    split <;> rfl
  rw [e, wd_set (cs := cs) (ad := ad) (σ := σ) (g := va_cpy (σ k0) (σ k1) sp.toNat dp.toNat n.toNat) (e := .inl (cs 0, n1, .inl (fun j => Int32.ofInt (va_cpy (σ k0) (σ k1) sp.toNat dp.toNat n.toNat j)))) hk1 rfl] at hP
  exact hP
theorem r_mmax (F : MX cl WS NW p s m args meth c cc nL own ret D cs ad T.length A) (hl : ls.size = nL) {index : Nat} {a b : Int} (hw1 : Cond.methodLink own index Lib.Math.max.name ∈ WS) (hw2 : Cond.static Lib.Math.max.name ∈ WS) (hw3 : Cond.initialized "java/lang/Math" ∈ WS) (hw4 : Cond.code Lib.Math.max.name Lib.Math.max.code 2 (some .int) ∈ WS) (hfr : 1 ≤ R.frames) (hlo : (st.map fun v => v.category).sum + 13 ≤ R.locals) {β : Type} {X : Option β} {y : β} (hf : jchk (inI a ∧ inI b) X = some y) (d : decode cc pc = .ok (.invokestatic index, 3)) (kk : X = some y → W p l e R s m args below meth c H locs 0 0 Q (F0 m (pc + 3) ls (iv (if a < b then b else a) :: st))) : W p l e R s m args below meth c H locs 0 0 Q (F0 m pc ls (iv b :: iv a :: st)) := by
  obtain ⟨hg, hf⟩ := jchk_elim hf
  have kk := kk hf
  refine va_mmax F.1.1 F.1.2.1 (by rw [F.1.2.2.1, hl]) F.1.2.2.2.1 (F.1.2.2.2.2 _ hw1) (F.1.2.2.2.2 _ hw2) (F.1.2.2.2.2 _ hw3) (F.1.2.2.2.2 _ hw4) hfr hlo (Nat.zero_le _) (Nat.zero_le _) d ?_
  simp only [oI_lt hg.1 hg.2]
  by_cases q : a < b
  · rw [if_pos q] at kk ⊢; exact kk
  · rw [if_neg q] at kk ⊢; exact kk
theorem r_mmin (F : MX cl WS NW p s m args meth c cc nL own ret D cs ad T.length A) (hl : ls.size = nL) {index : Nat} {a b : Int} (hw1 : Cond.methodLink own index Lib.Math.min.name ∈ WS) (hw2 : Cond.static Lib.Math.min.name ∈ WS) (hw3 : Cond.initialized "java/lang/Math" ∈ WS) (hw4 : Cond.code Lib.Math.min.name Lib.Math.min.code 2 (some .int) ∈ WS) (hfr : 1 ≤ R.frames) (hlo : (st.map fun v => v.category).sum + 13 ≤ R.locals) {β : Type} {X : Option β} {y : β} (hf : jchk (inI a ∧ inI b) X = some y) (d : decode cc pc = .ok (.invokestatic index, 3)) (kk : X = some y → W p l e R s m args below meth c H locs 0 0 Q (F0 m (pc + 3) ls (iv (if b < a then b else a) :: st))) : W p l e R s m args below meth c H locs 0 0 Q (F0 m pc ls (iv b :: iv a :: st)) := by
  obtain ⟨hg, hf⟩ := jchk_elim hf
  have kk := kk hf
  refine va_mmin F.1.1 F.1.2.1 (by rw [F.1.2.2.1, hl]) F.1.2.2.2.1 (F.1.2.2.2.2 _ hw1) (F.1.2.2.2.2 _ hw2) (F.1.2.2.2.2 _ hw3) (F.1.2.2.2.2 _ hw4) hfr hlo (Nat.zero_le _) (Nat.zero_le _) d ?_
  simp only [oI_lt hg.2 hg.1]
  by_cases q : b < a
  · rw [if_pos q] at kk ⊢; exact kk
  · rw [if_neg q] at kk ⊢; exact kk
theorem r_mmax_long (F : MX cl WS NW p s m args meth c cc nL own ret D cs ad T.length A) (hl : ls.size = nL) {index : Nat} {a b : Int} (hw1 : Cond.methodLink own index Lib.MathLoose.max_long.x ∈ WS) (hw2 : Cond.static Lib.MathLoose.max_long.x ∈ WS) (hw3 : Cond.initialized "java/lang/Math" ∈ WS) (hw4 : Cond.code Lib.MathLoose.max_long.x Lib.MathLoose.max_long.code 4 (some .long) ∈ WS) (hfr : 1 ≤ R.frames) (hlo : (st.map fun v => v.category).sum + 15 ≤ R.locals) {β : Type} {X : Option β} {y : β} (hf : jchk (inL a ∧ inL b) X = some y) (d : decode cc pc = .ok (.invokestatic index, 3)) (kk : X = some y → W p l e R s m args below meth c H locs 0 0 Q (F0 m (pc + 3) ls (jv (if b < a then a else b) :: st))) : W p l e R s m args below meth c H locs 0 0 Q (F0 m pc ls (jv b :: jv a :: st)) := by
  obtain ⟨hg, hf⟩ := jchk_elim hf
  have kk := kk hf
  refine va_mmax_long F.1.1 F.1.2.1 (by rw [F.1.2.2.1, hl]) F.1.2.2.2.1 (F.1.2.2.2.2 _ hw1) (F.1.2.2.2.2 _ hw2) (F.1.2.2.2.2 _ hw3) (F.1.2.2.2.2 _ hw4) hfr hlo (Nat.zero_le _) (Nat.zero_le _) d ?_
  simp only [oL_lt hg.2 hg.1]
  by_cases q : b < a
  · rw [if_pos q] at kk ⊢; exact kk
  · rw [if_neg q] at kk ⊢; exact kk
theorem r_mmin_long (F : MX cl WS NW p s m args meth c cc nL own ret D cs ad T.length A) (hl : ls.size = nL) {index : Nat} {a b : Int} (hw1 : Cond.methodLink own index Lib.MathLoose.min_long.x ∈ WS) (hw2 : Cond.static Lib.MathLoose.min_long.x ∈ WS) (hw3 : Cond.initialized "java/lang/Math" ∈ WS) (hw4 : Cond.code Lib.MathLoose.min_long.x Lib.MathLoose.min_long.code 4 (some .long) ∈ WS) (hfr : 1 ≤ R.frames) (hlo : (st.map fun v => v.category).sum + 15 ≤ R.locals) {β : Type} {X : Option β} {y : β} (hf : jchk (inL a ∧ inL b) X = some y) (d : decode cc pc = .ok (.invokestatic index, 3)) (kk : X = some y → W p l e R s m args below meth c H locs 0 0 Q (F0 m (pc + 3) ls (jv (if b < a then b else a) :: st))) : W p l e R s m args below meth c H locs 0 0 Q (F0 m pc ls (jv b :: jv a :: st)) := by
  obtain ⟨hg, hf⟩ := jchk_elim hf
  have kk := kk hf
  refine va_mmin_long F.1.1 F.1.2.1 (by rw [F.1.2.2.1, hl]) F.1.2.2.2.1 (F.1.2.2.2.2 _ hw1) (F.1.2.2.2.2 _ hw2) (F.1.2.2.2.2 _ hw3) (F.1.2.2.2.2 _ hw4) hfr hlo (Nat.zero_le _) (Nat.zero_le _) d ?_
  simp only [oL_lt hg.2 hg.1]
  by_cases q : b < a
  · rw [if_pos q] at kk ⊢; exact kk
  · rw [if_neg q] at kk ⊢; exact kk
theorem r_mabs_long (F : MX cl WS NW p s m args meth c cc nL own ret D cs ad T.length A) (hl : ls.size = nL) {index : Nat} {a : Int} (hw1 : Cond.methodLink own index Lib.MathLoose.abs_long.x ∈ WS) (hw2 : Cond.static Lib.MathLoose.abs_long.x ∈ WS) (hw3 : Cond.initialized "java/lang/Math" ∈ WS) (hw4 : Cond.code Lib.MathLoose.abs_long.x Lib.MathLoose.abs_long.code 2 (some .long) ∈ WS) (hfr : 1 ≤ R.frames) (hlo : (st.map fun v => v.category).sum + 13 ≤ R.locals) {β : Type} {X : Option β} {y : β} (hf : jchk (inL a) X = some y) (d : decode cc pc = .ok (.invokestatic index, 3)) (kk : X = some y → W p l e R s m args below meth c H locs 0 0 Q (F0 m (pc + 3) ls (jv (if 0 < a then a else -a) :: st))) : W p l e R s m args below meth c H locs 0 0 Q (F0 m pc ls (jv a :: st)) := by
  obtain ⟨hg, hf⟩ := jchk_elim hf
  have kk := kk hf
  refine va_mabs_long F.1.1 F.1.2.1 (by rw [F.1.2.2.1, hl]) F.1.2.2.2.1 (F.1.2.2.2.2 _ hw1) (F.1.2.2.2.2 _ hw2) (F.1.2.2.2.2 _ hw3) (F.1.2.2.2.2 _ hw4) hfr hlo (Nat.zero_le _) (Nat.zero_le _) d ?_
  have e := oL_lt (a := 0) ⟨by omega, by omega⟩ hg
  rw [oL_0] at e
  simp only [e]
  by_cases q : 0 < a
  · rw [if_pos q] at kk ⊢; exact kk
  · rw [if_neg q] at kk ⊢; rw [← Int64.ofInt_neg]; exact kk
theorem r_gets (F : MX cl WS NW p s m args meth c cc nL own ret D cs ad T.length A) (G : GW cl D cs ad T A s.heap H locs σ) {C nm ds : String} {t index : Nat} (hZ : va_Z C nm ds (.ref t) A s s.heap) (hw : Cond.fieldLink own index C nm ds ∈ WS) (d : decode cc pc = .ok (.getstatic index, 3)) (kk : W p l e R s m args below meth c H locs 0 0 Q (F0 m (pc + 3) ls (.ref t :: st))) : W p l e R s m args below meth c H locs 0 0 Q (F0 m pc ls st) := va_gets F.1.1 F.1.2.1 hZ G.2 F.1.2.2.2.1 (F.1.2.2.2.2 _ hw) (fun _ h => h) d kk
theorem r_tlen (F : MX cl WS NW p s m args meth c cc nL own ret D cs ad T.length A) (G : GW cl D cs ad T A s.heap H locs σ) {t N : Nat} {f : Nat → Value} (hT : va_T .int t N f A s s.heap) {M : Int} (hN : (N : Int) = M) (d : decode cc pc = .ok (.arraylength, 1)) (kk : W p l e R s m args below meth c H locs 0 0 Q (F0 m (pc + 1) ls (iv M :: st))) : W p l e R s m args below meth c H locs 0 0 Q (F0 m pc ls (.ref t :: st)) := by
  subst hN
  exact va_tlen F.1.1 F.1.2.1 hT G.2 rfl d kk
theorem r_tld (F : MX cl WS NW p s m args meth c cc nL own ret D cs ad T.length A) (G : GW cl D cs ad T A s.heap H locs σ) {t N : Nat} {f : Nat → Int} (hT : va_T .int t N (fun j => iv (f j)) A s s.heap) {M i : Int} (hN : (N : Int) = M) (hn : N < 2147483648) {β : Type} {X : Option β} {y : β} (hf : jchk (0 ≤ i ∧ i < M) X = some y) (d : decode cc pc = .ok (.iaload, 1)) (kk : X = some y → W p l e R s m args below meth c H locs 0 0 Q (F0 m (pc + 1) ls (iv (f i.toNat) :: st))) : W p l e R s m args below meth c H locs 0 0 Q (F0 m pc ls (iv i :: .ref t :: st)) := by
  obtain ⟨hg, hf⟩ := jchk_elim hf
  obtain ⟨h1, h2⟩ := oI_in hN hn hg
  exact va_ti F.1.1 F.1.2.1 hT G.2 h1 (by rw [h2]) d (kk hf)
theorem PU_blind {sz : Nat} {av : List Value} : FrameBlind (va_Pc av (PU cl NW D cs ad T sz σ)) := by
  intro a U g mk q
  obtain ⟨q0, q1, qP, qK, qI, qX⟩ := q
  exact ⟨q0, q1, qP, va_K.moved (u := U) (U := U.calling g mk a) (Vm.Alike.refl U.vm) qK, qI, qX.call g mk a⟩
theorem AW_sub (F : MX cl WS NW p s m args meth c cc nL own ret D cs ad T.length A) (G : GW cl D cs ad T A s.heap H locs σ) : ∀ q, AW ad T.length H.size q → A q := by
  intro q h
  rcases h with ⟨k, hk, rfl⟩ | h
  · exact F.2.2.2.2.1 k hk
  · exact F.2.2.1 q (Nat.le_trans G.2.1 h)
theorem PU_at (F : MX cl WS NW p s m args meth c cc nL own ret D cs ad T.length A) (G : GW cl D cs ad T A s.heap H locs σ) {U : State} (hU : U.heap = H) (hW : s.WarmedH U.vm) : PU cl NW D cs ad T H.size σ U :=
  ⟨by rw [hU], by rw [hU]; exact G.1, va_K.moved hW.alike F.2.1, F.2.2.2.1, F.2.2.2.2.2.2.2.warm G.2 hU hW (AW_sub F G)⟩
theorem g_runV (F : MX cl WS NW p s m args meth c cc nL own ret D cs ad T.length A) (G : GW cl D cs ad T A s.heap H locs σ) {y : MethodName} {bytes : ByteArray} {maxL n index : Nat} {rt : Option FieldType} {rm : Room} {As st0 : List Value} (hl : ls.size = nL) (L : LinkV WS own index y bytes maxL rt n) {k ci : Nat} {sl : List (Nat × Nat)} {q : u_T × Nat} (hk : T[k]? = some (.inr (ci, sl))) (hci : cl[ci]? = some (y.cls, q)) {Qc : Array Value → State → Outcome → State → Prop} (hM : Met l y (Cond.code y bytes maxL rt :: WS) rm (va_Pc (.ref (ad k) :: As) (PU cl NW D cs ad T H.size σ)) Qc 0 0 (AW ad T.length H.size)) (hrm : rm.cells = 0 ∧ rm.slots = 0) (hR : rm.frames + 1 ≤ R.frames ∧ 8 + (maxL + 11) + rm.locals ≤ R.locals) (hn : As.length = n) (hst : st0 = As.reverse ++ .ref (ad k) :: st) (hroom : (st.map fun v => v.category).sum ≤ 8) (d : decode cc pc = .ok (.invokevirtual index, 3)) : va_Run p l e R s m args below meth c H locs 0 0 0 0 (F0 m pc ls st0) st (Qc (Value.ref (ad k) :: As).toArray) (AW ad T.length H.size) :=
  va_runV F.1 hM (cwV n F.1.2.2.2.2 L.1 rfl hrm.1 hrm.2 L.2 hR) ⟨PU_blind, va_recv F.2.1 G.1 hci (wd_get hk), fun U hU hW => ⟨rfl, PU_at F G hU hW⟩⟩ rfl hn hl hst (lv_room hroom) d ⟨Nat.zero_le _, Nat.zero_le _⟩
theorem g_runS (F : MX cl WS NW p s m args meth c cc nL own ret D cs ad T.length A) (G : GW cl D cs ad T A s.heap H locs σ) {y : MethodName} {bytes : ByteArray} {maxL n index : Nat} {rt : Option FieldType} {rm : Room} {As st0 : List Value} (hl : ls.size = nL) (L : LinkS WS own index y bytes maxL rt n) {Qc : Array Value → State → Outcome → State → Prop} (hM : Met l y (Cond.code y bytes maxL rt :: WS) rm (va_Pc As (PU cl NW D cs ad T H.size σ)) Qc 0 0 (AW ad T.length H.size)) (hrm : rm.cells = 0 ∧ rm.slots = 0) (hR : rm.frames + 1 ≤ R.frames ∧ 8 + (maxL + 11) + rm.locals ≤ R.locals) (hn : As.length = n) (hst : st0 = As.reverse ++ st) (hroom : (st.map fun v => v.category).sum ≤ 8) (d : decode cc pc = .ok (.invokestatic index, 3)) : va_Run p l e R s m args below meth c H locs 0 0 0 0 (F0 m pc ls st0) st (Qc As.toArray) (AW ad T.length H.size) :=
  va_runS F.1 hM (va_cwS n F.1.2.2.2.2 L.1 rfl hrm.1 hrm.2 L.2 hR) ⟨PU_blind, fun U hU hW => ⟨rfl, PU_at F G hU hW⟩⟩ rfl hn hl hst (lv_room hroom) d ⟨Nat.zero_le _, Nat.zero_le _⟩
theorem g_runN (F : MX cl WS NW p s m args meth c cc nL own ret D cs ad T.length A) (G : GW cl D cs ad T A s.heap H locs σ) {y : MethodName} {bytes : ByteArray} {maxL n index : Nat} {rt : Option FieldType} {rm : Room} {As st0 : List Value} (hl : ls.size = nL) {host : String} (L : LinkN WS NW own index y host bytes maxL rt n) {Qc : Array Value → State → Outcome → State → Prop} (hM : Met l y (Cond.code y bytes maxL rt :: WS) rm (va_Pc As (PU cl NW D cs ad T H.size σ)) Qc 0 0 (AW ad T.length H.size)) (hrm : rm.cells = 0 ∧ rm.slots = 0) (hR : rm.frames + 1 ≤ R.frames ∧ 8 + (maxL + 11) + rm.locals ≤ R.locals) (hn : As.length = n) (hst : st0 = As.reverse ++ st) (hroom : (st.map fun v => v.category).sum ≤ 8) (d : decode cc pc = .ok (.invokestatic index, 3)) : va_Run p l e R s m args below meth c H locs 0 0 0 0 (F0 m pc ls st0) st (Qc As.toArray) (AW ad T.length H.size) :=
  va_runSN F.1 hM ⟨va_cnB n F.1.2.2.2.2 L.1 rfl hrm.1 hrm.2 (F.2.2.2.2.2.2.2.1 _ _ _ _ L.2.1) (F.1.2.2.2.2 _ L.2.2.1) L.2.2.2.2 hR, F.1.2.2.2.2 _ L.2.2.2.1, trivial⟩ ⟨PU_blind, fun U hU hW => ⟨rfl, PU_at F G hU hW⟩⟩ rfl hn hl hst (lv_room hroom) d ⟨Nat.zero_le _, Nat.zero_le _⟩
theorem r_callVI (F : MX cl WS NW p s m args meth c cc nL own ret D cs ad T.length A) (G : GW cl D cs ad T A s.heap H locs σ) {y : MethodName} {bytes : ByteArray} {maxL n index : Nat} {rt : Option FieldType} {rm : Room} {as : (Nat → Nat) → List Value} {As st0 : List Value} (hl : ls.size = nL) (L : LinkV WS own index y bytes maxL rt n) {k ci : Nat} {sl : List (Nat × Nat)} {q : u_T × Nat} (hk : T[k]? = some (.inr (ci, sl))) (hci : cl[ci]? = some (y.cls, q)) {res : Option (Int × St)} (hC : CtrI cl WS NW T l y bytes maxL rt rm as σ res) (hrm : rm.cells = 0 ∧ rm.slots = 0) (hR : rm.frames + 1 ≤ R.frames ∧ 8 + (maxL + 11) + rm.locals ≤ R.locals) (hn : As.length = n) (has : as ad = .ref (ad k) :: As) (hst : st0 = As.reverse ++ .ref (ad k) :: st) (hroom : (st.map fun v => v.category).sum ≤ 8) (d : decode cc pc = .ok (.invokevirtual index, 3)) {β : Type} {kont : Int × St → Option β} {y0 : β} (hf : jbind res kont = some y0) (kk : ∀ v σ' H' locs', GW cl D cs ad T A s.heap H' locs' σ' → kont (v, σ') = some y0 → W p l e R s m args below meth c H' locs' 0 0 Q (F0 m (pc + 3) ls (iv v :: st))) : W p l e R s m args below meth c H locs 0 0 Q (F0 m pc ls st0) := by
  obtain ⟨⟨v, σ'⟩, e1, e2⟩ := jbind_elim hf
  have hM := hC v σ' e1 D cs ad H.size
  rw [has] at hM
  refine va_calli (g_runV F G hl L hk hci hM hrm hR hn hst hroom d) G.2 (fun q _ h => AW_sub F G q h) (AW_sub F G) (fun r u t H1 locs1 ht hvm hw hB hz1 hk1 hS => ?_)
  obtain ⟨w1, w2⟩ := hw
  subst w1; subst w2
  refine kk v u H1 locs1 ⟨?_, hS⟩ e2
  rw [← ht]; exact hB
theorem r_callVIr (F : MX cl WS NW p s m args meth c cc nL own ret D cs ad T.length A) (G : GW cl D cs ad T A s.heap H locs σ) {y : MethodName} {bytes : ByteArray} {maxL n index : Nat} {rt : Option FieldType} {rm : Room} {as : (Nat → Nat) → List Value} {As st0 : List Value} (hl : ls.size = nL) (L : LinkV WS own index y bytes maxL rt n) {k ci : Nat} {sl : List (Nat × Nat)} {q : u_T × Nat} (hk : T[k]? = some (.inr (ci, sl))) (hci : cl[ci]? = some (y.cls, q)) {res : Option Int} (hC : CtrI cl WS NW T l y bytes maxL rt rm as σ (rd res σ)) (hrm : rm.cells = 0 ∧ rm.slots = 0) (hR : rm.frames + 1 ≤ R.frames ∧ 8 + (maxL + 11) + rm.locals ≤ R.locals) (hn : As.length = n) (has : as ad = .ref (ad k) :: As) (hst : st0 = As.reverse ++ .ref (ad k) :: st) (hroom : (st.map fun v => v.category).sum ≤ 8) (d : decode cc pc = .ok (.invokevirtual index, 3)) {β : Type} {kont : Int → Option β} {y0 : β} (hf : jbind res kont = some y0) (kk : ∀ v H' locs', GW cl D cs ad T A s.heap H' locs' σ → kont v = some y0 → W p l e R s m args below meth c H' locs' 0 0 Q (F0 m (pc + 3) ls (iv v :: st))) : W p l e R s m args below meth c H locs 0 0 Q (F0 m pc ls st0) := by
  obtain ⟨v, e1, e2⟩ := jbind_elim hf
  subst e1
  refine r_callVI F G hl L hk hci hC hrm hR hn has hst hroom d (kont := fun q => jchk True (some (q.1, q.2))) (y0 := (v, σ)) rfl (fun v' σ' H' locs' G' e => ?_)
  obtain ⟨-, e⟩ := jchk_elim e
  cases e
  exact kk _ H' locs' G' e2
theorem r_callVL (F : MX cl WS NW p s m args meth c cc nL own ret D cs ad T.length A) (G : GW cl D cs ad T A s.heap H locs σ) {y : MethodName} {bytes : ByteArray} {maxL n index : Nat} {rt : Option FieldType} {rm : Room} {as : (Nat → Nat) → List Value} {As st0 : List Value} (hl : ls.size = nL) (L : LinkV WS own index y bytes maxL rt n) {k ci : Nat} {sl : List (Nat × Nat)} {q : u_T × Nat} (hk : T[k]? = some (.inr (ci, sl))) (hci : cl[ci]? = some (y.cls, q)) {res : Option (Int × St)} (hC : CtrL cl WS NW T l y bytes maxL rt rm as σ res) (hrm : rm.cells = 0 ∧ rm.slots = 0) (hR : rm.frames + 1 ≤ R.frames ∧ 8 + (maxL + 11) + rm.locals ≤ R.locals) (hn : As.length = n) (has : as ad = .ref (ad k) :: As) (hst : st0 = As.reverse ++ .ref (ad k) :: st) (hroom : (st.map fun v => v.category).sum ≤ 8) (d : decode cc pc = .ok (.invokevirtual index, 3)) {β : Type} {kont : Int × St → Option β} {y0 : β} (hf : jbind res kont = some y0) (kk : ∀ v σ' H' locs', GW cl D cs ad T A s.heap H' locs' σ' → kont (v, σ') = some y0 → W p l e R s m args below meth c H' locs' 0 0 Q (F0 m (pc + 3) ls (jv v :: st))) : W p l e R s m args below meth c H locs 0 0 Q (F0 m pc ls st0) := by
  obtain ⟨⟨v, σ'⟩, e1, e2⟩ := jbind_elim hf
  have hM := hC v σ' e1 D cs ad H.size
  rw [has] at hM
  refine va_calll (g_runV F G hl L hk hci hM hrm hR hn hst hroom d) G.2 (fun q _ h => AW_sub F G q h) (AW_sub F G) (fun r u t H1 locs1 ht hvm hw hB hz1 hk1 hS => ?_)
  obtain ⟨w1, w2⟩ := hw
  subst w1; subst w2
  refine kk v u H1 locs1 ⟨?_, hS⟩ e2
  rw [← ht]; exact hB
theorem r_callVLr (F : MX cl WS NW p s m args meth c cc nL own ret D cs ad T.length A) (G : GW cl D cs ad T A s.heap H locs σ) {y : MethodName} {bytes : ByteArray} {maxL n index : Nat} {rt : Option FieldType} {rm : Room} {as : (Nat → Nat) → List Value} {As st0 : List Value} (hl : ls.size = nL) (L : LinkV WS own index y bytes maxL rt n) {k ci : Nat} {sl : List (Nat × Nat)} {q : u_T × Nat} (hk : T[k]? = some (.inr (ci, sl))) (hci : cl[ci]? = some (y.cls, q)) {res : Option Int} (hC : CtrL cl WS NW T l y bytes maxL rt rm as σ (rd res σ)) (hrm : rm.cells = 0 ∧ rm.slots = 0) (hR : rm.frames + 1 ≤ R.frames ∧ 8 + (maxL + 11) + rm.locals ≤ R.locals) (hn : As.length = n) (has : as ad = .ref (ad k) :: As) (hst : st0 = As.reverse ++ .ref (ad k) :: st) (hroom : (st.map fun v => v.category).sum ≤ 8) (d : decode cc pc = .ok (.invokevirtual index, 3)) {β : Type} {kont : Int → Option β} {y0 : β} (hf : jbind res kont = some y0) (kk : ∀ v H' locs', GW cl D cs ad T A s.heap H' locs' σ → kont v = some y0 → W p l e R s m args below meth c H' locs' 0 0 Q (F0 m (pc + 3) ls (jv v :: st))) : W p l e R s m args below meth c H locs 0 0 Q (F0 m pc ls st0) := by
  obtain ⟨v, e1, e2⟩ := jbind_elim hf
  subst e1
  refine r_callVL F G hl L hk hci hC hrm hR hn has hst hroom d (kont := fun q => jchk True (some (q.1, q.2))) (y0 := (v, σ)) rfl (fun v' σ' H' locs' G' e => ?_)
  obtain ⟨-, e⟩ := jchk_elim e
  cases e
  exact kk _ H' locs' G' e2
theorem r_callVV (F : MX cl WS NW p s m args meth c cc nL own ret D cs ad T.length A) (G : GW cl D cs ad T A s.heap H locs σ) {y : MethodName} {bytes : ByteArray} {maxL n index : Nat} {rt : Option FieldType} {rm : Room} {as : (Nat → Nat) → List Value} {As st0 : List Value} (hl : ls.size = nL) (L : LinkV WS own index y bytes maxL rt n) {k ci : Nat} {sl : List (Nat × Nat)} {q : u_T × Nat} (hk : T[k]? = some (.inr (ci, sl))) (hci : cl[ci]? = some (y.cls, q)) {res : Option St} (hC : CtrV cl WS NW T l y bytes maxL rt rm as σ res) (hrm : rm.cells = 0 ∧ rm.slots = 0) (hR : rm.frames + 1 ≤ R.frames ∧ 8 + (maxL + 11) + rm.locals ≤ R.locals) (hn : As.length = n) (has : as ad = .ref (ad k) :: As) (hst : st0 = As.reverse ++ .ref (ad k) :: st) (hroom : (st.map fun v => v.category).sum ≤ 8) (d : decode cc pc = .ok (.invokevirtual index, 3)) {β : Type} {kont : St → Option β} {y0 : β} (hf : jbind res kont = some y0) (kk : ∀ σ' H' locs', GW cl D cs ad T A s.heap H' locs' σ' → kont σ' = some y0 → W p l e R s m args below meth c H' locs' 0 0 Q (F0 m (pc + 3) ls st)) : W p l e R s m args below meth c H locs 0 0 Q (F0 m pc ls st0) := by
  obtain ⟨σ', e1, e2⟩ := jbind_elim hf
  have hM := hC σ' e1 D cs ad H.size
  rw [has] at hM
  refine va_callv (g_runV F G hl L hk hci hM hrm hR hn hst hroom d) G.2 (fun q _ h => AW_sub F G q h) (AW_sub F G) (fun u t H1 locs1 ht hvm hw hB hz1 hk1 hS => ?_)
  subst hw
  refine kk u H1 locs1 ⟨?_, hS⟩ e2
  rw [← ht]; exact hB
theorem r_callSI (F : MX cl WS NW p s m args meth c cc nL own ret D cs ad T.length A) (G : GW cl D cs ad T A s.heap H locs σ) {y : MethodName} {bytes : ByteArray} {maxL n index : Nat} {rt : Option FieldType} {rm : Room} {as : (Nat → Nat) → List Value} {As st0 : List Value} (hl : ls.size = nL) (L : LinkS WS own index y bytes maxL rt n) {res : Option (Int × St)} (hC : CtrI cl WS NW T l y bytes maxL rt rm as σ res) (hrm : rm.cells = 0 ∧ rm.slots = 0) (hR : rm.frames + 1 ≤ R.frames ∧ 8 + (maxL + 11) + rm.locals ≤ R.locals) (hn : As.length = n) (has : as ad = As) (hst : st0 = As.reverse ++ st) (hroom : (st.map fun v => v.category).sum ≤ 8) (d : decode cc pc = .ok (.invokestatic index, 3)) {β : Type} {kont : Int × St → Option β} {y0 : β} (hf : jbind res kont = some y0) (kk : ∀ v σ' H' locs', GW cl D cs ad T A s.heap H' locs' σ' → kont (v, σ') = some y0 → W p l e R s m args below meth c H' locs' 0 0 Q (F0 m (pc + 3) ls (iv v :: st))) : W p l e R s m args below meth c H locs 0 0 Q (F0 m pc ls st0) := by
  obtain ⟨⟨v, σ'⟩, e1, e2⟩ := jbind_elim hf
  have hM := hC v σ' e1 D cs ad H.size
  rw [has] at hM
  refine va_calli (g_runS F G hl L hM hrm hR hn hst hroom d) G.2 (fun q _ h => AW_sub F G q h) (AW_sub F G) (fun r u t H1 locs1 ht hvm hw hB hz1 hk1 hS => ?_)
  obtain ⟨w1, w2⟩ := hw
  subst w1; subst w2
  refine kk v u H1 locs1 ⟨?_, hS⟩ e2
  rw [← ht]; exact hB
theorem r_callSIr (F : MX cl WS NW p s m args meth c cc nL own ret D cs ad T.length A) (G : GW cl D cs ad T A s.heap H locs σ) {y : MethodName} {bytes : ByteArray} {maxL n index : Nat} {rt : Option FieldType} {rm : Room} {as : (Nat → Nat) → List Value} {As st0 : List Value} (hl : ls.size = nL) (L : LinkS WS own index y bytes maxL rt n) {res : Option Int} (hC : CtrI cl WS NW T l y bytes maxL rt rm as σ (rd res σ)) (hrm : rm.cells = 0 ∧ rm.slots = 0) (hR : rm.frames + 1 ≤ R.frames ∧ 8 + (maxL + 11) + rm.locals ≤ R.locals) (hn : As.length = n) (has : as ad = As) (hst : st0 = As.reverse ++ st) (hroom : (st.map fun v => v.category).sum ≤ 8) (d : decode cc pc = .ok (.invokestatic index, 3)) {β : Type} {kont : Int → Option β} {y0 : β} (hf : jbind res kont = some y0) (kk : ∀ v H' locs', GW cl D cs ad T A s.heap H' locs' σ → kont v = some y0 → W p l e R s m args below meth c H' locs' 0 0 Q (F0 m (pc + 3) ls (iv v :: st))) : W p l e R s m args below meth c H locs 0 0 Q (F0 m pc ls st0) := by
  obtain ⟨v, e1, e2⟩ := jbind_elim hf
  subst e1
  refine r_callSI F G hl L hC hrm hR hn has hst hroom d (kont := fun q => jchk True (some (q.1, q.2))) (y0 := (v, σ)) rfl (fun v' σ' H' locs' G' e => ?_)
  obtain ⟨-, e⟩ := jchk_elim e
  cases e
  exact kk _ H' locs' G' e2
theorem r_callSL (F : MX cl WS NW p s m args meth c cc nL own ret D cs ad T.length A) (G : GW cl D cs ad T A s.heap H locs σ) {y : MethodName} {bytes : ByteArray} {maxL n index : Nat} {rt : Option FieldType} {rm : Room} {as : (Nat → Nat) → List Value} {As st0 : List Value} (hl : ls.size = nL) (L : LinkS WS own index y bytes maxL rt n) {res : Option (Int × St)} (hC : CtrL cl WS NW T l y bytes maxL rt rm as σ res) (hrm : rm.cells = 0 ∧ rm.slots = 0) (hR : rm.frames + 1 ≤ R.frames ∧ 8 + (maxL + 11) + rm.locals ≤ R.locals) (hn : As.length = n) (has : as ad = As) (hst : st0 = As.reverse ++ st) (hroom : (st.map fun v => v.category).sum ≤ 8) (d : decode cc pc = .ok (.invokestatic index, 3)) {β : Type} {kont : Int × St → Option β} {y0 : β} (hf : jbind res kont = some y0) (kk : ∀ v σ' H' locs', GW cl D cs ad T A s.heap H' locs' σ' → kont (v, σ') = some y0 → W p l e R s m args below meth c H' locs' 0 0 Q (F0 m (pc + 3) ls (jv v :: st))) : W p l e R s m args below meth c H locs 0 0 Q (F0 m pc ls st0) := by
  obtain ⟨⟨v, σ'⟩, e1, e2⟩ := jbind_elim hf
  have hM := hC v σ' e1 D cs ad H.size
  rw [has] at hM
  refine va_calll (g_runS F G hl L hM hrm hR hn hst hroom d) G.2 (fun q _ h => AW_sub F G q h) (AW_sub F G) (fun r u t H1 locs1 ht hvm hw hB hz1 hk1 hS => ?_)
  obtain ⟨w1, w2⟩ := hw
  subst w1; subst w2
  refine kk v u H1 locs1 ⟨?_, hS⟩ e2
  rw [← ht]; exact hB
theorem r_callSLr (F : MX cl WS NW p s m args meth c cc nL own ret D cs ad T.length A) (G : GW cl D cs ad T A s.heap H locs σ) {y : MethodName} {bytes : ByteArray} {maxL n index : Nat} {rt : Option FieldType} {rm : Room} {as : (Nat → Nat) → List Value} {As st0 : List Value} (hl : ls.size = nL) (L : LinkS WS own index y bytes maxL rt n) {res : Option Int} (hC : CtrL cl WS NW T l y bytes maxL rt rm as σ (rd res σ)) (hrm : rm.cells = 0 ∧ rm.slots = 0) (hR : rm.frames + 1 ≤ R.frames ∧ 8 + (maxL + 11) + rm.locals ≤ R.locals) (hn : As.length = n) (has : as ad = As) (hst : st0 = As.reverse ++ st) (hroom : (st.map fun v => v.category).sum ≤ 8) (d : decode cc pc = .ok (.invokestatic index, 3)) {β : Type} {kont : Int → Option β} {y0 : β} (hf : jbind res kont = some y0) (kk : ∀ v H' locs', GW cl D cs ad T A s.heap H' locs' σ → kont v = some y0 → W p l e R s m args below meth c H' locs' 0 0 Q (F0 m (pc + 3) ls (jv v :: st))) : W p l e R s m args below meth c H locs 0 0 Q (F0 m pc ls st0) := by
  obtain ⟨v, e1, e2⟩ := jbind_elim hf
  subst e1
  refine r_callSL F G hl L hC hrm hR hn has hst hroom d (kont := fun q => jchk True (some (q.1, q.2))) (y0 := (v, σ)) rfl (fun v' σ' H' locs' G' e => ?_)
  obtain ⟨-, e⟩ := jchk_elim e
  cases e
  exact kk _ H' locs' G' e2
theorem r_callSV (F : MX cl WS NW p s m args meth c cc nL own ret D cs ad T.length A) (G : GW cl D cs ad T A s.heap H locs σ) {y : MethodName} {bytes : ByteArray} {maxL n index : Nat} {rt : Option FieldType} {rm : Room} {as : (Nat → Nat) → List Value} {As st0 : List Value} (hl : ls.size = nL) (L : LinkS WS own index y bytes maxL rt n) {res : Option St} (hC : CtrV cl WS NW T l y bytes maxL rt rm as σ res) (hrm : rm.cells = 0 ∧ rm.slots = 0) (hR : rm.frames + 1 ≤ R.frames ∧ 8 + (maxL + 11) + rm.locals ≤ R.locals) (hn : As.length = n) (has : as ad = As) (hst : st0 = As.reverse ++ st) (hroom : (st.map fun v => v.category).sum ≤ 8) (d : decode cc pc = .ok (.invokestatic index, 3)) {β : Type} {kont : St → Option β} {y0 : β} (hf : jbind res kont = some y0) (kk : ∀ σ' H' locs', GW cl D cs ad T A s.heap H' locs' σ' → kont σ' = some y0 → W p l e R s m args below meth c H' locs' 0 0 Q (F0 m (pc + 3) ls st)) : W p l e R s m args below meth c H locs 0 0 Q (F0 m pc ls st0) := by
  obtain ⟨σ', e1, e2⟩ := jbind_elim hf
  have hM := hC σ' e1 D cs ad H.size
  rw [has] at hM
  refine va_callv (g_runS F G hl L hM hrm hR hn hst hroom d) G.2 (fun q _ h => AW_sub F G q h) (AW_sub F G) (fun u t H1 locs1 ht hvm hw hB hz1 hk1 hS => ?_)
  subst hw
  refine kk u H1 locs1 ⟨?_, hS⟩ e2
  rw [← ht]; exact hB
theorem r_callNI (F : MX cl WS NW p s m args meth c cc nL own ret D cs ad T.length A) (G : GW cl D cs ad T A s.heap H locs σ) {y : MethodName} {bytes : ByteArray} {maxL n index : Nat} {rt : Option FieldType} {rm : Room} {as : (Nat → Nat) → List Value} {As st0 : List Value} (hl : ls.size = nL) {host : String} (L : LinkN WS NW own index y host bytes maxL rt n) {res : Option (Int × St)} (hC : CtrI cl WS NW T l y bytes maxL rt rm as σ res) (hrm : rm.cells = 0 ∧ rm.slots = 0) (hR : rm.frames + 1 ≤ R.frames ∧ 8 + (maxL + 11) + rm.locals ≤ R.locals) (hn : As.length = n) (has : as ad = As) (hst : st0 = As.reverse ++ st) (hroom : (st.map fun v => v.category).sum ≤ 8) (d : decode cc pc = .ok (.invokestatic index, 3)) {β : Type} {kont : Int × St → Option β} {y0 : β} (hf : jbind res kont = some y0) (kk : ∀ v σ' H' locs', GW cl D cs ad T A s.heap H' locs' σ' → kont (v, σ') = some y0 → W p l e R s m args below meth c H' locs' 0 0 Q (F0 m (pc + 3) ls (iv v :: st))) : W p l e R s m args below meth c H locs 0 0 Q (F0 m pc ls st0) := by
  obtain ⟨⟨v, σ'⟩, e1, e2⟩ := jbind_elim hf
  have hM := hC v σ' e1 D cs ad H.size
  rw [has] at hM
  refine va_calli (g_runN F G hl L hM hrm hR hn hst hroom d) G.2 (fun q _ h => AW_sub F G q h) (AW_sub F G) (fun r u t H1 locs1 ht hvm hw hB hz1 hk1 hS => ?_)
  obtain ⟨w1, w2⟩ := hw
  subst w1; subst w2
  refine kk v u H1 locs1 ⟨?_, hS⟩ e2
  rw [← ht]; exact hB
theorem r_callNIr (F : MX cl WS NW p s m args meth c cc nL own ret D cs ad T.length A) (G : GW cl D cs ad T A s.heap H locs σ) {y : MethodName} {bytes : ByteArray} {maxL n index : Nat} {rt : Option FieldType} {rm : Room} {as : (Nat → Nat) → List Value} {As st0 : List Value} (hl : ls.size = nL) {host : String} (L : LinkN WS NW own index y host bytes maxL rt n) {res : Option Int} (hC : CtrI cl WS NW T l y bytes maxL rt rm as σ (rd res σ)) (hrm : rm.cells = 0 ∧ rm.slots = 0) (hR : rm.frames + 1 ≤ R.frames ∧ 8 + (maxL + 11) + rm.locals ≤ R.locals) (hn : As.length = n) (has : as ad = As) (hst : st0 = As.reverse ++ st) (hroom : (st.map fun v => v.category).sum ≤ 8) (d : decode cc pc = .ok (.invokestatic index, 3)) {β : Type} {kont : Int → Option β} {y0 : β} (hf : jbind res kont = some y0) (kk : ∀ v H' locs', GW cl D cs ad T A s.heap H' locs' σ → kont v = some y0 → W p l e R s m args below meth c H' locs' 0 0 Q (F0 m (pc + 3) ls (iv v :: st))) : W p l e R s m args below meth c H locs 0 0 Q (F0 m pc ls st0) := by
  obtain ⟨v, e1, e2⟩ := jbind_elim hf
  subst e1
  refine r_callNI F G hl L hC hrm hR hn has hst hroom d (kont := fun q => jchk True (some (q.1, q.2))) (y0 := (v, σ)) rfl (fun v' σ' H' locs' G' e => ?_)
  obtain ⟨-, e⟩ := jchk_elim e
  cases e
  exact kk _ H' locs' G' e2
theorem r_callNL (F : MX cl WS NW p s m args meth c cc nL own ret D cs ad T.length A) (G : GW cl D cs ad T A s.heap H locs σ) {y : MethodName} {bytes : ByteArray} {maxL n index : Nat} {rt : Option FieldType} {rm : Room} {as : (Nat → Nat) → List Value} {As st0 : List Value} (hl : ls.size = nL) {host : String} (L : LinkN WS NW own index y host bytes maxL rt n) {res : Option (Int × St)} (hC : CtrL cl WS NW T l y bytes maxL rt rm as σ res) (hrm : rm.cells = 0 ∧ rm.slots = 0) (hR : rm.frames + 1 ≤ R.frames ∧ 8 + (maxL + 11) + rm.locals ≤ R.locals) (hn : As.length = n) (has : as ad = As) (hst : st0 = As.reverse ++ st) (hroom : (st.map fun v => v.category).sum ≤ 8) (d : decode cc pc = .ok (.invokestatic index, 3)) {β : Type} {kont : Int × St → Option β} {y0 : β} (hf : jbind res kont = some y0) (kk : ∀ v σ' H' locs', GW cl D cs ad T A s.heap H' locs' σ' → kont (v, σ') = some y0 → W p l e R s m args below meth c H' locs' 0 0 Q (F0 m (pc + 3) ls (jv v :: st))) : W p l e R s m args below meth c H locs 0 0 Q (F0 m pc ls st0) := by
  obtain ⟨⟨v, σ'⟩, e1, e2⟩ := jbind_elim hf
  have hM := hC v σ' e1 D cs ad H.size
  rw [has] at hM
  refine va_calll (g_runN F G hl L hM hrm hR hn hst hroom d) G.2 (fun q _ h => AW_sub F G q h) (AW_sub F G) (fun r u t H1 locs1 ht hvm hw hB hz1 hk1 hS => ?_)
  obtain ⟨w1, w2⟩ := hw
  subst w1; subst w2
  refine kk v u H1 locs1 ⟨?_, hS⟩ e2
  rw [← ht]; exact hB
theorem r_callNLr (F : MX cl WS NW p s m args meth c cc nL own ret D cs ad T.length A) (G : GW cl D cs ad T A s.heap H locs σ) {y : MethodName} {bytes : ByteArray} {maxL n index : Nat} {rt : Option FieldType} {rm : Room} {as : (Nat → Nat) → List Value} {As st0 : List Value} (hl : ls.size = nL) {host : String} (L : LinkN WS NW own index y host bytes maxL rt n) {res : Option Int} (hC : CtrL cl WS NW T l y bytes maxL rt rm as σ (rd res σ)) (hrm : rm.cells = 0 ∧ rm.slots = 0) (hR : rm.frames + 1 ≤ R.frames ∧ 8 + (maxL + 11) + rm.locals ≤ R.locals) (hn : As.length = n) (has : as ad = As) (hst : st0 = As.reverse ++ st) (hroom : (st.map fun v => v.category).sum ≤ 8) (d : decode cc pc = .ok (.invokestatic index, 3)) {β : Type} {kont : Int → Option β} {y0 : β} (hf : jbind res kont = some y0) (kk : ∀ v H' locs', GW cl D cs ad T A s.heap H' locs' σ → kont v = some y0 → W p l e R s m args below meth c H' locs' 0 0 Q (F0 m (pc + 3) ls (jv v :: st))) : W p l e R s m args below meth c H locs 0 0 Q (F0 m pc ls st0) := by
  obtain ⟨v, e1, e2⟩ := jbind_elim hf
  subst e1
  refine r_callNL F G hl L hC hrm hR hn has hst hroom d (kont := fun q => jchk True (some (q.1, q.2))) (y0 := (v, σ)) rfl (fun v' σ' H' locs' G' e => ?_)
  obtain ⟨-, e⟩ := jchk_elim e
  cases e
  exact kk _ H' locs' G' e2
theorem r_callNV (F : MX cl WS NW p s m args meth c cc nL own ret D cs ad T.length A) (G : GW cl D cs ad T A s.heap H locs σ) {y : MethodName} {bytes : ByteArray} {maxL n index : Nat} {rt : Option FieldType} {rm : Room} {as : (Nat → Nat) → List Value} {As st0 : List Value} (hl : ls.size = nL) {host : String} (L : LinkN WS NW own index y host bytes maxL rt n) {res : Option St} (hC : CtrV cl WS NW T l y bytes maxL rt rm as σ res) (hrm : rm.cells = 0 ∧ rm.slots = 0) (hR : rm.frames + 1 ≤ R.frames ∧ 8 + (maxL + 11) + rm.locals ≤ R.locals) (hn : As.length = n) (has : as ad = As) (hst : st0 = As.reverse ++ st) (hroom : (st.map fun v => v.category).sum ≤ 8) (d : decode cc pc = .ok (.invokestatic index, 3)) {β : Type} {kont : St → Option β} {y0 : β} (hf : jbind res kont = some y0) (kk : ∀ σ' H' locs', GW cl D cs ad T A s.heap H' locs' σ' → kont σ' = some y0 → W p l e R s m args below meth c H' locs' 0 0 Q (F0 m (pc + 3) ls st)) : W p l e R s m args below meth c H locs 0 0 Q (F0 m pc ls st0) := by
  obtain ⟨σ', e1, e2⟩ := jbind_elim hf
  have hM := hC σ' e1 D cs ad H.size
  rw [has] at hM
  refine va_callv (g_runN F G hl L hM hrm hR hn hst hroom d) G.2 (fun q _ h => AW_sub F G q h) (AW_sub F G) (fun u t H1 locs1 ht hvm hw hB hz1 hk1 hS => ?_)
  subst hw
  refine kk u H1 locs1 ⟨?_, hS⟩ e2
  rw [← ht]; exact hB
theorem r_callVRr (F : MX cl WS NW p s m args meth c cc nL own ret D cs ad T.length A) (G : GW cl D cs ad T A s.heap H locs σ) {y : MethodName} {bytes : ByteArray} {maxL n index : Nat} {rt : Option FieldType} {rm : Room} {as : (Nat → Nat) → List Value} {As st0 : List Value} (hl : ls.size = nL) (L : LinkV WS own index y bytes maxL rt n) {k ci : Nat} {sl : List (Nat × Nat)} {q : u_T × Nat} (hk : T[k]? = some (.inr (ci, sl))) (hci : cl[ci]? = some (y.cls, q)) {res : Option Nat} (hC : CtrR cl WS NW T l y bytes maxL rt rm as σ (rd res σ)) (hrm : rm.cells = 0 ∧ rm.slots = 0) (hR : rm.frames + 1 ≤ R.frames ∧ 8 + (maxL + 11) + rm.locals ≤ R.locals) (hn : As.length = n) (has : as ad = .ref (ad k) :: As) (hst : st0 = As.reverse ++ .ref (ad k) :: st) (hroom : (st.map fun v => v.category).sum ≤ 8) (d : decode cc pc = .ok (.invokevirtual index, 3)) {β : Type} {kont : Nat → Option β} {y0 : β} (hf : jbind res kont = some y0) (kk : ∀ v H' locs', GW cl D cs ad T A s.heap H' locs' σ → kont v = some y0 → W p l e R s m args below meth c H' locs' 0 0 Q (F0 m (pc + 3) ls (.ref (ad v) :: st))) : W p l e R s m args below meth c H locs 0 0 Q (F0 m pc ls st0) := by
  obtain ⟨v, e1, e2⟩ := jbind_elim hf
  subst e1
  have hM := hC v σ rfl D cs ad H.size
  rw [has] at hM
  refine va_callr (g_runV F G hl L hk hci hM hrm hR hn hst hroom d) G.2 (fun q _ h => AW_sub F G q h) (AW_sub F G) (fun u ra t H1 locs1 ht hvm hw hB hz1 hk1 hS => ?_)
  obtain ⟨w1, hB⟩ := hB
  subst w1; subst hw
  refine kk v H1 locs1 ⟨?_, hS⟩ e2
  rw [← ht]; exact hB
theorem fin_I (F : MX cl WS NW p s m args meth c cc nL own (some .int) D cs ad T.length A) (G : GW cl D cs ad T A s.heap H locs σ) {v : Int} (d : decode cc pc = .ok (.ireturn, 1)) : W p l e R s m args below meth c H locs 0 0 (MQ below (va_Qi (fun r u => r = Int32.ofInt v ∧ u = σ) (BU cl D cs ad T) A) args s 0 0 A) (F0 m pc ls [iv v]) :=
  W.iret F.1.1 F.1.2.1 F.2.2.2.2.2.2.1 (fun t ht hW => ⟨⟨_, σ, rfl, ⟨rfl, rfl⟩, by unfold BU; rw [ht]; exact G.1⟩, G.2.F ht⟩) G.2.2.2 d F.2.2.2.2.2.1
theorem fin_Z (F : MX cl WS NW p s m args meth c cc nL own (some .boolean) D cs ad T.length A) (G : GW cl D cs ad T A s.heap H locs σ) {v : Int} (hv : v = 0 ∨ v = 1) (d : decode cc pc = .ok (.ireturn, 1)) : W p l e R s m args below meth c H locs 0 0 (MQ below (va_Qi (fun r u => r = Int32.ofInt v ∧ u = σ) (BU cl D cs ad T) A) args s 0 0 A) (F0 m pc ls [iv v]) :=
  W.zret F.1.1 F.1.2.1 F.2.2.2.2.2.2.1 (by rcases hv with rfl | rfl <;> decide) (fun t ht hW => ⟨⟨_, σ, rfl, ⟨rfl, rfl⟩, by unfold BU; rw [ht]; exact G.1⟩, G.2.F ht⟩) G.2.2.2 d F.2.2.2.2.2.1
theorem fin_L (F : MX cl WS NW p s m args meth c cc nL own (some .long) D cs ad T.length A) (G : GW cl D cs ad T A s.heap H locs σ) {v : Int} (d : decode cc pc = .ok (.lreturn, 1)) : W p l e R s m args below meth c H locs 0 0 (MQ below (va_Ql (fun r u => r = Int64.ofInt v ∧ u = σ) (BU cl D cs ad T) A) args s 0 0 A) (F0 m pc ls [jv v]) :=
  W.lret F.1.1 F.1.2.1 F.2.2.2.2.2.2.1 (fun t ht hW => ⟨⟨_, σ, rfl, ⟨rfl, rfl⟩, by unfold BU; rw [ht]; exact G.1⟩, G.2.F ht⟩) G.2.2.2 d F.2.2.2.2.2.1
theorem fin_V (F : MX cl WS NW p s m args meth c cc nL own none D cs ad T.length A) (G : GW cl D cs ad T A s.heap H locs σ) (d : decode cc pc = .ok (.return_, 1)) : W p l e R s m args below meth c H locs 0 0 (MQ below (va_Qv (fun u => u = σ) (BU cl D cs ad T) A) args s 0 0 A) (F0 m pc ls []) :=
  W.vret F.1.1 F.1.2.1 F.2.2.2.2.2.2.1 (fun t ht hW => ⟨⟨σ, rfl, rfl, by unfold BU; rw [ht]; exact G.1⟩, G.2.F ht⟩) G.2.2.2 d F.2.2.2.2.2.1
theorem fin_R {OC : String} (F : MX cl WS NW p s m args meth c cc nL own (some (.object OC)) D cs ad T.length A) (G : GW cl D cs ad T A s.heap H locs σ) {v : Nat} (d : decode cc pc = .ok (.areturn, 1)) : W p l e R s m args below meth c H locs 0 0 (MQ below (va_Qr (fun u => u = σ) (fun u a t => a = ad v ∧ BU cl D cs ad T u t) A) args s 0 0 A) (F0 m pc ls [.ref (ad v)]) :=
  W.aret F.1.1 F.1.2.1 F.2.2.2.2.2.2.1 (Or.inl ⟨_, rfl⟩) (Or.inr ⟨_, rfl⟩) (fun t ht hW => ⟨⟨σ, _, rfl, rfl, rfl, by unfold BU; rw [ht]; exact G.1⟩, G.2.F ht⟩) G.2.2.2 d F.2.2.2.2.2.1
theorem met_of {y : MethodName} {maxL sz : Nat} {rm : Room} {av : List Value} {Qc : Nat → Array Value → State → Outcome → State → Prop} (hy : plainName y.cls = true) (hlen : (lg_sl av).length ≤ maxL) (hws : ∀ w ∈ WS, w ∈ Cond.code y cc maxL ret :: WS)
    (body : ∀ (p : Program) (e : Env) (s : State) (m : MethodId) (below : List Frame) (meth : Method) (c : Code) (ls : Array Slot), MX cl WS NW p s m av.toArray meth c cc maxL y.cls ret D cs ad T.length (AW ad T.length s.heap.size) → GW cl D cs ad T (AW ad T.length s.heap.size) s.heap s.heap [] σ → lv_has ls maxL (lv_args 0 av) → W p l e rm s m av.toArray below meth c s.heap [] 0 0 (MQ below (Qc s.heap.size) av.toArray s 0 0 (AW ad T.length s.heap.size)) (F0 m 0 ls [])) :
    Met l y (Cond.code y cc maxL ret :: WS) rm (va_Pc av (PU cl NW D cs ad T sz σ)) (Qc sz) 0 0 (AW ad T.length sz) := by
  refine Met.ofW (cc := cc) (maxL := maxL) (ret := ret) hy rfl ?_
  intro p e s m args below meth c s₁ B hml hv
  obtain ⟨rfl, hsz, hP, hK, hI, hX⟩ := hv
  subst hsz
  have hts := atoms_spec (ws := Cond.code y cc maxL ret :: WS) B.pre
  have hl := lv_entry av (n := maxL) hlen
  rw [lg_entry_eq]
  generalize (lg_sl av ++ List.replicate (maxL - (lg_sl av).length) Slot.unset).toArray = ls at hl ⊢
  exact body p e s m below meth c ls ⟨⟨B.exec, B.bytes, hml, findClass_of_methodNamed B.named, fun w hw => hts w (hws w hw)⟩, hK, fun q h => Or.inr h, hI, fun k hk => Or.inl ⟨k, hk, rfl⟩, B.notSynchronized, B.returns, hX⟩ ⟨hP, va_S.rf⟩ hl
end ROWS2
end
