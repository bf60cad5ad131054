section
-- ===== PART A: goes FIRST, ahead of the names: the tables' words, and 'selects' of the private methods out of them =====
/-- a private method of a class that the tables say can be made, by its rows of tables_1 -/
def lw_okq (q : MethodName × Nat) : Prop := (q.1.cls ≠ "java/lang/invoke/MethodHandle" ∧ q.1.cls ≠ "java/lang/invoke/VarHandle") ∧ Cond.instantiable q.1.cls q.2 ∈ tables_1 ∧ Cond.privateMethod q.1 ∈ tables_1 ∧ Cond.instanceMethod q.1 ∈ tables_1
theorem lw_p0 : lw_okq (⟨"FirstPancake$PanText", "takeRing", "(I)Z"⟩, 7) := ⟨⟨by decide +kernel, by decide +kernel⟩, List.mem_of_getElem? (i := 47) (by decide +kernel), List.mem_of_getElem? (i := 374) (by decide +kernel), List.mem_of_getElem? (i := 375) (by decide +kernel)⟩
theorem lw_p1 : lw_okq (⟨"FirstPancake$PanText", "takeSticky", "()Z"⟩, 7) := ⟨⟨by decide +kernel, by decide +kernel⟩, List.mem_of_getElem? (i := 47) (by decide +kernel), List.mem_of_getElem? (i := 378) (by decide +kernel), List.mem_of_getElem? (i := 379) (by decide +kernel)⟩
theorem lw_p2 : lw_okq (⟨"FirstPancake$PanText", "takeRowEnd", "()Z"⟩, 7) := ⟨⟨by decide +kernel, by decide +kernel⟩, List.mem_of_getElem? (i := 47) (by decide +kernel), List.mem_of_getElem? (i := 382) (by decide +kernel), List.mem_of_getElem? (i := 383) (by decide +kernel)⟩
theorem lw_p3 : lw_okq (⟨"FirstPancake$PlanText", "takeDigit", "(I)Z"⟩, 4) := ⟨⟨by decide +kernel, by decide +kernel⟩, List.mem_of_getElem? (i := 84) (by decide +kernel), List.mem_of_getElem? (i := 391) (by decide +kernel), List.mem_of_getElem? (i := 392) (by decide +kernel)⟩
theorem lw_p4 : lw_okq (⟨"FirstPancake$PlanText", "takeSwing", "(I)Z"⟩, 4) := ⟨⟨by decide +kernel, by decide +kernel⟩, List.mem_of_getElem? (i := 84) (by decide +kernel), List.mem_of_getElem? (i := 484) (by decide +kernel), List.mem_of_getElem? (i := 485) (by decide +kernel)⟩
theorem lw_p5 : lw_okq (⟨"FirstPancake$PlanText", "takeSign", "(I)Z"⟩, 4) := ⟨⟨by decide +kernel, by decide +kernel⟩, List.mem_of_getElem? (i := 84) (by decide +kernel), List.mem_of_getElem? (i := 488) (by decide +kernel), List.mem_of_getElem? (i := 489) (by decide +kernel)⟩
theorem lw_p6 : lw_okq (⟨"FirstPancake", "isPlan", "(I)Z"⟩, 16) := ⟨⟨by decide +kernel, by decide +kernel⟩, List.mem_of_getElem? (i := 23) (by decide +kernel), List.mem_of_getElem? (i := 560) (by decide +kernel), List.mem_of_getElem? (i := 561) (by decide +kernel)⟩
theorem lw_p7 : lw_okq (⟨"FirstPancake", "isCell", "(I)Z"⟩, 16) := ⟨⟨by decide +kernel, by decide +kernel⟩, List.mem_of_getElem? (i := 23) (by decide +kernel), List.mem_of_getElem? (i := 577) (by decide +kernel), List.mem_of_getElem? (i := 578) (by decide +kernel)⟩
theorem lw_p8 : lw_okq (⟨"FirstPancake", "hasPan", "()Z"⟩, 16) := ⟨⟨by decide +kernel, by decide +kernel⟩, List.mem_of_getElem? (i := 23) (by decide +kernel), List.mem_of_getElem? (i := 585) (by decide +kernel), List.mem_of_getElem? (i := 586) (by decide +kernel)⟩
theorem lw_p9 : lw_okq (⟨"FirstPancake$Pan", "pour", "(LFirstPancake$Condition;ILFirstPancake$Cake;)V"⟩, 7) := ⟨⟨by decide +kernel, by decide +kernel⟩, List.mem_of_getElem? (i := 106) (by decide +kernel), List.mem_of_getElem? (i := 619) (by decide +kernel), List.mem_of_getElem? (i := 620) (by decide +kernel)⟩
theorem lw_p10 : lw_okq (⟨"FirstPancake$Pan", "lie", "(LFirstPancake$Condition;IILFirstPancake$Cake;)I"⟩, 7) := ⟨⟨by decide +kernel, by decide +kernel⟩, List.mem_of_getElem? (i := 106) (by decide +kernel), List.mem_of_getElem? (i := 628) (by decide +kernel), List.mem_of_getElem? (i := 629) (by decide +kernel)⟩
theorem lw_p11 : lw_okq (⟨"FirstPancake$Pan", "fasten", "(LFirstPancake$Condition;LFirstPancake$Cake;)V"⟩, 7) := ⟨⟨by decide +kernel, by decide +kernel⟩, List.mem_of_getElem? (i := 106) (by decide +kernel), List.mem_of_getElem? (i := 633) (by decide +kernel), List.mem_of_getElem? (i := 634) (by decide +kernel)⟩
theorem lw_p12 : lw_okq (⟨"FirstPancake$Pan", "run", "(LFirstPancake$Condition;LFirstPancake$Cake;I)V"⟩, 7) := ⟨⟨by decide +kernel, by decide +kernel⟩, List.mem_of_getElem? (i := 106) (by decide +kernel), List.mem_of_getElem? (i := 638) (by decide +kernel), List.mem_of_getElem? (i := 639) (by decide +kernel)⟩
theorem lw_p13 : lw_okq (⟨"FirstPancake$Pan", "beside", "(III)I"⟩, 7) := ⟨⟨by decide +kernel, by decide +kernel⟩, List.mem_of_getElem? (i := 106) (by decide +kernel), List.mem_of_getElem? (i := 642) (by decide +kernel), List.mem_of_getElem? (i := 643) (by decide +kernel)⟩
theorem lw_p14 : lw_okq (⟨"FirstPancake$Pan", "takeOut", "(LFirstPancake$Condition;LFirstPancake$Cake;)I"⟩, 7) := ⟨⟨by decide +kernel, by decide +kernel⟩, List.mem_of_getElem? (i := 106) (by decide +kernel), List.mem_of_getElem? (i := 647) (by decide +kernel), List.mem_of_getElem? (i := 648) (by decide +kernel)⟩
theorem lw_p15 : lw_okq (⟨"FirstPancake$Cake", "kindNow", "()I"⟩, 2) := ⟨⟨by decide +kernel, by decide +kernel⟩, List.mem_of_getElem? (i := 166) (by decide +kernel), List.mem_of_getElem? (i := 664) (by decide +kernel), List.mem_of_getElem? (i := 665) (by decide +kernel)⟩
def lw_privs_1 : List (MethodName × Nat) := [(⟨"FirstPancake$PanText", "takeRing", "(I)Z"⟩, 7), (⟨"FirstPancake$PanText", "takeSticky", "()Z"⟩, 7), (⟨"FirstPancake$PanText", "takeRowEnd", "()Z"⟩, 7), (⟨"FirstPancake$PlanText", "takeDigit", "(I)Z"⟩, 4), (⟨"FirstPancake$PlanText", "takeSwing", "(I)Z"⟩, 4), (⟨"FirstPancake$PlanText", "takeSign", "(I)Z"⟩, 4), (⟨"FirstPancake", "isPlan", "(I)Z"⟩, 16), (⟨"FirstPancake", "isCell", "(I)Z"⟩, 16), (⟨"FirstPancake", "hasPan", "()Z"⟩, 16), (⟨"FirstPancake$Pan", "pour", "(LFirstPancake$Condition;ILFirstPancake$Cake;)V"⟩, 7), (⟨"FirstPancake$Pan", "lie", "(LFirstPancake$Condition;IILFirstPancake$Cake;)I"⟩, 7), (⟨"FirstPancake$Pan", "fasten", "(LFirstPancake$Condition;LFirstPancake$Cake;)V"⟩, 7), (⟨"FirstPancake$Pan", "run", "(LFirstPancake$Condition;LFirstPancake$Cake;I)V"⟩, 7), (⟨"FirstPancake$Pan", "beside", "(III)I"⟩, 7), (⟨"FirstPancake$Pan", "takeOut", "(LFirstPancake$Condition;LFirstPancake$Cake;)I"⟩, 7), (⟨"FirstPancake$Cake", "kindNow", "()I"⟩, 2)]
theorem lw_r1 : ∀ q ∈ lw_privs_1, lw_okq q := List.forall_mem_cons.mpr ⟨lw_p0, List.forall_mem_cons.mpr ⟨lw_p1, List.forall_mem_cons.mpr ⟨lw_p2, List.forall_mem_cons.mpr ⟨lw_p3, List.forall_mem_cons.mpr ⟨lw_p4, List.forall_mem_cons.mpr ⟨lw_p5, List.forall_mem_cons.mpr ⟨lw_p6, List.forall_mem_cons.mpr ⟨lw_p7, List.forall_mem_cons.mpr ⟨lw_p8, List.forall_mem_cons.mpr ⟨lw_p9, List.forall_mem_cons.mpr ⟨lw_p10, List.forall_mem_cons.mpr ⟨lw_p11, List.forall_mem_cons.mpr ⟨lw_p12, List.forall_mem_cons.mpr ⟨lw_p13, List.forall_mem_cons.mpr ⟨lw_p14, List.forall_mem_cons.mpr ⟨lw_p15, fun _ h => absurd h List.not_mem_nil⟩⟩⟩⟩⟩⟩⟩⟩⟩⟩⟩⟩⟩⟩⟩⟩
theorem lw_p16 : lw_okq (⟨"FirstPancake", "isCake", "(I)Z"⟩, 16) := ⟨⟨by decide +kernel, by decide +kernel⟩, List.mem_of_getElem? (i := 23) (by decide +kernel), List.mem_of_getElem? (i := 674) (by decide +kernel), List.mem_of_getElem? (i := 675) (by decide +kernel)⟩
theorem lw_p17 : lw_okq (⟨"FirstPancake$Foresight", "warmBySix", "(LFirstPancake$Condition;LFirstPancake$Plan;)V"⟩, 8) := ⟨⟨by decide +kernel, by decide +kernel⟩, List.mem_of_getElem? (i := 137) (by decide +kernel), List.mem_of_getElem? (i := 739) (by decide +kernel), List.mem_of_getElem? (i := 740) (by decide +kernel)⟩
theorem lw_p18 : lw_okq (⟨"FirstPancake$Foresight", "worthOf", "(LFirstPancake$Condition;I)I"⟩, 8) := ⟨⟨by decide +kernel, by decide +kernel⟩, List.mem_of_getElem? (i := 137) (by decide +kernel), List.mem_of_getElem? (i := 757) (by decide +kernel), List.mem_of_getElem? (i := 758) (by decide +kernel)⟩
theorem lw_p19 : lw_okq (⟨"FirstPancake$Kitchen", "longestWanting", "(I)I"⟩, 4) := ⟨⟨by decide +kernel, by decide +kernel⟩, List.mem_of_getElem? (i := 251) (by decide +kernel), List.mem_of_getElem? (i := 794) (by decide +kernel), List.mem_of_getElem? (i := 795) (by decide +kernel)⟩
theorem lw_p20 : lw_okq (⟨"FirstPancake", "worthTogether", "()I"⟩, 16) := ⟨⟨by decide +kernel, by decide +kernel⟩, List.mem_of_getElem? (i := 23) (by decide +kernel), List.mem_of_getElem? (i := 845) (by decide +kernel), List.mem_of_getElem? (i := 846) (by decide +kernel)⟩
theorem lw_p21 : lw_okq (⟨"FirstPancake", "digestOfCells", "(J)J"⟩, 16) := ⟨⟨by decide +kernel, by decide +kernel⟩, List.mem_of_getElem? (i := 23) (by decide +kernel), List.mem_of_getElem? (i := 854) (by decide +kernel), List.mem_of_getElem? (i := 855) (by decide +kernel)⟩
theorem lw_p22 : lw_okq (⟨"FirstPancake", "digestOfPlans", "(J)J"⟩, 16) := ⟨⟨by decide +kernel, by decide +kernel⟩, List.mem_of_getElem? (i := 23) (by decide +kernel), List.mem_of_getElem? (i := 863) (by decide +kernel), List.mem_of_getElem? (i := 864) (by decide +kernel)⟩
theorem lw_p23 : lw_okq (⟨"FirstPancake", "digestOfCakes", "(J)J"⟩, 16) := ⟨⟨by decide +kernel, by decide +kernel⟩, List.mem_of_getElem? (i := 23) (by decide +kernel), List.mem_of_getElem? (i := 867) (by decide +kernel), List.mem_of_getElem? (i := 868) (by decide +kernel)⟩
theorem lw_p24 : lw_okq (⟨"FirstPancake", "digestOfTried", "(J)J"⟩, 16) := ⟨⟨by decide +kernel, by decide +kernel⟩, List.mem_of_getElem? (i := 23) (by decide +kernel), List.mem_of_getElem? (i := 871) (by decide +kernel), List.mem_of_getElem? (i := 872) (by decide +kernel)⟩
theorem lw_p25 : lw_okq (⟨"FirstPancakeModel", "readPan", "()V"⟩, 67) := ⟨⟨by decide +kernel, by decide +kernel⟩, List.mem_of_getElem? (i := 876) (by decide +kernel), List.mem_of_getElem? (i := 1100) (by decide +kernel), List.mem_of_getElem? (i := 1101) (by decide +kernel)⟩
theorem lw_p26 : lw_okq (⟨"FirstPancakeModel", "takePan", "(I)Z"⟩, 67) := ⟨⟨by decide +kernel, by decide +kernel⟩, List.mem_of_getElem? (i := 876) (by decide +kernel), List.mem_of_getElem? (i := 1104) (by decide +kernel), List.mem_of_getElem? (i := 1105) (by decide +kernel)⟩
theorem lw_p27 : lw_okq (⟨"FirstPancakeModel", "readPlan", "()V"⟩, 67) := ⟨⟨by decide +kernel, by decide +kernel⟩, List.mem_of_getElem? (i := 876) (by decide +kernel), List.mem_of_getElem? (i := 1111) (by decide +kernel), List.mem_of_getElem? (i := 1112) (by decide +kernel)⟩
theorem lw_p28 : lw_okq (⟨"FirstPancakeModel", "nextPlan", "(II)I"⟩, 67) := ⟨⟨by decide +kernel, by decide +kernel⟩, List.mem_of_getElem? (i := 876) (by decide +kernel), List.mem_of_getElem? (i := 1115) (by decide +kernel), List.mem_of_getElem? (i := 1116) (by decide +kernel)⟩
theorem lw_p29 : lw_okq (⟨"FirstPancakeModel", "beginNumber", "(II)Z"⟩, 67) := ⟨⟨by decide +kernel, by decide +kernel⟩, List.mem_of_getElem? (i := 876) (by decide +kernel), List.mem_of_getElem? (i := 1119) (by decide +kernel), List.mem_of_getElem? (i := 1120) (by decide +kernel)⟩
theorem lw_p30 : lw_okq (⟨"FirstPancakeModel", "setNumber", "(II)V"⟩, 67) := ⟨⟨by decide +kernel, by decide +kernel⟩, List.mem_of_getElem? (i := 876) (by decide +kernel), List.mem_of_getElem? (i := 1123) (by decide +kernel), List.mem_of_getElem? (i := 1124) (by decide +kernel)⟩
theorem lw_p31 : lw_okq (⟨"FirstPancakeModel", "goOnNumber", "(II)Z"⟩, 67) := ⟨⟨by decide +kernel, by decide +kernel⟩, List.mem_of_getElem? (i := 876) (by decide +kernel), List.mem_of_getElem? (i := 1127) (by decide +kernel), List.mem_of_getElem? (i := 1128) (by decide +kernel)⟩
def lw_privs_2 : List (MethodName × Nat) := [(⟨"FirstPancake", "isCake", "(I)Z"⟩, 16), (⟨"FirstPancake$Foresight", "warmBySix", "(LFirstPancake$Condition;LFirstPancake$Plan;)V"⟩, 8), (⟨"FirstPancake$Foresight", "worthOf", "(LFirstPancake$Condition;I)I"⟩, 8), (⟨"FirstPancake$Kitchen", "longestWanting", "(I)I"⟩, 4), (⟨"FirstPancake", "worthTogether", "()I"⟩, 16), (⟨"FirstPancake", "digestOfCells", "(J)J"⟩, 16), (⟨"FirstPancake", "digestOfPlans", "(J)J"⟩, 16), (⟨"FirstPancake", "digestOfCakes", "(J)J"⟩, 16), (⟨"FirstPancake", "digestOfTried", "(J)J"⟩, 16), (⟨"FirstPancakeModel", "readPan", "()V"⟩, 67), (⟨"FirstPancakeModel", "takePan", "(I)Z"⟩, 67), (⟨"FirstPancakeModel", "readPlan", "()V"⟩, 67), (⟨"FirstPancakeModel", "nextPlan", "(II)I"⟩, 67), (⟨"FirstPancakeModel", "beginNumber", "(II)Z"⟩, 67), (⟨"FirstPancakeModel", "setNumber", "(II)V"⟩, 67), (⟨"FirstPancakeModel", "goOnNumber", "(II)Z"⟩, 67)]
theorem lw_r2 : ∀ q ∈ lw_privs_2, lw_okq q := List.forall_mem_cons.mpr ⟨lw_p16, List.forall_mem_cons.mpr ⟨lw_p17, List.forall_mem_cons.mpr ⟨lw_p18, List.forall_mem_cons.mpr ⟨lw_p19, List.forall_mem_cons.mpr ⟨lw_p20, List.forall_mem_cons.mpr ⟨lw_p21, List.forall_mem_cons.mpr ⟨lw_p22, List.forall_mem_cons.mpr ⟨lw_p23, List.forall_mem_cons.mpr ⟨lw_p24, List.forall_mem_cons.mpr ⟨lw_p25, List.forall_mem_cons.mpr ⟨lw_p26, List.forall_mem_cons.mpr ⟨lw_p27, List.forall_mem_cons.mpr ⟨lw_p28, List.forall_mem_cons.mpr ⟨lw_p29, List.forall_mem_cons.mpr ⟨lw_p30, List.forall_mem_cons.mpr ⟨lw_p31, fun _ h => absurd h List.not_mem_nil⟩⟩⟩⟩⟩⟩⟩⟩⟩⟩⟩⟩⟩⟩⟩⟩
theorem lw_p32 : lw_okq (⟨"FirstPancakeModel", "number", "(I)I"⟩, 67) := ⟨⟨by decide +kernel, by decide +kernel⟩, List.mem_of_getElem? (i := 876) (by decide +kernel), List.mem_of_getElem? (i := 1131) (by decide +kernel), List.mem_of_getElem? (i := 1132) (by decide +kernel)⟩
theorem lw_p33 : lw_okq (⟨"FirstPancakeModel", "afterAmount", "(I)I"⟩, 67) := ⟨⟨by decide +kernel, by decide +kernel⟩, List.mem_of_getElem? (i := 876) (by decide +kernel), List.mem_of_getElem? (i := 1135) (by decide +kernel), List.mem_of_getElem? (i := 1136) (by decide +kernel)⟩
theorem lw_p34 : lw_okq (⟨"FirstPancakeModel", "isPlan", "(I)Z"⟩, 67) := ⟨⟨by decide +kernel, by decide +kernel⟩, List.mem_of_getElem? (i := 876) (by decide +kernel), List.mem_of_getElem? (i := 1154) (by decide +kernel), List.mem_of_getElem? (i := 1155) (by decide +kernel)⟩
theorem lw_p35 : lw_okq (⟨"FirstPancakeModel", "planNow", "(II)I"⟩, 67) := ⟨⟨by decide +kernel, by decide +kernel⟩, List.mem_of_getElem? (i := 876) (by decide +kernel), List.mem_of_getElem? (i := 1158) (by decide +kernel), List.mem_of_getElem? (i := 1159) (by decide +kernel)⟩
theorem lw_p36 : lw_okq (⟨"FirstPancakeModel", "isCell", "(I)Z"⟩, 67) := ⟨⟨by decide +kernel, by decide +kernel⟩, List.mem_of_getElem? (i := 876) (by decide +kernel), List.mem_of_getElem? (i := 1166) (by decide +kernel), List.mem_of_getElem? (i := 1167) (by decide +kernel)⟩
theorem lw_p37 : lw_okq (⟨"FirstPancakeModel", "cells", "()I"⟩, 67) := ⟨⟨by decide +kernel, by decide +kernel⟩, List.mem_of_getElem? (i := 876) (by decide +kernel), List.mem_of_getElem? (i := 1170) (by decide +kernel), List.mem_of_getElem? (i := 1171) (by decide +kernel)⟩
theorem lw_p38 : lw_okq (⟨"FirstPancakeModel", "cellNow", "(II)I"⟩, 67) := ⟨⟨by decide +kernel, by decide +kernel⟩, List.mem_of_getElem? (i := 876) (by decide +kernel), List.mem_of_getElem? (i := 1174) (by decide +kernel), List.mem_of_getElem? (i := 1175) (by decide +kernel)⟩
theorem lw_p39 : lw_okq (⟨"FirstPancakeModel", "loadPan", "()V"⟩, 67) := ⟨⟨by decide +kernel, by decide +kernel⟩, List.mem_of_getElem? (i := 876) (by decide +kernel), List.mem_of_getElem? (i := 1182) (by decide +kernel), List.mem_of_getElem? (i := 1183) (by decide +kernel)⟩
theorem lw_p40 : lw_okq (⟨"FirstPancakeModel", "goTick", "(II)V"⟩, 67) := ⟨⟨by decide +kernel, by decide +kernel⟩, List.mem_of_getElem? (i := 876) (by decide +kernel), List.mem_of_getElem? (i := 1186) (by decide +kernel), List.mem_of_getElem? (i := 1187) (by decide +kernel)⟩
theorem lw_p41 : lw_okq (⟨"FirstPancakeModel", "putPan", "()V"⟩, 67) := ⟨⟨by decide +kernel, by decide +kernel⟩, List.mem_of_getElem? (i := 876) (by decide +kernel), List.mem_of_getElem? (i := 1193) (by decide +kernel), List.mem_of_getElem? (i := 1194) (by decide +kernel)⟩
theorem lw_p42 : lw_okq (⟨"FirstPancakeModel", "bitsAll", "()I"⟩, 67) := ⟨⟨by decide +kernel, by decide +kernel⟩, List.mem_of_getElem? (i := 876) (by decide +kernel), List.mem_of_getElem? (i := 1205) (by decide +kernel), List.mem_of_getElem? (i := 1206) (by decide +kernel)⟩
theorem lw_p43 : lw_okq (⟨"FirstPancakeModel", "bars", "(I)I"⟩, 67) := ⟨⟨by decide +kernel, by decide +kernel⟩, List.mem_of_getElem? (i := 876) (by decide +kernel), List.mem_of_getElem? (i := 1213) (by decide +kernel), List.mem_of_getElem? (i := 1214) (by decide +kernel)⟩
theorem lw_p44 : lw_okq (⟨"FirstPancakeModel", "loadPlan", "(I)V"⟩, 67) := ⟨⟨by decide +kernel, by decide +kernel⟩, List.mem_of_getElem? (i := 876) (by decide +kernel), List.mem_of_getElem? (i := 1217) (by decide +kernel), List.mem_of_getElem? (i := 1218) (by decide +kernel)⟩
theorem lw_p45 : lw_okq (⟨"FirstPancakeModel", "goCake", "()V"⟩, 67) := ⟨⟨by decide +kernel, by decide +kernel⟩, List.mem_of_getElem? (i := 876) (by decide +kernel), List.mem_of_getElem? (i := 1221) (by decide +kernel), List.mem_of_getElem? (i := 1222) (by decide +kernel)⟩
theorem lw_p46 : lw_okq (⟨"FirstPancakeModel", "goSwing", "(I)V"⟩, 67) := ⟨⟨by decide +kernel, by decide +kernel⟩, List.mem_of_getElem? (i := 876) (by decide +kernel), List.mem_of_getElem? (i := 1225) (by decide +kernel), List.mem_of_getElem? (i := 1226) (by decide +kernel)⟩
theorem lw_p47 : lw_okq (⟨"FirstPancakeModel", "beside", "(II)I"⟩, 67) := ⟨⟨by decide +kernel, by decide +kernel⟩, List.mem_of_getElem? (i := 876) (by decide +kernel), List.mem_of_getElem? (i := 1229) (by decide +kernel), List.mem_of_getElem? (i := 1230) (by decide +kernel)⟩
def lw_privs_3 : List (MethodName × Nat) := [(⟨"FirstPancakeModel", "number", "(I)I"⟩, 67), (⟨"FirstPancakeModel", "afterAmount", "(I)I"⟩, 67), (⟨"FirstPancakeModel", "isPlan", "(I)Z"⟩, 67), (⟨"FirstPancakeModel", "planNow", "(II)I"⟩, 67), (⟨"FirstPancakeModel", "isCell", "(I)Z"⟩, 67), (⟨"FirstPancakeModel", "cells", "()I"⟩, 67), (⟨"FirstPancakeModel", "cellNow", "(II)I"⟩, 67), (⟨"FirstPancakeModel", "loadPan", "()V"⟩, 67), (⟨"FirstPancakeModel", "goTick", "(II)V"⟩, 67), (⟨"FirstPancakeModel", "putPan", "()V"⟩, 67), (⟨"FirstPancakeModel", "bitsAll", "()I"⟩, 67), (⟨"FirstPancakeModel", "bars", "(I)I"⟩, 67), (⟨"FirstPancakeModel", "loadPlan", "(I)V"⟩, 67), (⟨"FirstPancakeModel", "goCake", "()V"⟩, 67), (⟨"FirstPancakeModel", "goSwing", "(I)V"⟩, 67), (⟨"FirstPancakeModel", "beside", "(II)I"⟩, 67)]
theorem lw_r3 : ∀ q ∈ lw_privs_3, lw_okq q := List.forall_mem_cons.mpr ⟨lw_p32, List.forall_mem_cons.mpr ⟨lw_p33, List.forall_mem_cons.mpr ⟨lw_p34, List.forall_mem_cons.mpr ⟨lw_p35, List.forall_mem_cons.mpr ⟨lw_p36, List.forall_mem_cons.mpr ⟨lw_p37, List.forall_mem_cons.mpr ⟨lw_p38, List.forall_mem_cons.mpr ⟨lw_p39, List.forall_mem_cons.mpr ⟨lw_p40, List.forall_mem_cons.mpr ⟨lw_p41, List.forall_mem_cons.mpr ⟨lw_p42, List.forall_mem_cons.mpr ⟨lw_p43, List.forall_mem_cons.mpr ⟨lw_p44, List.forall_mem_cons.mpr ⟨lw_p45, List.forall_mem_cons.mpr ⟨lw_p46, List.forall_mem_cons.mpr ⟨lw_p47, fun _ h => absurd h List.not_mem_nil⟩⟩⟩⟩⟩⟩⟩⟩⟩⟩⟩⟩⟩⟩⟩⟩
theorem lw_p48 : lw_okq (⟨"FirstPancakeModel", "takeOut", "()V"⟩, 67) := ⟨⟨by decide +kernel, by decide +kernel⟩, List.mem_of_getElem? (i := 876) (by decide +kernel), List.mem_of_getElem? (i := 1233) (by decide +kernel), List.mem_of_getElem? (i := 1234) (by decide +kernel)⟩
theorem lw_p49 : lw_okq (⟨"FirstPancakeModel", "judge", "()V"⟩, 67) := ⟨⟨by decide +kernel, by decide +kernel⟩, List.mem_of_getElem? (i := 876) (by decide +kernel), List.mem_of_getElem? (i := 1237) (by decide +kernel), List.mem_of_getElem? (i := 1238) (by decide +kernel)⟩
theorem lw_p50 : lw_okq (⟨"FirstPancakeModel", "triedNow", "(I)I"⟩, 67) := ⟨⟨by decide +kernel, by decide +kernel⟩, List.mem_of_getElem? (i := 876) (by decide +kernel), List.mem_of_getElem? (i := 1245) (by decide +kernel), List.mem_of_getElem? (i := 1246) (by decide +kernel)⟩
theorem lw_p51 : lw_okq (⟨"FirstPancakeModel", "isCake", "(I)Z"⟩, 67) := ⟨⟨by decide +kernel, by decide +kernel⟩, List.mem_of_getElem? (i := 876) (by decide +kernel), List.mem_of_getElem? (i := 1253) (by decide +kernel), List.mem_of_getElem? (i := 1254) (by decide +kernel)⟩
theorem lw_p52 : lw_okq (⟨"FirstPancakeModel", "layNext", "(I)V"⟩, 67) := ⟨⟨by decide +kernel, by decide +kernel⟩, List.mem_of_getElem? (i := 876) (by decide +kernel), List.mem_of_getElem? (i := 1269) (by decide +kernel), List.mem_of_getElem? (i := 1270) (by decide +kernel)⟩
theorem lw_p53 : lw_okq (⟨"FirstPancakeModel", "layTwelve", "(I)V"⟩, 67) := ⟨⟨by decide +kernel, by decide +kernel⟩, List.mem_of_getElem? (i := 876) (by decide +kernel), List.mem_of_getElem? (i := 1277) (by decide +kernel), List.mem_of_getElem? (i := 1278) (by decide +kernel)⟩
theorem lw_p54 : lw_okq (⟨"FirstPancakeModel", "isRightBy", "(I)Z"⟩, 67) := ⟨⟨by decide +kernel, by decide +kernel⟩, List.mem_of_getElem? (i := 876) (by decide +kernel), List.mem_of_getElem? (i := 1289) (by decide +kernel), List.mem_of_getElem? (i := 1290) (by decide +kernel)⟩
theorem lw_p55 : lw_okq (⟨"FirstPancakeModel", "longest", "(I)I"⟩, 67) := ⟨⟨by decide +kernel, by decide +kernel⟩, List.mem_of_getElem? (i := 876) (by decide +kernel), List.mem_of_getElem? (i := 1309) (by decide +kernel), List.mem_of_getElem? (i := 1310) (by decide +kernel)⟩
theorem lw_p56 : lw_okq (⟨"FirstPancakeModel", "howMany", "(I)I"⟩, 67) := ⟨⟨by decide +kernel, by decide +kernel⟩, List.mem_of_getElem? (i := 876) (by decide +kernel), List.mem_of_getElem? (i := 1352) (by decide +kernel), List.mem_of_getElem? (i := 1353) (by decide +kernel)⟩
theorem lw_p57 : lw_okq (⟨"FirstPancakeModel", "worthAll", "()I"⟩, 67) := ⟨⟨by decide +kernel, by decide +kernel⟩, List.mem_of_getElem? (i := 876) (by decide +kernel), List.mem_of_getElem? (i := 1356) (by decide +kernel), List.mem_of_getElem? (i := 1357) (by decide +kernel)⟩
theorem lw_p58 : lw_okq (⟨"FirstPancakeModel", "mix", "(J)V"⟩, 67) := ⟨⟨by decide +kernel, by decide +kernel⟩, List.mem_of_getElem? (i := 876) (by decide +kernel), List.mem_of_getElem? (i := 1365) (by decide +kernel), List.mem_of_getElem? (i := 1366) (by decide +kernel)⟩
theorem lw_p59 : lw_okq (⟨"FirstPancakeModel", "mixCake", "(I)V"⟩, 67) := ⟨⟨by decide +kernel, by decide +kernel⟩, List.mem_of_getElem? (i := 876) (by decide +kernel), List.mem_of_getElem? (i := 1370) (by decide +kernel), List.mem_of_getElem? (i := 1371) (by decide +kernel)⟩
def lw_privs_4 : List (MethodName × Nat) := [(⟨"FirstPancakeModel", "takeOut", "()V"⟩, 67), (⟨"FirstPancakeModel", "judge", "()V"⟩, 67), (⟨"FirstPancakeModel", "triedNow", "(I)I"⟩, 67), (⟨"FirstPancakeModel", "isCake", "(I)Z"⟩, 67), (⟨"FirstPancakeModel", "layNext", "(I)V"⟩, 67), (⟨"FirstPancakeModel", "layTwelve", "(I)V"⟩, 67), (⟨"FirstPancakeModel", "isRightBy", "(I)Z"⟩, 67), (⟨"FirstPancakeModel", "longest", "(I)I"⟩, 67), (⟨"FirstPancakeModel", "howMany", "(I)I"⟩, 67), (⟨"FirstPancakeModel", "worthAll", "()I"⟩, 67), (⟨"FirstPancakeModel", "mix", "(J)V"⟩, 67), (⟨"FirstPancakeModel", "mixCake", "(I)V"⟩, 67)]
theorem lw_r4 : ∀ q ∈ lw_privs_4, lw_okq q := List.forall_mem_cons.mpr ⟨lw_p48, List.forall_mem_cons.mpr ⟨lw_p49, List.forall_mem_cons.mpr ⟨lw_p50, List.forall_mem_cons.mpr ⟨lw_p51, List.forall_mem_cons.mpr ⟨lw_p52, List.forall_mem_cons.mpr ⟨lw_p53, List.forall_mem_cons.mpr ⟨lw_p54, List.forall_mem_cons.mpr ⟨lw_p55, List.forall_mem_cons.mpr ⟨lw_p56, List.forall_mem_cons.mpr ⟨lw_p57, List.forall_mem_cons.mpr ⟨lw_p58, List.forall_mem_cons.mpr ⟨lw_p59, fun _ h => absurd h List.not_mem_nil⟩⟩⟩⟩⟩⟩⟩⟩⟩⟩⟩⟩
def lw_privs : List (MethodName × Nat) := lw_privs_1 ++ (lw_privs_2 ++ (lw_privs_3 ++ (lw_privs_4)))
def lw_tbl : List Cond := k2_sels lw_privs ++ tables_1
theorem lw_privs_ok : ∀ q ∈ lw_privs, lw_okq q := by
  show ∀ q ∈ lw_privs_1 ++ (lw_privs_2 ++ (lw_privs_3 ++ (lw_privs_4))), lw_okq q
  exact List.forall_mem_append.mpr ⟨lw_r1, List.forall_mem_append.mpr ⟨lw_r2, List.forall_mem_append.mpr ⟨lw_r3, lw_r4⟩⟩⟩
def RX0 : String := "FirstPancake$Cake"
def TX0 : u_T := fun k => match k with
  | 0 => ("FirstPancake$Cake", "thick", "[I", true)
  | _ => ("FirstPancake$Cake", "told", "[I", true)
def tyX0 : Nat → FieldType := fun k => match k with
  | 0 => .array .int
  | _ => .array .int
theorem nmX0 : ∀ a, a < 2 → ∀ b, b < 2 → a ≠ b → (TX0 a).2.1 ≠ (TX0 b).2.1 := by decide +kernel
theorem tyX0_ok : ∀ k, k < 2 → parseFieldDescriptor (TX0 k).2.2.1 = some (tyX0 k) := by decide +kernel
abbrev cX0_init : ByteArray := prog_2_method_1_code
def yX0_init : MethodName := ⟨RX0, "<init>", "()V"⟩
abbrev cX0_isRight : ByteArray := prog_2_method_2_code
def yX0_isRight : MethodName := ⟨RX0, "isRight", "()Z"⟩
abbrev cX0_passesAs : ByteArray := prog_2_method_3_code
def yX0_passesAs : MethodName := ⟨RX0, "passesAs", "(I)Z"⟩
abbrev cX0_measure : ByteArray := prog_2_method_4_code
def yX0_measure : MethodName := ⟨RX0, "measure", "()V"⟩
abbrev cX0_judge : ByteArray := prog_2_method_5_code
def yX0_judge : MethodName := ⟨RX0, "judge", "(III)V"⟩
abbrev cX0_kindNow : ByteArray := prog_2_method_6_code
def yX0_kindNow : MethodName := ⟨RX0, "kindNow", "()I"⟩
def RX1 : String := "FirstPancake$Condition"
def TX1 : u_T := fun k => match k with
  | 0 => ("FirstPancake$Condition", "warmth", "[I", true)
  | 1 => ("FirstPancake$Condition", "bits", "[I", true)
  | _ => ("FirstPancake$Condition", "fat", "I", false)
def tyX1 : Nat → FieldType := fun k => match k with
  | 0 => .array .int
  | 1 => .array .int
  | _ => .int
theorem nmX1 : ∀ a, a < 3 → ∀ b, b < 3 → a ≠ b → (TX1 a).2.1 ≠ (TX1 b).2.1 := by decide +kernel
theorem tyX1_ok : ∀ k, k < 3 → parseFieldDescriptor (TX1 k).2.2.1 = some (tyX1 k) := by decide +kernel
abbrev cX1_init : ByteArray := prog_3_method_1_code
def yX1_init : MethodName := ⟨RX1, "<init>", "()V"⟩
abbrev cX1_clear : ByteArray := prog_3_method_2_code
def yX1_clear : MethodName := ⟨RX1, "clear", "()V"⟩
abbrev cX1_clearBits : ByteArray := prog_3_method_3_code
def yX1_clearBits : MethodName := ⟨RX1, "clearBits", "()V"⟩
abbrev cX1_become : ByteArray := prog_3_method_4_code
def yX1_become : MethodName := ⟨RX1, "become", "(LFirstPancake$Condition;)V"⟩
abbrev cX1_takeWarmth : ByteArray := prog_3_method_5_code
def yX1_takeWarmth : MethodName := ⟨RX1, "takeWarmth", "(LFirstPancake$Condition;)V"⟩
abbrev cX1_bitsTogether : ByteArray := prog_3_method_6_code
def yX1_bitsTogether : MethodName := ⟨RX1, "bitsTogether", "()I"⟩
abbrev cX1_cool : ByteArray := prog_3_method_7_code
def yX1_cool : MethodName := ⟨RX1, "cool", "(II)V"⟩
abbrev cX1_heat : ByteArray := prog_3_method_8_code
def yX1_heat : MethodName := ⟨RX1, "heat", "(IIII)I"⟩
def RX2 : String := "FirstPancake$Foresight"
def TX2 : u_T := fun k => match k with
  | 0 => ("FirstPancake$Foresight", "pan", "LFirstPancake$Pan;", true)
  | 1 => ("FirstPancake$Foresight", "trial", "LFirstPancake$Condition;", true)
  | 2 => ("FirstPancake$Foresight", "later", "LFirstPancake$Condition;", true)
  | 3 => ("FirstPancake$Foresight", "cake", "LFirstPancake$Cake;", true)
  | 4 => ("FirstPancake$Foresight", "variant", "LFirstPancake$Plan;", true)
  | 5 => ("FirstPancake$Foresight", "found", "I", false)
  | 6 => ("FirstPancake$Foresight", "foundBehind", "I", false)
  | _ => ("FirstPancake$Foresight", "value", "I", false)
def tyX2 : Nat → FieldType := fun k => match k with
  | 0 => .object "FirstPancake$Pan"
  | 1 => .object "FirstPancake$Condition"
  | 2 => .object "FirstPancake$Condition"
  | 3 => .object "FirstPancake$Cake"
  | 4 => .object "FirstPancake$Plan"
  | 5 => .int
  | 6 => .int
  | _ => .int
theorem nmX2 : ∀ a, a < 8 → ∀ b, b < 8 → a ≠ b → (TX2 a).2.1 ≠ (TX2 b).2.1 := by decide +kernel
theorem tyX2_ok : ∀ k, k < 8 → parseFieldDescriptor (TX2 k).2.2.1 = some (tyX2 k) := by decide +kernel
abbrev cX2_init : ByteArray := prog_4_method_1_code
def yX2_init : MethodName := ⟨RX2, "<init>", "(LFirstPancake$Pan;)V"⟩
abbrev cX2_next : ByteArray := prog_4_method_2_code
def yX2_next : MethodName := ⟨RX2, "next", "(LFirstPancake$Condition;LFirstPancake$Plan;)LFirstPancake$Cake;"⟩
abbrev cX2_firstOfTheRight : ByteArray := prog_4_method_3_code
def yX2_firstOfTheRight : MethodName := ⟨RX2, "firstOfTheRight", "(LFirstPancake$Condition;LFirstPancake$Plan;)I"⟩
abbrev cX2_notRight : ByteArray := prog_4_method_4_code
def yX2_notRight : MethodName := ⟨RX2, "notRight", "(LFirstPancake$Condition;LFirstPancake$Plan;)I"⟩
abbrev cX2_reasons : ByteArray := prog_4_method_5_code
def yX2_reasons : MethodName := ⟨RX2, "reasons", "(LFirstPancake$Condition;LFirstPancake$Plan;)I"⟩
abbrev cX2_warmBySix : ByteArray := prog_4_method_6_code
def yX2_warmBySix : MethodName := ⟨RX2, "warmBySix", "(LFirstPancake$Condition;LFirstPancake$Plan;)V"⟩
abbrev cX2_findFire : ByteArray := prog_4_method_7_code
def yX2_findFire : MethodName := ⟨RX2, "findFire", "(LFirstPancake$Condition;LFirstPancake$Plan;I)V"⟩
abbrev cX2_worthOf : ByteArray := prog_4_method_8_code
def yX2_worthOf : MethodName := ⟨RX2, "worthOf", "(LFirstPancake$Condition;I)I"⟩
abbrev cX2_findSwings : ByteArray := prog_4_method_9_code
def yX2_findSwings : MethodName := ⟨RX2, "findSwings", "(LFirstPancake$Condition;LFirstPancake$Plan;I)V"⟩
abbrev cX2_swingOf : ByteArray := prog_4_method_10_code
def yX2_swingOf : MethodName := ⟨RX2, "swingOf", "(III)I"⟩
abbrev cX2_findTwo : ByteArray := prog_4_method_11_code
def yX2_findTwo : MethodName := ⟨RX2, "findTwo", "(LFirstPancake$Condition;[LFirstPancake$Plan;I)V"⟩
def RX3 : String := "FirstPancake$Kitchen"
def TX3 : u_T := fun k => match k with
  | 0 => ("FirstPancake$Kitchen", "wants", "[I", true)
  | 1 => ("FirstPancake$Kitchen", "task", "[I", true)
  | 2 => ("FirstPancake$Kitchen", "most", "I", false)
  | _ => ("FirstPancake$Kitchen", "waited", "I", false)
def tyX3 : Nat → FieldType := fun k => match k with
  | 0 => .array .int
  | 1 => .array .int
  | 2 => .int
  | _ => .int
theorem nmX3 : ∀ a, a < 4 → ∀ b, b < 4 → a ≠ b → (TX3 a).2.1 ≠ (TX3 b).2.1 := by decide +kernel
theorem tyX3_ok : ∀ k, k < 4 → parseFieldDescriptor (TX3 k).2.2.1 = some (tyX3 k) := by decide +kernel
abbrev cX3_init : ByteArray := prog_5_method_1_code
def yX3_init : MethodName := ⟨RX3, "<init>", "()V"⟩
abbrev cX3_work : ByteArray := prog_5_method_2_code
def yX3_work : MethodName := ⟨RX3, "work", "(IIIII)V"⟩
abbrev cX3_longestWanting : ByteArray := prog_5_method_3_code
def yX3_longestWanting : MethodName := ⟨RX3, "longestWanting", "(I)I"⟩
def RX4 : String := "FirstPancake$Page"
def TX4 : u_T := fun k => match k with
  | 0 => ("FirstPancake$Page", "codes", "[I", true)
  | _ => ("FirstPancake$Page", "size", "I", false)
def tyX4 : Nat → FieldType := fun k => match k with
  | 0 => .array .int
  | _ => .int
theorem nmX4 : ∀ a, a < 2 → ∀ b, b < 2 → a ≠ b → (TX4 a).2.1 ≠ (TX4 b).2.1 := by decide +kernel
theorem tyX4_ok : ∀ k, k < 2 → parseFieldDescriptor (TX4 k).2.2.1 = some (tyX4 k) := by decide +kernel
abbrev cX4_init : ByteArray := prog_6_method_1_code
def yX4_init : MethodName := ⟨RX4, "<init>", "()V"⟩
abbrev cX4_lettersIn : ByteArray := prog_6_method_2_code
def yX4_lettersIn : MethodName := ⟨RX4, "lettersIn", "(J)I"⟩
abbrev cX4_add : ByteArray := prog_6_method_3_code
def yX4_add : MethodName := ⟨RX4, "add", "(JI)V"⟩
abbrev cX4_readAs : ByteArray := prog_6_method_4_code
def yX4_readAs : MethodName := ⟨RX4, "readAs", "(LFirstPancake$Text;)I"⟩
abbrev cX4_isWhole : ByteArray := prog_6_method_5_code
def yX4_isWhole : MethodName := ⟨RX4, "isWhole", "(LFirstPancake$Text;)Z"⟩
abbrev cX4_codeAt : ByteArray := prog_6_method_6_code
def yX4_codeAt : MethodName := ⟨RX4, "codeAt", "(JI)I"⟩
def RX5 : String := "FirstPancake$Pan"
def TX5 : u_T := fun k => match k with
  | 0 => ("FirstPancake$Pan", "ring", "[I", true)
  | 1 => ("FirstPancake$Pan", "sticky", "[Z", true)
  | 2 => ("FirstPancake$Pan", "cells", "I", false)
  | 3 => ("FirstPancake$Pan", "rows", "I", false)
  | 4 => ("FirstPancake$Pan", "columns", "I", false)
  | 5 => ("FirstPancake$Pan", "fast", "[Z", true)
  | _ => ("FirstPancake$Pan", "leaving", "[I", true)
def tyX5 : Nat → FieldType := fun k => match k with
  | 0 => .array .int
  | 1 => .array .boolean
  | 2 => .int
  | 3 => .int
  | 4 => .int
  | 5 => .array .boolean
  | _ => .array .int
theorem nmX5 : ∀ a, a < 7 → ∀ b, b < 7 → a ≠ b → (TX5 a).2.1 ≠ (TX5 b).2.1 := by decide +kernel
theorem tyX5_ok : ∀ k, k < 7 → parseFieldDescriptor (TX5 k).2.2.1 = some (tyX5 k) := by decide +kernel
abbrev cX5_init : ByteArray := prog_7_method_1_code
def yX5_init : MethodName := ⟨RX5, "<init>", "()V"⟩
abbrev cX5_become : ByteArray := prog_7_method_2_code
def yX5_become : MethodName := ⟨RX5, "become", "(LFirstPancake$PanText;)V"⟩
abbrev cX5_bake : ByteArray := prog_7_method_3_code
def yX5_bake : MethodName := ⟨RX5, "bake", "(LFirstPancake$Condition;LFirstPancake$Plan;LFirstPancake$Cake;)V"⟩
abbrev cX5_spread : ByteArray := prog_7_method_4_code
def yX5_spread : MethodName := ⟨RX5, "spread", "(LFirstPancake$Condition;LFirstPancake$Plan;LFirstPancake$Cake;)I"⟩
abbrev cX5_pour : ByteArray := prog_7_method_5_code
def yX5_pour : MethodName := ⟨RX5, "pour", "(LFirstPancake$Condition;ILFirstPancake$Cake;)V"⟩
abbrev cX5_lie : ByteArray := prog_7_method_6_code
def yX5_lie : MethodName := ⟨RX5, "lie", "(LFirstPancake$Condition;IILFirstPancake$Cake;)I"⟩
abbrev cX5_fasten : ByteArray := prog_7_method_7_code
def yX5_fasten : MethodName := ⟨RX5, "fasten", "(LFirstPancake$Condition;LFirstPancake$Cake;)V"⟩
abbrev cX5_run : ByteArray := prog_7_method_8_code
def yX5_run : MethodName := ⟨RX5, "run", "(LFirstPancake$Condition;LFirstPancake$Cake;I)V"⟩
abbrev cX5_beside : ByteArray := prog_7_method_9_code
def yX5_beside : MethodName := ⟨RX5, "beside", "(III)I"⟩
abbrev cX5_takeOut : ByteArray := prog_7_method_10_code
def yX5_takeOut : MethodName := ⟨RX5, "takeOut", "(LFirstPancake$Condition;LFirstPancake$Cake;)I"⟩
def RX6 : String := "FirstPancake$PanText"
def TX6 : u_T := fun k => match k with
  | 0 => ("FirstPancake$PanText", "ring", "[I", true)
  | 1 => ("FirstPancake$PanText", "sticky", "[Z", true)
  | 2 => ("FirstPancake$PanText", "rows", "I", false)
  | 3 => ("FirstPancake$PanText", "cells", "I", false)
  | 4 => ("FirstPancake$PanText", "width", "I", false)
  | 5 => ("FirstPancake$PanText", "inRow", "I", false)
  | _ => ("FirstPancake$PanText", "behindRing", "Z", false)
def tyX6 : Nat → FieldType := fun k => match k with
  | 0 => .array .int
  | 1 => .array .boolean
  | 2 => .int
  | 3 => .int
  | 4 => .int
  | 5 => .int
  | _ => .boolean
theorem nmX6 : ∀ a, a < 7 → ∀ b, b < 7 → a ≠ b → (TX6 a).2.1 ≠ (TX6 b).2.1 := by decide +kernel
theorem tyX6_ok : ∀ k, k < 7 → parseFieldDescriptor (TX6 k).2.2.1 = some (tyX6 k) := by decide +kernel
abbrev cX6_init : ByteArray := prog_8_method_1_code
def yX6_init : MethodName := ⟨RX6, "<init>", "()V"⟩
abbrev cX6_begin : ByteArray := prog_8_method_2_code
def yX6_begin : MethodName := ⟨RX6, "begin", "()V"⟩
abbrev cX6_take : ByteArray := prog_8_method_3_code
def yX6_take : MethodName := ⟨RX6, "take", "(I)Z"⟩
abbrev cX6_whole : ByteArray := prog_8_method_4_code
def yX6_whole : MethodName := ⟨RX6, "whole", "()Z"⟩
abbrev cX6_takeRing : ByteArray := prog_8_method_5_code
def yX6_takeRing : MethodName := ⟨RX6, "takeRing", "(I)Z"⟩
abbrev cX6_takeSticky : ByteArray := prog_8_method_6_code
def yX6_takeSticky : MethodName := ⟨RX6, "takeSticky", "()Z"⟩
abbrev cX6_takeRowEnd : ByteArray := prog_8_method_7_code
def yX6_takeRowEnd : MethodName := ⟨RX6, "takeRowEnd", "()Z"⟩
def RX7 : String := "FirstPancake$Plan"
def TX7 : u_T := fun k => match k with
  | 0 => ("FirstPancake$Plan", "swings", "[I", true)
  | 1 => ("FirstPancake$Plan", "fire", "I", false)
  | 2 => ("FirstPancake$Plan", "amount", "I", false)
  | 3 => ("FirstPancake$Plan", "first", "I", false)
  | 4 => ("FirstPancake$Plan", "second", "I", false)
  | _ => ("FirstPancake$Plan", "swingCount", "I", false)
def tyX7 : Nat → FieldType := fun k => match k with
  | 0 => .array .int
  | 1 => .int
  | 2 => .int
  | 3 => .int
  | 4 => .int
  | _ => .int
theorem nmX7 : ∀ a, a < 6 → ∀ b, b < 6 → a ≠ b → (TX7 a).2.1 ≠ (TX7 b).2.1 := by decide +kernel
theorem tyX7_ok : ∀ k, k < 6 → parseFieldDescriptor (TX7 k).2.2.1 = some (tyX7 k) := by decide +kernel
abbrev cX7_init : ByteArray := prog_9_method_1_code
def yX7_init : MethodName := ⟨RX7, "<init>", "()V"⟩
abbrev cX7_become : ByteArray := prog_9_method_2_code
def yX7_become : MethodName := ⟨RX7, "become", "(LFirstPancake$PlanText;)V"⟩
abbrev cX7_become_ : ByteArray := prog_9_method_3_code
def yX7_become_ : MethodName := ⟨RX7, "become", "(LFirstPancake$Plan;)V"⟩
abbrev cX7_told : ByteArray := prog_9_method_4_code
def yX7_told : MethodName := ⟨RX7, "told", "(I)I"⟩
abbrev cX7_swingAt : ByteArray := prog_9_method_5_code
def yX7_swingAt : MethodName := ⟨RX7, "swingAt", "(I)I"⟩
def RX8 : String := "FirstPancake$PlanText"
def TX8 : u_T := fun k => match k with
  | 0 => ("FirstPancake$PlanText", "numbers", "[I", true)
  | 1 => ("FirstPancake$PlanText", "swings", "[I", true)
  | 2 => ("FirstPancake$PlanText", "swingCount", "I", false)
  | _ => ("FirstPancake$PlanText", "part", "I", false)
def tyX8 : Nat → FieldType := fun k => match k with
  | 0 => .array .int
  | 1 => .array .int
  | 2 => .int
  | _ => .int
theorem nmX8 : ∀ a, a < 4 → ∀ b, b < 4 → a ≠ b → (TX8 a).2.1 ≠ (TX8 b).2.1 := by decide +kernel
theorem tyX8_ok : ∀ k, k < 4 → parseFieldDescriptor (TX8 k).2.2.1 = some (tyX8 k) := by decide +kernel
abbrev cX8_init : ByteArray := prog_10_method_1_code
def yX8_init : MethodName := ⟨RX8, "<init>", "()V"⟩
abbrev cX8_begin : ByteArray := prog_10_method_2_code
def yX8_begin : MethodName := ⟨RX8, "begin", "()V"⟩
abbrev cX8_take : ByteArray := prog_10_method_3_code
def yX8_take : MethodName := ⟨RX8, "take", "(I)Z"⟩
abbrev cX8_whole : ByteArray := prog_10_method_4_code
def yX8_whole : MethodName := ⟨RX8, "whole", "()Z"⟩
abbrev cX8_takeDigit : ByteArray := prog_10_method_5_code
def yX8_takeDigit : MethodName := ⟨RX8, "takeDigit", "(I)Z"⟩
abbrev cX8_takeSwing : ByteArray := prog_10_method_6_code
def yX8_takeSwing : MethodName := ⟨RX8, "takeSwing", "(I)Z"⟩
abbrev cX8_takeSign : ByteArray := prog_10_method_7_code
def yX8_takeSign : MethodName := ⟨RX8, "takeSign", "(I)Z"⟩
def RX9 : String := "FirstPancake$Text"
def TX9 : u_T := fun k => match k with
  | _ => ("", "", "", false)
def tyX9 : Nat → FieldType := fun k => match k with
  | _ => .int
theorem nmX9 : ∀ a, a < 0 → ∀ b, b < 0 → a ≠ b → (TX9 a).2.1 ≠ (TX9 b).2.1 := by decide +kernel
theorem tyX9_ok : ∀ k, k < 0 → parseFieldDescriptor (TX9 k).2.2.1 = some (tyX9 k) := by decide +kernel
abbrev cX9_init : ByteArray := prog_11_method_1_code
def yX9_init : MethodName := ⟨RX9, "<init>", "()V"⟩
abbrev cX9_isDigit : ByteArray := prog_11_method_5_code
def yX9_isDigit : MethodName := ⟨RX9, "isDigit", "(I)Z"⟩
def RX10 : String := "FirstPancake$Wrist"
def TX10 : u_T := fun k => match k with
  | _ => ("", "", "", false)
def tyX10 : Nat → FieldType := fun k => match k with
  | _ => .int
theorem nmX10 : ∀ a, a < 0 → ∀ b, b < 0 → a ≠ b → (TX10 a).2.1 ≠ (TX10 b).2.1 := by decide +kernel
theorem tyX10_ok : ∀ k, k < 0 → parseFieldDescriptor (TX10 k).2.2.1 = some (tyX10 k) := by decide +kernel
abbrev cX10_turnsOver : ByteArray := prog_12_method_2_code
def yX10_turnsOver : MethodName := ⟨RX10, "turnsOver", "(II)Z"⟩
abbrev cX10_paces : ByteArray := prog_12_method_3_code
def yX10_paces : MethodName := ⟨RX10, "paces", "(II)I"⟩
abbrev cX10_landings : ByteArray := prog_12_method_4_code
def yX10_landings : MethodName := ⟨RX10, "landings", "(III)I"⟩
abbrev cX10_likeliestSpin : ByteArray := prog_12_method_5_code
def yX10_likeliestSpin : MethodName := ⟨RX10, "likeliestSpin", "(II)I"⟩
abbrev cX10_commonDivisor : ByteArray := prog_12_method_6_code
def yX10_commonDivisor : MethodName := ⟨RX10, "commonDivisor", "(II)I"⟩
abbrev cX10_slowest : ByteArray := prog_12_method_7_code
def yX10_slowest : MethodName := ⟨RX10, "slowest", "(II)I"⟩
def RX11 : String := "FirstPancake"
def TX11 : u_T := fun k => match k with
  | 0 => ("FirstPancake", "page", "LFirstPancake$Page;", true)
  | 1 => ("FirstPancake", "panText", "LFirstPancake$PanText;", true)
  | 2 => ("FirstPancake", "planText", "LFirstPancake$PlanText;", true)
  | 3 => ("FirstPancake", "pan", "LFirstPancake$Pan;", true)
  | 4 => ("FirstPancake", "foresight", "LFirstPancake$Foresight;", true)
  | 5 => ("FirstPancake", "now", "LFirstPancake$Condition;", true)
  | 6 => ("FirstPancake", "kept", "LFirstPancake$Condition;", true)
  | 7 => ("FirstPancake", "plans", "[LFirstPancake$Plan;", true)
  | 8 => ("FirstPancake", "cakes", "[LFirstPancake$Cake;", true)
  | 9 => ("FirstPancake", "kitchen", "LFirstPancake$Kitchen;", true)
  | 10 => ("FirstPancake", "planCount", "I", false)
  | 11 => ("FirstPancake", "cakeCount", "I", false)
  | 12 => ("FirstPancake", "keptCakes", "I", false)
  | 13 => ("FirstPancake", "imageKept", "Z", false)
  | 14 => ("FirstPancake", "pansRead", "I", false)
  | _ => ("FirstPancake", "searches", "I", false)
def tyX11 : Nat → FieldType := fun k => match k with
  | 0 => .object "FirstPancake$Page"
  | 1 => .object "FirstPancake$PanText"
  | 2 => .object "FirstPancake$PlanText"
  | 3 => .object "FirstPancake$Pan"
  | 4 => .object "FirstPancake$Foresight"
  | 5 => .object "FirstPancake$Condition"
  | 6 => .object "FirstPancake$Condition"
  | 7 => .array (.object "FirstPancake$Plan")
  | 8 => .array (.object "FirstPancake$Cake")
  | 9 => .object "FirstPancake$Kitchen"
  | 10 => .int
  | 11 => .int
  | 12 => .int
  | 13 => .boolean
  | 14 => .int
  | _ => .int
theorem nmX11 : ∀ a, a < 16 → ∀ b, b < 16 → a ≠ b → (TX11 a).2.1 ≠ (TX11 b).2.1 := by decide +kernel
theorem tyX11_ok : ∀ k, k < 16 → parseFieldDescriptor (TX11 k).2.2.1 = some (tyX11 k) := by decide +kernel
abbrev cX11_init : ByteArray := prog_1_method_1_code
def yX11_init : MethodName := ⟨RX11, "<init>", "()V"⟩
abbrev cX11_letters : ByteArray := prog_1_method_2_code
def yX11_letters : MethodName := ⟨RX11, "letters", "(J)I"⟩
abbrev cX11_blank : ByteArray := prog_1_method_3_code
def yX11_blank : MethodName := ⟨RX11, "blank", "()I"⟩
abbrev cX11_fault : ByteArray := prog_1_method_4_code
def yX11_fault : MethodName := ⟨RX11, "fault", "(I)I"⟩
abbrev cX11_pan : ByteArray := prog_1_method_5_code
def yX11_pan : MethodName := ⟨RX11, "pan", "()I"⟩
abbrev cX11_plan : ByteArray := prog_1_method_6_code
def yX11_plan : MethodName := ⟨RX11, "plan", "()I"⟩
abbrev cX11_planTold : ByteArray := prog_1_method_7_code
def yX11_planTold : MethodName := ⟨RX11, "planTold", "(II)I"⟩
abbrev cX11_cell : ByteArray := prog_1_method_8_code
def yX11_cell : MethodName := ⟨RX11, "cell", "(II)I"⟩
abbrev cX11_warm : ByteArray := prog_1_method_9_code
def yX11_warm : MethodName := ⟨RX11, "warm", "(II)I"⟩
abbrev cX11_fat : ByteArray := prog_1_method_10_code
def yX11_fat : MethodName := ⟨RX11, "fat", "(I)I"⟩
abbrev cX11_scrape : ByteArray := prog_1_method_11_code
def yX11_scrape : MethodName := ⟨RX11, "scrape", "()I"⟩
abbrev cX11_fry : ByteArray := prog_1_method_12_code
def yX11_fry : MethodName := ⟨RX11, "fry", "(I)I"⟩
abbrev cX11_cake : ByteArray := prog_1_method_13_code
def yX11_cake : MethodName := ⟨RX11, "cake", "(II)I"⟩
abbrev cX11_as : ByteArray := prog_1_method_14_code
def yX11_as : MethodName := ⟨RX11, "as", "(II)I"⟩
abbrev cX11_thick : ByteArray := prog_1_method_15_code
def yX11_thick : MethodName := ⟨RX11, "thick", "(II)I"⟩
abbrev cX11_tried : ByteArray := prog_1_method_16_code
def yX11_tried : MethodName := ⟨RX11, "tried", "(II)I"⟩
abbrev cX11_from : ByteArray := prog_1_method_17_code
def yX11_from : MethodName := ⟨RX11, "from", "(I)I"⟩
abbrev cX11_dogs : ByteArray := prog_1_method_18_code
def yX11_dogs : MethodName := ⟨RX11, "dogs", "(I)I"⟩
abbrev cX11_why : ByteArray := prog_1_method_19_code
def yX11_why : MethodName := ⟨RX11, "why", "(I)I"⟩
abbrev cX11_bestFire : ByteArray := prog_1_method_20_code
def yX11_bestFire : MethodName := ⟨RX11, "bestFire", "(III)I"⟩
abbrev cX11_bestSwing : ByteArray := prog_1_method_21_code
def yX11_bestSwing : MethodName := ⟨RX11, "bestSwing", "(III)I"⟩
abbrev cX11_nextTwo : ByteArray := prog_1_method_22_code
def yX11_nextTwo : MethodName := ⟨RX11, "nextTwo", "(I)I"⟩
abbrev cX11_rounds : ByteArray := prog_1_method_23_code
def yX11_rounds : MethodName := ⟨RX11, "rounds", "(IIIIII)I"⟩
abbrev cX11_toss : ByteArray := prog_1_method_24_code
def yX11_toss : MethodName := ⟨RX11, "toss", "(II)I"⟩
abbrev cX11_lands : ByteArray := prog_1_method_25_code
def yX11_lands : MethodName := ⟨RX11, "lands", "(IIII)I"⟩
abbrev cX11_bestSpin : ByteArray := prog_1_method_26_code
def yX11_bestSpin : MethodName := ⟨RX11, "bestSpin", "(II)I"⟩
abbrev cX11_image : ByteArray := prog_1_method_27_code
def yX11_image : MethodName := ⟨RX11, "image", "()I"⟩
abbrev cX11_restore : ByteArray := prog_1_method_28_code
def yX11_restore : MethodName := ⟨RX11, "restore", "()I"⟩
abbrev cX11_count : ByteArray := prog_1_method_29_code
def yX11_count : MethodName := ⟨RX11, "count", "(I)I"⟩
abbrev cX11_digest : ByteArray := prog_1_method_30_code
def yX11_digest : MethodName := ⟨RX11, "digest", "()J"⟩
abbrev cX11_digestOfCells : ByteArray := prog_1_method_31_code
def yX11_digestOfCells : MethodName := ⟨RX11, "digestOfCells", "(J)J"⟩
abbrev cX11_digestOfPlans : ByteArray := prog_1_method_32_code
def yX11_digestOfPlans : MethodName := ⟨RX11, "digestOfPlans", "(J)J"⟩
abbrev cX11_digestOfCakes : ByteArray := prog_1_method_33_code
def yX11_digestOfCakes : MethodName := ⟨RX11, "digestOfCakes", "(J)J"⟩
abbrev cX11_digestOfTried : ByteArray := prog_1_method_34_code
def yX11_digestOfTried : MethodName := ⟨RX11, "digestOfTried", "(J)J"⟩
abbrev cX11_worthTogether : ByteArray := prog_1_method_35_code
def yX11_worthTogether : MethodName := ⟨RX11, "worthTogether", "()I"⟩
abbrev cX11_hasPan : ByteArray := prog_1_method_36_code
def yX11_hasPan : MethodName := ⟨RX11, "hasPan", "()Z"⟩
abbrev cX11_isPlan : ByteArray := prog_1_method_37_code
def yX11_isPlan : MethodName := ⟨RX11, "isPlan", "(I)Z"⟩
abbrev cX11_isCell : ByteArray := prog_1_method_38_code
def yX11_isCell : MethodName := ⟨RX11, "isCell", "(I)Z"⟩
abbrev cX11_isCake : ByteArray := prog_1_method_39_code
def yX11_isCake : MethodName := ⟨RX11, "isCake", "(I)Z"⟩
abbrev cX11_within : ByteArray := prog_1_method_40_code
def yX11_within : MethodName := ⟨RX11, "within", "(III)Z"⟩
abbrev cX11_mixed : ByteArray := prog_1_method_41_code
def yX11_mixed : MethodName := ⟨RX11, "mixed", "(JJ)J"⟩
def RX12 : String := "FirstPancakeModel"
def TX12 : u_T := fun k => match k with
  | 0 => ("FirstPancakeModel", "rows", "I", false)
  | 1 => ("FirstPancakeModel", "columns", "I", false)
  | 2 => ("FirstPancakeModel", "pans", "I", false)
  | 3 => ("FirstPancakeModel", "ring", "[I", true)
  | 4 => ("FirstPancakeModel", "isSticky", "[Z", true)
  | 5 => ("FirstPancakeModel", "warmth", "[I", true)
  | 6 => ("FirstPancakeModel", "bits", "[I", true)
  | 7 => ("FirstPancakeModel", "fatNow", "I", false)
  | 8 => ("FirstPancakeModel", "plans", "I", false)
  | 9 => ("FirstPancakeModel", "fireOf", "[I", true)
  | 10 => ("FirstPancakeModel", "amountOf", "[I", true)
  | 11 => ("FirstPancakeModel", "firstOf", "[I", true)
  | 12 => ("FirstPancakeModel", "secondOf", "[I", true)
  | 13 => ("FirstPancakeModel", "swingMany", "[I", true)
  | 14 => ("FirstPancakeModel", "swingOf", "[I", true)
  | 15 => ("FirstPancakeModel", "cakes", "I", false)
  | 16 => ("FirstPancakeModel", "cakeOf", "[I", true)
  | 17 => ("FirstPancakeModel", "thickOf", "[I", true)
  | 18 => ("FirstPancakeModel", "asks", "I", false)
  | 19 => ("FirstPancakeModel", "pageLength", "I", false)
  | 20 => ("FirstPancakeModel", "page", "[B", true)
  | 21 => ("FirstPancakeModel", "isKept", "Z", false)
  | 22 => ("FirstPancakeModel", "keptPan", "I", false)
  | 23 => ("FirstPancakeModel", "keptFat", "I", false)
  | 24 => ("FirstPancakeModel", "keptCakes", "I", false)
  | 25 => ("FirstPancakeModel", "keptWarmth", "[I", true)
  | 26 => ("FirstPancakeModel", "keptBits", "[I", true)
  | 27 => ("FirstPancakeModel", "faultAt", "I", false)
  | 28 => ("FirstPancakeModel", "isWhole", "Z", false)
  | 29 => ("FirstPancakeModel", "newRows", "I", false)
  | 30 => ("FirstPancakeModel", "newColumns", "I", false)
  | 31 => ("FirstPancakeModel", "newHere", "I", false)
  | 32 => ("FirstPancakeModel", "newBare", "Z", false)
  | 33 => ("FirstPancakeModel", "newRing", "[I", true)
  | 34 => ("FirstPancakeModel", "newSticky", "[Z", true)
  | 35 => ("FirstPancakeModel", "newFire", "I", false)
  | 36 => ("FirstPancakeModel", "newAmount", "I", false)
  | 37 => ("FirstPancakeModel", "newFirst", "I", false)
  | 38 => ("FirstPancakeModel", "newSecond", "I", false)
  | 39 => ("FirstPancakeModel", "newSwings", "I", false)
  | 40 => ("FirstPancakeModel", "newSwing", "[I", true)
  | 41 => ("FirstPancakeModel", "warm", "[I", true)
  | 42 => ("FirstPancakeModel", "bit", "[I", true)
  | 43 => ("FirstPancakeModel", "fat", "I", false)
  | 44 => ("FirstPancakeModel", "fire", "I", false)
  | 45 => ("FirstPancakeModel", "amount", "I", false)
  | 46 => ("FirstPancakeModel", "first", "I", false)
  | 47 => ("FirstPancakeModel", "second", "I", false)
  | 48 => ("FirstPancakeModel", "swings", "I", false)
  | 49 => ("FirstPancakeModel", "swing", "[I", true)
  | 50 => ("FirstPancakeModel", "thick", "[I", true)
  | 51 => ("FirstPancakeModel", "moved", "[I", true)
  | 52 => ("FirstPancakeModel", "isFast", "[Z", true)
  | 53 => ("FirstPancakeModel", "brown", "[I", true)
  | 54 => ("FirstPancakeModel", "kind", "I", false)
  | 55 => ("FirstPancakeModel", "mean", "I", false)
  | 56 => ("FirstPancakeModel", "other", "I", false)
  | 57 => ("FirstPancakeModel", "edge", "I", false)
  | 58 => ("FirstPancakeModel", "many", "I", false)
  | 59 => ("FirstPancakeModel", "stuck", "I", false)
  | 60 => ("FirstPancakeModel", "worth", "I", false)
  | 61 => ("FirstPancakeModel", "fromNow", "I", false)
  | 62 => ("FirstPancakeModel", "dogsNow", "I", false)
  | 63 => ("FirstPancakeModel", "warmThen", "[I", true)
  | 64 => ("FirstPancakeModel", "since", "[I", true)
  | 65 => ("FirstPancakeModel", "wants", "[I", true)
  | _ => ("FirstPancakeModel", "h", "J", false)
def tyX12 : Nat → FieldType := fun k => match k with
  | 0 => .int
  | 1 => .int
  | 2 => .int
  | 3 => .array .int
  | 4 => .array .boolean
  | 5 => .array .int
  | 6 => .array .int
  | 7 => .int
  | 8 => .int
  | 9 => .array .int
  | 10 => .array .int
  | 11 => .array .int
  | 12 => .array .int
  | 13 => .array .int
  | 14 => .array .int
  | 15 => .int
  | 16 => .array .int
  | 17 => .array .int
  | 18 => .int
  | 19 => .int
  | 20 => .array .byte
  | 21 => .boolean
  | 22 => .int
  | 23 => .int
  | 24 => .int
  | 25 => .array .int
  | 26 => .array .int
  | 27 => .int
  | 28 => .boolean
  | 29 => .int
  | 30 => .int
  | 31 => .int
  | 32 => .boolean
  | 33 => .array .int
  | 34 => .array .boolean
  | 35 => .int
  | 36 => .int
  | 37 => .int
  | 38 => .int
  | 39 => .int
  | 40 => .array .int
  | 41 => .array .int
  | 42 => .array .int
  | 43 => .int
  | 44 => .int
  | 45 => .int
  | 46 => .int
  | 47 => .int
  | 48 => .int
  | 49 => .array .int
  | 50 => .array .int
  | 51 => .array .int
  | 52 => .array .boolean
  | 53 => .array .int
  | 54 => .int
  | 55 => .int
  | 56 => .int
  | 57 => .int
  | 58 => .int
  | 59 => .int
  | 60 => .int
  | 61 => .int
  | 62 => .int
  | 63 => .array .int
  | 64 => .array .int
  | 65 => .array .int
  | _ => .long
theorem nmX12 : ∀ a, a < 67 → ∀ b, b < 67 → a ≠ b → (TX12 a).2.1 ≠ (TX12 b).2.1 := by decide +kernel
theorem tyX12_ok : ∀ k, k < 67 → parseFieldDescriptor (TX12 k).2.2.1 = some (tyX12 k) := by decide +kernel
abbrev cX12_init : ByteArray := prog_14_method_1_code
def yX12_init : MethodName := ⟨RX12, "<init>", "()V"⟩
abbrev cX12_within : ByteArray := prog_14_method_3_code
def yX12_within : MethodName := ⟨RX12, "within", "(III)Z"⟩
abbrev cX12_atLeast : ByteArray := prog_14_method_4_code
def yX12_atLeast : MethodName := ⟨RX12, "atLeast", "(I)I"⟩
abbrev cX12_letters : ByteArray := prog_14_method_5_code
def yX12_letters : MethodName := ⟨RX12, "letters", "(J)I"⟩
abbrev cX12_blank : ByteArray := prog_14_method_6_code
def yX12_blank : MethodName := ⟨RX12, "blank", "()I"⟩
abbrev cX12_isDigit : ByteArray := prog_14_method_7_code
def yX12_isDigit : MethodName := ⟨RX12, "isDigit", "(I)Z"⟩
abbrev cX12_takePan : ByteArray := prog_14_method_8_code
def yX12_takePan : MethodName := ⟨RX12, "takePan", "(I)Z"⟩
abbrev cX12_readPan : ByteArray := prog_14_method_9_code
def yX12_readPan : MethodName := ⟨RX12, "readPan", "()V"⟩
abbrev cX12_swingBy : ByteArray := prog_14_method_10_code
def yX12_swingBy : MethodName := ⟨RX12, "swingBy", "(I)I"⟩
abbrev cX12_number : ByteArray := prog_14_method_11_code
def yX12_number : MethodName := ⟨RX12, "number", "(I)I"⟩
abbrev cX12_setNumber : ByteArray := prog_14_method_12_code
def yX12_setNumber : MethodName := ⟨RX12, "setNumber", "(II)V"⟩
abbrev cX12_beginNumber : ByteArray := prog_14_method_13_code
def yX12_beginNumber : MethodName := ⟨RX12, "beginNumber", "(II)Z"⟩
abbrev cX12_goOnNumber : ByteArray := prog_14_method_14_code
def yX12_goOnNumber : MethodName := ⟨RX12, "goOnNumber", "(II)Z"⟩
abbrev cX12_nextPlan : ByteArray := prog_14_method_15_code
def yX12_nextPlan : MethodName := ⟨RX12, "nextPlan", "(II)I"⟩
abbrev cX12_afterAmount : ByteArray := prog_14_method_16_code
def yX12_afterAmount : MethodName := ⟨RX12, "afterAmount", "(I)I"⟩
abbrev cX12_readPlan : ByteArray := prog_14_method_17_code
def yX12_readPlan : MethodName := ⟨RX12, "readPlan", "()V"⟩
abbrev cX12_fault : ByteArray := prog_14_method_18_code
def yX12_fault : MethodName := ⟨RX12, "fault", "(I)I"⟩
abbrev cX12_pan : ByteArray := prog_14_method_19_code
def yX12_pan : MethodName := ⟨RX12, "pan", "()I"⟩
abbrev cX12_plan : ByteArray := prog_14_method_20_code
def yX12_plan : MethodName := ⟨RX12, "plan", "()I"⟩
abbrev cX12_isPlan : ByteArray := prog_14_method_21_code
def yX12_isPlan : MethodName := ⟨RX12, "isPlan", "(I)Z"⟩
abbrev cX12_planNow : ByteArray := prog_14_method_22_code
def yX12_planNow : MethodName := ⟨RX12, "planNow", "(II)I"⟩
abbrev cX12_planTold : ByteArray := prog_14_method_23_code
def yX12_planTold : MethodName := ⟨RX12, "planTold", "(II)I"⟩
abbrev cX12_cells : ByteArray := prog_14_method_24_code
def yX12_cells : MethodName := ⟨RX12, "cells", "()I"⟩
abbrev cX12_isCell : ByteArray := prog_14_method_25_code
def yX12_isCell : MethodName := ⟨RX12, "isCell", "(I)Z"⟩
abbrev cX12_cellNow : ByteArray := prog_14_method_26_code
def yX12_cellNow : MethodName := ⟨RX12, "cellNow", "(II)I"⟩
abbrev cX12_cell : ByteArray := prog_14_method_27_code
def yX12_cell : MethodName := ⟨RX12, "cell", "(II)I"⟩
abbrev cX12_loadPan : ByteArray := prog_14_method_28_code
def yX12_loadPan : MethodName := ⟨RX12, "loadPan", "()V"⟩
abbrev cX12_loadPlan : ByteArray := prog_14_method_29_code
def yX12_loadPlan : MethodName := ⟨RX12, "loadPlan", "(I)V"⟩
abbrev cX12_goTick : ByteArray := prog_14_method_30_code
def yX12_goTick : MethodName := ⟨RX12, "goTick", "(II)V"⟩
abbrev cX12_beside : ByteArray := prog_14_method_31_code
def yX12_beside : MethodName := ⟨RX12, "beside", "(II)I"⟩
abbrev cX12_goSwing : ByteArray := prog_14_method_32_code
def yX12_goSwing : MethodName := ⟨RX12, "goSwing", "(I)V"⟩
abbrev cX12_takeOut : ByteArray := prog_14_method_33_code
def yX12_takeOut : MethodName := ⟨RX12, "takeOut", "()V"⟩
abbrev cX12_judge : ByteArray := prog_14_method_34_code
def yX12_judge : MethodName := ⟨RX12, "judge", "()V"⟩
abbrev cX12_worthOf : ByteArray := prog_14_method_35_code
def yX12_worthOf : MethodName := ⟨RX12, "worthOf", "(I)I"⟩
abbrev cX12_goCake : ByteArray := prog_14_method_36_code
def yX12_goCake : MethodName := ⟨RX12, "goCake", "()V"⟩
abbrev cX12_putPan : ByteArray := prog_14_method_37_code
def yX12_putPan : MethodName := ⟨RX12, "putPan", "()V"⟩
abbrev cX12_warm : ByteArray := prog_14_method_38_code
def yX12_warm : MethodName := ⟨RX12, "warm", "(II)I"⟩
abbrev cX12_fat : ByteArray := prog_14_method_39_code
def yX12_fat : MethodName := ⟨RX12, "fat", "(I)I"⟩
abbrev cX12_bitsAll : ByteArray := prog_14_method_40_code
def yX12_bitsAll : MethodName := ⟨RX12, "bitsAll", "()I"⟩
abbrev cX12_scrape : ByteArray := prog_14_method_41_code
def yX12_scrape : MethodName := ⟨RX12, "scrape", "()I"⟩
abbrev cX12_triedNow : ByteArray := prog_14_method_42_code
def yX12_triedNow : MethodName := ⟨RX12, "triedNow", "(I)I"⟩
abbrev cX12_bars : ByteArray := prog_14_method_43_code
def yX12_bars : MethodName := ⟨RX12, "bars", "(I)I"⟩
abbrev cX12_fry : ByteArray := prog_14_method_44_code
def yX12_fry : MethodName := ⟨RX12, "fry", "(I)I"⟩
abbrev cX12_isCake : ByteArray := prog_14_method_45_code
def yX12_isCake : MethodName := ⟨RX12, "isCake", "(I)Z"⟩
abbrev cX12_cake : ByteArray := prog_14_method_46_code
def yX12_cake : MethodName := ⟨RX12, "cake", "(II)I"⟩
abbrev cX12_as : ByteArray := prog_14_method_47_code
def yX12_as : MethodName := ⟨RX12, "as", "(II)I"⟩
abbrev cX12_thick : ByteArray := prog_14_method_48_code
def yX12_thick : MethodName := ⟨RX12, "thick", "(II)I"⟩
abbrev cX12_layNext : ByteArray := prog_14_method_49_code
def yX12_layNext : MethodName := ⟨RX12, "layNext", "(I)V"⟩
abbrev cX12_tried : ByteArray := prog_14_method_50_code
def yX12_tried : MethodName := ⟨RX12, "tried", "(II)I"⟩
abbrev cX12_layTwelve : ByteArray := prog_14_method_51_code
def yX12_layTwelve : MethodName := ⟨RX12, "layTwelve", "(I)V"⟩
abbrev cX12_from : ByteArray := prog_14_method_52_code
def yX12_from : MethodName := ⟨RX12, "from", "(I)I"⟩
abbrev cX12_dogs : ByteArray := prog_14_method_53_code
def yX12_dogs : MethodName := ⟨RX12, "dogs", "(I)I"⟩
abbrev cX12_isRightBy : ByteArray := prog_14_method_54_code
def yX12_isRightBy : MethodName := ⟨RX12, "isRightBy", "(I)Z"⟩
abbrev cX12_why : ByteArray := prog_14_method_55_code
def yX12_why : MethodName := ⟨RX12, "why", "(I)I"⟩
abbrev cX12_bestFire : ByteArray := prog_14_method_56_code
def yX12_bestFire : MethodName := ⟨RX12, "bestFire", "(III)I"⟩
abbrev cX12_bestSwing : ByteArray := prog_14_method_57_code
def yX12_bestSwing : MethodName := ⟨RX12, "bestSwing", "(III)I"⟩
abbrev cX12_nextTwo : ByteArray := prog_14_method_58_code
def yX12_nextTwo : MethodName := ⟨RX12, "nextTwo", "(I)I"⟩
abbrev cX12_longest : ByteArray := prog_14_method_59_code
def yX12_longest : MethodName := ⟨RX12, "longest", "(I)I"⟩
abbrev cX12_rounds : ByteArray := prog_14_method_60_code
def yX12_rounds : MethodName := ⟨RX12, "rounds", "(IIIIII)I"⟩
abbrev cX12_isToss : ByteArray := prog_14_method_61_code
def yX12_isToss : MethodName := ⟨RX12, "isToss", "(II)Z"⟩
abbrev cX12_landing : ByteArray := prog_14_method_62_code
def yX12_landing : MethodName := ⟨RX12, "landing", "(II)I"⟩
abbrev cX12_toss : ByteArray := prog_14_method_63_code
def yX12_toss : MethodName := ⟨RX12, "toss", "(II)I"⟩
abbrev cX12_slowest : ByteArray := prog_14_method_64_code
def yX12_slowest : MethodName := ⟨RX12, "slowest", "(II)I"⟩
abbrev cX12_landings : ByteArray := prog_14_method_65_code
def yX12_landings : MethodName := ⟨RX12, "landings", "(III)I"⟩
abbrev cX12_lowest : ByteArray := prog_14_method_66_code
def yX12_lowest : MethodName := ⟨RX12, "lowest", "(III)I"⟩
abbrev cX12_lands : ByteArray := prog_14_method_67_code
def yX12_lands : MethodName := ⟨RX12, "lands", "(IIII)I"⟩
abbrev cX12_bestSpin : ByteArray := prog_14_method_68_code
def yX12_bestSpin : MethodName := ⟨RX12, "bestSpin", "(II)I"⟩
abbrev cX12_image : ByteArray := prog_14_method_69_code
def yX12_image : MethodName := ⟨RX12, "image", "()I"⟩
abbrev cX12_restore : ByteArray := prog_14_method_70_code
def yX12_restore : MethodName := ⟨RX12, "restore", "()I"⟩
abbrev cX12_worthAll : ByteArray := prog_14_method_71_code
def yX12_worthAll : MethodName := ⟨RX12, "worthAll", "()I"⟩
abbrev cX12_howMany : ByteArray := prog_14_method_72_code
def yX12_howMany : MethodName := ⟨RX12, "howMany", "(I)I"⟩
abbrev cX12_count : ByteArray := prog_14_method_73_code
def yX12_count : MethodName := ⟨RX12, "count", "(I)I"⟩
abbrev cX12_mix : ByteArray := prog_14_method_74_code
def yX12_mix : MethodName := ⟨RX12, "mix", "(J)V"⟩
abbrev cX12_mixCake : ByteArray := prog_14_method_75_code
def yX12_mixCake : MethodName := ⟨RX12, "mixCake", "(I)V"⟩
abbrev cX12_digest : ByteArray := prog_14_method_76_code
def yX12_digest : MethodName := ⟨RX12, "digest", "()J"⟩
def RJx145de : String := "java/io/Serializable"
def TJx145de : u_T := fun k => match k with
  | _ => ("", "", "", false)
def tyJx145de : Nat → FieldType := fun k => match k with
  | _ => .int
theorem nmJx145de : ∀ a, a < 0 → ∀ b, b < 0 → a ≠ b → (TJx145de a).2.1 ≠ (TJx145de b).2.1 := by decide +kernel
theorem tyJx145de_ok : ∀ k, k < 0 → parseFieldDescriptor (TJx145de k).2.2.1 = some (tyJx145de k) := by decide +kernel
def RJx9f9b0 : String := "java/lang/CharSequence"
def TJx9f9b0 : u_T := fun k => match k with
  | _ => ("", "", "", false)
def tyJx9f9b0 : Nat → FieldType := fun k => match k with
  | _ => .int
theorem nmJx9f9b0 : ∀ a, a < 0 → ∀ b, b < 0 → a ≠ b → (TJx9f9b0 a).2.1 ≠ (TJx9f9b0 b).2.1 := by decide +kernel
theorem tyJx9f9b0_ok : ∀ k, k < 0 → parseFieldDescriptor (TJx9f9b0 k).2.2.1 = some (tyJx9f9b0 k) := by decide +kernel
def RJ11 : String := "java/lang/Character"
def TJ11 : u_T := fun k => match k with
  | _ => ("", "", "", false)
def tyJ11 : Nat → FieldType := fun k => match k with
  | _ => .int
theorem nmJ11 : ∀ a, a < 0 → ∀ b, b < 0 → a ≠ b → (TJ11 a).2.1 ≠ (TJ11 b).2.1 := by decide +kernel
theorem tyJ11_ok : ∀ k, k < 0 → parseFieldDescriptor (TJ11 k).2.2.1 = some (tyJ11 k) := by decide +kernel
abbrev cJ11_isValidCodePoint_9a6ad : ByteArray := prog_15_method_11_code
def yJ11_isValidCodePoint_9a6ad : MethodName := ⟨RJ11, "isValidCodePoint", "(I)Z"⟩
abbrev cJ11_highSurrogate_5068e : ByteArray := prog_15_method_28_code
def yJ11_highSurrogate_5068e : MethodName := ⟨RJ11, "highSurrogate", "(I)C"⟩
abbrev cJ11_lowSurrogate_5068e : ByteArray := prog_15_method_29_code
def yJ11_lowSurrogate_5068e : MethodName := ⟨RJ11, "lowSurrogate", "(I)C"⟩
def RJxb160c : String := "java/lang/Comparable"
def TJxb160c : u_T := fun k => match k with
  | _ => ("", "", "", false)
def tyJxb160c : Nat → FieldType := fun k => match k with
  | _ => .int
theorem nmJxb160c : ∀ a, a < 0 → ∀ b, b < 0 → a ≠ b → (TJxb160c a).2.1 ≠ (TJxb160c b).2.1 := by decide +kernel
theorem tyJxb160c_ok : ∀ k, k < 0 → parseFieldDescriptor (TJxb160c k).2.2.1 = some (tyJxb160c k) := by decide +kernel
def RJ9 : String := "java/lang/Math"
def TJ9 : u_T := fun k => match k with
  | _ => ("", "", "", false)
def tyJ9 : Nat → FieldType := fun k => match k with
  | _ => .int
theorem nmJ9 : ∀ a, a < 0 → ∀ b, b < 0 → a ≠ b → (TJ9 a).2.1 ≠ (TJ9 b).2.1 := by decide +kernel
theorem tyJ9_ok : ∀ k, k < 0 → parseFieldDescriptor (TJ9 k).2.2.1 = some (tyJ9 k) := by decide +kernel
abbrev cJ9_max_7cf53 : ByteArray := prog_16_method_65_code
def yJ9_max_7cf53 : MethodName := ⟨RJ9, "max", "(II)I"⟩
abbrev cJ9_min_7cf53 : ByteArray := prog_16_method_69_code
def yJ9_min_7cf53 : MethodName := ⟨RJ9, "min", "(II)I"⟩
def RJ0 : String := "java/lang/String"
def TJ0 : u_T := fun k => match k with
  | _ => ("", "", "", false)
def tyJ0 : Nat → FieldType := fun k => match k with
  | _ => .int
theorem nmJ0 : ∀ a, a < 0 → ∀ b, b < 0 → a ≠ b → (TJ0 a).2.1 ≠ (TJ0 b).2.1 := by decide +kernel
theorem tyJ0_ok : ∀ k, k < 0 → parseFieldDescriptor (TJ0 k).2.2.1 = some (tyJ0 k) := by decide +kernel
abbrev cJ0_length_8abf5 : ByteArray := prog_17_method_54_code
def yJ0_length_8abf5 : MethodName := ⟨RJ0, "length", "()I"⟩
abbrev cJ0_charAt_5068e : ByteArray := prog_17_method_56_code
def yJ0_charAt_5068e : MethodName := ⟨RJ0, "charAt", "(I)C"⟩
abbrev cJ0_indexOf_0f7a4 : ByteArray := prog_17_method_79_code
def yJ0_indexOf_0f7a4 : MethodName := ⟨RJ0, "indexOf", "(I)I"⟩
abbrev cJ0_indexOf_7cf53 : ByteArray := prog_17_method_80_code
def yJ0_indexOf_7cf53 : MethodName := ⟨RJ0, "indexOf", "(II)I"⟩
abbrev cJ0_coder_7d493 : ByteArray := prog_17_method_152_code
def yJ0_coder_7d493 : MethodName := ⟨RJ0, "coder", "()B"⟩
abbrev cJ0_isLatin1_aae02 : ByteArray := prog_17_method_154_code
def yJ0_isLatin1_aae02 : MethodName := ⟨RJ0, "isLatin1", "()Z"⟩
abbrev cJ0_checkIndex_df160 : ByteArray := prog_17_method_155_code
def yJ0_checkIndex_df160 : MethodName := ⟨RJ0, "checkIndex", "(II)V"⟩
abbrev cJ0_checkBoundsBeginEnd_23922 : ByteArray := prog_17_method_158_code
def yJ0_checkBoundsBeginEnd_23922 : MethodName := ⟨RJ0, "checkBoundsBeginEnd", "(III)V"⟩
def RJ1 : String := "java/lang/StringLatin1"
def TJ1 : u_T := fun k => match k with
  | _ => ("", "", "", false)
def tyJ1 : Nat → FieldType := fun k => match k with
  | _ => .int
theorem nmJ1 : ∀ a, a < 0 → ∀ b, b < 0 → a ≠ b → (TJ1 a).2.1 ≠ (TJ1 b).2.1 := by decide +kernel
theorem tyJ1_ok : ∀ k, k < 0 → parseFieldDescriptor (TJ1 k).2.2.1 = some (tyJ1 k) := by decide +kernel
abbrev cJ1_charAt_3b067 : ByteArray := prog_18_method_2_code
def yJ1_charAt_3b067 : MethodName := ⟨RJ1, "charAt", "([BI)C"⟩
abbrev cJ1_canEncode_9a6ad : ByteArray := prog_18_method_4_code
def yJ1_canEncode_9a6ad : MethodName := ⟨RJ1, "canEncode", "(I)Z"⟩
abbrev cJ1_indexOf_4cfef : ByteArray := prog_18_method_22_code
def yJ1_indexOf_4cfef : MethodName := ⟨RJ1, "indexOf", "([BIII)I"⟩
abbrev cJ1_indexOfChar_4cfef : ByteArray := prog_18_method_23_code
def yJ1_indexOfChar_4cfef : MethodName := ⟨RJ1, "indexOfChar", "([BIII)I"⟩
def RJ2 : String := "java/lang/StringUTF16"
def TJ2 : u_T := fun k => match k with
  | _ => ("", "", "", false)
def tyJ2 : Nat → FieldType := fun k => match k with
  | _ => .int
theorem nmJ2 : ∀ a, a < 0 → ∀ b, b < 0 → a ≠ b → (TJ2 a).2.1 ≠ (TJ2 b).2.1 := by decide +kernel
theorem tyJ2_ok : ∀ k, k < 0 → parseFieldDescriptor (TJ2 k).2.2.1 = some (tyJ2 k) := by decide +kernel
abbrev cJ2_getChar_3b067 : ByteArray := prog_19_method_5_code
def yJ2_getChar_3b067 : MethodName := ⟨RJ2, "getChar", "([BI)C"⟩
abbrev cJ2_length_9d52b : ByteArray := prog_19_method_6_code
def yJ2_length_9d52b : MethodName := ⟨RJ2, "length", "([B)I"⟩
abbrev cJ2_indexOf_4cfef : ByteArray := prog_19_method_40_code
def yJ2_indexOf_4cfef : MethodName := ⟨RJ2, "indexOf", "([BIII)I"⟩
abbrev cJ2_indexOfChar_4cfef : ByteArray := prog_19_method_47_code
def yJ2_indexOfChar_4cfef : MethodName := ⟨RJ2, "indexOfChar", "([BIII)I"⟩
abbrev cJ2_indexOfCharUnsafe_4cfef : ByteArray := prog_19_method_48_code
def yJ2_indexOfCharUnsafe_4cfef : MethodName := ⟨RJ2, "indexOfCharUnsafe", "([BIII)I"⟩
abbrev cJ2_indexOfSupplementary_4cfef : ByteArray := prog_19_method_49_code
def yJ2_indexOfSupplementary_4cfef : MethodName := ⟨RJ2, "indexOfSupplementary", "([BIII)I"⟩
abbrev cJ2_charAt_3b067 : ByteArray := prog_19_method_83_code
def yJ2_charAt_3b067 : MethodName := ⟨RJ2, "charAt", "([BI)C"⟩
abbrev cJ2_checkIndex_2214a : ByteArray := prog_19_method_91_code
def yJ2_checkIndex_2214a : MethodName := ⟨RJ2, "checkIndex", "(I[B)V"⟩
abbrev cJ2_checkBoundsBeginEnd_d044e : ByteArray := prog_19_method_93_code
def yJ2_checkBoundsBeginEnd_d044e : MethodName := ⟨RJ2, "checkBoundsBeginEnd", "(II[B)V"⟩
def RJ10 : String := "java/lang/System"
def TJ10 : u_T := fun k => match k with
  | _ => ("", "", "", false)
def tyJ10 : Nat → FieldType := fun k => match k with
  | _ => .int
theorem nmJ10 : ∀ a, a < 0 → ∀ b, b < 0 → a ≠ b → (TJ10 a).2.1 ≠ (TJ10 b).2.1 := by decide +kernel
theorem tyJ10_ok : ∀ k, k < 0 → parseFieldDescriptor (TJ10 k).2.2.1 = some (tyJ10 k) := by decide +kernel
def RJxfd54e : String := "java/lang/constant/Constable"
def TJxfd54e : u_T := fun k => match k with
  | _ => ("", "", "", false)
def tyJxfd54e : Nat → FieldType := fun k => match k with
  | _ => .int
theorem nmJxfd54e : ∀ a, a < 0 → ∀ b, b < 0 → a ≠ b → (TJxfd54e a).2.1 ≠ (TJxfd54e b).2.1 := by decide +kernel
theorem tyJxfd54e_ok : ∀ k, k < 0 → parseFieldDescriptor (TJxfd54e k).2.2.1 = some (tyJxfd54e k) := by decide +kernel
def RJx3cf43 : String := "java/lang/constant/ConstantDesc"
def TJx3cf43 : u_T := fun k => match k with
  | _ => ("", "", "", false)
def tyJx3cf43 : Nat → FieldType := fun k => match k with
  | _ => .int
theorem nmJx3cf43 : ∀ a, a < 0 → ∀ b, b < 0 → a ≠ b → (TJx3cf43 a).2.1 ≠ (TJx3cf43 b).2.1 := by decide +kernel
theorem tyJx3cf43_ok : ∀ k, k < 0 → parseFieldDescriptor (TJx3cf43 k).2.2.1 = some (tyJx3cf43 k) := by decide +kernel
def RJ7 : String := "java/util/Arrays"
def TJ7 : u_T := fun k => match k with
  | _ => ("", "", "", false)
def tyJ7 : Nat → FieldType := fun k => match k with
  | _ => .int
theorem nmJ7 : ∀ a, a < 0 → ∀ b, b < 0 → a ≠ b → (TJ7 a).2.1 ≠ (TJ7 b).2.1 := by decide +kernel
theorem tyJ7_ok : ∀ k, k < 0 → parseFieldDescriptor (TJ7 k).2.2.1 = some (tyJ7 k) := by decide +kernel
abbrev cJ7_fill_53178 : ByteArray := prog_21_method_103_code
def yJ7_fill_53178 : MethodName := ⟨RJ7, "fill", "([II)V"⟩
def RJ3 : String := "jdk/internal/util/Preconditions"
def TJ3 : u_T := fun k => match k with
  | _ => ("", "", "", false)
def tyJ3 : Nat → FieldType := fun k => match k with
  | _ => .int
theorem nmJ3 : ∀ a, a < 0 → ∀ b, b < 0 → a ≠ b → (TJ3 a).2.1 ≠ (TJ3 b).2.1 := by decide +kernel
theorem tyJ3_ok : ∀ k, k < 0 → parseFieldDescriptor (TJ3 k).2.2.1 = some (tyJ3 k) := by decide +kernel
abbrev cJ3_checkIndex_8e157 : ByteArray := prog_22_method_11_code
def yJ3_checkIndex_8e157 : MethodName := ⟨RJ3, "checkIndex", "(IILjava/util/function/BiFunction;)I"⟩
abbrev cJ3_checkFromToIndex_8c36e : ByteArray := prog_22_method_12_code
def yJ3_checkFromToIndex_8c36e : MethodName := ⟨RJ3, "checkFromToIndex", "(IIILjava/util/function/BiFunction;)I"⟩
def RL : String := "FirstPancakeLaw"
abbrev cL_law : ByteArray := code
def yL_law : MethodName := ⟨RL, "law", "([I)Z"⟩
abbrev vwCl : List vw_C := [(RX0, TX0, 2), (RX1, TX1, 3), (RX2, TX2, 8), (RX3, TX3, 4), (RX4, TX4, 2), (RX5, TX5, 7), (RX6, TX6, 7), (RX7, TX7, 6), (RX8, TX8, 4), (RX11, TX11, 16), (RX12, TX12, 67)]
end
section
/-! The words that may be carried along, all of them, for every method alike -/
def tblG : List Cond := lw_tbl.filter goodWord
theorem tg_t {w : Cond} (h : w ∈ tables_1) (hg : goodWord w = true) : w ∈ tblG := List.mem_filter.mpr ⟨List.mem_append_right _ h, hg⟩
theorem tg_s {w : Cond} (h : w ∈ k2_sels lw_privs) (hg : goodWord w = true) : w ∈ tblG := List.mem_filter.mpr ⟨List.mem_append_left _ h, hg⟩
theorem tb1 {w : Cond} (h : w ∈ tables_1_1) : w ∈ tables_1 := List.mem_append_left _ h
theorem tb2 {w : Cond} (h : w ∈ tables_1_2) : w ∈ tables_1 := List.mem_append_right _ (List.mem_append_left _ h)
theorem tb3 {w : Cond} (h : w ∈ tables_1_3) : w ∈ tables_1 := List.mem_append_right _ (List.mem_append_right _ (List.mem_append_left _ h))
theorem tb4 {w : Cond} (h : w ∈ tables_1_4) : w ∈ tables_1 := List.mem_append_right _ (List.mem_append_right _ (List.mem_append_right _ (List.mem_append_left _ h)))
theorem tb5 {w : Cond} (h : w ∈ tables_1_5) : w ∈ tables_1 := List.mem_append_right _ (List.mem_append_right _ (List.mem_append_right _ (List.mem_append_right _ (List.mem_append_left _ h))))
theorem tb6 {w : Cond} (h : w ∈ tables_1_6) : w ∈ tables_1 := List.mem_append_right _ (List.mem_append_right _ (List.mem_append_right _ (List.mem_append_right _ (List.mem_append_right _ h))))
theorem tg_good {w : Cond} (h : w ∈ tblG) : goodWord w = true := (List.mem_filter.mp h).2
theorem tg_in {ws : List Cond} (h : ∀ w ∈ ws, w ∈ tblG) : GoodIn tblG ws := fun w hw => ⟨h w hw, good_of_word (tg_good (h w hw))⟩
/-- words of nest mates and abstract methods, which no list of steady words carries -/
def isN : Cond → Bool
  | .methodLinkNest _ _ _ _ => true
  | .fieldLinkNest _ _ _ _ _ _ => true
  | .declares _ => true
  | _ => false
theorem nw_warm {w : Cond} (h : isN w = true) {s U : State} (hW : s.WarmedH U.vm) (hZ : va_Nw w s) : va_Nw w U := by
  cases w <;> first | exact va_Nw.warmM hW hZ | exact va_Nw.warmF hW hZ | exact va_Nw.warmD hW hZ | exact absurd h Bool.false_ne_true
theorem nw_tab {w : Cond} (h : isN w = true) : w.onTables = true := by
  cases w <;> first | rfl | exact absurd h Bool.false_ne_true
/-! The world: all cells of the system and of the reference, by number. The state: what they hold, by number and place -/
abbrev gS : Type := Nat → Nat → Int32
/-- class numbers and slots; array classes; addresses; the first new address, and where statics and texts lie -/
abbrev gE : Type := va_G × (Nat → ClassId) × (Nat → Nat) × (Nat → Nat)
def ad (E : gE) (k : Nat) : Nat := E.2.2.1 k
def gA (E : gE) : Nat → Prop := fun q => E.2.2.2 0 ≤ q
def gK : List Nat := [9, 4, 1040, 6, 1016, 2016, 8, 1005, 1006, 5, 1016, 2016, 2016, 1016, 2, 1, 1016, 1016, 1, 1016, 1016, 0, 1016, 1007, 7, 1006, 1, 1016, 1016, 1, 1016, 1016, 4006, 5024, 3, 1009, 1009,
  7, 1006, 7, 1006, 7, 1006, 7, 1006, 7, 1006, 7, 1006,
  0, 1016, 1007, 0, 1016, 1007, 0, 1016, 1007, 0, 1016, 1007, 0, 1016, 1007, 0, 1016, 1007, 0, 1016, 1007, 0, 1016, 1007, 0, 1016, 1007, 0, 1016, 1007, 0, 1016, 1007, 0, 1016, 1007,
  0, 1016, 1007, 0, 1016, 1007, 0, 1016, 1007, 0, 1016, 1007, 0, 1016, 1007, 0, 1016, 1007, 0, 1016, 1007, 0, 1016, 1007, 0, 1016, 1007, 0, 1016, 1007, 0, 1016, 1007, 0, 1016, 1007,
  10, 1016, 2016, 1016, 1016, 1006, 1006, 1006, 1006, 1006, 1036, 1168, 1384, 3040, 1016, 1016, 1016, 2016, 1006, 1016, 1016, 1006, 1016, 1016, 2016, 1032, 1016, 1009, 1009]
def kd (k : Nat) : Nat := gK.getD k 99
theorem kd_lt {k ci : Nat} (h : kd k = ci) (hc : ci ≠ 99) : k < 150 := by
  rcases Nat.lt_or_ge k 150 with q | q
  · exact q
  · exfalso
    have h1 : gK.length = 150 := by decide +kernel
    have h2 : kd k = 99 := by
      unfold kd
      rw [List.getD_eq_getElem?_getD, List.getElem?_eq_none (by omega)]
      rfl
    exact hc (h.symm.trans h2)
/-- a long as two ints, and back -/
def gHi (v : Int64) : Int32 := ⟨⟨v.toBitVec.extractLsb' 32 32⟩⟩
def gLo (v : Int64) : Int32 := ⟨⟨v.toBitVec.extractLsb' 0 32⟩⟩
def gL (a b : Int32) : Int64 := ⟨⟨a.toBitVec ++ b.toBitVec⟩⟩
theorem gL_back (v : Int64) : gL (gHi v) (gLo v) = v := by
  apply Int64.toBitVec_inj.mp
  show v.toBitVec.extractLsb' 32 32 ++ v.toBitVec.extractLsb' 0 32 = v.toBitVec
  apply BitVec.eq_of_getLsbD_eq
  intro i hi
  rw [BitVec.getLsbD_append]
  by_cases h : i < 32
  · simp [h]
  · simp [h]
    have e : 32 + (i - 32) = i := by omega
    have e2 : i - 32 < 32 := by omega
    simp [e, e2]
def flds (E : gE) (ci k : Nat) (f : Nat → Int32) : List Value := match ci with
  | 0 => [.ref (ad E (k + 1)), .ref (ad E (k + 2))]
  | 1 => [.ref (ad E (k + 1)), .ref (ad E (k + 2)), .int (f 2)]
  | 2 => [.ref (ad E 9), .ref (ad E 15), .ref (ad E 18), .ref (ad E 21), .ref (ad E 24), .int (f 5), .int (f 6), .int (f 7)]
  | 3 => [.ref (ad E (k + 1)), .ref (ad E (k + 2)), .int (f 2), .int (f 3)]
  | 4 => [.ref (ad E (k + 1)), .int (f 1)]
  | 5 => [.ref (ad E (k + 1)), .ref (ad E (k + 2)), .int (f 2), .int (f 3), .int (f 4), .ref (ad E (k + 3)), .ref (ad E (k + 4))]
  | 6 => [.ref (ad E (k + 1)), .ref (ad E (k + 2)), .int (f 2), .int (f 3), .int (f 4), .int (f 5), .int (f 6)]
  | 7 => [.ref (ad E (k + 1)), .int (f 1), .int (f 2), .int (f 3), .int (f 4), .int (f 5)]
  | 8 => [.ref (ad E (k + 1)), .ref (ad E (k + 2)), .int (f 2), .int (f 3)]
  | 9 => [.ref (ad E 1), .ref (ad E 3), .ref (ad E 6), .ref (ad E 9), .ref (ad E 14), .ref (ad E 26), .ref (ad E 29), .ref (ad E 32), .ref (ad E 33), .ref (ad E 34), .int (f 10), .int (f 11), .int (f 12), .int (f 13), .int (f 14), .int (f 15)]
  | 10 => [.int (f 0), .int (f 1), .int (f 2), .ref (ad E 122), .ref (ad E 123), .ref (ad E 124), .ref (ad E 125), .int (f 7), .int (f 8), .ref (ad E 126), .ref (ad E 127), .ref (ad E 128), .ref (ad E 129), .ref (ad E 130), .ref (ad E 131), .int (f 15), .ref (ad E 132), .ref (ad E 133), .int (f 18), .int (f 19), .ref (ad E 134), .int (f 21), .int (f 22), .int (f 23), .int (f 24), .ref (ad E 135), .ref (ad E 136), .int (f 27), .int (f 28), .int (f 29), .int (f 30), .int (f 31), .int (f 32), .ref (ad E 137), .ref (ad E 138), .int (f 35), .int (f 36), .int (f 37), .int (f 38), .int (f 39), .ref (ad E 139), .ref (ad E 140), .ref (ad E 141), .int (f 43), .int (f 44), .int (f 45), .int (f 46), .int (f 47), .int (f 48), .ref (ad E 142), .ref (ad E 143), .ref (ad E 144), .ref (ad E 145), .ref (ad E 146), .int (f 54), .int (f 55), .int (f 56), .int (f 57), .int (f 58), .int (f 59), .int (f 60), .int (f 61), .int (f 62), .ref (ad E 147), .ref (ad E 148), .ref (ad E 149), .long (gL (f 66) (f 67))]
  | _ => []
def cE (E : gE) (kk k : Nat) (f : Nat → Int32) : va_E :=
  if kk < 1000 then .inr (kk, flds E kk k f)
  else if kk < 2000 then .inl (E.2.1 0, kk - 1000, .inl f)
  else if kk < 3000 then .inl (E.2.1 1, kk - 2000, .inl f)
  else if kk < 4000 then .inl (E.2.1 2, kk - 3000, .inl f)
  else if kk < 5000 then .inl (E.2.1 3, 6, .inr (.inr (.inr (.inr (fun i => some (ad E (37 + 2 * i)))))))
  else .inl (E.2.1 4, 24, .inr (.inr (.inr (.inr (fun i => some (ad E (49 + 3 * i)))))))
theorem cE_o (E : gE) {kk : Nat} (k : Nat) (f : Nat → Int32) (h : kk < 1000) : cE E kk k f = .inr (kk, flds E kk k f) := if_pos h
theorem cE_i (E : gE) (n k : Nat) (f : Nat → Int32) (h : n < 1000) : cE E (1000 + n) k f = .inl (E.2.1 0, n, .inl f) := by
  unfold cE; rw [if_neg (by omega), if_pos (by omega), Nat.add_sub_cancel_left]
theorem cE_z (E : gE) (n k : Nat) (f : Nat → Int32) (h : n < 1000) : cE E (2000 + n) k f = .inl (E.2.1 1, n, .inl f) := by
  unfold cE; rw [if_neg (by omega), if_neg (by omega), if_pos (by omega), Nat.add_sub_cancel_left]
theorem cE_b (E : gE) (n k : Nat) (f : Nat → Int32) (h : n < 1000) : cE E (3000 + n) k f = .inl (E.2.1 2, n, .inl f) := by
  unfold cE; rw [if_neg (by omega), if_neg (by omega), if_neg (by omega), if_pos (by omega), Nat.add_sub_cancel_left]
def gws (E : gE) (F : gS) : va_W := (List.range 150).map (fun k => (ad E k, cE E (kd k) k (F k)))
theorem gws_at (E : gE) (F : gS) {k : Nat} (h : k < 150) : (gws E F)[k]? = some (ad E k, cE E (kd k) k (F k)) := by
  unfold gws
  rw [List.getElem?_map, List.getElem?_range h]
  rfl
/-- a row put in place of cell k's -/
def upR (F : gS) (k : Nat) (f : Nat → Int32) : gS := fun q => if q = k then f else F q
/-- the number v at place j of cell k -/
def upF (F : gS) (k j : Nat) (v : Int32) : gS := fun q => if q = k then upd (F k) j v else F q
theorem gws_set (E : gE) (F : gS) {k : Nat} (f : Nat → Int32) : (gws E F).set k (ad E k, cE E (kd k) k f) = gws E (upR F k f) := by
  apply List.ext_getElem?
  intro i
  rw [List.getElem?_set]
  by_cases hk : k < 150
  · by_cases hi : k = i
    · subst hi
      have hl : k < (gws E F).length := by unfold gws; simp; exact hk
      rw [if_pos rfl, if_pos hl, gws_at E _ hk]
      unfold upR
      rw [if_pos rfl]
    · rw [if_neg hi]
      by_cases h : i < 150
      · rw [gws_at E _ h, gws_at E _ h]
        unfold upR
        rw [if_neg (Ne.symm hi)]
      · rw [List.getElem?_eq_none (by unfold gws; simp; omega), List.getElem?_eq_none (by unfold gws; simp; omega)]
  · by_cases hi : k = i
    · subst hi
      have hl : ¬ k < (gws E F).length := by unfold gws; simp; omega
      rw [if_pos rfl, if_neg hl, List.getElem?_eq_none (by unfold gws; simp; omega)]
    · rw [if_neg hi]
      by_cases h : i < 150
      · rw [gws_at E _ h, gws_at E _ h]
        unfold upR
        rw [if_neg (Ne.symm hi)]
      · rw [List.getElem?_eq_none (by unfold gws; simp; omega), List.getElem?_eq_none (by unfold gws; simp; omega)]
def gT (E : gE) : List (ClassId × FieldType) := [(E.2.1 0, .int), (E.2.1 1, .boolean), (E.2.1 2, .byte), (E.2.1 3, .object "FirstPancake$Plan"), (E.2.1 4, .object "FirstPancake$Cake")]
def gWorth : List Int32 := [10, 4, 6, 1, 5, 2]
def gAbove : List Int32 := [0, 0, 0, 2, 0, 4]
def gMost : List Int32 := [0, 9, 60, 60, 60]
def gText : List (List Int32) := [[110, 101, 115, 119], [102, 97, 116, 117]]
/-- what lies below the first new cell, and never changes -/
def gZ (E : gE) (s : State) (H : Heap) : Prop :=
  va_Z "FirstPancake" "WORTHS" "[I" (.ref (E.2.2.2 1)) (gA E) s H ∧ va_T .int (E.2.2.2 1) 6 (fun j => .int (gWorth.getD j 0)) (gA E) s H ∧
  va_Z "FirstPancake" "ABOVE" "[I" (.ref (E.2.2.2 2)) (gA E) s H ∧ va_T .int (E.2.2.2 2) 6 (fun j => .int (gAbove.getD j 0)) (gA E) s H ∧
  va_Z "FirstPancake$PlanText" "MOST" "[I" (.ref (E.2.2.2 3)) (gA E) s H ∧ va_T .int (E.2.2.2 3) 5 (fun j => .int (gMost.getD j 0)) (gA E) s H ∧
  va_Z "java/lang/String" "COMPACT_STRINGS" "Z" (.int 1) (gA E) s H ∧ va_Zq "jdk/internal/util/Preconditions" "SIOOBE_FORMATTER" "Ljava/util/function/BiFunction;" (gA E) s H ∧
  vk_S 2 [4, 4] gText (fun i => E.2.2.2 (4 + i)) (fun i => E.2.2.2 (6 + i)) (gA E) s H
theorem gZ.moved {E : gE} {u U : State} {H : Heap} (hvm : u.vm.Alike U.vm) (h : gZ E u H) : gZ E U H := by
  obtain ⟨h1, h2, h3, h4, h5, h6, h7, h8, h9⟩ := h
  exact ⟨h1.moved hvm, h2.moved hvm, h3.moved hvm, h4.moved hvm, h5.moved hvm, h6.moved hvm, h7.moved hvm, h8.moved hvm, h9.moved hvm⟩
theorem gZ.kept {E : gE} {U : State} {H H1 : Heap} (h : gZ E U H) (hq : ∀ a : Nat, a < H.size → ¬ gA E a → H1[a]? = H[a]?) : gZ E U H1 := by
  obtain ⟨h1, h2, h3, h4, h5, h6, h7, h8, h9⟩ := h
  exact ⟨h1.kept hq, h2.kept hq, h3.kept hq, h4.kept hq, h5.kept hq, h6.kept hq, h7.kept hq, h8.kept hq, h9.kept hq⟩
/-- what every method's start brings along beside its cells -/
def gC (E : gE) (s : State) : Prop :=
  va_K E.1 vwCl (gT E) s ∧ (∀ i j : Nat, i < 150 → j < 150 → ad E i = ad E j → i = j) ∧ (∀ i : Nat, i < 150 → gA E (ad E i)) ∧ gZ E s s.heap ∧
  (∀ w ∈ lw_tbl, isN w = true → va_Nw w s) ∧ vk_R "FirstPancake$PlanText" 38 "nesw" (E.2.2.2 4) s ∧ vk_R "FirstPancake$PlanText" 55 "fatu" (E.2.2.2 5) s
theorem gC.same {E : gE} {u U : State} (hv : U.vm = u.vm) (hh : U.heap = u.heap) (h : gC E u) : gC E U := by
  obtain ⟨h1, h2, h3, h4, h5, h6, h7⟩ := h
  have hal : u.vm.Alike U.vm := by rw [hv]; exact Vm.Alike.refl _
  exact ⟨h1.moved hal, h2, h3, by rw [hh]; exact h4.moved hal, fun w hw hn => va_Nw.same (nw_tab hn) hv.symm (h5 w hw hn), h6.same hv, h7.same hv⟩
theorem gC.call {E : gE} {s U : State} {H : Heap} {locs : List Loc} (h : gC E s) (hS : va_S (gA E) s.heap H locs) (hU : U.heap = H) (hW : s.WarmedH U.vm) : gC E U := by
  obtain ⟨h1, h2, h3, h4, h5, h6, h7⟩ := h
  refine ⟨h1.moved hW.alike, h2, h3, ?_, fun w hw hn => nw_warm hn hW (h5 w hw hn), h6.warm hW, h7.warm hW⟩
  rw [hU]
  exact (h4.kept (fun a h1 h2 => hS.2.1 a h1 h2)).moved hW.alike
theorem gD {E : gE} {s : State} (h : gC E s) (F : gS) : va_D (gA E) (gws E F) := by
  have key : ∀ (k : Nat) (q : Nat × va_E), (gws E F)[k]? = some q → k < 150 ∧ q.1 = ad E k := by
    intro k q hk
    rcases Nat.lt_or_ge k 150 with z | z
    · rw [gws_at E F z] at hk
      cases hk
      exact ⟨z, rfl⟩
    · rw [List.getElem?_eq_none (by unfold gws; simp; omega)] at hk
      cases hk
  refine ⟨fun i j p q hi hj hpq => ?_, fun k q hk => ?_⟩
  · obtain ⟨a1, a2⟩ := key i p hi
    obtain ⟨b1, b2⟩ := key j q hj
    exact h.2.1 i j a1 b1 (by rw [← a2, ← b2]; exact hpq)
  · obtain ⟨a1, a2⟩ := key k q hk
    rw [a2]
    exact h.2.2.1 k a1
def gP (E : gE) (F : gS) (U : State) : Prop := va_P E.1 vwCl (gws E F) U.heap ∧ gC E U
def gB (E : gE) (F : gS) (t : State) : Prop := va_P E.1 vwCl (gws E F) t.heap
theorem gP_blind (E : gE) (F : gS) (av : List Value) : FrameBlind (va_Pc av (gP E F)) := fun a U g mk q => ⟨q.1, q.2.1, gC.same (u := U) rfl rfl q.2.2⟩
/-- what a walk stands on -/
def CX (p : Program) (s : State) (m : MethodId) (args : Array Value) (meth : Method) (c : Code) (cc : ByteArray) (own : String) (ret : Option FieldType) (E : gE) (nL : Nat) : Prop :=
  p.tables.exec = Jvm.exec ∧ c.code = cc ∧ c.maxLocals = nL ∧ s.vm.findClass own = some m.cls ∧ (∀ w ∈ tblG, w.before args s = true) ∧ gC E s ∧ meth.sig.returnType = ret ∧ meth.locks = false
/-- the machine at pc, with the state F in the cells, these locals, this stack: it comes to Q -/
def VV (p : Program) (l : Launch) (e : Env) (R : Room) (s : State) (m : MethodId) (args : Array Value) (below : List Frame) (meth : Method) (c : Code) (nc ns : Nat) (Q : State → Prop) (E : gE) (nL : Nat) (F : gS) (pc : Nat) (lv : List (Nat × Value)) (st : List Value) : Prop :=
  ∀ (H : Heap) (locs : List Loc) (ls : Array Slot), va_P E.1 vwCl (gws E F) H → va_S (gA E) s.heap H locs → lv_has ls nL lv → W p l e R s m args below meth c H locs nc ns Q (F0 m pc ls st)
/-- a value gets a name -/
abbrev Nm {α : Type} (x : α) (P : α → Prop) : Prop := P x
section VR
variable {p : Program} {l : Launch} {e : Env} {R : Room} {s : State} {m : MethodId} {args : Array Value} {below : List Frame} {meth : Method} {c : Code} {nc ns : Nat} {Q : State → Prop} {E : gE} {nL : Nat} {F : gS} {pc : Nat} {lv : List (Nat × Value)} {st : List Value}
variable {cc : ByteArray} {own : String} {ret : Option FieldType}
theorem v_sub {lv' : List (Nat × Value)} (ks : List Nat) (h : lv_pick lv ks = lv') (kk : VV p l e R s m args below meth c nc ns Q E nL F pc lv' st) : VV p l e R s m args below meth c nc ns Q E nL F pc lv st :=
  fun H locs ls hP hS hl => kk H locs ls hP hS (lv_sub hl ks h)
theorem v_nmi {x : Int32} {P : Int32 → Prop} (h : Nm x P) (kk : ∀ y, P y → VV p l e R s m args below meth c nc ns Q E nL F pc lv (.int y :: st)) : VV p l e R s m args below meth c nc ns Q E nL F pc lv (.int x :: st) := kk x h
theorem v_nml {x : Int64} {P : Int64 → Prop} (h : Nm x P) (kk : ∀ y, P y → VV p l e R s m args below meth c nc ns Q E nL F pc lv (.long y :: st)) : VV p l e R s m args below meth c nc ns Q E nL F pc lv (.long x :: st) := kk x h
theorem v_nmF {P : gS → Prop} (h : Nm F P) (kk : ∀ G, P G → VV p l e R s m args below meth c nc ns Q E nL G pc lv st) : VV p l e R s m args below meth c nc ns Q E nL F pc lv st := kk F h
theorem v_iconst (hC : CX p s m args meth c cc own ret E nL) {n : Int} {v : Int32} (hd : decode cc pc = .ok (.iconst n, 1)) (hv : Int32.ofInt n = v) (kk : VV p l e R s m args below meth c nc ns Q E nL F (pc + 1) lv (.int v :: st)) : VV p l e R s m args below meth c nc ns Q E nL F pc lv st :=
  fun H locs ls hP hS hl => lv_iconst hC.1 hC.2.1 hd hv (kk H locs ls hP hS hl)
theorem v_bipush (hC : CX p s m args meth c cc own ret E nL) {n : Int} {v : Int32} (hd : decode cc pc = .ok (.bipush n, 2)) (hv : (Int8.ofInt n).toInt32 = v) (kk : VV p l e R s m args below meth c nc ns Q E nL F (pc + 2) lv (.int v :: st)) : VV p l e R s m args below meth c nc ns Q E nL F pc lv st :=
  fun H locs ls hP hS hl => lv_bipush hC.1 hC.2.1 hd hv (kk H locs ls hP hS hl)
theorem v_sipush (hC : CX p s m args meth c cc own ret E nL) {n : Int} {v : Int32} (hd : decode cc pc = .ok (.sipush n, 3)) (hv : (Int16.ofInt n).toInt32 = v) (kk : VV p l e R s m args below meth c nc ns Q E nL F (pc + 3) lv (.int v :: st)) : VV p l e R s m args below meth c nc ns Q E nL F pc lv st :=
  fun H locs ls hP hS hl => lv_sipush hC.1 hC.2.1 hd hv (kk H locs ls hP hS hl)
theorem v_ldc (hC : CX p s m args meth c cc own ret E nL) {index : Nat} {v : Int32} (hw : Jvm.Cond.constant own index v ∈ tblG) (hd : decode cc pc = .ok (.ldc index, 2)) (kk : VV p l e R s m args below meth c nc ns Q E nL F (pc + 2) lv (.int v :: st)) : VV p l e R s m args below meth c nc ns Q E nL F pc lv st :=
  fun H locs ls hP hS hl => lv_ldc hC.1 hC.2.1 hC.2.2.2.1 (hC.2.2.2.2.1 _ hw) hd (kk H locs ls hP hS hl)
theorem v_ldc2 (hC : CX p s m args meth c cc own ret E nL) {index : Nat} {v : Int64} (hw : Jvm.Cond.constantLong own index v ∈ tblG) (hd : decode cc pc = .ok (.ldc2_w index, 3)) (kk : VV p l e R s m args below meth c nc ns Q E nL F (pc + 3) lv (.long v :: st)) : VV p l e R s m args below meth c nc ns Q E nL F pc lv st :=
  fun H locs ls hP hS hl => lv_ldc2 hC.1 hC.2.1 hC.2.2.2.1 (hC.2.2.2.2.1 _ hw) hd (kk H locs ls hP hS hl)
theorem v_iload_n (hC : CX p s m args meth c cc own ret E nL) {k : Fin 4} {i : Nat} {x : Int32} (hd : decode cc pc = .ok (.iload_n k, 1)) (hi : (k : Nat) = i) (j : Nat) (hj : lv[j]? = some (i, .int x)) (kk : VV p l e R s m args below meth c nc ns Q E nL F (pc + 1) lv (.int x :: st)) : VV p l e R s m args below meth c nc ns Q E nL F pc lv st :=
  fun H locs ls hP hS hl => lv_iload_n hC.1 hC.2.1 hd hi (lv_at hl j hj) (kk H locs ls hP hS hl)
theorem v_iload (hC : CX p s m args meth c cc own ret E nL) {i : Nat} {x : Int32} (hd : decode cc pc = .ok (.iload i, 2)) (j : Nat) (hj : lv[j]? = some (i, .int x)) (kk : VV p l e R s m args below meth c nc ns Q E nL F (pc + 2) lv (.int x :: st)) : VV p l e R s m args below meth c nc ns Q E nL F pc lv st :=
  fun H locs ls hP hS hl => lv_iload hC.1 hC.2.1 hd (lv_at hl j hj) (kk H locs ls hP hS hl)
theorem v_lload_n (hC : CX p s m args meth c cc own ret E nL) {k : Fin 4} {i : Nat} {x : Int64} (hd : decode cc pc = .ok (.lload_n k, 1)) (hi : (k : Nat) = i) (j : Nat) (hj : lv[j]? = some (i, .long x)) (kk : VV p l e R s m args below meth c nc ns Q E nL F (pc + 1) lv (.long x :: st)) : VV p l e R s m args below meth c nc ns Q E nL F pc lv st :=
  fun H locs ls hP hS hl => lv_lload_n hC.1 hC.2.1 hd hi (lv_at hl j hj) (kk H locs ls hP hS hl)
theorem v_aload_n (hC : CX p s m args meth c cc own ret E nL) {k : Fin 4} {i : Nat} {x : Nat} (hd : decode cc pc = .ok (.aload_n k, 1)) (hi : (k : Nat) = i) (j : Nat) (hj : lv[j]? = some (i, .ref x)) (kk : VV p l e R s m args below meth c nc ns Q E nL F (pc + 1) lv (.ref x :: st)) : VV p l e R s m args below meth c nc ns Q E nL F pc lv st :=
  fun H locs ls hP hS hl => lv_aload_n hC.1 hC.2.1 hd hi (lv_at hl j hj) (kk H locs ls hP hS hl)
theorem v_aload (hC : CX p s m args meth c cc own ret E nL) {i : Nat} {x : Nat} (hd : decode cc pc = .ok (.aload i, 2)) (j : Nat) (hj : lv[j]? = some (i, .ref x)) (kk : VV p l e R s m args below meth c nc ns Q E nL F (pc + 2) lv (.ref x :: st)) : VV p l e R s m args below meth c nc ns Q E nL F pc lv st :=
  fun H locs ls hP hS hl => lv_aload hC.1 hC.2.1 hd (lv_at hl j hj) (kk H locs ls hP hS hl)
theorem v_istore_n (hC : CX p s m args meth c cc own ret E nL) {k : Fin 4} {i : Nat} {x : Int32} {lv' : List (Nat × Value)} (hd : decode cc pc = .ok (.istore_n k, 1)) (hi : (k : Nat) = i) (hn : i < nL) (hl' : (i, Value.int x) :: lv.filter (fun q => !(q.1 == i) && !(q.1 + 1 == i && q.2.category == 2)) = lv') (kk : VV p l e R s m args below meth c nc ns Q E nL F (pc + 1) lv' st) : VV p l e R s m args below meth c nc ns Q E nL F pc lv (.int x :: st) :=
  fun H locs ls hP hS hl => lv_istore_n hC.1 hC.2.1 hd hi hl hn hl' (fun ls' h' => kk H locs ls' hP hS h')
theorem v_istore (hC : CX p s m args meth c cc own ret E nL) {i : Nat} {x : Int32} {lv' : List (Nat × Value)} (hd : decode cc pc = .ok (.istore i, 2)) (hn : i < nL) (hl' : (i, Value.int x) :: lv.filter (fun q => !(q.1 == i) && !(q.1 + 1 == i && q.2.category == 2)) = lv') (kk : VV p l e R s m args below meth c nc ns Q E nL F (pc + 2) lv' st) : VV p l e R s m args below meth c nc ns Q E nL F pc lv (.int x :: st) :=
  fun H locs ls hP hS hl => lv_istore hC.1 hC.2.1 hd hl hn hl' (fun ls' h' => kk H locs ls' hP hS h')
theorem v_lstore_n (hC : CX p s m args meth c cc own ret E nL) {k : Fin 4} {i : Nat} {x : Int64} {lv' : List (Nat × Value)} (hd : decode cc pc = .ok (.lstore_n k, 1)) (hi : (k : Nat) = i) (hn : i + 1 < nL) (hl' : (i, Value.long x) :: lv.filter (fun q => !(q.1 == i) && (!(q.1 == i + 1) && !(q.1 + 1 == i && q.2.category == 2))) = lv') (kk : VV p l e R s m args below meth c nc ns Q E nL F (pc + 1) lv' st) : VV p l e R s m args below meth c nc ns Q E nL F pc lv (.long x :: st) :=
  fun H locs ls hP hS hl => lv_lstore_n hC.1 hC.2.1 hd hi hl hn hl' (fun ls' h' => kk H locs ls' hP hS h')
theorem v_astore_n (hC : CX p s m args meth c cc own ret E nL) {k : Fin 4} {i : Nat} {x : Nat} {lv' : List (Nat × Value)} (hd : decode cc pc = .ok (.astore_n k, 1)) (hi : (k : Nat) = i) (hn : i < nL) (hl' : (i, Value.ref x) :: lv.filter (fun q => !(q.1 == i) && !(q.1 + 1 == i && q.2.category == 2)) = lv') (kk : VV p l e R s m args below meth c nc ns Q E nL F (pc + 1) lv' st) : VV p l e R s m args below meth c nc ns Q E nL F pc lv (.ref x :: st) :=
  fun H locs ls hP hS hl => lv_astore_n hC.1 hC.2.1 hd hi hl hn hl' (fun ls' h' => kk H locs ls' hP hS h')
theorem v_astore (hC : CX p s m args meth c cc own ret E nL) {i : Nat} {x : Nat} {lv' : List (Nat × Value)} (hd : decode cc pc = .ok (.astore i, 2)) (hn : i < nL) (hl' : (i, Value.ref x) :: lv.filter (fun q => !(q.1 == i) && !(q.1 + 1 == i && q.2.category == 2)) = lv') (kk : VV p l e R s m args below meth c nc ns Q E nL F (pc + 2) lv' st) : VV p l e R s m args below meth c nc ns Q E nL F pc lv (.ref x :: st) :=
  fun H locs ls hP hS hl => lv_astore hC.1 hC.2.1 hd hl hn hl' (fun ls' h' => kk H locs ls' hP hS h')
theorem v_iinc (hC : CX p s m args meth c cc own ret E nL) {i : Nat} {n : Int} {x v : Int32} {P : Int32 → Prop} (lv' : Int32 → List (Nat × Value)) (hd : decode cc pc = .ok (.iinc i n, 3)) (j : Nat) (hj : lv[j]? = some (i, .int x)) (hn : i < nL) (hv : Int32.ofInt n = v) (hl' : ∀ z, (i, Value.int z) :: lv.filter (fun q => !(q.1 == i) && !(q.1 + 1 == i && q.2.category == 2)) = lv' z) (h : Nm (x + v) P) (kk : ∀ z, P z → VV p l e R s m args below meth c nc ns Q E nL F (pc + 3) (lv' z) st) : VV p l e R s m args below meth c nc ns Q E nL F pc lv st :=
  fun H locs ls hP hS hl => lv_iinc hC.1 hC.2.1 hd hl hj (by rw [hv]) hn (hl' (x + v)) (fun ls' h' => kk _ h H locs ls' hP hS h')
theorem v_iadd (hC : CX p s m args meth c cc own ret E nL) {x y : Int32} (hd : decode cc pc = .ok (.iadd, 1)) (kk : VV p l e R s m args below meth c nc ns Q E nL F (pc + 1) lv (.int (x + y) :: st)) : VV p l e R s m args below meth c nc ns Q E nL F pc lv (.int y :: .int x :: st) :=
  fun H locs ls hP hS hl => lv_iadd hC.1 hC.2.1 hd (kk H locs ls hP hS hl)
theorem v_isub (hC : CX p s m args meth c cc own ret E nL) {x y : Int32} (hd : decode cc pc = .ok (.isub, 1)) (kk : VV p l e R s m args below meth c nc ns Q E nL F (pc + 1) lv (.int (x - y) :: st)) : VV p l e R s m args below meth c nc ns Q E nL F pc lv (.int y :: .int x :: st) :=
  fun H locs ls hP hS hl => lv_isub hC.1 hC.2.1 hd (kk H locs ls hP hS hl)
theorem v_imul (hC : CX p s m args meth c cc own ret E nL) {x y : Int32} (hd : decode cc pc = .ok (.imul, 1)) (kk : VV p l e R s m args below meth c nc ns Q E nL F (pc + 1) lv (.int (x * y) :: st)) : VV p l e R s m args below meth c nc ns Q E nL F pc lv (.int y :: .int x :: st) :=
  fun H locs ls hP hS hl => lv_imul hC.1 hC.2.1 hd (kk H locs ls hP hS hl)
theorem v_iand (hC : CX p s m args meth c cc own ret E nL) {x y : Int32} (hd : decode cc pc = .ok (.iand, 1)) (kk : VV p l e R s m args below meth c nc ns Q E nL F (pc + 1) lv (.int (x &&& y) :: st)) : VV p l e R s m args below meth c nc ns Q E nL F pc lv (.int y :: .int x :: st) :=
  fun H locs ls hP hS hl => lv_iand hC.1 hC.2.1 hd (kk H locs ls hP hS hl)
theorem v_ishl (hC : CX p s m args meth c cc own ret E nL) {x y : Int32} (hd : decode cc pc = .ok (.ishl, 1)) (kk : VV p l e R s m args below meth c nc ns Q E nL F (pc + 1) lv (.int (x <<< (y &&& 31)) :: st)) : VV p l e R s m args below meth c nc ns Q E nL F pc lv (.int y :: .int x :: st) :=
  fun H locs ls hP hS hl => lv_ishl hC.1 hC.2.1 hd (kk H locs ls hP hS hl)
theorem v_ishr (hC : CX p s m args meth c cc own ret E nL) {x y : Int32} (hd : decode cc pc = .ok (.ishr, 1)) (kk : VV p l e R s m args below meth c nc ns Q E nL F (pc + 1) lv (.int (x >>> (y &&& 31)) :: st)) : VV p l e R s m args below meth c nc ns Q E nL F pc lv (.int y :: .int x :: st) :=
  fun H locs ls hP hS hl => lv_ishr hC.1 hC.2.1 hd (kk H locs ls hP hS hl)
theorem v_idiv (hC : CX p s m args meth c cc own ret E nL) {x y : Int32} {P : Prop} (hd : decode cc pc = .ok (.idiv, 1)) (h : ¬ y = 0 ∧ P) (kk : P → VV p l e R s m args below meth c nc ns Q E nL F (pc + 1) lv (.int (x / y) :: st)) : VV p l e R s m args below meth c nc ns Q E nL F pc lv (.int y :: .int x :: st) :=
  fun H locs ls hP hS hl => lv_idiv hC.1 hC.2.1 hd h.1 (kk h.2 H locs ls hP hS hl)
theorem v_irem (hC : CX p s m args meth c cc own ret E nL) {x y : Int32} {P : Prop} (hd : decode cc pc = .ok (.irem, 1)) (h : ¬ y = 0 ∧ P) (kk : P → VV p l e R s m args below meth c nc ns Q E nL F (pc + 1) lv (.int (x - x / y * y) :: st)) : VV p l e R s m args below meth c nc ns Q E nL F pc lv (.int y :: .int x :: st) :=
  fun H locs ls hP hS hl => lv_irem hC.1 hC.2.1 hd h.1 (kk h.2 H locs ls hP hS hl)
theorem v_ladd (hC : CX p s m args meth c cc own ret E nL) {x y : Int64} (hd : decode cc pc = .ok (.ladd, 1)) (kk : VV p l e R s m args below meth c nc ns Q E nL F (pc + 1) lv (.long (x + y) :: st)) : VV p l e R s m args below meth c nc ns Q E nL F pc lv (.long y :: .long x :: st) :=
  fun H locs ls hP hS hl => lv_ladd hC.1 hC.2.1 hd (kk H locs ls hP hS hl)
theorem v_lmul (hC : CX p s m args meth c cc own ret E nL) {x y : Int64} (hd : decode cc pc = .ok (.lmul, 1)) (kk : VV p l e R s m args below meth c nc ns Q E nL F (pc + 1) lv (.long (x * y) :: st)) : VV p l e R s m args below meth c nc ns Q E nL F pc lv (.long y :: .long x :: st) :=
  fun H locs ls hP hS hl => lv_lmul hC.1 hC.2.1 hd (kk H locs ls hP hS hl)
theorem v_land (hC : CX p s m args meth c cc own ret E nL) {x y : Int64} (hd : decode cc pc = .ok (.land, 1)) (kk : VV p l e R s m args below meth c nc ns Q E nL F (pc + 1) lv (.long (x &&& y) :: st)) : VV p l e R s m args below meth c nc ns Q E nL F pc lv (.long y :: .long x :: st) :=
  fun H locs ls hP hS hl => lv_land hC.1 hC.2.1 hd (kk H locs ls hP hS hl)
theorem v_lor (hC : CX p s m args meth c cc own ret E nL) {x y : Int64} (hd : decode cc pc = .ok (.lor, 1)) (kk : VV p l e R s m args below meth c nc ns Q E nL F (pc + 1) lv (.long (x ||| y) :: st)) : VV p l e R s m args below meth c nc ns Q E nL F pc lv (.long y :: .long x :: st) :=
  fun H locs ls hP hS hl => lv_lor hC.1 hC.2.1 hd (kk H locs ls hP hS hl)
theorem v_lshl (hC : CX p s m args meth c cc own ret E nL) {x : Int64} {y : Int32} (hd : decode cc pc = .ok (.lshl, 1)) (kk : VV p l e R s m args below meth c nc ns Q E nL F (pc + 1) lv (.long (x <<< (y.toInt64 &&& 63)) :: st)) : VV p l e R s m args below meth c nc ns Q E nL F pc lv (.int y :: .long x :: st) :=
  fun H locs ls hP hS hl => lv_lshl hC.1 hC.2.1 hd rfl (kk H locs ls hP hS hl)
theorem v_lshr (hC : CX p s m args meth c cc own ret E nL) {x : Int64} {y : Int32} (hd : decode cc pc = .ok (.lshr, 1)) (kk : VV p l e R s m args below meth c nc ns Q E nL F (pc + 1) lv (.long (x >>> (y.toInt64 &&& 63)) :: st)) : VV p l e R s m args below meth c nc ns Q E nL F pc lv (.int y :: .long x :: st) :=
  fun H locs ls hP hS hl => lv_lshr hC.1 hC.2.1 hd rfl (kk H locs ls hP hS hl)
theorem v_lushr (hC : CX p s m args meth c cc own ret E nL) {x : Int64} {y : Int32} (hd : decode cc pc = .ok (.lushr, 1)) (kk : VV p l e R s m args below meth c nc ns Q E nL F (pc + 1) lv (.long (x.toUInt64 >>> (y.toInt64.toUInt64 &&& Int64.toUInt64 63)).toInt64 :: st)) : VV p l e R s m args below meth c nc ns Q E nL F pc lv (.int y :: .long x :: st) :=
  fun H locs ls hP hS hl => lv_lushr hC.1 hC.2.1 hd rfl (kk H locs ls hP hS hl)
theorem v_i2l (hC : CX p s m args meth c cc own ret E nL) {x : Int32} (hd : decode cc pc = .ok (.i2l, 1)) (kk : VV p l e R s m args below meth c nc ns Q E nL F (pc + 1) lv (.long x.toInt64 :: st)) : VV p l e R s m args below meth c nc ns Q E nL F pc lv (.int x :: st) :=
  fun H locs ls hP hS hl => lv_i2l hC.1 hC.2.1 hd rfl (kk H locs ls hP hS hl)
theorem v_l2i (hC : CX p s m args meth c cc own ret E nL) {x : Int64} (hd : decode cc pc = .ok (.l2i, 1)) (kk : VV p l e R s m args below meth c nc ns Q E nL F (pc + 1) lv (.int x.toInt32 :: st)) : VV p l e R s m args below meth c nc ns Q E nL F pc lv (.long x :: st) :=
  fun H locs ls hP hS hl => lv_l2i hC.1 hC.2.1 hd rfl (kk H locs ls hP hS hl)
theorem v_i2b (hC : CX p s m args meth c cc own ret E nL) {x : Int32} (hd : decode cc pc = .ok (.i2b, 1)) (kk : VV p l e R s m args below meth c nc ns Q E nL F (pc + 1) lv (.int x.toInt8.toInt32 :: st)) : VV p l e R s m args below meth c nc ns Q E nL F pc lv (.int x :: st) :=
  fun H locs ls hP hS hl => lv_i2b hC.1 hC.2.1 hd rfl (kk H locs ls hP hS hl)
theorem v_i2c (hC : CX p s m args meth c cc own ret E nL) {x : Int32} (hd : decode cc pc = .ok (.i2c, 1)) (kk : VV p l e R s m args below meth c nc ns Q E nL F (pc + 1) lv (.int (x.toUInt32 % 65536).toInt32 :: st)) : VV p l e R s m args below meth c nc ns Q E nL F pc lv (.int x :: st) :=
  fun H locs ls hP hS hl => lv_i2c hC.1 hC.2.1 hd rfl (kk H locs ls hP hS hl)
theorem v_dup (hC : CX p s m args meth c cc own ret E nL) {va : Value} (hd : decode cc pc = .ok (.dup, 1)) (hva : va.category = 1) (kk : VV p l e R s m args below meth c nc ns Q E nL F (pc + 1) lv (va :: va :: st)) : VV p l e R s m args below meth c nc ns Q E nL F pc lv (va :: st) :=
  fun H locs ls hP hS hl => lv_dup hC.1 hC.2.1 hd hva (kk H locs ls hP hS hl)
theorem v_pop (hC : CX p s m args meth c cc own ret E nL) {va : Value} (hd : decode cc pc = .ok (.pop, 1)) (hva : va.category = 1) (kk : VV p l e R s m args below meth c nc ns Q E nL F (pc + 1) lv st) : VV p l e R s m args below meth c nc ns Q E nL F pc lv (va :: st) :=
  fun H locs ls hP hS hl => lv_pop hC.1 hC.2.1 hd hva (kk H locs ls hP hS hl)
theorem v_dup2 (hC : CX p s m args meth c cc own ret E nL) {va vb : Value} (hd : decode cc pc = .ok (.dup2, 1)) (hva : va.category = 1) (hvb : vb.category = 1) (kk : VV p l e R s m args below meth c nc ns Q E nL F (pc + 1) lv (va :: vb :: va :: vb :: st)) : VV p l e R s m args below meth c nc ns Q E nL F pc lv (va :: vb :: st) :=
  fun H locs ls hP hS hl => lv_dup2_11 hC.1 hC.2.1 hd hva hvb (kk H locs ls hP hS hl)
theorem v_goto (hC : CX p s m args meth c cc own ret E nL) {off : Int} {tgt : Nat} (hd : decode cc pc = .ok (.goto off, 3)) (ht : (pc : Int) + off = (tgt : Int)) (kk : VV p l e R s m args below meth c nc ns Q E nL F tgt lv st) : VV p l e R s m args below meth c nc ns Q E nL F pc lv st :=
  fun H locs ls hP hS hl => lv_goto hC.1 hC.2.1 hd ht (kk H locs ls hP hS hl)
theorem v_if_eq (hC : CX p s m args meth c cc own ret E nL) {x : Int32} {off : Int} {tgt : Nat} {A B : Prop} (hd : decode cc pc = .ok (.ifCond .eq off, 3)) (ht : (pc : Int) + off = (tgt : Int)) (h : if x = 0 then A else B) (kt : A → VV p l e R s m args below meth c nc ns Q E nL F tgt lv st) (kf : B → VV p l e R s m args below meth c nc ns Q E nL F (pc + 3) lv st) : VV p l e R s m args below meth c nc ns Q E nL F pc lv (.int x :: st) :=
  fun H locs ls hP hS hl => lv_if_eq hC.1 hC.2.1 hd ht (fun q => kt (by rwa [if_pos q] at h) H locs ls hP hS hl) (fun q => kf (by rwa [if_neg q] at h) H locs ls hP hS hl)
theorem v_if_ne (hC : CX p s m args meth c cc own ret E nL) {x : Int32} {off : Int} {tgt : Nat} {A B : Prop} (hd : decode cc pc = .ok (.ifCond .ne off, 3)) (ht : (pc : Int) + off = (tgt : Int)) (h : if x = 0 then A else B) (kt : B → VV p l e R s m args below meth c nc ns Q E nL F tgt lv st) (kf : A → VV p l e R s m args below meth c nc ns Q E nL F (pc + 3) lv st) : VV p l e R s m args below meth c nc ns Q E nL F pc lv (.int x :: st) :=
  fun H locs ls hP hS hl => lv_if_ne hC.1 hC.2.1 hd ht (fun q => kt (by rwa [if_neg q] at h) H locs ls hP hS hl) (fun q => kf (by rwa [if_pos q] at h) H locs ls hP hS hl)
theorem v_if_lt (hC : CX p s m args meth c cc own ret E nL) {x : Int32} {off : Int} {tgt : Nat} {A B : Prop} (hd : decode cc pc = .ok (.ifCond .lt off, 3)) (ht : (pc : Int) + off = (tgt : Int)) (h : if x < 0 then A else B) (kt : A → VV p l e R s m args below meth c nc ns Q E nL F tgt lv st) (kf : B → VV p l e R s m args below meth c nc ns Q E nL F (pc + 3) lv st) : VV p l e R s m args below meth c nc ns Q E nL F pc lv (.int x :: st) :=
  fun H locs ls hP hS hl => lv_if_lt hC.1 hC.2.1 hd ht (fun q => kt (by rwa [if_pos q] at h) H locs ls hP hS hl) (fun q => kf (by rwa [if_neg q] at h) H locs ls hP hS hl)
theorem v_if_ge (hC : CX p s m args meth c cc own ret E nL) {x : Int32} {off : Int} {tgt : Nat} {A B : Prop} (hd : decode cc pc = .ok (.ifCond .ge off, 3)) (ht : (pc : Int) + off = (tgt : Int)) (h : if 0 ≤ x then A else B) (kt : A → VV p l e R s m args below meth c nc ns Q E nL F tgt lv st) (kf : B → VV p l e R s m args below meth c nc ns Q E nL F (pc + 3) lv st) : VV p l e R s m args below meth c nc ns Q E nL F pc lv (.int x :: st) :=
  fun H locs ls hP hS hl => lv_if_ge hC.1 hC.2.1 hd ht (fun q => kt (by rwa [if_pos q] at h) H locs ls hP hS hl) (fun q => kf (by rwa [if_neg q] at h) H locs ls hP hS hl)
theorem v_if_gt (hC : CX p s m args meth c cc own ret E nL) {x : Int32} {off : Int} {tgt : Nat} {A B : Prop} (hd : decode cc pc = .ok (.ifCond .gt off, 3)) (ht : (pc : Int) + off = (tgt : Int)) (h : if 0 < x then A else B) (kt : A → VV p l e R s m args below meth c nc ns Q E nL F tgt lv st) (kf : B → VV p l e R s m args below meth c nc ns Q E nL F (pc + 3) lv st) : VV p l e R s m args below meth c nc ns Q E nL F pc lv (.int x :: st) :=
  fun H locs ls hP hS hl => lv_if_gt hC.1 hC.2.1 hd ht (fun q => kt (by rwa [if_pos q] at h) H locs ls hP hS hl) (fun q => kf (by rwa [if_neg q] at h) H locs ls hP hS hl)
theorem v_if_le (hC : CX p s m args meth c cc own ret E nL) {x : Int32} {off : Int} {tgt : Nat} {A B : Prop} (hd : decode cc pc = .ok (.ifCond .le off, 3)) (ht : (pc : Int) + off = (tgt : Int)) (h : if x ≤ 0 then A else B) (kt : A → VV p l e R s m args below meth c nc ns Q E nL F tgt lv st) (kf : B → VV p l e R s m args below meth c nc ns Q E nL F (pc + 3) lv st) : VV p l e R s m args below meth c nc ns Q E nL F pc lv (.int x :: st) :=
  fun H locs ls hP hS hl => lv_if_le hC.1 hC.2.1 hd ht (fun q => kt (by rwa [if_pos q] at h) H locs ls hP hS hl) (fun q => kf (by rwa [if_neg q] at h) H locs ls hP hS hl)
theorem v_ic_eq (hC : CX p s m args meth c cc own ret E nL) {x y : Int32} {off : Int} {tgt : Nat} {A B : Prop} (hd : decode cc pc = .ok (.if_icmp .eq off, 3)) (ht : (pc : Int) + off = (tgt : Int)) (h : if x = y then A else B) (kt : A → VV p l e R s m args below meth c nc ns Q E nL F tgt lv st) (kf : B → VV p l e R s m args below meth c nc ns Q E nL F (pc + 3) lv st) : VV p l e R s m args below meth c nc ns Q E nL F pc lv (.int y :: .int x :: st) :=
  fun H locs ls hP hS hl => lv_icmp_eq hC.1 hC.2.1 hd ht (fun q => kt (by rwa [if_pos q] at h) H locs ls hP hS hl) (fun q => kf (by rwa [if_neg q] at h) H locs ls hP hS hl)
theorem v_ic_ne (hC : CX p s m args meth c cc own ret E nL) {x y : Int32} {off : Int} {tgt : Nat} {A B : Prop} (hd : decode cc pc = .ok (.if_icmp .ne off, 3)) (ht : (pc : Int) + off = (tgt : Int)) (h : if x = y then A else B) (kt : B → VV p l e R s m args below meth c nc ns Q E nL F tgt lv st) (kf : A → VV p l e R s m args below meth c nc ns Q E nL F (pc + 3) lv st) : VV p l e R s m args below meth c nc ns Q E nL F pc lv (.int y :: .int x :: st) :=
  fun H locs ls hP hS hl => lv_icmp_ne hC.1 hC.2.1 hd ht (fun q => kt (by rwa [if_neg q] at h) H locs ls hP hS hl) (fun q => kf (by rwa [if_pos q] at h) H locs ls hP hS hl)
theorem v_ic_lt (hC : CX p s m args meth c cc own ret E nL) {x y : Int32} {off : Int} {tgt : Nat} {A B : Prop} (hd : decode cc pc = .ok (.if_icmp .lt off, 3)) (ht : (pc : Int) + off = (tgt : Int)) (h : if x < y then A else B) (kt : A → VV p l e R s m args below meth c nc ns Q E nL F tgt lv st) (kf : B → VV p l e R s m args below meth c nc ns Q E nL F (pc + 3) lv st) : VV p l e R s m args below meth c nc ns Q E nL F pc lv (.int y :: .int x :: st) :=
  fun H locs ls hP hS hl => lv_icmp_lt hC.1 hC.2.1 hd ht (fun q => kt (by rwa [if_pos q] at h) H locs ls hP hS hl) (fun q => kf (by rwa [if_neg q] at h) H locs ls hP hS hl)
theorem v_ic_ge (hC : CX p s m args meth c cc own ret E nL) {x y : Int32} {off : Int} {tgt : Nat} {A B : Prop} (hd : decode cc pc = .ok (.if_icmp .ge off, 3)) (ht : (pc : Int) + off = (tgt : Int)) (h : if y ≤ x then A else B) (kt : A → VV p l e R s m args below meth c nc ns Q E nL F tgt lv st) (kf : B → VV p l e R s m args below meth c nc ns Q E nL F (pc + 3) lv st) : VV p l e R s m args below meth c nc ns Q E nL F pc lv (.int y :: .int x :: st) :=
  fun H locs ls hP hS hl => lv_icmp_ge hC.1 hC.2.1 hd ht (fun q => kt (by rwa [if_pos q] at h) H locs ls hP hS hl) (fun q => kf (by rwa [if_neg q] at h) H locs ls hP hS hl)
theorem v_ic_gt (hC : CX p s m args meth c cc own ret E nL) {x y : Int32} {off : Int} {tgt : Nat} {A B : Prop} (hd : decode cc pc = .ok (.if_icmp .gt off, 3)) (ht : (pc : Int) + off = (tgt : Int)) (h : if y < x then A else B) (kt : A → VV p l e R s m args below meth c nc ns Q E nL F tgt lv st) (kf : B → VV p l e R s m args below meth c nc ns Q E nL F (pc + 3) lv st) : VV p l e R s m args below meth c nc ns Q E nL F pc lv (.int y :: .int x :: st) :=
  fun H locs ls hP hS hl => lv_icmp_gt hC.1 hC.2.1 hd ht (fun q => kt (by rwa [if_pos q] at h) H locs ls hP hS hl) (fun q => kf (by rwa [if_neg q] at h) H locs ls hP hS hl)
theorem v_ic_le (hC : CX p s m args meth c cc own ret E nL) {x y : Int32} {off : Int} {tgt : Nat} {A B : Prop} (hd : decode cc pc = .ok (.if_icmp .le off, 3)) (ht : (pc : Int) + off = (tgt : Int)) (h : if x ≤ y then A else B) (kt : A → VV p l e R s m args below meth c nc ns Q E nL F tgt lv st) (kf : B → VV p l e R s m args below meth c nc ns Q E nL F (pc + 3) lv st) : VV p l e R s m args below meth c nc ns Q E nL F pc lv (.int y :: .int x :: st) :=
  fun H locs ls hP hS hl => lv_icmp_le hC.1 hC.2.1 hd ht (fun q => kt (by rwa [if_pos q] at h) H locs ls hP hS hl) (fun q => kf (by rwa [if_neg q] at h) H locs ls hP hS hl)
end VR
end
section
/-! fields: a link of a class' pool, the field's class by its number, the field by its place -/
def FL (own : String) (idx ci j : Nat) : Prop := ∃ (C : String) (T : u_T) (N : Nat), vwCl[ci]? = some (C, T, N) ∧ j < N ∧ (∀ w ∈ u_ws C T N, w ∈ tblG) ∧ Cond.fieldLink own idx (T j).1 (T j).2.1 (T j).2.2.1 ∈ tblG ∧ ci < 99
def FP (own : String) (idx ci j : Nat) (ty : FieldType) : Prop := ∃ (C : String) (T : u_T) (N : Nat) (ty0 : Nat → FieldType), vwCl[ci]? = some (C, T, N) ∧ j < N ∧ (∀ w ∈ u_ws C T N, w ∈ tblG) ∧ Cond.fieldLink own idx (T j).1 (T j).2.1 (T j).2.2.1 ∈ tblG ∧ ci < 99 ∧
  (∀ k, k < N → parseFieldDescriptor (T k).2.2.1 = some (ty0 k)) ∧ (∀ a, a < N → ∀ b, b < N → a ≠ b → (T a).2.1 ≠ (T b).2.1) ∧ (T j).2.2.2 = false ∧ parseFieldDescriptor (T j).2.2.1 = some ty
/-- an instance method: its words -/
def MV (y : MethodName) (bytes : ByteArray) (maxL : Nat) (ret : Option FieldType) (n : Nat) : Prop :=
  Cond.instanceMethod y ∈ tblG ∧ Cond.selects y.cls y y ∈ tblG ∧ Cond.initialized y.cls ∈ tblG ∧ Cond.code y bytes maxL ret ∈ tblG ∧
  (y.cls ≠ "java/lang/invoke/MethodHandle" ∧ y.cls ≠ "java/lang/invoke/VarHandle" ∧ (parseMethodDescriptor y.desc).map (fun d => d.parameters.length) = some n)
def MSt (y : MethodName) (bytes : ByteArray) (maxL : Nat) (ret : Option FieldType) (n : Nat) : Prop :=
  Cond.static y ∈ tblG ∧ Cond.initialized y.cls ∈ tblG ∧ Cond.code y bytes maxL ret ∈ tblG ∧
  (y.cls ≠ "java/lang/invoke/MethodHandle" ∧ y.cls ≠ "java/lang/invoke/VarHandle" ∧ (parseMethodDescriptor y.desc).map (fun d => d.parameters.length) = some n)
abbrev wsG (y : MethodName) (bytes : ByteArray) (maxL : Nat) (ret : Option FieldType) : List Cond := Cond.code y bytes maxL ret :: tblG
theorem wsG_in {y : MethodName} {bytes : ByteArray} {maxL : Nat} {ret : Option FieldType} (h : Cond.code y bytes maxL ret ∈ tblG) : ∀ w ∈ wsG y bytes maxL ret, w ∈ tblG := fun w hw => by
  rcases List.mem_cons.mp hw with rfl | q
  · exact h
  · exact q
/-- contracts: an int, a long, nothing, the reference to a known cell -/
abbrev CtI (l : Launch) (E : gE) (y : MethodName) (bytes : ByteArray) (maxL : Nat) (ret : Option FieldType) (rm : Room) (av : List Value) (F : gS) (post : Int32 → gS → Prop) : Prop :=
  Met l y (wsG y bytes maxL ret) rm (va_Pc av (gP E F)) (va_Qi post (gB E) (gA E)) 0 0 (gA E)
abbrev CtL (l : Launch) (E : gE) (y : MethodName) (bytes : ByteArray) (maxL : Nat) (ret : Option FieldType) (rm : Room) (av : List Value) (F : gS) (post : Int64 → gS → Prop) : Prop :=
  Met l y (wsG y bytes maxL ret) rm (va_Pc av (gP E F)) (va_Ql post (gB E) (gA E)) 0 0 (gA E)
abbrev CtV (l : Launch) (E : gE) (y : MethodName) (bytes : ByteArray) (maxL : Nat) (ret : Option FieldType) (rm : Room) (av : List Value) (F : gS) (post : gS → Prop) : Prop :=
  Met l y (wsG y bytes maxL ret) rm (va_Pc av (gP E F)) (va_Qv post (gB E) (gA E)) 0 0 (gA E)
abbrev CtR (l : Launch) (E : gE) (y : MethodName) (bytes : ByteArray) (maxL : Nat) (ret : Option FieldType) (rm : Room) (av : List Value) (F : gS) (k : Nat) (post : gS → Prop) : Prop :=
  Met l y (wsG y bytes maxL ret) rm (va_Pc av (gP E F)) (va_Qr post (fun G r t => r = ad E k ∧ gB E G t) (gA E)) 0 0 (gA E)
/-- a method's walk, from its entry -/
theorem ct_of {l : Launch} {E : gE} {y : MethodName} {bytes : ByteArray} {maxL : Nat} {ret : Option FieldType} {rm : Room} {av : List Value} {F : gS} {Qc : Array Value → State → Outcome → State → Prop}
    (hy : plainName y.cls = true) (hn : (lg_sl av).length ≤ maxL)
    (body : ∀ (p : Program) (e : Env) (s : State) (m : MethodId) (below : List Frame) (meth : Method) (c : Code), CX p s m av.toArray meth c bytes y.cls ret E maxL →
      VV p l e rm s m av.toArray below meth c 0 0 (MQ below Qc av.toArray s 0 0 (gA E)) E maxL F 0 (lv_args 0 av) []) :
    Met l y (wsG y bytes maxL ret) rm (va_Pc av (gP E F)) Qc 0 0 (gA E) := by
  refine Met.ofW (cc := bytes) (maxL := maxL) (ret := ret) hy rfl ?_
  intro p e s m args below meth c s₁ B hml hv
  obtain ⟨rfl, hP, hG⟩ := hv
  have hts := atoms_spec (ws := wsG y bytes maxL ret) B.pre
  have hown : s.vm.findClass y.cls = some m.cls := findClass_of_methodNamed B.named
  have hC : CX p s m av.toArray meth c bytes y.cls ret E maxL := ⟨B.exec, B.bytes, hml, hown, fun w hw => hts w (List.mem_cons_of_mem _ hw), hG, B.returns, B.notSynchronized⟩
  have hl := lv_entry av (n := maxL) hn
  rw [lg_entry_eq]
  exact body p e s m below meth c hC s.heap [] _ hP va_S.rf hl
section VR2
variable {p : Program} {l : Launch} {e : Env} {R : Room} {s : State} {m : MethodId} {args : Array Value} {below : List Frame} {meth : Method} {c : Code} {nc ns : Nat} {Q : State → Prop} {E : gE} {nL : Nat} {F : gS} {pc : Nat} {lv : List (Nat × Value)} {st : List Value}
variable {cc : ByteArray} {own : String} {ret : Option FieldType}
theorem v_get (hC : CX p s m args meth c cc own ret E nL) {k ci j idx : Nat} {v : Value} (hf : FL own idx ci j) (hk : kd k = ci) (hv : (flds E ci k (F k))[j]? = some v) (hd : decode cc pc = .ok (.getfield idx, 3)) (kk : VV p l e R s m args below meth c nc ns Q E nL F (pc + 3) lv (v :: st)) : VV p l e R s m args below meth c nc ns Q E nL F pc lv (.ref (ad E k) :: st) := by
  intro H locs ls hP hS hl
  obtain ⟨C, T, N, h1, h2, h3, h4, h5⟩ := hf
  have hk2 := kd_lt hk (by omega)
  have hw := gws_at E F hk2
  rw [hk, cE_o E k (F k) (by omega)] at hw
  exact va_get hC.1 hC.2.1 hC.2.2.2.2.1 h3 hC.2.2.2.1 hC.2.2.2.2.2.1.1 hP k hw h1 j h2 (hC.2.2.2.2.1 _ h4) (fun _ h => h) hv hd (kk H locs ls hP hS hl)
theorem v_put (hC : CX p s m args meth c cc own ret E nL) {k ci j idx : Nat} {v : Value} {ty : FieldType} {f' : Nat → Int32} (hf : FP own idx ci j ty) (hk : kd k = ci) (hset : (flds E ci k (F k)).set j v = flds E ci k f') (hl0 : j < (flds E ci k (F k)).length) (hn : narrow ty v = v) (hfit : fits ty v = true) (hd : decode cc pc = .ok (.putfield idx, 3)) (kk : VV p l e R s m args below meth c nc ns Q E nL (upR F k f') (pc + 3) lv st) : VV p l e R s m args below meth c nc ns Q E nL F pc lv (v :: .ref (ad E k) :: st) := by
  intro H locs ls hP hS hl
  obtain ⟨C, T, N, ty0, h1, h2, h3, h4, h5, h6, h7, h8, h9⟩ := hf
  have hk2 := kd_lt hk (by omega)
  have hw := gws_at E F hk2
  rw [hk, cE_o E k (F k) (by omega)] at hw
  refine va_put hC.1 hC.2.1 hC.2.2.2.2.1 h3 ty0 h6 h7 hC.2.2.2.1 hC.2.2.2.2.2.1.1 hP (gD hC.2.2.2.2.2.1 F) hS k hw h1 j h2 (hC.2.2.2.2.1 _ h4) (fun _ h => h) h8 h9 hn hfit hl0 hd (fun H1 locs1 hP1 _ hS1 => kk H1 locs1 ls ?_ hS1 hl)
  rw [hset] at hP1
  have e := gws_set E F (k := k) f'
  rw [hk, cE_o E k f' (by omega)] at e
  rw [← e]
  exact hP1
theorem v_puti (hC : CX p s m args meth c cc own ret E nL) {k ci j idx : Nat} {v : Int32} {P : gS → Prop} (hf : FP own idx ci j .int) (hk : kd k = ci) (hset : (flds E ci k (F k)).set j (.int v) = flds E ci k (upd (F k) j v)) (hl0 : j < (flds E ci k (F k)).length) (hd : decode cc pc = .ok (.putfield idx, 3)) (h : Nm (upF F k j v) P) (kk : ∀ G, P G → VV p l e R s m args below meth c nc ns Q E nL G (pc + 3) lv st) : VV p l e R s m args below meth c nc ns Q E nL F pc lv (.int v :: .ref (ad E k) :: st) :=
  v_put hC hf hk hset hl0 rfl rfl hd (kk _ h)
theorem zb_n {v : Int32} (h : v = 0 ∨ v = 1) : narrow .boolean (.int v) = .int v ∧ fits .boolean (.int v) = true := by
  rcases h with rfl | rfl <;> decide +kernel
theorem v_putz (hC : CX p s m args meth c cc own ret E nL) {k ci j idx : Nat} {v : Int32} {P : gS → Prop} (hf : FP own idx ci j .boolean) (hk : kd k = ci) (hset : (flds E ci k (F k)).set j (.int v) = flds E ci k (upd (F k) j v)) (hl0 : j < (flds E ci k (F k)).length) (hd : decode cc pc = .ok (.putfield idx, 3)) (hv : v = 0 ∨ v = 1) (h : Nm (upF F k j v) P) (kk : ∀ G, P G → VV p l e R s m args below meth c nc ns Q E nL G (pc + 3) lv st) : VV p l e R s m args below meth c nc ns Q E nL F pc lv (.int v :: .ref (ad E k) :: st) :=
  v_put hC hf hk hset hl0 (zb_n hv).1 (zb_n hv).2 hd (kk _ h)
def upL (F : gS) (k j j2 : Nat) (v : Int64) : gS := fun q => if q = k then upd (upd (F k) j (gHi v)) j2 (gLo v) else F q
theorem v_putl (hC : CX p s m args meth c cc own ret E nL) {k ci j j2 idx : Nat} {v : Int64} {P : gS → Prop} (hf : FP own idx ci j .long) (hk : kd k = ci) (hset : (flds E ci k (F k)).set j (.long v) = flds E ci k (upd (upd (F k) j (gHi v)) j2 (gLo v))) (hl0 : j < (flds E ci k (F k)).length) (hd : decode cc pc = .ok (.putfield idx, 3)) (h : Nm (upL F k j j2 v) P) (kk : ∀ G, P G → VV p l e R s m args below meth c nc ns Q E nL G (pc + 3) lv st) : VV p l e R s m args below meth c nc ns Q E nL F pc lv (.long v :: .ref (ad E k) :: st) :=
  v_put hC hf hk hset hl0 rfl rfl hd (kk _ h)
/-! arrays -/
theorem w_i {E : gE} {F : gS} {k n : Nat} (hk : kd k = 1000 + n) (hn : n < 1000) : (gws E F)[k]? = some (ad E k, .inl (E.2.1 0, n, .inl (F k))) := by
  rw [gws_at E F (kd_lt hk (by omega)), hk, cE_i E n k (F k) hn]
theorem w_z {E : gE} {F : gS} {k n : Nat} (hk : kd k = 2000 + n) (hn : n < 1000) : (gws E F)[k]? = some (ad E k, .inl (E.2.1 1, n, .inl (F k))) := by
  rw [gws_at E F (kd_lt hk (by omega)), hk, cE_z E n k (F k) hn]
theorem w_b {E : gE} {F : gS} {k n : Nat} (hk : kd k = 3000 + n) (hn : n < 1000) : (gws E F)[k]? = some (ad E k, .inl (E.2.1 2, n, .inl (F k))) := by
  rw [gws_at E F (kd_lt hk (by omega)), hk, cE_b E n k (F k) hn]
theorem v_iald (hC : CX p s m args meth c cc own ret E nL) {k n : Nat} {i : Int32} {P : Prop} (hk : kd k = 1000 + n) (hn : n < 1000) (hd : decode cc pc = .ok (.iaload, 1)) (h : vp_in i n ∧ P) (kk : P → VV p l e R s m args below meth c nc ns Q E nL F (pc + 1) lv (.int (F k i.toNatClampNeg) :: st)) : VV p l e R s m args below meth c nc ns Q E nL F pc lv (.int i :: .ref (ad E k) :: st) :=
  fun H locs ls hP hS hl => va_iald hC.1 hC.2.1 hC.2.2.2.2.2.1.1 hP k 0 (w_i hk hn) rfl h.1 hd (kk h.2 H locs ls hP hS hl)
theorem v_zald (hC : CX p s m args meth c cc own ret E nL) {k n : Nat} {i : Int32} {P : Prop} (hk : kd k = 2000 + n) (hn : n < 1000) (hd : decode cc pc = .ok (.baload, 1)) (h : vp_in i n ∧ P) (kk : P → VV p l e R s m args below meth c nc ns Q E nL F (pc + 1) lv (.int (F k i.toNatClampNeg) :: st)) : VV p l e R s m args below meth c nc ns Q E nL F pc lv (.int i :: .ref (ad E k) :: st) :=
  fun H locs ls hP hS hl => va_zald hC.1 hC.2.1 hC.2.2.2.2.2.1.1 hP k 1 (w_z hk hn) rfl h.1 hd (kk h.2 H locs ls hP hS hl)
theorem v_bald (hC : CX p s m args meth c cc own ret E nL) {k n : Nat} {i : Int32} {P : Prop} (hk : kd k = 3000 + n) (hn : n < 1000) (hd : decode cc pc = .ok (.baload, 1)) (h : vp_in i n ∧ P) (kk : P → VV p l e R s m args below meth c nc ns Q E nL F (pc + 1) lv (.int (F k i.toNatClampNeg) :: st)) : VV p l e R s m args below meth c nc ns Q E nL F pc lv (.int i :: .ref (ad E k) :: st) :=
  fun H locs ls hP hS hl => va_bald hC.1 hC.2.1 hC.2.2.2.2.2.1.1 hP k 2 (w_b hk hn) rfl h.1 hd (kk h.2 H locs ls hP hS hl)
theorem v_alen (hC : CX p s m args meth c cc own ret E nL) {k n : Nat} {v : Int32} (hk : kd k = 1000 + n) (hn : n < 1000) (hv : Int32.ofNat n = v) (hd : decode cc pc = .ok (.arraylength, 1)) (kk : VV p l e R s m args below meth c nc ns Q E nL F (pc + 1) lv (.int v :: st)) : VV p l e R s m args below meth c nc ns Q E nL F pc lv (.ref (ad E k) :: st) :=
  fun H locs ls hP hS hl => va_alen hC.1 hC.2.1 hC.2.2.2.2.2.1.1 hP k 0 (w_i hk hn) rfl hv hd (kk H locs ls hP hS hl)
theorem v_iast (hC : CX p s m args meth c cc own ret E nL) {k n : Nat} {i x : Int32} {P : gS → Prop} (hk : kd k = 1000 + n) (hn : n < 1000) (hd : decode cc pc = .ok (.iastore, 1)) (h : vp_in i n ∧ Nm (upF F k i.toNatClampNeg x) P) (kk : ∀ G, P G → VV p l e R s m args below meth c nc ns Q E nL G (pc + 1) lv st) : VV p l e R s m args below meth c nc ns Q E nL F pc lv (.int x :: .int i :: .ref (ad E k) :: st) := by
  intro H locs ls hP hS hl
  refine va_iast hC.1 hC.2.1 hC.2.2.2.2.2.1.1 hP (gD hC.2.2.2.2.2.1 F) hS k 0 (w_i hk hn) rfl h.1 hd (fun H1 locs1 hP1 _ hS1 => kk _ h.2 H1 locs1 ls ?_ hS1 hl)
  have e := gws_set E F (k := k) (upd (F k) i.toNatClampNeg x)
  rw [hk, cE_i E n k _ hn] at e
  rw [e] at hP1
  exact hP1
theorem v_zast (hC : CX p s m args meth c cc own ret E nL) {k n : Nat} {i x : Int32} {P : gS → Prop} (hk : kd k = 2000 + n) (hn : n < 1000) (hd : decode cc pc = .ok (.bastore, 1)) (h : vp_in i n ∧ Nm (upF F k i.toNatClampNeg (vp_nar .boolean x)) P) (kk : ∀ G, P G → VV p l e R s m args below meth c nc ns Q E nL G (pc + 1) lv st) : VV p l e R s m args below meth c nc ns Q E nL F pc lv (.int x :: .int i :: .ref (ad E k) :: st) := by
  intro H locs ls hP hS hl
  refine va_zast hC.1 hC.2.1 hC.2.2.2.2.2.1.1 hP (gD hC.2.2.2.2.2.1 F) hS k 1 (w_z hk hn) rfl h.1 hd (fun H1 locs1 hP1 _ hS1 => kk _ h.2 H1 locs1 ls ?_ hS1 hl)
  have e := gws_set E F (k := k) (upd (F k) i.toNatClampNeg (vp_nar .boolean x))
  rw [hk, cE_z E n k _ hn] at e
  rw [e] at hP1
  exact hP1
theorem v_bast (hC : CX p s m args meth c cc own ret E nL) {k n : Nat} {i x : Int32} {P : gS → Prop} (hk : kd k = 3000 + n) (hn : n < 1000) (hd : decode cc pc = .ok (.bastore, 1)) (h : vp_in i n ∧ Nm (upF F k i.toNatClampNeg (vp_nar .byte x)) P) (kk : ∀ G, P G → VV p l e R s m args below meth c nc ns Q E nL G (pc + 1) lv st) : VV p l e R s m args below meth c nc ns Q E nL F pc lv (.int x :: .int i :: .ref (ad E k) :: st) := by
  intro H locs ls hP hS hl
  refine va_bast hC.1 hC.2.1 hC.2.2.2.2.2.1.1 hP (gD hC.2.2.2.2.2.1 F) hS k 2 (w_b hk hn) rfl h.1 hd (fun H1 locs1 hP1 _ hS1 => kk _ h.2 H1 locs1 ls ?_ hS1 hl)
  have e := gws_set E F (k := k) (upd (F k) i.toNatClampNeg (vp_nar .byte x))
  rw [hk, cE_b E n k _ hn] at e
  rw [e] at hP1
  exact hP1
theorem v_aaldP (hC : CX p s m args meth c cc own ret E nL) {i : Int32} {P : Prop} (hd : decode cc pc = .ok (.aaload, 1)) (h : vp_in i 6 ∧ P) (kk : P → VV p l e R s m args below meth c nc ns Q E nL F (pc + 1) lv (.ref (ad E (37 + 2 * i.toNatClampNeg)) :: st)) : VV p l e R s m args below meth c nc ns Q E nL F pc lv (.int i :: .ref (ad E 32) :: st) :=
  fun H locs ls hP hS hl => va_aldq (n := 6) hC.1 hC.2.1 hC.2.2.2.2.2.1.1 hP 32 3 (gws_at E F (by decide)) rfl h.1 hd (kk h.2 H locs ls hP hS hl)
theorem v_aaldC (hC : CX p s m args meth c cc own ret E nL) {i : Int32} {P : Prop} (hd : decode cc pc = .ok (.aaload, 1)) (h : vp_in i 24 ∧ P) (kk : P → VV p l e R s m args below meth c nc ns Q E nL F (pc + 1) lv (.ref (ad E (49 + 3 * i.toNatClampNeg)) :: st)) : VV p l e R s m args below meth c nc ns Q E nL F pc lv (.int i :: .ref (ad E 33) :: st) :=
  fun H locs ls hP hS hl => va_aldq (n := 24) hC.1 hC.2.1 hC.2.2.2.2.2.1.1 hP 33 4 (gws_at E F (by decide)) rfl h.1 hd (kk h.2 H locs ls hP hS hl)
/-! statics -/
theorem v_gets (hC : CX p s m args meth c cc own ret E nL) {idx : Nat} {C n d : String} {v : Value} (hZ : va_Z C n d v (gA E) s s.heap) (hw : Cond.fieldLink own idx C n d ∈ tblG) (hd : decode cc pc = .ok (.getstatic idx, 3)) (kk : VV p l e R s m args below meth c nc ns Q E nL F (pc + 3) lv (v :: st)) : VV p l e R s m args below meth c nc ns Q E nL F pc lv st :=
  fun H locs ls hP hS hl => va_gets hC.1 hC.2.1 hZ hS hC.2.2.2.1 (hC.2.2.2.2.1 _ hw) (fun _ h => h) hd (kk H locs ls hP hS hl)
theorem v_getsN (hC : CX p s m args meth c cc own ret E nL) {idx : Nat} {C n d host : String} {v : Value} (hZ : va_Z C n d v (gA E) s s.heap) (hw : Cond.fieldLinkNest own idx C n d host ∈ lw_tbl) (hd : decode cc pc = .ok (.getstatic idx, 3)) (kk : VV p l e R s m args below meth c nc ns Q E nL F (pc + 3) lv (v :: st)) : VV p l e R s m args below meth c nc ns Q E nL F pc lv st :=
  fun H locs ls hP hS hl => va_getsN hC.1 hC.2.1 hZ hS hC.2.2.2.1 ((hC.2.2.2.2.2.1.2.2.2.2.1 _ hw rfl).use rfl) (fun _ h => h) hd (kk H locs ls hP hS hl)
theorem v_tald (hC : CX p s m args meth c cc own ret E nL) {t N : Nat} {f : Nat → Int32} {i : Int32} {P : Prop} (hT : va_T .int t N (fun j => .int (f j)) (gA E) s s.heap) (hd : decode cc pc = .ok (.iaload, 1)) (h : vp_in i N ∧ P) (kk : P → VV p l e R s m args below meth c nc ns Q E nL F (pc + 1) lv (.int (f i.toNatClampNeg) :: st)) : VV p l e R s m args below meth c nc ns Q E nL F pc lv (.int i :: .ref t :: st) :=
  fun H locs ls hP hS hl => va_ti hC.1 hC.2.1 hT hS h.1 rfl hd (kk h.2 H locs ls hP hS hl)
/-! ends -/
theorem v_iret {post : Int32 → gS → Prop} {v : Int32} (hC : CX p s m args meth c cc own (some .int) E nL) (hd : decode cc pc = .ok (.ireturn, 1)) (h : post v F) : VV p l e R s m args below meth c nc ns (MQ below (va_Qi post (gB E) (gA E)) args s nc ns (gA E)) E nL F pc lv [.int v] :=
  fun H locs ls hP hS hl => W.iret hC.1 hC.2.1 hC.2.2.2.2.2.2.1 (fun t ht hW => ⟨⟨v, F, rfl, h, by show va_P _ _ _ t.heap; rw [ht]; exact hP⟩, hS.F ht⟩) hS.2.2 hd hC.2.2.2.2.2.2.2
theorem v_zret {post : Int32 → gS → Prop} {v : Int32} (hC : CX p s m args meth c cc own (some .boolean) E nL) (hd : decode cc pc = .ok (.ireturn, 1)) (hv : v = 0 ∨ v = 1) (h : post v F) : VV p l e R s m args below meth c nc ns (MQ below (va_Qi post (gB E) (gA E)) args s nc ns (gA E)) E nL F pc lv [.int v] :=
  fun H locs ls hP hS hl => W.zret hC.1 hC.2.1 hC.2.2.2.2.2.2.1 (zb_n hv).1 (fun t ht hW => ⟨⟨v, F, rfl, h, by show va_P _ _ _ t.heap; rw [ht]; exact hP⟩, hS.F ht⟩) hS.2.2 hd hC.2.2.2.2.2.2.2
theorem v_nret {ty : FieldType} {post : Int32 → gS → Prop} {v : Int32} (hC : CX p s m args meth c cc own (some ty) E nL) (hd : decode cc pc = .ok (.ireturn, 1)) (hv : narrow ty (.int v) = .int v) (h : post v F) : VV p l e R s m args below meth c nc ns (MQ below (va_Qi post (gB E) (gA E)) args s nc ns (gA E)) E nL F pc lv [.int v] :=
  fun H locs ls hP hS hl => W.zret hC.1 hC.2.1 hC.2.2.2.2.2.2.1 hv (fun t ht hW => ⟨⟨v, F, rfl, h, by show va_P _ _ _ t.heap; rw [ht]; exact hP⟩, hS.F ht⟩) hS.2.2 hd hC.2.2.2.2.2.2.2
theorem v_lret {post : Int64 → gS → Prop} {v : Int64} (hC : CX p s m args meth c cc own (some .long) E nL) (hd : decode cc pc = .ok (.lreturn, 1)) (h : post v F) : VV p l e R s m args below meth c nc ns (MQ below (va_Ql post (gB E) (gA E)) args s nc ns (gA E)) E nL F pc lv [.long v] :=
  fun H locs ls hP hS hl => W.lret hC.1 hC.2.1 hC.2.2.2.2.2.2.1 (fun t ht hW => ⟨⟨v, F, rfl, h, by show va_P _ _ _ t.heap; rw [ht]; exact hP⟩, hS.F ht⟩) hS.2.2 hd hC.2.2.2.2.2.2.2
theorem v_vret {post : gS → Prop} (hC : CX p s m args meth c cc own none E nL) (hd : decode cc pc = .ok (.return_, 1)) (h : post F) : VV p l e R s m args below meth c nc ns (MQ below (va_Qv post (gB E) (gA E)) args s nc ns (gA E)) E nL F pc lv [] :=
  fun H locs ls hP hS hl => W.vret hC.1 hC.2.1 hC.2.2.2.2.2.2.1 (fun t ht hW => ⟨⟨F, rfl, h, by show va_P _ _ _ t.heap; rw [ht]; exact hP⟩, hS.F ht⟩) hS.2.2 hd hC.2.2.2.2.2.2.2
theorem v_aret {post : gS → Prop} {k : Nat} {C : String} (hC : CX p s m args meth c cc own (some (.object C)) E nL) (hd : decode cc pc = .ok (.areturn, 1)) (h : post F) : VV p l e R s m args below meth c nc ns (MQ below (va_Qr post (fun G r t => r = ad E k ∧ gB E G t) (gA E)) args s nc ns (gA E)) E nL F pc lv [.ref (ad E k)] :=
  fun H locs ls hP hS hl => W.aret hC.1 hC.2.1 hC.2.2.2.2.2.2.1 (Or.inl ⟨_, rfl⟩) (Or.inr ⟨_, rfl⟩) (fun t ht hW => ⟨⟨F, ad E k, rfl, h, rfl, by show va_P _ _ _ t.heap; rw [ht]; exact hP⟩, hS.F ht⟩) hS.2.2 hd hC.2.2.2.2.2.2.2
/-! calls -/
theorem g_recv (hC : CX p s m args meth c cc own ret E nL) {k ci : Nat} {C : String} {T : u_T} {N : Nat} {H : Heap} (hP : va_P E.1 vwCl (gws E F) H) (hk : kd k = ci) (hci : vwCl[ci]? = some (C, T, N)) (h99 : ci < 99) : ∃ cell : Cell, H[ad E k]? = some cell ∧ cell.vm.isStatics = false ∧ s.vm.findClass C = some cell.cls := by
  have hw := gws_at E F (kd_lt hk (by omega))
  rw [hk, cE_o E k (F k) (by omega)] at hw
  exact va_recv hC.2.2.2.2.2.1.1 hP hci hw
theorem g_preV (hC : CX p s m args meth c cc own ret E nL) {k ci : Nat} {C : String} {T : u_T} {N : Nat} {H : Heap} {locs : List Loc} {As : List Value} (hP : va_P E.1 vwCl (gws E F) H) (hS : va_S (gA E) s.heap H locs) (hk : kd k = ci) (hci : vwCl[ci]? = some (C, T, N)) (h99 : ci < 99) : PreV s H C (ad E k) (va_Pc (.ref (ad E k) :: As) (gP E F)) As :=
  ⟨gP_blind E F _, g_recv hC hP hk hci h99, fun U hU hW => ⟨rfl, by show va_P _ _ _ U.heap; rw [hU]; exact hP, hC.2.2.2.2.2.1.call hS hU hW⟩⟩
theorem g_preS (hC : CX p s m args meth c cc own ret E nL) {H : Heap} {locs : List Loc} {As : List Value} (hP : va_P E.1 vwCl (gws E F) H) (hS : va_S (gA E) s.heap H locs) : PreS s H (va_Pc As (gP E F)) As :=
  ⟨gP_blind E F _, fun U hU hW => ⟨rfl, by show va_P _ _ _ U.heap; rw [hU]; exact hP, hC.2.2.2.2.2.1.call hS hU hW⟩⟩
/-- a call is set up: virtual; static; of a nest mate; of an abstract name -/
abbrev RunOf (p : Program) (l : Launch) (e : Env) (R : Room) (s : State) (m : MethodId) (args : Array Value) (below : List Frame) (meth : Method) (c : Code) (nc ns : Nat) (E : gE) (nL : Nat) (F : gS) (pc : Nat) (lv : List (Nat × Value)) (st rest : List Value) (Qa : State → Outcome → State → Prop) : Prop :=
  ∀ (H : Heap) (locs : List Loc) (ls : Array Slot), va_P E.1 vwCl (gws E F) H → va_S (gA E) s.heap H locs → lv_has ls nL lv → va_Run p l e R s m args below meth c H locs nc ns 0 0 (F0 m pc ls st) rest Qa (gA E)
theorem r_V (hC : CX p s m args meth c cc own ret E nL) {k ci idx maxL n : Nat} {y : MethodName} {bytes : ByteArray} {ret' : Option FieldType} {rm : Room} {As rest : List Value} {Qc : Array Value → State → Outcome → State → Prop} {T : u_T} {N : Nat}
    (hl : Cond.methodLink own idx y ∈ tblG) (hm : MV y bytes maxL ret' n) (hM : Met l y (wsG y bytes maxL ret') rm (va_Pc (.ref (ad E k) :: As) (gP E F)) Qc 0 0 (gA E)) (hrm : rm.cells = 0 ∧ rm.slots = 0) (hR : rm.frames + 1 ≤ R.frames ∧ 8 + (maxL + 11) + rm.locals ≤ R.locals) (hk : kd k = ci) (hci : vwCl[ci]? = some (y.cls, T, N)) (h99 : ci < 99) (hn : As.length = n) (hst : st = As.reverse ++ .ref (ad E k) :: rest) (hW : (rest.map fun v => v.category).sum ≤ 8) (hnc : nc ≤ R.cells ∧ ns ≤ R.slots) (hd : decode cc pc = .ok (.invokevirtual idx, 3)) :
    RunOf p l e R s m args below meth c nc ns E nL F pc lv st rest (Qc (Value.ref (ad E k) :: As).toArray) := by
  intro H locs ls hP hS hls
  obtain ⟨m1, m2, m3, m4, m5⟩ := hm
  have hG : GoodIn tblG (wsV own idx y.cls y (wsG y bytes maxL ret')) := tg_in (fun w hw => by
    rcases List.mem_append.mp hw with q | q
    · simp only [List.mem_cons, List.not_mem_nil, or_false] at q
      rcases q with rfl | rfl | rfl | rfl <;> assumption
    · exact wsG_in m4 w q)
  exact va_runV ⟨hC.1, hC.2.1, hC.2.2.1, hC.2.2.2.1, hC.2.2.2.2.1⟩ hM (cwV n hC.2.2.2.2.1 hG rfl hrm.1 hrm.2 ⟨rfl, m5⟩ hR) (g_preV hC hP hS hk hci h99) rfl hn hls.1 (by subst hst; rfl) (lv_room hW) hd ⟨hnc.1, hnc.2⟩
theorem r_S (hC : CX p s m args meth c cc own ret E nL) {idx maxL n : Nat} {y : MethodName} {bytes : ByteArray} {ret' : Option FieldType} {rm : Room} {As rest : List Value} {Qc : Array Value → State → Outcome → State → Prop}
    (hl : Cond.methodLink own idx y ∈ tblG) (hm : MSt y bytes maxL ret' n) (hM : Met l y (wsG y bytes maxL ret') rm (va_Pc As (gP E F)) Qc 0 0 (gA E)) (hrm : rm.cells = 0 ∧ rm.slots = 0) (hR : rm.frames + 1 ≤ R.frames ∧ 8 + (maxL + 11) + rm.locals ≤ R.locals) (hn : As.length = n) (hst : st = As.reverse ++ rest) (hW : (rest.map fun v => v.category).sum ≤ 8) (hnc : nc ≤ R.cells ∧ ns ≤ R.slots) (hd : decode cc pc = .ok (.invokestatic idx, 3)) :
    RunOf p l e R s m args below meth c nc ns E nL F pc lv st rest (Qc As.toArray) := by
  intro H locs ls hP hS hls
  obtain ⟨m1, m3, m4, m5⟩ := hm
  have hG : GoodIn tblG (va_wsS own idx y (wsG y bytes maxL ret')) := tg_in (fun w hw => by
    rcases List.mem_append.mp hw with q | q
    · simp only [List.mem_cons, List.not_mem_nil, or_false] at q
      rcases q with rfl | rfl | rfl <;> assumption
    · exact wsG_in m4 w q)
  exact va_runS ⟨hC.1, hC.2.1, hC.2.2.1, hC.2.2.2.1, hC.2.2.2.2.1⟩ hM (va_cwS n hC.2.2.2.2.1 hG rfl hrm.1 hrm.2 m5 hR) (g_preS hC hP hS) rfl hn hls.1 (by subst hst; rfl) (lv_room hW) hd ⟨hnc.1, hnc.2⟩
theorem r_VN (hC : CX p s m args meth c cc own ret E nL) {k ci idx maxL n : Nat} {y : MethodName} {host : String} {bytes : ByteArray} {ret' : Option FieldType} {rm : Room} {As rest : List Value} {Qc : Array Value → State → Outcome → State → Prop} {T : u_T} {N : Nat}
    (hl : Cond.methodLinkNest own idx y host ∈ lw_tbl) (hm : MV y bytes maxL ret' n) (hM : Met l y (wsG y bytes maxL ret') rm (va_Pc (.ref (ad E k) :: As) (gP E F)) Qc 0 0 (gA E)) (hrm : rm.cells = 0 ∧ rm.slots = 0) (hR : rm.frames + 1 ≤ R.frames ∧ 8 + (maxL + 11) + rm.locals ≤ R.locals) (hk : kd k = ci) (hci : vwCl[ci]? = some (y.cls, T, N)) (h99 : ci < 99) (hn : As.length = n) (hst : st = As.reverse ++ .ref (ad E k) :: rest) (hW : (rest.map fun v => v.category).sum ≤ 8) (hnc : nc ≤ R.cells ∧ ns ≤ R.slots) (hd : decode cc pc = .ok (.invokevirtual idx, 3)) :
    RunOf p l e R s m args below meth c nc ns E nL F pc lv st rest (Qc (Value.ref (ad E k) :: As).toArray) := by
  intro H locs ls hP hS hls
  obtain ⟨m1, m2, m3, m4, m5⟩ := hm
  have hts := hC.2.2.2.2.1
  exact va_runVN ⟨hC.1, hC.2.1, hC.2.2.1, hC.2.2.2.1, hts⟩ hM ⟨va_cnB n hts (tg_in (wsG_in m4)) rfl hrm.1 hrm.2 (hC.2.2.2.2.2.1.2.2.2.2.1 _ hl rfl) (hts _ m3) m5 hR, hts _ m1, hts _ m2⟩ (g_preV hC hP hS hk hci h99) rfl hn hls.1 (by subst hst; rfl) (lv_room hW) hd ⟨hnc.1, hnc.2⟩
theorem r_SN (hC : CX p s m args meth c cc own ret E nL) {idx maxL n : Nat} {y : MethodName} {host : String} {bytes : ByteArray} {ret' : Option FieldType} {rm : Room} {As rest : List Value} {Qc : Array Value → State → Outcome → State → Prop}
    (hl : Cond.methodLinkNest own idx y host ∈ lw_tbl) (hm : MSt y bytes maxL ret' n) (hM : Met l y (wsG y bytes maxL ret') rm (va_Pc As (gP E F)) Qc 0 0 (gA E)) (hrm : rm.cells = 0 ∧ rm.slots = 0) (hR : rm.frames + 1 ≤ R.frames ∧ 8 + (maxL + 11) + rm.locals ≤ R.locals) (hn : As.length = n) (hst : st = As.reverse ++ rest) (hW : (rest.map fun v => v.category).sum ≤ 8) (hnc : nc ≤ R.cells ∧ ns ≤ R.slots) (hd : decode cc pc = .ok (.invokestatic idx, 3)) :
    RunOf p l e R s m args below meth c nc ns E nL F pc lv st rest (Qc As.toArray) := by
  intro H locs ls hP hS hls
  obtain ⟨m1, m3, m4, m5⟩ := hm
  have hts := hC.2.2.2.2.1
  exact va_runSN ⟨hC.1, hC.2.1, hC.2.2.1, hC.2.2.2.1, hts⟩ hM ⟨va_cnB n hts (tg_in (wsG_in m4)) rfl hrm.1 hrm.2 (hC.2.2.2.2.2.1.2.2.2.2.1 _ hl rfl) (hts _ m3) m5 hR, hts _ m1, trivial⟩ (g_preS hC hP hS) rfl hn hls.1 (by subst hst; rfl) (lv_room hW) hd ⟨hnc.1, hnc.2⟩
theorem r_A (hC : CX p s m args meth c cc own ret E nL) {k ci idx maxL n : Nat} {x y : MethodName} {bytes : ByteArray} {ret' : Option FieldType} {rm : Room} {As rest : List Value} {Qc : Array Value → State → Outcome → State → Prop} {T : u_T} {N : Nat}
    (hl : Cond.methodLink own idx x ∈ tblG) (hs0 : Cond.sameMethod x.cls x.cls x.name x.desc ∈ tblG) (hse : Cond.selects y.cls x y ∈ tblG) (hdc : Cond.declares ⟨x.cls, x.name, x.desc⟩ ∈ lw_tbl) (hxx : x.cls ≠ "java/lang/invoke/MethodHandle" ∧ x.cls ≠ "java/lang/invoke/VarHandle" ∧ (parseMethodDescriptor x.desc).map (fun d => d.parameters.length) = some n)
    (hm : Cond.instanceMethod y ∈ tblG ∧ Cond.initialized y.cls ∈ tblG ∧ Cond.code y bytes maxL ret' ∈ tblG) (hM : Met l y (wsG y bytes maxL ret') rm (va_Pc (.ref (ad E k) :: As) (gP E F)) Qc 0 0 (gA E)) (hrm : rm.cells = 0 ∧ rm.slots = 0) (hR : rm.frames + 1 ≤ R.frames ∧ 8 + (maxL + 11) + rm.locals ≤ R.locals) (hk : kd k = ci) (hci : vwCl[ci]? = some (y.cls, T, N)) (h99 : ci < 99) (hn : As.length = n) (hst : st = As.reverse ++ .ref (ad E k) :: rest) (hW : (rest.map fun v => v.category).sum ≤ 8) (hnc : nc ≤ R.cells ∧ ns ≤ R.slots) (hd : decode cc pc = .ok (.invokevirtual idx, 3)) :
    RunOf p l e R s m args below meth c nc ns E nL F pc lv st rest (Qc (Value.ref (ad E k) :: As).toArray) := by
  intro H locs ls hP hS hls
  obtain ⟨m1, m3, m4⟩ := hm
  have hts := hC.2.2.2.2.1
  have hG : GoodIn tblG (va_wsU own idx y.cls x.cls x y (wsG y bytes maxL ret')) := tg_in (fun w hw => by
    rcases List.mem_append.mp hw with q | q
    · simp only [List.mem_cons, List.not_mem_nil, or_false] at q
      rcases q with rfl | rfl | rfl | rfl | rfl <;> assumption
    · exact wsG_in m4 w q)
  exact va_runU ⟨hC.1, hC.2.1, hC.2.2.1, hC.2.2.2.1, hts⟩ hM (va_cwA n hts hG rfl hrm.1 hrm.2 (hC.2.2.2.2.2.1.2.2.2.2.1 _ hdc rfl) hxx hR) (g_preV hC hP hS hk hci h99) rfl hn hls.1 (by subst hst; rfl) (lv_room hW) hd ⟨hnc.1, hnc.2⟩
/-- and goes on -/
theorem v_ci {rest : List Value} {a : Array Value} {post : Int32 → gS → Prop} (hr : RunOf p l e R s m args below meth c nc ns E nL F pc lv st rest (va_Qi post (gB E) (gA E) a)) (kk : ∀ (r : Int32) (G : gS), post r G → VV p l e R s m args below meth c nc ns Q E nL G (pc + 3) lv (.int r :: rest)) : VV p l e R s m args below meth c nc ns Q E nL F pc lv st :=
  fun H locs ls hP hS hl => va_calli (hr H locs ls hP hS hl) hS (fun _ _ h => h) (fun _ h => h) (fun r G t H1 locs1 ht _ hp hb _ _ hS1 => kk r G hp H1 locs1 ls (by have z : va_P _ _ _ t.heap := hb; rw [ht] at z; exact z) hS1 hl)
theorem v_cl {rest : List Value} {a : Array Value} {post : Int64 → gS → Prop} (hr : RunOf p l e R s m args below meth c nc ns E nL F pc lv st rest (va_Ql post (gB E) (gA E) a)) (kk : ∀ (r : Int64) (G : gS), post r G → VV p l e R s m args below meth c nc ns Q E nL G (pc + 3) lv (.long r :: rest)) : VV p l e R s m args below meth c nc ns Q E nL F pc lv st :=
  fun H locs ls hP hS hl => va_calll (hr H locs ls hP hS hl) hS (fun _ _ h => h) (fun _ h => h) (fun r G t H1 locs1 ht _ hp hb _ _ hS1 => kk r G hp H1 locs1 ls (by have z : va_P _ _ _ t.heap := hb; rw [ht] at z; exact z) hS1 hl)
theorem v_cv {rest : List Value} {a : Array Value} {post : gS → Prop} (hr : RunOf p l e R s m args below meth c nc ns E nL F pc lv st rest (va_Qv post (gB E) (gA E) a)) (kk : ∀ (G : gS), post G → VV p l e R s m args below meth c nc ns Q E nL G (pc + 3) lv rest) : VV p l e R s m args below meth c nc ns Q E nL F pc lv st :=
  fun H locs ls hP hS hl => va_callv (hr H locs ls hP hS hl) hS (fun _ _ h => h) (fun _ h => h) (fun G t H1 locs1 ht _ hp hb _ _ hS1 => kk G hp H1 locs1 ls (by have z : va_P _ _ _ t.heap := hb; rw [ht] at z; exact z) hS1 hl)
theorem v_cr {rest : List Value} {a : Array Value} {k : Nat} {post : gS → Prop} (hr : RunOf p l e R s m args below meth c nc ns E nL F pc lv st rest (va_Qr post (fun G r t => r = ad E k ∧ gB E G t) (gA E) a)) (kk : ∀ (G : gS), post G → VV p l e R s m args below meth c nc ns Q E nL G (pc + 3) lv (.ref (ad E k) :: rest)) : VV p l e R s m args below meth c nc ns Q E nL F pc lv st :=
  fun H locs ls hP hS hl => va_callr (hr H locs ls hP hS hl) hS (fun _ _ h => h) (fun _ h => h) (fun G ra t H1 locs1 ht _ hp hb _ _ hS1 => by
    obtain ⟨rfl, hb2⟩ := hb
    exact kk G hp H1 locs1 ls (by have z : va_P _ _ _ t.heap := hb2; rw [ht] at z; exact z) hS1 hl)
/-! Math -/
theorem v_max (hC : CX p s m args meth c cc own ret E nL) {idx : Nat} {x y : Int32} (hl : Cond.methodLink own idx Lib.Math.max.name ∈ tblG) (hs0 : Cond.static Lib.Math.max.name ∈ tblG) (hi : Cond.initialized "java/lang/Math" ∈ tblG) (hc : Cond.code Lib.Math.max.name Lib.Math.max.code 2 (some .int) ∈ tblG) (hR : 1 ≤ R.frames ∧ (st.map fun v => v.category).sum + 13 ≤ R.locals) (hnc : nc ≤ R.cells ∧ ns ≤ R.slots) (hd : decode cc pc = .ok (.invokestatic idx, 3)) (kk : VV p l e R s m args below meth c nc ns Q E nL F (pc + 3) lv (.int (if x < y then y else x) :: st)) : VV p l e R s m args below meth c nc ns Q E nL F pc lv (.int y :: .int x :: st) :=
  fun H locs ls hP hS hls => va_mmax hC.1 hC.2.1 (hC.2.2.1.trans hls.1.symm) hC.2.2.2.1 (hC.2.2.2.2.1 _ hl) (hC.2.2.2.2.1 _ hs0) (hC.2.2.2.2.1 _ hi) (hC.2.2.2.2.1 _ hc) hR.1 hR.2 hnc.1 hnc.2 hd (kk H locs ls hP hS hls)
theorem v_min (hC : CX p s m args meth c cc own ret E nL) {idx : Nat} {x y : Int32} (hl : Cond.methodLink own idx Lib.Math.min.name ∈ tblG) (hs0 : Cond.static Lib.Math.min.name ∈ tblG) (hi : Cond.initialized "java/lang/Math" ∈ tblG) (hc : Cond.code Lib.Math.min.name Lib.Math.min.code 2 (some .int) ∈ tblG) (hR : 1 ≤ R.frames ∧ (st.map fun v => v.category).sum + 13 ≤ R.locals) (hnc : nc ≤ R.cells ∧ ns ≤ R.slots) (hd : decode cc pc = .ok (.invokestatic idx, 3)) (kk : VV p l e R s m args below meth c nc ns Q E nL F (pc + 3) lv (.int (if y < x then y else x) :: st)) : VV p l e R s m args below meth c nc ns Q E nL F pc lv (.int y :: .int x :: st) :=
  fun H locs ls hP hS hls => va_mmin hC.1 hC.2.1 (hC.2.2.1.trans hls.1.symm) hC.2.2.2.1 (hC.2.2.2.2.1 _ hl) (hC.2.2.2.2.1 _ hs0) (hC.2.2.2.2.1 _ hi) (hC.2.2.2.2.1 _ hc) hR.1 hR.2 hnc.1 hnc.2 hd (kk H locs ls hP hS hls)
end VR2
end
section
section VR3
variable {p : Program} {l : Launch} {e : Env} {R : Room} {s : State} {m : MethodId} {args : Array Value} {below : List Frame} {meth : Method} {c : Code} {nc ns : Nat} {Q : State → Prop} {E : gE} {nL : Nat} {F : gS} {pc : Nat} {lv : List (Nat × Value)} {st : List Value}
variable {cc : ByteArray} {own : String} {ret : Option FieldType}
theorem v_copy (hC : CX p s m args meth c cc own ret E nL) {idx k0 k1 n0 n1 n' : Nat} {n : Int32} {P : gS → Prop} (hl : Cond.methodLink own idx arraycopyName ∈ tblG) (hnat : Cond.native arraycopyName ∈ tblG) (hst : Cond.static arraycopyName ∈ tblG) (hi : Cond.initialized "java/lang/System" ∈ tblG)
    (hk0 : kd k0 = 1000 + n0) (hn0 : n0 < 1000) (hk1 : kd k1 = 1000 + n1) (hn1 : n1 < 1000) (h3 : ¬ n < 0) (hn' : n.toNatClampNeg = n') (h4 : n' ≤ n0) (h5 : n' ≤ n1) (hR : 1 ≤ R.frames ∧ (st.map fun v => v.category).sum + (nativeFrameWords "java/lang/System" "arraycopy" 5 + 11) ≤ R.locals) (hd : decode cc pc = .ok (.invokestatic idx, 3))
    (h : Nm (upR F k1 (va_cpy (F k0) (F k1) 0 0 n')) P) (kk : ∀ G, P G → VV p l e R s m args below meth c nc ns Q E nL G (pc + 3) lv st) : VV p l e R s m args below meth c nc ns Q E nL F pc lv (.int n :: .int 0 :: .ref (ad E k1) :: .int 0 :: .ref (ad E k0) :: st) := by
  intro H locs ls hP hS hls
  have hts := hC.2.2.2.2.1
  have z : (0 : Int32).toNatClampNeg = 0 := by decide +kernel
  refine va_copyi hC.1 hC.2.1 (hC.2.2.1.trans hls.1.symm) hC.2.2.2.1 (hts _ hl) (hts _ hnat) (hts _ hst) (hts _ hi) hC.2.2.2.2.2.1.1 hP (gD hC.2.2.2.2.2.1 F) hS k0 k1 0 0 (w_i hk0 hn0) (w_i hk1 hn1) rfl rfl rfl (by decide +kernel) (by decide +kernel) h3 (by rw [z, hn']; omega) (by rw [z, hn']; omega) (fun _ _ => rfl) hR.1 hR.2 hd (fun H1 locs1 hP1 _ hS1 => kk _ h H1 locs1 ls ?_ hS1 hls)
  rw [z, hn'] at hP1
  have e := gws_set E F (k := k1) (va_cpy (F k0) (F k1) 0 0 n')
  rw [hk1, cE_i E n1 k1 _ hn1] at e
  rw [e] at hP1
  exact hP1
theorem v_tin (hC : CX p s m args meth c cc own ret E nL) {dflt lo hi : Int} {offs : Array Int} {len : Nat} {x : Int32} {off : Int} {tgt : Nat} (hd : decode cc pc = .ok (.tableswitch dflt lo hi offs, len)) (k : Int) (hx : x.toInt = k) (h1 : ¬ k < lo) (h2 : ¬ hi < k) (ho : offs[(k - lo).toNat]? = some off) (ht : (pc : Int) + off = (tgt : Int)) (kk : VV p l e R s m args below meth c nc ns Q E nL F tgt lv st) : VV p l e R s m args below meth c nc ns Q E nL F pc lv (.int x :: st) :=
  fun H locs ls hP hS hl => lv_tableIn hC.1 hC.2.1 hd (by rw [hx]; exact h1) (by rw [hx]; exact h2) (by rw [hx]; exact ho) ht (kk H locs ls hP hS hl)
theorem v_tout (hC : CX p s m args meth c cc own ret E nL) {dflt lo hi : Int} {offs : Array Int} {len : Nat} {x : Int32} {tgt : Nat} (hd : decode cc pc = .ok (.tableswitch dflt lo hi offs, len)) (h : x.toInt < lo ∨ hi < x.toInt) (ht : (pc : Int) + dflt = (tgt : Int)) (kk : VV p l e R s m args below meth c nc ns Q E nL F tgt lv st) : VV p l e R s m args below meth c nc ns Q E nL F pc lv (.int x :: st) :=
  fun H locs ls hP hS hl => lv_tableOut hC.1 hC.2.1 hd h ht (kk H locs ls hP hS hl)
theorem v_ldcS (hC : CX p s m args meth c cc own ret E nL) {idx q : Nat} {tx : String} (hR : vk_R own idx tx q s) (hd : decode cc pc = .ok (.ldc idx, 2)) (kk : VV p l e R s m args below meth c nc ns Q E nL F (pc + 2) lv (.ref q :: st)) : VV p l e R s m args below meth c nc ns Q E nL F pc lv st :=
  fun H locs ls hP hS hl => va_ldcS hC.1 hC.2.1 hC.2.2.2.1 hR hd (kk H locs ls hP hS hl)
theorem v_sgetf (hC : CX p s m args meth c cc own ret E nL) {idx q : Nat} {o n d : String} {v : Value} (hE : va_OF o n d v q (gA E) s s.heap) (hw : Cond.fieldLink own idx o n d ∈ tblG) (hd : decode cc pc = .ok (.getfield idx, 3)) (kk : VV p l e R s m args below meth c nc ns Q E nL F (pc + 3) lv (v :: st)) : VV p l e R s m args below meth c nc ns Q E nL F pc lv (.ref q :: st) :=
  fun H locs ls hP hS hl => vk_getf hC.1 hC.2.1 hE hS hC.2.2.2.1 (hC.2.2.2.2.1 _ hw) (fun _ h => h) hd (kk H locs ls hP hS hl)
theorem v_tbald (hC : CX p s m args meth c cc own ret E nL) {t N : Nat} {f : Nat → Int32} {i : Int32} {P : Prop} (hT : va_T .byte t N (fun j => .int (f j)) (gA E) s s.heap) (hd : decode cc pc = .ok (.baload, 1)) (h : vp_in i N ∧ P) (kk : P → VV p l e R s m args below meth c nc ns Q E nL F (pc + 1) lv (.int (f i.toNatClampNeg) :: st)) : VV p l e R s m args below meth c nc ns Q E nL F pc lv (.int i :: .ref t :: st) :=
  fun H locs ls hP hS hl => va_tb hC.1 hC.2.1 hT hS h.1 rfl hd (kk h.2 H locs ls hP hS hl)
theorem v_tlen (hC : CX p s m args meth c cc own ret E nL) {ty : FieldType} {t N : Nat} {f : Nat → Value} {v : Int32} (hT : va_T ty t N f (gA E) s s.heap) (hv : Int32.ofNat N = v) (hd : decode cc pc = .ok (.arraylength, 1)) (kk : VV p l e R s m args below meth c nc ns Q E nL F (pc + 1) lv (.int v :: st)) : VV p l e R s m args below meth c nc ns Q E nL F pc lv (.ref t :: st) :=
  fun H locs ls hP hS hl => va_tlen hC.1 hC.2.1 hT hS hv hd (kk H locs ls hP hS hl)
theorem v_lcmp (hC : CX p s m args meth c cc own ret E nL) {x y : Int64} (hd : decode cc pc = .ok (.lcmp, 1)) (kk : VV p l e R s m args below meth c nc ns Q E nL F (pc + 1) lv (.int (if y < x then 1 else if x = y then 0 else -1) :: st)) : VV p l e R s m args below meth c nc ns Q E nL F pc lv (.long y :: .long x :: st) :=
  fun H locs ls hP hS hl => W.lcmp hC.1 hC.2.1 hd (kk H locs ls hP hS hl)
end VR3
/-- the cells of a kind: where its parts lie -/
theorem kd_part : ∀ k, k < 150 → (kd k = 0 → kd (k + 1) = 1016 ∧ kd (k + 2) = 1007) ∧ (kd k = 1 → kd (k + 1) = 1016 ∧ kd (k + 2) = 1016) ∧ (kd k = 7 → kd (k + 1) = 1006) := by decide +kernel
theorem kd_c1 {k : Nat} (h : kd k = 0) : kd (k + 1) = 1016 := ((kd_part k (kd_lt h (by decide))).1 h).1
theorem kd_c2 {k : Nat} (h : kd k = 0) : kd (k + 2) = 1007 := ((kd_part k (kd_lt h (by decide))).1 h).2
theorem kd_d1 {k : Nat} (h : kd k = 1) : kd (k + 1) = 1016 := ((kd_part k (kd_lt h (by decide))).2.1 h).1
theorem kd_d2 {k : Nat} (h : kd k = 1) : kd (k + 2) = 1016 := ((kd_part k (kd_lt h (by decide))).2.1 h).2
theorem kd_p1 {k : Nat} (h : kd k = 7) : kd (k + 1) = 1006 := (kd_part k (kd_lt h (by decide))).2.2 h
theorem kd_pl : ∀ i, i < 6 → kd (37 + 2 * i) = 7 := by decide +kernel
theorem kd_ck : ∀ i, i < 24 → kd (49 + 3 * i) = 0 := by decide +kernel
theorem in_lt {i : Int32} {n : Nat} (h : vp_in i n) : i.toNatClampNeg < n := Nat.not_le.mp fun q => h (Or.inr q)
end
section
theorem ig_X0 : ∀ w ∈ u_ws RX0 TX0 2, w ∈ tblG := fun w h => tg_t ((by decide +kernel : ∀ w ∈ u_ws RX0 TX0 2, w ∈ tables_1) w h) ((by decide +kernel : ∀ w ∈ u_ws RX0 TX0 2, goodWord w = true) w h)
theorem ig_X1 : ∀ w ∈ u_ws RX1 TX1 3, w ∈ tblG := fun w h => tg_t ((by decide +kernel : ∀ w ∈ u_ws RX1 TX1 3, w ∈ tables_1) w h) ((by decide +kernel : ∀ w ∈ u_ws RX1 TX1 3, goodWord w = true) w h)
theorem ig_X2 : ∀ w ∈ u_ws RX2 TX2 8, w ∈ tblG := fun w h => tg_t ((by decide +kernel : ∀ w ∈ u_ws RX2 TX2 8, w ∈ tables_1) w h) ((by decide +kernel : ∀ w ∈ u_ws RX2 TX2 8, goodWord w = true) w h)
theorem ig_X3 : ∀ w ∈ u_ws RX3 TX3 4, w ∈ tblG := fun w h => tg_t ((by decide +kernel : ∀ w ∈ u_ws RX3 TX3 4, w ∈ tables_1) w h) ((by decide +kernel : ∀ w ∈ u_ws RX3 TX3 4, goodWord w = true) w h)
theorem ig_X4 : ∀ w ∈ u_ws RX4 TX4 2, w ∈ tblG := fun w h => tg_t ((by decide +kernel : ∀ w ∈ u_ws RX4 TX4 2, w ∈ tables_1) w h) ((by decide +kernel : ∀ w ∈ u_ws RX4 TX4 2, goodWord w = true) w h)
theorem ig_X5 : ∀ w ∈ u_ws RX5 TX5 7, w ∈ tblG := fun w h => tg_t ((by decide +kernel : ∀ w ∈ u_ws RX5 TX5 7, w ∈ tables_1) w h) ((by decide +kernel : ∀ w ∈ u_ws RX5 TX5 7, goodWord w = true) w h)
theorem ig_X6 : ∀ w ∈ u_ws RX6 TX6 7, w ∈ tblG := fun w h => tg_t ((by decide +kernel : ∀ w ∈ u_ws RX6 TX6 7, w ∈ tables_1) w h) ((by decide +kernel : ∀ w ∈ u_ws RX6 TX6 7, goodWord w = true) w h)
theorem ig_X7 : ∀ w ∈ u_ws RX7 TX7 6, w ∈ tblG := fun w h => tg_t ((by decide +kernel : ∀ w ∈ u_ws RX7 TX7 6, w ∈ tables_1) w h) ((by decide +kernel : ∀ w ∈ u_ws RX7 TX7 6, goodWord w = true) w h)
theorem ig_X8 : ∀ w ∈ u_ws RX8 TX8 4, w ∈ tblG := fun w h => tg_t ((by decide +kernel : ∀ w ∈ u_ws RX8 TX8 4, w ∈ tables_1) w h) ((by decide +kernel : ∀ w ∈ u_ws RX8 TX8 4, goodWord w = true) w h)
theorem ig_X11 : ∀ w ∈ u_ws RX11 TX11 16, w ∈ tblG := fun w h => tg_t ((by decide +kernel : ∀ w ∈ u_ws RX11 TX11 16, w ∈ tables_1) w h) ((by decide +kernel : ∀ w ∈ u_ws RX11 TX11 16, goodWord w = true) w h)
theorem ig_X12 : ∀ w ∈ u_ws RX12 TX12 67, w ∈ tblG := fun w h => tg_t ((by decide +kernel : ∀ w ∈ u_ws RX12 TX12 67, w ∈ tables_1) w h) ((by decide +kernel : ∀ w ∈ u_ws RX12 TX12 67, goodWord w = true) w h)
theorem fl_X11_10 : FL RX11 10 9 0 := ⟨_, _, _, rfl, by decide, ig_X11, (tg_t (tb2 (List.mem_of_getElem? (i := 33) (by decide +kernel))) rfl), by decide⟩
theorem fl_X11_19 : FL RX11 19 9 1 := ⟨_, _, _, rfl, by decide, ig_X11, (tg_t (tb2 (List.mem_of_getElem? (i := 34) (by decide +kernel))) rfl), by decide⟩
theorem fl_X11_26 : FL RX11 26 9 2 := ⟨_, _, _, rfl, by decide, ig_X11, (tg_t (tb2 (List.mem_of_getElem? (i := 35) (by decide +kernel))) rfl), by decide⟩
theorem fl_X11_33 : FL RX11 33 9 3 := ⟨_, _, _, rfl, by decide, ig_X11, (tg_t (tb2 (List.mem_of_getElem? (i := 36) (by decide +kernel))) rfl), by decide⟩
theorem fl_X11_42 : FL RX11 42 9 4 := ⟨_, _, _, rfl, by decide, ig_X11, (tg_t (tb2 (List.mem_of_getElem? (i := 37) (by decide +kernel))) rfl), by decide⟩
theorem fl_X11_49 : FL RX11 49 9 5 := ⟨_, _, _, rfl, by decide, ig_X11, (tg_t (tb2 (List.mem_of_getElem? (i := 38) (by decide +kernel))) rfl), by decide⟩
theorem fl_X11_53 : FL RX11 53 9 6 := ⟨_, _, _, rfl, by decide, ig_X11, (tg_t (tb2 (List.mem_of_getElem? (i := 39) (by decide +kernel))) rfl), by decide⟩
theorem fl_X11_58 : FL RX11 58 9 7 := ⟨_, _, _, rfl, by decide, ig_X11, (tg_t (tb2 (List.mem_of_getElem? (i := 40) (by decide +kernel))) rfl), by decide⟩
theorem fl_X11_64 : FL RX11 64 9 8 := ⟨_, _, _, rfl, by decide, ig_X11, (tg_t (tb2 (List.mem_of_getElem? (i := 41) (by decide +kernel))) rfl), by decide⟩
theorem fl_X11_71 : FL RX11 71 9 9 := ⟨_, _, _, rfl, by decide, ig_X11, (tg_t (tb2 (List.mem_of_getElem? (i := 42) (by decide +kernel))) rfl), by decide⟩
theorem fl_X11_81 : FL RX11 81 4 1 := ⟨_, _, _, rfl, by decide, ig_X4, (tg_t (tb1 (List.mem_of_getElem? (i := 38) (by decide +kernel))) rfl), by decide⟩
theorem fp_X11_81 : FP RX11 81 4 1 .int := ⟨_, _, _, tyX4, rfl, by decide, ig_X4, (tg_t (tb1 (List.mem_of_getElem? (i := 38) (by decide +kernel))) rfl), by decide, tyX4_ok, nmX4, rfl, by decide +kernel⟩
theorem fl_X11_108 : FL RX11 108 9 11 := ⟨_, _, _, rfl, by decide, ig_X11, (tg_t (tb2 (List.mem_of_getElem? (i := 44) (by decide +kernel))) rfl), by decide⟩
theorem fp_X11_108 : FP RX11 108 9 11 .int := ⟨_, _, _, tyX11, rfl, by decide, ig_X11, (tg_t (tb2 (List.mem_of_getElem? (i := 44) (by decide +kernel))) rfl), by decide, tyX11_ok, nmX11, rfl, by decide +kernel⟩
theorem fl_X11_111 : FL RX11 111 9 13 := ⟨_, _, _, rfl, by decide, ig_X11, (tg_t (tb2 (List.mem_of_getElem? (i := 46) (by decide +kernel))) rfl), by decide⟩
theorem fp_X11_111 : FP RX11 111 9 13 .boolean := ⟨_, _, _, tyX11, rfl, by decide, ig_X11, (tg_t (tb2 (List.mem_of_getElem? (i := 46) (by decide +kernel))) rfl), by decide, tyX11_ok, nmX11, rfl, by decide +kernel⟩
theorem fl_X11_115 : FL RX11 115 9 14 := ⟨_, _, _, rfl, by decide, ig_X11, (tg_t (tb2 (List.mem_of_getElem? (i := 47) (by decide +kernel))) rfl), by decide⟩
theorem fp_X11_115 : FP RX11 115 9 14 .int := ⟨_, _, _, tyX11, rfl, by decide, ig_X11, (tg_t (tb2 (List.mem_of_getElem? (i := 47) (by decide +kernel))) rfl), by decide, tyX11_ok, nmX11, rfl, by decide +kernel⟩
theorem fl_X11_118 : FL RX11 118 5 2 := ⟨_, _, _, rfl, by decide, ig_X5, (tg_t (tb1 (List.mem_of_getElem? (i := 116) (by decide +kernel))) rfl), by decide⟩
theorem fp_X11_118 : FP RX11 118 5 2 .int := ⟨_, _, _, tyX5, rfl, by decide, ig_X5, (tg_t (tb1 (List.mem_of_getElem? (i := 116) (by decide +kernel))) rfl), by decide, tyX5_ok, nmX5, rfl, by decide +kernel⟩
theorem fl_X11_121 : FL RX11 121 9 10 := ⟨_, _, _, rfl, by decide, ig_X11, (tg_t (tb2 (List.mem_of_getElem? (i := 43) (by decide +kernel))) rfl), by decide⟩
theorem fp_X11_121 : FP RX11 121 9 10 .int := ⟨_, _, _, tyX11, rfl, by decide, ig_X11, (tg_t (tb2 (List.mem_of_getElem? (i := 43) (by decide +kernel))) rfl), by decide, tyX11_ok, nmX11, rfl, by decide +kernel⟩
theorem fl_X11_141 : FL RX11 141 5 0 := ⟨_, _, _, rfl, by decide, ig_X5, (tg_t (tb1 (List.mem_of_getElem? (i := 112) (by decide +kernel))) rfl), by decide⟩
theorem fl_X11_145 : FL RX11 145 5 1 := ⟨_, _, _, rfl, by decide, ig_X5, (tg_t (tb1 (List.mem_of_getElem? (i := 114) (by decide +kernel))) rfl), by decide⟩
theorem fl_X11_149 : FL RX11 149 1 0 := ⟨_, _, _, rfl, by decide, ig_X1, (tg_t (tb1 (List.mem_of_getElem? (i := 150) (by decide +kernel))) rfl), by decide⟩
theorem fl_X11_152 : FL RX11 152 1 1 := ⟨_, _, _, rfl, by decide, ig_X1, (tg_t (tb1 (List.mem_of_getElem? (i := 152) (by decide +kernel))) rfl), by decide⟩
theorem fl_X11_169 : FL RX11 169 1 2 := ⟨_, _, _, rfl, by decide, ig_X1, (tg_t (tb1 (List.mem_of_getElem? (i := 156) (by decide +kernel))) rfl), by decide⟩
theorem fp_X11_169 : FP RX11 169 1 2 .int := ⟨_, _, _, tyX1, rfl, by decide, ig_X1, (tg_t (tb1 (List.mem_of_getElem? (i := 156) (by decide +kernel))) rfl), by decide, tyX1_ok, nmX1, rfl, by decide +kernel⟩
theorem fl_X11_183 : FL RX11 183 0 1 := ⟨_, _, _, rfl, by decide, ig_X0, (tg_t (tb1 (List.mem_of_getElem? (i := 176) (by decide +kernel))) rfl), by decide⟩
theorem fl_X11_191 : FL RX11 191 0 0 := ⟨_, _, _, rfl, by decide, ig_X0, (tg_t (tb1 (List.mem_of_getElem? (i := 173) (by decide +kernel))) rfl), by decide⟩
theorem fl_X11_212 : FL RX11 212 2 5 := ⟨_, _, _, rfl, by decide, ig_X2, (tg_t (tb1 (List.mem_of_getElem? (i := 222) (by decide +kernel))) rfl), by decide⟩
theorem fp_X11_212 : FP RX11 212 2 5 .int := ⟨_, _, _, tyX2, rfl, by decide, ig_X2, (tg_t (tb1 (List.mem_of_getElem? (i := 222) (by decide +kernel))) rfl), by decide, tyX2_ok, nmX2, rfl, by decide +kernel⟩
theorem fl_X11_215 : FL RX11 215 2 7 := ⟨_, _, _, rfl, by decide, ig_X2, (tg_t (tb1 (List.mem_of_getElem? (i := 226) (by decide +kernel))) rfl), by decide⟩
theorem fp_X11_215 : FP RX11 215 2 7 .int := ⟨_, _, _, tyX2, rfl, by decide, ig_X2, (tg_t (tb1 (List.mem_of_getElem? (i := 226) (by decide +kernel))) rfl), by decide, tyX2_ok, nmX2, rfl, by decide +kernel⟩
theorem fl_X11_218 : FL RX11 218 9 15 := ⟨_, _, _, rfl, by decide, ig_X11, (tg_t (tb2 (List.mem_of_getElem? (i := 48) (by decide +kernel))) rfl), by decide⟩
theorem fp_X11_218 : FP RX11 218 9 15 .int := ⟨_, _, _, tyX11, rfl, by decide, ig_X11, (tg_t (tb2 (List.mem_of_getElem? (i := 48) (by decide +kernel))) rfl), by decide, tyX11_ok, nmX11, rfl, by decide +kernel⟩
theorem fl_X11_232 : FL RX11 232 2 6 := ⟨_, _, _, rfl, by decide, ig_X2, (tg_t (tb1 (List.mem_of_getElem? (i := 224) (by decide +kernel))) rfl), by decide⟩
theorem fp_X11_232 : FP RX11 232 2 6 .int := ⟨_, _, _, tyX2, rfl, by decide, ig_X2, (tg_t (tb1 (List.mem_of_getElem? (i := 224) (by decide +kernel))) rfl), by decide, tyX2_ok, nmX2, rfl, by decide +kernel⟩
theorem fl_X11_239 : FL RX11 239 3 2 := ⟨_, _, _, rfl, by decide, ig_X3, (tg_t (tb2 (List.mem_of_getElem? (i := 19) (by decide +kernel))) rfl), by decide⟩
theorem fp_X11_239 : FP RX11 239 3 2 .int := ⟨_, _, _, tyX3, rfl, by decide, ig_X3, (tg_t (tb2 (List.mem_of_getElem? (i := 19) (by decide +kernel))) rfl), by decide, tyX3_ok, nmX3, rfl, by decide +kernel⟩
theorem fl_X11_242 : FL RX11 242 3 3 := ⟨_, _, _, rfl, by decide, ig_X3, (tg_t (tb2 (List.mem_of_getElem? (i := 21) (by decide +kernel))) rfl), by decide⟩
theorem fp_X11_242 : FP RX11 242 3 3 .int := ⟨_, _, _, tyX3, rfl, by decide, ig_X3, (tg_t (tb2 (List.mem_of_getElem? (i := 21) (by decide +kernel))) rfl), by decide, tyX3_ok, nmX3, rfl, by decide +kernel⟩
theorem fl_X11_266 : FL RX11 266 9 12 := ⟨_, _, _, rfl, by decide, ig_X11, (tg_t (tb2 (List.mem_of_getElem? (i := 45) (by decide +kernel))) rfl), by decide⟩
theorem fp_X11_266 : FP RX11 266 9 12 .int := ⟨_, _, _, tyX11, rfl, by decide, ig_X11, (tg_t (tb2 (List.mem_of_getElem? (i := 45) (by decide +kernel))) rfl), by decide, tyX11_ok, nmX11, rfl, by decide +kernel⟩
theorem fl_X11_287 : FL RX11 287 4 0 := ⟨_, _, _, rfl, by decide, ig_X4, (tg_t (tb1 (List.mem_of_getElem? (i := 37) (by decide +kernel))) rfl), by decide⟩
theorem fl_X11_300 : FL RX11 300 7 5 := ⟨_, _, _, rfl, by decide, ig_X7, (tg_t (tb1 (List.mem_of_getElem? (i := 202) (by decide +kernel))) rfl), by decide⟩
theorem fp_X11_300 : FP RX11 300 7 5 .int := ⟨_, _, _, tyX7, rfl, by decide, ig_X7, (tg_t (tb1 (List.mem_of_getElem? (i := 202) (by decide +kernel))) rfl), by decide, tyX7_ok, nmX7, rfl, by decide +kernel⟩
theorem fl_X0_9 : FL RX0 9 0 0 := ⟨_, _, _, rfl, by decide, ig_X0, (tg_t (tb1 (List.mem_of_getElem? (i := 171) (by decide +kernel))) rfl), by decide⟩
theorem fl_X0_15 : FL RX0 15 0 1 := ⟨_, _, _, rfl, by decide, ig_X0, (tg_t (tb1 (List.mem_of_getElem? (i := 174) (by decide +kernel))) rfl), by decide⟩
theorem fl_X1_9 : FL RX1 9 1 0 := ⟨_, _, _, rfl, by decide, ig_X1, (tg_t (tb1 (List.mem_of_getElem? (i := 148) (by decide +kernel))) rfl), by decide⟩
theorem fl_X1_15 : FL RX1 15 1 1 := ⟨_, _, _, rfl, by decide, ig_X1, (tg_t (tb1 (List.mem_of_getElem? (i := 151) (by decide +kernel))) rfl), by decide⟩
theorem fl_X1_27 : FL RX1 27 1 2 := ⟨_, _, _, rfl, by decide, ig_X1, (tg_t (tb1 (List.mem_of_getElem? (i := 154) (by decide +kernel))) rfl), by decide⟩
theorem fp_X1_27 : FP RX1 27 1 2 .int := ⟨_, _, _, tyX1, rfl, by decide, ig_X1, (tg_t (tb1 (List.mem_of_getElem? (i := 154) (by decide +kernel))) rfl), by decide, tyX1_ok, nmX1, rfl, by decide +kernel⟩
theorem fl_X2_12 : FL RX2 12 2 1 := ⟨_, _, _, rfl, by decide, ig_X2, (tg_t (tb1 (List.mem_of_getElem? (i := 217) (by decide +kernel))) rfl), by decide⟩
theorem fl_X2_18 : FL RX2 18 2 2 := ⟨_, _, _, rfl, by decide, ig_X2, (tg_t (tb1 (List.mem_of_getElem? (i := 218) (by decide +kernel))) rfl), by decide⟩
theorem fl_X2_24 : FL RX2 24 2 3 := ⟨_, _, _, rfl, by decide, ig_X2, (tg_t (tb1 (List.mem_of_getElem? (i := 219) (by decide +kernel))) rfl), by decide⟩
theorem fl_X2_31 : FL RX2 31 2 4 := ⟨_, _, _, rfl, by decide, ig_X2, (tg_t (tb1 (List.mem_of_getElem? (i := 220) (by decide +kernel))) rfl), by decide⟩
theorem fl_X2_35 : FL RX2 35 2 0 := ⟨_, _, _, rfl, by decide, ig_X2, (tg_t (tb1 (List.mem_of_getElem? (i := 216) (by decide +kernel))) rfl), by decide⟩
theorem fl_X2_61 : FL RX2 61 1 2 := ⟨_, _, _, rfl, by decide, ig_X1, (tg_t (tb1 (List.mem_of_getElem? (i := 155) (by decide +kernel))) rfl), by decide⟩
theorem fp_X2_61 : FP RX2 61 1 2 .int := ⟨_, _, _, tyX1, rfl, by decide, ig_X1, (tg_t (tb1 (List.mem_of_getElem? (i := 155) (by decide +kernel))) rfl), by decide, tyX1_ok, nmX1, rfl, by decide +kernel⟩
theorem fl_X2_74 : FL RX2 74 2 7 := ⟨_, _, _, rfl, by decide, ig_X2, (tg_t (tb1 (List.mem_of_getElem? (i := 225) (by decide +kernel))) rfl), by decide⟩
theorem fp_X2_74 : FP RX2 74 2 7 .int := ⟨_, _, _, tyX2, rfl, by decide, ig_X2, (tg_t (tb1 (List.mem_of_getElem? (i := 225) (by decide +kernel))) rfl), by decide, tyX2_ok, nmX2, rfl, by decide +kernel⟩
theorem fl_X2_77 : FL RX2 77 7 1 := ⟨_, _, _, rfl, by decide, ig_X7, (tg_t (tb1 (List.mem_of_getElem? (i := 192) (by decide +kernel))) rfl), by decide⟩
theorem fp_X2_77 : FP RX2 77 7 1 .int := ⟨_, _, _, tyX7, rfl, by decide, ig_X7, (tg_t (tb1 (List.mem_of_getElem? (i := 192) (by decide +kernel))) rfl), by decide, tyX7_ok, nmX7, rfl, by decide +kernel⟩
theorem fl_X2_84 : FL RX2 84 2 5 := ⟨_, _, _, rfl, by decide, ig_X2, (tg_t (tb1 (List.mem_of_getElem? (i := 221) (by decide +kernel))) rfl), by decide⟩
theorem fp_X2_84 : FP RX2 84 2 5 .int := ⟨_, _, _, tyX2, rfl, by decide, ig_X2, (tg_t (tb1 (List.mem_of_getElem? (i := 221) (by decide +kernel))) rfl), by decide, tyX2_ok, nmX2, rfl, by decide +kernel⟩
theorem fl_X2_87 : FL RX2 87 0 1 := ⟨_, _, _, rfl, by decide, ig_X0, (tg_t (tb1 (List.mem_of_getElem? (i := 175) (by decide +kernel))) rfl), by decide⟩
theorem fl_X2_97 : FL RX2 97 7 5 := ⟨_, _, _, rfl, by decide, ig_X7, (tg_t (tb1 (List.mem_of_getElem? (i := 201) (by decide +kernel))) rfl), by decide⟩
theorem fp_X2_97 : FP RX2 97 7 5 .int := ⟨_, _, _, tyX7, rfl, by decide, ig_X7, (tg_t (tb1 (List.mem_of_getElem? (i := 201) (by decide +kernel))) rfl), by decide, tyX7_ok, nmX7, rfl, by decide +kernel⟩
theorem fl_X2_103 : FL RX2 103 7 0 := ⟨_, _, _, rfl, by decide, ig_X7, (tg_t (tb1 (List.mem_of_getElem? (i := 189) (by decide +kernel))) rfl), by decide⟩
theorem fl_X2_117 : FL RX2 117 2 6 := ⟨_, _, _, rfl, by decide, ig_X2, (tg_t (tb1 (List.mem_of_getElem? (i := 223) (by decide +kernel))) rfl), by decide⟩
theorem fp_X2_117 : FP RX2 117 2 6 .int := ⟨_, _, _, tyX2, rfl, by decide, ig_X2, (tg_t (tb1 (List.mem_of_getElem? (i := 223) (by decide +kernel))) rfl), by decide, tyX2_ok, nmX2, rfl, by decide +kernel⟩
theorem fl_X3_9 : FL RX3 9 3 0 := ⟨_, _, _, rfl, by decide, ig_X3, (tg_t (tb2 (List.mem_of_getElem? (i := 16) (by decide +kernel))) rfl), by decide⟩
theorem fl_X3_15 : FL RX3 15 3 1 := ⟨_, _, _, rfl, by decide, ig_X3, (tg_t (tb2 (List.mem_of_getElem? (i := 17) (by decide +kernel))) rfl), by decide⟩
theorem fl_X3_24 : FL RX3 24 3 2 := ⟨_, _, _, rfl, by decide, ig_X3, (tg_t (tb2 (List.mem_of_getElem? (i := 18) (by decide +kernel))) rfl), by decide⟩
theorem fp_X3_24 : FP RX3 24 3 2 .int := ⟨_, _, _, tyX3, rfl, by decide, ig_X3, (tg_t (tb2 (List.mem_of_getElem? (i := 18) (by decide +kernel))) rfl), by decide, tyX3_ok, nmX3, rfl, by decide +kernel⟩
theorem fl_X3_28 : FL RX3 28 3 3 := ⟨_, _, _, rfl, by decide, ig_X3, (tg_t (tb2 (List.mem_of_getElem? (i := 20) (by decide +kernel))) rfl), by decide⟩
theorem fp_X3_28 : FP RX3 28 3 3 .int := ⟨_, _, _, tyX3, rfl, by decide, ig_X3, (tg_t (tb2 (List.mem_of_getElem? (i := 20) (by decide +kernel))) rfl), by decide, tyX3_ok, nmX3, rfl, by decide +kernel⟩
theorem fl_X4_9 : FL RX4 9 4 0 := ⟨_, _, _, rfl, by decide, ig_X4, (tg_t (tb1 (List.mem_of_getElem? (i := 36) (by decide +kernel))) rfl), by decide⟩
theorem fl_X4_19 : FL RX4 19 4 1 := ⟨_, _, _, rfl, by decide, ig_X4, (tg_t (tb1 (List.mem_of_getElem? (i := 39) (by decide +kernel))) rfl), by decide⟩
theorem fp_X4_19 : FP RX4 19 4 1 .int := ⟨_, _, _, tyX4, rfl, by decide, ig_X4, (tg_t (tb1 (List.mem_of_getElem? (i := 39) (by decide +kernel))) rfl), by decide, tyX4_ok, nmX4, rfl, by decide +kernel⟩
theorem fl_X5_9 : FL RX5 9 5 0 := ⟨_, _, _, rfl, by decide, ig_X5, (tg_t (tb1 (List.mem_of_getElem? (i := 111) (by decide +kernel))) rfl), by decide⟩
theorem fl_X5_15 : FL RX5 15 5 1 := ⟨_, _, _, rfl, by decide, ig_X5, (tg_t (tb1 (List.mem_of_getElem? (i := 113) (by decide +kernel))) rfl), by decide⟩
theorem fl_X5_19 : FL RX5 19 5 5 := ⟨_, _, _, rfl, by decide, ig_X5, (tg_t (tb1 (List.mem_of_getElem? (i := 119) (by decide +kernel))) rfl), by decide⟩
theorem fl_X5_22 : FL RX5 22 5 6 := ⟨_, _, _, rfl, by decide, ig_X5, (tg_t (tb1 (List.mem_of_getElem? (i := 120) (by decide +kernel))) rfl), by decide⟩
theorem fl_X5_25 : FL RX5 25 6 2 := ⟨_, _, _, rfl, by decide, ig_X6, (tg_t (tb1 (List.mem_of_getElem? (i := 60) (by decide +kernel))) rfl), by decide⟩
theorem fp_X5_25 : FP RX5 25 6 2 .int := ⟨_, _, _, tyX6, rfl, by decide, ig_X6, (tg_t (tb1 (List.mem_of_getElem? (i := 60) (by decide +kernel))) rfl), by decide, tyX6_ok, nmX6, rfl, by decide +kernel⟩
theorem fl_X5_31 : FL RX5 31 5 3 := ⟨_, _, _, rfl, by decide, ig_X5, (tg_t (tb1 (List.mem_of_getElem? (i := 117) (by decide +kernel))) rfl), by decide⟩
theorem fp_X5_31 : FP RX5 31 5 3 .int := ⟨_, _, _, tyX5, rfl, by decide, ig_X5, (tg_t (tb1 (List.mem_of_getElem? (i := 117) (by decide +kernel))) rfl), by decide, tyX5_ok, nmX5, rfl, by decide +kernel⟩
theorem fl_X5_32 : FL RX5 32 6 4 := ⟨_, _, _, rfl, by decide, ig_X6, (tg_t (tb1 (List.mem_of_getElem? (i := 63) (by decide +kernel))) rfl), by decide⟩
theorem fp_X5_32 : FP RX5 32 6 4 .int := ⟨_, _, _, tyX6, rfl, by decide, ig_X6, (tg_t (tb1 (List.mem_of_getElem? (i := 63) (by decide +kernel))) rfl), by decide, tyX6_ok, nmX6, rfl, by decide +kernel⟩
theorem fl_X5_35 : FL RX5 35 5 4 := ⟨_, _, _, rfl, by decide, ig_X5, (tg_t (tb1 (List.mem_of_getElem? (i := 118) (by decide +kernel))) rfl), by decide⟩
theorem fp_X5_35 : FP RX5 35 5 4 .int := ⟨_, _, _, tyX5, rfl, by decide, ig_X5, (tg_t (tb1 (List.mem_of_getElem? (i := 118) (by decide +kernel))) rfl), by decide, tyX5_ok, nmX5, rfl, by decide +kernel⟩
theorem fl_X5_38 : FL RX5 38 6 3 := ⟨_, _, _, rfl, by decide, ig_X6, (tg_t (tb1 (List.mem_of_getElem? (i := 62) (by decide +kernel))) rfl), by decide⟩
theorem fp_X5_38 : FP RX5 38 6 3 .int := ⟨_, _, _, tyX6, rfl, by decide, ig_X6, (tg_t (tb1 (List.mem_of_getElem? (i := 62) (by decide +kernel))) rfl), by decide, tyX6_ok, nmX6, rfl, by decide +kernel⟩
theorem fl_X5_41 : FL RX5 41 5 2 := ⟨_, _, _, rfl, by decide, ig_X5, (tg_t (tb1 (List.mem_of_getElem? (i := 115) (by decide +kernel))) rfl), by decide⟩
theorem fp_X5_41 : FP RX5 41 5 2 .int := ⟨_, _, _, tyX5, rfl, by decide, ig_X5, (tg_t (tb1 (List.mem_of_getElem? (i := 115) (by decide +kernel))) rfl), by decide, tyX5_ok, nmX5, rfl, by decide +kernel⟩
theorem fl_X5_42 : FL RX5 42 6 0 := ⟨_, _, _, rfl, by decide, ig_X6, (tg_t (tb1 (List.mem_of_getElem? (i := 56) (by decide +kernel))) rfl), by decide⟩
theorem fl_X5_43 : FL RX5 43 6 1 := ⟨_, _, _, rfl, by decide, ig_X6, (tg_t (tb1 (List.mem_of_getElem? (i := 58) (by decide +kernel))) rfl), by decide⟩
theorem fl_X5_48 : FL RX5 48 7 1 := ⟨_, _, _, rfl, by decide, ig_X7, (tg_t (tb1 (List.mem_of_getElem? (i := 191) (by decide +kernel))) rfl), by decide⟩
theorem fp_X5_48 : FP RX5 48 7 1 .int := ⟨_, _, _, tyX7, rfl, by decide, ig_X7, (tg_t (tb1 (List.mem_of_getElem? (i := 191) (by decide +kernel))) rfl), by decide, tyX7_ok, nmX7, rfl, by decide +kernel⟩
theorem fl_X5_53 : FL RX5 53 7 3 := ⟨_, _, _, rfl, by decide, ig_X7, (tg_t (tb1 (List.mem_of_getElem? (i := 196) (by decide +kernel))) rfl), by decide⟩
theorem fp_X5_53 : FP RX5 53 7 3 .int := ⟨_, _, _, tyX7, rfl, by decide, ig_X7, (tg_t (tb1 (List.mem_of_getElem? (i := 196) (by decide +kernel))) rfl), by decide, tyX7_ok, nmX7, rfl, by decide +kernel⟩
theorem fl_X5_60 : FL RX5 60 7 4 := ⟨_, _, _, rfl, by decide, ig_X7, (tg_t (tb1 (List.mem_of_getElem? (i := 198) (by decide +kernel))) rfl), by decide⟩
theorem fp_X5_60 : FP RX5 60 7 4 .int := ⟨_, _, _, tyX7, rfl, by decide, ig_X7, (tg_t (tb1 (List.mem_of_getElem? (i := 198) (by decide +kernel))) rfl), by decide, tyX7_ok, nmX7, rfl, by decide +kernel⟩
theorem fl_X5_73 : FL RX5 73 7 2 := ⟨_, _, _, rfl, by decide, ig_X7, (tg_t (tb1 (List.mem_of_getElem? (i := 194) (by decide +kernel))) rfl), by decide⟩
theorem fp_X5_73 : FP RX5 73 7 2 .int := ⟨_, _, _, tyX7, rfl, by decide, ig_X7, (tg_t (tb1 (List.mem_of_getElem? (i := 194) (by decide +kernel))) rfl), by decide, tyX7_ok, nmX7, rfl, by decide +kernel⟩
theorem fl_X5_80 : FL RX5 80 7 5 := ⟨_, _, _, rfl, by decide, ig_X7, (tg_t (tb1 (List.mem_of_getElem? (i := 200) (by decide +kernel))) rfl), by decide⟩
theorem fp_X5_80 : FP RX5 80 7 5 .int := ⟨_, _, _, tyX7, rfl, by decide, ig_X7, (tg_t (tb1 (List.mem_of_getElem? (i := 200) (by decide +kernel))) rfl), by decide, tyX7_ok, nmX7, rfl, by decide +kernel⟩
theorem fl_X5_95 : FL RX5 95 0 0 := ⟨_, _, _, rfl, by decide, ig_X0, (tg_t (tb1 (List.mem_of_getElem? (i := 172) (by decide +kernel))) rfl), by decide⟩
theorem fl_X5_108 : FL RX5 108 1 0 := ⟨_, _, _, rfl, by decide, ig_X1, (tg_t (tb1 (List.mem_of_getElem? (i := 149) (by decide +kernel))) rfl), by decide⟩
theorem fl_X5_119 : FL RX5 119 1 2 := ⟨_, _, _, rfl, by decide, ig_X1, (tg_t (tb1 (List.mem_of_getElem? (i := 157) (by decide +kernel))) rfl), by decide⟩
theorem fp_X5_119 : FP RX5 119 1 2 .int := ⟨_, _, _, tyX1, rfl, by decide, ig_X1, (tg_t (tb1 (List.mem_of_getElem? (i := 157) (by decide +kernel))) rfl), by decide, tyX1_ok, nmX1, rfl, by decide +kernel⟩
theorem fl_X5_122 : FL RX5 122 1 1 := ⟨_, _, _, rfl, by decide, ig_X1, (tg_t (tb1 (List.mem_of_getElem? (i := 153) (by decide +kernel))) rfl), by decide⟩
theorem fl_X6_9 : FL RX6 9 6 0 := ⟨_, _, _, rfl, by decide, ig_X6, (tg_t (tb1 (List.mem_of_getElem? (i := 55) (by decide +kernel))) rfl), by decide⟩
theorem fl_X6_15 : FL RX6 15 6 1 := ⟨_, _, _, rfl, by decide, ig_X6, (tg_t (tb1 (List.mem_of_getElem? (i := 57) (by decide +kernel))) rfl), by decide⟩
theorem fl_X6_19 : FL RX6 19 6 2 := ⟨_, _, _, rfl, by decide, ig_X6, (tg_t (tb1 (List.mem_of_getElem? (i := 59) (by decide +kernel))) rfl), by decide⟩
theorem fp_X6_19 : FP RX6 19 6 2 .int := ⟨_, _, _, tyX6, rfl, by decide, ig_X6, (tg_t (tb1 (List.mem_of_getElem? (i := 59) (by decide +kernel))) rfl), by decide, tyX6_ok, nmX6, rfl, by decide +kernel⟩
theorem fl_X6_23 : FL RX6 23 6 3 := ⟨_, _, _, rfl, by decide, ig_X6, (tg_t (tb1 (List.mem_of_getElem? (i := 61) (by decide +kernel))) rfl), by decide⟩
theorem fp_X6_23 : FP RX6 23 6 3 .int := ⟨_, _, _, tyX6, rfl, by decide, ig_X6, (tg_t (tb1 (List.mem_of_getElem? (i := 61) (by decide +kernel))) rfl), by decide, tyX6_ok, nmX6, rfl, by decide +kernel⟩
theorem fl_X6_26 : FL RX6 26 6 5 := ⟨_, _, _, rfl, by decide, ig_X6, (tg_t (tb1 (List.mem_of_getElem? (i := 65) (by decide +kernel))) rfl), by decide⟩
theorem fp_X6_26 : FP RX6 26 6 5 .int := ⟨_, _, _, tyX6, rfl, by decide, ig_X6, (tg_t (tb1 (List.mem_of_getElem? (i := 65) (by decide +kernel))) rfl), by decide, tyX6_ok, nmX6, rfl, by decide +kernel⟩
theorem fl_X6_29 : FL RX6 29 6 4 := ⟨_, _, _, rfl, by decide, ig_X6, (tg_t (tb1 (List.mem_of_getElem? (i := 64) (by decide +kernel))) rfl), by decide⟩
theorem fp_X6_29 : FP RX6 29 6 4 .int := ⟨_, _, _, tyX6, rfl, by decide, ig_X6, (tg_t (tb1 (List.mem_of_getElem? (i := 64) (by decide +kernel))) rfl), by decide, tyX6_ok, nmX6, rfl, by decide +kernel⟩
theorem fl_X6_32 : FL RX6 32 6 6 := ⟨_, _, _, rfl, by decide, ig_X6, (tg_t (tb1 (List.mem_of_getElem? (i := 66) (by decide +kernel))) rfl), by decide⟩
theorem fp_X6_32 : FP RX6 32 6 6 .boolean := ⟨_, _, _, tyX6, rfl, by decide, ig_X6, (tg_t (tb1 (List.mem_of_getElem? (i := 66) (by decide +kernel))) rfl), by decide, tyX6_ok, nmX6, rfl, by decide +kernel⟩
theorem fl_X7_9 : FL RX7 9 7 0 := ⟨_, _, _, rfl, by decide, ig_X7, (tg_t (tb1 (List.mem_of_getElem? (i := 188) (by decide +kernel))) rfl), by decide⟩
theorem fl_X7_15 : FL RX7 15 8 0 := ⟨_, _, _, rfl, by decide, ig_X8, (tg_t (tb1 (List.mem_of_getElem? (i := 90) (by decide +kernel))) rfl), by decide⟩
theorem fl_X7_20 : FL RX7 20 7 1 := ⟨_, _, _, rfl, by decide, ig_X7, (tg_t (tb1 (List.mem_of_getElem? (i := 190) (by decide +kernel))) rfl), by decide⟩
theorem fp_X7_20 : FP RX7 20 7 1 .int := ⟨_, _, _, tyX7, rfl, by decide, ig_X7, (tg_t (tb1 (List.mem_of_getElem? (i := 190) (by decide +kernel))) rfl), by decide, tyX7_ok, nmX7, rfl, by decide +kernel⟩
theorem fl_X7_24 : FL RX7 24 7 2 := ⟨_, _, _, rfl, by decide, ig_X7, (tg_t (tb1 (List.mem_of_getElem? (i := 193) (by decide +kernel))) rfl), by decide⟩
theorem fp_X7_24 : FP RX7 24 7 2 .int := ⟨_, _, _, tyX7, rfl, by decide, ig_X7, (tg_t (tb1 (List.mem_of_getElem? (i := 193) (by decide +kernel))) rfl), by decide, tyX7_ok, nmX7, rfl, by decide +kernel⟩
theorem fl_X7_27 : FL RX7 27 7 3 := ⟨_, _, _, rfl, by decide, ig_X7, (tg_t (tb1 (List.mem_of_getElem? (i := 195) (by decide +kernel))) rfl), by decide⟩
theorem fp_X7_27 : FP RX7 27 7 3 .int := ⟨_, _, _, tyX7, rfl, by decide, ig_X7, (tg_t (tb1 (List.mem_of_getElem? (i := 195) (by decide +kernel))) rfl), by decide, tyX7_ok, nmX7, rfl, by decide +kernel⟩
theorem fl_X7_30 : FL RX7 30 7 4 := ⟨_, _, _, rfl, by decide, ig_X7, (tg_t (tb1 (List.mem_of_getElem? (i := 197) (by decide +kernel))) rfl), by decide⟩
theorem fp_X7_30 : FP RX7 30 7 4 .int := ⟨_, _, _, tyX7, rfl, by decide, ig_X7, (tg_t (tb1 (List.mem_of_getElem? (i := 197) (by decide +kernel))) rfl), by decide, tyX7_ok, nmX7, rfl, by decide +kernel⟩
theorem fl_X7_33 : FL RX7 33 8 2 := ⟨_, _, _, rfl, by decide, ig_X8, (tg_t (tb1 (List.mem_of_getElem? (i := 94) (by decide +kernel))) rfl), by decide⟩
theorem fp_X7_33 : FP RX7 33 8 2 .int := ⟨_, _, _, tyX8, rfl, by decide, ig_X8, (tg_t (tb1 (List.mem_of_getElem? (i := 94) (by decide +kernel))) rfl), by decide, tyX8_ok, nmX8, rfl, by decide +kernel⟩
theorem fl_X7_36 : FL RX7 36 7 5 := ⟨_, _, _, rfl, by decide, ig_X7, (tg_t (tb1 (List.mem_of_getElem? (i := 199) (by decide +kernel))) rfl), by decide⟩
theorem fp_X7_36 : FP RX7 36 7 5 .int := ⟨_, _, _, tyX7, rfl, by decide, ig_X7, (tg_t (tb1 (List.mem_of_getElem? (i := 199) (by decide +kernel))) rfl), by decide, tyX7_ok, nmX7, rfl, by decide +kernel⟩
theorem fl_X7_37 : FL RX7 37 8 1 := ⟨_, _, _, rfl, by decide, ig_X8, (tg_t (tb1 (List.mem_of_getElem? (i := 92) (by decide +kernel))) rfl), by decide⟩
theorem fl_X8_9 : FL RX8 9 8 0 := ⟨_, _, _, rfl, by decide, ig_X8, (tg_t (tb1 (List.mem_of_getElem? (i := 89) (by decide +kernel))) rfl), by decide⟩
theorem fl_X8_15 : FL RX8 15 8 1 := ⟨_, _, _, rfl, by decide, ig_X8, (tg_t (tb1 (List.mem_of_getElem? (i := 91) (by decide +kernel))) rfl), by decide⟩
theorem fl_X8_24 : FL RX8 24 8 2 := ⟨_, _, _, rfl, by decide, ig_X8, (tg_t (tb1 (List.mem_of_getElem? (i := 93) (by decide +kernel))) rfl), by decide⟩
theorem fp_X8_24 : FP RX8 24 8 2 .int := ⟨_, _, _, tyX8, rfl, by decide, ig_X8, (tg_t (tb1 (List.mem_of_getElem? (i := 93) (by decide +kernel))) rfl), by decide, tyX8_ok, nmX8, rfl, by decide +kernel⟩
theorem fl_X8_28 : FL RX8 28 8 3 := ⟨_, _, _, rfl, by decide, ig_X8, (tg_t (tb1 (List.mem_of_getElem? (i := 95) (by decide +kernel))) rfl), by decide⟩
theorem fp_X8_28 : FP RX8 28 8 3 .int := ⟨_, _, _, tyX8, rfl, by decide, ig_X8, (tg_t (tb1 (List.mem_of_getElem? (i := 95) (by decide +kernel))) rfl), by decide, tyX8_ok, nmX8, rfl, by decide +kernel⟩
theorem fl_X12_7 : FL RX12 7 10 3 := ⟨_, _, _, rfl, by decide, ig_X12, (tg_t (tb4 (List.mem_of_getElem? (i := 164) (by decide +kernel))) rfl), by decide⟩
theorem fl_X12_13 : FL RX12 13 10 4 := ⟨_, _, _, rfl, by decide, ig_X12, (tg_t (tb4 (List.mem_of_getElem? (i := 165) (by decide +kernel))) rfl), by decide⟩
theorem fl_X12_17 : FL RX12 17 10 5 := ⟨_, _, _, rfl, by decide, ig_X12, (tg_t (tb4 (List.mem_of_getElem? (i := 166) (by decide +kernel))) rfl), by decide⟩
theorem fl_X12_20 : FL RX12 20 10 6 := ⟨_, _, _, rfl, by decide, ig_X12, (tg_t (tb4 (List.mem_of_getElem? (i := 167) (by decide +kernel))) rfl), by decide⟩
theorem fl_X12_23 : FL RX12 23 10 9 := ⟨_, _, _, rfl, by decide, ig_X12, (tg_t (tb4 (List.mem_of_getElem? (i := 170) (by decide +kernel))) rfl), by decide⟩
theorem fl_X12_26 : FL RX12 26 10 10 := ⟨_, _, _, rfl, by decide, ig_X12, (tg_t (tb4 (List.mem_of_getElem? (i := 171) (by decide +kernel))) rfl), by decide⟩
theorem fl_X12_29 : FL RX12 29 10 11 := ⟨_, _, _, rfl, by decide, ig_X12, (tg_t (tb4 (List.mem_of_getElem? (i := 172) (by decide +kernel))) rfl), by decide⟩
theorem fl_X12_32 : FL RX12 32 10 12 := ⟨_, _, _, rfl, by decide, ig_X12, (tg_t (tb4 (List.mem_of_getElem? (i := 173) (by decide +kernel))) rfl), by decide⟩
theorem fl_X12_35 : FL RX12 35 10 13 := ⟨_, _, _, rfl, by decide, ig_X12, (tg_t (tb4 (List.mem_of_getElem? (i := 174) (by decide +kernel))) rfl), by decide⟩
theorem fl_X12_38 : FL RX12 38 10 14 := ⟨_, _, _, rfl, by decide, ig_X12, (tg_t (tb4 (List.mem_of_getElem? (i := 175) (by decide +kernel))) rfl), by decide⟩
theorem fl_X12_41 : FL RX12 41 10 16 := ⟨_, _, _, rfl, by decide, ig_X12, (tg_t (tb4 (List.mem_of_getElem? (i := 177) (by decide +kernel))) rfl), by decide⟩
theorem fl_X12_44 : FL RX12 44 10 17 := ⟨_, _, _, rfl, by decide, ig_X12, (tg_t (tb4 (List.mem_of_getElem? (i := 178) (by decide +kernel))) rfl), by decide⟩
theorem fl_X12_47 : FL RX12 47 10 20 := ⟨_, _, _, rfl, by decide, ig_X12, (tg_t (tb4 (List.mem_of_getElem? (i := 181) (by decide +kernel))) rfl), by decide⟩
theorem fl_X12_51 : FL RX12 51 10 25 := ⟨_, _, _, rfl, by decide, ig_X12, (tg_t (tb4 (List.mem_of_getElem? (i := 186) (by decide +kernel))) rfl), by decide⟩
theorem fl_X12_54 : FL RX12 54 10 26 := ⟨_, _, _, rfl, by decide, ig_X12, (tg_t (tb4 (List.mem_of_getElem? (i := 187) (by decide +kernel))) rfl), by decide⟩
theorem fl_X12_57 : FL RX12 57 10 33 := ⟨_, _, _, rfl, by decide, ig_X12, (tg_t (tb4 (List.mem_of_getElem? (i := 194) (by decide +kernel))) rfl), by decide⟩
theorem fl_X12_60 : FL RX12 60 10 34 := ⟨_, _, _, rfl, by decide, ig_X12, (tg_t (tb4 (List.mem_of_getElem? (i := 195) (by decide +kernel))) rfl), by decide⟩
theorem fl_X12_63 : FL RX12 63 10 40 := ⟨_, _, _, rfl, by decide, ig_X12, (tg_t (tb4 (List.mem_of_getElem? (i := 201) (by decide +kernel))) rfl), by decide⟩
theorem fl_X12_66 : FL RX12 66 10 41 := ⟨_, _, _, rfl, by decide, ig_X12, (tg_t (tb4 (List.mem_of_getElem? (i := 202) (by decide +kernel))) rfl), by decide⟩
theorem fl_X12_69 : FL RX12 69 10 42 := ⟨_, _, _, rfl, by decide, ig_X12, (tg_t (tb4 (List.mem_of_getElem? (i := 203) (by decide +kernel))) rfl), by decide⟩
theorem fl_X12_72 : FL RX12 72 10 49 := ⟨_, _, _, rfl, by decide, ig_X12, (tg_t (tb4 (List.mem_of_getElem? (i := 210) (by decide +kernel))) rfl), by decide⟩
theorem fl_X12_75 : FL RX12 75 10 50 := ⟨_, _, _, rfl, by decide, ig_X12, (tg_t (tb4 (List.mem_of_getElem? (i := 211) (by decide +kernel))) rfl), by decide⟩
theorem fl_X12_78 : FL RX12 78 10 51 := ⟨_, _, _, rfl, by decide, ig_X12, (tg_t (tb4 (List.mem_of_getElem? (i := 212) (by decide +kernel))) rfl), by decide⟩
theorem fl_X12_81 : FL RX12 81 10 52 := ⟨_, _, _, rfl, by decide, ig_X12, (tg_t (tb4 (List.mem_of_getElem? (i := 213) (by decide +kernel))) rfl), by decide⟩
theorem fl_X12_84 : FL RX12 84 10 53 := ⟨_, _, _, rfl, by decide, ig_X12, (tg_t (tb4 (List.mem_of_getElem? (i := 214) (by decide +kernel))) rfl), by decide⟩
theorem fl_X12_87 : FL RX12 87 10 63 := ⟨_, _, _, rfl, by decide, ig_X12, (tg_t (tb4 (List.mem_of_getElem? (i := 224) (by decide +kernel))) rfl), by decide⟩
theorem fl_X12_90 : FL RX12 90 10 64 := ⟨_, _, _, rfl, by decide, ig_X12, (tg_t (tb4 (List.mem_of_getElem? (i := 225) (by decide +kernel))) rfl), by decide⟩
theorem fl_X12_93 : FL RX12 93 10 65 := ⟨_, _, _, rfl, by decide, ig_X12, (tg_t (tb4 (List.mem_of_getElem? (i := 226) (by decide +kernel))) rfl), by decide⟩
theorem fl_X12_98 : FL RX12 98 10 19 := ⟨_, _, _, rfl, by decide, ig_X12, (tg_t (tb4 (List.mem_of_getElem? (i := 180) (by decide +kernel))) rfl), by decide⟩
theorem fp_X12_98 : FP RX12 98 10 19 .int := ⟨_, _, _, tyX12, rfl, by decide, ig_X12, (tg_t (tb4 (List.mem_of_getElem? (i := 180) (by decide +kernel))) rfl), by decide, tyX12_ok, nmX12, rfl, by decide +kernel⟩
theorem fl_X12_106 : FL RX12 106 10 29 := ⟨_, _, _, rfl, by decide, ig_X12, (tg_t (tb4 (List.mem_of_getElem? (i := 190) (by decide +kernel))) rfl), by decide⟩
theorem fp_X12_106 : FP RX12 106 10 29 .int := ⟨_, _, _, tyX12, rfl, by decide, ig_X12, (tg_t (tb4 (List.mem_of_getElem? (i := 190) (by decide +kernel))) rfl), by decide, tyX12_ok, nmX12, rfl, by decide +kernel⟩
theorem fl_X12_109 : FL RX12 109 10 30 := ⟨_, _, _, rfl, by decide, ig_X12, (tg_t (tb4 (List.mem_of_getElem? (i := 191) (by decide +kernel))) rfl), by decide⟩
theorem fp_X12_109 : FP RX12 109 10 30 .int := ⟨_, _, _, tyX12, rfl, by decide, ig_X12, (tg_t (tb4 (List.mem_of_getElem? (i := 191) (by decide +kernel))) rfl), by decide, tyX12_ok, nmX12, rfl, by decide +kernel⟩
theorem fl_X12_112 : FL RX12 112 10 31 := ⟨_, _, _, rfl, by decide, ig_X12, (tg_t (tb4 (List.mem_of_getElem? (i := 192) (by decide +kernel))) rfl), by decide⟩
theorem fp_X12_112 : FP RX12 112 10 31 .int := ⟨_, _, _, tyX12, rfl, by decide, ig_X12, (tg_t (tb4 (List.mem_of_getElem? (i := 192) (by decide +kernel))) rfl), by decide, tyX12_ok, nmX12, rfl, by decide +kernel⟩
theorem fl_X12_119 : FL RX12 119 10 32 := ⟨_, _, _, rfl, by decide, ig_X12, (tg_t (tb4 (List.mem_of_getElem? (i := 193) (by decide +kernel))) rfl), by decide⟩
theorem fp_X12_119 : FP RX12 119 10 32 .boolean := ⟨_, _, _, tyX12, rfl, by decide, ig_X12, (tg_t (tb4 (List.mem_of_getElem? (i := 193) (by decide +kernel))) rfl), by decide, tyX12_ok, nmX12, rfl, by decide +kernel⟩
theorem fl_X12_126 : FL RX12 126 10 27 := ⟨_, _, _, rfl, by decide, ig_X12, (tg_t (tb4 (List.mem_of_getElem? (i := 188) (by decide +kernel))) rfl), by decide⟩
theorem fp_X12_126 : FP RX12 126 10 27 .int := ⟨_, _, _, tyX12, rfl, by decide, ig_X12, (tg_t (tb4 (List.mem_of_getElem? (i := 188) (by decide +kernel))) rfl), by decide, tyX12_ok, nmX12, rfl, by decide +kernel⟩
theorem fl_X12_129 : FL RX12 129 10 28 := ⟨_, _, _, rfl, by decide, ig_X12, (tg_t (tb4 (List.mem_of_getElem? (i := 189) (by decide +kernel))) rfl), by decide⟩
theorem fp_X12_129 : FP RX12 129 10 28 .boolean := ⟨_, _, _, tyX12, rfl, by decide, ig_X12, (tg_t (tb4 (List.mem_of_getElem? (i := 189) (by decide +kernel))) rfl), by decide, tyX12_ok, nmX12, rfl, by decide +kernel⟩
theorem fl_X12_132 : FL RX12 132 10 36 := ⟨_, _, _, rfl, by decide, ig_X12, (tg_t (tb4 (List.mem_of_getElem? (i := 197) (by decide +kernel))) rfl), by decide⟩
theorem fp_X12_132 : FP RX12 132 10 36 .int := ⟨_, _, _, tyX12, rfl, by decide, ig_X12, (tg_t (tb4 (List.mem_of_getElem? (i := 197) (by decide +kernel))) rfl), by decide, tyX12_ok, nmX12, rfl, by decide +kernel⟩
theorem fl_X12_135 : FL RX12 135 10 37 := ⟨_, _, _, rfl, by decide, ig_X12, (tg_t (tb4 (List.mem_of_getElem? (i := 198) (by decide +kernel))) rfl), by decide⟩
theorem fp_X12_135 : FP RX12 135 10 37 .int := ⟨_, _, _, tyX12, rfl, by decide, ig_X12, (tg_t (tb4 (List.mem_of_getElem? (i := 198) (by decide +kernel))) rfl), by decide, tyX12_ok, nmX12, rfl, by decide +kernel⟩
theorem fl_X12_138 : FL RX12 138 10 38 := ⟨_, _, _, rfl, by decide, ig_X12, (tg_t (tb4 (List.mem_of_getElem? (i := 199) (by decide +kernel))) rfl), by decide⟩
theorem fp_X12_138 : FP RX12 138 10 38 .int := ⟨_, _, _, tyX12, rfl, by decide, ig_X12, (tg_t (tb4 (List.mem_of_getElem? (i := 199) (by decide +kernel))) rfl), by decide, tyX12_ok, nmX12, rfl, by decide +kernel⟩
theorem fl_X12_149 : FL RX12 149 10 35 := ⟨_, _, _, rfl, by decide, ig_X12, (tg_t (tb4 (List.mem_of_getElem? (i := 196) (by decide +kernel))) rfl), by decide⟩
theorem fp_X12_149 : FP RX12 149 10 35 .int := ⟨_, _, _, tyX12, rfl, by decide, ig_X12, (tg_t (tb4 (List.mem_of_getElem? (i := 196) (by decide +kernel))) rfl), by decide, tyX12_ok, nmX12, rfl, by decide +kernel⟩
theorem fl_X12_165 : FL RX12 165 10 39 := ⟨_, _, _, rfl, by decide, ig_X12, (tg_t (tb4 (List.mem_of_getElem? (i := 200) (by decide +kernel))) rfl), by decide⟩
theorem fp_X12_165 : FP RX12 165 10 39 .int := ⟨_, _, _, tyX12, rfl, by decide, ig_X12, (tg_t (tb4 (List.mem_of_getElem? (i := 200) (by decide +kernel))) rfl), by decide, tyX12_ok, nmX12, rfl, by decide +kernel⟩
theorem fl_X12_178 : FL RX12 178 10 0 := ⟨_, _, _, rfl, by decide, ig_X12, (tg_t (tb4 (List.mem_of_getElem? (i := 161) (by decide +kernel))) rfl), by decide⟩
theorem fp_X12_178 : FP RX12 178 10 0 .int := ⟨_, _, _, tyX12, rfl, by decide, ig_X12, (tg_t (tb4 (List.mem_of_getElem? (i := 161) (by decide +kernel))) rfl), by decide, tyX12_ok, nmX12, rfl, by decide +kernel⟩
theorem fl_X12_181 : FL RX12 181 10 1 := ⟨_, _, _, rfl, by decide, ig_X12, (tg_t (tb4 (List.mem_of_getElem? (i := 162) (by decide +kernel))) rfl), by decide⟩
theorem fp_X12_181 : FP RX12 181 10 1 .int := ⟨_, _, _, tyX12, rfl, by decide, ig_X12, (tg_t (tb4 (List.mem_of_getElem? (i := 162) (by decide +kernel))) rfl), by decide, tyX12_ok, nmX12, rfl, by decide +kernel⟩
theorem fl_X12_184 : FL RX12 184 10 7 := ⟨_, _, _, rfl, by decide, ig_X12, (tg_t (tb4 (List.mem_of_getElem? (i := 168) (by decide +kernel))) rfl), by decide⟩
theorem fp_X12_184 : FP RX12 184 10 7 .int := ⟨_, _, _, tyX12, rfl, by decide, ig_X12, (tg_t (tb4 (List.mem_of_getElem? (i := 168) (by decide +kernel))) rfl), by decide, tyX12_ok, nmX12, rfl, by decide +kernel⟩
theorem fl_X12_187 : FL RX12 187 10 15 := ⟨_, _, _, rfl, by decide, ig_X12, (tg_t (tb4 (List.mem_of_getElem? (i := 176) (by decide +kernel))) rfl), by decide⟩
theorem fp_X12_187 : FP RX12 187 10 15 .int := ⟨_, _, _, tyX12, rfl, by decide, ig_X12, (tg_t (tb4 (List.mem_of_getElem? (i := 176) (by decide +kernel))) rfl), by decide, tyX12_ok, nmX12, rfl, by decide +kernel⟩
theorem fl_X12_190 : FL RX12 190 10 2 := ⟨_, _, _, rfl, by decide, ig_X12, (tg_t (tb4 (List.mem_of_getElem? (i := 163) (by decide +kernel))) rfl), by decide⟩
theorem fp_X12_190 : FP RX12 190 10 2 .int := ⟨_, _, _, tyX12, rfl, by decide, ig_X12, (tg_t (tb4 (List.mem_of_getElem? (i := 163) (by decide +kernel))) rfl), by decide, tyX12_ok, nmX12, rfl, by decide +kernel⟩
theorem fl_X12_193 : FL RX12 193 10 8 := ⟨_, _, _, rfl, by decide, ig_X12, (tg_t (tb4 (List.mem_of_getElem? (i := 169) (by decide +kernel))) rfl), by decide⟩
theorem fp_X12_193 : FP RX12 193 10 8 .int := ⟨_, _, _, tyX12, rfl, by decide, ig_X12, (tg_t (tb4 (List.mem_of_getElem? (i := 169) (by decide +kernel))) rfl), by decide, tyX12_ok, nmX12, rfl, by decide +kernel⟩
theorem fl_X12_212 : FL RX12 212 10 43 := ⟨_, _, _, rfl, by decide, ig_X12, (tg_t (tb4 (List.mem_of_getElem? (i := 204) (by decide +kernel))) rfl), by decide⟩
theorem fp_X12_212 : FP RX12 212 10 43 .int := ⟨_, _, _, tyX12, rfl, by decide, ig_X12, (tg_t (tb4 (List.mem_of_getElem? (i := 204) (by decide +kernel))) rfl), by decide, tyX12_ok, nmX12, rfl, by decide +kernel⟩
theorem fl_X12_215 : FL RX12 215 10 44 := ⟨_, _, _, rfl, by decide, ig_X12, (tg_t (tb4 (List.mem_of_getElem? (i := 205) (by decide +kernel))) rfl), by decide⟩
theorem fp_X12_215 : FP RX12 215 10 44 .int := ⟨_, _, _, tyX12, rfl, by decide, ig_X12, (tg_t (tb4 (List.mem_of_getElem? (i := 205) (by decide +kernel))) rfl), by decide, tyX12_ok, nmX12, rfl, by decide +kernel⟩
theorem fl_X12_218 : FL RX12 218 10 45 := ⟨_, _, _, rfl, by decide, ig_X12, (tg_t (tb4 (List.mem_of_getElem? (i := 206) (by decide +kernel))) rfl), by decide⟩
theorem fp_X12_218 : FP RX12 218 10 45 .int := ⟨_, _, _, tyX12, rfl, by decide, ig_X12, (tg_t (tb4 (List.mem_of_getElem? (i := 206) (by decide +kernel))) rfl), by decide, tyX12_ok, nmX12, rfl, by decide +kernel⟩
theorem fl_X12_221 : FL RX12 221 10 46 := ⟨_, _, _, rfl, by decide, ig_X12, (tg_t (tb4 (List.mem_of_getElem? (i := 207) (by decide +kernel))) rfl), by decide⟩
theorem fp_X12_221 : FP RX12 221 10 46 .int := ⟨_, _, _, tyX12, rfl, by decide, ig_X12, (tg_t (tb4 (List.mem_of_getElem? (i := 207) (by decide +kernel))) rfl), by decide, tyX12_ok, nmX12, rfl, by decide +kernel⟩
theorem fl_X12_224 : FL RX12 224 10 47 := ⟨_, _, _, rfl, by decide, ig_X12, (tg_t (tb4 (List.mem_of_getElem? (i := 208) (by decide +kernel))) rfl), by decide⟩
theorem fp_X12_224 : FP RX12 224 10 47 .int := ⟨_, _, _, tyX12, rfl, by decide, ig_X12, (tg_t (tb4 (List.mem_of_getElem? (i := 208) (by decide +kernel))) rfl), by decide, tyX12_ok, nmX12, rfl, by decide +kernel⟩
theorem fl_X12_227 : FL RX12 227 10 48 := ⟨_, _, _, rfl, by decide, ig_X12, (tg_t (tb4 (List.mem_of_getElem? (i := 209) (by decide +kernel))) rfl), by decide⟩
theorem fp_X12_227 : FP RX12 227 10 48 .int := ⟨_, _, _, tyX12, rfl, by decide, ig_X12, (tg_t (tb4 (List.mem_of_getElem? (i := 209) (by decide +kernel))) rfl), by decide, tyX12_ok, nmX12, rfl, by decide +kernel⟩
theorem fl_X12_239 : FL RX12 239 10 59 := ⟨_, _, _, rfl, by decide, ig_X12, (tg_t (tb4 (List.mem_of_getElem? (i := 220) (by decide +kernel))) rfl), by decide⟩
theorem fp_X12_239 : FP RX12 239 10 59 .int := ⟨_, _, _, tyX12, rfl, by decide, ig_X12, (tg_t (tb4 (List.mem_of_getElem? (i := 220) (by decide +kernel))) rfl), by decide, tyX12_ok, nmX12, rfl, by decide +kernel⟩
theorem fl_X12_243 : FL RX12 243 10 58 := ⟨_, _, _, rfl, by decide, ig_X12, (tg_t (tb4 (List.mem_of_getElem? (i := 219) (by decide +kernel))) rfl), by decide⟩
theorem fp_X12_243 : FP RX12 243 10 58 .int := ⟨_, _, _, tyX12, rfl, by decide, ig_X12, (tg_t (tb4 (List.mem_of_getElem? (i := 219) (by decide +kernel))) rfl), by decide, tyX12_ok, nmX12, rfl, by decide +kernel⟩
theorem fl_X12_246 : FL RX12 246 10 55 := ⟨_, _, _, rfl, by decide, ig_X12, (tg_t (tb4 (List.mem_of_getElem? (i := 216) (by decide +kernel))) rfl), by decide⟩
theorem fp_X12_246 : FP RX12 246 10 55 .int := ⟨_, _, _, tyX12, rfl, by decide, ig_X12, (tg_t (tb4 (List.mem_of_getElem? (i := 216) (by decide +kernel))) rfl), by decide, tyX12_ok, nmX12, rfl, by decide +kernel⟩
theorem fl_X12_249 : FL RX12 249 10 56 := ⟨_, _, _, rfl, by decide, ig_X12, (tg_t (tb4 (List.mem_of_getElem? (i := 217) (by decide +kernel))) rfl), by decide⟩
theorem fp_X12_249 : FP RX12 249 10 56 .int := ⟨_, _, _, tyX12, rfl, by decide, ig_X12, (tg_t (tb4 (List.mem_of_getElem? (i := 217) (by decide +kernel))) rfl), by decide, tyX12_ok, nmX12, rfl, by decide +kernel⟩
theorem fl_X12_252 : FL RX12 252 10 57 := ⟨_, _, _, rfl, by decide, ig_X12, (tg_t (tb4 (List.mem_of_getElem? (i := 218) (by decide +kernel))) rfl), by decide⟩
theorem fp_X12_252 : FP RX12 252 10 57 .int := ⟨_, _, _, tyX12, rfl, by decide, ig_X12, (tg_t (tb4 (List.mem_of_getElem? (i := 218) (by decide +kernel))) rfl), by decide, tyX12_ok, nmX12, rfl, by decide +kernel⟩
theorem fl_X12_255 : FL RX12 255 10 54 := ⟨_, _, _, rfl, by decide, ig_X12, (tg_t (tb4 (List.mem_of_getElem? (i := 215) (by decide +kernel))) rfl), by decide⟩
theorem fp_X12_255 : FP RX12 255 10 54 .int := ⟨_, _, _, tyX12, rfl, by decide, ig_X12, (tg_t (tb4 (List.mem_of_getElem? (i := 215) (by decide +kernel))) rfl), by decide, tyX12_ok, nmX12, rfl, by decide +kernel⟩
theorem fl_X12_261 : FL RX12 261 10 60 := ⟨_, _, _, rfl, by decide, ig_X12, (tg_t (tb4 (List.mem_of_getElem? (i := 221) (by decide +kernel))) rfl), by decide⟩
theorem fp_X12_261 : FP RX12 261 10 60 .int := ⟨_, _, _, tyX12, rfl, by decide, ig_X12, (tg_t (tb4 (List.mem_of_getElem? (i := 221) (by decide +kernel))) rfl), by decide, tyX12_ok, nmX12, rfl, by decide +kernel⟩
theorem fl_X12_301 : FL RX12 301 10 61 := ⟨_, _, _, rfl, by decide, ig_X12, (tg_t (tb4 (List.mem_of_getElem? (i := 222) (by decide +kernel))) rfl), by decide⟩
theorem fp_X12_301 : FP RX12 301 10 61 .int := ⟨_, _, _, tyX12, rfl, by decide, ig_X12, (tg_t (tb4 (List.mem_of_getElem? (i := 222) (by decide +kernel))) rfl), by decide, tyX12_ok, nmX12, rfl, by decide +kernel⟩
theorem fl_X12_304 : FL RX12 304 10 62 := ⟨_, _, _, rfl, by decide, ig_X12, (tg_t (tb4 (List.mem_of_getElem? (i := 223) (by decide +kernel))) rfl), by decide⟩
theorem fp_X12_304 : FP RX12 304 10 62 .int := ⟨_, _, _, tyX12, rfl, by decide, ig_X12, (tg_t (tb4 (List.mem_of_getElem? (i := 223) (by decide +kernel))) rfl), by decide, tyX12_ok, nmX12, rfl, by decide +kernel⟩
theorem fl_X12_313 : FL RX12 313 10 18 := ⟨_, _, _, rfl, by decide, ig_X12, (tg_t (tb4 (List.mem_of_getElem? (i := 179) (by decide +kernel))) rfl), by decide⟩
theorem fp_X12_313 : FP RX12 313 10 18 .int := ⟨_, _, _, tyX12, rfl, by decide, ig_X12, (tg_t (tb4 (List.mem_of_getElem? (i := 179) (by decide +kernel))) rfl), by decide, tyX12_ok, nmX12, rfl, by decide +kernel⟩
theorem fl_X12_335 : FL RX12 335 10 21 := ⟨_, _, _, rfl, by decide, ig_X12, (tg_t (tb4 (List.mem_of_getElem? (i := 182) (by decide +kernel))) rfl), by decide⟩
theorem fp_X12_335 : FP RX12 335 10 21 .boolean := ⟨_, _, _, tyX12, rfl, by decide, ig_X12, (tg_t (tb4 (List.mem_of_getElem? (i := 182) (by decide +kernel))) rfl), by decide, tyX12_ok, nmX12, rfl, by decide +kernel⟩
theorem fl_X12_338 : FL RX12 338 10 22 := ⟨_, _, _, rfl, by decide, ig_X12, (tg_t (tb4 (List.mem_of_getElem? (i := 183) (by decide +kernel))) rfl), by decide⟩
theorem fp_X12_338 : FP RX12 338 10 22 .int := ⟨_, _, _, tyX12, rfl, by decide, ig_X12, (tg_t (tb4 (List.mem_of_getElem? (i := 183) (by decide +kernel))) rfl), by decide, tyX12_ok, nmX12, rfl, by decide +kernel⟩
theorem fl_X12_341 : FL RX12 341 10 23 := ⟨_, _, _, rfl, by decide, ig_X12, (tg_t (tb4 (List.mem_of_getElem? (i := 184) (by decide +kernel))) rfl), by decide⟩
theorem fp_X12_341 : FP RX12 341 10 23 .int := ⟨_, _, _, tyX12, rfl, by decide, ig_X12, (tg_t (tb4 (List.mem_of_getElem? (i := 184) (by decide +kernel))) rfl), by decide, tyX12_ok, nmX12, rfl, by decide +kernel⟩
theorem fl_X12_344 : FL RX12 344 10 24 := ⟨_, _, _, rfl, by decide, ig_X12, (tg_t (tb4 (List.mem_of_getElem? (i := 185) (by decide +kernel))) rfl), by decide⟩
theorem fp_X12_344 : FP RX12 344 10 24 .int := ⟨_, _, _, tyX12, rfl, by decide, ig_X12, (tg_t (tb4 (List.mem_of_getElem? (i := 185) (by decide +kernel))) rfl), by decide, tyX12_ok, nmX12, rfl, by decide +kernel⟩
theorem fl_X12_355 : FL RX12 355 10 66 := ⟨_, _, _, rfl, by decide, ig_X12, (tg_t (tb4 (List.mem_of_getElem? (i := 227) (by decide +kernel))) rfl), by decide⟩
theorem fp_X12_355 : FP RX12 355 10 66 .long := ⟨_, _, _, tyX12, rfl, by decide, ig_X12, (tg_t (tb4 (List.mem_of_getElem? (i := 227) (by decide +kernel))) rfl), by decide, tyX12_ok, nmX12, rfl, by decide +kernel⟩
theorem mv_X0_isRight : MV yX0_isRight cX0_isRight 1 (some .boolean) 0 := ⟨(tg_t (tb3 (List.mem_of_getElem? (i := 238) (by decide +kernel))) rfl), (tg_t (tb3 (List.mem_of_getElem? (i := 239) (by decide +kernel))) rfl), (tg_t (tb1 (List.mem_of_getElem? (i := 9) (by decide +kernel))) rfl), (tg_t (tb4 (List.mem_of_getElem? (i := 0) rfl)) rfl), ⟨by decide +kernel, by decide +kernel, by decide +kernel⟩⟩
theorem mw_X0_isRight : Cond.instanceMethod yX0_isRight ∈ tblG ∧ Cond.initialized yX0_isRight.cls ∈ tblG ∧ Cond.code yX0_isRight cX0_isRight 1 (some .boolean) ∈ tblG := ⟨(tg_t (tb3 (List.mem_of_getElem? (i := 238) (by decide +kernel))) rfl), (tg_t (tb1 (List.mem_of_getElem? (i := 9) (by decide +kernel))) rfl), (tg_t (tb4 (List.mem_of_getElem? (i := 0) rfl)) rfl)⟩
theorem mv_X0_passesAs : MV yX0_passesAs cX0_passesAs 3 (some .boolean) 1 := ⟨(tg_t (tb3 (List.mem_of_getElem? (i := 202) (by decide +kernel))) rfl), (tg_t (tb3 (List.mem_of_getElem? (i := 203) (by decide +kernel))) rfl), (tg_t (tb1 (List.mem_of_getElem? (i := 9) (by decide +kernel))) rfl), (tg_t (tb3 (List.mem_of_getElem? (i := 204) rfl)) rfl), ⟨by decide +kernel, by decide +kernel, by decide +kernel⟩⟩
theorem mw_X0_passesAs : Cond.instanceMethod yX0_passesAs ∈ tblG ∧ Cond.initialized yX0_passesAs.cls ∈ tblG ∧ Cond.code yX0_passesAs cX0_passesAs 3 (some .boolean) ∈ tblG := ⟨(tg_t (tb3 (List.mem_of_getElem? (i := 202) (by decide +kernel))) rfl), (tg_t (tb1 (List.mem_of_getElem? (i := 9) (by decide +kernel))) rfl), (tg_t (tb3 (List.mem_of_getElem? (i := 204) rfl)) rfl)⟩
theorem mv_X0_measure : MV yX0_measure cX0_measure 5 none 0 := ⟨(tg_t (tb3 (List.mem_of_getElem? (i := 177) (by decide +kernel))) rfl), (tg_t (tb3 (List.mem_of_getElem? (i := 178) (by decide +kernel))) rfl), (tg_t (tb1 (List.mem_of_getElem? (i := 9) (by decide +kernel))) rfl), (tg_t (tb3 (List.mem_of_getElem? (i := 179) rfl)) rfl), ⟨by decide +kernel, by decide +kernel, by decide +kernel⟩⟩
theorem mw_X0_measure : Cond.instanceMethod yX0_measure ∈ tblG ∧ Cond.initialized yX0_measure.cls ∈ tblG ∧ Cond.code yX0_measure cX0_measure 5 none ∈ tblG := ⟨(tg_t (tb3 (List.mem_of_getElem? (i := 177) (by decide +kernel))) rfl), (tg_t (tb1 (List.mem_of_getElem? (i := 9) (by decide +kernel))) rfl), (tg_t (tb3 (List.mem_of_getElem? (i := 179) rfl)) rfl)⟩
theorem mv_X0_judge : MV yX0_judge cX0_judge 5 none 3 := ⟨(tg_t (tb3 (List.mem_of_getElem? (i := 173) (by decide +kernel))) rfl), (tg_t (tb3 (List.mem_of_getElem? (i := 174) (by decide +kernel))) rfl), (tg_t (tb1 (List.mem_of_getElem? (i := 9) (by decide +kernel))) rfl), (tg_t (tb3 (List.mem_of_getElem? (i := 175) rfl)) rfl), ⟨by decide +kernel, by decide +kernel, by decide +kernel⟩⟩
theorem mw_X0_judge : Cond.instanceMethod yX0_judge ∈ tblG ∧ Cond.initialized yX0_judge.cls ∈ tblG ∧ Cond.code yX0_judge cX0_judge 5 none ∈ tblG := ⟨(tg_t (tb3 (List.mem_of_getElem? (i := 173) (by decide +kernel))) rfl), (tg_t (tb1 (List.mem_of_getElem? (i := 9) (by decide +kernel))) rfl), (tg_t (tb3 (List.mem_of_getElem? (i := 175) rfl)) rfl)⟩
theorem mv_X0_kindNow : MV yX0_kindNow cX0_kindNow 2 (some .int) 0 := ⟨(tg_t (tb3 (List.mem_of_getElem? (i := 185) (by decide +kernel))) rfl), (tg_s (List.mem_of_getElem? (i := 15) (by decide +kernel)) rfl), (tg_t (tb1 (List.mem_of_getElem? (i := 9) (by decide +kernel))) rfl), (tg_t (tb3 (List.mem_of_getElem? (i := 186) rfl)) rfl), ⟨by decide +kernel, by decide +kernel, by decide +kernel⟩⟩
theorem mw_X0_kindNow : Cond.instanceMethod yX0_kindNow ∈ tblG ∧ Cond.initialized yX0_kindNow.cls ∈ tblG ∧ Cond.code yX0_kindNow cX0_kindNow 2 (some .int) ∈ tblG := ⟨(tg_t (tb3 (List.mem_of_getElem? (i := 185) (by decide +kernel))) rfl), (tg_t (tb1 (List.mem_of_getElem? (i := 9) (by decide +kernel))) rfl), (tg_t (tb3 (List.mem_of_getElem? (i := 186) rfl)) rfl)⟩
theorem mv_X1_clear : MV yX1_clear cX1_clear 1 none 0 := ⟨(tg_t (tb3 (List.mem_of_getElem? (i := 56) (by decide +kernel))) rfl), (tg_t (tb3 (List.mem_of_getElem? (i := 57) (by decide +kernel))) rfl), (tg_t (tb1 (List.mem_of_getElem? (i := 8) (by decide +kernel))) rfl), (tg_t (tb3 (List.mem_of_getElem? (i := 58) rfl)) rfl), ⟨by decide +kernel, by decide +kernel, by decide +kernel⟩⟩
theorem mw_X1_clear : Cond.instanceMethod yX1_clear ∈ tblG ∧ Cond.initialized yX1_clear.cls ∈ tblG ∧ Cond.code yX1_clear cX1_clear 1 none ∈ tblG := ⟨(tg_t (tb3 (List.mem_of_getElem? (i := 56) (by decide +kernel))) rfl), (tg_t (tb1 (List.mem_of_getElem? (i := 8) (by decide +kernel))) rfl), (tg_t (tb3 (List.mem_of_getElem? (i := 58) rfl)) rfl)⟩
theorem mv_X1_clearBits : MV yX1_clearBits cX1_clearBits 1 none 0 := ⟨(tg_t (tb3 (List.mem_of_getElem? (i := 61) (by decide +kernel))) rfl), (tg_t (tb3 (List.mem_of_getElem? (i := 62) (by decide +kernel))) rfl), (tg_t (tb1 (List.mem_of_getElem? (i := 8) (by decide +kernel))) rfl), (tg_t (tb3 (List.mem_of_getElem? (i := 63) rfl)) rfl), ⟨by decide +kernel, by decide +kernel, by decide +kernel⟩⟩
theorem mw_X1_clearBits : Cond.instanceMethod yX1_clearBits ∈ tblG ∧ Cond.initialized yX1_clearBits.cls ∈ tblG ∧ Cond.code yX1_clearBits cX1_clearBits 1 none ∈ tblG := ⟨(tg_t (tb3 (List.mem_of_getElem? (i := 61) (by decide +kernel))) rfl), (tg_t (tb1 (List.mem_of_getElem? (i := 8) (by decide +kernel))) rfl), (tg_t (tb3 (List.mem_of_getElem? (i := 63) rfl)) rfl)⟩
theorem mv_X1_become : MV yX1_become cX1_become 2 none 1 := ⟨(tg_t (tb3 (List.mem_of_getElem? (i := 220) (by decide +kernel))) rfl), (tg_t (tb3 (List.mem_of_getElem? (i := 221) (by decide +kernel))) rfl), (tg_t (tb1 (List.mem_of_getElem? (i := 8) (by decide +kernel))) rfl), (tg_t (tb3 (List.mem_of_getElem? (i := 222) rfl)) rfl), ⟨by decide +kernel, by decide +kernel, by decide +kernel⟩⟩
theorem mw_X1_become : Cond.instanceMethod yX1_become ∈ tblG ∧ Cond.initialized yX1_become.cls ∈ tblG ∧ Cond.code yX1_become cX1_become 2 none ∈ tblG := ⟨(tg_t (tb3 (List.mem_of_getElem? (i := 220) (by decide +kernel))) rfl), (tg_t (tb1 (List.mem_of_getElem? (i := 8) (by decide +kernel))) rfl), (tg_t (tb3 (List.mem_of_getElem? (i := 222) rfl)) rfl)⟩
theorem mv_X1_takeWarmth : MV yX1_takeWarmth cX1_takeWarmth 2 none 1 := ⟨(tg_t (tb3 (List.mem_of_getElem? (i := 224) (by decide +kernel))) rfl), (tg_t (tb3 (List.mem_of_getElem? (i := 225) (by decide +kernel))) rfl), (tg_t (tb1 (List.mem_of_getElem? (i := 8) (by decide +kernel))) rfl), (tg_t (tb3 (List.mem_of_getElem? (i := 226) rfl)) rfl), ⟨by decide +kernel, by decide +kernel, by decide +kernel⟩⟩
theorem mw_X1_takeWarmth : Cond.instanceMethod yX1_takeWarmth ∈ tblG ∧ Cond.initialized yX1_takeWarmth.cls ∈ tblG ∧ Cond.code yX1_takeWarmth cX1_takeWarmth 2 none ∈ tblG := ⟨(tg_t (tb3 (List.mem_of_getElem? (i := 224) (by decide +kernel))) rfl), (tg_t (tb1 (List.mem_of_getElem? (i := 8) (by decide +kernel))) rfl), (tg_t (tb3 (List.mem_of_getElem? (i := 226) rfl)) rfl)⟩
theorem mv_X1_bitsTogether : MV yX1_bitsTogether cX1_bitsTogether 3 (some .int) 0 := ⟨(tg_t (tb3 (List.mem_of_getElem? (i := 122) (by decide +kernel))) rfl), (tg_t (tb3 (List.mem_of_getElem? (i := 123) (by decide +kernel))) rfl), (tg_t (tb1 (List.mem_of_getElem? (i := 8) (by decide +kernel))) rfl), (tg_t (tb3 (List.mem_of_getElem? (i := 124) rfl)) rfl), ⟨by decide +kernel, by decide +kernel, by decide +kernel⟩⟩
theorem mw_X1_bitsTogether : Cond.instanceMethod yX1_bitsTogether ∈ tblG ∧ Cond.initialized yX1_bitsTogether.cls ∈ tblG ∧ Cond.code yX1_bitsTogether cX1_bitsTogether 3 (some .int) ∈ tblG := ⟨(tg_t (tb3 (List.mem_of_getElem? (i := 122) (by decide +kernel))) rfl), (tg_t (tb1 (List.mem_of_getElem? (i := 8) (by decide +kernel))) rfl), (tg_t (tb3 (List.mem_of_getElem? (i := 124) rfl)) rfl)⟩
theorem mv_X1_cool : MV yX1_cool cX1_cool 3 none 2 := ⟨(tg_t (tb3 (List.mem_of_getElem? (i := 143) (by decide +kernel))) rfl), (tg_t (tb3 (List.mem_of_getElem? (i := 144) (by decide +kernel))) rfl), (tg_t (tb1 (List.mem_of_getElem? (i := 8) (by decide +kernel))) rfl), (tg_t (tb3 (List.mem_of_getElem? (i := 145) rfl)) rfl), ⟨by decide +kernel, by decide +kernel, by decide +kernel⟩⟩
theorem mw_X1_cool : Cond.instanceMethod yX1_cool ∈ tblG ∧ Cond.initialized yX1_cool.cls ∈ tblG ∧ Cond.code yX1_cool cX1_cool 3 none ∈ tblG := ⟨(tg_t (tb3 (List.mem_of_getElem? (i := 143) (by decide +kernel))) rfl), (tg_t (tb1 (List.mem_of_getElem? (i := 8) (by decide +kernel))) rfl), (tg_t (tb3 (List.mem_of_getElem? (i := 145) rfl)) rfl)⟩
theorem mv_X1_heat : MV yX1_heat cX1_heat 10 (some .int) 4 := ⟨(tg_t (tb3 (List.mem_of_getElem? (i := 109) (by decide +kernel))) rfl), (tg_t (tb3 (List.mem_of_getElem? (i := 110) (by decide +kernel))) rfl), (tg_t (tb1 (List.mem_of_getElem? (i := 8) (by decide +kernel))) rfl), (tg_t (tb3 (List.mem_of_getElem? (i := 111) rfl)) rfl), ⟨by decide +kernel, by decide +kernel, by decide +kernel⟩⟩
theorem mw_X1_heat : Cond.instanceMethod yX1_heat ∈ tblG ∧ Cond.initialized yX1_heat.cls ∈ tblG ∧ Cond.code yX1_heat cX1_heat 10 (some .int) ∈ tblG := ⟨(tg_t (tb3 (List.mem_of_getElem? (i := 109) (by decide +kernel))) rfl), (tg_t (tb1 (List.mem_of_getElem? (i := 8) (by decide +kernel))) rfl), (tg_t (tb3 (List.mem_of_getElem? (i := 111) rfl)) rfl)⟩
theorem mv_X2_next : MV yX2_next cX2_next 3 (some (.object "FirstPancake$Cake")) 2 := ⟨(tg_t (tb3 (List.mem_of_getElem? (i := 216) (by decide +kernel))) rfl), (tg_t (tb3 (List.mem_of_getElem? (i := 217) (by decide +kernel))) rfl), (tg_t (tb1 (List.mem_of_getElem? (i := 7) (by decide +kernel))) rfl), (tg_t (tb3 (List.mem_of_getElem? (i := 218) rfl)) rfl), ⟨by decide +kernel, by decide +kernel, by decide +kernel⟩⟩
theorem mw_X2_next : Cond.instanceMethod yX2_next ∈ tblG ∧ Cond.initialized yX2_next.cls ∈ tblG ∧ Cond.code yX2_next cX2_next 3 (some (.object "FirstPancake$Cake")) ∈ tblG := ⟨(tg_t (tb3 (List.mem_of_getElem? (i := 216) (by decide +kernel))) rfl), (tg_t (tb1 (List.mem_of_getElem? (i := 7) (by decide +kernel))) rfl), (tg_t (tb3 (List.mem_of_getElem? (i := 218) rfl)) rfl)⟩
theorem mv_X2_firstOfTheRight : MV yX2_firstOfTheRight cX2_firstOfTheRight 5 (some .int) 2 := ⟨(tg_t (tb3 (List.mem_of_getElem? (i := 234) (by decide +kernel))) rfl), (tg_t (tb3 (List.mem_of_getElem? (i := 235) (by decide +kernel))) rfl), (tg_t (tb1 (List.mem_of_getElem? (i := 7) (by decide +kernel))) rfl), (tg_t (tb3 (List.mem_of_getElem? (i := 236) rfl)) rfl), ⟨by decide +kernel, by decide +kernel, by decide +kernel⟩⟩
theorem mw_X2_firstOfTheRight : Cond.instanceMethod yX2_firstOfTheRight ∈ tblG ∧ Cond.initialized yX2_firstOfTheRight.cls ∈ tblG ∧ Cond.code yX2_firstOfTheRight cX2_firstOfTheRight 5 (some .int) ∈ tblG := ⟨(tg_t (tb3 (List.mem_of_getElem? (i := 234) (by decide +kernel))) rfl), (tg_t (tb1 (List.mem_of_getElem? (i := 7) (by decide +kernel))) rfl), (tg_t (tb3 (List.mem_of_getElem? (i := 236) rfl)) rfl)⟩
theorem mv_X2_notRight : MV yX2_notRight cX2_notRight 5 (some .int) 2 := ⟨(tg_t (tb4 (List.mem_of_getElem? (i := 6) (by decide +kernel))) rfl), (tg_t (tb4 (List.mem_of_getElem? (i := 7) (by decide +kernel))) rfl), (tg_t (tb1 (List.mem_of_getElem? (i := 7) (by decide +kernel))) rfl), (tg_t (tb4 (List.mem_of_getElem? (i := 8) rfl)) rfl), ⟨by decide +kernel, by decide +kernel, by decide +kernel⟩⟩
theorem mw_X2_notRight : Cond.instanceMethod yX2_notRight ∈ tblG ∧ Cond.initialized yX2_notRight.cls ∈ tblG ∧ Cond.code yX2_notRight cX2_notRight 5 (some .int) ∈ tblG := ⟨(tg_t (tb4 (List.mem_of_getElem? (i := 6) (by decide +kernel))) rfl), (tg_t (tb1 (List.mem_of_getElem? (i := 7) (by decide +kernel))) rfl), (tg_t (tb4 (List.mem_of_getElem? (i := 8) rfl)) rfl)⟩
theorem mv_X2_reasons : MV yX2_reasons cX2_reasons 4 (some .int) 2 := ⟨(tg_t (tb4 (List.mem_of_getElem? (i := 14) (by decide +kernel))) rfl), (tg_t (tb4 (List.mem_of_getElem? (i := 15) (by decide +kernel))) rfl), (tg_t (tb1 (List.mem_of_getElem? (i := 7) (by decide +kernel))) rfl), (tg_t (tb4 (List.mem_of_getElem? (i := 16) rfl)) rfl), ⟨by decide +kernel, by decide +kernel, by decide +kernel⟩⟩
theorem mw_X2_reasons : Cond.instanceMethod yX2_reasons ∈ tblG ∧ Cond.initialized yX2_reasons.cls ∈ tblG ∧ Cond.code yX2_reasons cX2_reasons 4 (some .int) ∈ tblG := ⟨(tg_t (tb4 (List.mem_of_getElem? (i := 14) (by decide +kernel))) rfl), (tg_t (tb1 (List.mem_of_getElem? (i := 7) (by decide +kernel))) rfl), (tg_t (tb4 (List.mem_of_getElem? (i := 16) rfl)) rfl)⟩
theorem mv_X2_warmBySix : MV yX2_warmBySix cX2_warmBySix 4 none 2 := ⟨(tg_t (tb4 (List.mem_of_getElem? (i := 20) (by decide +kernel))) rfl), (tg_s (List.mem_of_getElem? (i := 17) (by decide +kernel)) rfl), (tg_t (tb1 (List.mem_of_getElem? (i := 7) (by decide +kernel))) rfl), (tg_t (tb4 (List.mem_of_getElem? (i := 21) rfl)) rfl), ⟨by decide +kernel, by decide +kernel, by decide +kernel⟩⟩
theorem mw_X2_warmBySix : Cond.instanceMethod yX2_warmBySix ∈ tblG ∧ Cond.initialized yX2_warmBySix.cls ∈ tblG ∧ Cond.code yX2_warmBySix cX2_warmBySix 4 none ∈ tblG := ⟨(tg_t (tb4 (List.mem_of_getElem? (i := 20) (by decide +kernel))) rfl), (tg_t (tb1 (List.mem_of_getElem? (i := 7) (by decide +kernel))) rfl), (tg_t (tb4 (List.mem_of_getElem? (i := 21) rfl)) rfl)⟩
theorem mv_X2_findFire : MV yX2_findFire cX2_findFire 6 none 3 := ⟨(tg_t (tb4 (List.mem_of_getElem? (i := 29) (by decide +kernel))) rfl), (tg_t (tb4 (List.mem_of_getElem? (i := 30) (by decide +kernel))) rfl), (tg_t (tb1 (List.mem_of_getElem? (i := 7) (by decide +kernel))) rfl), (tg_t (tb4 (List.mem_of_getElem? (i := 31) rfl)) rfl), ⟨by decide +kernel, by decide +kernel, by decide +kernel⟩⟩
theorem mw_X2_findFire : Cond.instanceMethod yX2_findFire ∈ tblG ∧ Cond.initialized yX2_findFire.cls ∈ tblG ∧ Cond.code yX2_findFire cX2_findFire 6 none ∈ tblG := ⟨(tg_t (tb4 (List.mem_of_getElem? (i := 29) (by decide +kernel))) rfl), (tg_t (tb1 (List.mem_of_getElem? (i := 7) (by decide +kernel))) rfl), (tg_t (tb4 (List.mem_of_getElem? (i := 31) rfl)) rfl)⟩
theorem mv_X2_worthOf : MV yX2_worthOf cX2_worthOf 5 (some .int) 2 := ⟨(tg_t (tb4 (List.mem_of_getElem? (i := 38) (by decide +kernel))) rfl), (tg_s (List.mem_of_getElem? (i := 18) (by decide +kernel)) rfl), (tg_t (tb1 (List.mem_of_getElem? (i := 7) (by decide +kernel))) rfl), (tg_t (tb4 (List.mem_of_getElem? (i := 39) rfl)) rfl), ⟨by decide +kernel, by decide +kernel, by decide +kernel⟩⟩
theorem mw_X2_worthOf : Cond.instanceMethod yX2_worthOf ∈ tblG ∧ Cond.initialized yX2_worthOf.cls ∈ tblG ∧ Cond.code yX2_worthOf cX2_worthOf 5 (some .int) ∈ tblG := ⟨(tg_t (tb4 (List.mem_of_getElem? (i := 38) (by decide +kernel))) rfl), (tg_t (tb1 (List.mem_of_getElem? (i := 7) (by decide +kernel))) rfl), (tg_t (tb4 (List.mem_of_getElem? (i := 39) rfl)) rfl)⟩
theorem mv_X2_findSwings : MV yX2_findSwings cX2_findSwings 6 none 3 := ⟨(tg_t (tb4 (List.mem_of_getElem? (i := 45) (by decide +kernel))) rfl), (tg_t (tb4 (List.mem_of_getElem? (i := 46) (by decide +kernel))) rfl), (tg_t (tb1 (List.mem_of_getElem? (i := 7) (by decide +kernel))) rfl), (tg_t (tb4 (List.mem_of_getElem? (i := 47) rfl)) rfl), ⟨by decide +kernel, by decide +kernel, by decide +kernel⟩⟩
theorem mw_X2_findSwings : Cond.instanceMethod yX2_findSwings ∈ tblG ∧ Cond.initialized yX2_findSwings.cls ∈ tblG ∧ Cond.code yX2_findSwings cX2_findSwings 6 none ∈ tblG := ⟨(tg_t (tb4 (List.mem_of_getElem? (i := 45) (by decide +kernel))) rfl), (tg_t (tb1 (List.mem_of_getElem? (i := 7) (by decide +kernel))) rfl), (tg_t (tb4 (List.mem_of_getElem? (i := 47) rfl)) rfl)⟩
theorem ms_X2_swingOf : MSt yX2_swingOf cX2_swingOf 3 (some .int) 3 := ⟨(tg_t (tb4 (List.mem_of_getElem? (i := 51) (by decide +kernel))) rfl), (tg_t (tb1 (List.mem_of_getElem? (i := 7) (by decide +kernel))) rfl), (tg_t (tb4 (List.mem_of_getElem? (i := 52) rfl)) rfl), ⟨by decide +kernel, by decide +kernel, by decide +kernel⟩⟩
theorem mv_X2_findTwo : MV yX2_findTwo cX2_findTwo 8 none 3 := ⟨(tg_t (tb4 (List.mem_of_getElem? (i := 61) (by decide +kernel))) rfl), (tg_t (tb4 (List.mem_of_getElem? (i := 62) (by decide +kernel))) rfl), (tg_t (tb1 (List.mem_of_getElem? (i := 7) (by decide +kernel))) rfl), (tg_t (tb4 (List.mem_of_getElem? (i := 63) rfl)) rfl), ⟨by decide +kernel, by decide +kernel, by decide +kernel⟩⟩
theorem mw_X2_findTwo : Cond.instanceMethod yX2_findTwo ∈ tblG ∧ Cond.initialized yX2_findTwo.cls ∈ tblG ∧ Cond.code yX2_findTwo cX2_findTwo 8 none ∈ tblG := ⟨(tg_t (tb4 (List.mem_of_getElem? (i := 61) (by decide +kernel))) rfl), (tg_t (tb1 (List.mem_of_getElem? (i := 7) (by decide +kernel))) rfl), (tg_t (tb4 (List.mem_of_getElem? (i := 63) rfl)) rfl)⟩
theorem mv_X3_work : MV yX3_work cX3_work 10 none 5 := ⟨(tg_t (tb4 (List.mem_of_getElem? (i := 69) (by decide +kernel))) rfl), (tg_t (tb4 (List.mem_of_getElem? (i := 70) (by decide +kernel))) rfl), (tg_t (tb1 (List.mem_of_getElem? (i := 11) (by decide +kernel))) rfl), (tg_t (tb4 (List.mem_of_getElem? (i := 71) rfl)) rfl), ⟨by decide +kernel, by decide +kernel, by decide +kernel⟩⟩
theorem mw_X3_work : Cond.instanceMethod yX3_work ∈ tblG ∧ Cond.initialized yX3_work.cls ∈ tblG ∧ Cond.code yX3_work cX3_work 10 none ∈ tblG := ⟨(tg_t (tb4 (List.mem_of_getElem? (i := 69) (by decide +kernel))) rfl), (tg_t (tb1 (List.mem_of_getElem? (i := 11) (by decide +kernel))) rfl), (tg_t (tb4 (List.mem_of_getElem? (i := 71) rfl)) rfl)⟩
theorem mv_X3_longestWanting : MV yX3_longestWanting cX3_longestWanting 4 (some .int) 1 := ⟨(tg_t (tb4 (List.mem_of_getElem? (i := 75) (by decide +kernel))) rfl), (tg_s (List.mem_of_getElem? (i := 19) (by decide +kernel)) rfl), (tg_t (tb1 (List.mem_of_getElem? (i := 11) (by decide +kernel))) rfl), (tg_t (tb4 (List.mem_of_getElem? (i := 76) rfl)) rfl), ⟨by decide +kernel, by decide +kernel, by decide +kernel⟩⟩
theorem mw_X3_longestWanting : Cond.instanceMethod yX3_longestWanting ∈ tblG ∧ Cond.initialized yX3_longestWanting.cls ∈ tblG ∧ Cond.code yX3_longestWanting cX3_longestWanting 4 (some .int) ∈ tblG := ⟨(tg_t (tb4 (List.mem_of_getElem? (i := 75) (by decide +kernel))) rfl), (tg_t (tb1 (List.mem_of_getElem? (i := 11) (by decide +kernel))) rfl), (tg_t (tb4 (List.mem_of_getElem? (i := 76) rfl)) rfl)⟩
theorem ms_X4_lettersIn : MSt yX4_lettersIn cX4_lettersIn 5 (some .int) 1 := ⟨(tg_t (tb2 (List.mem_of_getElem? (i := 87) (by decide +kernel))) rfl), (tg_t (tb1 (List.mem_of_getElem? (i := 2) (by decide +kernel))) rfl), (tg_t (tb2 (List.mem_of_getElem? (i := 88) rfl)) rfl), ⟨by decide +kernel, by decide +kernel, by decide +kernel⟩⟩
theorem mv_X4_add : MV yX4_add cX4_add 5 none 2 := ⟨(tg_t (tb2 (List.mem_of_getElem? (i := 93) (by decide +kernel))) rfl), (tg_t (tb2 (List.mem_of_getElem? (i := 94) (by decide +kernel))) rfl), (tg_t (tb1 (List.mem_of_getElem? (i := 2) (by decide +kernel))) rfl), (tg_t (tb2 (List.mem_of_getElem? (i := 95) rfl)) rfl), ⟨by decide +kernel, by decide +kernel, by decide +kernel⟩⟩
theorem mw_X4_add : Cond.instanceMethod yX4_add ∈ tblG ∧ Cond.initialized yX4_add.cls ∈ tblG ∧ Cond.code yX4_add cX4_add 5 none ∈ tblG := ⟨(tg_t (tb2 (List.mem_of_getElem? (i := 93) (by decide +kernel))) rfl), (tg_t (tb1 (List.mem_of_getElem? (i := 2) (by decide +kernel))) rfl), (tg_t (tb2 (List.mem_of_getElem? (i := 95) rfl)) rfl)⟩
theorem mv_X4_readAs : MV yX4_readAs cX4_readAs 3 (some .int) 1 := ⟨(tg_t (tb2 (List.mem_of_getElem? (i := 108) (by decide +kernel))) rfl), (tg_t (tb2 (List.mem_of_getElem? (i := 109) (by decide +kernel))) rfl), (tg_t (tb1 (List.mem_of_getElem? (i := 2) (by decide +kernel))) rfl), (tg_t (tb2 (List.mem_of_getElem? (i := 110) rfl)) rfl), ⟨by decide +kernel, by decide +kernel, by decide +kernel⟩⟩
theorem mw_X4_readAs : Cond.instanceMethod yX4_readAs ∈ tblG ∧ Cond.initialized yX4_readAs.cls ∈ tblG ∧ Cond.code yX4_readAs cX4_readAs 3 (some .int) ∈ tblG := ⟨(tg_t (tb2 (List.mem_of_getElem? (i := 108) (by decide +kernel))) rfl), (tg_t (tb1 (List.mem_of_getElem? (i := 2) (by decide +kernel))) rfl), (tg_t (tb2 (List.mem_of_getElem? (i := 110) rfl)) rfl)⟩
theorem mv_X4_isWhole : MV yX4_isWhole cX4_isWhole 2 (some .boolean) 1 := ⟨(tg_t (tb3 (List.mem_of_getElem? (i := 38) (by decide +kernel))) rfl), (tg_t (tb3 (List.mem_of_getElem? (i := 39) (by decide +kernel))) rfl), (tg_t (tb1 (List.mem_of_getElem? (i := 2) (by decide +kernel))) rfl), (tg_t (tb3 (List.mem_of_getElem? (i := 40) rfl)) rfl), ⟨by decide +kernel, by decide +kernel, by decide +kernel⟩⟩
theorem mw_X4_isWhole : Cond.instanceMethod yX4_isWhole ∈ tblG ∧ Cond.initialized yX4_isWhole.cls ∈ tblG ∧ Cond.code yX4_isWhole cX4_isWhole 2 (some .boolean) ∈ tblG := ⟨(tg_t (tb3 (List.mem_of_getElem? (i := 38) (by decide +kernel))) rfl), (tg_t (tb1 (List.mem_of_getElem? (i := 2) (by decide +kernel))) rfl), (tg_t (tb3 (List.mem_of_getElem? (i := 40) rfl)) rfl)⟩
theorem ms_X4_codeAt : MSt yX4_codeAt cX4_codeAt 3 (some .int) 2 := ⟨(tg_t (tb2 (List.mem_of_getElem? (i := 90) (by decide +kernel))) rfl), (tg_t (tb1 (List.mem_of_getElem? (i := 2) (by decide +kernel))) rfl), (tg_t (tb2 (List.mem_of_getElem? (i := 91) rfl)) rfl), ⟨by decide +kernel, by decide +kernel, by decide +kernel⟩⟩
theorem mv_X5_become : MV yX5_become cX5_become 3 none 1 := ⟨(tg_t (tb3 (List.mem_of_getElem? (i := 52) (by decide +kernel))) rfl), (tg_t (tb3 (List.mem_of_getElem? (i := 53) (by decide +kernel))) rfl), (tg_t (tb1 (List.mem_of_getElem? (i := 6) (by decide +kernel))) rfl), (tg_t (tb3 (List.mem_of_getElem? (i := 54) rfl)) rfl), ⟨by decide +kernel, by decide +kernel, by decide +kernel⟩⟩
theorem mw_X5_become : Cond.instanceMethod yX5_become ∈ tblG ∧ Cond.initialized yX5_become.cls ∈ tblG ∧ Cond.code yX5_become cX5_become 3 none ∈ tblG := ⟨(tg_t (tb3 (List.mem_of_getElem? (i := 52) (by decide +kernel))) rfl), (tg_t (tb1 (List.mem_of_getElem? (i := 6) (by decide +kernel))) rfl), (tg_t (tb3 (List.mem_of_getElem? (i := 54) rfl)) rfl)⟩
theorem mv_X5_bake : MV yX5_bake cX5_bake 6 none 3 := ⟨(tg_t (tb3 (List.mem_of_getElem? (i := 131) (by decide +kernel))) rfl), (tg_t (tb3 (List.mem_of_getElem? (i := 132) (by decide +kernel))) rfl), (tg_t (tb1 (List.mem_of_getElem? (i := 6) (by decide +kernel))) rfl), (tg_t (tb3 (List.mem_of_getElem? (i := 133) rfl)) rfl), ⟨by decide +kernel, by decide +kernel, by decide +kernel⟩⟩
theorem mw_X5_bake : Cond.instanceMethod yX5_bake ∈ tblG ∧ Cond.initialized yX5_bake.cls ∈ tblG ∧ Cond.code yX5_bake cX5_bake 6 none ∈ tblG := ⟨(tg_t (tb3 (List.mem_of_getElem? (i := 131) (by decide +kernel))) rfl), (tg_t (tb1 (List.mem_of_getElem? (i := 6) (by decide +kernel))) rfl), (tg_t (tb3 (List.mem_of_getElem? (i := 133) rfl)) rfl)⟩
theorem mv_X5_spread : MV yX5_spread cX5_spread 6 (some .int) 3 := ⟨(tg_t (tb3 (List.mem_of_getElem? (i := 135) (by decide +kernel))) rfl), (tg_t (tb3 (List.mem_of_getElem? (i := 136) (by decide +kernel))) rfl), (tg_t (tb1 (List.mem_of_getElem? (i := 6) (by decide +kernel))) rfl), (tg_t (tb3 (List.mem_of_getElem? (i := 137) rfl)) rfl), ⟨by decide +kernel, by decide +kernel, by decide +kernel⟩⟩
theorem mw_X5_spread : Cond.instanceMethod yX5_spread ∈ tblG ∧ Cond.initialized yX5_spread.cls ∈ tblG ∧ Cond.code yX5_spread cX5_spread 6 (some .int) ∈ tblG := ⟨(tg_t (tb3 (List.mem_of_getElem? (i := 135) (by decide +kernel))) rfl), (tg_t (tb1 (List.mem_of_getElem? (i := 6) (by decide +kernel))) rfl), (tg_t (tb3 (List.mem_of_getElem? (i := 137) rfl)) rfl)⟩
theorem mv_X5_pour : MV yX5_pour cX5_pour 5 none 3 := ⟨(tg_t (tb3 (List.mem_of_getElem? (i := 140) (by decide +kernel))) rfl), (tg_s (List.mem_of_getElem? (i := 9) (by decide +kernel)) rfl), (tg_t (tb1 (List.mem_of_getElem? (i := 6) (by decide +kernel))) rfl), (tg_t (tb3 (List.mem_of_getElem? (i := 141) rfl)) rfl), ⟨by decide +kernel, by decide +kernel, by decide +kernel⟩⟩
theorem mw_X5_pour : Cond.instanceMethod yX5_pour ∈ tblG ∧ Cond.initialized yX5_pour.cls ∈ tblG ∧ Cond.code yX5_pour cX5_pour 5 none ∈ tblG := ⟨(tg_t (tb3 (List.mem_of_getElem? (i := 140) (by decide +kernel))) rfl), (tg_t (tb1 (List.mem_of_getElem? (i := 6) (by decide +kernel))) rfl), (tg_t (tb3 (List.mem_of_getElem? (i := 141) rfl)) rfl)⟩
theorem mv_X5_lie : MV yX5_lie cX5_lie 7 (some .int) 4 := ⟨(tg_t (tb3 (List.mem_of_getElem? (i := 149) (by decide +kernel))) rfl), (tg_s (List.mem_of_getElem? (i := 10) (by decide +kernel)) rfl), (tg_t (tb1 (List.mem_of_getElem? (i := 6) (by decide +kernel))) rfl), (tg_t (tb3 (List.mem_of_getElem? (i := 150) rfl)) rfl), ⟨by decide +kernel, by decide +kernel, by decide +kernel⟩⟩
theorem mw_X5_lie : Cond.instanceMethod yX5_lie ∈ tblG ∧ Cond.initialized yX5_lie.cls ∈ tblG ∧ Cond.code yX5_lie cX5_lie 7 (some .int) ∈ tblG := ⟨(tg_t (tb3 (List.mem_of_getElem? (i := 149) (by decide +kernel))) rfl), (tg_t (tb1 (List.mem_of_getElem? (i := 6) (by decide +kernel))) rfl), (tg_t (tb3 (List.mem_of_getElem? (i := 150) rfl)) rfl)⟩
theorem mv_X5_fasten : MV yX5_fasten cX5_fasten 4 none 2 := ⟨(tg_t (tb3 (List.mem_of_getElem? (i := 154) (by decide +kernel))) rfl), (tg_s (List.mem_of_getElem? (i := 11) (by decide +kernel)) rfl), (tg_t (tb1 (List.mem_of_getElem? (i := 6) (by decide +kernel))) rfl), (tg_t (tb3 (List.mem_of_getElem? (i := 155) rfl)) rfl), ⟨by decide +kernel, by decide +kernel, by decide +kernel⟩⟩
theorem mw_X5_fasten : Cond.instanceMethod yX5_fasten ∈ tblG ∧ Cond.initialized yX5_fasten.cls ∈ tblG ∧ Cond.code yX5_fasten cX5_fasten 4 none ∈ tblG := ⟨(tg_t (tb3 (List.mem_of_getElem? (i := 154) (by decide +kernel))) rfl), (tg_t (tb1 (List.mem_of_getElem? (i := 6) (by decide +kernel))) rfl), (tg_t (tb3 (List.mem_of_getElem? (i := 155) rfl)) rfl)⟩
theorem mv_X5_run : MV yX5_run cX5_run 8 none 3 := ⟨(tg_t (tb3 (List.mem_of_getElem? (i := 159) (by decide +kernel))) rfl), (tg_s (List.mem_of_getElem? (i := 12) (by decide +kernel)) rfl), (tg_t (tb1 (List.mem_of_getElem? (i := 6) (by decide +kernel))) rfl), (tg_t (tb3 (List.mem_of_getElem? (i := 160) rfl)) rfl), ⟨by decide +kernel, by decide +kernel, by decide +kernel⟩⟩
theorem mw_X5_run : Cond.instanceMethod yX5_run ∈ tblG ∧ Cond.initialized yX5_run.cls ∈ tblG ∧ Cond.code yX5_run cX5_run 8 none ∈ tblG := ⟨(tg_t (tb3 (List.mem_of_getElem? (i := 159) (by decide +kernel))) rfl), (tg_t (tb1 (List.mem_of_getElem? (i := 6) (by decide +kernel))) rfl), (tg_t (tb3 (List.mem_of_getElem? (i := 160) rfl)) rfl)⟩
theorem mv_X5_beside : MV yX5_beside cX5_beside 7 (some .int) 3 := ⟨(tg_t (tb3 (List.mem_of_getElem? (i := 163) (by decide +kernel))) rfl), (tg_s (List.mem_of_getElem? (i := 13) (by decide +kernel)) rfl), (tg_t (tb1 (List.mem_of_getElem? (i := 6) (by decide +kernel))) rfl), (tg_t (tb3 (List.mem_of_getElem? (i := 164) rfl)) rfl), ⟨by decide +kernel, by decide +kernel, by decide +kernel⟩⟩
theorem mw_X5_beside : Cond.instanceMethod yX5_beside ∈ tblG ∧ Cond.initialized yX5_beside.cls ∈ tblG ∧ Cond.code yX5_beside cX5_beside 7 (some .int) ∈ tblG := ⟨(tg_t (tb3 (List.mem_of_getElem? (i := 163) (by decide +kernel))) rfl), (tg_t (tb1 (List.mem_of_getElem? (i := 6) (by decide +kernel))) rfl), (tg_t (tb3 (List.mem_of_getElem? (i := 164) rfl)) rfl)⟩
theorem mv_X5_takeOut : MV yX5_takeOut cX5_takeOut 5 (some .int) 2 := ⟨(tg_t (tb3 (List.mem_of_getElem? (i := 168) (by decide +kernel))) rfl), (tg_s (List.mem_of_getElem? (i := 14) (by decide +kernel)) rfl), (tg_t (tb1 (List.mem_of_getElem? (i := 6) (by decide +kernel))) rfl), (tg_t (tb3 (List.mem_of_getElem? (i := 169) rfl)) rfl), ⟨by decide +kernel, by decide +kernel, by decide +kernel⟩⟩
theorem mw_X5_takeOut : Cond.instanceMethod yX5_takeOut ∈ tblG ∧ Cond.initialized yX5_takeOut.cls ∈ tblG ∧ Cond.code yX5_takeOut cX5_takeOut 5 (some .int) ∈ tblG := ⟨(tg_t (tb3 (List.mem_of_getElem? (i := 168) (by decide +kernel))) rfl), (tg_t (tb1 (List.mem_of_getElem? (i := 6) (by decide +kernel))) rfl), (tg_t (tb3 (List.mem_of_getElem? (i := 169) rfl)) rfl)⟩
theorem mw_X6_begin : Cond.instanceMethod yX6_begin ∈ tblG ∧ Cond.initialized yX6_begin.cls ∈ tblG ∧ Cond.code yX6_begin cX6_begin 1 none ∈ tblG := ⟨(tg_t (tb2 (List.mem_of_getElem? (i := 115) (by decide +kernel))) rfl), (tg_t (tb1 (List.mem_of_getElem? (i := 4) (by decide +kernel))) rfl), (tg_t (tb2 (List.mem_of_getElem? (i := 116) rfl)) rfl)⟩
theorem mw_X6_take : Cond.instanceMethod yX6_take ∈ tblG ∧ Cond.initialized yX6_take.cls ∈ tblG ∧ Cond.code yX6_take cX6_take 2 (some .boolean) ∈ tblG := ⟨(tg_t (tb2 (List.mem_of_getElem? (i := 127) (by decide +kernel))) rfl), (tg_t (tb1 (List.mem_of_getElem? (i := 4) (by decide +kernel))) rfl), (tg_t (tb2 (List.mem_of_getElem? (i := 128) rfl)) rfl)⟩
theorem mw_X6_whole : Cond.instanceMethod yX6_whole ∈ tblG ∧ Cond.initialized yX6_whole.cls ∈ tblG ∧ Cond.code yX6_whole cX6_whole 1 (some .boolean) ∈ tblG := ⟨(tg_t (tb3 (List.mem_of_getElem? (i := 46) (by decide +kernel))) rfl), (tg_t (tb1 (List.mem_of_getElem? (i := 4) (by decide +kernel))) rfl), (tg_t (tb3 (List.mem_of_getElem? (i := 47) rfl)) rfl)⟩
theorem mv_X6_takeRing : MV yX6_takeRing cX6_takeRing 3 (some .boolean) 1 := ⟨(tg_t (tb2 (List.mem_of_getElem? (i := 135) (by decide +kernel))) rfl), (tg_s (List.mem_of_getElem? (i := 0) (by decide +kernel)) rfl), (tg_t (tb1 (List.mem_of_getElem? (i := 4) (by decide +kernel))) rfl), (tg_t (tb2 (List.mem_of_getElem? (i := 136) rfl)) rfl), ⟨by decide +kernel, by decide +kernel, by decide +kernel⟩⟩
theorem mw_X6_takeRing : Cond.instanceMethod yX6_takeRing ∈ tblG ∧ Cond.initialized yX6_takeRing.cls ∈ tblG ∧ Cond.code yX6_takeRing cX6_takeRing 3 (some .boolean) ∈ tblG := ⟨(tg_t (tb2 (List.mem_of_getElem? (i := 135) (by decide +kernel))) rfl), (tg_t (tb1 (List.mem_of_getElem? (i := 4) (by decide +kernel))) rfl), (tg_t (tb2 (List.mem_of_getElem? (i := 136) rfl)) rfl)⟩
theorem mv_X6_takeSticky : MV yX6_takeSticky cX6_takeSticky 1 (some .boolean) 0 := ⟨(tg_t (tb2 (List.mem_of_getElem? (i := 139) (by decide +kernel))) rfl), (tg_s (List.mem_of_getElem? (i := 1) (by decide +kernel)) rfl), (tg_t (tb1 (List.mem_of_getElem? (i := 4) (by decide +kernel))) rfl), (tg_t (tb2 (List.mem_of_getElem? (i := 140) rfl)) rfl), ⟨by decide +kernel, by decide +kernel, by decide +kernel⟩⟩
theorem mw_X6_takeSticky : Cond.instanceMethod yX6_takeSticky ∈ tblG ∧ Cond.initialized yX6_takeSticky.cls ∈ tblG ∧ Cond.code yX6_takeSticky cX6_takeSticky 1 (some .boolean) ∈ tblG := ⟨(tg_t (tb2 (List.mem_of_getElem? (i := 139) (by decide +kernel))) rfl), (tg_t (tb1 (List.mem_of_getElem? (i := 4) (by decide +kernel))) rfl), (tg_t (tb2 (List.mem_of_getElem? (i := 140) rfl)) rfl)⟩
theorem mv_X6_takeRowEnd : MV yX6_takeRowEnd cX6_takeRowEnd 2 (some .boolean) 0 := ⟨(tg_t (tb2 (List.mem_of_getElem? (i := 143) (by decide +kernel))) rfl), (tg_s (List.mem_of_getElem? (i := 2) (by decide +kernel)) rfl), (tg_t (tb1 (List.mem_of_getElem? (i := 4) (by decide +kernel))) rfl), (tg_t (tb2 (List.mem_of_getElem? (i := 144) rfl)) rfl), ⟨by decide +kernel, by decide +kernel, by decide +kernel⟩⟩
theorem mw_X6_takeRowEnd : Cond.instanceMethod yX6_takeRowEnd ∈ tblG ∧ Cond.initialized yX6_takeRowEnd.cls ∈ tblG ∧ Cond.code yX6_takeRowEnd cX6_takeRowEnd 2 (some .boolean) ∈ tblG := ⟨(tg_t (tb2 (List.mem_of_getElem? (i := 143) (by decide +kernel))) rfl), (tg_t (tb1 (List.mem_of_getElem? (i := 4) (by decide +kernel))) rfl), (tg_t (tb2 (List.mem_of_getElem? (i := 144) rfl)) rfl)⟩
theorem mv_X7_become : MV yX7_become cX7_become 2 none 1 := ⟨(tg_t (tb3 (List.mem_of_getElem? (i := 69) (by decide +kernel))) rfl), (tg_t (tb3 (List.mem_of_getElem? (i := 70) (by decide +kernel))) rfl), (tg_t (tb1 (List.mem_of_getElem? (i := 10) (by decide +kernel))) rfl), (tg_t (tb3 (List.mem_of_getElem? (i := 71) rfl)) rfl), ⟨by decide +kernel, by decide +kernel, by decide +kernel⟩⟩
theorem mw_X7_become : Cond.instanceMethod yX7_become ∈ tblG ∧ Cond.initialized yX7_become.cls ∈ tblG ∧ Cond.code yX7_become cX7_become 2 none ∈ tblG := ⟨(tg_t (tb3 (List.mem_of_getElem? (i := 69) (by decide +kernel))) rfl), (tg_t (tb1 (List.mem_of_getElem? (i := 10) (by decide +kernel))) rfl), (tg_t (tb3 (List.mem_of_getElem? (i := 71) rfl)) rfl)⟩
theorem mv_X7_become_ : MV yX7_become_ cX7_become_ 2 none 1 := ⟨(tg_t (tb4 (List.mem_of_getElem? (i := 33) (by decide +kernel))) rfl), (tg_t (tb4 (List.mem_of_getElem? (i := 34) (by decide +kernel))) rfl), (tg_t (tb1 (List.mem_of_getElem? (i := 10) (by decide +kernel))) rfl), (tg_t (tb4 (List.mem_of_getElem? (i := 35) rfl)) rfl), ⟨by decide +kernel, by decide +kernel, by decide +kernel⟩⟩
theorem mw_X7_become_ : Cond.instanceMethod yX7_become_ ∈ tblG ∧ Cond.initialized yX7_become_.cls ∈ tblG ∧ Cond.code yX7_become_ cX7_become_ 2 none ∈ tblG := ⟨(tg_t (tb4 (List.mem_of_getElem? (i := 33) (by decide +kernel))) rfl), (tg_t (tb1 (List.mem_of_getElem? (i := 10) (by decide +kernel))) rfl), (tg_t (tb4 (List.mem_of_getElem? (i := 35) rfl)) rfl)⟩
theorem mv_X7_told : MV yX7_told cX7_told 2 (some .int) 1 := ⟨(tg_t (tb3 (List.mem_of_getElem? (i := 89) (by decide +kernel))) rfl), (tg_t (tb3 (List.mem_of_getElem? (i := 90) (by decide +kernel))) rfl), (tg_t (tb1 (List.mem_of_getElem? (i := 10) (by decide +kernel))) rfl), (tg_t (tb3 (List.mem_of_getElem? (i := 91) rfl)) rfl), ⟨by decide +kernel, by decide +kernel, by decide +kernel⟩⟩
theorem mw_X7_told : Cond.instanceMethod yX7_told ∈ tblG ∧ Cond.initialized yX7_told.cls ∈ tblG ∧ Cond.code yX7_told cX7_told 2 (some .int) ∈ tblG := ⟨(tg_t (tb3 (List.mem_of_getElem? (i := 89) (by decide +kernel))) rfl), (tg_t (tb1 (List.mem_of_getElem? (i := 10) (by decide +kernel))) rfl), (tg_t (tb3 (List.mem_of_getElem? (i := 91) rfl)) rfl)⟩
theorem mv_X7_swingAt : MV yX7_swingAt cX7_swingAt 2 (some .int) 1 := ⟨(tg_t (tb3 (List.mem_of_getElem? (i := 84) (by decide +kernel))) rfl), (tg_t (tb3 (List.mem_of_getElem? (i := 85) (by decide +kernel))) rfl), (tg_t (tb1 (List.mem_of_getElem? (i := 10) (by decide +kernel))) rfl), (tg_t (tb3 (List.mem_of_getElem? (i := 86) rfl)) rfl), ⟨by decide +kernel, by decide +kernel, by decide +kernel⟩⟩
theorem mw_X7_swingAt : Cond.instanceMethod yX7_swingAt ∈ tblG ∧ Cond.initialized yX7_swingAt.cls ∈ tblG ∧ Cond.code yX7_swingAt cX7_swingAt 2 (some .int) ∈ tblG := ⟨(tg_t (tb3 (List.mem_of_getElem? (i := 84) (by decide +kernel))) rfl), (tg_t (tb1 (List.mem_of_getElem? (i := 10) (by decide +kernel))) rfl), (tg_t (tb3 (List.mem_of_getElem? (i := 86) rfl)) rfl)⟩
theorem mw_X8_begin : Cond.instanceMethod yX8_begin ∈ tblG ∧ Cond.initialized yX8_begin.cls ∈ tblG ∧ Cond.code yX8_begin cX8_begin 1 none ∈ tblG := ⟨(tg_t (tb2 (List.mem_of_getElem? (i := 118) (by decide +kernel))) rfl), (tg_t (tb1 (List.mem_of_getElem? (i := 5) (by decide +kernel))) rfl), (tg_t (tb2 (List.mem_of_getElem? (i := 119) rfl)) rfl)⟩
theorem mw_X8_take : Cond.instanceMethod yX8_take ∈ tblG ∧ Cond.initialized yX8_take.cls ∈ tblG ∧ Cond.code yX8_take cX8_take 3 (some .boolean) ∈ tblG := ⟨(tg_t (tb2 (List.mem_of_getElem? (i := 146) (by decide +kernel))) rfl), (tg_t (tb1 (List.mem_of_getElem? (i := 5) (by decide +kernel))) rfl), (tg_t (tb2 (List.mem_of_getElem? (i := 147) rfl)) rfl)⟩
theorem mw_X8_whole : Cond.instanceMethod yX8_whole ∈ tblG ∧ Cond.initialized yX8_whole.cls ∈ tblG ∧ Cond.code yX8_whole cX8_whole 1 (some .boolean) ∈ tblG := ⟨(tg_t (tb3 (List.mem_of_getElem? (i := 49) (by decide +kernel))) rfl), (tg_t (tb1 (List.mem_of_getElem? (i := 5) (by decide +kernel))) rfl), (tg_t (tb3 (List.mem_of_getElem? (i := 50) rfl)) rfl)⟩
theorem mv_X8_takeDigit : MV yX8_takeDigit cX8_takeDigit 3 (some .boolean) 1 := ⟨(tg_t (tb2 (List.mem_of_getElem? (i := 152) (by decide +kernel))) rfl), (tg_s (List.mem_of_getElem? (i := 3) (by decide +kernel)) rfl), (tg_t (tb1 (List.mem_of_getElem? (i := 5) (by decide +kernel))) rfl), (tg_t (tb2 (List.mem_of_getElem? (i := 153) rfl)) rfl), ⟨by decide +kernel, by decide +kernel, by decide +kernel⟩⟩
theorem mw_X8_takeDigit : Cond.instanceMethod yX8_takeDigit ∈ tblG ∧ Cond.initialized yX8_takeDigit.cls ∈ tblG ∧ Cond.code yX8_takeDigit cX8_takeDigit 3 (some .boolean) ∈ tblG := ⟨(tg_t (tb2 (List.mem_of_getElem? (i := 152) (by decide +kernel))) rfl), (tg_t (tb1 (List.mem_of_getElem? (i := 5) (by decide +kernel))) rfl), (tg_t (tb2 (List.mem_of_getElem? (i := 153) rfl)) rfl)⟩
theorem mv_X8_takeSwing : MV yX8_takeSwing cX8_takeSwing 2 (some .boolean) 1 := ⟨(tg_t (tb3 (List.mem_of_getElem? (i := 5) (by decide +kernel))) rfl), (tg_s (List.mem_of_getElem? (i := 4) (by decide +kernel)) rfl), (tg_t (tb1 (List.mem_of_getElem? (i := 5) (by decide +kernel))) rfl), (tg_t (tb3 (List.mem_of_getElem? (i := 6) rfl)) rfl), ⟨by decide +kernel, by decide +kernel, by decide +kernel⟩⟩
theorem mw_X8_takeSwing : Cond.instanceMethod yX8_takeSwing ∈ tblG ∧ Cond.initialized yX8_takeSwing.cls ∈ tblG ∧ Cond.code yX8_takeSwing cX8_takeSwing 2 (some .boolean) ∈ tblG := ⟨(tg_t (tb3 (List.mem_of_getElem? (i := 5) (by decide +kernel))) rfl), (tg_t (tb1 (List.mem_of_getElem? (i := 5) (by decide +kernel))) rfl), (tg_t (tb3 (List.mem_of_getElem? (i := 6) rfl)) rfl)⟩
theorem mv_X8_takeSign : MV yX8_takeSign cX8_takeSign 2 (some .boolean) 1 := ⟨(tg_t (tb3 (List.mem_of_getElem? (i := 9) (by decide +kernel))) rfl), (tg_s (List.mem_of_getElem? (i := 5) (by decide +kernel)) rfl), (tg_t (tb1 (List.mem_of_getElem? (i := 5) (by decide +kernel))) rfl), (tg_t (tb3 (List.mem_of_getElem? (i := 10) rfl)) rfl), ⟨by decide +kernel, by decide +kernel, by decide +kernel⟩⟩
theorem mw_X8_takeSign : Cond.instanceMethod yX8_takeSign ∈ tblG ∧ Cond.initialized yX8_takeSign.cls ∈ tblG ∧ Cond.code yX8_takeSign cX8_takeSign 2 (some .boolean) ∈ tblG := ⟨(tg_t (tb3 (List.mem_of_getElem? (i := 9) (by decide +kernel))) rfl), (tg_t (tb1 (List.mem_of_getElem? (i := 5) (by decide +kernel))) rfl), (tg_t (tb3 (List.mem_of_getElem? (i := 10) rfl)) rfl)⟩
theorem ms_X9_isDigit : MSt yX9_isDigit cX9_isDigit 1 (some .boolean) 1 := ⟨(tg_t (tb2 (List.mem_of_getElem? (i := 131) (by decide +kernel))) rfl), (tg_t (tb1 (List.mem_of_getElem? (i := 3) (by decide +kernel))) rfl), (tg_t (tb2 (List.mem_of_getElem? (i := 132) rfl)) rfl), ⟨by decide +kernel, by decide +kernel, by decide +kernel⟩⟩
theorem ms_X10_turnsOver : MSt yX10_turnsOver cX10_turnsOver 2 (some .boolean) 2 := ⟨(tg_t (tb4 (List.mem_of_getElem? (i := 83) (by decide +kernel))) rfl), (tg_t (tb1 (List.mem_of_getElem? (i := 21) (by decide +kernel))) rfl), (tg_t (tb4 (List.mem_of_getElem? (i := 84) rfl)) rfl), ⟨by decide +kernel, by decide +kernel, by decide +kernel⟩⟩
theorem ms_X10_paces : MSt yX10_paces cX10_paces 2 (some .int) 2 := ⟨(tg_t (tb4 (List.mem_of_getElem? (i := 98) (by decide +kernel))) rfl), (tg_t (tb1 (List.mem_of_getElem? (i := 21) (by decide +kernel))) rfl), (tg_t (tb4 (List.mem_of_getElem? (i := 99) rfl)) rfl), ⟨by decide +kernel, by decide +kernel, by decide +kernel⟩⟩
theorem ms_X10_landings : MSt yX10_landings cX10_landings 5 (some .int) 3 := ⟨(tg_t (tb4 (List.mem_of_getElem? (i := 90) (by decide +kernel))) rfl), (tg_t (tb1 (List.mem_of_getElem? (i := 21) (by decide +kernel))) rfl), (tg_t (tb4 (List.mem_of_getElem? (i := 91) rfl)) rfl), ⟨by decide +kernel, by decide +kernel, by decide +kernel⟩⟩
theorem ms_X10_likeliestSpin : MSt yX10_likeliestSpin cX10_likeliestSpin 6 (some .int) 2 := ⟨(tg_t (tb4 (List.mem_of_getElem? (i := 108) (by decide +kernel))) rfl), (tg_t (tb1 (List.mem_of_getElem? (i := 21) (by decide +kernel))) rfl), (tg_t (tb4 (List.mem_of_getElem? (i := 109) rfl)) rfl), ⟨by decide +kernel, by decide +kernel, by decide +kernel⟩⟩
theorem ms_X10_commonDivisor : MSt yX10_commonDivisor cX10_commonDivisor 3 (some .int) 2 := ⟨(tg_t (tb4 (List.mem_of_getElem? (i := 101) (by decide +kernel))) rfl), (tg_t (tb1 (List.mem_of_getElem? (i := 21) (by decide +kernel))) rfl), (tg_t (tb4 (List.mem_of_getElem? (i := 102) rfl)) rfl), ⟨by decide +kernel, by decide +kernel, by decide +kernel⟩⟩
theorem ms_X10_slowest : MSt yX10_slowest cX10_slowest 2 (some .int) 2 := ⟨(tg_t (tb4 (List.mem_of_getElem? (i := 93) (by decide +kernel))) rfl), (tg_t (tb1 (List.mem_of_getElem? (i := 21) (by decide +kernel))) rfl), (tg_t (tb4 (List.mem_of_getElem? (i := 94) rfl)) rfl), ⟨by decide +kernel, by decide +kernel, by decide +kernel⟩⟩
theorem mv_X11_letters : MV yX11_letters cX11_letters 4 (some .int) 1 := ⟨(tg_t (tb2 (List.mem_of_getElem? (i := 83) (by decide +kernel))) rfl), (tg_t (tb2 (List.mem_of_getElem? (i := 84) (by decide +kernel))) rfl), (tg_t (tb1 (List.mem_of_getElem? (i := 1) (by decide +kernel))) rfl), (tg_t (tb2 (List.mem_of_getElem? (i := 85) rfl)) rfl), ⟨by decide +kernel, by decide +kernel, by decide +kernel⟩⟩
theorem mw_X11_letters : Cond.instanceMethod yX11_letters ∈ tblG ∧ Cond.initialized yX11_letters.cls ∈ tblG ∧ Cond.code yX11_letters cX11_letters 4 (some .int) ∈ tblG := ⟨(tg_t (tb2 (List.mem_of_getElem? (i := 83) (by decide +kernel))) rfl), (tg_t (tb1 (List.mem_of_getElem? (i := 1) (by decide +kernel))) rfl), (tg_t (tb2 (List.mem_of_getElem? (i := 85) rfl)) rfl)⟩
theorem mv_X11_blank : MV yX11_blank cX11_blank 2 (some .int) 0 := ⟨(tg_t (tb2 (List.mem_of_getElem? (i := 97) (by decide +kernel))) rfl), (tg_t (tb2 (List.mem_of_getElem? (i := 98) (by decide +kernel))) rfl), (tg_t (tb1 (List.mem_of_getElem? (i := 1) (by decide +kernel))) rfl), (tg_t (tb2 (List.mem_of_getElem? (i := 99) rfl)) rfl), ⟨by decide +kernel, by decide +kernel, by decide +kernel⟩⟩
theorem mw_X11_blank : Cond.instanceMethod yX11_blank ∈ tblG ∧ Cond.initialized yX11_blank.cls ∈ tblG ∧ Cond.code yX11_blank cX11_blank 2 (some .int) ∈ tblG := ⟨(tg_t (tb2 (List.mem_of_getElem? (i := 97) (by decide +kernel))) rfl), (tg_t (tb1 (List.mem_of_getElem? (i := 1) (by decide +kernel))) rfl), (tg_t (tb2 (List.mem_of_getElem? (i := 99) rfl)) rfl)⟩
theorem mv_X11_fault : MV yX11_fault cX11_fault 2 (some .int) 1 := ⟨(tg_t (tb2 (List.mem_of_getElem? (i := 101) (by decide +kernel))) rfl), (tg_t (tb2 (List.mem_of_getElem? (i := 102) (by decide +kernel))) rfl), (tg_t (tb1 (List.mem_of_getElem? (i := 1) (by decide +kernel))) rfl), (tg_t (tb2 (List.mem_of_getElem? (i := 103) rfl)) rfl), ⟨by decide +kernel, by decide +kernel, by decide +kernel⟩⟩
theorem mw_X11_fault : Cond.instanceMethod yX11_fault ∈ tblG ∧ Cond.initialized yX11_fault.cls ∈ tblG ∧ Cond.code yX11_fault cX11_fault 2 (some .int) ∈ tblG := ⟨(tg_t (tb2 (List.mem_of_getElem? (i := 101) (by decide +kernel))) rfl), (tg_t (tb1 (List.mem_of_getElem? (i := 1) (by decide +kernel))) rfl), (tg_t (tb2 (List.mem_of_getElem? (i := 103) rfl)) rfl)⟩
theorem mv_X11_pan : MV yX11_pan cX11_pan 1 (some .int) 0 := ⟨(tg_t (tb3 (List.mem_of_getElem? (i := 34) (by decide +kernel))) rfl), (tg_t (tb3 (List.mem_of_getElem? (i := 35) (by decide +kernel))) rfl), (tg_t (tb1 (List.mem_of_getElem? (i := 1) (by decide +kernel))) rfl), (tg_t (tb3 (List.mem_of_getElem? (i := 36) rfl)) rfl), ⟨by decide +kernel, by decide +kernel, by decide +kernel⟩⟩
theorem mw_X11_pan : Cond.instanceMethod yX11_pan ∈ tblG ∧ Cond.initialized yX11_pan.cls ∈ tblG ∧ Cond.code yX11_pan cX11_pan 1 (some .int) ∈ tblG := ⟨(tg_t (tb3 (List.mem_of_getElem? (i := 34) (by decide +kernel))) rfl), (tg_t (tb1 (List.mem_of_getElem? (i := 1) (by decide +kernel))) rfl), (tg_t (tb3 (List.mem_of_getElem? (i := 36) rfl)) rfl)⟩
theorem mv_X11_plan : MV yX11_plan cX11_plan 1 (some .int) 0 := ⟨(tg_t (tb3 (List.mem_of_getElem? (i := 65) (by decide +kernel))) rfl), (tg_t (tb3 (List.mem_of_getElem? (i := 66) (by decide +kernel))) rfl), (tg_t (tb1 (List.mem_of_getElem? (i := 1) (by decide +kernel))) rfl), (tg_t (tb3 (List.mem_of_getElem? (i := 67) rfl)) rfl), ⟨by decide +kernel, by decide +kernel, by decide +kernel⟩⟩
theorem mw_X11_plan : Cond.instanceMethod yX11_plan ∈ tblG ∧ Cond.initialized yX11_plan.cls ∈ tblG ∧ Cond.code yX11_plan cX11_plan 1 (some .int) ∈ tblG := ⟨(tg_t (tb3 (List.mem_of_getElem? (i := 65) (by decide +kernel))) rfl), (tg_t (tb1 (List.mem_of_getElem? (i := 1) (by decide +kernel))) rfl), (tg_t (tb3 (List.mem_of_getElem? (i := 67) rfl)) rfl)⟩
theorem mv_X11_planTold : MV yX11_planTold cX11_planTold 3 (some .int) 2 := ⟨(tg_t (tb3 (List.mem_of_getElem? (i := 76) (by decide +kernel))) rfl), (tg_t (tb3 (List.mem_of_getElem? (i := 77) (by decide +kernel))) rfl), (tg_t (tb1 (List.mem_of_getElem? (i := 1) (by decide +kernel))) rfl), (tg_t (tb3 (List.mem_of_getElem? (i := 78) rfl)) rfl), ⟨by decide +kernel, by decide +kernel, by decide +kernel⟩⟩
theorem mw_X11_planTold : Cond.instanceMethod yX11_planTold ∈ tblG ∧ Cond.initialized yX11_planTold.cls ∈ tblG ∧ Cond.code yX11_planTold cX11_planTold 3 (some .int) ∈ tblG := ⟨(tg_t (tb3 (List.mem_of_getElem? (i := 76) (by decide +kernel))) rfl), (tg_t (tb1 (List.mem_of_getElem? (i := 1) (by decide +kernel))) rfl), (tg_t (tb3 (List.mem_of_getElem? (i := 78) rfl)) rfl)⟩
theorem mv_X11_cell : MV yX11_cell cX11_cell 3 (some .int) 2 := ⟨(tg_t (tb3 (List.mem_of_getElem? (i := 93) (by decide +kernel))) rfl), (tg_t (tb3 (List.mem_of_getElem? (i := 94) (by decide +kernel))) rfl), (tg_t (tb1 (List.mem_of_getElem? (i := 1) (by decide +kernel))) rfl), (tg_t (tb3 (List.mem_of_getElem? (i := 95) rfl)) rfl), ⟨by decide +kernel, by decide +kernel, by decide +kernel⟩⟩
theorem mw_X11_cell : Cond.instanceMethod yX11_cell ∈ tblG ∧ Cond.initialized yX11_cell.cls ∈ tblG ∧ Cond.code yX11_cell cX11_cell 3 (some .int) ∈ tblG := ⟨(tg_t (tb3 (List.mem_of_getElem? (i := 93) (by decide +kernel))) rfl), (tg_t (tb1 (List.mem_of_getElem? (i := 1) (by decide +kernel))) rfl), (tg_t (tb3 (List.mem_of_getElem? (i := 95) rfl)) rfl)⟩
theorem mv_X11_warm : MV yX11_warm cX11_warm 5 (some .int) 2 := ⟨(tg_t (tb3 (List.mem_of_getElem? (i := 101) (by decide +kernel))) rfl), (tg_t (tb3 (List.mem_of_getElem? (i := 102) (by decide +kernel))) rfl), (tg_t (tb1 (List.mem_of_getElem? (i := 1) (by decide +kernel))) rfl), (tg_t (tb3 (List.mem_of_getElem? (i := 103) rfl)) rfl), ⟨by decide +kernel, by decide +kernel, by decide +kernel⟩⟩
theorem mw_X11_warm : Cond.instanceMethod yX11_warm ∈ tblG ∧ Cond.initialized yX11_warm.cls ∈ tblG ∧ Cond.code yX11_warm cX11_warm 5 (some .int) ∈ tblG := ⟨(tg_t (tb3 (List.mem_of_getElem? (i := 101) (by decide +kernel))) rfl), (tg_t (tb1 (List.mem_of_getElem? (i := 1) (by decide +kernel))) rfl), (tg_t (tb3 (List.mem_of_getElem? (i := 103) rfl)) rfl)⟩
theorem mv_X11_fat : MV yX11_fat cX11_fat 3 (some .int) 1 := ⟨(tg_t (tb3 (List.mem_of_getElem? (i := 114) (by decide +kernel))) rfl), (tg_t (tb3 (List.mem_of_getElem? (i := 115) (by decide +kernel))) rfl), (tg_t (tb1 (List.mem_of_getElem? (i := 1) (by decide +kernel))) rfl), (tg_t (tb3 (List.mem_of_getElem? (i := 116) rfl)) rfl), ⟨by decide +kernel, by decide +kernel, by decide +kernel⟩⟩
theorem mw_X11_fat : Cond.instanceMethod yX11_fat ∈ tblG ∧ Cond.initialized yX11_fat.cls ∈ tblG ∧ Cond.code yX11_fat cX11_fat 3 (some .int) ∈ tblG := ⟨(tg_t (tb3 (List.mem_of_getElem? (i := 114) (by decide +kernel))) rfl), (tg_t (tb1 (List.mem_of_getElem? (i := 1) (by decide +kernel))) rfl), (tg_t (tb3 (List.mem_of_getElem? (i := 116) rfl)) rfl)⟩
theorem mv_X11_scrape : MV yX11_scrape cX11_scrape 2 (some .int) 0 := ⟨(tg_t (tb3 (List.mem_of_getElem? (i := 118) (by decide +kernel))) rfl), (tg_t (tb3 (List.mem_of_getElem? (i := 119) (by decide +kernel))) rfl), (tg_t (tb1 (List.mem_of_getElem? (i := 1) (by decide +kernel))) rfl), (tg_t (tb3 (List.mem_of_getElem? (i := 120) rfl)) rfl), ⟨by decide +kernel, by decide +kernel, by decide +kernel⟩⟩
theorem mw_X11_scrape : Cond.instanceMethod yX11_scrape ∈ tblG ∧ Cond.initialized yX11_scrape.cls ∈ tblG ∧ Cond.code yX11_scrape cX11_scrape 2 (some .int) ∈ tblG := ⟨(tg_t (tb3 (List.mem_of_getElem? (i := 118) (by decide +kernel))) rfl), (tg_t (tb1 (List.mem_of_getElem? (i := 1) (by decide +kernel))) rfl), (tg_t (tb3 (List.mem_of_getElem? (i := 120) rfl)) rfl)⟩
theorem mv_X11_fry : MV yX11_fry cX11_fry 3 (some .int) 1 := ⟨(tg_t (tb3 (List.mem_of_getElem? (i := 127) (by decide +kernel))) rfl), (tg_t (tb3 (List.mem_of_getElem? (i := 128) (by decide +kernel))) rfl), (tg_t (tb1 (List.mem_of_getElem? (i := 1) (by decide +kernel))) rfl), (tg_t (tb3 (List.mem_of_getElem? (i := 129) rfl)) rfl), ⟨by decide +kernel, by decide +kernel, by decide +kernel⟩⟩
theorem mw_X11_fry : Cond.instanceMethod yX11_fry ∈ tblG ∧ Cond.initialized yX11_fry.cls ∈ tblG ∧ Cond.code yX11_fry cX11_fry 3 (some .int) ∈ tblG := ⟨(tg_t (tb3 (List.mem_of_getElem? (i := 127) (by decide +kernel))) rfl), (tg_t (tb1 (List.mem_of_getElem? (i := 1) (by decide +kernel))) rfl), (tg_t (tb3 (List.mem_of_getElem? (i := 129) rfl)) rfl)⟩
theorem mv_X11_cake : MV yX11_cake cX11_cake 3 (some .int) 2 := ⟨(tg_t (tb3 (List.mem_of_getElem? (i := 190) (by decide +kernel))) rfl), (tg_t (tb3 (List.mem_of_getElem? (i := 191) (by decide +kernel))) rfl), (tg_t (tb1 (List.mem_of_getElem? (i := 1) (by decide +kernel))) rfl), (tg_t (tb3 (List.mem_of_getElem? (i := 192) rfl)) rfl), ⟨by decide +kernel, by decide +kernel, by decide +kernel⟩⟩
theorem mw_X11_cake : Cond.instanceMethod yX11_cake ∈ tblG ∧ Cond.initialized yX11_cake.cls ∈ tblG ∧ Cond.code yX11_cake cX11_cake 3 (some .int) ∈ tblG := ⟨(tg_t (tb3 (List.mem_of_getElem? (i := 190) (by decide +kernel))) rfl), (tg_t (tb1 (List.mem_of_getElem? (i := 1) (by decide +kernel))) rfl), (tg_t (tb3 (List.mem_of_getElem? (i := 192) rfl)) rfl)⟩
theorem mv_X11_as : MV yX11_as cX11_as 3 (some .int) 2 := ⟨(tg_t (tb3 (List.mem_of_getElem? (i := 198) (by decide +kernel))) rfl), (tg_t (tb3 (List.mem_of_getElem? (i := 199) (by decide +kernel))) rfl), (tg_t (tb1 (List.mem_of_getElem? (i := 1) (by decide +kernel))) rfl), (tg_t (tb3 (List.mem_of_getElem? (i := 200) rfl)) rfl), ⟨by decide +kernel, by decide +kernel, by decide +kernel⟩⟩
theorem mw_X11_as : Cond.instanceMethod yX11_as ∈ tblG ∧ Cond.initialized yX11_as.cls ∈ tblG ∧ Cond.code yX11_as cX11_as 3 (some .int) ∈ tblG := ⟨(tg_t (tb3 (List.mem_of_getElem? (i := 198) (by decide +kernel))) rfl), (tg_t (tb1 (List.mem_of_getElem? (i := 1) (by decide +kernel))) rfl), (tg_t (tb3 (List.mem_of_getElem? (i := 200) rfl)) rfl)⟩
theorem mv_X11_thick : MV yX11_thick cX11_thick 3 (some .int) 2 := ⟨(tg_t (tb3 (List.mem_of_getElem? (i := 208) (by decide +kernel))) rfl), (tg_t (tb3 (List.mem_of_getElem? (i := 209) (by decide +kernel))) rfl), (tg_t (tb1 (List.mem_of_getElem? (i := 1) (by decide +kernel))) rfl), (tg_t (tb3 (List.mem_of_getElem? (i := 210) rfl)) rfl), ⟨by decide +kernel, by decide +kernel, by decide +kernel⟩⟩
theorem mw_X11_thick : Cond.instanceMethod yX11_thick ∈ tblG ∧ Cond.initialized yX11_thick.cls ∈ tblG ∧ Cond.code yX11_thick cX11_thick 3 (some .int) ∈ tblG := ⟨(tg_t (tb3 (List.mem_of_getElem? (i := 208) (by decide +kernel))) rfl), (tg_t (tb1 (List.mem_of_getElem? (i := 1) (by decide +kernel))) rfl), (tg_t (tb3 (List.mem_of_getElem? (i := 210) rfl)) rfl)⟩
theorem mv_X11_tried : MV yX11_tried cX11_tried 3 (some .int) 2 := ⟨(tg_t (tb3 (List.mem_of_getElem? (i := 212) (by decide +kernel))) rfl), (tg_t (tb3 (List.mem_of_getElem? (i := 213) (by decide +kernel))) rfl), (tg_t (tb1 (List.mem_of_getElem? (i := 1) (by decide +kernel))) rfl), (tg_t (tb3 (List.mem_of_getElem? (i := 214) rfl)) rfl), ⟨by decide +kernel, by decide +kernel, by decide +kernel⟩⟩
theorem mw_X11_tried : Cond.instanceMethod yX11_tried ∈ tblG ∧ Cond.initialized yX11_tried.cls ∈ tblG ∧ Cond.code yX11_tried cX11_tried 3 (some .int) ∈ tblG := ⟨(tg_t (tb3 (List.mem_of_getElem? (i := 212) (by decide +kernel))) rfl), (tg_t (tb1 (List.mem_of_getElem? (i := 1) (by decide +kernel))) rfl), (tg_t (tb3 (List.mem_of_getElem? (i := 214) rfl)) rfl)⟩
theorem mv_X11_from : MV yX11_from cX11_from 2 (some .int) 1 := ⟨(tg_t (tb3 (List.mem_of_getElem? (i := 230) (by decide +kernel))) rfl), (tg_t (tb3 (List.mem_of_getElem? (i := 231) (by decide +kernel))) rfl), (tg_t (tb1 (List.mem_of_getElem? (i := 1) (by decide +kernel))) rfl), (tg_t (tb3 (List.mem_of_getElem? (i := 232) rfl)) rfl), ⟨by decide +kernel, by decide +kernel, by decide +kernel⟩⟩
theorem mw_X11_from : Cond.instanceMethod yX11_from ∈ tblG ∧ Cond.initialized yX11_from.cls ∈ tblG ∧ Cond.code yX11_from cX11_from 2 (some .int) ∈ tblG := ⟨(tg_t (tb3 (List.mem_of_getElem? (i := 230) (by decide +kernel))) rfl), (tg_t (tb1 (List.mem_of_getElem? (i := 1) (by decide +kernel))) rfl), (tg_t (tb3 (List.mem_of_getElem? (i := 232) rfl)) rfl)⟩
theorem mv_X11_dogs : MV yX11_dogs cX11_dogs 2 (some .int) 1 := ⟨(tg_t (tb4 (List.mem_of_getElem? (i := 2) (by decide +kernel))) rfl), (tg_t (tb4 (List.mem_of_getElem? (i := 3) (by decide +kernel))) rfl), (tg_t (tb1 (List.mem_of_getElem? (i := 1) (by decide +kernel))) rfl), (tg_t (tb4 (List.mem_of_getElem? (i := 4) rfl)) rfl), ⟨by decide +kernel, by decide +kernel, by decide +kernel⟩⟩
theorem mw_X11_dogs : Cond.instanceMethod yX11_dogs ∈ tblG ∧ Cond.initialized yX11_dogs.cls ∈ tblG ∧ Cond.code yX11_dogs cX11_dogs 2 (some .int) ∈ tblG := ⟨(tg_t (tb4 (List.mem_of_getElem? (i := 2) (by decide +kernel))) rfl), (tg_t (tb1 (List.mem_of_getElem? (i := 1) (by decide +kernel))) rfl), (tg_t (tb4 (List.mem_of_getElem? (i := 4) rfl)) rfl)⟩
theorem mv_X11_why : MV yX11_why cX11_why 2 (some .int) 1 := ⟨(tg_t (tb4 (List.mem_of_getElem? (i := 10) (by decide +kernel))) rfl), (tg_t (tb4 (List.mem_of_getElem? (i := 11) (by decide +kernel))) rfl), (tg_t (tb1 (List.mem_of_getElem? (i := 1) (by decide +kernel))) rfl), (tg_t (tb4 (List.mem_of_getElem? (i := 12) rfl)) rfl), ⟨by decide +kernel, by decide +kernel, by decide +kernel⟩⟩
theorem mw_X11_why : Cond.instanceMethod yX11_why ∈ tblG ∧ Cond.initialized yX11_why.cls ∈ tblG ∧ Cond.code yX11_why cX11_why 2 (some .int) ∈ tblG := ⟨(tg_t (tb4 (List.mem_of_getElem? (i := 10) (by decide +kernel))) rfl), (tg_t (tb1 (List.mem_of_getElem? (i := 1) (by decide +kernel))) rfl), (tg_t (tb4 (List.mem_of_getElem? (i := 12) rfl)) rfl)⟩
theorem mv_X11_bestFire : MV yX11_bestFire cX11_bestFire 4 (some .int) 3 := ⟨(tg_t (tb4 (List.mem_of_getElem? (i := 25) (by decide +kernel))) rfl), (tg_t (tb4 (List.mem_of_getElem? (i := 26) (by decide +kernel))) rfl), (tg_t (tb1 (List.mem_of_getElem? (i := 1) (by decide +kernel))) rfl), (tg_t (tb4 (List.mem_of_getElem? (i := 27) rfl)) rfl), ⟨by decide +kernel, by decide +kernel, by decide +kernel⟩⟩
theorem mw_X11_bestFire : Cond.instanceMethod yX11_bestFire ∈ tblG ∧ Cond.initialized yX11_bestFire.cls ∈ tblG ∧ Cond.code yX11_bestFire cX11_bestFire 4 (some .int) ∈ tblG := ⟨(tg_t (tb4 (List.mem_of_getElem? (i := 25) (by decide +kernel))) rfl), (tg_t (tb1 (List.mem_of_getElem? (i := 1) (by decide +kernel))) rfl), (tg_t (tb4 (List.mem_of_getElem? (i := 27) rfl)) rfl)⟩
theorem mv_X11_bestSwing : MV yX11_bestSwing cX11_bestSwing 4 (some .int) 3 := ⟨(tg_t (tb4 (List.mem_of_getElem? (i := 41) (by decide +kernel))) rfl), (tg_t (tb4 (List.mem_of_getElem? (i := 42) (by decide +kernel))) rfl), (tg_t (tb1 (List.mem_of_getElem? (i := 1) (by decide +kernel))) rfl), (tg_t (tb4 (List.mem_of_getElem? (i := 43) rfl)) rfl), ⟨by decide +kernel, by decide +kernel, by decide +kernel⟩⟩
theorem mw_X11_bestSwing : Cond.instanceMethod yX11_bestSwing ∈ tblG ∧ Cond.initialized yX11_bestSwing.cls ∈ tblG ∧ Cond.code yX11_bestSwing cX11_bestSwing 4 (some .int) ∈ tblG := ⟨(tg_t (tb4 (List.mem_of_getElem? (i := 41) (by decide +kernel))) rfl), (tg_t (tb1 (List.mem_of_getElem? (i := 1) (by decide +kernel))) rfl), (tg_t (tb4 (List.mem_of_getElem? (i := 43) rfl)) rfl)⟩
theorem mv_X11_nextTwo : MV yX11_nextTwo cX11_nextTwo 2 (some .int) 1 := ⟨(tg_t (tb4 (List.mem_of_getElem? (i := 57) (by decide +kernel))) rfl), (tg_t (tb4 (List.mem_of_getElem? (i := 58) (by decide +kernel))) rfl), (tg_t (tb1 (List.mem_of_getElem? (i := 1) (by decide +kernel))) rfl), (tg_t (tb4 (List.mem_of_getElem? (i := 59) rfl)) rfl), ⟨by decide +kernel, by decide +kernel, by decide +kernel⟩⟩
theorem mw_X11_nextTwo : Cond.instanceMethod yX11_nextTwo ∈ tblG ∧ Cond.initialized yX11_nextTwo.cls ∈ tblG ∧ Cond.code yX11_nextTwo cX11_nextTwo 2 (some .int) ∈ tblG := ⟨(tg_t (tb4 (List.mem_of_getElem? (i := 57) (by decide +kernel))) rfl), (tg_t (tb1 (List.mem_of_getElem? (i := 1) (by decide +kernel))) rfl), (tg_t (tb4 (List.mem_of_getElem? (i := 59) rfl)) rfl)⟩
theorem mv_X11_rounds : MV yX11_rounds cX11_rounds 7 (some .int) 6 := ⟨(tg_t (tb4 (List.mem_of_getElem? (i := 65) (by decide +kernel))) rfl), (tg_t (tb4 (List.mem_of_getElem? (i := 66) (by decide +kernel))) rfl), (tg_t (tb1 (List.mem_of_getElem? (i := 1) (by decide +kernel))) rfl), (tg_t (tb4 (List.mem_of_getElem? (i := 67) rfl)) rfl), ⟨by decide +kernel, by decide +kernel, by decide +kernel⟩⟩
theorem mw_X11_rounds : Cond.instanceMethod yX11_rounds ∈ tblG ∧ Cond.initialized yX11_rounds.cls ∈ tblG ∧ Cond.code yX11_rounds cX11_rounds 7 (some .int) ∈ tblG := ⟨(tg_t (tb4 (List.mem_of_getElem? (i := 65) (by decide +kernel))) rfl), (tg_t (tb1 (List.mem_of_getElem? (i := 1) (by decide +kernel))) rfl), (tg_t (tb4 (List.mem_of_getElem? (i := 67) rfl)) rfl)⟩
theorem mv_X11_toss : MV yX11_toss cX11_toss 3 (some .int) 2 := ⟨(tg_t (tb4 (List.mem_of_getElem? (i := 79) (by decide +kernel))) rfl), (tg_t (tb4 (List.mem_of_getElem? (i := 80) (by decide +kernel))) rfl), (tg_t (tb1 (List.mem_of_getElem? (i := 1) (by decide +kernel))) rfl), (tg_t (tb4 (List.mem_of_getElem? (i := 81) rfl)) rfl), ⟨by decide +kernel, by decide +kernel, by decide +kernel⟩⟩
theorem mw_X11_toss : Cond.instanceMethod yX11_toss ∈ tblG ∧ Cond.initialized yX11_toss.cls ∈ tblG ∧ Cond.code yX11_toss cX11_toss 3 (some .int) ∈ tblG := ⟨(tg_t (tb4 (List.mem_of_getElem? (i := 79) (by decide +kernel))) rfl), (tg_t (tb1 (List.mem_of_getElem? (i := 1) (by decide +kernel))) rfl), (tg_t (tb4 (List.mem_of_getElem? (i := 81) rfl)) rfl)⟩
theorem mv_X11_lands : MV yX11_lands cX11_lands 8 (some .int) 4 := ⟨(tg_t (tb4 (List.mem_of_getElem? (i := 86) (by decide +kernel))) rfl), (tg_t (tb4 (List.mem_of_getElem? (i := 87) (by decide +kernel))) rfl), (tg_t (tb1 (List.mem_of_getElem? (i := 1) (by decide +kernel))) rfl), (tg_t (tb4 (List.mem_of_getElem? (i := 88) rfl)) rfl), ⟨by decide +kernel, by decide +kernel, by decide +kernel⟩⟩
theorem mw_X11_lands : Cond.instanceMethod yX11_lands ∈ tblG ∧ Cond.initialized yX11_lands.cls ∈ tblG ∧ Cond.code yX11_lands cX11_lands 8 (some .int) ∈ tblG := ⟨(tg_t (tb4 (List.mem_of_getElem? (i := 86) (by decide +kernel))) rfl), (tg_t (tb1 (List.mem_of_getElem? (i := 1) (by decide +kernel))) rfl), (tg_t (tb4 (List.mem_of_getElem? (i := 88) rfl)) rfl)⟩
theorem mv_X11_bestSpin : MV yX11_bestSpin cX11_bestSpin 3 (some .int) 2 := ⟨(tg_t (tb4 (List.mem_of_getElem? (i := 104) (by decide +kernel))) rfl), (tg_t (tb4 (List.mem_of_getElem? (i := 105) (by decide +kernel))) rfl), (tg_t (tb1 (List.mem_of_getElem? (i := 1) (by decide +kernel))) rfl), (tg_t (tb4 (List.mem_of_getElem? (i := 106) rfl)) rfl), ⟨by decide +kernel, by decide +kernel, by decide +kernel⟩⟩
theorem mw_X11_bestSpin : Cond.instanceMethod yX11_bestSpin ∈ tblG ∧ Cond.initialized yX11_bestSpin.cls ∈ tblG ∧ Cond.code yX11_bestSpin cX11_bestSpin 3 (some .int) ∈ tblG := ⟨(tg_t (tb4 (List.mem_of_getElem? (i := 104) (by decide +kernel))) rfl), (tg_t (tb1 (List.mem_of_getElem? (i := 1) (by decide +kernel))) rfl), (tg_t (tb4 (List.mem_of_getElem? (i := 106) rfl)) rfl)⟩
theorem mv_X11_image : MV yX11_image cX11_image 1 (some .int) 0 := ⟨(tg_t (tb4 (List.mem_of_getElem? (i := 112) (by decide +kernel))) rfl), (tg_t (tb4 (List.mem_of_getElem? (i := 113) (by decide +kernel))) rfl), (tg_t (tb1 (List.mem_of_getElem? (i := 1) (by decide +kernel))) rfl), (tg_t (tb4 (List.mem_of_getElem? (i := 114) rfl)) rfl), ⟨by decide +kernel, by decide +kernel, by decide +kernel⟩⟩
theorem mw_X11_image : Cond.instanceMethod yX11_image ∈ tblG ∧ Cond.initialized yX11_image.cls ∈ tblG ∧ Cond.code yX11_image cX11_image 1 (some .int) ∈ tblG := ⟨(tg_t (tb4 (List.mem_of_getElem? (i := 112) (by decide +kernel))) rfl), (tg_t (tb1 (List.mem_of_getElem? (i := 1) (by decide +kernel))) rfl), (tg_t (tb4 (List.mem_of_getElem? (i := 114) rfl)) rfl)⟩
theorem mv_X11_restore : MV yX11_restore cX11_restore 1 (some .int) 0 := ⟨(tg_t (tb4 (List.mem_of_getElem? (i := 117) (by decide +kernel))) rfl), (tg_t (tb4 (List.mem_of_getElem? (i := 118) (by decide +kernel))) rfl), (tg_t (tb1 (List.mem_of_getElem? (i := 1) (by decide +kernel))) rfl), (tg_t (tb4 (List.mem_of_getElem? (i := 119) rfl)) rfl), ⟨by decide +kernel, by decide +kernel, by decide +kernel⟩⟩
theorem mw_X11_restore : Cond.instanceMethod yX11_restore ∈ tblG ∧ Cond.initialized yX11_restore.cls ∈ tblG ∧ Cond.code yX11_restore cX11_restore 1 (some .int) ∈ tblG := ⟨(tg_t (tb4 (List.mem_of_getElem? (i := 117) (by decide +kernel))) rfl), (tg_t (tb1 (List.mem_of_getElem? (i := 1) (by decide +kernel))) rfl), (tg_t (tb4 (List.mem_of_getElem? (i := 119) rfl)) rfl)⟩
theorem mv_X11_count : MV yX11_count cX11_count 2 (some .int) 1 := ⟨(tg_t (tb4 (List.mem_of_getElem? (i := 121) (by decide +kernel))) rfl), (tg_t (tb4 (List.mem_of_getElem? (i := 122) (by decide +kernel))) rfl), (tg_t (tb1 (List.mem_of_getElem? (i := 1) (by decide +kernel))) rfl), (tg_t (tb4 (List.mem_of_getElem? (i := 123) rfl)) rfl), ⟨by decide +kernel, by decide +kernel, by decide +kernel⟩⟩
theorem mw_X11_count : Cond.instanceMethod yX11_count ∈ tblG ∧ Cond.initialized yX11_count.cls ∈ tblG ∧ Cond.code yX11_count cX11_count 2 (some .int) ∈ tblG := ⟨(tg_t (tb4 (List.mem_of_getElem? (i := 121) (by decide +kernel))) rfl), (tg_t (tb1 (List.mem_of_getElem? (i := 1) (by decide +kernel))) rfl), (tg_t (tb4 (List.mem_of_getElem? (i := 123) rfl)) rfl)⟩
theorem mv_X11_digest : MV yX11_digest cX11_digest 4 (some .long) 0 := ⟨(tg_t (tb4 (List.mem_of_getElem? (i := 129) (by decide +kernel))) rfl), (tg_t (tb4 (List.mem_of_getElem? (i := 130) (by decide +kernel))) rfl), (tg_t (tb1 (List.mem_of_getElem? (i := 1) (by decide +kernel))) rfl), (tg_t (tb4 (List.mem_of_getElem? (i := 131) rfl)) rfl), ⟨by decide +kernel, by decide +kernel, by decide +kernel⟩⟩
theorem mw_X11_digest : Cond.instanceMethod yX11_digest ∈ tblG ∧ Cond.initialized yX11_digest.cls ∈ tblG ∧ Cond.code yX11_digest cX11_digest 4 (some .long) ∈ tblG := ⟨(tg_t (tb4 (List.mem_of_getElem? (i := 129) (by decide +kernel))) rfl), (tg_t (tb1 (List.mem_of_getElem? (i := 1) (by decide +kernel))) rfl), (tg_t (tb4 (List.mem_of_getElem? (i := 131) rfl)) rfl)⟩
theorem mv_X11_digestOfCells : MV yX11_digestOfCells cX11_digestOfCells 7 (some .long) 1 := ⟨(tg_t (tb4 (List.mem_of_getElem? (i := 135) (by decide +kernel))) rfl), (tg_s (List.mem_of_getElem? (i := 21) (by decide +kernel)) rfl), (tg_t (tb1 (List.mem_of_getElem? (i := 1) (by decide +kernel))) rfl), (tg_t (tb4 (List.mem_of_getElem? (i := 136) rfl)) rfl), ⟨by decide +kernel, by decide +kernel, by decide +kernel⟩⟩
theorem mw_X11_digestOfCells : Cond.instanceMethod yX11_digestOfCells ∈ tblG ∧ Cond.initialized yX11_digestOfCells.cls ∈ tblG ∧ Cond.code yX11_digestOfCells cX11_digestOfCells 7 (some .long) ∈ tblG := ⟨(tg_t (tb4 (List.mem_of_getElem? (i := 135) (by decide +kernel))) rfl), (tg_t (tb1 (List.mem_of_getElem? (i := 1) (by decide +kernel))) rfl), (tg_t (tb4 (List.mem_of_getElem? (i := 136) rfl)) rfl)⟩
theorem mv_X11_digestOfPlans : MV yX11_digestOfPlans cX11_digestOfPlans 7 (some .long) 1 := ⟨(tg_t (tb4 (List.mem_of_getElem? (i := 144) (by decide +kernel))) rfl), (tg_s (List.mem_of_getElem? (i := 22) (by decide +kernel)) rfl), (tg_t (tb1 (List.mem_of_getElem? (i := 1) (by decide +kernel))) rfl), (tg_t (tb4 (List.mem_of_getElem? (i := 145) rfl)) rfl), ⟨by decide +kernel, by decide +kernel, by decide +kernel⟩⟩
theorem mw_X11_digestOfPlans : Cond.instanceMethod yX11_digestOfPlans ∈ tblG ∧ Cond.initialized yX11_digestOfPlans.cls ∈ tblG ∧ Cond.code yX11_digestOfPlans cX11_digestOfPlans 7 (some .long) ∈ tblG := ⟨(tg_t (tb4 (List.mem_of_getElem? (i := 144) (by decide +kernel))) rfl), (tg_t (tb1 (List.mem_of_getElem? (i := 1) (by decide +kernel))) rfl), (tg_t (tb4 (List.mem_of_getElem? (i := 145) rfl)) rfl)⟩
theorem mv_X11_digestOfCakes : MV yX11_digestOfCakes cX11_digestOfCakes 7 (some .long) 1 := ⟨(tg_t (tb4 (List.mem_of_getElem? (i := 148) (by decide +kernel))) rfl), (tg_s (List.mem_of_getElem? (i := 23) (by decide +kernel)) rfl), (tg_t (tb1 (List.mem_of_getElem? (i := 1) (by decide +kernel))) rfl), (tg_t (tb4 (List.mem_of_getElem? (i := 149) rfl)) rfl), ⟨by decide +kernel, by decide +kernel, by decide +kernel⟩⟩
theorem mw_X11_digestOfCakes : Cond.instanceMethod yX11_digestOfCakes ∈ tblG ∧ Cond.initialized yX11_digestOfCakes.cls ∈ tblG ∧ Cond.code yX11_digestOfCakes cX11_digestOfCakes 7 (some .long) ∈ tblG := ⟨(tg_t (tb4 (List.mem_of_getElem? (i := 148) (by decide +kernel))) rfl), (tg_t (tb1 (List.mem_of_getElem? (i := 1) (by decide +kernel))) rfl), (tg_t (tb4 (List.mem_of_getElem? (i := 149) rfl)) rfl)⟩
theorem mv_X11_digestOfTried : MV yX11_digestOfTried cX11_digestOfTried 7 (some .long) 1 := ⟨(tg_t (tb4 (List.mem_of_getElem? (i := 152) (by decide +kernel))) rfl), (tg_s (List.mem_of_getElem? (i := 24) (by decide +kernel)) rfl), (tg_t (tb1 (List.mem_of_getElem? (i := 1) (by decide +kernel))) rfl), (tg_t (tb4 (List.mem_of_getElem? (i := 153) rfl)) rfl), ⟨by decide +kernel, by decide +kernel, by decide +kernel⟩⟩
theorem mw_X11_digestOfTried : Cond.instanceMethod yX11_digestOfTried ∈ tblG ∧ Cond.initialized yX11_digestOfTried.cls ∈ tblG ∧ Cond.code yX11_digestOfTried cX11_digestOfTried 7 (some .long) ∈ tblG := ⟨(tg_t (tb4 (List.mem_of_getElem? (i := 152) (by decide +kernel))) rfl), (tg_t (tb1 (List.mem_of_getElem? (i := 1) (by decide +kernel))) rfl), (tg_t (tb4 (List.mem_of_getElem? (i := 153) rfl)) rfl)⟩
theorem mv_X11_worthTogether : MV yX11_worthTogether cX11_worthTogether 3 (some .int) 0 := ⟨(tg_t (tb4 (List.mem_of_getElem? (i := 126) (by decide +kernel))) rfl), (tg_s (List.mem_of_getElem? (i := 20) (by decide +kernel)) rfl), (tg_t (tb1 (List.mem_of_getElem? (i := 1) (by decide +kernel))) rfl), (tg_t (tb4 (List.mem_of_getElem? (i := 127) rfl)) rfl), ⟨by decide +kernel, by decide +kernel, by decide +kernel⟩⟩
theorem mw_X11_worthTogether : Cond.instanceMethod yX11_worthTogether ∈ tblG ∧ Cond.initialized yX11_worthTogether.cls ∈ tblG ∧ Cond.code yX11_worthTogether cX11_worthTogether 3 (some .int) ∈ tblG := ⟨(tg_t (tb4 (List.mem_of_getElem? (i := 126) (by decide +kernel))) rfl), (tg_t (tb1 (List.mem_of_getElem? (i := 1) (by decide +kernel))) rfl), (tg_t (tb4 (List.mem_of_getElem? (i := 127) rfl)) rfl)⟩
theorem mv_X11_hasPan : MV yX11_hasPan cX11_hasPan 1 (some .boolean) 0 := ⟨(tg_t (tb3 (List.mem_of_getElem? (i := 106) (by decide +kernel))) rfl), (tg_s (List.mem_of_getElem? (i := 8) (by decide +kernel)) rfl), (tg_t (tb1 (List.mem_of_getElem? (i := 1) (by decide +kernel))) rfl), (tg_t (tb3 (List.mem_of_getElem? (i := 107) rfl)) rfl), ⟨by decide +kernel, by decide +kernel, by decide +kernel⟩⟩
theorem mw_X11_hasPan : Cond.instanceMethod yX11_hasPan ∈ tblG ∧ Cond.initialized yX11_hasPan.cls ∈ tblG ∧ Cond.code yX11_hasPan cX11_hasPan 1 (some .boolean) ∈ tblG := ⟨(tg_t (tb3 (List.mem_of_getElem? (i := 106) (by decide +kernel))) rfl), (tg_t (tb1 (List.mem_of_getElem? (i := 1) (by decide +kernel))) rfl), (tg_t (tb3 (List.mem_of_getElem? (i := 107) rfl)) rfl)⟩
theorem mv_X11_isPlan : MV yX11_isPlan cX11_isPlan 2 (some .boolean) 1 := ⟨(tg_t (tb3 (List.mem_of_getElem? (i := 81) (by decide +kernel))) rfl), (tg_s (List.mem_of_getElem? (i := 6) (by decide +kernel)) rfl), (tg_t (tb1 (List.mem_of_getElem? (i := 1) (by decide +kernel))) rfl), (tg_t (tb3 (List.mem_of_getElem? (i := 82) rfl)) rfl), ⟨by decide +kernel, by decide +kernel, by decide +kernel⟩⟩
theorem mw_X11_isPlan : Cond.instanceMethod yX11_isPlan ∈ tblG ∧ Cond.initialized yX11_isPlan.cls ∈ tblG ∧ Cond.code yX11_isPlan cX11_isPlan 2 (some .boolean) ∈ tblG := ⟨(tg_t (tb3 (List.mem_of_getElem? (i := 81) (by decide +kernel))) rfl), (tg_t (tb1 (List.mem_of_getElem? (i := 1) (by decide +kernel))) rfl), (tg_t (tb3 (List.mem_of_getElem? (i := 82) rfl)) rfl)⟩
theorem mv_X11_isCell : MV yX11_isCell cX11_isCell 2 (some .boolean) 1 := ⟨(tg_t (tb3 (List.mem_of_getElem? (i := 98) (by decide +kernel))) rfl), (tg_s (List.mem_of_getElem? (i := 7) (by decide +kernel)) rfl), (tg_t (tb1 (List.mem_of_getElem? (i := 1) (by decide +kernel))) rfl), (tg_t (tb3 (List.mem_of_getElem? (i := 99) rfl)) rfl), ⟨by decide +kernel, by decide +kernel, by decide +kernel⟩⟩
theorem mw_X11_isCell : Cond.instanceMethod yX11_isCell ∈ tblG ∧ Cond.initialized yX11_isCell.cls ∈ tblG ∧ Cond.code yX11_isCell cX11_isCell 2 (some .boolean) ∈ tblG := ⟨(tg_t (tb3 (List.mem_of_getElem? (i := 98) (by decide +kernel))) rfl), (tg_t (tb1 (List.mem_of_getElem? (i := 1) (by decide +kernel))) rfl), (tg_t (tb3 (List.mem_of_getElem? (i := 99) rfl)) rfl)⟩
theorem mv_X11_isCake : MV yX11_isCake cX11_isCake 2 (some .boolean) 1 := ⟨(tg_t (tb3 (List.mem_of_getElem? (i := 195) (by decide +kernel))) rfl), (tg_s (List.mem_of_getElem? (i := 16) (by decide +kernel)) rfl), (tg_t (tb1 (List.mem_of_getElem? (i := 1) (by decide +kernel))) rfl), (tg_t (tb3 (List.mem_of_getElem? (i := 196) rfl)) rfl), ⟨by decide +kernel, by decide +kernel, by decide +kernel⟩⟩
theorem mw_X11_isCake : Cond.instanceMethod yX11_isCake ∈ tblG ∧ Cond.initialized yX11_isCake.cls ∈ tblG ∧ Cond.code yX11_isCake cX11_isCake 2 (some .boolean) ∈ tblG := ⟨(tg_t (tb3 (List.mem_of_getElem? (i := 195) (by decide +kernel))) rfl), (tg_t (tb1 (List.mem_of_getElem? (i := 1) (by decide +kernel))) rfl), (tg_t (tb3 (List.mem_of_getElem? (i := 196) rfl)) rfl)⟩
theorem ms_X11_within : MSt yX11_within cX11_within 3 (some .boolean) 3 := ⟨(tg_t (tb2 (List.mem_of_getElem? (i := 105) (by decide +kernel))) rfl), (tg_t (tb1 (List.mem_of_getElem? (i := 1) (by decide +kernel))) rfl), (tg_t (tb2 (List.mem_of_getElem? (i := 106) rfl)) rfl), ⟨by decide +kernel, by decide +kernel, by decide +kernel⟩⟩
theorem ms_X11_mixed : MSt yX11_mixed cX11_mixed 4 (some .long) 2 := ⟨(tg_t (tb4 (List.mem_of_getElem? (i := 139) (by decide +kernel))) rfl), (tg_t (tb1 (List.mem_of_getElem? (i := 1) (by decide +kernel))) rfl), (tg_t (tb4 (List.mem_of_getElem? (i := 140) rfl)) rfl), ⟨by decide +kernel, by decide +kernel, by decide +kernel⟩⟩
theorem ms_X12_within : MSt yX12_within cX12_within 3 (some .boolean) 3 := ⟨(tg_t (tb5 (List.mem_of_getElem? (i := 137) (by decide +kernel))) rfl), (tg_t (tb1 (List.mem_of_getElem? (i := 12) (by decide +kernel))) rfl), (tg_t (tb5 (List.mem_of_getElem? (i := 138) rfl)) rfl), ⟨by decide +kernel, by decide +kernel, by decide +kernel⟩⟩
theorem ms_X12_atLeast : MSt yX12_atLeast cX12_atLeast 1 (some .int) 1 := ⟨(tg_t (tb5 (List.mem_of_getElem? (i := 230) (by decide +kernel))) rfl), (tg_t (tb1 (List.mem_of_getElem? (i := 12) (by decide +kernel))) rfl), (tg_t (tb5 (List.mem_of_getElem? (i := 231) rfl)) rfl), ⟨by decide +kernel, by decide +kernel, by decide +kernel⟩⟩
theorem mv_X12_letters : MV yX12_letters cX12_letters 7 (some .int) 1 := ⟨(tg_t (tb5 (List.mem_of_getElem? (i := 124) (by decide +kernel))) rfl), (tg_t (tb5 (List.mem_of_getElem? (i := 125) (by decide +kernel))) rfl), (tg_t (tb1 (List.mem_of_getElem? (i := 12) (by decide +kernel))) rfl), (tg_t (tb5 (List.mem_of_getElem? (i := 126) rfl)) rfl), ⟨by decide +kernel, by decide +kernel, by decide +kernel⟩⟩
theorem mw_X12_letters : Cond.instanceMethod yX12_letters ∈ tblG ∧ Cond.initialized yX12_letters.cls ∈ tblG ∧ Cond.code yX12_letters cX12_letters 7 (some .int) ∈ tblG := ⟨(tg_t (tb5 (List.mem_of_getElem? (i := 124) (by decide +kernel))) rfl), (tg_t (tb1 (List.mem_of_getElem? (i := 12) (by decide +kernel))) rfl), (tg_t (tb5 (List.mem_of_getElem? (i := 126) rfl)) rfl)⟩
theorem mv_X12_blank : MV yX12_blank cX12_blank 2 (some .int) 0 := ⟨(tg_t (tb5 (List.mem_of_getElem? (i := 129) (by decide +kernel))) rfl), (tg_t (tb5 (List.mem_of_getElem? (i := 130) (by decide +kernel))) rfl), (tg_t (tb1 (List.mem_of_getElem? (i := 12) (by decide +kernel))) rfl), (tg_t (tb5 (List.mem_of_getElem? (i := 131) rfl)) rfl), ⟨by decide +kernel, by decide +kernel, by decide +kernel⟩⟩
theorem mw_X12_blank : Cond.instanceMethod yX12_blank ∈ tblG ∧ Cond.initialized yX12_blank.cls ∈ tblG ∧ Cond.code yX12_blank cX12_blank 2 (some .int) ∈ tblG := ⟨(tg_t (tb5 (List.mem_of_getElem? (i := 129) (by decide +kernel))) rfl), (tg_t (tb1 (List.mem_of_getElem? (i := 12) (by decide +kernel))) rfl), (tg_t (tb5 (List.mem_of_getElem? (i := 131) rfl)) rfl)⟩
theorem ms_X12_isDigit : MSt yX12_isDigit cX12_isDigit 1 (some .boolean) 1 := ⟨(tg_t (tb5 (List.mem_of_getElem? (i := 148) (by decide +kernel))) rfl), (tg_t (tb1 (List.mem_of_getElem? (i := 12) (by decide +kernel))) rfl), (tg_t (tb5 (List.mem_of_getElem? (i := 149) rfl)) rfl), ⟨by decide +kernel, by decide +kernel, by decide +kernel⟩⟩
theorem mv_X12_takePan : MV yX12_takePan cX12_takePan 4 (some .boolean) 1 := ⟨(tg_t (tb5 (List.mem_of_getElem? (i := 145) (by decide +kernel))) rfl), (tg_s (List.mem_of_getElem? (i := 26) (by decide +kernel)) rfl), (tg_t (tb1 (List.mem_of_getElem? (i := 12) (by decide +kernel))) rfl), (tg_t (tb5 (List.mem_of_getElem? (i := 146) rfl)) rfl), ⟨by decide +kernel, by decide +kernel, by decide +kernel⟩⟩
theorem mw_X12_takePan : Cond.instanceMethod yX12_takePan ∈ tblG ∧ Cond.initialized yX12_takePan.cls ∈ tblG ∧ Cond.code yX12_takePan cX12_takePan 4 (some .boolean) ∈ tblG := ⟨(tg_t (tb5 (List.mem_of_getElem? (i := 145) (by decide +kernel))) rfl), (tg_t (tb1 (List.mem_of_getElem? (i := 12) (by decide +kernel))) rfl), (tg_t (tb5 (List.mem_of_getElem? (i := 146) rfl)) rfl)⟩
theorem mv_X12_readPan : MV yX12_readPan cX12_readPan 2 none 0 := ⟨(tg_t (tb5 (List.mem_of_getElem? (i := 141) (by decide +kernel))) rfl), (tg_s (List.mem_of_getElem? (i := 25) (by decide +kernel)) rfl), (tg_t (tb1 (List.mem_of_getElem? (i := 12) (by decide +kernel))) rfl), (tg_t (tb5 (List.mem_of_getElem? (i := 142) rfl)) rfl), ⟨by decide +kernel, by decide +kernel, by decide +kernel⟩⟩
theorem mw_X12_readPan : Cond.instanceMethod yX12_readPan ∈ tblG ∧ Cond.initialized yX12_readPan.cls ∈ tblG ∧ Cond.code yX12_readPan cX12_readPan 2 none ∈ tblG := ⟨(tg_t (tb5 (List.mem_of_getElem? (i := 141) (by decide +kernel))) rfl), (tg_t (tb1 (List.mem_of_getElem? (i := 12) (by decide +kernel))) rfl), (tg_t (tb5 (List.mem_of_getElem? (i := 142) rfl)) rfl)⟩
theorem ms_X12_swingBy : MSt yX12_swingBy cX12_swingBy 1 (some .int) 1 := ⟨(tg_t (tb5 (List.mem_of_getElem? (i := 179) (by decide +kernel))) rfl), (tg_t (tb1 (List.mem_of_getElem? (i := 12) (by decide +kernel))) rfl), (tg_t (tb5 (List.mem_of_getElem? (i := 180) rfl)) rfl), ⟨by decide +kernel, by decide +kernel, by decide +kernel⟩⟩
theorem mv_X12_number : MV yX12_number cX12_number 2 (some .int) 1 := ⟨(tg_t (tb5 (List.mem_of_getElem? (i := 172) (by decide +kernel))) rfl), (tg_s (List.mem_of_getElem? (i := 32) (by decide +kernel)) rfl), (tg_t (tb1 (List.mem_of_getElem? (i := 12) (by decide +kernel))) rfl), (tg_t (tb5 (List.mem_of_getElem? (i := 173) rfl)) rfl), ⟨by decide +kernel, by decide +kernel, by decide +kernel⟩⟩
theorem mw_X12_number : Cond.instanceMethod yX12_number ∈ tblG ∧ Cond.initialized yX12_number.cls ∈ tblG ∧ Cond.code yX12_number cX12_number 2 (some .int) ∈ tblG := ⟨(tg_t (tb5 (List.mem_of_getElem? (i := 172) (by decide +kernel))) rfl), (tg_t (tb1 (List.mem_of_getElem? (i := 12) (by decide +kernel))) rfl), (tg_t (tb5 (List.mem_of_getElem? (i := 173) rfl)) rfl)⟩
theorem mv_X12_setNumber : MV yX12_setNumber cX12_setNumber 3 none 2 := ⟨(tg_t (tb5 (List.mem_of_getElem? (i := 164) (by decide +kernel))) rfl), (tg_s (List.mem_of_getElem? (i := 30) (by decide +kernel)) rfl), (tg_t (tb1 (List.mem_of_getElem? (i := 12) (by decide +kernel))) rfl), (tg_t (tb5 (List.mem_of_getElem? (i := 165) rfl)) rfl), ⟨by decide +kernel, by decide +kernel, by decide +kernel⟩⟩
theorem mw_X12_setNumber : Cond.instanceMethod yX12_setNumber ∈ tblG ∧ Cond.initialized yX12_setNumber.cls ∈ tblG ∧ Cond.code yX12_setNumber cX12_setNumber 3 none ∈ tblG := ⟨(tg_t (tb5 (List.mem_of_getElem? (i := 164) (by decide +kernel))) rfl), (tg_t (tb1 (List.mem_of_getElem? (i := 12) (by decide +kernel))) rfl), (tg_t (tb5 (List.mem_of_getElem? (i := 165) rfl)) rfl)⟩
theorem mv_X12_beginNumber : MV yX12_beginNumber cX12_beginNumber 3 (some .boolean) 2 := ⟨(tg_t (tb5 (List.mem_of_getElem? (i := 160) (by decide +kernel))) rfl), (tg_s (List.mem_of_getElem? (i := 29) (by decide +kernel)) rfl), (tg_t (tb1 (List.mem_of_getElem? (i := 12) (by decide +kernel))) rfl), (tg_t (tb5 (List.mem_of_getElem? (i := 161) rfl)) rfl), ⟨by decide +kernel, by decide +kernel, by decide +kernel⟩⟩
theorem mw_X12_beginNumber : Cond.instanceMethod yX12_beginNumber ∈ tblG ∧ Cond.initialized yX12_beginNumber.cls ∈ tblG ∧ Cond.code yX12_beginNumber cX12_beginNumber 3 (some .boolean) ∈ tblG := ⟨(tg_t (tb5 (List.mem_of_getElem? (i := 160) (by decide +kernel))) rfl), (tg_t (tb1 (List.mem_of_getElem? (i := 12) (by decide +kernel))) rfl), (tg_t (tb5 (List.mem_of_getElem? (i := 161) rfl)) rfl)⟩
theorem mv_X12_goOnNumber : MV yX12_goOnNumber cX12_goOnNumber 4 (some .boolean) 2 := ⟨(tg_t (tb5 (List.mem_of_getElem? (i := 168) (by decide +kernel))) rfl), (tg_s (List.mem_of_getElem? (i := 31) (by decide +kernel)) rfl), (tg_t (tb1 (List.mem_of_getElem? (i := 12) (by decide +kernel))) rfl), (tg_t (tb5 (List.mem_of_getElem? (i := 169) rfl)) rfl), ⟨by decide +kernel, by decide +kernel, by decide +kernel⟩⟩
theorem mw_X12_goOnNumber : Cond.instanceMethod yX12_goOnNumber ∈ tblG ∧ Cond.initialized yX12_goOnNumber.cls ∈ tblG ∧ Cond.code yX12_goOnNumber cX12_goOnNumber 4 (some .boolean) ∈ tblG := ⟨(tg_t (tb5 (List.mem_of_getElem? (i := 168) (by decide +kernel))) rfl), (tg_t (tb1 (List.mem_of_getElem? (i := 12) (by decide +kernel))) rfl), (tg_t (tb5 (List.mem_of_getElem? (i := 169) rfl)) rfl)⟩
theorem mv_X12_nextPlan : MV yX12_nextPlan cX12_nextPlan 3 (some .int) 2 := ⟨(tg_t (tb5 (List.mem_of_getElem? (i := 156) (by decide +kernel))) rfl), (tg_s (List.mem_of_getElem? (i := 28) (by decide +kernel)) rfl), (tg_t (tb1 (List.mem_of_getElem? (i := 12) (by decide +kernel))) rfl), (tg_t (tb5 (List.mem_of_getElem? (i := 157) rfl)) rfl), ⟨by decide +kernel, by decide +kernel, by decide +kernel⟩⟩
theorem mw_X12_nextPlan : Cond.instanceMethod yX12_nextPlan ∈ tblG ∧ Cond.initialized yX12_nextPlan.cls ∈ tblG ∧ Cond.code yX12_nextPlan cX12_nextPlan 3 (some .int) ∈ tblG := ⟨(tg_t (tb5 (List.mem_of_getElem? (i := 156) (by decide +kernel))) rfl), (tg_t (tb1 (List.mem_of_getElem? (i := 12) (by decide +kernel))) rfl), (tg_t (tb5 (List.mem_of_getElem? (i := 157) rfl)) rfl)⟩
theorem mv_X12_afterAmount : MV yX12_afterAmount cX12_afterAmount 2 (some .int) 1 := ⟨(tg_t (tb5 (List.mem_of_getElem? (i := 176) (by decide +kernel))) rfl), (tg_s (List.mem_of_getElem? (i := 33) (by decide +kernel)) rfl), (tg_t (tb1 (List.mem_of_getElem? (i := 12) (by decide +kernel))) rfl), (tg_t (tb5 (List.mem_of_getElem? (i := 177) rfl)) rfl), ⟨by decide +kernel, by decide +kernel, by decide +kernel⟩⟩
theorem mw_X12_afterAmount : Cond.instanceMethod yX12_afterAmount ∈ tblG ∧ Cond.initialized yX12_afterAmount.cls ∈ tblG ∧ Cond.code yX12_afterAmount cX12_afterAmount 2 (some .int) ∈ tblG := ⟨(tg_t (tb5 (List.mem_of_getElem? (i := 176) (by decide +kernel))) rfl), (tg_t (tb1 (List.mem_of_getElem? (i := 12) (by decide +kernel))) rfl), (tg_t (tb5 (List.mem_of_getElem? (i := 177) rfl)) rfl)⟩
theorem mv_X12_readPlan : MV yX12_readPlan cX12_readPlan 5 none 0 := ⟨(tg_t (tb5 (List.mem_of_getElem? (i := 152) (by decide +kernel))) rfl), (tg_s (List.mem_of_getElem? (i := 27) (by decide +kernel)) rfl), (tg_t (tb1 (List.mem_of_getElem? (i := 12) (by decide +kernel))) rfl), (tg_t (tb5 (List.mem_of_getElem? (i := 153) rfl)) rfl), ⟨by decide +kernel, by decide +kernel, by decide +kernel⟩⟩
theorem mw_X12_readPlan : Cond.instanceMethod yX12_readPlan ∈ tblG ∧ Cond.initialized yX12_readPlan.cls ∈ tblG ∧ Cond.code yX12_readPlan cX12_readPlan 5 none ∈ tblG := ⟨(tg_t (tb5 (List.mem_of_getElem? (i := 152) (by decide +kernel))) rfl), (tg_t (tb1 (List.mem_of_getElem? (i := 12) (by decide +kernel))) rfl), (tg_t (tb5 (List.mem_of_getElem? (i := 153) rfl)) rfl)⟩
theorem mv_X12_fault : MV yX12_fault cX12_fault 2 (some .int) 1 := ⟨(tg_t (tb5 (List.mem_of_getElem? (i := 133) (by decide +kernel))) rfl), (tg_t (tb5 (List.mem_of_getElem? (i := 134) (by decide +kernel))) rfl), (tg_t (tb1 (List.mem_of_getElem? (i := 12) (by decide +kernel))) rfl), (tg_t (tb5 (List.mem_of_getElem? (i := 135) rfl)) rfl), ⟨by decide +kernel, by decide +kernel, by decide +kernel⟩⟩
theorem mw_X12_fault : Cond.instanceMethod yX12_fault ∈ tblG ∧ Cond.initialized yX12_fault.cls ∈ tblG ∧ Cond.code yX12_fault cX12_fault 2 (some .int) ∈ tblG := ⟨(tg_t (tb5 (List.mem_of_getElem? (i := 133) (by decide +kernel))) rfl), (tg_t (tb1 (List.mem_of_getElem? (i := 12) (by decide +kernel))) rfl), (tg_t (tb5 (List.mem_of_getElem? (i := 135) rfl)) rfl)⟩
theorem mv_X12_pan : MV yX12_pan cX12_pan 2 (some .int) 0 := ⟨(tg_t (tb5 (List.mem_of_getElem? (i := 182) (by decide +kernel))) rfl), (tg_t (tb5 (List.mem_of_getElem? (i := 183) (by decide +kernel))) rfl), (tg_t (tb1 (List.mem_of_getElem? (i := 12) (by decide +kernel))) rfl), (tg_t (tb5 (List.mem_of_getElem? (i := 184) rfl)) rfl), ⟨by decide +kernel, by decide +kernel, by decide +kernel⟩⟩
theorem mw_X12_pan : Cond.instanceMethod yX12_pan ∈ tblG ∧ Cond.initialized yX12_pan.cls ∈ tblG ∧ Cond.code yX12_pan cX12_pan 2 (some .int) ∈ tblG := ⟨(tg_t (tb5 (List.mem_of_getElem? (i := 182) (by decide +kernel))) rfl), (tg_t (tb1 (List.mem_of_getElem? (i := 12) (by decide +kernel))) rfl), (tg_t (tb5 (List.mem_of_getElem? (i := 184) rfl)) rfl)⟩
theorem mv_X12_plan : MV yX12_plan cX12_plan 2 (some .int) 0 := ⟨(tg_t (tb5 (List.mem_of_getElem? (i := 186) (by decide +kernel))) rfl), (tg_t (tb5 (List.mem_of_getElem? (i := 187) (by decide +kernel))) rfl), (tg_t (tb1 (List.mem_of_getElem? (i := 12) (by decide +kernel))) rfl), (tg_t (tb5 (List.mem_of_getElem? (i := 188) rfl)) rfl), ⟨by decide +kernel, by decide +kernel, by decide +kernel⟩⟩
theorem mw_X12_plan : Cond.instanceMethod yX12_plan ∈ tblG ∧ Cond.initialized yX12_plan.cls ∈ tblG ∧ Cond.code yX12_plan cX12_plan 2 (some .int) ∈ tblG := ⟨(tg_t (tb5 (List.mem_of_getElem? (i := 186) (by decide +kernel))) rfl), (tg_t (tb1 (List.mem_of_getElem? (i := 12) (by decide +kernel))) rfl), (tg_t (tb5 (List.mem_of_getElem? (i := 188) rfl)) rfl)⟩
theorem mv_X12_isPlan : MV yX12_isPlan cX12_isPlan 2 (some .boolean) 1 := ⟨(tg_t (tb5 (List.mem_of_getElem? (i := 195) (by decide +kernel))) rfl), (tg_s (List.mem_of_getElem? (i := 34) (by decide +kernel)) rfl), (tg_t (tb1 (List.mem_of_getElem? (i := 12) (by decide +kernel))) rfl), (tg_t (tb5 (List.mem_of_getElem? (i := 196) rfl)) rfl), ⟨by decide +kernel, by decide +kernel, by decide +kernel⟩⟩
theorem mw_X12_isPlan : Cond.instanceMethod yX12_isPlan ∈ tblG ∧ Cond.initialized yX12_isPlan.cls ∈ tblG ∧ Cond.code yX12_isPlan cX12_isPlan 2 (some .boolean) ∈ tblG := ⟨(tg_t (tb5 (List.mem_of_getElem? (i := 195) (by decide +kernel))) rfl), (tg_t (tb1 (List.mem_of_getElem? (i := 12) (by decide +kernel))) rfl), (tg_t (tb5 (List.mem_of_getElem? (i := 196) rfl)) rfl)⟩
theorem mv_X12_planNow : MV yX12_planNow cX12_planNow 3 (some .int) 2 := ⟨(tg_t (tb5 (List.mem_of_getElem? (i := 199) (by decide +kernel))) rfl), (tg_s (List.mem_of_getElem? (i := 35) (by decide +kernel)) rfl), (tg_t (tb1 (List.mem_of_getElem? (i := 12) (by decide +kernel))) rfl), (tg_t (tb5 (List.mem_of_getElem? (i := 200) rfl)) rfl), ⟨by decide +kernel, by decide +kernel, by decide +kernel⟩⟩
theorem mw_X12_planNow : Cond.instanceMethod yX12_planNow ∈ tblG ∧ Cond.initialized yX12_planNow.cls ∈ tblG ∧ Cond.code yX12_planNow cX12_planNow 3 (some .int) ∈ tblG := ⟨(tg_t (tb5 (List.mem_of_getElem? (i := 199) (by decide +kernel))) rfl), (tg_t (tb1 (List.mem_of_getElem? (i := 12) (by decide +kernel))) rfl), (tg_t (tb5 (List.mem_of_getElem? (i := 200) rfl)) rfl)⟩
theorem mv_X12_planTold : MV yX12_planTold cX12_planTold 3 (some .int) 2 := ⟨(tg_t (tb5 (List.mem_of_getElem? (i := 190) (by decide +kernel))) rfl), (tg_t (tb5 (List.mem_of_getElem? (i := 191) (by decide +kernel))) rfl), (tg_t (tb1 (List.mem_of_getElem? (i := 12) (by decide +kernel))) rfl), (tg_t (tb5 (List.mem_of_getElem? (i := 192) rfl)) rfl), ⟨by decide +kernel, by decide +kernel, by decide +kernel⟩⟩
theorem mw_X12_planTold : Cond.instanceMethod yX12_planTold ∈ tblG ∧ Cond.initialized yX12_planTold.cls ∈ tblG ∧ Cond.code yX12_planTold cX12_planTold 3 (some .int) ∈ tblG := ⟨(tg_t (tb5 (List.mem_of_getElem? (i := 190) (by decide +kernel))) rfl), (tg_t (tb1 (List.mem_of_getElem? (i := 12) (by decide +kernel))) rfl), (tg_t (tb5 (List.mem_of_getElem? (i := 192) rfl)) rfl)⟩
theorem mv_X12_cells : MV yX12_cells cX12_cells 1 (some .int) 0 := ⟨(tg_t (tb5 (List.mem_of_getElem? (i := 211) (by decide +kernel))) rfl), (tg_s (List.mem_of_getElem? (i := 37) (by decide +kernel)) rfl), (tg_t (tb1 (List.mem_of_getElem? (i := 12) (by decide +kernel))) rfl), (tg_t (tb5 (List.mem_of_getElem? (i := 212) rfl)) rfl), ⟨by decide +kernel, by decide +kernel, by decide +kernel⟩⟩
theorem mw_X12_cells : Cond.instanceMethod yX12_cells ∈ tblG ∧ Cond.initialized yX12_cells.cls ∈ tblG ∧ Cond.code yX12_cells cX12_cells 1 (some .int) ∈ tblG := ⟨(tg_t (tb5 (List.mem_of_getElem? (i := 211) (by decide +kernel))) rfl), (tg_t (tb1 (List.mem_of_getElem? (i := 12) (by decide +kernel))) rfl), (tg_t (tb5 (List.mem_of_getElem? (i := 212) rfl)) rfl)⟩
theorem mv_X12_isCell : MV yX12_isCell cX12_isCell 2 (some .boolean) 1 := ⟨(tg_t (tb5 (List.mem_of_getElem? (i := 207) (by decide +kernel))) rfl), (tg_s (List.mem_of_getElem? (i := 36) (by decide +kernel)) rfl), (tg_t (tb1 (List.mem_of_getElem? (i := 12) (by decide +kernel))) rfl), (tg_t (tb5 (List.mem_of_getElem? (i := 208) rfl)) rfl), ⟨by decide +kernel, by decide +kernel, by decide +kernel⟩⟩
theorem mw_X12_isCell : Cond.instanceMethod yX12_isCell ∈ tblG ∧ Cond.initialized yX12_isCell.cls ∈ tblG ∧ Cond.code yX12_isCell cX12_isCell 2 (some .boolean) ∈ tblG := ⟨(tg_t (tb5 (List.mem_of_getElem? (i := 207) (by decide +kernel))) rfl), (tg_t (tb1 (List.mem_of_getElem? (i := 12) (by decide +kernel))) rfl), (tg_t (tb5 (List.mem_of_getElem? (i := 208) rfl)) rfl)⟩
theorem mv_X12_cellNow : MV yX12_cellNow cX12_cellNow 3 (some .int) 2 := ⟨(tg_t (tb5 (List.mem_of_getElem? (i := 215) (by decide +kernel))) rfl), (tg_s (List.mem_of_getElem? (i := 38) (by decide +kernel)) rfl), (tg_t (tb1 (List.mem_of_getElem? (i := 12) (by decide +kernel))) rfl), (tg_t (tb5 (List.mem_of_getElem? (i := 216) rfl)) rfl), ⟨by decide +kernel, by decide +kernel, by decide +kernel⟩⟩
theorem mw_X12_cellNow : Cond.instanceMethod yX12_cellNow ∈ tblG ∧ Cond.initialized yX12_cellNow.cls ∈ tblG ∧ Cond.code yX12_cellNow cX12_cellNow 3 (some .int) ∈ tblG := ⟨(tg_t (tb5 (List.mem_of_getElem? (i := 215) (by decide +kernel))) rfl), (tg_t (tb1 (List.mem_of_getElem? (i := 12) (by decide +kernel))) rfl), (tg_t (tb5 (List.mem_of_getElem? (i := 216) rfl)) rfl)⟩
theorem mv_X12_cell : MV yX12_cell cX12_cell 3 (some .int) 2 := ⟨(tg_t (tb5 (List.mem_of_getElem? (i := 202) (by decide +kernel))) rfl), (tg_t (tb5 (List.mem_of_getElem? (i := 203) (by decide +kernel))) rfl), (tg_t (tb1 (List.mem_of_getElem? (i := 12) (by decide +kernel))) rfl), (tg_t (tb5 (List.mem_of_getElem? (i := 204) rfl)) rfl), ⟨by decide +kernel, by decide +kernel, by decide +kernel⟩⟩
theorem mw_X12_cell : Cond.instanceMethod yX12_cell ∈ tblG ∧ Cond.initialized yX12_cell.cls ∈ tblG ∧ Cond.code yX12_cell cX12_cell 3 (some .int) ∈ tblG := ⟨(tg_t (tb5 (List.mem_of_getElem? (i := 202) (by decide +kernel))) rfl), (tg_t (tb1 (List.mem_of_getElem? (i := 12) (by decide +kernel))) rfl), (tg_t (tb5 (List.mem_of_getElem? (i := 204) rfl)) rfl)⟩
theorem mv_X12_loadPan : MV yX12_loadPan cX12_loadPan 2 none 0 := ⟨(tg_t (tb5 (List.mem_of_getElem? (i := 223) (by decide +kernel))) rfl), (tg_s (List.mem_of_getElem? (i := 39) (by decide +kernel)) rfl), (tg_t (tb1 (List.mem_of_getElem? (i := 12) (by decide +kernel))) rfl), (tg_t (tb5 (List.mem_of_getElem? (i := 224) rfl)) rfl), ⟨by decide +kernel, by decide +kernel, by decide +kernel⟩⟩
theorem mw_X12_loadPan : Cond.instanceMethod yX12_loadPan ∈ tblG ∧ Cond.initialized yX12_loadPan.cls ∈ tblG ∧ Cond.code yX12_loadPan cX12_loadPan 2 none ∈ tblG := ⟨(tg_t (tb5 (List.mem_of_getElem? (i := 223) (by decide +kernel))) rfl), (tg_t (tb1 (List.mem_of_getElem? (i := 12) (by decide +kernel))) rfl), (tg_t (tb5 (List.mem_of_getElem? (i := 224) rfl)) rfl)⟩
theorem mv_X12_loadPlan : MV yX12_loadPlan cX12_loadPlan 3 none 1 := ⟨(tg_t (tb6 (List.mem_of_getElem? (i := 18) (by decide +kernel))) rfl), (tg_s (List.mem_of_getElem? (i := 44) (by decide +kernel)) rfl), (tg_t (tb1 (List.mem_of_getElem? (i := 12) (by decide +kernel))) rfl), (tg_t (tb6 (List.mem_of_getElem? (i := 19) rfl)) rfl), ⟨by decide +kernel, by decide +kernel, by decide +kernel⟩⟩
theorem mw_X12_loadPlan : Cond.instanceMethod yX12_loadPlan ∈ tblG ∧ Cond.initialized yX12_loadPlan.cls ∈ tblG ∧ Cond.code yX12_loadPlan cX12_loadPlan 3 none ∈ tblG := ⟨(tg_t (tb6 (List.mem_of_getElem? (i := 18) (by decide +kernel))) rfl), (tg_t (tb1 (List.mem_of_getElem? (i := 12) (by decide +kernel))) rfl), (tg_t (tb6 (List.mem_of_getElem? (i := 19) rfl)) rfl)⟩
theorem mv_X12_goTick : MV yX12_goTick cX12_goTick 4 none 2 := ⟨(tg_t (tb5 (List.mem_of_getElem? (i := 227) (by decide +kernel))) rfl), (tg_s (List.mem_of_getElem? (i := 40) (by decide +kernel)) rfl), (tg_t (tb1 (List.mem_of_getElem? (i := 12) (by decide +kernel))) rfl), (tg_t (tb5 (List.mem_of_getElem? (i := 228) rfl)) rfl), ⟨by decide +kernel, by decide +kernel, by decide +kernel⟩⟩
theorem mw_X12_goTick : Cond.instanceMethod yX12_goTick ∈ tblG ∧ Cond.initialized yX12_goTick.cls ∈ tblG ∧ Cond.code yX12_goTick cX12_goTick 4 none ∈ tblG := ⟨(tg_t (tb5 (List.mem_of_getElem? (i := 227) (by decide +kernel))) rfl), (tg_t (tb1 (List.mem_of_getElem? (i := 12) (by decide +kernel))) rfl), (tg_t (tb5 (List.mem_of_getElem? (i := 228) rfl)) rfl)⟩
theorem mv_X12_beside : MV yX12_beside cX12_beside 5 (some .int) 2 := ⟨(tg_t (tb6 (List.mem_of_getElem? (i := 30) (by decide +kernel))) rfl), (tg_s (List.mem_of_getElem? (i := 47) (by decide +kernel)) rfl), (tg_t (tb1 (List.mem_of_getElem? (i := 12) (by decide +kernel))) rfl), (tg_t (tb6 (List.mem_of_getElem? (i := 31) rfl)) rfl), ⟨by decide +kernel, by decide +kernel, by decide +kernel⟩⟩
theorem mw_X12_beside : Cond.instanceMethod yX12_beside ∈ tblG ∧ Cond.initialized yX12_beside.cls ∈ tblG ∧ Cond.code yX12_beside cX12_beside 5 (some .int) ∈ tblG := ⟨(tg_t (tb6 (List.mem_of_getElem? (i := 30) (by decide +kernel))) rfl), (tg_t (tb1 (List.mem_of_getElem? (i := 12) (by decide +kernel))) rfl), (tg_t (tb6 (List.mem_of_getElem? (i := 31) rfl)) rfl)⟩
theorem mv_X12_goSwing : MV yX12_goSwing cX12_goSwing 5 none 1 := ⟨(tg_t (tb6 (List.mem_of_getElem? (i := 26) (by decide +kernel))) rfl), (tg_s (List.mem_of_getElem? (i := 46) (by decide +kernel)) rfl), (tg_t (tb1 (List.mem_of_getElem? (i := 12) (by decide +kernel))) rfl), (tg_t (tb6 (List.mem_of_getElem? (i := 27) rfl)) rfl), ⟨by decide +kernel, by decide +kernel, by decide +kernel⟩⟩
theorem mw_X12_goSwing : Cond.instanceMethod yX12_goSwing ∈ tblG ∧ Cond.initialized yX12_goSwing.cls ∈ tblG ∧ Cond.code yX12_goSwing cX12_goSwing 5 none ∈ tblG := ⟨(tg_t (tb6 (List.mem_of_getElem? (i := 26) (by decide +kernel))) rfl), (tg_t (tb1 (List.mem_of_getElem? (i := 12) (by decide +kernel))) rfl), (tg_t (tb6 (List.mem_of_getElem? (i := 27) rfl)) rfl)⟩
theorem mv_X12_takeOut : MV yX12_takeOut cX12_takeOut 2 none 0 := ⟨(tg_t (tb6 (List.mem_of_getElem? (i := 34) (by decide +kernel))) rfl), (tg_s (List.mem_of_getElem? (i := 48) (by decide +kernel)) rfl), (tg_t (tb1 (List.mem_of_getElem? (i := 12) (by decide +kernel))) rfl), (tg_t (tb6 (List.mem_of_getElem? (i := 35) rfl)) rfl), ⟨by decide +kernel, by decide +kernel, by decide +kernel⟩⟩
theorem mw_X12_takeOut : Cond.instanceMethod yX12_takeOut ∈ tblG ∧ Cond.initialized yX12_takeOut.cls ∈ tblG ∧ Cond.code yX12_takeOut cX12_takeOut 2 none ∈ tblG := ⟨(tg_t (tb6 (List.mem_of_getElem? (i := 34) (by decide +kernel))) rfl), (tg_t (tb1 (List.mem_of_getElem? (i := 12) (by decide +kernel))) rfl), (tg_t (tb6 (List.mem_of_getElem? (i := 35) rfl)) rfl)⟩
theorem mv_X12_judge : MV yX12_judge cX12_judge 6 none 0 := ⟨(tg_t (tb6 (List.mem_of_getElem? (i := 38) (by decide +kernel))) rfl), (tg_s (List.mem_of_getElem? (i := 49) (by decide +kernel)) rfl), (tg_t (tb1 (List.mem_of_getElem? (i := 12) (by decide +kernel))) rfl), (tg_t (tb6 (List.mem_of_getElem? (i := 39) rfl)) rfl), ⟨by decide +kernel, by decide +kernel, by decide +kernel⟩⟩
theorem mw_X12_judge : Cond.instanceMethod yX12_judge ∈ tblG ∧ Cond.initialized yX12_judge.cls ∈ tblG ∧ Cond.code yX12_judge cX12_judge 6 none ∈ tblG := ⟨(tg_t (tb6 (List.mem_of_getElem? (i := 38) (by decide +kernel))) rfl), (tg_t (tb1 (List.mem_of_getElem? (i := 12) (by decide +kernel))) rfl), (tg_t (tb6 (List.mem_of_getElem? (i := 39) rfl)) rfl)⟩
theorem ms_X12_worthOf : MSt yX12_worthOf cX12_worthOf 1 (some .int) 1 := ⟨(tg_t (tb6 (List.mem_of_getElem? (i := 42) (by decide +kernel))) rfl), (tg_t (tb1 (List.mem_of_getElem? (i := 12) (by decide +kernel))) rfl), (tg_t (tb6 (List.mem_of_getElem? (i := 43) rfl)) rfl), ⟨by decide +kernel, by decide +kernel, by decide +kernel⟩⟩
theorem mv_X12_goCake : MV yX12_goCake cX12_goCake 3 none 0 := ⟨(tg_t (tb6 (List.mem_of_getElem? (i := 22) (by decide +kernel))) rfl), (tg_s (List.mem_of_getElem? (i := 45) (by decide +kernel)) rfl), (tg_t (tb1 (List.mem_of_getElem? (i := 12) (by decide +kernel))) rfl), (tg_t (tb6 (List.mem_of_getElem? (i := 23) rfl)) rfl), ⟨by decide +kernel, by decide +kernel, by decide +kernel⟩⟩
theorem mw_X12_goCake : Cond.instanceMethod yX12_goCake ∈ tblG ∧ Cond.initialized yX12_goCake.cls ∈ tblG ∧ Cond.code yX12_goCake cX12_goCake 3 none ∈ tblG := ⟨(tg_t (tb6 (List.mem_of_getElem? (i := 22) (by decide +kernel))) rfl), (tg_t (tb1 (List.mem_of_getElem? (i := 12) (by decide +kernel))) rfl), (tg_t (tb6 (List.mem_of_getElem? (i := 23) rfl)) rfl)⟩
theorem mv_X12_putPan : MV yX12_putPan cX12_putPan 2 none 0 := ⟨(tg_t (tb5 (List.mem_of_getElem? (i := 234) (by decide +kernel))) rfl), (tg_s (List.mem_of_getElem? (i := 41) (by decide +kernel)) rfl), (tg_t (tb1 (List.mem_of_getElem? (i := 12) (by decide +kernel))) rfl), (tg_t (tb5 (List.mem_of_getElem? (i := 235) rfl)) rfl), ⟨by decide +kernel, by decide +kernel, by decide +kernel⟩⟩
theorem mw_X12_putPan : Cond.instanceMethod yX12_putPan ∈ tblG ∧ Cond.initialized yX12_putPan.cls ∈ tblG ∧ Cond.code yX12_putPan cX12_putPan 2 none ∈ tblG := ⟨(tg_t (tb5 (List.mem_of_getElem? (i := 234) (by decide +kernel))) rfl), (tg_t (tb1 (List.mem_of_getElem? (i := 12) (by decide +kernel))) rfl), (tg_t (tb5 (List.mem_of_getElem? (i := 235) rfl)) rfl)⟩
theorem mv_X12_warm : MV yX12_warm cX12_warm 5 (some .int) 2 := ⟨(tg_t (tb5 (List.mem_of_getElem? (i := 218) (by decide +kernel))) rfl), (tg_t (tb5 (List.mem_of_getElem? (i := 219) (by decide +kernel))) rfl), (tg_t (tb1 (List.mem_of_getElem? (i := 12) (by decide +kernel))) rfl), (tg_t (tb5 (List.mem_of_getElem? (i := 220) rfl)) rfl), ⟨by decide +kernel, by decide +kernel, by decide +kernel⟩⟩
theorem mw_X12_warm : Cond.instanceMethod yX12_warm ∈ tblG ∧ Cond.initialized yX12_warm.cls ∈ tblG ∧ Cond.code yX12_warm cX12_warm 5 (some .int) ∈ tblG := ⟨(tg_t (tb5 (List.mem_of_getElem? (i := 218) (by decide +kernel))) rfl), (tg_t (tb1 (List.mem_of_getElem? (i := 12) (by decide +kernel))) rfl), (tg_t (tb5 (List.mem_of_getElem? (i := 220) rfl)) rfl)⟩
theorem mv_X12_fat : MV yX12_fat cX12_fat 3 (some .int) 1 := ⟨(tg_t (tb5 (List.mem_of_getElem? (i := 237) (by decide +kernel))) rfl), (tg_t (tb5 (List.mem_of_getElem? (i := 238) (by decide +kernel))) rfl), (tg_t (tb1 (List.mem_of_getElem? (i := 12) (by decide +kernel))) rfl), (tg_t (tb5 (List.mem_of_getElem? (i := 239) rfl)) rfl), ⟨by decide +kernel, by decide +kernel, by decide +kernel⟩⟩
theorem mw_X12_fat : Cond.instanceMethod yX12_fat ∈ tblG ∧ Cond.initialized yX12_fat.cls ∈ tblG ∧ Cond.code yX12_fat cX12_fat 3 (some .int) ∈ tblG := ⟨(tg_t (tb5 (List.mem_of_getElem? (i := 237) (by decide +kernel))) rfl), (tg_t (tb1 (List.mem_of_getElem? (i := 12) (by decide +kernel))) rfl), (tg_t (tb5 (List.mem_of_getElem? (i := 239) rfl)) rfl)⟩
theorem mv_X12_bitsAll : MV yX12_bitsAll cX12_bitsAll 3 (some .int) 0 := ⟨(tg_t (tb6 (List.mem_of_getElem? (i := 6) (by decide +kernel))) rfl), (tg_s (List.mem_of_getElem? (i := 42) (by decide +kernel)) rfl), (tg_t (tb1 (List.mem_of_getElem? (i := 12) (by decide +kernel))) rfl), (tg_t (tb6 (List.mem_of_getElem? (i := 7) rfl)) rfl), ⟨by decide +kernel, by decide +kernel, by decide +kernel⟩⟩
theorem mw_X12_bitsAll : Cond.instanceMethod yX12_bitsAll ∈ tblG ∧ Cond.initialized yX12_bitsAll.cls ∈ tblG ∧ Cond.code yX12_bitsAll cX12_bitsAll 3 (some .int) ∈ tblG := ⟨(tg_t (tb6 (List.mem_of_getElem? (i := 6) (by decide +kernel))) rfl), (tg_t (tb1 (List.mem_of_getElem? (i := 12) (by decide +kernel))) rfl), (tg_t (tb6 (List.mem_of_getElem? (i := 7) rfl)) rfl)⟩
theorem mv_X12_scrape : MV yX12_scrape cX12_scrape 3 (some .int) 0 := ⟨(tg_t (tb6 (List.mem_of_getElem? (i := 1) (by decide +kernel))) rfl), (tg_t (tb6 (List.mem_of_getElem? (i := 2) (by decide +kernel))) rfl), (tg_t (tb1 (List.mem_of_getElem? (i := 12) (by decide +kernel))) rfl), (tg_t (tb6 (List.mem_of_getElem? (i := 3) rfl)) rfl), ⟨by decide +kernel, by decide +kernel, by decide +kernel⟩⟩
theorem mw_X12_scrape : Cond.instanceMethod yX12_scrape ∈ tblG ∧ Cond.initialized yX12_scrape.cls ∈ tblG ∧ Cond.code yX12_scrape cX12_scrape 3 (some .int) ∈ tblG := ⟨(tg_t (tb6 (List.mem_of_getElem? (i := 1) (by decide +kernel))) rfl), (tg_t (tb1 (List.mem_of_getElem? (i := 12) (by decide +kernel))) rfl), (tg_t (tb6 (List.mem_of_getElem? (i := 3) rfl)) rfl)⟩
theorem mv_X12_triedNow : MV yX12_triedNow cX12_triedNow 2 (some .int) 1 := ⟨(tg_t (tb6 (List.mem_of_getElem? (i := 46) (by decide +kernel))) rfl), (tg_s (List.mem_of_getElem? (i := 50) (by decide +kernel)) rfl), (tg_t (tb1 (List.mem_of_getElem? (i := 12) (by decide +kernel))) rfl), (tg_t (tb6 (List.mem_of_getElem? (i := 47) rfl)) rfl), ⟨by decide +kernel, by decide +kernel, by decide +kernel⟩⟩
theorem mw_X12_triedNow : Cond.instanceMethod yX12_triedNow ∈ tblG ∧ Cond.initialized yX12_triedNow.cls ∈ tblG ∧ Cond.code yX12_triedNow cX12_triedNow 2 (some .int) ∈ tblG := ⟨(tg_t (tb6 (List.mem_of_getElem? (i := 46) (by decide +kernel))) rfl), (tg_t (tb1 (List.mem_of_getElem? (i := 12) (by decide +kernel))) rfl), (tg_t (tb6 (List.mem_of_getElem? (i := 47) rfl)) rfl)⟩
theorem mv_X12_bars : MV yX12_bars cX12_bars 2 (some .int) 1 := ⟨(tg_t (tb6 (List.mem_of_getElem? (i := 14) (by decide +kernel))) rfl), (tg_s (List.mem_of_getElem? (i := 43) (by decide +kernel)) rfl), (tg_t (tb1 (List.mem_of_getElem? (i := 12) (by decide +kernel))) rfl), (tg_t (tb6 (List.mem_of_getElem? (i := 15) rfl)) rfl), ⟨by decide +kernel, by decide +kernel, by decide +kernel⟩⟩
theorem mw_X12_bars : Cond.instanceMethod yX12_bars ∈ tblG ∧ Cond.initialized yX12_bars.cls ∈ tblG ∧ Cond.code yX12_bars cX12_bars 2 (some .int) ∈ tblG := ⟨(tg_t (tb6 (List.mem_of_getElem? (i := 14) (by decide +kernel))) rfl), (tg_t (tb1 (List.mem_of_getElem? (i := 12) (by decide +kernel))) rfl), (tg_t (tb6 (List.mem_of_getElem? (i := 15) rfl)) rfl)⟩
theorem mv_X12_fry : MV yX12_fry cX12_fry 4 (some .int) 1 := ⟨(tg_t (tb6 (List.mem_of_getElem? (i := 9) (by decide +kernel))) rfl), (tg_t (tb6 (List.mem_of_getElem? (i := 10) (by decide +kernel))) rfl), (tg_t (tb1 (List.mem_of_getElem? (i := 12) (by decide +kernel))) rfl), (tg_t (tb6 (List.mem_of_getElem? (i := 11) rfl)) rfl), ⟨by decide +kernel, by decide +kernel, by decide +kernel⟩⟩
theorem mw_X12_fry : Cond.instanceMethod yX12_fry ∈ tblG ∧ Cond.initialized yX12_fry.cls ∈ tblG ∧ Cond.code yX12_fry cX12_fry 4 (some .int) ∈ tblG := ⟨(tg_t (tb6 (List.mem_of_getElem? (i := 9) (by decide +kernel))) rfl), (tg_t (tb1 (List.mem_of_getElem? (i := 12) (by decide +kernel))) rfl), (tg_t (tb6 (List.mem_of_getElem? (i := 11) rfl)) rfl)⟩
theorem mv_X12_isCake : MV yX12_isCake cX12_isCake 2 (some .boolean) 1 := ⟨(tg_t (tb6 (List.mem_of_getElem? (i := 54) (by decide +kernel))) rfl), (tg_s (List.mem_of_getElem? (i := 51) (by decide +kernel)) rfl), (tg_t (tb1 (List.mem_of_getElem? (i := 12) (by decide +kernel))) rfl), (tg_t (tb6 (List.mem_of_getElem? (i := 55) rfl)) rfl), ⟨by decide +kernel, by decide +kernel, by decide +kernel⟩⟩
theorem mw_X12_isCake : Cond.instanceMethod yX12_isCake ∈ tblG ∧ Cond.initialized yX12_isCake.cls ∈ tblG ∧ Cond.code yX12_isCake cX12_isCake 2 (some .boolean) ∈ tblG := ⟨(tg_t (tb6 (List.mem_of_getElem? (i := 54) (by decide +kernel))) rfl), (tg_t (tb1 (List.mem_of_getElem? (i := 12) (by decide +kernel))) rfl), (tg_t (tb6 (List.mem_of_getElem? (i := 55) rfl)) rfl)⟩
theorem mv_X12_cake : MV yX12_cake cX12_cake 3 (some .int) 2 := ⟨(tg_t (tb6 (List.mem_of_getElem? (i := 49) (by decide +kernel))) rfl), (tg_t (tb6 (List.mem_of_getElem? (i := 50) (by decide +kernel))) rfl), (tg_t (tb1 (List.mem_of_getElem? (i := 12) (by decide +kernel))) rfl), (tg_t (tb6 (List.mem_of_getElem? (i := 51) rfl)) rfl), ⟨by decide +kernel, by decide +kernel, by decide +kernel⟩⟩
theorem mw_X12_cake : Cond.instanceMethod yX12_cake ∈ tblG ∧ Cond.initialized yX12_cake.cls ∈ tblG ∧ Cond.code yX12_cake cX12_cake 3 (some .int) ∈ tblG := ⟨(tg_t (tb6 (List.mem_of_getElem? (i := 49) (by decide +kernel))) rfl), (tg_t (tb1 (List.mem_of_getElem? (i := 12) (by decide +kernel))) rfl), (tg_t (tb6 (List.mem_of_getElem? (i := 51) rfl)) rfl)⟩
theorem mv_X12_as : MV yX12_as cX12_as 4 (some .int) 2 := ⟨(tg_t (tb6 (List.mem_of_getElem? (i := 57) (by decide +kernel))) rfl), (tg_t (tb6 (List.mem_of_getElem? (i := 58) (by decide +kernel))) rfl), (tg_t (tb1 (List.mem_of_getElem? (i := 12) (by decide +kernel))) rfl), (tg_t (tb6 (List.mem_of_getElem? (i := 59) rfl)) rfl), ⟨by decide +kernel, by decide +kernel, by decide +kernel⟩⟩
theorem mw_X12_as : Cond.instanceMethod yX12_as ∈ tblG ∧ Cond.initialized yX12_as.cls ∈ tblG ∧ Cond.code yX12_as cX12_as 4 (some .int) ∈ tblG := ⟨(tg_t (tb6 (List.mem_of_getElem? (i := 57) (by decide +kernel))) rfl), (tg_t (tb1 (List.mem_of_getElem? (i := 12) (by decide +kernel))) rfl), (tg_t (tb6 (List.mem_of_getElem? (i := 59) rfl)) rfl)⟩
theorem mv_X12_thick : MV yX12_thick cX12_thick 3 (some .int) 2 := ⟨(tg_t (tb6 (List.mem_of_getElem? (i := 61) (by decide +kernel))) rfl), (tg_t (tb6 (List.mem_of_getElem? (i := 62) (by decide +kernel))) rfl), (tg_t (tb1 (List.mem_of_getElem? (i := 12) (by decide +kernel))) rfl), (tg_t (tb6 (List.mem_of_getElem? (i := 63) rfl)) rfl), ⟨by decide +kernel, by decide +kernel, by decide +kernel⟩⟩
theorem mw_X12_thick : Cond.instanceMethod yX12_thick ∈ tblG ∧ Cond.initialized yX12_thick.cls ∈ tblG ∧ Cond.code yX12_thick cX12_thick 3 (some .int) ∈ tblG := ⟨(tg_t (tb6 (List.mem_of_getElem? (i := 61) (by decide +kernel))) rfl), (tg_t (tb1 (List.mem_of_getElem? (i := 12) (by decide +kernel))) rfl), (tg_t (tb6 (List.mem_of_getElem? (i := 63) rfl)) rfl)⟩
theorem mv_X12_layNext : MV yX12_layNext cX12_layNext 2 none 1 := ⟨(tg_t (tb6 (List.mem_of_getElem? (i := 70) (by decide +kernel))) rfl), (tg_s (List.mem_of_getElem? (i := 52) (by decide +kernel)) rfl), (tg_t (tb1 (List.mem_of_getElem? (i := 12) (by decide +kernel))) rfl), (tg_t (tb6 (List.mem_of_getElem? (i := 71) rfl)) rfl), ⟨by decide +kernel, by decide +kernel, by decide +kernel⟩⟩
theorem mw_X12_layNext : Cond.instanceMethod yX12_layNext ∈ tblG ∧ Cond.initialized yX12_layNext.cls ∈ tblG ∧ Cond.code yX12_layNext cX12_layNext 2 none ∈ tblG := ⟨(tg_t (tb6 (List.mem_of_getElem? (i := 70) (by decide +kernel))) rfl), (tg_t (tb1 (List.mem_of_getElem? (i := 12) (by decide +kernel))) rfl), (tg_t (tb6 (List.mem_of_getElem? (i := 71) rfl)) rfl)⟩
theorem mv_X12_tried : MV yX12_tried cX12_tried 4 (some .int) 2 := ⟨(tg_t (tb6 (List.mem_of_getElem? (i := 65) (by decide +kernel))) rfl), (tg_t (tb6 (List.mem_of_getElem? (i := 66) (by decide +kernel))) rfl), (tg_t (tb1 (List.mem_of_getElem? (i := 12) (by decide +kernel))) rfl), (tg_t (tb6 (List.mem_of_getElem? (i := 67) rfl)) rfl), ⟨by decide +kernel, by decide +kernel, by decide +kernel⟩⟩
theorem mw_X12_tried : Cond.instanceMethod yX12_tried ∈ tblG ∧ Cond.initialized yX12_tried.cls ∈ tblG ∧ Cond.code yX12_tried cX12_tried 4 (some .int) ∈ tblG := ⟨(tg_t (tb6 (List.mem_of_getElem? (i := 65) (by decide +kernel))) rfl), (tg_t (tb1 (List.mem_of_getElem? (i := 12) (by decide +kernel))) rfl), (tg_t (tb6 (List.mem_of_getElem? (i := 67) rfl)) rfl)⟩
theorem mv_X12_layTwelve : MV yX12_layTwelve cX12_layTwelve 4 none 1 := ⟨(tg_t (tb6 (List.mem_of_getElem? (i := 78) (by decide +kernel))) rfl), (tg_s (List.mem_of_getElem? (i := 53) (by decide +kernel)) rfl), (tg_t (tb1 (List.mem_of_getElem? (i := 12) (by decide +kernel))) rfl), (tg_t (tb6 (List.mem_of_getElem? (i := 79) rfl)) rfl), ⟨by decide +kernel, by decide +kernel, by decide +kernel⟩⟩
theorem mw_X12_layTwelve : Cond.instanceMethod yX12_layTwelve ∈ tblG ∧ Cond.initialized yX12_layTwelve.cls ∈ tblG ∧ Cond.code yX12_layTwelve cX12_layTwelve 4 none ∈ tblG := ⟨(tg_t (tb6 (List.mem_of_getElem? (i := 78) (by decide +kernel))) rfl), (tg_t (tb1 (List.mem_of_getElem? (i := 12) (by decide +kernel))) rfl), (tg_t (tb6 (List.mem_of_getElem? (i := 79) rfl)) rfl)⟩
theorem mv_X12_from : MV yX12_from cX12_from 3 (some .int) 1 := ⟨(tg_t (tb6 (List.mem_of_getElem? (i := 73) (by decide +kernel))) rfl), (tg_t (tb6 (List.mem_of_getElem? (i := 74) (by decide +kernel))) rfl), (tg_t (tb1 (List.mem_of_getElem? (i := 12) (by decide +kernel))) rfl), (tg_t (tb6 (List.mem_of_getElem? (i := 75) rfl)) rfl), ⟨by decide +kernel, by decide +kernel, by decide +kernel⟩⟩
theorem mw_X12_from : Cond.instanceMethod yX12_from ∈ tblG ∧ Cond.initialized yX12_from.cls ∈ tblG ∧ Cond.code yX12_from cX12_from 3 (some .int) ∈ tblG := ⟨(tg_t (tb6 (List.mem_of_getElem? (i := 73) (by decide +kernel))) rfl), (tg_t (tb1 (List.mem_of_getElem? (i := 12) (by decide +kernel))) rfl), (tg_t (tb6 (List.mem_of_getElem? (i := 75) rfl)) rfl)⟩
theorem mv_X12_dogs : MV yX12_dogs cX12_dogs 3 (some .int) 1 := ⟨(tg_t (tb6 (List.mem_of_getElem? (i := 81) (by decide +kernel))) rfl), (tg_t (tb6 (List.mem_of_getElem? (i := 82) (by decide +kernel))) rfl), (tg_t (tb1 (List.mem_of_getElem? (i := 12) (by decide +kernel))) rfl), (tg_t (tb6 (List.mem_of_getElem? (i := 83) rfl)) rfl), ⟨by decide +kernel, by decide +kernel, by decide +kernel⟩⟩
theorem mw_X12_dogs : Cond.instanceMethod yX12_dogs ∈ tblG ∧ Cond.initialized yX12_dogs.cls ∈ tblG ∧ Cond.code yX12_dogs cX12_dogs 3 (some .int) ∈ tblG := ⟨(tg_t (tb6 (List.mem_of_getElem? (i := 81) (by decide +kernel))) rfl), (tg_t (tb1 (List.mem_of_getElem? (i := 12) (by decide +kernel))) rfl), (tg_t (tb6 (List.mem_of_getElem? (i := 83) rfl)) rfl)⟩
theorem mv_X12_isRightBy : MV yX12_isRightBy cX12_isRightBy 3 (some .boolean) 1 := ⟨(tg_t (tb6 (List.mem_of_getElem? (i := 90) (by decide +kernel))) rfl), (tg_s (List.mem_of_getElem? (i := 54) (by decide +kernel)) rfl), (tg_t (tb1 (List.mem_of_getElem? (i := 12) (by decide +kernel))) rfl), (tg_t (tb6 (List.mem_of_getElem? (i := 91) rfl)) rfl), ⟨by decide +kernel, by decide +kernel, by decide +kernel⟩⟩
theorem mw_X12_isRightBy : Cond.instanceMethod yX12_isRightBy ∈ tblG ∧ Cond.initialized yX12_isRightBy.cls ∈ tblG ∧ Cond.code yX12_isRightBy cX12_isRightBy 3 (some .boolean) ∈ tblG := ⟨(tg_t (tb6 (List.mem_of_getElem? (i := 90) (by decide +kernel))) rfl), (tg_t (tb1 (List.mem_of_getElem? (i := 12) (by decide +kernel))) rfl), (tg_t (tb6 (List.mem_of_getElem? (i := 91) rfl)) rfl)⟩
theorem mv_X12_why : MV yX12_why cX12_why 4 (some .int) 1 := ⟨(tg_t (tb6 (List.mem_of_getElem? (i := 85) (by decide +kernel))) rfl), (tg_t (tb6 (List.mem_of_getElem? (i := 86) (by decide +kernel))) rfl), (tg_t (tb1 (List.mem_of_getElem? (i := 12) (by decide +kernel))) rfl), (tg_t (tb6 (List.mem_of_getElem? (i := 87) rfl)) rfl), ⟨by decide +kernel, by decide +kernel, by decide +kernel⟩⟩
theorem mw_X12_why : Cond.instanceMethod yX12_why ∈ tblG ∧ Cond.initialized yX12_why.cls ∈ tblG ∧ Cond.code yX12_why cX12_why 4 (some .int) ∈ tblG := ⟨(tg_t (tb6 (List.mem_of_getElem? (i := 85) (by decide +kernel))) rfl), (tg_t (tb1 (List.mem_of_getElem? (i := 12) (by decide +kernel))) rfl), (tg_t (tb6 (List.mem_of_getElem? (i := 87) rfl)) rfl)⟩
theorem mv_X12_bestFire : MV yX12_bestFire cX12_bestFire 10 (some .int) 3 := ⟨(tg_t (tb6 (List.mem_of_getElem? (i := 93) (by decide +kernel))) rfl), (tg_t (tb6 (List.mem_of_getElem? (i := 94) (by decide +kernel))) rfl), (tg_t (tb1 (List.mem_of_getElem? (i := 12) (by decide +kernel))) rfl), (tg_t (tb6 (List.mem_of_getElem? (i := 95) rfl)) rfl), ⟨by decide +kernel, by decide +kernel, by decide +kernel⟩⟩
theorem mw_X12_bestFire : Cond.instanceMethod yX12_bestFire ∈ tblG ∧ Cond.initialized yX12_bestFire.cls ∈ tblG ∧ Cond.code yX12_bestFire cX12_bestFire 10 (some .int) ∈ tblG := ⟨(tg_t (tb6 (List.mem_of_getElem? (i := 93) (by decide +kernel))) rfl), (tg_t (tb1 (List.mem_of_getElem? (i := 12) (by decide +kernel))) rfl), (tg_t (tb6 (List.mem_of_getElem? (i := 95) rfl)) rfl)⟩
theorem mv_X12_bestSwing : MV yX12_bestSwing cX12_bestSwing 9 (some .int) 3 := ⟨(tg_t (tb6 (List.mem_of_getElem? (i := 97) (by decide +kernel))) rfl), (tg_t (tb6 (List.mem_of_getElem? (i := 98) (by decide +kernel))) rfl), (tg_t (tb1 (List.mem_of_getElem? (i := 12) (by decide +kernel))) rfl), (tg_t (tb6 (List.mem_of_getElem? (i := 99) rfl)) rfl), ⟨by decide +kernel, by decide +kernel, by decide +kernel⟩⟩
theorem mw_X12_bestSwing : Cond.instanceMethod yX12_bestSwing ∈ tblG ∧ Cond.initialized yX12_bestSwing.cls ∈ tblG ∧ Cond.code yX12_bestSwing cX12_bestSwing 9 (some .int) ∈ tblG := ⟨(tg_t (tb6 (List.mem_of_getElem? (i := 97) (by decide +kernel))) rfl), (tg_t (tb1 (List.mem_of_getElem? (i := 12) (by decide +kernel))) rfl), (tg_t (tb6 (List.mem_of_getElem? (i := 99) rfl)) rfl)⟩
theorem mv_X12_nextTwo : MV yX12_nextTwo cX12_nextTwo 6 (some .int) 1 := ⟨(tg_t (tb6 (List.mem_of_getElem? (i := 101) (by decide +kernel))) rfl), (tg_t (tb6 (List.mem_of_getElem? (i := 102) (by decide +kernel))) rfl), (tg_t (tb1 (List.mem_of_getElem? (i := 12) (by decide +kernel))) rfl), (tg_t (tb6 (List.mem_of_getElem? (i := 103) rfl)) rfl), ⟨by decide +kernel, by decide +kernel, by decide +kernel⟩⟩
theorem mw_X12_nextTwo : Cond.instanceMethod yX12_nextTwo ∈ tblG ∧ Cond.initialized yX12_nextTwo.cls ∈ tblG ∧ Cond.code yX12_nextTwo cX12_nextTwo 6 (some .int) ∈ tblG := ⟨(tg_t (tb6 (List.mem_of_getElem? (i := 101) (by decide +kernel))) rfl), (tg_t (tb1 (List.mem_of_getElem? (i := 12) (by decide +kernel))) rfl), (tg_t (tb6 (List.mem_of_getElem? (i := 103) rfl)) rfl)⟩
theorem mv_X12_longest : MV yX12_longest cX12_longest 4 (some .int) 1 := ⟨(tg_t (tb6 (List.mem_of_getElem? (i := 110) (by decide +kernel))) rfl), (tg_s (List.mem_of_getElem? (i := 55) (by decide +kernel)) rfl), (tg_t (tb1 (List.mem_of_getElem? (i := 12) (by decide +kernel))) rfl), (tg_t (tb6 (List.mem_of_getElem? (i := 111) rfl)) rfl), ⟨by decide +kernel, by decide +kernel, by decide +kernel⟩⟩
theorem mw_X12_longest : Cond.instanceMethod yX12_longest ∈ tblG ∧ Cond.initialized yX12_longest.cls ∈ tblG ∧ Cond.code yX12_longest cX12_longest 4 (some .int) ∈ tblG := ⟨(tg_t (tb6 (List.mem_of_getElem? (i := 110) (by decide +kernel))) rfl), (tg_t (tb1 (List.mem_of_getElem? (i := 12) (by decide +kernel))) rfl), (tg_t (tb6 (List.mem_of_getElem? (i := 111) rfl)) rfl)⟩
theorem mv_X12_rounds : MV yX12_rounds cX12_rounds 15 (some .int) 6 := ⟨(tg_t (tb6 (List.mem_of_getElem? (i := 105) (by decide +kernel))) rfl), (tg_t (tb6 (List.mem_of_getElem? (i := 106) (by decide +kernel))) rfl), (tg_t (tb1 (List.mem_of_getElem? (i := 12) (by decide +kernel))) rfl), (tg_t (tb6 (List.mem_of_getElem? (i := 107) rfl)) rfl), ⟨by decide +kernel, by decide +kernel, by decide +kernel⟩⟩
theorem mw_X12_rounds : Cond.instanceMethod yX12_rounds ∈ tblG ∧ Cond.initialized yX12_rounds.cls ∈ tblG ∧ Cond.code yX12_rounds cX12_rounds 15 (some .int) ∈ tblG := ⟨(tg_t (tb6 (List.mem_of_getElem? (i := 105) (by decide +kernel))) rfl), (tg_t (tb1 (List.mem_of_getElem? (i := 12) (by decide +kernel))) rfl), (tg_t (tb6 (List.mem_of_getElem? (i := 107) rfl)) rfl)⟩
theorem ms_X12_isToss : MSt yX12_isToss cX12_isToss 2 (some .boolean) 2 := ⟨(tg_t (tb6 (List.mem_of_getElem? (i := 117) (by decide +kernel))) rfl), (tg_t (tb1 (List.mem_of_getElem? (i := 12) (by decide +kernel))) rfl), (tg_t (tb6 (List.mem_of_getElem? (i := 118) rfl)) rfl), ⟨by decide +kernel, by decide +kernel, by decide +kernel⟩⟩
theorem ms_X12_landing : MSt yX12_landing cX12_landing 2 (some .int) 2 := ⟨(tg_t (tb6 (List.mem_of_getElem? (i := 120) (by decide +kernel))) rfl), (tg_t (tb1 (List.mem_of_getElem? (i := 12) (by decide +kernel))) rfl), (tg_t (tb6 (List.mem_of_getElem? (i := 121) rfl)) rfl), ⟨by decide +kernel, by decide +kernel, by decide +kernel⟩⟩
theorem mv_X12_toss : MV yX12_toss cX12_toss 3 (some .int) 2 := ⟨(tg_t (tb6 (List.mem_of_getElem? (i := 113) (by decide +kernel))) rfl), (tg_t (tb6 (List.mem_of_getElem? (i := 114) (by decide +kernel))) rfl), (tg_t (tb1 (List.mem_of_getElem? (i := 12) (by decide +kernel))) rfl), (tg_t (tb6 (List.mem_of_getElem? (i := 115) rfl)) rfl), ⟨by decide +kernel, by decide +kernel, by decide +kernel⟩⟩
theorem mw_X12_toss : Cond.instanceMethod yX12_toss ∈ tblG ∧ Cond.initialized yX12_toss.cls ∈ tblG ∧ Cond.code yX12_toss cX12_toss 3 (some .int) ∈ tblG := ⟨(tg_t (tb6 (List.mem_of_getElem? (i := 113) (by decide +kernel))) rfl), (tg_t (tb1 (List.mem_of_getElem? (i := 12) (by decide +kernel))) rfl), (tg_t (tb6 (List.mem_of_getElem? (i := 115) rfl)) rfl)⟩
theorem ms_X12_slowest : MSt yX12_slowest cX12_slowest 2 (some .int) 2 := ⟨(tg_t (tb6 (List.mem_of_getElem? (i := 130) (by decide +kernel))) rfl), (tg_t (tb1 (List.mem_of_getElem? (i := 12) (by decide +kernel))) rfl), (tg_t (tb6 (List.mem_of_getElem? (i := 131) rfl)) rfl), ⟨by decide +kernel, by decide +kernel, by decide +kernel⟩⟩
theorem ms_X12_landings : MSt yX12_landings cX12_landings 5 (some .int) 3 := ⟨(tg_t (tb6 (List.mem_of_getElem? (i := 127) (by decide +kernel))) rfl), (tg_t (tb1 (List.mem_of_getElem? (i := 12) (by decide +kernel))) rfl), (tg_t (tb6 (List.mem_of_getElem? (i := 128) rfl)) rfl), ⟨by decide +kernel, by decide +kernel, by decide +kernel⟩⟩
theorem ms_X12_lowest : MSt yX12_lowest cX12_lowest 6 (some .int) 3 := ⟨(tg_t (tb6 (List.mem_of_getElem? (i := 133) (by decide +kernel))) rfl), (tg_t (tb1 (List.mem_of_getElem? (i := 12) (by decide +kernel))) rfl), (tg_t (tb6 (List.mem_of_getElem? (i := 134) rfl)) rfl), ⟨by decide +kernel, by decide +kernel, by decide +kernel⟩⟩
theorem mv_X12_lands : MV yX12_lands cX12_lands 5 (some .int) 4 := ⟨(tg_t (tb6 (List.mem_of_getElem? (i := 123) (by decide +kernel))) rfl), (tg_t (tb6 (List.mem_of_getElem? (i := 124) (by decide +kernel))) rfl), (tg_t (tb1 (List.mem_of_getElem? (i := 12) (by decide +kernel))) rfl), (tg_t (tb6 (List.mem_of_getElem? (i := 125) rfl)) rfl), ⟨by decide +kernel, by decide +kernel, by decide +kernel⟩⟩
theorem mw_X12_lands : Cond.instanceMethod yX12_lands ∈ tblG ∧ Cond.initialized yX12_lands.cls ∈ tblG ∧ Cond.code yX12_lands cX12_lands 5 (some .int) ∈ tblG := ⟨(tg_t (tb6 (List.mem_of_getElem? (i := 123) (by decide +kernel))) rfl), (tg_t (tb1 (List.mem_of_getElem? (i := 12) (by decide +kernel))) rfl), (tg_t (tb6 (List.mem_of_getElem? (i := 125) rfl)) rfl)⟩
theorem mv_X12_bestSpin : MV yX12_bestSpin cX12_bestSpin 7 (some .int) 2 := ⟨(tg_t (tb6 (List.mem_of_getElem? (i := 136) (by decide +kernel))) rfl), (tg_t (tb6 (List.mem_of_getElem? (i := 137) (by decide +kernel))) rfl), (tg_t (tb1 (List.mem_of_getElem? (i := 12) (by decide +kernel))) rfl), (tg_t (tb6 (List.mem_of_getElem? (i := 138) rfl)) rfl), ⟨by decide +kernel, by decide +kernel, by decide +kernel⟩⟩
theorem mw_X12_bestSpin : Cond.instanceMethod yX12_bestSpin ∈ tblG ∧ Cond.initialized yX12_bestSpin.cls ∈ tblG ∧ Cond.code yX12_bestSpin cX12_bestSpin 7 (some .int) ∈ tblG := ⟨(tg_t (tb6 (List.mem_of_getElem? (i := 136) (by decide +kernel))) rfl), (tg_t (tb1 (List.mem_of_getElem? (i := 12) (by decide +kernel))) rfl), (tg_t (tb6 (List.mem_of_getElem? (i := 138) rfl)) rfl)⟩
theorem mv_X12_image : MV yX12_image cX12_image 2 (some .int) 0 := ⟨(tg_t (tb6 (List.mem_of_getElem? (i := 140) (by decide +kernel))) rfl), (tg_t (tb6 (List.mem_of_getElem? (i := 141) (by decide +kernel))) rfl), (tg_t (tb1 (List.mem_of_getElem? (i := 12) (by decide +kernel))) rfl), (tg_t (tb6 (List.mem_of_getElem? (i := 142) rfl)) rfl), ⟨by decide +kernel, by decide +kernel, by decide +kernel⟩⟩
theorem mw_X12_image : Cond.instanceMethod yX12_image ∈ tblG ∧ Cond.initialized yX12_image.cls ∈ tblG ∧ Cond.code yX12_image cX12_image 2 (some .int) ∈ tblG := ⟨(tg_t (tb6 (List.mem_of_getElem? (i := 140) (by decide +kernel))) rfl), (tg_t (tb1 (List.mem_of_getElem? (i := 12) (by decide +kernel))) rfl), (tg_t (tb6 (List.mem_of_getElem? (i := 142) rfl)) rfl)⟩
theorem mv_X12_restore : MV yX12_restore cX12_restore 2 (some .int) 0 := ⟨(tg_t (tb6 (List.mem_of_getElem? (i := 144) (by decide +kernel))) rfl), (tg_t (tb6 (List.mem_of_getElem? (i := 145) (by decide +kernel))) rfl), (tg_t (tb1 (List.mem_of_getElem? (i := 12) (by decide +kernel))) rfl), (tg_t (tb6 (List.mem_of_getElem? (i := 146) rfl)) rfl), ⟨by decide +kernel, by decide +kernel, by decide +kernel⟩⟩
theorem mw_X12_restore : Cond.instanceMethod yX12_restore ∈ tblG ∧ Cond.initialized yX12_restore.cls ∈ tblG ∧ Cond.code yX12_restore cX12_restore 2 (some .int) ∈ tblG := ⟨(tg_t (tb6 (List.mem_of_getElem? (i := 144) (by decide +kernel))) rfl), (tg_t (tb1 (List.mem_of_getElem? (i := 12) (by decide +kernel))) rfl), (tg_t (tb6 (List.mem_of_getElem? (i := 146) rfl)) rfl)⟩
theorem mv_X12_worthAll : MV yX12_worthAll cX12_worthAll 3 (some .int) 0 := ⟨(tg_t (tb6 (List.mem_of_getElem? (i := 157) (by decide +kernel))) rfl), (tg_s (List.mem_of_getElem? (i := 57) (by decide +kernel)) rfl), (tg_t (tb1 (List.mem_of_getElem? (i := 12) (by decide +kernel))) rfl), (tg_t (tb6 (List.mem_of_getElem? (i := 158) rfl)) rfl), ⟨by decide +kernel, by decide +kernel, by decide +kernel⟩⟩
theorem mw_X12_worthAll : Cond.instanceMethod yX12_worthAll ∈ tblG ∧ Cond.initialized yX12_worthAll.cls ∈ tblG ∧ Cond.code yX12_worthAll cX12_worthAll 3 (some .int) ∈ tblG := ⟨(tg_t (tb6 (List.mem_of_getElem? (i := 157) (by decide +kernel))) rfl), (tg_t (tb1 (List.mem_of_getElem? (i := 12) (by decide +kernel))) rfl), (tg_t (tb6 (List.mem_of_getElem? (i := 158) rfl)) rfl)⟩
theorem mv_X12_howMany : MV yX12_howMany cX12_howMany 2 (some .int) 1 := ⟨(tg_t (tb6 (List.mem_of_getElem? (i := 153) (by decide +kernel))) rfl), (tg_s (List.mem_of_getElem? (i := 56) (by decide +kernel)) rfl), (tg_t (tb1 (List.mem_of_getElem? (i := 12) (by decide +kernel))) rfl), (tg_t (tb6 (List.mem_of_getElem? (i := 154) rfl)) rfl), ⟨by decide +kernel, by decide +kernel, by decide +kernel⟩⟩
theorem mw_X12_howMany : Cond.instanceMethod yX12_howMany ∈ tblG ∧ Cond.initialized yX12_howMany.cls ∈ tblG ∧ Cond.code yX12_howMany cX12_howMany 2 (some .int) ∈ tblG := ⟨(tg_t (tb6 (List.mem_of_getElem? (i := 153) (by decide +kernel))) rfl), (tg_t (tb1 (List.mem_of_getElem? (i := 12) (by decide +kernel))) rfl), (tg_t (tb6 (List.mem_of_getElem? (i := 154) rfl)) rfl)⟩
theorem mv_X12_count : MV yX12_count cX12_count 2 (some .int) 1 := ⟨(tg_t (tb6 (List.mem_of_getElem? (i := 148) (by decide +kernel))) rfl), (tg_t (tb6 (List.mem_of_getElem? (i := 149) (by decide +kernel))) rfl), (tg_t (tb1 (List.mem_of_getElem? (i := 12) (by decide +kernel))) rfl), (tg_t (tb6 (List.mem_of_getElem? (i := 150) rfl)) rfl), ⟨by decide +kernel, by decide +kernel, by decide +kernel⟩⟩
theorem mw_X12_count : Cond.instanceMethod yX12_count ∈ tblG ∧ Cond.initialized yX12_count.cls ∈ tblG ∧ Cond.code yX12_count cX12_count 2 (some .int) ∈ tblG := ⟨(tg_t (tb6 (List.mem_of_getElem? (i := 148) (by decide +kernel))) rfl), (tg_t (tb1 (List.mem_of_getElem? (i := 12) (by decide +kernel))) rfl), (tg_t (tb6 (List.mem_of_getElem? (i := 150) rfl)) rfl)⟩
theorem mv_X12_mix : MV yX12_mix cX12_mix 3 none 1 := ⟨(tg_t (tb6 (List.mem_of_getElem? (i := 166) (by decide +kernel))) rfl), (tg_s (List.mem_of_getElem? (i := 58) (by decide +kernel)) rfl), (tg_t (tb1 (List.mem_of_getElem? (i := 12) (by decide +kernel))) rfl), (tg_t (tb6 (List.mem_of_getElem? (i := 167) rfl)) rfl), ⟨by decide +kernel, by decide +kernel, by decide +kernel⟩⟩
theorem mw_X12_mix : Cond.instanceMethod yX12_mix ∈ tblG ∧ Cond.initialized yX12_mix.cls ∈ tblG ∧ Cond.code yX12_mix cX12_mix 3 none ∈ tblG := ⟨(tg_t (tb6 (List.mem_of_getElem? (i := 166) (by decide +kernel))) rfl), (tg_t (tb1 (List.mem_of_getElem? (i := 12) (by decide +kernel))) rfl), (tg_t (tb6 (List.mem_of_getElem? (i := 167) rfl)) rfl)⟩
theorem mv_X12_mixCake : MV yX12_mixCake cX12_mixCake 3 none 1 := ⟨(tg_t (tb6 (List.mem_of_getElem? (i := 171) (by decide +kernel))) rfl), (tg_s (List.mem_of_getElem? (i := 59) (by decide +kernel)) rfl), (tg_t (tb1 (List.mem_of_getElem? (i := 12) (by decide +kernel))) rfl), (tg_t (tb6 (List.mem_of_getElem? (i := 172) rfl)) rfl), ⟨by decide +kernel, by decide +kernel, by decide +kernel⟩⟩
theorem mw_X12_mixCake : Cond.instanceMethod yX12_mixCake ∈ tblG ∧ Cond.initialized yX12_mixCake.cls ∈ tblG ∧ Cond.code yX12_mixCake cX12_mixCake 3 none ∈ tblG := ⟨(tg_t (tb6 (List.mem_of_getElem? (i := 171) (by decide +kernel))) rfl), (tg_t (tb1 (List.mem_of_getElem? (i := 12) (by decide +kernel))) rfl), (tg_t (tb6 (List.mem_of_getElem? (i := 172) rfl)) rfl)⟩
theorem mv_X12_digest : MV yX12_digest cX12_digest 3 (some .long) 0 := ⟨(tg_t (tb6 (List.mem_of_getElem? (i := 160) (by decide +kernel))) rfl), (tg_t (tb6 (List.mem_of_getElem? (i := 161) (by decide +kernel))) rfl), (tg_t (tb1 (List.mem_of_getElem? (i := 12) (by decide +kernel))) rfl), (tg_t (tb6 (List.mem_of_getElem? (i := 162) rfl)) rfl), ⟨by decide +kernel, by decide +kernel, by decide +kernel⟩⟩
theorem mw_X12_digest : Cond.instanceMethod yX12_digest ∈ tblG ∧ Cond.initialized yX12_digest.cls ∈ tblG ∧ Cond.code yX12_digest cX12_digest 3 (some .long) ∈ tblG := ⟨(tg_t (tb6 (List.mem_of_getElem? (i := 160) (by decide +kernel))) rfl), (tg_t (tb1 (List.mem_of_getElem? (i := 12) (by decide +kernel))) rfl), (tg_t (tb6 (List.mem_of_getElem? (i := 162) rfl)) rfl)⟩
theorem ms_J11_isValidCodePoint_9a6ad : MSt yJ11_isValidCodePoint_9a6ad cJ11_isValidCodePoint_9a6ad 2 (some .boolean) 1 := ⟨(tg_t (tb2 (List.mem_of_getElem? (i := 233) (by decide +kernel))) rfl), (tg_t (tb1 (List.mem_of_getElem? (i := 19) (by decide +kernel))) rfl), (tg_t (tb2 (List.mem_of_getElem? (i := 234) rfl)) rfl), ⟨by decide +kernel, by decide +kernel, by decide +kernel⟩⟩
theorem ms_J11_highSurrogate_5068e : MSt yJ11_highSurrogate_5068e cJ11_highSurrogate_5068e 1 (some .char) 1 := ⟨(tg_t (tb2 (List.mem_of_getElem? (i := 236) (by decide +kernel))) rfl), (tg_t (tb1 (List.mem_of_getElem? (i := 19) (by decide +kernel))) rfl), (tg_t (tb2 (List.mem_of_getElem? (i := 237) rfl)) rfl), ⟨by decide +kernel, by decide +kernel, by decide +kernel⟩⟩
theorem ms_J11_lowSurrogate_5068e : MSt yJ11_lowSurrogate_5068e cJ11_lowSurrogate_5068e 1 (some .char) 1 := ⟨(tg_t (tb3 (List.mem_of_getElem? (i := 0) (by decide +kernel))) rfl), (tg_t (tb1 (List.mem_of_getElem? (i := 19) (by decide +kernel))) rfl), (tg_t (tb3 (List.mem_of_getElem? (i := 1) rfl)) rfl), ⟨by decide +kernel, by decide +kernel, by decide +kernel⟩⟩
theorem ms_J9_max_7cf53 : MSt yJ9_max_7cf53 cJ9_max_7cf53 2 (some .int) 2 := ⟨(tg_t (tb2 (List.mem_of_getElem? (i := 186) (by decide +kernel))) rfl), (tg_t (tb1 (List.mem_of_getElem? (i := 16) (by decide +kernel))) rfl), (tg_t (tb2 (List.mem_of_getElem? (i := 187) rfl)) rfl), ⟨by decide +kernel, by decide +kernel, by decide +kernel⟩⟩
theorem ms_J9_min_7cf53 : MSt yJ9_min_7cf53 cJ9_min_7cf53 2 (some .int) 2 := ⟨(tg_t (tb2 (List.mem_of_getElem? (i := 189) (by decide +kernel))) rfl), (tg_t (tb1 (List.mem_of_getElem? (i := 16) (by decide +kernel))) rfl), (tg_t (tb2 (List.mem_of_getElem? (i := 190) rfl)) rfl), ⟨by decide +kernel, by decide +kernel, by decide +kernel⟩⟩
theorem mv_J0_length_8abf5 : MV yJ0_length_8abf5 cJ0_length_8abf5 1 (some .int) 0 := ⟨(tg_t (tb2 (List.mem_of_getElem? (i := 172) (by decide +kernel))) rfl), (tg_t (tb2 (List.mem_of_getElem? (i := 173) (by decide +kernel))) rfl), (tg_t (tb1 (List.mem_of_getElem? (i := 14) (by decide +kernel))) rfl), (tg_t (tb2 (List.mem_of_getElem? (i := 174) rfl)) rfl), ⟨by decide +kernel, by decide +kernel, by decide +kernel⟩⟩
theorem mw_J0_length_8abf5 : Cond.instanceMethod yJ0_length_8abf5 ∈ tblG ∧ Cond.initialized yJ0_length_8abf5.cls ∈ tblG ∧ Cond.code yJ0_length_8abf5 cJ0_length_8abf5 1 (some .int) ∈ tblG := ⟨(tg_t (tb2 (List.mem_of_getElem? (i := 172) (by decide +kernel))) rfl), (tg_t (tb1 (List.mem_of_getElem? (i := 14) (by decide +kernel))) rfl), (tg_t (tb2 (List.mem_of_getElem? (i := 174) rfl)) rfl)⟩
theorem mv_J0_charAt_5068e : MV yJ0_charAt_5068e cJ0_charAt_5068e 2 (some .char) 1 := ⟨(tg_t (tb3 (List.mem_of_getElem? (i := 13) (by decide +kernel))) rfl), (tg_t (tb3 (List.mem_of_getElem? (i := 14) (by decide +kernel))) rfl), (tg_t (tb1 (List.mem_of_getElem? (i := 14) (by decide +kernel))) rfl), (tg_t (tb3 (List.mem_of_getElem? (i := 15) rfl)) rfl), ⟨by decide +kernel, by decide +kernel, by decide +kernel⟩⟩
theorem mw_J0_charAt_5068e : Cond.instanceMethod yJ0_charAt_5068e ∈ tblG ∧ Cond.initialized yJ0_charAt_5068e.cls ∈ tblG ∧ Cond.code yJ0_charAt_5068e cJ0_charAt_5068e 2 (some .char) ∈ tblG := ⟨(tg_t (tb3 (List.mem_of_getElem? (i := 13) (by decide +kernel))) rfl), (tg_t (tb1 (List.mem_of_getElem? (i := 14) (by decide +kernel))) rfl), (tg_t (tb3 (List.mem_of_getElem? (i := 15) rfl)) rfl)⟩
theorem mv_J0_indexOf_0f7a4 : MV yJ0_indexOf_0f7a4 cJ0_indexOf_0f7a4 2 (some .int) 1 := ⟨(tg_t (tb2 (List.mem_of_getElem? (i := 158) (by decide +kernel))) rfl), (tg_t (tb2 (List.mem_of_getElem? (i := 159) (by decide +kernel))) rfl), (tg_t (tb1 (List.mem_of_getElem? (i := 14) (by decide +kernel))) rfl), (tg_t (tb2 (List.mem_of_getElem? (i := 160) rfl)) rfl), ⟨by decide +kernel, by decide +kernel, by decide +kernel⟩⟩
theorem mw_J0_indexOf_0f7a4 : Cond.instanceMethod yJ0_indexOf_0f7a4 ∈ tblG ∧ Cond.initialized yJ0_indexOf_0f7a4.cls ∈ tblG ∧ Cond.code yJ0_indexOf_0f7a4 cJ0_indexOf_0f7a4 2 (some .int) ∈ tblG := ⟨(tg_t (tb2 (List.mem_of_getElem? (i := 158) (by decide +kernel))) rfl), (tg_t (tb1 (List.mem_of_getElem? (i := 14) (by decide +kernel))) rfl), (tg_t (tb2 (List.mem_of_getElem? (i := 160) rfl)) rfl)⟩
theorem mv_J0_indexOf_7cf53 : MV yJ0_indexOf_7cf53 cJ0_indexOf_7cf53 3 (some .int) 2 := ⟨(tg_t (tb2 (List.mem_of_getElem? (i := 162) (by decide +kernel))) rfl), (tg_t (tb2 (List.mem_of_getElem? (i := 163) (by decide +kernel))) rfl), (tg_t (tb1 (List.mem_of_getElem? (i := 14) (by decide +kernel))) rfl), (tg_t (tb2 (List.mem_of_getElem? (i := 164) rfl)) rfl), ⟨by decide +kernel, by decide +kernel, by decide +kernel⟩⟩
theorem mw_J0_indexOf_7cf53 : Cond.instanceMethod yJ0_indexOf_7cf53 ∈ tblG ∧ Cond.initialized yJ0_indexOf_7cf53.cls ∈ tblG ∧ Cond.code yJ0_indexOf_7cf53 cJ0_indexOf_7cf53 3 (some .int) ∈ tblG := ⟨(tg_t (tb2 (List.mem_of_getElem? (i := 162) (by decide +kernel))) rfl), (tg_t (tb1 (List.mem_of_getElem? (i := 14) (by decide +kernel))) rfl), (tg_t (tb2 (List.mem_of_getElem? (i := 164) rfl)) rfl)⟩
theorem mv_J0_coder_7d493 : MV yJ0_coder_7d493 cJ0_coder_7d493 1 (some .byte) 0 := ⟨(tg_t (tb2 (List.mem_of_getElem? (i := 176) (by decide +kernel))) rfl), (tg_t (tb2 (List.mem_of_getElem? (i := 177) (by decide +kernel))) rfl), (tg_t (tb1 (List.mem_of_getElem? (i := 14) (by decide +kernel))) rfl), (tg_t (tb2 (List.mem_of_getElem? (i := 178) rfl)) rfl), ⟨by decide +kernel, by decide +kernel, by decide +kernel⟩⟩
theorem mw_J0_coder_7d493 : Cond.instanceMethod yJ0_coder_7d493 ∈ tblG ∧ Cond.initialized yJ0_coder_7d493.cls ∈ tblG ∧ Cond.code yJ0_coder_7d493 cJ0_coder_7d493 1 (some .byte) ∈ tblG := ⟨(tg_t (tb2 (List.mem_of_getElem? (i := 176) (by decide +kernel))) rfl), (tg_t (tb1 (List.mem_of_getElem? (i := 14) (by decide +kernel))) rfl), (tg_t (tb2 (List.mem_of_getElem? (i := 178) rfl)) rfl)⟩
theorem mv_J0_isLatin1_aae02 : MV yJ0_isLatin1_aae02 cJ0_isLatin1_aae02 1 (some .boolean) 0 := ⟨(tg_t (tb2 (List.mem_of_getElem? (i := 166) (by decide +kernel))) rfl), (tg_t (tb2 (List.mem_of_getElem? (i := 167) (by decide +kernel))) rfl), (tg_t (tb1 (List.mem_of_getElem? (i := 14) (by decide +kernel))) rfl), (tg_t (tb2 (List.mem_of_getElem? (i := 168) rfl)) rfl), ⟨by decide +kernel, by decide +kernel, by decide +kernel⟩⟩
theorem mw_J0_isLatin1_aae02 : Cond.instanceMethod yJ0_isLatin1_aae02 ∈ tblG ∧ Cond.initialized yJ0_isLatin1_aae02.cls ∈ tblG ∧ Cond.code yJ0_isLatin1_aae02 cJ0_isLatin1_aae02 1 (some .boolean) ∈ tblG := ⟨(tg_t (tb2 (List.mem_of_getElem? (i := 166) (by decide +kernel))) rfl), (tg_t (tb1 (List.mem_of_getElem? (i := 14) (by decide +kernel))) rfl), (tg_t (tb2 (List.mem_of_getElem? (i := 168) rfl)) rfl)⟩
theorem ms_J0_checkIndex_df160 : MSt yJ0_checkIndex_df160 cJ0_checkIndex_df160 2 none 2 := ⟨(tg_t (tb3 (List.mem_of_getElem? (i := 20) (by decide +kernel))) rfl), (tg_t (tb1 (List.mem_of_getElem? (i := 14) (by decide +kernel))) rfl), (tg_t (tb3 (List.mem_of_getElem? (i := 21) rfl)) rfl), ⟨by decide +kernel, by decide +kernel, by decide +kernel⟩⟩
theorem ms_J0_checkBoundsBeginEnd_23922 : MSt yJ0_checkBoundsBeginEnd_23922 cJ0_checkBoundsBeginEnd_23922 3 none 3 := ⟨(tg_t (tb2 (List.mem_of_getElem? (i := 210) (by decide +kernel))) rfl), (tg_t (tb1 (List.mem_of_getElem? (i := 14) (by decide +kernel))) rfl), (tg_t (tb2 (List.mem_of_getElem? (i := 211) rfl)) rfl), ⟨by decide +kernel, by decide +kernel, by decide +kernel⟩⟩
theorem ms_J1_charAt_3b067 : MSt yJ1_charAt_3b067 cJ1_charAt_3b067 2 (some .char) 2 := ⟨(tg_t (tb3 (List.mem_of_getElem? (i := 17) (by decide +kernel))) rfl), (tg_t (tb1 (List.mem_of_getElem? (i := 15) (by decide +kernel))) rfl), (tg_t (tb3 (List.mem_of_getElem? (i := 18) rfl)) rfl), ⟨by decide +kernel, by decide +kernel, by decide +kernel⟩⟩
theorem ms_J1_canEncode_9a6ad : MSt yJ1_canEncode_9a6ad cJ1_canEncode_9a6ad 1 (some .boolean) 1 := ⟨(tg_t (tb2 (List.mem_of_getElem? (i := 183) (by decide +kernel))) rfl), (tg_t (tb1 (List.mem_of_getElem? (i := 15) (by decide +kernel))) rfl), (tg_t (tb2 (List.mem_of_getElem? (i := 184) rfl)) rfl), ⟨by decide +kernel, by decide +kernel, by decide +kernel⟩⟩
theorem ms_J1_indexOf_4cfef : MSt yJ1_indexOf_4cfef cJ1_indexOf_4cfef 4 (some .int) 4 := ⟨(tg_t (tb2 (List.mem_of_getElem? (i := 180) (by decide +kernel))) rfl), (tg_t (tb1 (List.mem_of_getElem? (i := 15) (by decide +kernel))) rfl), (tg_t (tb2 (List.mem_of_getElem? (i := 181) rfl)) rfl), ⟨by decide +kernel, by decide +kernel, by decide +kernel⟩⟩
theorem ms_J1_indexOfChar_4cfef : MSt yJ1_indexOfChar_4cfef cJ1_indexOfChar_4cfef 6 (some .int) 4 := ⟨(tg_t (tb2 (List.mem_of_getElem? (i := 192) (by decide +kernel))) rfl), (tg_t (tb1 (List.mem_of_getElem? (i := 15) (by decide +kernel))) rfl), (tg_t (tb2 (List.mem_of_getElem? (i := 193) rfl)) rfl), ⟨by decide +kernel, by decide +kernel, by decide +kernel⟩⟩
theorem ms_J2_getChar_3b067 : MSt yJ2_getChar_3b067 cJ2_getChar_3b067 2 (some .char) 2 := ⟨(tg_t (tb2 (List.mem_of_getElem? (i := 221) (by decide +kernel))) rfl), (tg_t (tb1 (List.mem_of_getElem? (i := 17) (by decide +kernel))) rfl), (tg_t (tb2 (List.mem_of_getElem? (i := 222) rfl)) rfl), ⟨by decide +kernel, by decide +kernel, by decide +kernel⟩⟩
theorem ms_J2_length_9d52b : MSt yJ2_length_9d52b cJ2_length_9d52b 1 (some .int) 1 := ⟨(tg_t (tb2 (List.mem_of_getElem? (i := 207) (by decide +kernel))) rfl), (tg_t (tb1 (List.mem_of_getElem? (i := 17) (by decide +kernel))) rfl), (tg_t (tb2 (List.mem_of_getElem? (i := 208) rfl)) rfl), ⟨by decide +kernel, by decide +kernel, by decide +kernel⟩⟩
theorem ms_J2_indexOf_4cfef : MSt yJ2_indexOf_4cfef cJ2_indexOf_4cfef 4 (some .int) 4 := ⟨(tg_t (tb2 (List.mem_of_getElem? (i := 195) (by decide +kernel))) rfl), (tg_t (tb1 (List.mem_of_getElem? (i := 17) (by decide +kernel))) rfl), (tg_t (tb2 (List.mem_of_getElem? (i := 196) rfl)) rfl), ⟨by decide +kernel, by decide +kernel, by decide +kernel⟩⟩
theorem ms_J2_indexOfChar_4cfef : MSt yJ2_indexOfChar_4cfef cJ2_indexOfChar_4cfef 4 (some .int) 4 := ⟨(tg_t (tb2 (List.mem_of_getElem? (i := 201) (by decide +kernel))) rfl), (tg_t (tb1 (List.mem_of_getElem? (i := 17) (by decide +kernel))) rfl), (tg_t (tb2 (List.mem_of_getElem? (i := 202) rfl)) rfl), ⟨by decide +kernel, by decide +kernel, by decide +kernel⟩⟩
theorem ms_J2_indexOfCharUnsafe_4cfef : MSt yJ2_indexOfCharUnsafe_4cfef cJ2_indexOfCharUnsafe_4cfef 5 (some .int) 4 := ⟨(tg_t (tb2 (List.mem_of_getElem? (i := 218) (by decide +kernel))) rfl), (tg_t (tb1 (List.mem_of_getElem? (i := 17) (by decide +kernel))) rfl), (tg_t (tb2 (List.mem_of_getElem? (i := 219) rfl)) rfl), ⟨by decide +kernel, by decide +kernel, by decide +kernel⟩⟩
theorem ms_J2_indexOfSupplementary_4cfef : MSt yJ2_indexOfSupplementary_4cfef cJ2_indexOfSupplementary_4cfef 7 (some .int) 4 := ⟨(tg_t (tb2 (List.mem_of_getElem? (i := 230) (by decide +kernel))) rfl), (tg_t (tb1 (List.mem_of_getElem? (i := 17) (by decide +kernel))) rfl), (tg_t (tb2 (List.mem_of_getElem? (i := 231) rfl)) rfl), ⟨by decide +kernel, by decide +kernel, by decide +kernel⟩⟩
theorem ms_J2_charAt_3b067 : MSt yJ2_charAt_3b067 cJ2_charAt_3b067 2 (some .char) 2 := ⟨(tg_t (tb3 (List.mem_of_getElem? (i := 26) (by decide +kernel))) rfl), (tg_t (tb1 (List.mem_of_getElem? (i := 17) (by decide +kernel))) rfl), (tg_t (tb3 (List.mem_of_getElem? (i := 27) rfl)) rfl), ⟨by decide +kernel, by decide +kernel, by decide +kernel⟩⟩
theorem ms_J2_checkIndex_2214a : MSt yJ2_checkIndex_2214a cJ2_checkIndex_2214a 2 none 2 := ⟨(tg_t (tb3 (List.mem_of_getElem? (i := 29) (by decide +kernel))) rfl), (tg_t (tb1 (List.mem_of_getElem? (i := 17) (by decide +kernel))) rfl), (tg_t (tb3 (List.mem_of_getElem? (i := 30) rfl)) rfl), ⟨by decide +kernel, by decide +kernel, by decide +kernel⟩⟩
theorem ms_J2_checkBoundsBeginEnd_d044e : MSt yJ2_checkBoundsBeginEnd_d044e cJ2_checkBoundsBeginEnd_d044e 3 none 3 := ⟨(tg_t (tb2 (List.mem_of_getElem? (i := 204) (by decide +kernel))) rfl), (tg_t (tb1 (List.mem_of_getElem? (i := 17) (by decide +kernel))) rfl), (tg_t (tb2 (List.mem_of_getElem? (i := 205) rfl)) rfl), ⟨by decide +kernel, by decide +kernel, by decide +kernel⟩⟩
theorem ms_J7_fill_53178 : MSt yJ7_fill_53178 cJ7_fill_53178 4 none 2 := ⟨(tg_t (tb2 (List.mem_of_getElem? (i := 121) (by decide +kernel))) rfl), (tg_t (tb1 (List.mem_of_getElem? (i := 13) (by decide +kernel))) rfl), (tg_t (tb2 (List.mem_of_getElem? (i := 122) rfl)) rfl), ⟨by decide +kernel, by decide +kernel, by decide +kernel⟩⟩
theorem ms_J3_checkIndex_8e157 : MSt yJ3_checkIndex_8e157 cJ3_checkIndex_8e157 3 (some .int) 3 := ⟨(tg_t (tb3 (List.mem_of_getElem? (i := 23) (by decide +kernel))) rfl), (tg_t (tb1 (List.mem_of_getElem? (i := 18) (by decide +kernel))) rfl), (tg_t (tb3 (List.mem_of_getElem? (i := 24) rfl)) rfl), ⟨by decide +kernel, by decide +kernel, by decide +kernel⟩⟩
theorem ms_J3_checkFromToIndex_8c36e : MSt yJ3_checkFromToIndex_8c36e cJ3_checkFromToIndex_8c36e 4 (some .int) 4 := ⟨(tg_t (tb2 (List.mem_of_getElem? (i := 215) (by decide +kernel))) rfl), (tg_t (tb1 (List.mem_of_getElem? (i := 18) (by decide +kernel))) rfl), (tg_t (tb2 (List.mem_of_getElem? (i := 216) rfl)) rfl), ⟨by decide +kernel, by decide +kernel, by decide +kernel⟩⟩
theorem ml_X11_39 : Cond.methodLink RX11 39 yX2_init ∈ tblG := (tg_t (tb1 (List.mem_of_getElem? (i := 138) (by decide +kernel))) rfl)
theorem ml_X11_77 : Cond.methodLink RX11 77 yX4_lettersIn ∈ tblG := (tg_t (tb2 (List.mem_of_getElem? (i := 86) (by decide +kernel))) rfl)
theorem ml_X11_85 : Cond.methodLink RX11 85 yX4_add ∈ tblG := (tg_t (tb2 (List.mem_of_getElem? (i := 92) (by decide +kernel))) rfl)
theorem ml_X11_89 : Cond.methodLink RX11 89 yX11_within ∈ tblG := (tg_t (tb2 (List.mem_of_getElem? (i := 104) (by decide +kernel))) rfl)
theorem ml_X11_93 : Cond.methodLink RX11 93 yX4_readAs ∈ tblG := (tg_t (tb2 (List.mem_of_getElem? (i := 107) (by decide +kernel))) rfl)
theorem ml_X11_97 : Cond.methodLink RX11 97 yX4_isWhole ∈ tblG := (tg_t (tb3 (List.mem_of_getElem? (i := 37) (by decide +kernel))) rfl)
theorem ml_X11_101 : Cond.methodLink RX11 101 yX5_become ∈ tblG := (tg_t (tb3 (List.mem_of_getElem? (i := 51) (by decide +kernel))) rfl)
theorem ml_X11_105 : Cond.methodLink RX11 105 yX1_clear ∈ tblG := (tg_t (tb3 (List.mem_of_getElem? (i := 55) (by decide +kernel))) rfl)
theorem ml_X11_124 : Cond.methodLink RX11 124 yX7_become ∈ tblG := (tg_t (tb3 (List.mem_of_getElem? (i := 68) (by decide +kernel))) rfl)
theorem ml_X11_127 : Cond.methodLink RX11 127 yX11_isPlan ∈ tblG := (tg_t (tb3 (List.mem_of_getElem? (i := 79) (by decide +kernel))) rfl)
theorem ml_X11_131 : Cond.methodLink RX11 131 yX7_swingAt ∈ tblG := (tg_t (tb3 (List.mem_of_getElem? (i := 83) (by decide +kernel))) rfl)
theorem ml_X11_135 : Cond.methodLink RX11 135 yX7_told ∈ tblG := (tg_t (tb3 (List.mem_of_getElem? (i := 88) (by decide +kernel))) rfl)
theorem ml_X11_138 : Cond.methodLink RX11 138 yX11_isCell ∈ tblG := (tg_t (tb3 (List.mem_of_getElem? (i := 96) (by decide +kernel))) rfl)
theorem ml_X11_155 : Cond.methodLink RX11 155 yX11_hasPan ∈ tblG := (tg_t (tb3 (List.mem_of_getElem? (i := 104) (by decide +kernel))) rfl)
theorem ml_X11_159 : Cond.methodLink RX11 159 yX1_heat ∈ tblG := (tg_t (tb3 (List.mem_of_getElem? (i := 108) (by decide +kernel))) rfl)
theorem ml_X11_163 : Cond.methodLink RX11 163 yJ9_max_7cf53 ∈ tblG := (tg_t (tb3 (List.mem_of_getElem? (i := 112) (by decide +kernel))) rfl)
theorem ml_X11_172 : Cond.methodLink RX11 172 yX1_bitsTogether ∈ tblG := (tg_t (tb3 (List.mem_of_getElem? (i := 121) (by decide +kernel))) rfl)
theorem ml_X11_176 : Cond.methodLink RX11 176 yX1_clearBits ∈ tblG := (tg_t (tb3 (List.mem_of_getElem? (i := 125) (by decide +kernel))) rfl)
theorem ml_X11_179 : Cond.methodLink RX11 179 yX5_bake ∈ tblG := (tg_t (tb3 (List.mem_of_getElem? (i := 130) (by decide +kernel))) rfl)
theorem ml_X11_185 : Cond.methodLink RX11 185 yX11_isCake ∈ tblG := (tg_t (tb3 (List.mem_of_getElem? (i := 193) (by decide +kernel))) rfl)
theorem ml_X11_188 : Cond.methodLink RX11 188 yX0_passesAs ∈ tblG := (tg_t (tb3 (List.mem_of_getElem? (i := 201) (by decide +kernel))) rfl)
theorem ml_X11_194 : Cond.methodLink RX11 194 yX2_next ∈ tblG := (tg_t (tb3 (List.mem_of_getElem? (i := 215) (by decide +kernel))) rfl)
theorem ml_X11_198 : Cond.methodLink RX11 198 yX2_firstOfTheRight ∈ tblG := (tg_t (tb3 (List.mem_of_getElem? (i := 233) (by decide +kernel))) rfl)
theorem ml_X11_202 : Cond.methodLink RX11 202 yX2_notRight ∈ tblG := (tg_t (tb4 (List.mem_of_getElem? (i := 5) (by decide +kernel))) rfl)
theorem ml_X11_205 : Cond.methodLink RX11 205 yX2_reasons ∈ tblG := (tg_t (tb4 (List.mem_of_getElem? (i := 13) (by decide +kernel))) rfl)
theorem ml_X11_208 : Cond.methodLink RX11 208 yX2_findFire ∈ tblG := (tg_t (tb4 (List.mem_of_getElem? (i := 28) (by decide +kernel))) rfl)
theorem ml_X11_221 : Cond.methodLink RX11 221 yX2_findSwings ∈ tblG := (tg_t (tb4 (List.mem_of_getElem? (i := 44) (by decide +kernel))) rfl)
theorem ml_X11_224 : Cond.methodLink RX11 224 yX2_swingOf ∈ tblG := (tg_t (tb4 (List.mem_of_getElem? (i := 55) (by decide +kernel))) rfl)
theorem ml_X11_228 : Cond.methodLink RX11 228 yX2_findTwo ∈ tblG := (tg_t (tb4 (List.mem_of_getElem? (i := 60) (by decide +kernel))) rfl)
theorem ml_X11_235 : Cond.methodLink RX11 235 yX3_work ∈ tblG := (tg_t (tb4 (List.mem_of_getElem? (i := 68) (by decide +kernel))) rfl)
theorem ml_X11_245 : Cond.methodLink RX11 245 yX10_turnsOver ∈ tblG := (tg_t (tb4 (List.mem_of_getElem? (i := 82) (by decide +kernel))) rfl)
theorem ml_X11_251 : Cond.methodLink RX11 251 yX10_landings ∈ tblG := (tg_t (tb4 (List.mem_of_getElem? (i := 89) (by decide +kernel))) rfl)
theorem ml_X11_254 : Cond.methodLink RX11 254 yX10_paces ∈ tblG := (tg_t (tb4 (List.mem_of_getElem? (i := 97) (by decide +kernel))) rfl)
theorem ml_X11_257 : Cond.methodLink RX11 257 yX10_commonDivisor ∈ tblG := (tg_t (tb4 (List.mem_of_getElem? (i := 100) (by decide +kernel))) rfl)
theorem ml_X11_260 : Cond.methodLink RX11 260 yX10_likeliestSpin ∈ tblG := (tg_t (tb4 (List.mem_of_getElem? (i := 107) (by decide +kernel))) rfl)
theorem ml_X11_263 : Cond.methodLink RX11 263 yX1_become ∈ tblG := (tg_t (tb4 (List.mem_of_getElem? (i := 115) (by decide +kernel))) rfl)
theorem ml_X11_269 : Cond.methodLink RX11 269 yX11_worthTogether ∈ tblG := (tg_t (tb4 (List.mem_of_getElem? (i := 124) (by decide +kernel))) rfl)
theorem ml_X11_274 : Cond.methodLink RX11 274 yX11_digestOfCells ∈ tblG := (tg_t (tb4 (List.mem_of_getElem? (i := 133) (by decide +kernel))) rfl)
theorem ml_X11_278 : Cond.methodLink RX11 278 yX11_digestOfPlans ∈ tblG := (tg_t (tb4 (List.mem_of_getElem? (i := 142) (by decide +kernel))) rfl)
theorem ml_X11_281 : Cond.methodLink RX11 281 yX11_digestOfCakes ∈ tblG := (tg_t (tb4 (List.mem_of_getElem? (i := 146) (by decide +kernel))) rfl)
theorem ml_X11_284 : Cond.methodLink RX11 284 yX11_digestOfTried ∈ tblG := (tg_t (tb4 (List.mem_of_getElem? (i := 150) (by decide +kernel))) rfl)
theorem ml_X11_290 : Cond.methodLink RX11 290 yX11_mixed ∈ tblG := (tg_t (tb4 (List.mem_of_getElem? (i := 138) (by decide +kernel))) rfl)
theorem ml_X11_294 : Cond.methodLink RX11 294 yX11_count ∈ tblG := (tg_t (tb4 (List.mem_of_getElem? (i := 154) (by decide +kernel))) rfl)
theorem ml_X11_297 : Cond.methodLink RX11 297 yX11_cell ∈ tblG := (tg_t (tb4 (List.mem_of_getElem? (i := 137) (by decide +kernel))) rfl)
theorem ml_X0_24 : Cond.methodLink RX0 24 yJ9_min_7cf53 ∈ tblG := (tg_t (tb3 (List.mem_of_getElem? (i := 181) (by decide +kernel))) rfl)
theorem ml_X0_30 : Cond.methodLink RX0 30 yJ9_max_7cf53 ∈ tblG := (tg_t (tb3 (List.mem_of_getElem? (i := 182) (by decide +kernel))) rfl)
theorem ml_X0_33 : Cond.methodLink RX0 33 yX0_measure ∈ tblG := (tg_t (tb3 (List.mem_of_getElem? (i := 176) (by decide +kernel))) rfl)
theorem ml_X0_36 : Cond.methodLink RX0 36 yX0_kindNow ∈ tblG := (tg_t (tb3 (List.mem_of_getElem? (i := 183) (by decide +kernel))) rfl)
theorem ml_X1_18 : Cond.methodLink RX1 18 yJ7_fill_53178 ∈ tblG := (tg_t (tb3 (List.mem_of_getElem? (i := 59) (by decide +kernel))) rfl)
theorem ml_X1_24 : Cond.methodLink RX1 24 yX1_clearBits ∈ tblG := (tg_t (tb3 (List.mem_of_getElem? (i := 60) (by decide +kernel))) rfl)
theorem ml_X1_31 : Cond.methodLink RX1 31 yX1_takeWarmth ∈ tblG := (tg_t (tb3 (List.mem_of_getElem? (i := 223) (by decide +kernel))) rfl)
theorem ml_X1_41 : Cond.methodLink RX1 41 yJ9_max_7cf53 ∈ tblG := (tg_t (tb3 (List.mem_of_getElem? (i := 146) (by decide +kernel))) rfl)
theorem ml_X2_39 : Cond.methodLink RX2 39 yX1_become ∈ tblG := (tg_t (tb3 (List.mem_of_getElem? (i := 219) (by decide +kernel))) rfl)
theorem ml_X2_43 : Cond.methodLink RX2 43 yX5_bake ∈ tblG := (tg_t (tb3 (List.mem_of_getElem? (i := 228) (by decide +kernel))) rfl)
theorem ml_X2_49 : Cond.methodLink RX2 49 yX0_isRight ∈ tblG := (tg_t (tb3 (List.mem_of_getElem? (i := 237) (by decide +kernel))) rfl)
theorem ml_X2_53 : Cond.methodLink RX2 53 yX2_next ∈ tblG := (tg_t (tb4 (List.mem_of_getElem? (i := 17) (by decide +kernel))) rfl)
theorem ml_X2_57 : Cond.methodLink RX2 57 yX2_warmBySix ∈ tblG := (tg_t (tb4 (List.mem_of_getElem? (i := 18) (by decide +kernel))) rfl)
theorem ml_X2_65 : Cond.methodLink RX2 65 yX1_clearBits ∈ tblG := (tg_t (tb4 (List.mem_of_getElem? (i := 23) (by decide +kernel))) rfl)
theorem ml_X2_68 : Cond.methodLink RX2 68 yX1_takeWarmth ∈ tblG := (tg_t (tb4 (List.mem_of_getElem? (i := 22) (by decide +kernel))) rfl)
theorem ml_X2_71 : Cond.methodLink RX2 71 yX7_become_ ∈ tblG := (tg_t (tb4 (List.mem_of_getElem? (i := 32) (by decide +kernel))) rfl)
theorem ml_X2_80 : Cond.methodLink RX2 80 yX2_worthOf ∈ tblG := (tg_t (tb4 (List.mem_of_getElem? (i := 36) (by decide +kernel))) rfl)
theorem ml_X2_91 : Cond.methodLink RX2 91 yJ9_min_7cf53 ∈ tblG := (tg_t (tb4 (List.mem_of_getElem? (i := 48) (by decide +kernel))) rfl)
theorem ml_X2_106 : Cond.methodLink RX2 106 yX2_swingOf ∈ tblG := (tg_t (tb4 (List.mem_of_getElem? (i := 50) (by decide +kernel))) rfl)
theorem ml_X2_110 : Cond.methodLink RX2 110 yX5_spread ∈ tblG := (tg_t (tb4 (List.mem_of_getElem? (i := 53) (by decide +kernel))) rfl)
theorem ml_X2_114 : Cond.methodLink RX2 114 yX0_measure ∈ tblG := (tg_t (tb4 (List.mem_of_getElem? (i := 54) (by decide +kernel))) rfl)
theorem ml_X3_18 : Cond.methodLink RX3 18 yJ7_fill_53178 ∈ tblG := (tg_t (tb4 (List.mem_of_getElem? (i := 72) (by decide +kernel))) rfl)
theorem ml_X3_31 : Cond.methodLink RX3 31 yX3_longestWanting ∈ tblG := (tg_t (tb4 (List.mem_of_getElem? (i := 73) (by decide +kernel))) rfl)
theorem ml_X3_35 : Cond.methodLink RX3 35 yJ9_max_7cf53 ∈ tblG := (tg_t (tb4 (List.mem_of_getElem? (i := 77) (by decide +kernel))) rfl)
theorem ml_X4_15 : Cond.methodLink RX4 15 yX4_codeAt ∈ tblG := (tg_t (tb2 (List.mem_of_getElem? (i := 89) (by decide +kernel))) rfl)
theorem ml_X4_32 : Cond.methodLink RX4 32 yX4_readAs ∈ tblG := (tg_t (tb3 (List.mem_of_getElem? (i := 41) (by decide +kernel))) rfl)
theorem ml_X5_44 : Cond.methodLink RX5 44 yX5_spread ∈ tblG := (tg_t (tb3 (List.mem_of_getElem? (i := 134) (by decide +kernel))) rfl)
theorem ml_X5_56 : Cond.methodLink RX5 56 yX5_lie ∈ tblG := (tg_t (tb3 (List.mem_of_getElem? (i := 147) (by decide +kernel))) rfl)
theorem ml_X5_63 : Cond.methodLink RX5 63 yX5_takeOut ∈ tblG := (tg_t (tb3 (List.mem_of_getElem? (i := 166) (by decide +kernel))) rfl)
theorem ml_X5_67 : Cond.methodLink RX5 67 yX0_judge ∈ tblG := (tg_t (tb3 (List.mem_of_getElem? (i := 172) (by decide +kernel))) rfl)
theorem ml_X5_76 : Cond.methodLink RX5 76 yX5_pour ∈ tblG := (tg_t (tb3 (List.mem_of_getElem? (i := 138) (by decide +kernel))) rfl)
theorem ml_X5_83 : Cond.methodLink RX5 83 yX5_fasten ∈ tblG := (tg_t (tb3 (List.mem_of_getElem? (i := 152) (by decide +kernel))) rfl)
theorem ml_X5_87 : Cond.methodLink RX5 87 yX7_swingAt ∈ tblG := (tg_t (tb3 (List.mem_of_getElem? (i := 156) (by decide +kernel))) rfl)
theorem ml_X5_91 : Cond.methodLink RX5 91 yX5_run ∈ tblG := (tg_t (tb3 (List.mem_of_getElem? (i := 157) (by decide +kernel))) rfl)
theorem ml_X5_98 : Cond.methodLink RX5 98 yX1_cool ∈ tblG := (tg_t (tb3 (List.mem_of_getElem? (i := 142) (by decide +kernel))) rfl)
theorem ml_X5_104 : Cond.methodLink RX5 104 yX1_heat ∈ tblG := (tg_t (tb3 (List.mem_of_getElem? (i := 151) (by decide +kernel))) rfl)
theorem ml_X5_111 : Cond.methodLink RX5 111 yX5_beside ∈ tblG := (tg_t (tb3 (List.mem_of_getElem? (i := 161) (by decide +kernel))) rfl)
theorem ml_X5_125 : Cond.methodLink RX5 125 yJ9_min_7cf53 ∈ tblG := (tg_t (tb3 (List.mem_of_getElem? (i := 170) (by decide +kernel))) rfl)
theorem ml_X5_131 : Cond.methodLink RX5 131 yJ9_max_7cf53 ∈ tblG := (tg_t (tb3 (List.mem_of_getElem? (i := 171) (by decide +kernel))) rfl)
theorem ml_X6_40 : Cond.methodLink RX6 40 yX6_takeRing ∈ tblG := (tg_t (tb2 (List.mem_of_getElem? (i := 133) (by decide +kernel))) rfl)
theorem ml_X6_43 : Cond.methodLink RX6 43 yX6_takeSticky ∈ tblG := (tg_t (tb2 (List.mem_of_getElem? (i := 137) (by decide +kernel))) rfl)
theorem ml_X6_47 : Cond.methodLink RX6 47 yX6_takeRowEnd ∈ tblG := (tg_t (tb2 (List.mem_of_getElem? (i := 141) (by decide +kernel))) rfl)
theorem ml_X8_18 : Cond.methodLink RX8 18 yJ7_fill_53178 ∈ tblG := (tg_t (tb2 (List.mem_of_getElem? (i := 120) (by decide +kernel))) rfl)
theorem ml_X8_35 : Cond.methodLink RX8 35 yX8_takeDigit ∈ tblG := (tg_t (tb2 (List.mem_of_getElem? (i := 150) (by decide +kernel))) rfl)
theorem ml_X8_40 : Cond.methodLink RX8 40 yJ0_indexOf_0f7a4 ∈ tblG := (tg_t (tb2 (List.mem_of_getElem? (i := 157) (by decide +kernel))) rfl)
theorem ml_X8_46 : Cond.methodLink RX8 46 yX8_takeSwing ∈ tblG := (tg_t (tb3 (List.mem_of_getElem? (i := 3) (by decide +kernel))) rfl)
theorem ml_X8_49 : Cond.methodLink RX8 49 yX8_takeSign ∈ tblG := (tg_t (tb3 (List.mem_of_getElem? (i := 7) (by decide +kernel))) rfl)
theorem ml_X8_57 : Cond.methodLink RX8 57 yJ0_charAt_5068e ∈ tblG := (tg_t (tb3 (List.mem_of_getElem? (i := 12) (by decide +kernel))) rfl)
theorem ml_X10_9 : Cond.methodLink RX10 9 yX10_slowest ∈ tblG := (tg_t (tb4 (List.mem_of_getElem? (i := 92) (by decide +kernel))) rfl)
theorem ml_X10_15 : Cond.methodLink RX10 15 yX10_turnsOver ∈ tblG := (tg_t (tb4 (List.mem_of_getElem? (i := 96) (by decide +kernel))) rfl)
theorem ml_X10_19 : Cond.methodLink RX10 19 yX10_landings ∈ tblG := (tg_t (tb4 (List.mem_of_getElem? (i := 110) (by decide +kernel))) rfl)
theorem ml_X10_23 : Cond.methodLink RX10 23 yJ9_max_7cf53 ∈ tblG := (tg_t (tb4 (List.mem_of_getElem? (i := 95) (by decide +kernel))) rfl)
theorem ml_L_9 : Cond.methodLink RL 9 yX11_init ∈ tblG := (tg_t (tb1 (List.mem_of_getElem? (i := 24) (by decide +kernel))) rfl)
theorem ml_L_12 : Cond.methodLink RL 12 yX12_init ∈ tblG := (tg_t (tb4 (List.mem_of_getElem? (i := 157) (by decide +kernel))) rfl)
theorem ml_L_15 : Cond.methodLink RL 15 yX11_letters ∈ tblG := (tg_t (tb2 (List.mem_of_getElem? (i := 82) (by decide +kernel))) rfl)
theorem ml_L_19 : Cond.methodLink RL 19 yX12_letters ∈ tblG := (tg_t (tb5 (List.mem_of_getElem? (i := 123) (by decide +kernel))) rfl)
theorem ml_L_20 : Cond.methodLink RL 20 yX11_blank ∈ tblG := (tg_t (tb2 (List.mem_of_getElem? (i := 96) (by decide +kernel))) rfl)
theorem ml_L_24 : Cond.methodLink RL 24 yX12_blank ∈ tblG := (tg_t (tb5 (List.mem_of_getElem? (i := 128) (by decide +kernel))) rfl)
theorem ml_L_25 : Cond.methodLink RL 25 yX11_fault ∈ tblG := (tg_t (tb2 (List.mem_of_getElem? (i := 100) (by decide +kernel))) rfl)
theorem ml_L_29 : Cond.methodLink RL 29 yX12_fault ∈ tblG := (tg_t (tb5 (List.mem_of_getElem? (i := 132) (by decide +kernel))) rfl)
theorem ml_L_30 : Cond.methodLink RL 30 yX11_pan ∈ tblG := (tg_t (tb3 (List.mem_of_getElem? (i := 33) (by decide +kernel))) rfl)
theorem ml_L_33 : Cond.methodLink RL 33 yX12_pan ∈ tblG := (tg_t (tb5 (List.mem_of_getElem? (i := 181) (by decide +kernel))) rfl)
theorem ml_L_34 : Cond.methodLink RL 34 yX11_plan ∈ tblG := (tg_t (tb3 (List.mem_of_getElem? (i := 64) (by decide +kernel))) rfl)
theorem ml_L_37 : Cond.methodLink RL 37 yX12_plan ∈ tblG := (tg_t (tb5 (List.mem_of_getElem? (i := 185) (by decide +kernel))) rfl)
theorem ml_L_38 : Cond.methodLink RL 38 yX11_planTold ∈ tblG := (tg_t (tb3 (List.mem_of_getElem? (i := 75) (by decide +kernel))) rfl)
theorem ml_L_42 : Cond.methodLink RL 42 yX12_planTold ∈ tblG := (tg_t (tb5 (List.mem_of_getElem? (i := 189) (by decide +kernel))) rfl)
theorem ml_L_43 : Cond.methodLink RL 43 yX11_cell ∈ tblG := (tg_t (tb3 (List.mem_of_getElem? (i := 92) (by decide +kernel))) rfl)
theorem ml_L_46 : Cond.methodLink RL 46 yX12_cell ∈ tblG := (tg_t (tb5 (List.mem_of_getElem? (i := 201) (by decide +kernel))) rfl)
theorem ml_L_47 : Cond.methodLink RL 47 yX11_warm ∈ tblG := (tg_t (tb3 (List.mem_of_getElem? (i := 100) (by decide +kernel))) rfl)
theorem ml_L_50 : Cond.methodLink RL 50 yX12_warm ∈ tblG := (tg_t (tb5 (List.mem_of_getElem? (i := 217) (by decide +kernel))) rfl)
theorem ml_L_51 : Cond.methodLink RL 51 yX11_fat ∈ tblG := (tg_t (tb3 (List.mem_of_getElem? (i := 113) (by decide +kernel))) rfl)
theorem ml_L_54 : Cond.methodLink RL 54 yX12_fat ∈ tblG := (tg_t (tb5 (List.mem_of_getElem? (i := 236) (by decide +kernel))) rfl)
theorem ml_L_55 : Cond.methodLink RL 55 yX11_scrape ∈ tblG := (tg_t (tb3 (List.mem_of_getElem? (i := 117) (by decide +kernel))) rfl)
theorem ml_L_58 : Cond.methodLink RL 58 yX12_scrape ∈ tblG := (tg_t (tb6 (List.mem_of_getElem? (i := 0) (by decide +kernel))) rfl)
theorem ml_L_59 : Cond.methodLink RL 59 yX11_fry ∈ tblG := (tg_t (tb3 (List.mem_of_getElem? (i := 126) (by decide +kernel))) rfl)
theorem ml_L_62 : Cond.methodLink RL 62 yX12_fry ∈ tblG := (tg_t (tb6 (List.mem_of_getElem? (i := 8) (by decide +kernel))) rfl)
theorem ml_L_63 : Cond.methodLink RL 63 yX11_cake ∈ tblG := (tg_t (tb3 (List.mem_of_getElem? (i := 189) (by decide +kernel))) rfl)
theorem ml_L_66 : Cond.methodLink RL 66 yX12_cake ∈ tblG := (tg_t (tb6 (List.mem_of_getElem? (i := 48) (by decide +kernel))) rfl)
theorem ml_L_67 : Cond.methodLink RL 67 yX11_as ∈ tblG := (tg_t (tb3 (List.mem_of_getElem? (i := 197) (by decide +kernel))) rfl)
theorem ml_L_70 : Cond.methodLink RL 70 yX12_as ∈ tblG := (tg_t (tb6 (List.mem_of_getElem? (i := 56) (by decide +kernel))) rfl)
theorem ml_L_71 : Cond.methodLink RL 71 yX11_thick ∈ tblG := (tg_t (tb3 (List.mem_of_getElem? (i := 207) (by decide +kernel))) rfl)
theorem ml_L_74 : Cond.methodLink RL 74 yX12_thick ∈ tblG := (tg_t (tb6 (List.mem_of_getElem? (i := 60) (by decide +kernel))) rfl)
theorem ml_L_75 : Cond.methodLink RL 75 yX11_tried ∈ tblG := (tg_t (tb3 (List.mem_of_getElem? (i := 211) (by decide +kernel))) rfl)
theorem ml_L_78 : Cond.methodLink RL 78 yX12_tried ∈ tblG := (tg_t (tb6 (List.mem_of_getElem? (i := 64) (by decide +kernel))) rfl)
theorem ml_L_79 : Cond.methodLink RL 79 yX11_from ∈ tblG := (tg_t (tb3 (List.mem_of_getElem? (i := 229) (by decide +kernel))) rfl)
theorem ml_L_82 : Cond.methodLink RL 82 yX12_from ∈ tblG := (tg_t (tb6 (List.mem_of_getElem? (i := 72) (by decide +kernel))) rfl)
theorem ml_L_83 : Cond.methodLink RL 83 yX11_dogs ∈ tblG := (tg_t (tb4 (List.mem_of_getElem? (i := 1) (by decide +kernel))) rfl)
theorem ml_L_86 : Cond.methodLink RL 86 yX12_dogs ∈ tblG := (tg_t (tb6 (List.mem_of_getElem? (i := 80) (by decide +kernel))) rfl)
theorem ml_L_87 : Cond.methodLink RL 87 yX11_why ∈ tblG := (tg_t (tb4 (List.mem_of_getElem? (i := 9) (by decide +kernel))) rfl)
theorem ml_L_90 : Cond.methodLink RL 90 yX12_why ∈ tblG := (tg_t (tb6 (List.mem_of_getElem? (i := 84) (by decide +kernel))) rfl)
theorem ml_L_91 : Cond.methodLink RL 91 yX11_bestFire ∈ tblG := (tg_t (tb4 (List.mem_of_getElem? (i := 24) (by decide +kernel))) rfl)
theorem ml_L_95 : Cond.methodLink RL 95 yX12_bestFire ∈ tblG := (tg_t (tb6 (List.mem_of_getElem? (i := 92) (by decide +kernel))) rfl)
theorem ml_L_96 : Cond.methodLink RL 96 yX11_bestSwing ∈ tblG := (tg_t (tb4 (List.mem_of_getElem? (i := 40) (by decide +kernel))) rfl)
theorem ml_L_99 : Cond.methodLink RL 99 yX12_bestSwing ∈ tblG := (tg_t (tb6 (List.mem_of_getElem? (i := 96) (by decide +kernel))) rfl)
theorem ml_L_100 : Cond.methodLink RL 100 yX11_nextTwo ∈ tblG := (tg_t (tb4 (List.mem_of_getElem? (i := 56) (by decide +kernel))) rfl)
theorem ml_L_103 : Cond.methodLink RL 103 yX12_nextTwo ∈ tblG := (tg_t (tb6 (List.mem_of_getElem? (i := 100) (by decide +kernel))) rfl)
theorem ml_L_104 : Cond.methodLink RL 104 yX11_rounds ∈ tblG := (tg_t (tb4 (List.mem_of_getElem? (i := 64) (by decide +kernel))) rfl)
theorem ml_L_108 : Cond.methodLink RL 108 yX12_rounds ∈ tblG := (tg_t (tb6 (List.mem_of_getElem? (i := 104) (by decide +kernel))) rfl)
theorem ml_L_109 : Cond.methodLink RL 109 yX11_toss ∈ tblG := (tg_t (tb4 (List.mem_of_getElem? (i := 78) (by decide +kernel))) rfl)
theorem ml_L_112 : Cond.methodLink RL 112 yX12_toss ∈ tblG := (tg_t (tb6 (List.mem_of_getElem? (i := 112) (by decide +kernel))) rfl)
theorem ml_L_113 : Cond.methodLink RL 113 yX11_lands ∈ tblG := (tg_t (tb4 (List.mem_of_getElem? (i := 85) (by decide +kernel))) rfl)
theorem ml_L_117 : Cond.methodLink RL 117 yX12_lands ∈ tblG := (tg_t (tb6 (List.mem_of_getElem? (i := 122) (by decide +kernel))) rfl)
theorem ml_L_118 : Cond.methodLink RL 118 yX11_bestSpin ∈ tblG := (tg_t (tb4 (List.mem_of_getElem? (i := 103) (by decide +kernel))) rfl)
theorem ml_L_121 : Cond.methodLink RL 121 yX12_bestSpin ∈ tblG := (tg_t (tb6 (List.mem_of_getElem? (i := 135) (by decide +kernel))) rfl)
theorem ml_L_122 : Cond.methodLink RL 122 yX11_image ∈ tblG := (tg_t (tb4 (List.mem_of_getElem? (i := 111) (by decide +kernel))) rfl)
theorem ml_L_125 : Cond.methodLink RL 125 yX12_image ∈ tblG := (tg_t (tb6 (List.mem_of_getElem? (i := 139) (by decide +kernel))) rfl)
theorem ml_L_126 : Cond.methodLink RL 126 yX11_restore ∈ tblG := (tg_t (tb4 (List.mem_of_getElem? (i := 116) (by decide +kernel))) rfl)
theorem ml_L_129 : Cond.methodLink RL 129 yX12_restore ∈ tblG := (tg_t (tb6 (List.mem_of_getElem? (i := 143) (by decide +kernel))) rfl)
theorem ml_L_130 : Cond.methodLink RL 130 yX11_count ∈ tblG := (tg_t (tb4 (List.mem_of_getElem? (i := 120) (by decide +kernel))) rfl)
theorem ml_L_133 : Cond.methodLink RL 133 yX12_count ∈ tblG := (tg_t (tb6 (List.mem_of_getElem? (i := 147) (by decide +kernel))) rfl)
theorem ml_L_134 : Cond.methodLink RL 134 yX11_digest ∈ tblG := (tg_t (tb4 (List.mem_of_getElem? (i := 128) (by decide +kernel))) rfl)
theorem ml_L_138 : Cond.methodLink RL 138 yX12_digest ∈ tblG := (tg_t (tb6 (List.mem_of_getElem? (i := 159) (by decide +kernel))) rfl)
theorem ml_X12_102 : Cond.methodLink RX12 102 yX12_within ∈ tblG := (tg_t (tb5 (List.mem_of_getElem? (i := 136) (by decide +kernel))) rfl)
theorem ml_X12_115 : Cond.methodLink RX12 115 yX12_isDigit ∈ tblG := (tg_t (tb5 (List.mem_of_getElem? (i := 147) (by decide +kernel))) rfl)
theorem ml_X12_123 : Cond.methodLink RX12 123 yX12_takePan ∈ tblG := (tg_t (tb5 (List.mem_of_getElem? (i := 143) (by decide +kernel))) rfl)
theorem ml_X12_141 : Cond.methodLink RX12 141 yX12_setNumber ∈ tblG := (tg_t (tb5 (List.mem_of_getElem? (i := 162) (by decide +kernel))) rfl)
theorem ml_X12_145 : Cond.methodLink RX12 145 yX12_number ∈ tblG := (tg_t (tb5 (List.mem_of_getElem? (i := 170) (by decide +kernel))) rfl)
theorem ml_X12_152 : Cond.methodLink RX12 152 yX12_beginNumber ∈ tblG := (tg_t (tb5 (List.mem_of_getElem? (i := 158) (by decide +kernel))) rfl)
theorem ml_X12_156 : Cond.methodLink RX12 156 yX12_goOnNumber ∈ tblG := (tg_t (tb5 (List.mem_of_getElem? (i := 166) (by decide +kernel))) rfl)
theorem ml_X12_159 : Cond.methodLink RX12 159 yX12_afterAmount ∈ tblG := (tg_t (tb5 (List.mem_of_getElem? (i := 174) (by decide +kernel))) rfl)
theorem ml_X12_162 : Cond.methodLink RX12 162 yX12_swingBy ∈ tblG := (tg_t (tb5 (List.mem_of_getElem? (i := 178) (by decide +kernel))) rfl)
theorem ml_X12_168 : Cond.methodLink RX12 168 yX12_nextPlan ∈ tblG := (tg_t (tb5 (List.mem_of_getElem? (i := 154) (by decide +kernel))) rfl)
theorem ml_X12_172 : Cond.methodLink RX12 172 yX12_readPan ∈ tblG := (tg_t (tb5 (List.mem_of_getElem? (i := 139) (by decide +kernel))) rfl)
theorem ml_X12_175 : Cond.methodLink RX12 175 yX12_readPlan ∈ tblG := (tg_t (tb5 (List.mem_of_getElem? (i := 150) (by decide +kernel))) rfl)
theorem ml_X12_196 : Cond.methodLink RX12 196 yX12_isPlan ∈ tblG := (tg_t (tb5 (List.mem_of_getElem? (i := 193) (by decide +kernel))) rfl)
theorem ml_X12_199 : Cond.methodLink RX12 199 yX12_planNow ∈ tblG := (tg_t (tb5 (List.mem_of_getElem? (i := 197) (by decide +kernel))) rfl)
theorem ml_X12_202 : Cond.methodLink RX12 202 yX12_cells ∈ tblG := (tg_t (tb5 (List.mem_of_getElem? (i := 209) (by decide +kernel))) rfl)
theorem ml_X12_206 : Cond.methodLink RX12 206 yX12_isCell ∈ tblG := (tg_t (tb5 (List.mem_of_getElem? (i := 205) (by decide +kernel))) rfl)
theorem ml_X12_209 : Cond.methodLink RX12 209 yX12_cellNow ∈ tblG := (tg_t (tb5 (List.mem_of_getElem? (i := 213) (by decide +kernel))) rfl)
theorem ml_X12_230 : Cond.methodLink RX12 230 yX12_atLeast ∈ tblG := (tg_t (tb5 (List.mem_of_getElem? (i := 229) (by decide +kernel))) rfl)
theorem ml_X12_233 : Cond.methodLink RX12 233 yX12_goTick ∈ tblG := (tg_t (tb5 (List.mem_of_getElem? (i := 225) (by decide +kernel))) rfl)
theorem ml_X12_236 : Cond.methodLink RX12 236 yX12_beside ∈ tblG := (tg_t (tb6 (List.mem_of_getElem? (i := 28) (by decide +kernel))) rfl)
theorem ml_X12_258 : Cond.methodLink RX12 258 yX12_worthOf ∈ tblG := (tg_t (tb6 (List.mem_of_getElem? (i := 41) (by decide +kernel))) rfl)
theorem ml_X12_264 : Cond.methodLink RX12 264 yX12_goSwing ∈ tblG := (tg_t (tb6 (List.mem_of_getElem? (i := 24) (by decide +kernel))) rfl)
theorem ml_X12_268 : Cond.methodLink RX12 268 yX12_takeOut ∈ tblG := (tg_t (tb6 (List.mem_of_getElem? (i := 32) (by decide +kernel))) rfl)
theorem ml_X12_271 : Cond.methodLink RX12 271 yX12_judge ∈ tblG := (tg_t (tb6 (List.mem_of_getElem? (i := 36) (by decide +kernel))) rfl)
theorem ml_X12_274 : Cond.methodLink RX12 274 yX12_loadPan ∈ tblG := (tg_t (tb5 (List.mem_of_getElem? (i := 221) (by decide +kernel))) rfl)
theorem ml_X12_277 : Cond.methodLink RX12 277 yX12_putPan ∈ tblG := (tg_t (tb5 (List.mem_of_getElem? (i := 232) (by decide +kernel))) rfl)
theorem ml_X12_280 : Cond.methodLink RX12 280 yX12_bitsAll ∈ tblG := (tg_t (tb6 (List.mem_of_getElem? (i := 4) (by decide +kernel))) rfl)
theorem ml_X12_283 : Cond.methodLink RX12 283 yX12_bars ∈ tblG := (tg_t (tb6 (List.mem_of_getElem? (i := 12) (by decide +kernel))) rfl)
theorem ml_X12_286 : Cond.methodLink RX12 286 yX12_loadPlan ∈ tblG := (tg_t (tb6 (List.mem_of_getElem? (i := 16) (by decide +kernel))) rfl)
theorem ml_X12_289 : Cond.methodLink RX12 289 yX12_goCake ∈ tblG := (tg_t (tb6 (List.mem_of_getElem? (i := 20) (by decide +kernel))) rfl)
theorem ml_X12_292 : Cond.methodLink RX12 292 yX12_triedNow ∈ tblG := (tg_t (tb6 (List.mem_of_getElem? (i := 44) (by decide +kernel))) rfl)
theorem ml_X12_295 : Cond.methodLink RX12 295 yX12_isCake ∈ tblG := (tg_t (tb6 (List.mem_of_getElem? (i := 52) (by decide +kernel))) rfl)
theorem ml_X12_298 : Cond.methodLink RX12 298 yX12_layNext ∈ tblG := (tg_t (tb6 (List.mem_of_getElem? (i := 68) (by decide +kernel))) rfl)
theorem ml_X12_307 : Cond.methodLink RX12 307 yX12_layTwelve ∈ tblG := (tg_t (tb6 (List.mem_of_getElem? (i := 76) (by decide +kernel))) rfl)
theorem ml_X12_310 : Cond.methodLink RX12 310 yX12_isRightBy ∈ tblG := (tg_t (tb6 (List.mem_of_getElem? (i := 88) (by decide +kernel))) rfl)
theorem ml_X12_316 : Cond.methodLink RX12 316 yX12_longest ∈ tblG := (tg_t (tb6 (List.mem_of_getElem? (i := 108) (by decide +kernel))) rfl)
theorem ml_X12_319 : Cond.methodLink RX12 319 yX12_isToss ∈ tblG := (tg_t (tb6 (List.mem_of_getElem? (i := 116) (by decide +kernel))) rfl)
theorem ml_X12_322 : Cond.methodLink RX12 322 yX12_landing ∈ tblG := (tg_t (tb6 (List.mem_of_getElem? (i := 119) (by decide +kernel))) rfl)
theorem ml_X12_325 : Cond.methodLink RX12 325 yX12_slowest ∈ tblG := (tg_t (tb6 (List.mem_of_getElem? (i := 129) (by decide +kernel))) rfl)
theorem ml_X12_328 : Cond.methodLink RX12 328 yX12_landings ∈ tblG := (tg_t (tb6 (List.mem_of_getElem? (i := 126) (by decide +kernel))) rfl)
theorem ml_X12_332 : Cond.methodLink RX12 332 yX12_lowest ∈ tblG := (tg_t (tb6 (List.mem_of_getElem? (i := 132) (by decide +kernel))) rfl)
theorem ml_X12_347 : Cond.methodLink RX12 347 yX12_worthAll ∈ tblG := (tg_t (tb6 (List.mem_of_getElem? (i := 155) (by decide +kernel))) rfl)
theorem ml_X12_350 : Cond.methodLink RX12 350 yX12_howMany ∈ tblG := (tg_t (tb6 (List.mem_of_getElem? (i := 151) (by decide +kernel))) rfl)
theorem ml_X12_359 : Cond.methodLink RX12 359 yX12_mix ∈ tblG := (tg_t (tb6 (List.mem_of_getElem? (i := 164) (by decide +kernel))) rfl)
theorem ml_X12_365 : Cond.methodLink RX12 365 yX12_mixCake ∈ tblG := (tg_t (tb6 (List.mem_of_getElem? (i := 169) (by decide +kernel))) rfl)
theorem ml_J0_335 : Cond.methodLink RJ0 335 yJ0_coder_7d493 ∈ tblG := (tg_t (tb2 (List.mem_of_getElem? (i := 175) (by decide +kernel))) rfl)
theorem ml_J0_492 : Cond.methodLink RJ0 492 yJ0_isLatin1_aae02 ∈ tblG := (tg_t (tb2 (List.mem_of_getElem? (i := 165) (by decide +kernel))) rfl)
theorem ml_J0_495 : Cond.methodLink RJ0 495 yJ1_charAt_3b067 ∈ tblG := (tg_t (tb3 (List.mem_of_getElem? (i := 16) (by decide +kernel))) rfl)
theorem ml_J0_498 : Cond.methodLink RJ0 498 yJ2_charAt_3b067 ∈ tblG := (tg_t (tb3 (List.mem_of_getElem? (i := 25) (by decide +kernel))) rfl)
theorem ml_J0_505 : Cond.methodLink RJ0 505 yJ0_length_8abf5 ∈ tblG := (tg_t (tb2 (List.mem_of_getElem? (i := 171) (by decide +kernel))) rfl)
theorem ml_J0_633 : Cond.methodLink RJ0 633 yJ0_indexOf_7cf53 ∈ tblG := (tg_t (tb2 (List.mem_of_getElem? (i := 161) (by decide +kernel))) rfl)
theorem ml_J0_637 : Cond.methodLink RJ0 637 yJ1_indexOf_4cfef ∈ tblG := (tg_t (tb2 (List.mem_of_getElem? (i := 179) (by decide +kernel))) rfl)
theorem ml_J0_640 : Cond.methodLink RJ0 640 yJ2_indexOf_4cfef ∈ tblG := (tg_t (tb2 (List.mem_of_getElem? (i := 194) (by decide +kernel))) rfl)
theorem ml_J0_1059 : Cond.methodLink RJ0 1059 yJ3_checkIndex_8e157 ∈ tblG := (tg_t (tb3 (List.mem_of_getElem? (i := 22) (by decide +kernel))) rfl)
theorem ml_J0_1062 : Cond.methodLink RJ0 1062 yJ3_checkFromToIndex_8c36e ∈ tblG := (tg_t (tb2 (List.mem_of_getElem? (i := 214) (by decide +kernel))) rfl)
theorem ml_J1_9 : Cond.methodLink RJ1 9 yJ0_checkIndex_df160 ∈ tblG := (tg_t (tb3 (List.mem_of_getElem? (i := 19) (by decide +kernel))) rfl)
theorem ml_J1_38 : Cond.methodLink RJ1 38 yJ9_min_7cf53 ∈ tblG := (tg_t (tb2 (List.mem_of_getElem? (i := 188) (by decide +kernel))) rfl)
theorem ml_J1_88 : Cond.methodLink RJ1 88 yJ1_canEncode_9a6ad ∈ tblG := (tg_t (tb2 (List.mem_of_getElem? (i := 182) (by decide +kernel))) rfl)
theorem ml_J1_92 : Cond.methodLink RJ1 92 yJ9_max_7cf53 ∈ tblG := (tg_t (tb2 (List.mem_of_getElem? (i := 185) (by decide +kernel))) rfl)
theorem ml_J1_95 : Cond.methodLink RJ1 95 yJ1_indexOfChar_4cfef ∈ tblG := (tg_t (tb2 (List.mem_of_getElem? (i := 191) (by decide +kernel))) rfl)
theorem ml_J2_48 : Cond.methodLink RJ2 48 yJ2_length_9d52b ∈ tblG := (tg_t (tb2 (List.mem_of_getElem? (i := 206) (by decide +kernel))) rfl)
theorem ml_J2_67 : Cond.methodLink RJ2 67 yJ2_checkIndex_2214a ∈ tblG := (tg_t (tb3 (List.mem_of_getElem? (i := 28) (by decide +kernel))) rfl)
theorem ml_J2_71 : Cond.methodLink RJ2 71 yJ2_getChar_3b067 ∈ tblG := (tg_t (tb2 (List.mem_of_getElem? (i := 220) (by decide +kernel))) rfl)
theorem ml_J2_96 : Cond.methodLink RJ2 96 yJ2_checkBoundsBeginEnd_d044e ∈ tblG := (tg_t (tb2 (List.mem_of_getElem? (i := 203) (by decide +kernel))) rfl)
theorem ml_J2_157 : Cond.methodLink RJ2 157 yJ11_highSurrogate_5068e ∈ tblG := (tg_t (tb2 (List.mem_of_getElem? (i := 235) (by decide +kernel))) rfl)
theorem ml_J2_161 : Cond.methodLink RJ2 161 yJ11_lowSurrogate_5068e ∈ tblG := (tg_t (tb2 (List.mem_of_getElem? (i := 239) (by decide +kernel))) rfl)
theorem ml_J2_164 : Cond.methodLink RJ2 164 yJ11_isValidCodePoint_9a6ad ∈ tblG := (tg_t (tb2 (List.mem_of_getElem? (i := 232) (by decide +kernel))) rfl)
theorem ml_J2_183 : Cond.methodLink RJ2 183 yJ9_min_7cf53 ∈ tblG := (tg_t (tb2 (List.mem_of_getElem? (i := 198) (by decide +kernel))) rfl)
theorem ml_J2_224 : Cond.methodLink RJ2 224 yJ9_max_7cf53 ∈ tblG := (tg_t (tb2 (List.mem_of_getElem? (i := 197) (by decide +kernel))) rfl)
theorem ml_J2_228 : Cond.methodLink RJ2 228 yJ2_indexOfChar_4cfef ∈ tblG := (tg_t (tb2 (List.mem_of_getElem? (i := 200) (by decide +kernel))) rfl)
theorem ml_J2_232 : Cond.methodLink RJ2 232 yJ2_indexOfSupplementary_4cfef ∈ tblG := (tg_t (tb2 (List.mem_of_getElem? (i := 229) (by decide +kernel))) rfl)
theorem ml_J2_241 : Cond.methodLink RJ2 241 yJ0_checkBoundsBeginEnd_23922 ∈ tblG := (tg_t (tb2 (List.mem_of_getElem? (i := 209) (by decide +kernel))) rfl)
theorem ml_J2_244 : Cond.methodLink RJ2 244 yJ2_indexOfCharUnsafe_4cfef ∈ tblG := (tg_t (tb2 (List.mem_of_getElem? (i := 217) (by decide +kernel))) rfl)
theorem ml_J2_414 : Cond.methodLink RJ2 414 yJ0_checkIndex_df160 ∈ tblG := (tg_t (tb3 (List.mem_of_getElem? (i := 31) (by decide +kernel))) rfl)
theorem mn_X11_9 : Cond.methodLinkNest RX11 9 yX4_init "FirstPancake" ∈ lw_tbl := List.mem_append_right _ (tb1 (List.mem_of_getElem? (i := 32) (by decide +kernel)))
theorem mn_X11_18 : Cond.methodLinkNest RX11 18 yX6_init "FirstPancake" ∈ lw_tbl := List.mem_append_right _ (tb1 (List.mem_of_getElem? (i := 48) (by decide +kernel)))
theorem mn_X11_25 : Cond.methodLinkNest RX11 25 yX8_init "FirstPancake" ∈ lw_tbl := List.mem_append_right _ (tb1 (List.mem_of_getElem? (i := 85) (by decide +kernel)))
theorem mn_X11_32 : Cond.methodLinkNest RX11 32 yX5_init "FirstPancake" ∈ lw_tbl := List.mem_append_right _ (tb1 (List.mem_of_getElem? (i := 107) (by decide +kernel)))
theorem mn_X11_48 : Cond.methodLinkNest RX11 48 yX1_init "FirstPancake" ∈ lw_tbl := List.mem_append_right _ (tb2 (List.mem_of_getElem? (i := 5) (by decide +kernel)))
theorem mn_X11_70 : Cond.methodLinkNest RX11 70 yX3_init "FirstPancake" ∈ lw_tbl := List.mem_append_right _ (tb2 (List.mem_of_getElem? (i := 12) (by decide +kernel)))
theorem mn_X11_75 : Cond.methodLinkNest RX11 75 yX7_init "FirstPancake" ∈ lw_tbl := List.mem_append_right _ (tb2 (List.mem_of_getElem? (i := 31) (by decide +kernel)))
theorem mn_X11_76 : Cond.methodLinkNest RX11 76 yX0_init "FirstPancake" ∈ lw_tbl := List.mem_append_right _ (tb2 (List.mem_of_getElem? (i := 32) (by decide +kernel)))
theorem mn_X2_11 : Cond.methodLinkNest RX2 11 yX1_init "FirstPancake" ∈ lw_tbl := List.mem_append_right _ (tb1 (List.mem_of_getElem? (i := 144) (by decide +kernel)))
theorem mn_X2_23 : Cond.methodLinkNest RX2 23 yX0_init "FirstPancake" ∈ lw_tbl := List.mem_append_right _ (tb1 (List.mem_of_getElem? (i := 167) (by decide +kernel)))
theorem mn_X2_30 : Cond.methodLinkNest RX2 30 yX7_init "FirstPancake" ∈ lw_tbl := List.mem_append_right _ (tb1 (List.mem_of_getElem? (i := 184) (by decide +kernel)))
theorem mn_X5_115 : Cond.methodLinkNest RX5 115 yX11_within "FirstPancake" ∈ lw_tbl := List.mem_append_right _ (tb3 (List.mem_of_getElem? (i := 165) (by decide +kernel)))
theorem mn_X6_3 : Cond.methodLinkNest RX6 3 yX9_init "FirstPancake" ∈ lw_tbl := List.mem_append_right _ (tb1 (List.mem_of_getElem? (i := 51) (by decide +kernel)))
theorem mn_X7_44 : Cond.methodLinkNest RX7 44 yX11_within "FirstPancake" ∈ lw_tbl := List.mem_append_right _ (tb3 (List.mem_of_getElem? (i := 87) (by decide +kernel)))
theorem mn_X8_3 : Cond.methodLinkNest RX8 3 yX9_init "FirstPancake" ∈ lw_tbl := List.mem_append_right _ (tb1 (List.mem_of_getElem? (i := 88) (by decide +kernel)))
theorem dc_begin : Cond.declares ⟨"FirstPancake$Text", "begin", "()V"⟩ ∈ lw_tbl := List.mem_append_right _ (tb2 (List.mem_of_getElem? (i := 112) (by decide +kernel)))
theorem dc_take : Cond.declares ⟨"FirstPancake$Text", "take", "(I)Z"⟩ ∈ lw_tbl := List.mem_append_right _ (tb2 (List.mem_of_getElem? (i := 124) (by decide +kernel)))
theorem kc_J2_227 : Cond.constant RJ2 227 (65536) ∈ tblG := (tg_t (tb2 (List.mem_of_getElem? (i := 199) (by decide +kernel))) rfl)
theorem kc_J11_110 : Cond.constant RJ11 110 (55232) ∈ tblG := (tg_t (tb2 (List.mem_of_getElem? (i := 238) (by decide +kernel))) rfl)
theorem kc_J11_76 : Cond.constant RJ11 76 (56320) ∈ tblG := (tg_t (tb3 (List.mem_of_getElem? (i := 2) (by decide +kernel))) rfl)
theorem dc_whole : Cond.declares ⟨"FirstPancake$Text", "whole", "()Z"⟩ ∈ lw_tbl := List.mem_append_right _ (tb3 (List.mem_of_getElem? (i := 43) (by decide +kernel)))
theorem kc_X0_23 : Cond.constant RX0 23 (2147483647) ∈ tblG := (tg_t (tb3 (List.mem_of_getElem? (i := 180) (by decide +kernel))) rfl)
theorem fn_X0_40 : Cond.fieldLinkNest RX0 40 "FirstPancake" "WORTHS" "[I" "FirstPancake" ∈ lw_tbl := List.mem_append_right _ (tb3 (List.mem_of_getElem? (i := 187) (by decide +kernel)))
theorem fn_X0_18 : Cond.fieldLinkNest RX0 18 "FirstPancake" "ABOVE" "[I" "FirstPancake" ∈ lw_tbl := List.mem_append_right _ (tb3 (List.mem_of_getElem? (i := 205) (by decide +kernel)))
theorem kc_X2_102 : Cond.constant RX2 102 (2147483647) ∈ tblG := (tg_t (tb4 (List.mem_of_getElem? (i := 49) (by decide +kernel))) rfl)
theorem kc_X11_272 : Cond.constantLong RX11 272 (499) ∈ tblG := (tg_t (tb4 (List.mem_of_getElem? (i := 132) (by decide +kernel))) rfl)
theorem kc_X11_303 : Cond.constantLong RX11 303 (31) ∈ tblG := (tg_t (tb4 (List.mem_of_getElem? (i := 141) (by decide +kernel))) rfl)
theorem kc_X12_96 : Cond.constantLong RX12 96 (255) ∈ tblG := (tg_t (tb5 (List.mem_of_getElem? (i := 127) (by decide +kernel))) rfl)
theorem kc_X12_242 : Cond.constant RX12 242 (268435456) ∈ tblG := (tg_t (tb6 (List.mem_of_getElem? (i := 40) (by decide +kernel))) rfl)
theorem kc_X12_363 : Cond.constantLong RX12 363 (499) ∈ tblG := (tg_t (tb6 (List.mem_of_getElem? (i := 163) (by decide +kernel))) rfl)
theorem kc_X12_353 : Cond.constantLong RX12 353 (31) ∈ tblG := (tg_t (tb6 (List.mem_of_getElem? (i := 168) (by decide +kernel))) rfl)
theorem kc_L_13 : Cond.constantLong RL 13 (4294967295) ∈ tblG := (tg_t (tb6 (List.mem_of_getElem? (i := 173) (by decide +kernel))) rfl)
theorem sl_X8_52 : Cond.fieldLink RX8 52 "FirstPancake$PlanText" "MOST" "[I" ∈ tblG := (tg_t (tb2 (List.mem_of_getElem? (i := 154) (by decide +kernel))) rfl)
theorem sl_J0_9 : Cond.fieldLink RJ0 9 "java/lang/String" "value" "[B" ∈ tblG := (tg_t (tb6 (List.mem_of_getElem? (i := 175) (by decide +kernel))) rfl)
theorem sl_J0_15 : Cond.fieldLink RJ0 15 "java/lang/String" "coder" "B" ∈ tblG := (tg_t (tb6 (List.mem_of_getElem? (i := 174) (by decide +kernel))) rfl)
theorem sl_J0_38 : Cond.fieldLink RJ0 38 "java/lang/String" "COMPACT_STRINGS" "Z" ∈ tblG := (tg_t (tb2 (List.mem_of_getElem? (i := 169) (by decide +kernel))) rfl)
theorem sl_J0_1053 : Cond.fieldLink RJ0 1053 "jdk/internal/util/Preconditions" "SIOOBE_FORMATTER" "Ljava/util/function/BiFunction;" ∈ tblG := (tg_t (tb2 (List.mem_of_getElem? (i := 212) (by decide +kernel))) rfl)
theorem mmax_s : Cond.static Lib.Math.max.name ∈ tblG := (tg_t (tb2 (List.mem_of_getElem? (i := 186) (by decide +kernel))) rfl)
theorem mmax_c : Cond.code Lib.Math.max.name Lib.Math.max.code 2 (some .int) ∈ tblG := (tg_t (tb2 (List.mem_of_getElem? (i := 187) (by decide +kernel))) rfl)
theorem mmax_X11_163 : Cond.methodLink RX11 163 Lib.Math.max.name ∈ tblG := (tg_t (tb3 (List.mem_of_getElem? (i := 112) (by decide +kernel))) rfl)
theorem mmax_X0_30 : Cond.methodLink RX0 30 Lib.Math.max.name ∈ tblG := (tg_t (tb3 (List.mem_of_getElem? (i := 182) (by decide +kernel))) rfl)
theorem mmax_X1_41 : Cond.methodLink RX1 41 Lib.Math.max.name ∈ tblG := (tg_t (tb3 (List.mem_of_getElem? (i := 146) (by decide +kernel))) rfl)
theorem mmax_X3_35 : Cond.methodLink RX3 35 Lib.Math.max.name ∈ tblG := (tg_t (tb4 (List.mem_of_getElem? (i := 77) (by decide +kernel))) rfl)
theorem mmax_X5_131 : Cond.methodLink RX5 131 Lib.Math.max.name ∈ tblG := (tg_t (tb3 (List.mem_of_getElem? (i := 171) (by decide +kernel))) rfl)
theorem mmax_X10_23 : Cond.methodLink RX10 23 Lib.Math.max.name ∈ tblG := (tg_t (tb4 (List.mem_of_getElem? (i := 95) (by decide +kernel))) rfl)
theorem mmax_J1_92 : Cond.methodLink RJ1 92 Lib.Math.max.name ∈ tblG := (tg_t (tb2 (List.mem_of_getElem? (i := 185) (by decide +kernel))) rfl)
theorem mmax_J2_224 : Cond.methodLink RJ2 224 Lib.Math.max.name ∈ tblG := (tg_t (tb2 (List.mem_of_getElem? (i := 197) (by decide +kernel))) rfl)
theorem mmin_s : Cond.static Lib.Math.min.name ∈ tblG := (tg_t (tb2 (List.mem_of_getElem? (i := 189) (by decide +kernel))) rfl)
theorem mmin_c : Cond.code Lib.Math.min.name Lib.Math.min.code 2 (some .int) ∈ tblG := (tg_t (tb2 (List.mem_of_getElem? (i := 190) (by decide +kernel))) rfl)
theorem mmin_X0_24 : Cond.methodLink RX0 24 Lib.Math.min.name ∈ tblG := (tg_t (tb3 (List.mem_of_getElem? (i := 181) (by decide +kernel))) rfl)
theorem mmin_X2_91 : Cond.methodLink RX2 91 Lib.Math.min.name ∈ tblG := (tg_t (tb4 (List.mem_of_getElem? (i := 48) (by decide +kernel))) rfl)
theorem mmin_X5_125 : Cond.methodLink RX5 125 Lib.Math.min.name ∈ tblG := (tg_t (tb3 (List.mem_of_getElem? (i := 170) (by decide +kernel))) rfl)
theorem mmin_J1_38 : Cond.methodLink RJ1 38 Lib.Math.min.name ∈ tblG := (tg_t (tb2 (List.mem_of_getElem? (i := 188) (by decide +kernel))) rfl)
theorem mmin_J2_183 : Cond.methodLink RJ2 183 Lib.Math.min.name ∈ tblG := (tg_t (tb2 (List.mem_of_getElem? (i := 198) (by decide +kernel))) rfl)
theorem in_Math : Cond.initialized "java/lang/Math" ∈ tblG := (tg_t (tb1 (List.mem_of_getElem? (i := 16) (by decide +kernel))) rfl)
theorem in_Sys : Cond.initialized "java/lang/System" ∈ tblG := (tg_t (tb1 (List.mem_of_getElem? (i := 20) (by decide +kernel))) rfl)
theorem ac_n : Cond.native arraycopyName ∈ tblG := (tg_t (tb3 (List.mem_of_getElem? (i := 74) (by decide +kernel))) rfl)
theorem ac_s : Cond.static arraycopyName ∈ tblG := (tg_t (tb3 (List.mem_of_getElem? (i := 73) (by decide +kernel))) rfl)
theorem ac_X1_35 : Cond.methodLink RX1 35 arraycopyName ∈ tblG := (tg_t (tb3 (List.mem_of_getElem? (i := 227) (by decide +kernel))) rfl)
theorem ac_X7_38 : Cond.methodLink RX7 38 arraycopyName ∈ tblG := (tg_t (tb3 (List.mem_of_getElem? (i := 72) (by decide +kernel))) rfl)
theorem sa_Text_begin : Cond.sameMethod "FirstPancake$Text" "FirstPancake$Text" "begin" "()V" ∈ tblG := (tg_t (tb2 (List.mem_of_getElem? (i := 113) (by decide +kernel))) rfl)
theorem se_X6_begin : Cond.selects RX6 ⟨"FirstPancake$Text", "begin", "()V"⟩ yX6_begin ∈ tblG := (tg_t (tb2 (List.mem_of_getElem? (i := 114) (by decide +kernel))) rfl)
theorem se_X8_begin : Cond.selects RX8 ⟨"FirstPancake$Text", "begin", "()V"⟩ yX8_begin ∈ tblG := (tg_t (tb2 (List.mem_of_getElem? (i := 117) (by decide +kernel))) rfl)
theorem sa_Text_take : Cond.sameMethod "FirstPancake$Text" "FirstPancake$Text" "take" "(I)Z" ∈ tblG := (tg_t (tb2 (List.mem_of_getElem? (i := 125) (by decide +kernel))) rfl)
theorem se_X6_take : Cond.selects RX6 ⟨"FirstPancake$Text", "take", "(I)Z"⟩ yX6_take ∈ tblG := (tg_t (tb2 (List.mem_of_getElem? (i := 126) (by decide +kernel))) rfl)
theorem sa_PanText_isDigit : Cond.sameMethod "FirstPancake$PanText" "FirstPancake$Text" "isDigit" "(I)Z" ∈ tblG := (tg_t (tb2 (List.mem_of_getElem? (i := 130) (by decide +kernel))) rfl)
theorem se_X8_take : Cond.selects RX8 ⟨"FirstPancake$Text", "take", "(I)Z"⟩ yX8_take ∈ tblG := (tg_t (tb2 (List.mem_of_getElem? (i := 145) (by decide +kernel))) rfl)
theorem sa_PlanText_isDigit : Cond.sameMethod "FirstPancake$PlanText" "FirstPancake$Text" "isDigit" "(I)Z" ∈ tblG := (tg_t (tb2 (List.mem_of_getElem? (i := 149) (by decide +kernel))) rfl)
theorem sa_Text_whole : Cond.sameMethod "FirstPancake$Text" "FirstPancake$Text" "whole" "()Z" ∈ tblG := (tg_t (tb3 (List.mem_of_getElem? (i := 44) (by decide +kernel))) rfl)
theorem se_X6_whole : Cond.selects RX6 ⟨"FirstPancake$Text", "whole", "()Z"⟩ yX6_whole ∈ tblG := (tg_t (tb3 (List.mem_of_getElem? (i := 45) (by decide +kernel))) rfl)
theorem se_X8_whole : Cond.selects RX8 ⟨"FirstPancake$Text", "whole", "()Z"⟩ yX8_whole ∈ tblG := (tg_t (tb3 (List.mem_of_getElem? (i := 48) (by decide +kernel))) rfl)
theorem ml_X4_23 : Cond.methodLink RX4 23 ⟨"FirstPancake$Text", "begin", "()V"⟩ ∈ tblG := (tg_t (tb2 (List.mem_of_getElem? (i := 111) (by decide +kernel))) rfl)
theorem ml_X4_28 : Cond.methodLink RX4 28 ⟨"FirstPancake$Text", "take", "(I)Z"⟩ ∈ tblG := (tg_t (tb2 (List.mem_of_getElem? (i := 123) (by decide +kernel))) rfl)
theorem ml_X4_36 : Cond.methodLink RX4 36 ⟨"FirstPancake$Text", "whole", "()Z"⟩ ∈ tblG := (tg_t (tb3 (List.mem_of_getElem? (i := 42) (by decide +kernel))) rfl)
theorem ml_X6_36 : Cond.methodLink RX6 36 ⟨"FirstPancake$PanText", "isDigit", "(I)Z"⟩ ∈ tblG := (tg_t (tb2 (List.mem_of_getElem? (i := 129) (by decide +kernel))) rfl)
theorem ml_X8_31 : Cond.methodLink RX8 31 ⟨"FirstPancake$PlanText", "isDigit", "(I)Z"⟩ ∈ tblG := (tg_t (tb2 (List.mem_of_getElem? (i := 148) (by decide +kernel))) rfl)
theorem fs_1_2 (E : gE) (k : Nat) (f : Nat → Int32) (v : Int32) : (flds E 1 k f).set 2 (.int v) = flds E 1 k (upd f 2 v) := rfl
theorem fn_1_2 (E : gE) (k : Nat) (f : Nat → Int32) : 2 < (flds E 1 k f).length := Nat.le_of_ble_eq_true rfl
theorem fs_2_5 (E : gE) (k : Nat) (f : Nat → Int32) (v : Int32) : (flds E 2 k f).set 5 (.int v) = flds E 2 k (upd f 5 v) := rfl
theorem fn_2_5 (E : gE) (k : Nat) (f : Nat → Int32) : 5 < (flds E 2 k f).length := Nat.le_of_ble_eq_true rfl
theorem fs_2_6 (E : gE) (k : Nat) (f : Nat → Int32) (v : Int32) : (flds E 2 k f).set 6 (.int v) = flds E 2 k (upd f 6 v) := rfl
theorem fn_2_6 (E : gE) (k : Nat) (f : Nat → Int32) : 6 < (flds E 2 k f).length := Nat.le_of_ble_eq_true rfl
theorem fs_2_7 (E : gE) (k : Nat) (f : Nat → Int32) (v : Int32) : (flds E 2 k f).set 7 (.int v) = flds E 2 k (upd f 7 v) := rfl
theorem fn_2_7 (E : gE) (k : Nat) (f : Nat → Int32) : 7 < (flds E 2 k f).length := Nat.le_of_ble_eq_true rfl
theorem fs_3_2 (E : gE) (k : Nat) (f : Nat → Int32) (v : Int32) : (flds E 3 k f).set 2 (.int v) = flds E 3 k (upd f 2 v) := rfl
theorem fn_3_2 (E : gE) (k : Nat) (f : Nat → Int32) : 2 < (flds E 3 k f).length := Nat.le_of_ble_eq_true rfl
theorem fs_3_3 (E : gE) (k : Nat) (f : Nat → Int32) (v : Int32) : (flds E 3 k f).set 3 (.int v) = flds E 3 k (upd f 3 v) := rfl
theorem fn_3_3 (E : gE) (k : Nat) (f : Nat → Int32) : 3 < (flds E 3 k f).length := Nat.le_of_ble_eq_true rfl
theorem fs_4_1 (E : gE) (k : Nat) (f : Nat → Int32) (v : Int32) : (flds E 4 k f).set 1 (.int v) = flds E 4 k (upd f 1 v) := rfl
theorem fn_4_1 (E : gE) (k : Nat) (f : Nat → Int32) : 1 < (flds E 4 k f).length := Nat.le_of_ble_eq_true rfl
theorem fs_5_2 (E : gE) (k : Nat) (f : Nat → Int32) (v : Int32) : (flds E 5 k f).set 2 (.int v) = flds E 5 k (upd f 2 v) := rfl
theorem fn_5_2 (E : gE) (k : Nat) (f : Nat → Int32) : 2 < (flds E 5 k f).length := Nat.le_of_ble_eq_true rfl
theorem fs_5_3 (E : gE) (k : Nat) (f : Nat → Int32) (v : Int32) : (flds E 5 k f).set 3 (.int v) = flds E 5 k (upd f 3 v) := rfl
theorem fn_5_3 (E : gE) (k : Nat) (f : Nat → Int32) : 3 < (flds E 5 k f).length := Nat.le_of_ble_eq_true rfl
theorem fs_5_4 (E : gE) (k : Nat) (f : Nat → Int32) (v : Int32) : (flds E 5 k f).set 4 (.int v) = flds E 5 k (upd f 4 v) := rfl
theorem fn_5_4 (E : gE) (k : Nat) (f : Nat → Int32) : 4 < (flds E 5 k f).length := Nat.le_of_ble_eq_true rfl
theorem fs_6_2 (E : gE) (k : Nat) (f : Nat → Int32) (v : Int32) : (flds E 6 k f).set 2 (.int v) = flds E 6 k (upd f 2 v) := rfl
theorem fn_6_2 (E : gE) (k : Nat) (f : Nat → Int32) : 2 < (flds E 6 k f).length := Nat.le_of_ble_eq_true rfl
theorem fs_6_3 (E : gE) (k : Nat) (f : Nat → Int32) (v : Int32) : (flds E 6 k f).set 3 (.int v) = flds E 6 k (upd f 3 v) := rfl
theorem fn_6_3 (E : gE) (k : Nat) (f : Nat → Int32) : 3 < (flds E 6 k f).length := Nat.le_of_ble_eq_true rfl
theorem fs_6_4 (E : gE) (k : Nat) (f : Nat → Int32) (v : Int32) : (flds E 6 k f).set 4 (.int v) = flds E 6 k (upd f 4 v) := rfl
theorem fn_6_4 (E : gE) (k : Nat) (f : Nat → Int32) : 4 < (flds E 6 k f).length := Nat.le_of_ble_eq_true rfl
theorem fs_6_5 (E : gE) (k : Nat) (f : Nat → Int32) (v : Int32) : (flds E 6 k f).set 5 (.int v) = flds E 6 k (upd f 5 v) := rfl
theorem fn_6_5 (E : gE) (k : Nat) (f : Nat → Int32) : 5 < (flds E 6 k f).length := Nat.le_of_ble_eq_true rfl
theorem fs_6_6 (E : gE) (k : Nat) (f : Nat → Int32) (v : Int32) : (flds E 6 k f).set 6 (.int v) = flds E 6 k (upd f 6 v) := rfl
theorem fn_6_6 (E : gE) (k : Nat) (f : Nat → Int32) : 6 < (flds E 6 k f).length := Nat.le_of_ble_eq_true rfl
theorem fs_7_1 (E : gE) (k : Nat) (f : Nat → Int32) (v : Int32) : (flds E 7 k f).set 1 (.int v) = flds E 7 k (upd f 1 v) := rfl
theorem fn_7_1 (E : gE) (k : Nat) (f : Nat → Int32) : 1 < (flds E 7 k f).length := Nat.le_of_ble_eq_true rfl
theorem fs_7_2 (E : gE) (k : Nat) (f : Nat → Int32) (v : Int32) : (flds E 7 k f).set 2 (.int v) = flds E 7 k (upd f 2 v) := rfl
theorem fn_7_2 (E : gE) (k : Nat) (f : Nat → Int32) : 2 < (flds E 7 k f).length := Nat.le_of_ble_eq_true rfl
theorem fs_7_3 (E : gE) (k : Nat) (f : Nat → Int32) (v : Int32) : (flds E 7 k f).set 3 (.int v) = flds E 7 k (upd f 3 v) := rfl
theorem fn_7_3 (E : gE) (k : Nat) (f : Nat → Int32) : 3 < (flds E 7 k f).length := Nat.le_of_ble_eq_true rfl
theorem fs_7_4 (E : gE) (k : Nat) (f : Nat → Int32) (v : Int32) : (flds E 7 k f).set 4 (.int v) = flds E 7 k (upd f 4 v) := rfl
theorem fn_7_4 (E : gE) (k : Nat) (f : Nat → Int32) : 4 < (flds E 7 k f).length := Nat.le_of_ble_eq_true rfl
theorem fs_7_5 (E : gE) (k : Nat) (f : Nat → Int32) (v : Int32) : (flds E 7 k f).set 5 (.int v) = flds E 7 k (upd f 5 v) := rfl
theorem fn_7_5 (E : gE) (k : Nat) (f : Nat → Int32) : 5 < (flds E 7 k f).length := Nat.le_of_ble_eq_true rfl
theorem fs_8_2 (E : gE) (k : Nat) (f : Nat → Int32) (v : Int32) : (flds E 8 k f).set 2 (.int v) = flds E 8 k (upd f 2 v) := rfl
theorem fn_8_2 (E : gE) (k : Nat) (f : Nat → Int32) : 2 < (flds E 8 k f).length := Nat.le_of_ble_eq_true rfl
theorem fs_8_3 (E : gE) (k : Nat) (f : Nat → Int32) (v : Int32) : (flds E 8 k f).set 3 (.int v) = flds E 8 k (upd f 3 v) := rfl
theorem fn_8_3 (E : gE) (k : Nat) (f : Nat → Int32) : 3 < (flds E 8 k f).length := Nat.le_of_ble_eq_true rfl
theorem fs_9_10 (E : gE) (k : Nat) (f : Nat → Int32) (v : Int32) : (flds E 9 k f).set 10 (.int v) = flds E 9 k (upd f 10 v) := rfl
theorem fn_9_10 (E : gE) (k : Nat) (f : Nat → Int32) : 10 < (flds E 9 k f).length := Nat.le_of_ble_eq_true rfl
theorem fs_9_11 (E : gE) (k : Nat) (f : Nat → Int32) (v : Int32) : (flds E 9 k f).set 11 (.int v) = flds E 9 k (upd f 11 v) := rfl
theorem fn_9_11 (E : gE) (k : Nat) (f : Nat → Int32) : 11 < (flds E 9 k f).length := Nat.le_of_ble_eq_true rfl
theorem fs_9_12 (E : gE) (k : Nat) (f : Nat → Int32) (v : Int32) : (flds E 9 k f).set 12 (.int v) = flds E 9 k (upd f 12 v) := rfl
theorem fn_9_12 (E : gE) (k : Nat) (f : Nat → Int32) : 12 < (flds E 9 k f).length := Nat.le_of_ble_eq_true rfl
theorem fs_9_13 (E : gE) (k : Nat) (f : Nat → Int32) (v : Int32) : (flds E 9 k f).set 13 (.int v) = flds E 9 k (upd f 13 v) := rfl
theorem fn_9_13 (E : gE) (k : Nat) (f : Nat → Int32) : 13 < (flds E 9 k f).length := Nat.le_of_ble_eq_true rfl
theorem fs_9_14 (E : gE) (k : Nat) (f : Nat → Int32) (v : Int32) : (flds E 9 k f).set 14 (.int v) = flds E 9 k (upd f 14 v) := rfl
theorem fn_9_14 (E : gE) (k : Nat) (f : Nat → Int32) : 14 < (flds E 9 k f).length := Nat.le_of_ble_eq_true rfl
theorem fs_9_15 (E : gE) (k : Nat) (f : Nat → Int32) (v : Int32) : (flds E 9 k f).set 15 (.int v) = flds E 9 k (upd f 15 v) := rfl
theorem fn_9_15 (E : gE) (k : Nat) (f : Nat → Int32) : 15 < (flds E 9 k f).length := Nat.le_of_ble_eq_true rfl
theorem fs_10_0 (E : gE) (k : Nat) (f : Nat → Int32) (v : Int32) : (flds E 10 k f).set 0 (.int v) = flds E 10 k (upd f 0 v) := rfl
theorem fn_10_0 (E : gE) (k : Nat) (f : Nat → Int32) : 0 < (flds E 10 k f).length := Nat.le_of_ble_eq_true rfl
theorem fs_10_1 (E : gE) (k : Nat) (f : Nat → Int32) (v : Int32) : (flds E 10 k f).set 1 (.int v) = flds E 10 k (upd f 1 v) := rfl
theorem fn_10_1 (E : gE) (k : Nat) (f : Nat → Int32) : 1 < (flds E 10 k f).length := Nat.le_of_ble_eq_true rfl
theorem fs_10_2 (E : gE) (k : Nat) (f : Nat → Int32) (v : Int32) : (flds E 10 k f).set 2 (.int v) = flds E 10 k (upd f 2 v) := rfl
theorem fn_10_2 (E : gE) (k : Nat) (f : Nat → Int32) : 2 < (flds E 10 k f).length := Nat.le_of_ble_eq_true rfl
theorem fs_10_7 (E : gE) (k : Nat) (f : Nat → Int32) (v : Int32) : (flds E 10 k f).set 7 (.int v) = flds E 10 k (upd f 7 v) := rfl
theorem fn_10_7 (E : gE) (k : Nat) (f : Nat → Int32) : 7 < (flds E 10 k f).length := Nat.le_of_ble_eq_true rfl
theorem fs_10_8 (E : gE) (k : Nat) (f : Nat → Int32) (v : Int32) : (flds E 10 k f).set 8 (.int v) = flds E 10 k (upd f 8 v) := rfl
theorem fn_10_8 (E : gE) (k : Nat) (f : Nat → Int32) : 8 < (flds E 10 k f).length := Nat.le_of_ble_eq_true rfl
theorem fs_10_15 (E : gE) (k : Nat) (f : Nat → Int32) (v : Int32) : (flds E 10 k f).set 15 (.int v) = flds E 10 k (upd f 15 v) := rfl
theorem fn_10_15 (E : gE) (k : Nat) (f : Nat → Int32) : 15 < (flds E 10 k f).length := Nat.le_of_ble_eq_true rfl
theorem fs_10_18 (E : gE) (k : Nat) (f : Nat → Int32) (v : Int32) : (flds E 10 k f).set 18 (.int v) = flds E 10 k (upd f 18 v) := rfl
theorem fn_10_18 (E : gE) (k : Nat) (f : Nat → Int32) : 18 < (flds E 10 k f).length := Nat.le_of_ble_eq_true rfl
theorem fs_10_19 (E : gE) (k : Nat) (f : Nat → Int32) (v : Int32) : (flds E 10 k f).set 19 (.int v) = flds E 10 k (upd f 19 v) := rfl
theorem fn_10_19 (E : gE) (k : Nat) (f : Nat → Int32) : 19 < (flds E 10 k f).length := Nat.le_of_ble_eq_true rfl
theorem fs_10_21 (E : gE) (k : Nat) (f : Nat → Int32) (v : Int32) : (flds E 10 k f).set 21 (.int v) = flds E 10 k (upd f 21 v) := rfl
theorem fn_10_21 (E : gE) (k : Nat) (f : Nat → Int32) : 21 < (flds E 10 k f).length := Nat.le_of_ble_eq_true rfl
theorem fs_10_22 (E : gE) (k : Nat) (f : Nat → Int32) (v : Int32) : (flds E 10 k f).set 22 (.int v) = flds E 10 k (upd f 22 v) := rfl
theorem fn_10_22 (E : gE) (k : Nat) (f : Nat → Int32) : 22 < (flds E 10 k f).length := Nat.le_of_ble_eq_true rfl
theorem fs_10_23 (E : gE) (k : Nat) (f : Nat → Int32) (v : Int32) : (flds E 10 k f).set 23 (.int v) = flds E 10 k (upd f 23 v) := rfl
theorem fn_10_23 (E : gE) (k : Nat) (f : Nat → Int32) : 23 < (flds E 10 k f).length := Nat.le_of_ble_eq_true rfl
theorem fs_10_24 (E : gE) (k : Nat) (f : Nat → Int32) (v : Int32) : (flds E 10 k f).set 24 (.int v) = flds E 10 k (upd f 24 v) := rfl
theorem fn_10_24 (E : gE) (k : Nat) (f : Nat → Int32) : 24 < (flds E 10 k f).length := Nat.le_of_ble_eq_true rfl
theorem fs_10_27 (E : gE) (k : Nat) (f : Nat → Int32) (v : Int32) : (flds E 10 k f).set 27 (.int v) = flds E 10 k (upd f 27 v) := rfl
theorem fn_10_27 (E : gE) (k : Nat) (f : Nat → Int32) : 27 < (flds E 10 k f).length := Nat.le_of_ble_eq_true rfl
theorem fs_10_28 (E : gE) (k : Nat) (f : Nat → Int32) (v : Int32) : (flds E 10 k f).set 28 (.int v) = flds E 10 k (upd f 28 v) := rfl
theorem fn_10_28 (E : gE) (k : Nat) (f : Nat → Int32) : 28 < (flds E 10 k f).length := Nat.le_of_ble_eq_true rfl
theorem fs_10_29 (E : gE) (k : Nat) (f : Nat → Int32) (v : Int32) : (flds E 10 k f).set 29 (.int v) = flds E 10 k (upd f 29 v) := rfl
theorem fn_10_29 (E : gE) (k : Nat) (f : Nat → Int32) : 29 < (flds E 10 k f).length := Nat.le_of_ble_eq_true rfl
theorem fs_10_30 (E : gE) (k : Nat) (f : Nat → Int32) (v : Int32) : (flds E 10 k f).set 30 (.int v) = flds E 10 k (upd f 30 v) := rfl
theorem fn_10_30 (E : gE) (k : Nat) (f : Nat → Int32) : 30 < (flds E 10 k f).length := Nat.le_of_ble_eq_true rfl
theorem fs_10_31 (E : gE) (k : Nat) (f : Nat → Int32) (v : Int32) : (flds E 10 k f).set 31 (.int v) = flds E 10 k (upd f 31 v) := rfl
theorem fn_10_31 (E : gE) (k : Nat) (f : Nat → Int32) : 31 < (flds E 10 k f).length := Nat.le_of_ble_eq_true rfl
theorem fs_10_32 (E : gE) (k : Nat) (f : Nat → Int32) (v : Int32) : (flds E 10 k f).set 32 (.int v) = flds E 10 k (upd f 32 v) := rfl
theorem fn_10_32 (E : gE) (k : Nat) (f : Nat → Int32) : 32 < (flds E 10 k f).length := Nat.le_of_ble_eq_true rfl
theorem fs_10_35 (E : gE) (k : Nat) (f : Nat → Int32) (v : Int32) : (flds E 10 k f).set 35 (.int v) = flds E 10 k (upd f 35 v) := rfl
theorem fn_10_35 (E : gE) (k : Nat) (f : Nat → Int32) : 35 < (flds E 10 k f).length := Nat.le_of_ble_eq_true rfl
theorem fs_10_36 (E : gE) (k : Nat) (f : Nat → Int32) (v : Int32) : (flds E 10 k f).set 36 (.int v) = flds E 10 k (upd f 36 v) := rfl
theorem fn_10_36 (E : gE) (k : Nat) (f : Nat → Int32) : 36 < (flds E 10 k f).length := Nat.le_of_ble_eq_true rfl
theorem fs_10_37 (E : gE) (k : Nat) (f : Nat → Int32) (v : Int32) : (flds E 10 k f).set 37 (.int v) = flds E 10 k (upd f 37 v) := rfl
theorem fn_10_37 (E : gE) (k : Nat) (f : Nat → Int32) : 37 < (flds E 10 k f).length := Nat.le_of_ble_eq_true rfl
theorem fs_10_38 (E : gE) (k : Nat) (f : Nat → Int32) (v : Int32) : (flds E 10 k f).set 38 (.int v) = flds E 10 k (upd f 38 v) := rfl
theorem fn_10_38 (E : gE) (k : Nat) (f : Nat → Int32) : 38 < (flds E 10 k f).length := Nat.le_of_ble_eq_true rfl
theorem fs_10_39 (E : gE) (k : Nat) (f : Nat → Int32) (v : Int32) : (flds E 10 k f).set 39 (.int v) = flds E 10 k (upd f 39 v) := rfl
theorem fn_10_39 (E : gE) (k : Nat) (f : Nat → Int32) : 39 < (flds E 10 k f).length := Nat.le_of_ble_eq_true rfl
theorem fs_10_43 (E : gE) (k : Nat) (f : Nat → Int32) (v : Int32) : (flds E 10 k f).set 43 (.int v) = flds E 10 k (upd f 43 v) := rfl
theorem fn_10_43 (E : gE) (k : Nat) (f : Nat → Int32) : 43 < (flds E 10 k f).length := Nat.le_of_ble_eq_true rfl
theorem fs_10_44 (E : gE) (k : Nat) (f : Nat → Int32) (v : Int32) : (flds E 10 k f).set 44 (.int v) = flds E 10 k (upd f 44 v) := rfl
theorem fn_10_44 (E : gE) (k : Nat) (f : Nat → Int32) : 44 < (flds E 10 k f).length := Nat.le_of_ble_eq_true rfl
theorem fs_10_45 (E : gE) (k : Nat) (f : Nat → Int32) (v : Int32) : (flds E 10 k f).set 45 (.int v) = flds E 10 k (upd f 45 v) := rfl
theorem fn_10_45 (E : gE) (k : Nat) (f : Nat → Int32) : 45 < (flds E 10 k f).length := Nat.le_of_ble_eq_true rfl
theorem fs_10_46 (E : gE) (k : Nat) (f : Nat → Int32) (v : Int32) : (flds E 10 k f).set 46 (.int v) = flds E 10 k (upd f 46 v) := rfl
theorem fn_10_46 (E : gE) (k : Nat) (f : Nat → Int32) : 46 < (flds E 10 k f).length := Nat.le_of_ble_eq_true rfl
theorem fs_10_47 (E : gE) (k : Nat) (f : Nat → Int32) (v : Int32) : (flds E 10 k f).set 47 (.int v) = flds E 10 k (upd f 47 v) := rfl
theorem fn_10_47 (E : gE) (k : Nat) (f : Nat → Int32) : 47 < (flds E 10 k f).length := Nat.le_of_ble_eq_true rfl
theorem fs_10_48 (E : gE) (k : Nat) (f : Nat → Int32) (v : Int32) : (flds E 10 k f).set 48 (.int v) = flds E 10 k (upd f 48 v) := rfl
theorem fn_10_48 (E : gE) (k : Nat) (f : Nat → Int32) : 48 < (flds E 10 k f).length := Nat.le_of_ble_eq_true rfl
theorem fs_10_54 (E : gE) (k : Nat) (f : Nat → Int32) (v : Int32) : (flds E 10 k f).set 54 (.int v) = flds E 10 k (upd f 54 v) := rfl
theorem fn_10_54 (E : gE) (k : Nat) (f : Nat → Int32) : 54 < (flds E 10 k f).length := Nat.le_of_ble_eq_true rfl
theorem fs_10_55 (E : gE) (k : Nat) (f : Nat → Int32) (v : Int32) : (flds E 10 k f).set 55 (.int v) = flds E 10 k (upd f 55 v) := rfl
theorem fn_10_55 (E : gE) (k : Nat) (f : Nat → Int32) : 55 < (flds E 10 k f).length := Nat.le_of_ble_eq_true rfl
theorem fs_10_56 (E : gE) (k : Nat) (f : Nat → Int32) (v : Int32) : (flds E 10 k f).set 56 (.int v) = flds E 10 k (upd f 56 v) := rfl
theorem fn_10_56 (E : gE) (k : Nat) (f : Nat → Int32) : 56 < (flds E 10 k f).length := Nat.le_of_ble_eq_true rfl
theorem fs_10_57 (E : gE) (k : Nat) (f : Nat → Int32) (v : Int32) : (flds E 10 k f).set 57 (.int v) = flds E 10 k (upd f 57 v) := rfl
theorem fn_10_57 (E : gE) (k : Nat) (f : Nat → Int32) : 57 < (flds E 10 k f).length := Nat.le_of_ble_eq_true rfl
theorem fs_10_58 (E : gE) (k : Nat) (f : Nat → Int32) (v : Int32) : (flds E 10 k f).set 58 (.int v) = flds E 10 k (upd f 58 v) := rfl
theorem fn_10_58 (E : gE) (k : Nat) (f : Nat → Int32) : 58 < (flds E 10 k f).length := Nat.le_of_ble_eq_true rfl
theorem fs_10_59 (E : gE) (k : Nat) (f : Nat → Int32) (v : Int32) : (flds E 10 k f).set 59 (.int v) = flds E 10 k (upd f 59 v) := rfl
theorem fn_10_59 (E : gE) (k : Nat) (f : Nat → Int32) : 59 < (flds E 10 k f).length := Nat.le_of_ble_eq_true rfl
theorem fs_10_60 (E : gE) (k : Nat) (f : Nat → Int32) (v : Int32) : (flds E 10 k f).set 60 (.int v) = flds E 10 k (upd f 60 v) := rfl
theorem fn_10_60 (E : gE) (k : Nat) (f : Nat → Int32) : 60 < (flds E 10 k f).length := Nat.le_of_ble_eq_true rfl
theorem fs_10_61 (E : gE) (k : Nat) (f : Nat → Int32) (v : Int32) : (flds E 10 k f).set 61 (.int v) = flds E 10 k (upd f 61 v) := rfl
theorem fn_10_61 (E : gE) (k : Nat) (f : Nat → Int32) : 61 < (flds E 10 k f).length := Nat.le_of_ble_eq_true rfl
theorem fs_10_62 (E : gE) (k : Nat) (f : Nat → Int32) (v : Int32) : (flds E 10 k f).set 62 (.int v) = flds E 10 k (upd f 62 v) := rfl
theorem fn_10_62 (E : gE) (k : Nat) (f : Nat → Int32) : 62 < (flds E 10 k f).length := Nat.le_of_ble_eq_true rfl
theorem fs_10_66 (E : gE) (k : Nat) (f : Nat → Int32) (v : Int64) : (flds E 10 k f).set 66 (.long v) = flds E 10 k (upd (upd f 66 (gHi v)) 67 (gLo v)) := by
  have e : gL (upd (upd f 66 (gHi v)) 67 (gLo v) 66) (upd (upd f 66 (gHi v)) 67 (gLo v) 67) = v := gL_back v
  show _ = flds E 10 k (upd (upd f 66 (gHi v)) 67 (gLo v))
  conv => rhs; unfold flds
  simp only [e]
  rfl
theorem fn_10_66 (E : gE) (k : Nat) (f : Nat → Int32) : 66 < (flds E 10 k f).length := Nat.le_of_ble_eq_true rfl
end
