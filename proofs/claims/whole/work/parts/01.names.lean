-- ===== PART A: goes FIRST, ahead of the names: the tables' words, and 'selects' of the private methods out of them =====
/-- a private method of a class that the tables say can be made, by its rows of tables_1 -/
def lw_okq (q : MethodName × Nat) : Prop := (q.1.cls ≠ "java/lang/invoke/MethodHandle" ∧ q.1.cls ≠ "java/lang/invoke/VarHandle") ∧ Cond.instantiable q.1.cls q.2 ∈ tables_1 ∧ Cond.privateMethod q.1 ∈ tables_1 ∧ Cond.instanceMethod q.1 ∈ tables_1
theorem lw_p0 : lw_okq (⟨"FirstPancake$PanText", "takeRing", "(I)Z"⟩, 7) := ⟨⟨by decide +kernel, by decide +kernel⟩, List.mem_of_getElem? (i := 47) (by decide +kernel), List.mem_of_getElem? (i := 375) (by decide +kernel), List.mem_of_getElem? (i := 376) (by decide +kernel)⟩
theorem lw_p1 : lw_okq (⟨"FirstPancake$PanText", "takeSticky", "()Z"⟩, 7) := ⟨⟨by decide +kernel, by decide +kernel⟩, List.mem_of_getElem? (i := 47) (by decide +kernel), List.mem_of_getElem? (i := 379) (by decide +kernel), List.mem_of_getElem? (i := 380) (by decide +kernel)⟩
theorem lw_p2 : lw_okq (⟨"FirstPancake$PanText", "takeRowEnd", "()Z"⟩, 7) := ⟨⟨by decide +kernel, by decide +kernel⟩, List.mem_of_getElem? (i := 47) (by decide +kernel), List.mem_of_getElem? (i := 383) (by decide +kernel), List.mem_of_getElem? (i := 384) (by decide +kernel)⟩
theorem lw_p3 : lw_okq (⟨"FirstPancake$PlanText", "takeDigit", "(I)Z"⟩, 4) := ⟨⟨by decide +kernel, by decide +kernel⟩, List.mem_of_getElem? (i := 84) (by decide +kernel), List.mem_of_getElem? (i := 392) (by decide +kernel), List.mem_of_getElem? (i := 393) (by decide +kernel)⟩
theorem lw_p4 : lw_okq (⟨"FirstPancake$PlanText", "takeSwing", "(I)Z"⟩, 4) := ⟨⟨by decide +kernel, by decide +kernel⟩, List.mem_of_getElem? (i := 84) (by decide +kernel), List.mem_of_getElem? (i := 485) (by decide +kernel), List.mem_of_getElem? (i := 486) (by decide +kernel)⟩
theorem lw_p5 : lw_okq (⟨"FirstPancake$PlanText", "takeSign", "(I)Z"⟩, 4) := ⟨⟨by decide +kernel, by decide +kernel⟩, List.mem_of_getElem? (i := 84) (by decide +kernel), List.mem_of_getElem? (i := 489) (by decide +kernel), List.mem_of_getElem? (i := 490) (by decide +kernel)⟩
theorem lw_p6 : lw_okq (⟨"FirstPancake", "isPlan", "(I)Z"⟩, 16) := ⟨⟨by decide +kernel, by decide +kernel⟩, List.mem_of_getElem? (i := 23) (by decide +kernel), List.mem_of_getElem? (i := 561) (by decide +kernel), List.mem_of_getElem? (i := 562) (by decide +kernel)⟩
theorem lw_p7 : lw_okq (⟨"FirstPancake", "isCell", "(I)Z"⟩, 16) := ⟨⟨by decide +kernel, by decide +kernel⟩, List.mem_of_getElem? (i := 23) (by decide +kernel), List.mem_of_getElem? (i := 578) (by decide +kernel), List.mem_of_getElem? (i := 579) (by decide +kernel)⟩
theorem lw_p8 : lw_okq (⟨"FirstPancake", "hasPan", "()Z"⟩, 16) := ⟨⟨by decide +kernel, by decide +kernel⟩, List.mem_of_getElem? (i := 23) (by decide +kernel), List.mem_of_getElem? (i := 586) (by decide +kernel), List.mem_of_getElem? (i := 587) (by decide +kernel)⟩
theorem lw_p9 : lw_okq (⟨"FirstPancake$Pan", "pour", "(LFirstPancake$Condition;ILFirstPancake$Cake;)V"⟩, 7) := ⟨⟨by decide +kernel, by decide +kernel⟩, List.mem_of_getElem? (i := 112) (by decide +kernel), List.mem_of_getElem? (i := 620) (by decide +kernel), List.mem_of_getElem? (i := 621) (by decide +kernel)⟩
theorem lw_p10 : lw_okq (⟨"FirstPancake$Pan", "lie", "(LFirstPancake$Condition;IILFirstPancake$Cake;)I"⟩, 7) := ⟨⟨by decide +kernel, by decide +kernel⟩, List.mem_of_getElem? (i := 112) (by decide +kernel), List.mem_of_getElem? (i := 629) (by decide +kernel), List.mem_of_getElem? (i := 630) (by decide +kernel)⟩
theorem lw_p11 : lw_okq (⟨"FirstPancake$Pan", "fasten", "(LFirstPancake$Condition;LFirstPancake$Cake;)V"⟩, 7) := ⟨⟨by decide +kernel, by decide +kernel⟩, List.mem_of_getElem? (i := 112) (by decide +kernel), List.mem_of_getElem? (i := 634) (by decide +kernel), List.mem_of_getElem? (i := 635) (by decide +kernel)⟩
theorem lw_p12 : lw_okq (⟨"FirstPancake$Pan", "run", "(LFirstPancake$Condition;LFirstPancake$Cake;I)V"⟩, 7) := ⟨⟨by decide +kernel, by decide +kernel⟩, List.mem_of_getElem? (i := 112) (by decide +kernel), List.mem_of_getElem? (i := 639) (by decide +kernel), List.mem_of_getElem? (i := 640) (by decide +kernel)⟩
theorem lw_p13 : lw_okq (⟨"FirstPancake$Pan", "beside", "(III)I"⟩, 7) := ⟨⟨by decide +kernel, by decide +kernel⟩, List.mem_of_getElem? (i := 112) (by decide +kernel), List.mem_of_getElem? (i := 643) (by decide +kernel), List.mem_of_getElem? (i := 644) (by decide +kernel)⟩
theorem lw_p14 : lw_okq (⟨"FirstPancake$Pan", "takeOut", "(LFirstPancake$Condition;LFirstPancake$Cake;)I"⟩, 7) := ⟨⟨by decide +kernel, by decide +kernel⟩, List.mem_of_getElem? (i := 112) (by decide +kernel), List.mem_of_getElem? (i := 648) (by decide +kernel), List.mem_of_getElem? (i := 649) (by decide +kernel)⟩
theorem lw_p15 : lw_okq (⟨"FirstPancake$Cake", "kindNow", "()I"⟩, 2) := ⟨⟨by decide +kernel, by decide +kernel⟩, List.mem_of_getElem? (i := 166) (by decide +kernel), List.mem_of_getElem? (i := 664) (by decide +kernel), List.mem_of_getElem? (i := 665) (by decide +kernel)⟩
def lw_privs_1 : List (MethodName × Nat) := [(⟨"FirstPancake$PanText", "takeRing", "(I)Z"⟩, 7), (⟨"FirstPancake$PanText", "takeSticky", "()Z"⟩, 7), (⟨"FirstPancake$PanText", "takeRowEnd", "()Z"⟩, 7), (⟨"FirstPancake$PlanText", "takeDigit", "(I)Z"⟩, 4), (⟨"FirstPancake$PlanText", "takeSwing", "(I)Z"⟩, 4), (⟨"FirstPancake$PlanText", "takeSign", "(I)Z"⟩, 4), (⟨"FirstPancake", "isPlan", "(I)Z"⟩, 16), (⟨"FirstPancake", "isCell", "(I)Z"⟩, 16), (⟨"FirstPancake", "hasPan", "()Z"⟩, 16), (⟨"FirstPancake$Pan", "pour", "(LFirstPancake$Condition;ILFirstPancake$Cake;)V"⟩, 7), (⟨"FirstPancake$Pan", "lie", "(LFirstPancake$Condition;IILFirstPancake$Cake;)I"⟩, 7), (⟨"FirstPancake$Pan", "fasten", "(LFirstPancake$Condition;LFirstPancake$Cake;)V"⟩, 7), (⟨"FirstPancake$Pan", "run", "(LFirstPancake$Condition;LFirstPancake$Cake;I)V"⟩, 7), (⟨"FirstPancake$Pan", "beside", "(III)I"⟩, 7), (⟨"FirstPancake$Pan", "takeOut", "(LFirstPancake$Condition;LFirstPancake$Cake;)I"⟩, 7), (⟨"FirstPancake$Cake", "kindNow", "()I"⟩, 2)]
theorem lw_r1 : ∀ q ∈ lw_privs_1, lw_okq q := List.forall_mem_cons.mpr ⟨lw_p0, List.forall_mem_cons.mpr ⟨lw_p1, List.forall_mem_cons.mpr ⟨lw_p2, List.forall_mem_cons.mpr ⟨lw_p3, List.forall_mem_cons.mpr ⟨lw_p4, List.forall_mem_cons.mpr ⟨lw_p5, List.forall_mem_cons.mpr ⟨lw_p6, List.forall_mem_cons.mpr ⟨lw_p7, List.forall_mem_cons.mpr ⟨lw_p8, List.forall_mem_cons.mpr ⟨lw_p9, List.forall_mem_cons.mpr ⟨lw_p10, List.forall_mem_cons.mpr ⟨lw_p11, List.forall_mem_cons.mpr ⟨lw_p12, List.forall_mem_cons.mpr ⟨lw_p13, List.forall_mem_cons.mpr ⟨lw_p14, List.forall_mem_cons.mpr ⟨lw_p15, fun _ h => absurd h List.not_mem_nil⟩⟩⟩⟩⟩⟩⟩⟩⟩⟩⟩⟩⟩⟩⟩⟩
theorem lw_p16 : lw_okq (⟨"FirstPancake", "isCake", "(I)Z"⟩, 16) := ⟨⟨by decide +kernel, by decide +kernel⟩, List.mem_of_getElem? (i := 23) (by decide +kernel), List.mem_of_getElem? (i := 674) (by decide +kernel), List.mem_of_getElem? (i := 675) (by decide +kernel)⟩
theorem lw_p17 : lw_okq (⟨"FirstPancake$Foresight", "warmBySix", "(LFirstPancake$Condition;LFirstPancake$Plan;)V"⟩, 8) := ⟨⟨by decide +kernel, by decide +kernel⟩, List.mem_of_getElem? (i := 106) (by decide +kernel), List.mem_of_getElem? (i := 739) (by decide +kernel), List.mem_of_getElem? (i := 740) (by decide +kernel)⟩
theorem lw_p18 : lw_okq (⟨"FirstPancake$Foresight", "worthOf", "(LFirstPancake$Condition;I)I"⟩, 8) := ⟨⟨by decide +kernel, by decide +kernel⟩, List.mem_of_getElem? (i := 106) (by decide +kernel), List.mem_of_getElem? (i := 757) (by decide +kernel), List.mem_of_getElem? (i := 758) (by decide +kernel)⟩
theorem lw_p19 : lw_okq (⟨"FirstPancake$Kitchen", "longestWanting", "(I)I"⟩, 4) := ⟨⟨by decide +kernel, by decide +kernel⟩, List.mem_of_getElem? (i := 252) (by decide +kernel), List.mem_of_getElem? (i := 793) (by decide +kernel), List.mem_of_getElem? (i := 794) (by decide +kernel)⟩
theorem lw_p20 : lw_okq (⟨"FirstPancake", "worthTogether", "()I"⟩, 16) := ⟨⟨by decide +kernel, by decide +kernel⟩, List.mem_of_getElem? (i := 23) (by decide +kernel), List.mem_of_getElem? (i := 844) (by decide +kernel), List.mem_of_getElem? (i := 845) (by decide +kernel)⟩
theorem lw_p21 : lw_okq (⟨"FirstPancake", "digestOfCells", "(J)J"⟩, 16) := ⟨⟨by decide +kernel, by decide +kernel⟩, List.mem_of_getElem? (i := 23) (by decide +kernel), List.mem_of_getElem? (i := 853) (by decide +kernel), List.mem_of_getElem? (i := 854) (by decide +kernel)⟩
theorem lw_p22 : lw_okq (⟨"FirstPancake", "digestOfPlans", "(J)J"⟩, 16) := ⟨⟨by decide +kernel, by decide +kernel⟩, List.mem_of_getElem? (i := 23) (by decide +kernel), List.mem_of_getElem? (i := 862) (by decide +kernel), List.mem_of_getElem? (i := 863) (by decide +kernel)⟩
theorem lw_p23 : lw_okq (⟨"FirstPancake", "digestOfCakes", "(J)J"⟩, 16) := ⟨⟨by decide +kernel, by decide +kernel⟩, List.mem_of_getElem? (i := 23) (by decide +kernel), List.mem_of_getElem? (i := 866) (by decide +kernel), List.mem_of_getElem? (i := 867) (by decide +kernel)⟩
theorem lw_p24 : lw_okq (⟨"FirstPancake", "digestOfTried", "(J)J"⟩, 16) := ⟨⟨by decide +kernel, by decide +kernel⟩, List.mem_of_getElem? (i := 23) (by decide +kernel), List.mem_of_getElem? (i := 870) (by decide +kernel), List.mem_of_getElem? (i := 871) (by decide +kernel)⟩
theorem lw_p25 : lw_okq (⟨"FirstPancakeModel", "readPan", "()V"⟩, 67) := ⟨⟨by decide +kernel, by decide +kernel⟩, List.mem_of_getElem? (i := 875) (by decide +kernel), List.mem_of_getElem? (i := 1099) (by decide +kernel), List.mem_of_getElem? (i := 1100) (by decide +kernel)⟩
theorem lw_p26 : lw_okq (⟨"FirstPancakeModel", "takePan", "(I)Z"⟩, 67) := ⟨⟨by decide +kernel, by decide +kernel⟩, List.mem_of_getElem? (i := 875) (by decide +kernel), List.mem_of_getElem? (i := 1103) (by decide +kernel), List.mem_of_getElem? (i := 1104) (by decide +kernel)⟩
theorem lw_p27 : lw_okq (⟨"FirstPancakeModel", "readPlan", "()V"⟩, 67) := ⟨⟨by decide +kernel, by decide +kernel⟩, List.mem_of_getElem? (i := 875) (by decide +kernel), List.mem_of_getElem? (i := 1110) (by decide +kernel), List.mem_of_getElem? (i := 1111) (by decide +kernel)⟩
theorem lw_p28 : lw_okq (⟨"FirstPancakeModel", "nextPlan", "(II)I"⟩, 67) := ⟨⟨by decide +kernel, by decide +kernel⟩, List.mem_of_getElem? (i := 875) (by decide +kernel), List.mem_of_getElem? (i := 1114) (by decide +kernel), List.mem_of_getElem? (i := 1115) (by decide +kernel)⟩
theorem lw_p29 : lw_okq (⟨"FirstPancakeModel", "beginNumber", "(II)Z"⟩, 67) := ⟨⟨by decide +kernel, by decide +kernel⟩, List.mem_of_getElem? (i := 875) (by decide +kernel), List.mem_of_getElem? (i := 1118) (by decide +kernel), List.mem_of_getElem? (i := 1119) (by decide +kernel)⟩
theorem lw_p30 : lw_okq (⟨"FirstPancakeModel", "setNumber", "(II)V"⟩, 67) := ⟨⟨by decide +kernel, by decide +kernel⟩, List.mem_of_getElem? (i := 875) (by decide +kernel), List.mem_of_getElem? (i := 1122) (by decide +kernel), List.mem_of_getElem? (i := 1123) (by decide +kernel)⟩
theorem lw_p31 : lw_okq (⟨"FirstPancakeModel", "goOnNumber", "(II)Z"⟩, 67) := ⟨⟨by decide +kernel, by decide +kernel⟩, List.mem_of_getElem? (i := 875) (by decide +kernel), List.mem_of_getElem? (i := 1126) (by decide +kernel), List.mem_of_getElem? (i := 1127) (by decide +kernel)⟩
def lw_privs_2 : List (MethodName × Nat) := [(⟨"FirstPancake", "isCake", "(I)Z"⟩, 16), (⟨"FirstPancake$Foresight", "warmBySix", "(LFirstPancake$Condition;LFirstPancake$Plan;)V"⟩, 8), (⟨"FirstPancake$Foresight", "worthOf", "(LFirstPancake$Condition;I)I"⟩, 8), (⟨"FirstPancake$Kitchen", "longestWanting", "(I)I"⟩, 4), (⟨"FirstPancake", "worthTogether", "()I"⟩, 16), (⟨"FirstPancake", "digestOfCells", "(J)J"⟩, 16), (⟨"FirstPancake", "digestOfPlans", "(J)J"⟩, 16), (⟨"FirstPancake", "digestOfCakes", "(J)J"⟩, 16), (⟨"FirstPancake", "digestOfTried", "(J)J"⟩, 16), (⟨"FirstPancakeModel", "readPan", "()V"⟩, 67), (⟨"FirstPancakeModel", "takePan", "(I)Z"⟩, 67), (⟨"FirstPancakeModel", "readPlan", "()V"⟩, 67), (⟨"FirstPancakeModel", "nextPlan", "(II)I"⟩, 67), (⟨"FirstPancakeModel", "beginNumber", "(II)Z"⟩, 67), (⟨"FirstPancakeModel", "setNumber", "(II)V"⟩, 67), (⟨"FirstPancakeModel", "goOnNumber", "(II)Z"⟩, 67)]
theorem lw_r2 : ∀ q ∈ lw_privs_2, lw_okq q := List.forall_mem_cons.mpr ⟨lw_p16, List.forall_mem_cons.mpr ⟨lw_p17, List.forall_mem_cons.mpr ⟨lw_p18, List.forall_mem_cons.mpr ⟨lw_p19, List.forall_mem_cons.mpr ⟨lw_p20, List.forall_mem_cons.mpr ⟨lw_p21, List.forall_mem_cons.mpr ⟨lw_p22, List.forall_mem_cons.mpr ⟨lw_p23, List.forall_mem_cons.mpr ⟨lw_p24, List.forall_mem_cons.mpr ⟨lw_p25, List.forall_mem_cons.mpr ⟨lw_p26, List.forall_mem_cons.mpr ⟨lw_p27, List.forall_mem_cons.mpr ⟨lw_p28, List.forall_mem_cons.mpr ⟨lw_p29, List.forall_mem_cons.mpr ⟨lw_p30, List.forall_mem_cons.mpr ⟨lw_p31, fun _ h => absurd h List.not_mem_nil⟩⟩⟩⟩⟩⟩⟩⟩⟩⟩⟩⟩⟩⟩⟩⟩
theorem lw_p32 : lw_okq (⟨"FirstPancakeModel", "number", "(I)I"⟩, 67) := ⟨⟨by decide +kernel, by decide +kernel⟩, List.mem_of_getElem? (i := 875) (by decide +kernel), List.mem_of_getElem? (i := 1130) (by decide +kernel), List.mem_of_getElem? (i := 1131) (by decide +kernel)⟩
theorem lw_p33 : lw_okq (⟨"FirstPancakeModel", "afterAmount", "(I)I"⟩, 67) := ⟨⟨by decide +kernel, by decide +kernel⟩, List.mem_of_getElem? (i := 875) (by decide +kernel), List.mem_of_getElem? (i := 1134) (by decide +kernel), List.mem_of_getElem? (i := 1135) (by decide +kernel)⟩
theorem lw_p34 : lw_okq (⟨"FirstPancakeModel", "isPlan", "(I)Z"⟩, 67) := ⟨⟨by decide +kernel, by decide +kernel⟩, List.mem_of_getElem? (i := 875) (by decide +kernel), List.mem_of_getElem? (i := 1153) (by decide +kernel), List.mem_of_getElem? (i := 1154) (by decide +kernel)⟩
theorem lw_p35 : lw_okq (⟨"FirstPancakeModel", "planNow", "(II)I"⟩, 67) := ⟨⟨by decide +kernel, by decide +kernel⟩, List.mem_of_getElem? (i := 875) (by decide +kernel), List.mem_of_getElem? (i := 1157) (by decide +kernel), List.mem_of_getElem? (i := 1158) (by decide +kernel)⟩
theorem lw_p36 : lw_okq (⟨"FirstPancakeModel", "isCell", "(I)Z"⟩, 67) := ⟨⟨by decide +kernel, by decide +kernel⟩, List.mem_of_getElem? (i := 875) (by decide +kernel), List.mem_of_getElem? (i := 1165) (by decide +kernel), List.mem_of_getElem? (i := 1166) (by decide +kernel)⟩
theorem lw_p37 : lw_okq (⟨"FirstPancakeModel", "cells", "()I"⟩, 67) := ⟨⟨by decide +kernel, by decide +kernel⟩, List.mem_of_getElem? (i := 875) (by decide +kernel), List.mem_of_getElem? (i := 1169) (by decide +kernel), List.mem_of_getElem? (i := 1170) (by decide +kernel)⟩
theorem lw_p38 : lw_okq (⟨"FirstPancakeModel", "cellNow", "(II)I"⟩, 67) := ⟨⟨by decide +kernel, by decide +kernel⟩, List.mem_of_getElem? (i := 875) (by decide +kernel), List.mem_of_getElem? (i := 1173) (by decide +kernel), List.mem_of_getElem? (i := 1174) (by decide +kernel)⟩
theorem lw_p39 : lw_okq (⟨"FirstPancakeModel", "loadPan", "()V"⟩, 67) := ⟨⟨by decide +kernel, by decide +kernel⟩, List.mem_of_getElem? (i := 875) (by decide +kernel), List.mem_of_getElem? (i := 1181) (by decide +kernel), List.mem_of_getElem? (i := 1182) (by decide +kernel)⟩
theorem lw_p40 : lw_okq (⟨"FirstPancakeModel", "goTick", "(II)V"⟩, 67) := ⟨⟨by decide +kernel, by decide +kernel⟩, List.mem_of_getElem? (i := 875) (by decide +kernel), List.mem_of_getElem? (i := 1185) (by decide +kernel), List.mem_of_getElem? (i := 1186) (by decide +kernel)⟩
theorem lw_p41 : lw_okq (⟨"FirstPancakeModel", "putPan", "()V"⟩, 67) := ⟨⟨by decide +kernel, by decide +kernel⟩, List.mem_of_getElem? (i := 875) (by decide +kernel), List.mem_of_getElem? (i := 1192) (by decide +kernel), List.mem_of_getElem? (i := 1193) (by decide +kernel)⟩
theorem lw_p42 : lw_okq (⟨"FirstPancakeModel", "bitsAll", "()I"⟩, 67) := ⟨⟨by decide +kernel, by decide +kernel⟩, List.mem_of_getElem? (i := 875) (by decide +kernel), List.mem_of_getElem? (i := 1204) (by decide +kernel), List.mem_of_getElem? (i := 1205) (by decide +kernel)⟩
theorem lw_p43 : lw_okq (⟨"FirstPancakeModel", "bars", "(I)I"⟩, 67) := ⟨⟨by decide +kernel, by decide +kernel⟩, List.mem_of_getElem? (i := 875) (by decide +kernel), List.mem_of_getElem? (i := 1212) (by decide +kernel), List.mem_of_getElem? (i := 1213) (by decide +kernel)⟩
theorem lw_p44 : lw_okq (⟨"FirstPancakeModel", "loadPlan", "(I)V"⟩, 67) := ⟨⟨by decide +kernel, by decide +kernel⟩, List.mem_of_getElem? (i := 875) (by decide +kernel), List.mem_of_getElem? (i := 1216) (by decide +kernel), List.mem_of_getElem? (i := 1217) (by decide +kernel)⟩
theorem lw_p45 : lw_okq (⟨"FirstPancakeModel", "goCake", "()V"⟩, 67) := ⟨⟨by decide +kernel, by decide +kernel⟩, List.mem_of_getElem? (i := 875) (by decide +kernel), List.mem_of_getElem? (i := 1220) (by decide +kernel), List.mem_of_getElem? (i := 1221) (by decide +kernel)⟩
theorem lw_p46 : lw_okq (⟨"FirstPancakeModel", "goSwing", "(I)V"⟩, 67) := ⟨⟨by decide +kernel, by decide +kernel⟩, List.mem_of_getElem? (i := 875) (by decide +kernel), List.mem_of_getElem? (i := 1224) (by decide +kernel), List.mem_of_getElem? (i := 1225) (by decide +kernel)⟩
theorem lw_p47 : lw_okq (⟨"FirstPancakeModel", "beside", "(II)I"⟩, 67) := ⟨⟨by decide +kernel, by decide +kernel⟩, List.mem_of_getElem? (i := 875) (by decide +kernel), List.mem_of_getElem? (i := 1228) (by decide +kernel), List.mem_of_getElem? (i := 1229) (by decide +kernel)⟩
def lw_privs_3 : List (MethodName × Nat) := [(⟨"FirstPancakeModel", "number", "(I)I"⟩, 67), (⟨"FirstPancakeModel", "afterAmount", "(I)I"⟩, 67), (⟨"FirstPancakeModel", "isPlan", "(I)Z"⟩, 67), (⟨"FirstPancakeModel", "planNow", "(II)I"⟩, 67), (⟨"FirstPancakeModel", "isCell", "(I)Z"⟩, 67), (⟨"FirstPancakeModel", "cells", "()I"⟩, 67), (⟨"FirstPancakeModel", "cellNow", "(II)I"⟩, 67), (⟨"FirstPancakeModel", "loadPan", "()V"⟩, 67), (⟨"FirstPancakeModel", "goTick", "(II)V"⟩, 67), (⟨"FirstPancakeModel", "putPan", "()V"⟩, 67), (⟨"FirstPancakeModel", "bitsAll", "()I"⟩, 67), (⟨"FirstPancakeModel", "bars", "(I)I"⟩, 67), (⟨"FirstPancakeModel", "loadPlan", "(I)V"⟩, 67), (⟨"FirstPancakeModel", "goCake", "()V"⟩, 67), (⟨"FirstPancakeModel", "goSwing", "(I)V"⟩, 67), (⟨"FirstPancakeModel", "beside", "(II)I"⟩, 67)]
theorem lw_r3 : ∀ q ∈ lw_privs_3, lw_okq q := List.forall_mem_cons.mpr ⟨lw_p32, List.forall_mem_cons.mpr ⟨lw_p33, List.forall_mem_cons.mpr ⟨lw_p34, List.forall_mem_cons.mpr ⟨lw_p35, List.forall_mem_cons.mpr ⟨lw_p36, List.forall_mem_cons.mpr ⟨lw_p37, List.forall_mem_cons.mpr ⟨lw_p38, List.forall_mem_cons.mpr ⟨lw_p39, List.forall_mem_cons.mpr ⟨lw_p40, List.forall_mem_cons.mpr ⟨lw_p41, List.forall_mem_cons.mpr ⟨lw_p42, List.forall_mem_cons.mpr ⟨lw_p43, List.forall_mem_cons.mpr ⟨lw_p44, List.forall_mem_cons.mpr ⟨lw_p45, List.forall_mem_cons.mpr ⟨lw_p46, List.forall_mem_cons.mpr ⟨lw_p47, fun _ h => absurd h List.not_mem_nil⟩⟩⟩⟩⟩⟩⟩⟩⟩⟩⟩⟩⟩⟩⟩⟩
theorem lw_p48 : lw_okq (⟨"FirstPancakeModel", "takeOut", "()V"⟩, 67) := ⟨⟨by decide +kernel, by decide +kernel⟩, List.mem_of_getElem? (i := 875) (by decide +kernel), List.mem_of_getElem? (i := 1232) (by decide +kernel), List.mem_of_getElem? (i := 1233) (by decide +kernel)⟩
theorem lw_p49 : lw_okq (⟨"FirstPancakeModel", "judge", "()V"⟩, 67) := ⟨⟨by decide +kernel, by decide +kernel⟩, List.mem_of_getElem? (i := 875) (by decide +kernel), List.mem_of_getElem? (i := 1236) (by decide +kernel), List.mem_of_getElem? (i := 1237) (by decide +kernel)⟩
theorem lw_p50 : lw_okq (⟨"FirstPancakeModel", "triedNow", "(I)I"⟩, 67) := ⟨⟨by decide +kernel, by decide +kernel⟩, List.mem_of_getElem? (i := 875) (by decide +kernel), List.mem_of_getElem? (i := 1244) (by decide +kernel), List.mem_of_getElem? (i := 1245) (by decide +kernel)⟩
theorem lw_p51 : lw_okq (⟨"FirstPancakeModel", "isCake", "(I)Z"⟩, 67) := ⟨⟨by decide +kernel, by decide +kernel⟩, List.mem_of_getElem? (i := 875) (by decide +kernel), List.mem_of_getElem? (i := 1252) (by decide +kernel), List.mem_of_getElem? (i := 1253) (by decide +kernel)⟩
theorem lw_p52 : lw_okq (⟨"FirstPancakeModel", "layNext", "(I)V"⟩, 67) := ⟨⟨by decide +kernel, by decide +kernel⟩, List.mem_of_getElem? (i := 875) (by decide +kernel), List.mem_of_getElem? (i := 1268) (by decide +kernel), List.mem_of_getElem? (i := 1269) (by decide +kernel)⟩
theorem lw_p53 : lw_okq (⟨"FirstPancakeModel", "layTwelve", "(I)V"⟩, 67) := ⟨⟨by decide +kernel, by decide +kernel⟩, List.mem_of_getElem? (i := 875) (by decide +kernel), List.mem_of_getElem? (i := 1276) (by decide +kernel), List.mem_of_getElem? (i := 1277) (by decide +kernel)⟩
theorem lw_p54 : lw_okq (⟨"FirstPancakeModel", "isRightBy", "(I)Z"⟩, 67) := ⟨⟨by decide +kernel, by decide +kernel⟩, List.mem_of_getElem? (i := 875) (by decide +kernel), List.mem_of_getElem? (i := 1288) (by decide +kernel), List.mem_of_getElem? (i := 1289) (by decide +kernel)⟩
theorem lw_p55 : lw_okq (⟨"FirstPancakeModel", "longest", "(I)I"⟩, 67) := ⟨⟨by decide +kernel, by decide +kernel⟩, List.mem_of_getElem? (i := 875) (by decide +kernel), List.mem_of_getElem? (i := 1308) (by decide +kernel), List.mem_of_getElem? (i := 1309) (by decide +kernel)⟩
theorem lw_p56 : lw_okq (⟨"FirstPancakeModel", "howMany", "(I)I"⟩, 67) := ⟨⟨by decide +kernel, by decide +kernel⟩, List.mem_of_getElem? (i := 875) (by decide +kernel), List.mem_of_getElem? (i := 1351) (by decide +kernel), List.mem_of_getElem? (i := 1352) (by decide +kernel)⟩
theorem lw_p57 : lw_okq (⟨"FirstPancakeModel", "worthAll", "()I"⟩, 67) := ⟨⟨by decide +kernel, by decide +kernel⟩, List.mem_of_getElem? (i := 875) (by decide +kernel), List.mem_of_getElem? (i := 1355) (by decide +kernel), List.mem_of_getElem? (i := 1356) (by decide +kernel)⟩
theorem lw_p58 : lw_okq (⟨"FirstPancakeModel", "mix", "(J)V"⟩, 67) := ⟨⟨by decide +kernel, by decide +kernel⟩, List.mem_of_getElem? (i := 875) (by decide +kernel), List.mem_of_getElem? (i := 1364) (by decide +kernel), List.mem_of_getElem? (i := 1365) (by decide +kernel)⟩
theorem lw_p59 : lw_okq (⟨"FirstPancakeModel", "mixCake", "(I)V"⟩, 67) := ⟨⟨by decide +kernel, by decide +kernel⟩, List.mem_of_getElem? (i := 875) (by decide +kernel), List.mem_of_getElem? (i := 1369) (by decide +kernel), List.mem_of_getElem? (i := 1370) (by decide +kernel)⟩
def lw_privs_4 : List (MethodName × Nat) := [(⟨"FirstPancakeModel", "takeOut", "()V"⟩, 67), (⟨"FirstPancakeModel", "judge", "()V"⟩, 67), (⟨"FirstPancakeModel", "triedNow", "(I)I"⟩, 67), (⟨"FirstPancakeModel", "isCake", "(I)Z"⟩, 67), (⟨"FirstPancakeModel", "layNext", "(I)V"⟩, 67), (⟨"FirstPancakeModel", "layTwelve", "(I)V"⟩, 67), (⟨"FirstPancakeModel", "isRightBy", "(I)Z"⟩, 67), (⟨"FirstPancakeModel", "longest", "(I)I"⟩, 67), (⟨"FirstPancakeModel", "howMany", "(I)I"⟩, 67), (⟨"FirstPancakeModel", "worthAll", "()I"⟩, 67), (⟨"FirstPancakeModel", "mix", "(J)V"⟩, 67), (⟨"FirstPancakeModel", "mixCake", "(I)V"⟩, 67)]
theorem lw_r4 : ∀ q ∈ lw_privs_4, lw_okq q := List.forall_mem_cons.mpr ⟨lw_p48, List.forall_mem_cons.mpr ⟨lw_p49, List.forall_mem_cons.mpr ⟨lw_p50, List.forall_mem_cons.mpr ⟨lw_p51, List.forall_mem_cons.mpr ⟨lw_p52, List.forall_mem_cons.mpr ⟨lw_p53, List.forall_mem_cons.mpr ⟨lw_p54, List.forall_mem_cons.mpr ⟨lw_p55, List.forall_mem_cons.mpr ⟨lw_p56, List.forall_mem_cons.mpr ⟨lw_p57, List.forall_mem_cons.mpr ⟨lw_p58, List.forall_mem_cons.mpr ⟨lw_p59, fun _ h => absurd h List.not_mem_nil⟩⟩⟩⟩⟩⟩⟩⟩⟩⟩⟩⟩
def lw_privs : List (MethodName × Nat) := lw_privs_1 ++ (lw_privs_2 ++ (lw_privs_3 ++ (lw_privs_4)))
def lw_tbl : List Cond := k2_sels lw_privs ++ tables_1
theorem lw_privs_ok : ∀ q ∈ lw_privs, lw_okq q := by
  show ∀ q ∈ lw_privs_1 ++ (lw_privs_2 ++ (lw_privs_3 ++ (lw_privs_4))), lw_okq q
  exact List.forall_mem_append.mpr ⟨lw_r1, List.forall_mem_append.mpr ⟨lw_r2, List.forall_mem_append.mpr ⟨lw_r3, lw_r4⟩⟩⟩
def RX0 : String := "FirstPancake$Cake"
def TX0 : u_T := fun k => match k with
  | 0 => ("FirstPancake$Cake", "thick", "[I", true)
  | _ => ("FirstPancake$Cake", "told", "[I", true)
def tyX0 : Nat → FieldType := fun k => match k with
  | 0 => .array .int
  | _ => .array .int
theorem nmX0 : ∀ a, a < 2 → ∀ b, b < 2 → a ≠ b → (TX0 a).2.1 ≠ (TX0 b).2.1 := by decide +kernel
theorem tyX0_ok : ∀ k, k < 2 → parseFieldDescriptor (TX0 k).2.2.1 = some (tyX0 k) := by decide +kernel
abbrev cX0_init : ByteArray := prog_2_method_1_code
def yX0_init : MethodName := ⟨RX0, "<init>", "()V"⟩
abbrev cX0_isRight : ByteArray := prog_2_method_2_code
def yX0_isRight : MethodName := ⟨RX0, "isRight", "()Z"⟩
abbrev cX0_passesAs : ByteArray := prog_2_method_3_code
def yX0_passesAs : MethodName := ⟨RX0, "passesAs", "(I)Z"⟩
abbrev cX0_measure : ByteArray := prog_2_method_4_code
def yX0_measure : MethodName := ⟨RX0, "measure", "()V"⟩
abbrev cX0_judge : ByteArray := prog_2_method_5_code
def yX0_judge : MethodName := ⟨RX0, "judge", "(III)V"⟩
abbrev cX0_kindNow : ByteArray := prog_2_method_6_code
def yX0_kindNow : MethodName := ⟨RX0, "kindNow", "()I"⟩
def RX1 : String := "FirstPancake$Condition"
def TX1 : u_T := fun k => match k with
  | 0 => ("FirstPancake$Condition", "warmth", "[I", true)
  | 1 => ("FirstPancake$Condition", "bits", "[I", true)
  | _ => ("FirstPancake$Condition", "fat", "I", false)
def tyX1 : Nat → FieldType := fun k => match k with
  | 0 => .array .int
  | 1 => .array .int
  | _ => .int
theorem nmX1 : ∀ a, a < 3 → ∀ b, b < 3 → a ≠ b → (TX1 a).2.1 ≠ (TX1 b).2.1 := by decide +kernel
theorem tyX1_ok : ∀ k, k < 3 → parseFieldDescriptor (TX1 k).2.2.1 = some (tyX1 k) := by decide +kernel
abbrev cX1_init : ByteArray := prog_3_method_1_code
def yX1_init : MethodName := ⟨RX1, "<init>", "()V"⟩
abbrev cX1_clear : ByteArray := prog_3_method_2_code
def yX1_clear : MethodName := ⟨RX1, "clear", "()V"⟩
abbrev cX1_clearBits : ByteArray := prog_3_method_3_code
def yX1_clearBits : MethodName := ⟨RX1, "clearBits", "()V"⟩
abbrev cX1_become : ByteArray := prog_3_method_4_code
def yX1_become : MethodName := ⟨RX1, "become", "(LFirstPancake$Condition;)V"⟩
abbrev cX1_takeWarmth : ByteArray := prog_3_method_5_code
def yX1_takeWarmth : MethodName := ⟨RX1, "takeWarmth", "(LFirstPancake$Condition;)V"⟩
abbrev cX1_bitsTogether : ByteArray := prog_3_method_6_code
def yX1_bitsTogether : MethodName := ⟨RX1, "bitsTogether", "()I"⟩
abbrev cX1_cool : ByteArray := prog_3_method_7_code
def yX1_cool : MethodName := ⟨RX1, "cool", "(II)V"⟩
abbrev cX1_heat : ByteArray := prog_3_method_8_code
def yX1_heat : MethodName := ⟨RX1, "heat", "(IIII)I"⟩
def RX2 : String := "FirstPancake$Foresight"
def TX2 : u_T := fun k => match k with
  | 0 => ("FirstPancake$Foresight", "pan", "LFirstPancake$Pan;", true)
  | 1 => ("FirstPancake$Foresight", "trial", "LFirstPancake$Condition;", true)
  | 2 => ("FirstPancake$Foresight", "later", "LFirstPancake$Condition;", true)
  | 3 => ("FirstPancake$Foresight", "cake", "LFirstPancake$Cake;", true)
  | 4 => ("FirstPancake$Foresight", "variant", "LFirstPancake$Plan;", true)
  | 5 => ("FirstPancake$Foresight", "found", "I", false)
  | 6 => ("FirstPancake$Foresight", "foundBehind", "I", false)
  | _ => ("FirstPancake$Foresight", "value", "I", false)
def tyX2 : Nat → FieldType := fun k => match k with
  | 0 => .object "FirstPancake$Pan"
  | 1 => .object "FirstPancake$Condition"
  | 2 => .object "FirstPancake$Condition"
  | 3 => .object "FirstPancake$Cake"
  | 4 => .object "FirstPancake$Plan"
  | 5 => .int
  | 6 => .int
  | _ => .int
theorem nmX2 : ∀ a, a < 8 → ∀ b, b < 8 → a ≠ b → (TX2 a).2.1 ≠ (TX2 b).2.1 := by decide +kernel
theorem tyX2_ok : ∀ k, k < 8 → parseFieldDescriptor (TX2 k).2.2.1 = some (tyX2 k) := by decide +kernel
abbrev cX2_init : ByteArray := prog_4_method_1_code
def yX2_init : MethodName := ⟨RX2, "<init>", "()V"⟩
abbrev cX2_next : ByteArray := prog_4_method_2_code
def yX2_next : MethodName := ⟨RX2, "next", "(LFirstPancake$Condition;LFirstPancake$Plan;)LFirstPancake$Cake;"⟩
abbrev cX2_firstOfTheRight : ByteArray := prog_4_method_3_code
def yX2_firstOfTheRight : MethodName := ⟨RX2, "firstOfTheRight", "(LFirstPancake$Condition;LFirstPancake$Plan;)I"⟩
abbrev cX2_notRight : ByteArray := prog_4_method_4_code
def yX2_notRight : MethodName := ⟨RX2, "notRight", "(LFirstPancake$Condition;LFirstPancake$Plan;)I"⟩
abbrev cX2_reasons : ByteArray := prog_4_method_5_code
def yX2_reasons : MethodName := ⟨RX2, "reasons", "(LFirstPancake$Condition;LFirstPancake$Plan;)I"⟩
abbrev cX2_warmBySix : ByteArray := prog_4_method_6_code
def yX2_warmBySix : MethodName := ⟨RX2, "warmBySix", "(LFirstPancake$Condition;LFirstPancake$Plan;)V"⟩
abbrev cX2_findFire : ByteArray := prog_4_method_7_code
def yX2_findFire : MethodName := ⟨RX2, "findFire", "(LFirstPancake$Condition;LFirstPancake$Plan;I)V"⟩
abbrev cX2_worthOf : ByteArray := prog_4_method_8_code
def yX2_worthOf : MethodName := ⟨RX2, "worthOf", "(LFirstPancake$Condition;I)I"⟩
abbrev cX2_findSwings : ByteArray := prog_4_method_9_code
def yX2_findSwings : MethodName := ⟨RX2, "findSwings", "(LFirstPancake$Condition;LFirstPancake$Plan;I)V"⟩
abbrev cX2_swingOf : ByteArray := prog_4_method_10_code
def yX2_swingOf : MethodName := ⟨RX2, "swingOf", "(III)I"⟩
abbrev cX2_findTwo : ByteArray := prog_4_method_11_code
def yX2_findTwo : MethodName := ⟨RX2, "findTwo", "(LFirstPancake$Condition;[LFirstPancake$Plan;I)V"⟩
def RX3 : String := "FirstPancake$Kitchen"
def TX3 : u_T := fun k => match k with
  | 0 => ("FirstPancake$Kitchen", "wants", "[I", true)
  | 1 => ("FirstPancake$Kitchen", "task", "[I", true)
  | 2 => ("FirstPancake$Kitchen", "most", "I", false)
  | _ => ("FirstPancake$Kitchen", "waited", "I", false)
def tyX3 : Nat → FieldType := fun k => match k with
  | 0 => .array .int
  | 1 => .array .int
  | 2 => .int
  | _ => .int
theorem nmX3 : ∀ a, a < 4 → ∀ b, b < 4 → a ≠ b → (TX3 a).2.1 ≠ (TX3 b).2.1 := by decide +kernel
theorem tyX3_ok : ∀ k, k < 4 → parseFieldDescriptor (TX3 k).2.2.1 = some (tyX3 k) := by decide +kernel
abbrev cX3_init : ByteArray := prog_5_method_1_code
def yX3_init : MethodName := ⟨RX3, "<init>", "()V"⟩
abbrev cX3_work : ByteArray := prog_5_method_2_code
def yX3_work : MethodName := ⟨RX3, "work", "(IIIII)V"⟩
abbrev cX3_longestWanting : ByteArray := prog_5_method_3_code
def yX3_longestWanting : MethodName := ⟨RX3, "longestWanting", "(I)I"⟩
def RX4 : String := "FirstPancake$Page"
def TX4 : u_T := fun k => match k with
  | 0 => ("FirstPancake$Page", "codes", "[I", true)
  | _ => ("FirstPancake$Page", "size", "I", false)
def tyX4 : Nat → FieldType := fun k => match k with
  | 0 => .array .int
  | _ => .int
theorem nmX4 : ∀ a, a < 2 → ∀ b, b < 2 → a ≠ b → (TX4 a).2.1 ≠ (TX4 b).2.1 := by decide +kernel
theorem tyX4_ok : ∀ k, k < 2 → parseFieldDescriptor (TX4 k).2.2.1 = some (tyX4 k) := by decide +kernel
abbrev cX4_init : ByteArray := prog_6_method_1_code
def yX4_init : MethodName := ⟨RX4, "<init>", "()V"⟩
abbrev cX4_lettersIn : ByteArray := prog_6_method_2_code
def yX4_lettersIn : MethodName := ⟨RX4, "lettersIn", "(J)I"⟩
abbrev cX4_add : ByteArray := prog_6_method_3_code
def yX4_add : MethodName := ⟨RX4, "add", "(JI)V"⟩
abbrev cX4_readAs : ByteArray := prog_6_method_4_code
def yX4_readAs : MethodName := ⟨RX4, "readAs", "(LFirstPancake$Text;)I"⟩
abbrev cX4_isWhole : ByteArray := prog_6_method_5_code
def yX4_isWhole : MethodName := ⟨RX4, "isWhole", "(LFirstPancake$Text;)Z"⟩
abbrev cX4_codeAt : ByteArray := prog_6_method_6_code
def yX4_codeAt : MethodName := ⟨RX4, "codeAt", "(JI)I"⟩
def RX5 : String := "FirstPancake$Pan"
def TX5 : u_T := fun k => match k with
  | 0 => ("FirstPancake$Pan", "ring", "[I", true)
  | 1 => ("FirstPancake$Pan", "sticky", "[Z", true)
  | 2 => ("FirstPancake$Pan", "cells", "I", false)
  | 3 => ("FirstPancake$Pan", "rows", "I", false)
  | 4 => ("FirstPancake$Pan", "columns", "I", false)
  | 5 => ("FirstPancake$Pan", "fast", "[Z", true)
  | _ => ("FirstPancake$Pan", "leaving", "[I", true)
def tyX5 : Nat → FieldType := fun k => match k with
  | 0 => .array .int
  | 1 => .array .boolean
  | 2 => .int
  | 3 => .int
  | 4 => .int
  | 5 => .array .boolean
  | _ => .array .int
theorem nmX5 : ∀ a, a < 7 → ∀ b, b < 7 → a ≠ b → (TX5 a).2.1 ≠ (TX5 b).2.1 := by decide +kernel
theorem tyX5_ok : ∀ k, k < 7 → parseFieldDescriptor (TX5 k).2.2.1 = some (tyX5 k) := by decide +kernel
abbrev cX5_init : ByteArray := prog_7_method_1_code
def yX5_init : MethodName := ⟨RX5, "<init>", "()V"⟩
abbrev cX5_become : ByteArray := prog_7_method_2_code
def yX5_become : MethodName := ⟨RX5, "become", "(LFirstPancake$PanText;)V"⟩
abbrev cX5_bake : ByteArray := prog_7_method_3_code
def yX5_bake : MethodName := ⟨RX5, "bake", "(LFirstPancake$Condition;LFirstPancake$Plan;LFirstPancake$Cake;)V"⟩
abbrev cX5_spread : ByteArray := prog_7_method_4_code
def yX5_spread : MethodName := ⟨RX5, "spread", "(LFirstPancake$Condition;LFirstPancake$Plan;LFirstPancake$Cake;)I"⟩
abbrev cX5_pour : ByteArray := prog_7_method_5_code
def yX5_pour : MethodName := ⟨RX5, "pour", "(LFirstPancake$Condition;ILFirstPancake$Cake;)V"⟩
abbrev cX5_lie : ByteArray := prog_7_method_6_code
def yX5_lie : MethodName := ⟨RX5, "lie", "(LFirstPancake$Condition;IILFirstPancake$Cake;)I"⟩
abbrev cX5_fasten : ByteArray := prog_7_method_7_code
def yX5_fasten : MethodName := ⟨RX5, "fasten", "(LFirstPancake$Condition;LFirstPancake$Cake;)V"⟩
abbrev cX5_run : ByteArray := prog_7_method_8_code
def yX5_run : MethodName := ⟨RX5, "run", "(LFirstPancake$Condition;LFirstPancake$Cake;I)V"⟩
abbrev cX5_beside : ByteArray := prog_7_method_9_code
def yX5_beside : MethodName := ⟨RX5, "beside", "(III)I"⟩
abbrev cX5_takeOut : ByteArray := prog_7_method_10_code
def yX5_takeOut : MethodName := ⟨RX5, "takeOut", "(LFirstPancake$Condition;LFirstPancake$Cake;)I"⟩
def RX6 : String := "FirstPancake$PanText"
def TX6 : u_T := fun k => match k with
  | 0 => ("FirstPancake$PanText", "ring", "[I", true)
  | 1 => ("FirstPancake$PanText", "sticky", "[Z", true)
  | 2 => ("FirstPancake$PanText", "rows", "I", false)
  | 3 => ("FirstPancake$PanText", "cells", "I", false)
  | 4 => ("FirstPancake$PanText", "width", "I", false)
  | 5 => ("FirstPancake$PanText", "inRow", "I", false)
  | _ => ("FirstPancake$PanText", "behindRing", "Z", false)
def tyX6 : Nat → FieldType := fun k => match k with
  | 0 => .array .int
  | 1 => .array .boolean
  | 2 => .int
  | 3 => .int
  | 4 => .int
  | 5 => .int
  | _ => .boolean
theorem nmX6 : ∀ a, a < 7 → ∀ b, b < 7 → a ≠ b → (TX6 a).2.1 ≠ (TX6 b).2.1 := by decide +kernel
theorem tyX6_ok : ∀ k, k < 7 → parseFieldDescriptor (TX6 k).2.2.1 = some (tyX6 k) := by decide +kernel
abbrev cX6_init : ByteArray := prog_8_method_1_code
def yX6_init : MethodName := ⟨RX6, "<init>", "()V"⟩
abbrev cX6_begin : ByteArray := prog_8_method_2_code
def yX6_begin : MethodName := ⟨RX6, "begin", "()V"⟩
abbrev cX6_take : ByteArray := prog_8_method_3_code
def yX6_take : MethodName := ⟨RX6, "take", "(I)Z"⟩
abbrev cX6_whole : ByteArray := prog_8_method_4_code
def yX6_whole : MethodName := ⟨RX6, "whole", "()Z"⟩
abbrev cX6_takeRing : ByteArray := prog_8_method_5_code
def yX6_takeRing : MethodName := ⟨RX6, "takeRing", "(I)Z"⟩
abbrev cX6_takeSticky : ByteArray := prog_8_method_6_code
def yX6_takeSticky : MethodName := ⟨RX6, "takeSticky", "()Z"⟩
abbrev cX6_takeRowEnd : ByteArray := prog_8_method_7_code
def yX6_takeRowEnd : MethodName := ⟨RX6, "takeRowEnd", "()Z"⟩
def RX7 : String := "FirstPancake$Plan"
def TX7 : u_T := fun k => match k with
  | 0 => ("FirstPancake$Plan", "swings", "[I", true)
  | 1 => ("FirstPancake$Plan", "fire", "I", false)
  | 2 => ("FirstPancake$Plan", "amount", "I", false)
  | 3 => ("FirstPancake$Plan", "first", "I", false)
  | 4 => ("FirstPancake$Plan", "second", "I", false)
  | _ => ("FirstPancake$Plan", "swingCount", "I", false)
def tyX7 : Nat → FieldType := fun k => match k with
  | 0 => .array .int
  | 1 => .int
  | 2 => .int
  | 3 => .int
  | 4 => .int
  | _ => .int
theorem nmX7 : ∀ a, a < 6 → ∀ b, b < 6 → a ≠ b → (TX7 a).2.1 ≠ (TX7 b).2.1 := by decide +kernel
theorem tyX7_ok : ∀ k, k < 6 → parseFieldDescriptor (TX7 k).2.2.1 = some (tyX7 k) := by decide +kernel
abbrev cX7_init : ByteArray := prog_9_method_1_code
def yX7_init : MethodName := ⟨RX7, "<init>", "()V"⟩
abbrev cX7_become : ByteArray := prog_9_method_2_code
def yX7_become : MethodName := ⟨RX7, "become", "(LFirstPancake$PlanText;)V"⟩
abbrev cX7_become_ : ByteArray := prog_9_method_3_code
def yX7_become_ : MethodName := ⟨RX7, "become", "(LFirstPancake$Plan;)V"⟩
abbrev cX7_told : ByteArray := prog_9_method_4_code
def yX7_told : MethodName := ⟨RX7, "told", "(I)I"⟩
abbrev cX7_swingAt : ByteArray := prog_9_method_5_code
def yX7_swingAt : MethodName := ⟨RX7, "swingAt", "(I)I"⟩
def RX8 : String := "FirstPancake$PlanText"
def TX8 : u_T := fun k => match k with
  | 0 => ("FirstPancake$PlanText", "numbers", "[I", true)
  | 1 => ("FirstPancake$PlanText", "swings", "[I", true)
  | 2 => ("FirstPancake$PlanText", "swingCount", "I", false)
  | _ => ("FirstPancake$PlanText", "part", "I", false)
def tyX8 : Nat → FieldType := fun k => match k with
  | 0 => .array .int
  | 1 => .array .int
  | 2 => .int
  | _ => .int
theorem nmX8 : ∀ a, a < 4 → ∀ b, b < 4 → a ≠ b → (TX8 a).2.1 ≠ (TX8 b).2.1 := by decide +kernel
theorem tyX8_ok : ∀ k, k < 4 → parseFieldDescriptor (TX8 k).2.2.1 = some (tyX8 k) := by decide +kernel
abbrev cX8_init : ByteArray := prog_10_method_1_code
def yX8_init : MethodName := ⟨RX8, "<init>", "()V"⟩
abbrev cX8_begin : ByteArray := prog_10_method_2_code
def yX8_begin : MethodName := ⟨RX8, "begin", "()V"⟩
abbrev cX8_take : ByteArray := prog_10_method_3_code
def yX8_take : MethodName := ⟨RX8, "take", "(I)Z"⟩
abbrev cX8_whole : ByteArray := prog_10_method_4_code
def yX8_whole : MethodName := ⟨RX8, "whole", "()Z"⟩
abbrev cX8_takeDigit : ByteArray := prog_10_method_5_code
def yX8_takeDigit : MethodName := ⟨RX8, "takeDigit", "(I)Z"⟩
abbrev cX8_takeSwing : ByteArray := prog_10_method_6_code
def yX8_takeSwing : MethodName := ⟨RX8, "takeSwing", "(I)Z"⟩
abbrev cX8_takeSign : ByteArray := prog_10_method_7_code
def yX8_takeSign : MethodName := ⟨RX8, "takeSign", "(I)Z"⟩
def RX9 : String := "FirstPancake$Text"
def TX9 : u_T := fun k => match k with
  | _ => ("", "", "", false)
def tyX9 : Nat → FieldType := fun k => match k with
  | _ => .int
theorem nmX9 : ∀ a, a < 0 → ∀ b, b < 0 → a ≠ b → (TX9 a).2.1 ≠ (TX9 b).2.1 := by decide +kernel
theorem tyX9_ok : ∀ k, k < 0 → parseFieldDescriptor (TX9 k).2.2.1 = some (tyX9 k) := by decide +kernel
abbrev cX9_init : ByteArray := prog_11_method_1_code
def yX9_init : MethodName := ⟨RX9, "<init>", "()V"⟩
abbrev cX9_isDigit : ByteArray := prog_11_method_5_code
def yX9_isDigit : MethodName := ⟨RX9, "isDigit", "(I)Z"⟩
def RX10 : String := "FirstPancake$Wrist"
def TX10 : u_T := fun k => match k with
  | _ => ("", "", "", false)
def tyX10 : Nat → FieldType := fun k => match k with
  | _ => .int
theorem nmX10 : ∀ a, a < 0 → ∀ b, b < 0 → a ≠ b → (TX10 a).2.1 ≠ (TX10 b).2.1 := by decide +kernel
theorem tyX10_ok : ∀ k, k < 0 → parseFieldDescriptor (TX10 k).2.2.1 = some (tyX10 k) := by decide +kernel
abbrev cX10_turnsOver : ByteArray := prog_12_method_2_code
def yX10_turnsOver : MethodName := ⟨RX10, "turnsOver", "(II)Z"⟩
abbrev cX10_paces : ByteArray := prog_12_method_3_code
def yX10_paces : MethodName := ⟨RX10, "paces", "(II)I"⟩
abbrev cX10_landings : ByteArray := prog_12_method_4_code
def yX10_landings : MethodName := ⟨RX10, "landings", "(III)I"⟩
abbrev cX10_likeliestSpin : ByteArray := prog_12_method_5_code
def yX10_likeliestSpin : MethodName := ⟨RX10, "likeliestSpin", "(II)I"⟩
abbrev cX10_commonDivisor : ByteArray := prog_12_method_6_code
def yX10_commonDivisor : MethodName := ⟨RX10, "commonDivisor", "(II)I"⟩
abbrev cX10_slowest : ByteArray := prog_12_method_7_code
def yX10_slowest : MethodName := ⟨RX10, "slowest", "(II)I"⟩
def RX11 : String := "FirstPancake"
def TX11 : u_T := fun k => match k with
  | 0 => ("FirstPancake", "page", "LFirstPancake$Page;", true)
  | 1 => ("FirstPancake", "panText", "LFirstPancake$PanText;", true)
  | 2 => ("FirstPancake", "planText", "LFirstPancake$PlanText;", true)
  | 3 => ("FirstPancake", "foresight", "LFirstPancake$Foresight;", true)
  | 4 => ("FirstPancake", "pan", "LFirstPancake$Pan;", true)
  | 5 => ("FirstPancake", "now", "LFirstPancake$Condition;", true)
  | 6 => ("FirstPancake", "kept", "LFirstPancake$Condition;", true)
  | 7 => ("FirstPancake", "plans", "[LFirstPancake$Plan;", true)
  | 8 => ("FirstPancake", "cakes", "[LFirstPancake$Cake;", true)
  | 9 => ("FirstPancake", "kitchen", "LFirstPancake$Kitchen;", true)
  | 10 => ("FirstPancake", "planCount", "I", false)
  | 11 => ("FirstPancake", "cakeCount", "I", false)
  | 12 => ("FirstPancake", "keptCakes", "I", false)
  | 13 => ("FirstPancake", "imageKept", "Z", false)
  | 14 => ("FirstPancake", "pansRead", "I", false)
  | _ => ("FirstPancake", "searches", "I", false)
def tyX11 : Nat → FieldType := fun k => match k with
  | 0 => .object "FirstPancake$Page"
  | 1 => .object "FirstPancake$PanText"
  | 2 => .object "FirstPancake$PlanText"
  | 3 => .object "FirstPancake$Foresight"
  | 4 => .object "FirstPancake$Pan"
  | 5 => .object "FirstPancake$Condition"
  | 6 => .object "FirstPancake$Condition"
  | 7 => .array (.object "FirstPancake$Plan")
  | 8 => .array (.object "FirstPancake$Cake")
  | 9 => .object "FirstPancake$Kitchen"
  | 10 => .int
  | 11 => .int
  | 12 => .int
  | 13 => .boolean
  | 14 => .int
  | _ => .int
theorem nmX11 : ∀ a, a < 16 → ∀ b, b < 16 → a ≠ b → (TX11 a).2.1 ≠ (TX11 b).2.1 := by decide +kernel
theorem tyX11_ok : ∀ k, k < 16 → parseFieldDescriptor (TX11 k).2.2.1 = some (tyX11 k) := by decide +kernel
abbrev cX11_init : ByteArray := prog_1_method_1_code
def yX11_init : MethodName := ⟨RX11, "<init>", "()V"⟩
abbrev cX11_letters : ByteArray := prog_1_method_2_code
def yX11_letters : MethodName := ⟨RX11, "letters", "(J)I"⟩
abbrev cX11_blank : ByteArray := prog_1_method_3_code
def yX11_blank : MethodName := ⟨RX11, "blank", "()I"⟩
abbrev cX11_fault : ByteArray := prog_1_method_4_code
def yX11_fault : MethodName := ⟨RX11, "fault", "(I)I"⟩
abbrev cX11_pan : ByteArray := prog_1_method_5_code
def yX11_pan : MethodName := ⟨RX11, "pan", "()I"⟩
abbrev cX11_plan : ByteArray := prog_1_method_6_code
def yX11_plan : MethodName := ⟨RX11, "plan", "()I"⟩
abbrev cX11_planTold : ByteArray := prog_1_method_7_code
def yX11_planTold : MethodName := ⟨RX11, "planTold", "(II)I"⟩
abbrev cX11_cell : ByteArray := prog_1_method_8_code
def yX11_cell : MethodName := ⟨RX11, "cell", "(II)I"⟩
abbrev cX11_warm : ByteArray := prog_1_method_9_code
def yX11_warm : MethodName := ⟨RX11, "warm", "(II)I"⟩
abbrev cX11_fat : ByteArray := prog_1_method_10_code
def yX11_fat : MethodName := ⟨RX11, "fat", "(I)I"⟩
abbrev cX11_scrape : ByteArray := prog_1_method_11_code
def yX11_scrape : MethodName := ⟨RX11, "scrape", "()I"⟩
abbrev cX11_fry : ByteArray := prog_1_method_12_code
def yX11_fry : MethodName := ⟨RX11, "fry", "(I)I"⟩
abbrev cX11_cake : ByteArray := prog_1_method_13_code
def yX11_cake : MethodName := ⟨RX11, "cake", "(II)I"⟩
abbrev cX11_as : ByteArray := prog_1_method_14_code
def yX11_as : MethodName := ⟨RX11, "as", "(II)I"⟩
abbrev cX11_thick : ByteArray := prog_1_method_15_code
def yX11_thick : MethodName := ⟨RX11, "thick", "(II)I"⟩
abbrev cX11_tried : ByteArray := prog_1_method_16_code
def yX11_tried : MethodName := ⟨RX11, "tried", "(II)I"⟩
abbrev cX11_from : ByteArray := prog_1_method_17_code
def yX11_from : MethodName := ⟨RX11, "from", "(I)I"⟩
abbrev cX11_dogs : ByteArray := prog_1_method_18_code
def yX11_dogs : MethodName := ⟨RX11, "dogs", "(I)I"⟩
abbrev cX11_why : ByteArray := prog_1_method_19_code
def yX11_why : MethodName := ⟨RX11, "why", "(I)I"⟩
abbrev cX11_bestFire : ByteArray := prog_1_method_20_code
def yX11_bestFire : MethodName := ⟨RX11, "bestFire", "(III)I"⟩
abbrev cX11_bestSwing : ByteArray := prog_1_method_21_code
def yX11_bestSwing : MethodName := ⟨RX11, "bestSwing", "(III)I"⟩
abbrev cX11_nextTwo : ByteArray := prog_1_method_22_code
def yX11_nextTwo : MethodName := ⟨RX11, "nextTwo", "(I)I"⟩
abbrev cX11_rounds : ByteArray := prog_1_method_23_code
def yX11_rounds : MethodName := ⟨RX11, "rounds", "(IIIIII)I"⟩
abbrev cX11_toss : ByteArray := prog_1_method_24_code
def yX11_toss : MethodName := ⟨RX11, "toss", "(II)I"⟩
abbrev cX11_lands : ByteArray := prog_1_method_25_code
def yX11_lands : MethodName := ⟨RX11, "lands", "(IIII)I"⟩
abbrev cX11_bestSpin : ByteArray := prog_1_method_26_code
def yX11_bestSpin : MethodName := ⟨RX11, "bestSpin", "(II)I"⟩
abbrev cX11_image : ByteArray := prog_1_method_27_code
def yX11_image : MethodName := ⟨RX11, "image", "()I"⟩
abbrev cX11_restore : ByteArray := prog_1_method_28_code
def yX11_restore : MethodName := ⟨RX11, "restore", "()I"⟩
abbrev cX11_count : ByteArray := prog_1_method_29_code
def yX11_count : MethodName := ⟨RX11, "count", "(I)I"⟩
abbrev cX11_digest : ByteArray := prog_1_method_30_code
def yX11_digest : MethodName := ⟨RX11, "digest", "()J"⟩
abbrev cX11_digestOfCells : ByteArray := prog_1_method_31_code
def yX11_digestOfCells : MethodName := ⟨RX11, "digestOfCells", "(J)J"⟩
abbrev cX11_digestOfPlans : ByteArray := prog_1_method_32_code
def yX11_digestOfPlans : MethodName := ⟨RX11, "digestOfPlans", "(J)J"⟩
abbrev cX11_digestOfCakes : ByteArray := prog_1_method_33_code
def yX11_digestOfCakes : MethodName := ⟨RX11, "digestOfCakes", "(J)J"⟩
abbrev cX11_digestOfTried : ByteArray := prog_1_method_34_code
def yX11_digestOfTried : MethodName := ⟨RX11, "digestOfTried", "(J)J"⟩
abbrev cX11_worthTogether : ByteArray := prog_1_method_35_code
def yX11_worthTogether : MethodName := ⟨RX11, "worthTogether", "()I"⟩
abbrev cX11_hasPan : ByteArray := prog_1_method_36_code
def yX11_hasPan : MethodName := ⟨RX11, "hasPan", "()Z"⟩
abbrev cX11_isPlan : ByteArray := prog_1_method_37_code
def yX11_isPlan : MethodName := ⟨RX11, "isPlan", "(I)Z"⟩
abbrev cX11_isCell : ByteArray := prog_1_method_38_code
def yX11_isCell : MethodName := ⟨RX11, "isCell", "(I)Z"⟩
abbrev cX11_isCake : ByteArray := prog_1_method_39_code
def yX11_isCake : MethodName := ⟨RX11, "isCake", "(I)Z"⟩
abbrev cX11_within : ByteArray := prog_1_method_40_code
def yX11_within : MethodName := ⟨RX11, "within", "(III)Z"⟩
abbrev cX11_mixed : ByteArray := prog_1_method_41_code
def yX11_mixed : MethodName := ⟨RX11, "mixed", "(JJ)J"⟩
def RX12 : String := "FirstPancakeModel"
def TX12 : u_T := fun k => match k with
  | 0 => ("FirstPancakeModel", "rows", "I", false)
  | 1 => ("FirstPancakeModel", "columns", "I", false)
  | 2 => ("FirstPancakeModel", "pans", "I", false)
  | 3 => ("FirstPancakeModel", "ring", "[I", true)
  | 4 => ("FirstPancakeModel", "isSticky", "[Z", true)
  | 5 => ("FirstPancakeModel", "warmth", "[I", true)
  | 6 => ("FirstPancakeModel", "bits", "[I", true)
  | 7 => ("FirstPancakeModel", "fatNow", "I", false)
  | 8 => ("FirstPancakeModel", "plans", "I", false)
  | 9 => ("FirstPancakeModel", "fireOf", "[I", true)
  | 10 => ("FirstPancakeModel", "amountOf", "[I", true)
  | 11 => ("FirstPancakeModel", "firstOf", "[I", true)
  | 12 => ("FirstPancakeModel", "secondOf", "[I", true)
  | 13 => ("FirstPancakeModel", "swingMany", "[I", true)
  | 14 => ("FirstPancakeModel", "swingOf", "[I", true)
  | 15 => ("FirstPancakeModel", "cakes", "I", false)
  | 16 => ("FirstPancakeModel", "cakeOf", "[I", true)
  | 17 => ("FirstPancakeModel", "thickOf", "[I", true)
  | 18 => ("FirstPancakeModel", "asks", "I", false)
  | 19 => ("FirstPancakeModel", "pageLength", "I", false)
  | 20 => ("FirstPancakeModel", "page", "[B", true)
  | 21 => ("FirstPancakeModel", "isKept", "Z", false)
  | 22 => ("FirstPancakeModel", "keptPan", "I", false)
  | 23 => ("FirstPancakeModel", "keptFat", "I", false)
  | 24 => ("FirstPancakeModel", "keptCakes", "I", false)
  | 25 => ("FirstPancakeModel", "keptWarmth", "[I", true)
  | 26 => ("FirstPancakeModel", "keptBits", "[I", true)
  | 27 => ("FirstPancakeModel", "faultAt", "I", false)
  | 28 => ("FirstPancakeModel", "isWhole", "Z", false)
  | 29 => ("FirstPancakeModel", "newRows", "I", false)
  | 30 => ("FirstPancakeModel", "newColumns", "I", false)
  | 31 => ("FirstPancakeModel", "newHere", "I", false)
  | 32 => ("FirstPancakeModel", "newBare", "Z", false)
  | 33 => ("FirstPancakeModel", "newRing", "[I", true)
  | 34 => ("FirstPancakeModel", "newSticky", "[Z", true)
  | 35 => ("FirstPancakeModel", "newFire", "I", false)
  | 36 => ("FirstPancakeModel", "newAmount", "I", false)
  | 37 => ("FirstPancakeModel", "newFirst", "I", false)
  | 38 => ("FirstPancakeModel", "newSecond", "I", false)
  | 39 => ("FirstPancakeModel", "newSwings", "I", false)
  | 40 => ("FirstPancakeModel", "newSwing", "[I", true)
  | 41 => ("FirstPancakeModel", "warm", "[I", true)
  | 42 => ("FirstPancakeModel", "bit", "[I", true)
  | 43 => ("FirstPancakeModel", "fat", "I", false)
  | 44 => ("FirstPancakeModel", "fire", "I", false)
  | 45 => ("FirstPancakeModel", "amount", "I", false)
  | 46 => ("FirstPancakeModel", "first", "I", false)
  | 47 => ("FirstPancakeModel", "second", "I", false)
  | 48 => ("FirstPancakeModel", "swings", "I", false)
  | 49 => ("FirstPancakeModel", "swing", "[I", true)
  | 50 => ("FirstPancakeModel", "thick", "[I", true)
  | 51 => ("FirstPancakeModel", "moved", "[I", true)
  | 52 => ("FirstPancakeModel", "isFast", "[Z", true)
  | 53 => ("FirstPancakeModel", "brown", "[I", true)
  | 54 => ("FirstPancakeModel", "kind", "I", false)
  | 55 => ("FirstPancakeModel", "mean", "I", false)
  | 56 => ("FirstPancakeModel", "other", "I", false)
  | 57 => ("FirstPancakeModel", "edge", "I", false)
  | 58 => ("FirstPancakeModel", "many", "I", false)
  | 59 => ("FirstPancakeModel", "stuck", "I", false)
  | 60 => ("FirstPancakeModel", "worth", "I", false)
  | 61 => ("FirstPancakeModel", "fromNow", "I", false)
  | 62 => ("FirstPancakeModel", "dogsNow", "I", false)
  | 63 => ("FirstPancakeModel", "warmThen", "[I", true)
  | 64 => ("FirstPancakeModel", "since", "[I", true)
  | 65 => ("FirstPancakeModel", "wants", "[I", true)
  | _ => ("FirstPancakeModel", "h", "J", false)
def tyX12 : Nat → FieldType := fun k => match k with
  | 0 => .int
  | 1 => .int
  | 2 => .int
  | 3 => .array .int
  | 4 => .array .boolean
  | 5 => .array .int
  | 6 => .array .int
  | 7 => .int
  | 8 => .int
  | 9 => .array .int
  | 10 => .array .int
  | 11 => .array .int
  | 12 => .array .int
  | 13 => .array .int
  | 14 => .array .int
  | 15 => .int
  | 16 => .array .int
  | 17 => .array .int
  | 18 => .int
  | 19 => .int
  | 20 => .array .byte
  | 21 => .boolean
  | 22 => .int
  | 23 => .int
  | 24 => .int
  | 25 => .array .int
  | 26 => .array .int
  | 27 => .int
  | 28 => .boolean
  | 29 => .int
  | 30 => .int
  | 31 => .int
  | 32 => .boolean
  | 33 => .array .int
  | 34 => .array .boolean
  | 35 => .int
  | 36 => .int
  | 37 => .int
  | 38 => .int
  | 39 => .int
  | 40 => .array .int
  | 41 => .array .int
  | 42 => .array .int
  | 43 => .int
  | 44 => .int
  | 45 => .int
  | 46 => .int
  | 47 => .int
  | 48 => .int
  | 49 => .array .int
  | 50 => .array .int
  | 51 => .array .int
  | 52 => .array .boolean
  | 53 => .array .int
  | 54 => .int
  | 55 => .int
  | 56 => .int
  | 57 => .int
  | 58 => .int
  | 59 => .int
  | 60 => .int
  | 61 => .int
  | 62 => .int
  | 63 => .array .int
  | 64 => .array .int
  | 65 => .array .int
  | _ => .long
theorem nmX12 : ∀ a, a < 67 → ∀ b, b < 67 → a ≠ b → (TX12 a).2.1 ≠ (TX12 b).2.1 := by decide +kernel
theorem tyX12_ok : ∀ k, k < 67 → parseFieldDescriptor (TX12 k).2.2.1 = some (tyX12 k) := by decide +kernel
abbrev cX12_init : ByteArray := prog_14_method_1_code
def yX12_init : MethodName := ⟨RX12, "<init>", "()V"⟩
abbrev cX12_within : ByteArray := prog_14_method_3_code
def yX12_within : MethodName := ⟨RX12, "within", "(III)Z"⟩
abbrev cX12_atLeast : ByteArray := prog_14_method_4_code
def yX12_atLeast : MethodName := ⟨RX12, "atLeast", "(I)I"⟩
abbrev cX12_letters : ByteArray := prog_14_method_5_code
def yX12_letters : MethodName := ⟨RX12, "letters", "(J)I"⟩
abbrev cX12_blank : ByteArray := prog_14_method_6_code
def yX12_blank : MethodName := ⟨RX12, "blank", "()I"⟩
abbrev cX12_isDigit : ByteArray := prog_14_method_7_code
def yX12_isDigit : MethodName := ⟨RX12, "isDigit", "(I)Z"⟩
abbrev cX12_takePan : ByteArray := prog_14_method_8_code
def yX12_takePan : MethodName := ⟨RX12, "takePan", "(I)Z"⟩
abbrev cX12_readPan : ByteArray := prog_14_method_9_code
def yX12_readPan : MethodName := ⟨RX12, "readPan", "()V"⟩
abbrev cX12_swingBy : ByteArray := prog_14_method_10_code
def yX12_swingBy : MethodName := ⟨RX12, "swingBy", "(I)I"⟩
abbrev cX12_number : ByteArray := prog_14_method_11_code
def yX12_number : MethodName := ⟨RX12, "number", "(I)I"⟩
abbrev cX12_setNumber : ByteArray := prog_14_method_12_code
def yX12_setNumber : MethodName := ⟨RX12, "setNumber", "(II)V"⟩
abbrev cX12_beginNumber : ByteArray := prog_14_method_13_code
def yX12_beginNumber : MethodName := ⟨RX12, "beginNumber", "(II)Z"⟩
abbrev cX12_goOnNumber : ByteArray := prog_14_method_14_code
def yX12_goOnNumber : MethodName := ⟨RX12, "goOnNumber", "(II)Z"⟩
abbrev cX12_nextPlan : ByteArray := prog_14_method_15_code
def yX12_nextPlan : MethodName := ⟨RX12, "nextPlan", "(II)I"⟩
abbrev cX12_afterAmount : ByteArray := prog_14_method_16_code
def yX12_afterAmount : MethodName := ⟨RX12, "afterAmount", "(I)I"⟩
abbrev cX12_readPlan : ByteArray := prog_14_method_17_code
def yX12_readPlan : MethodName := ⟨RX12, "readPlan", "()V"⟩
abbrev cX12_fault : ByteArray := prog_14_method_18_code
def yX12_fault : MethodName := ⟨RX12, "fault", "(I)I"⟩
abbrev cX12_pan : ByteArray := prog_14_method_19_code
def yX12_pan : MethodName := ⟨RX12, "pan", "()I"⟩
abbrev cX12_plan : ByteArray := prog_14_method_20_code
def yX12_plan : MethodName := ⟨RX12, "plan", "()I"⟩
abbrev cX12_isPlan : ByteArray := prog_14_method_21_code
def yX12_isPlan : MethodName := ⟨RX12, "isPlan", "(I)Z"⟩
abbrev cX12_planNow : ByteArray := prog_14_method_22_code
def yX12_planNow : MethodName := ⟨RX12, "planNow", "(II)I"⟩
abbrev cX12_planTold : ByteArray := prog_14_method_23_code
def yX12_planTold : MethodName := ⟨RX12, "planTold", "(II)I"⟩
abbrev cX12_cells : ByteArray := prog_14_method_24_code
def yX12_cells : MethodName := ⟨RX12, "cells", "()I"⟩
abbrev cX12_isCell : ByteArray := prog_14_method_25_code
def yX12_isCell : MethodName := ⟨RX12, "isCell", "(I)Z"⟩
abbrev cX12_cellNow : ByteArray := prog_14_method_26_code
def yX12_cellNow : MethodName := ⟨RX12, "cellNow", "(II)I"⟩
abbrev cX12_cell : ByteArray := prog_14_method_27_code
def yX12_cell : MethodName := ⟨RX12, "cell", "(II)I"⟩
abbrev cX12_loadPan : ByteArray := prog_14_method_28_code
def yX12_loadPan : MethodName := ⟨RX12, "loadPan", "()V"⟩
abbrev cX12_loadPlan : ByteArray := prog_14_method_29_code
def yX12_loadPlan : MethodName := ⟨RX12, "loadPlan", "(I)V"⟩
abbrev cX12_goTick : ByteArray := prog_14_method_30_code
def yX12_goTick : MethodName := ⟨RX12, "goTick", "(II)V"⟩
abbrev cX12_beside : ByteArray := prog_14_method_31_code
def yX12_beside : MethodName := ⟨RX12, "beside", "(II)I"⟩
abbrev cX12_goSwing : ByteArray := prog_14_method_32_code
def yX12_goSwing : MethodName := ⟨RX12, "goSwing", "(I)V"⟩
abbrev cX12_takeOut : ByteArray := prog_14_method_33_code
def yX12_takeOut : MethodName := ⟨RX12, "takeOut", "()V"⟩
abbrev cX12_judge : ByteArray := prog_14_method_34_code
def yX12_judge : MethodName := ⟨RX12, "judge", "()V"⟩
abbrev cX12_worthOf : ByteArray := prog_14_method_35_code
def yX12_worthOf : MethodName := ⟨RX12, "worthOf", "(I)I"⟩
abbrev cX12_goCake : ByteArray := prog_14_method_36_code
def yX12_goCake : MethodName := ⟨RX12, "goCake", "()V"⟩
abbrev cX12_putPan : ByteArray := prog_14_method_37_code
def yX12_putPan : MethodName := ⟨RX12, "putPan", "()V"⟩
abbrev cX12_warm : ByteArray := prog_14_method_38_code
def yX12_warm : MethodName := ⟨RX12, "warm", "(II)I"⟩
abbrev cX12_fat : ByteArray := prog_14_method_39_code
def yX12_fat : MethodName := ⟨RX12, "fat", "(I)I"⟩
abbrev cX12_bitsAll : ByteArray := prog_14_method_40_code
def yX12_bitsAll : MethodName := ⟨RX12, "bitsAll", "()I"⟩
abbrev cX12_scrape : ByteArray := prog_14_method_41_code
def yX12_scrape : MethodName := ⟨RX12, "scrape", "()I"⟩
abbrev cX12_triedNow : ByteArray := prog_14_method_42_code
def yX12_triedNow : MethodName := ⟨RX12, "triedNow", "(I)I"⟩
abbrev cX12_bars : ByteArray := prog_14_method_43_code
def yX12_bars : MethodName := ⟨RX12, "bars", "(I)I"⟩
abbrev cX12_fry : ByteArray := prog_14_method_44_code
def yX12_fry : MethodName := ⟨RX12, "fry", "(I)I"⟩
abbrev cX12_isCake : ByteArray := prog_14_method_45_code
def yX12_isCake : MethodName := ⟨RX12, "isCake", "(I)Z"⟩
abbrev cX12_cake : ByteArray := prog_14_method_46_code
def yX12_cake : MethodName := ⟨RX12, "cake", "(II)I"⟩
abbrev cX12_as : ByteArray := prog_14_method_47_code
def yX12_as : MethodName := ⟨RX12, "as", "(II)I"⟩
abbrev cX12_thick : ByteArray := prog_14_method_48_code
def yX12_thick : MethodName := ⟨RX12, "thick", "(II)I"⟩
abbrev cX12_layNext : ByteArray := prog_14_method_49_code
def yX12_layNext : MethodName := ⟨RX12, "layNext", "(I)V"⟩
abbrev cX12_tried : ByteArray := prog_14_method_50_code
def yX12_tried : MethodName := ⟨RX12, "tried", "(II)I"⟩
abbrev cX12_layTwelve : ByteArray := prog_14_method_51_code
def yX12_layTwelve : MethodName := ⟨RX12, "layTwelve", "(I)V"⟩
abbrev cX12_from : ByteArray := prog_14_method_52_code
def yX12_from : MethodName := ⟨RX12, "from", "(I)I"⟩
abbrev cX12_dogs : ByteArray := prog_14_method_53_code
def yX12_dogs : MethodName := ⟨RX12, "dogs", "(I)I"⟩
abbrev cX12_isRightBy : ByteArray := prog_14_method_54_code
def yX12_isRightBy : MethodName := ⟨RX12, "isRightBy", "(I)Z"⟩
abbrev cX12_why : ByteArray := prog_14_method_55_code
def yX12_why : MethodName := ⟨RX12, "why", "(I)I"⟩
abbrev cX12_bestFire : ByteArray := prog_14_method_56_code
def yX12_bestFire : MethodName := ⟨RX12, "bestFire", "(III)I"⟩
abbrev cX12_bestSwing : ByteArray := prog_14_method_57_code
def yX12_bestSwing : MethodName := ⟨RX12, "bestSwing", "(III)I"⟩
abbrev cX12_nextTwo : ByteArray := prog_14_method_58_code
def yX12_nextTwo : MethodName := ⟨RX12, "nextTwo", "(I)I"⟩
abbrev cX12_longest : ByteArray := prog_14_method_59_code
def yX12_longest : MethodName := ⟨RX12, "longest", "(I)I"⟩
abbrev cX12_rounds : ByteArray := prog_14_method_60_code
def yX12_rounds : MethodName := ⟨RX12, "rounds", "(IIIIII)I"⟩
abbrev cX12_isToss : ByteArray := prog_14_method_61_code
def yX12_isToss : MethodName := ⟨RX12, "isToss", "(II)Z"⟩
abbrev cX12_landing : ByteArray := prog_14_method_62_code
def yX12_landing : MethodName := ⟨RX12, "landing", "(II)I"⟩
abbrev cX12_toss : ByteArray := prog_14_method_63_code
def yX12_toss : MethodName := ⟨RX12, "toss", "(II)I"⟩
abbrev cX12_slowest : ByteArray := prog_14_method_64_code
def yX12_slowest : MethodName := ⟨RX12, "slowest", "(II)I"⟩
abbrev cX12_landings : ByteArray := prog_14_method_65_code
def yX12_landings : MethodName := ⟨RX12, "landings", "(III)I"⟩
abbrev cX12_lowest : ByteArray := prog_14_method_66_code
def yX12_lowest : MethodName := ⟨RX12, "lowest", "(III)I"⟩
abbrev cX12_lands : ByteArray := prog_14_method_67_code
def yX12_lands : MethodName := ⟨RX12, "lands", "(IIII)I"⟩
abbrev cX12_bestSpin : ByteArray := prog_14_method_68_code
def yX12_bestSpin : MethodName := ⟨RX12, "bestSpin", "(II)I"⟩
abbrev cX12_image : ByteArray := prog_14_method_69_code
def yX12_image : MethodName := ⟨RX12, "image", "()I"⟩
abbrev cX12_restore : ByteArray := prog_14_method_70_code
def yX12_restore : MethodName := ⟨RX12, "restore", "()I"⟩
abbrev cX12_worthAll : ByteArray := prog_14_method_71_code
def yX12_worthAll : MethodName := ⟨RX12, "worthAll", "()I"⟩
abbrev cX12_howMany : ByteArray := prog_14_method_72_code
def yX12_howMany : MethodName := ⟨RX12, "howMany", "(I)I"⟩
abbrev cX12_count : ByteArray := prog_14_method_73_code
def yX12_count : MethodName := ⟨RX12, "count", "(I)I"⟩
abbrev cX12_mix : ByteArray := prog_14_method_74_code
def yX12_mix : MethodName := ⟨RX12, "mix", "(J)V"⟩
abbrev cX12_mixCake : ByteArray := prog_14_method_75_code
def yX12_mixCake : MethodName := ⟨RX12, "mixCake", "(I)V"⟩
abbrev cX12_digest : ByteArray := prog_14_method_76_code
def yX12_digest : MethodName := ⟨RX12, "digest", "()J"⟩
def RJx145de : String := "java/io/Serializable"
def TJx145de : u_T := fun k => match k with
  | _ => ("", "", "", false)
def tyJx145de : Nat → FieldType := fun k => match k with
  | _ => .int
theorem nmJx145de : ∀ a, a < 0 → ∀ b, b < 0 → a ≠ b → (TJx145de a).2.1 ≠ (TJx145de b).2.1 := by decide +kernel
theorem tyJx145de_ok : ∀ k, k < 0 → parseFieldDescriptor (TJx145de k).2.2.1 = some (tyJx145de k) := by decide +kernel
def RJx9f9b0 : String := "java/lang/CharSequence"
def TJx9f9b0 : u_T := fun k => match k with
  | _ => ("", "", "", false)
def tyJx9f9b0 : Nat → FieldType := fun k => match k with
  | _ => .int
theorem nmJx9f9b0 : ∀ a, a < 0 → ∀ b, b < 0 → a ≠ b → (TJx9f9b0 a).2.1 ≠ (TJx9f9b0 b).2.1 := by decide +kernel
theorem tyJx9f9b0_ok : ∀ k, k < 0 → parseFieldDescriptor (TJx9f9b0 k).2.2.1 = some (tyJx9f9b0 k) := by decide +kernel
def RJ11 : String := "java/lang/Character"
def TJ11 : u_T := fun k => match k with
  | _ => ("", "", "", false)
def tyJ11 : Nat → FieldType := fun k => match k with
  | _ => .int
theorem nmJ11 : ∀ a, a < 0 → ∀ b, b < 0 → a ≠ b → (TJ11 a).2.1 ≠ (TJ11 b).2.1 := by decide +kernel
theorem tyJ11_ok : ∀ k, k < 0 → parseFieldDescriptor (TJ11 k).2.2.1 = some (tyJ11 k) := by decide +kernel
abbrev cJ11_isValidCodePoint_9a6ad : ByteArray := prog_15_method_11_code
def yJ11_isValidCodePoint_9a6ad : MethodName := ⟨RJ11, "isValidCodePoint", "(I)Z"⟩
abbrev cJ11_highSurrogate_5068e : ByteArray := prog_15_method_28_code
def yJ11_highSurrogate_5068e : MethodName := ⟨RJ11, "highSurrogate", "(I)C"⟩
abbrev cJ11_lowSurrogate_5068e : ByteArray := prog_15_method_29_code
def yJ11_lowSurrogate_5068e : MethodName := ⟨RJ11, "lowSurrogate", "(I)C"⟩
def RJxb160c : String := "java/lang/Comparable"
def TJxb160c : u_T := fun k => match k with
  | _ => ("", "", "", false)
def tyJxb160c : Nat → FieldType := fun k => match k with
  | _ => .int
theorem nmJxb160c : ∀ a, a < 0 → ∀ b, b < 0 → a ≠ b → (TJxb160c a).2.1 ≠ (TJxb160c b).2.1 := by decide +kernel
theorem tyJxb160c_ok : ∀ k, k < 0 → parseFieldDescriptor (TJxb160c k).2.2.1 = some (tyJxb160c k) := by decide +kernel
def RJ9 : String := "java/lang/Math"
def TJ9 : u_T := fun k => match k with
  | _ => ("", "", "", false)
def tyJ9 : Nat → FieldType := fun k => match k with
  | _ => .int
theorem nmJ9 : ∀ a, a < 0 → ∀ b, b < 0 → a ≠ b → (TJ9 a).2.1 ≠ (TJ9 b).2.1 := by decide +kernel
theorem tyJ9_ok : ∀ k, k < 0 → parseFieldDescriptor (TJ9 k).2.2.1 = some (tyJ9 k) := by decide +kernel
abbrev cJ9_max_7cf53 : ByteArray := prog_16_method_65_code
def yJ9_max_7cf53 : MethodName := ⟨RJ9, "max", "(II)I"⟩
abbrev cJ9_min_7cf53 : ByteArray := prog_16_method_69_code
def yJ9_min_7cf53 : MethodName := ⟨RJ9, "min", "(II)I"⟩
def RJ0 : String := "java/lang/String"
def TJ0 : u_T := fun k => match k with
  | _ => ("", "", "", false)
def tyJ0 : Nat → FieldType := fun k => match k with
  | _ => .int
theorem nmJ0 : ∀ a, a < 0 → ∀ b, b < 0 → a ≠ b → (TJ0 a).2.1 ≠ (TJ0 b).2.1 := by decide +kernel
theorem tyJ0_ok : ∀ k, k < 0 → parseFieldDescriptor (TJ0 k).2.2.1 = some (tyJ0 k) := by decide +kernel
abbrev cJ0_length_8abf5 : ByteArray := prog_17_method_54_code
def yJ0_length_8abf5 : MethodName := ⟨RJ0, "length", "()I"⟩
abbrev cJ0_charAt_5068e : ByteArray := prog_17_method_56_code
def yJ0_charAt_5068e : MethodName := ⟨RJ0, "charAt", "(I)C"⟩
abbrev cJ0_indexOf_0f7a4 : ByteArray := prog_17_method_79_code
def yJ0_indexOf_0f7a4 : MethodName := ⟨RJ0, "indexOf", "(I)I"⟩
abbrev cJ0_indexOf_7cf53 : ByteArray := prog_17_method_80_code
def yJ0_indexOf_7cf53 : MethodName := ⟨RJ0, "indexOf", "(II)I"⟩
abbrev cJ0_coder_7d493 : ByteArray := prog_17_method_152_code
def yJ0_coder_7d493 : MethodName := ⟨RJ0, "coder", "()B"⟩
abbrev cJ0_isLatin1_aae02 : ByteArray := prog_17_method_154_code
def yJ0_isLatin1_aae02 : MethodName := ⟨RJ0, "isLatin1", "()Z"⟩
abbrev cJ0_checkIndex_df160 : ByteArray := prog_17_method_155_code
def yJ0_checkIndex_df160 : MethodName := ⟨RJ0, "checkIndex", "(II)V"⟩
abbrev cJ0_checkBoundsBeginEnd_23922 : ByteArray := prog_17_method_158_code
def yJ0_checkBoundsBeginEnd_23922 : MethodName := ⟨RJ0, "checkBoundsBeginEnd", "(III)V"⟩
def RJ1 : String := "java/lang/StringLatin1"
def TJ1 : u_T := fun k => match k with
  | _ => ("", "", "", false)
def tyJ1 : Nat → FieldType := fun k => match k with
  | _ => .int
theorem nmJ1 : ∀ a, a < 0 → ∀ b, b < 0 → a ≠ b → (TJ1 a).2.1 ≠ (TJ1 b).2.1 := by decide +kernel
theorem tyJ1_ok : ∀ k, k < 0 → parseFieldDescriptor (TJ1 k).2.2.1 = some (tyJ1 k) := by decide +kernel
abbrev cJ1_charAt_3b067 : ByteArray := prog_18_method_2_code
def yJ1_charAt_3b067 : MethodName := ⟨RJ1, "charAt", "([BI)C"⟩
abbrev cJ1_canEncode_9a6ad : ByteArray := prog_18_method_4_code
def yJ1_canEncode_9a6ad : MethodName := ⟨RJ1, "canEncode", "(I)Z"⟩
abbrev cJ1_indexOf_4cfef : ByteArray := prog_18_method_22_code
def yJ1_indexOf_4cfef : MethodName := ⟨RJ1, "indexOf", "([BIII)I"⟩
abbrev cJ1_indexOfChar_4cfef : ByteArray := prog_18_method_23_code
def yJ1_indexOfChar_4cfef : MethodName := ⟨RJ1, "indexOfChar", "([BIII)I"⟩
def RJ2 : String := "java/lang/StringUTF16"
def TJ2 : u_T := fun k => match k with
  | _ => ("", "", "", false)
def tyJ2 : Nat → FieldType := fun k => match k with
  | _ => .int
theorem nmJ2 : ∀ a, a < 0 → ∀ b, b < 0 → a ≠ b → (TJ2 a).2.1 ≠ (TJ2 b).2.1 := by decide +kernel
theorem tyJ2_ok : ∀ k, k < 0 → parseFieldDescriptor (TJ2 k).2.2.1 = some (tyJ2 k) := by decide +kernel
abbrev cJ2_getChar_3b067 : ByteArray := prog_19_method_5_code
def yJ2_getChar_3b067 : MethodName := ⟨RJ2, "getChar", "([BI)C"⟩
abbrev cJ2_length_9d52b : ByteArray := prog_19_method_6_code
def yJ2_length_9d52b : MethodName := ⟨RJ2, "length", "([B)I"⟩
abbrev cJ2_indexOf_4cfef : ByteArray := prog_19_method_40_code
def yJ2_indexOf_4cfef : MethodName := ⟨RJ2, "indexOf", "([BIII)I"⟩
abbrev cJ2_indexOfChar_4cfef : ByteArray := prog_19_method_47_code
def yJ2_indexOfChar_4cfef : MethodName := ⟨RJ2, "indexOfChar", "([BIII)I"⟩
abbrev cJ2_indexOfCharUnsafe_4cfef : ByteArray := prog_19_method_48_code
def yJ2_indexOfCharUnsafe_4cfef : MethodName := ⟨RJ2, "indexOfCharUnsafe", "([BIII)I"⟩
abbrev cJ2_indexOfSupplementary_4cfef : ByteArray := prog_19_method_49_code
def yJ2_indexOfSupplementary_4cfef : MethodName := ⟨RJ2, "indexOfSupplementary", "([BIII)I"⟩
abbrev cJ2_charAt_3b067 : ByteArray := prog_19_method_83_code
def yJ2_charAt_3b067 : MethodName := ⟨RJ2, "charAt", "([BI)C"⟩
abbrev cJ2_checkIndex_2214a : ByteArray := prog_19_method_91_code
def yJ2_checkIndex_2214a : MethodName := ⟨RJ2, "checkIndex", "(I[B)V"⟩
abbrev cJ2_checkBoundsBeginEnd_d044e : ByteArray := prog_19_method_93_code
def yJ2_checkBoundsBeginEnd_d044e : MethodName := ⟨RJ2, "checkBoundsBeginEnd", "(II[B)V"⟩
def RJ10 : String := "java/lang/System"
def TJ10 : u_T := fun k => match k with
  | _ => ("", "", "", false)
def tyJ10 : Nat → FieldType := fun k => match k with
  | _ => .int
theorem nmJ10 : ∀ a, a < 0 → ∀ b, b < 0 → a ≠ b → (TJ10 a).2.1 ≠ (TJ10 b).2.1 := by decide +kernel
theorem tyJ10_ok : ∀ k, k < 0 → parseFieldDescriptor (TJ10 k).2.2.1 = some (tyJ10 k) := by decide +kernel
def RJxfd54e : String := "java/lang/constant/Constable"
def TJxfd54e : u_T := fun k => match k with
  | _ => ("", "", "", false)
def tyJxfd54e : Nat → FieldType := fun k => match k with
  | _ => .int
theorem nmJxfd54e : ∀ a, a < 0 → ∀ b, b < 0 → a ≠ b → (TJxfd54e a).2.1 ≠ (TJxfd54e b).2.1 := by decide +kernel
theorem tyJxfd54e_ok : ∀ k, k < 0 → parseFieldDescriptor (TJxfd54e k).2.2.1 = some (tyJxfd54e k) := by decide +kernel
def RJx3cf43 : String := "java/lang/constant/ConstantDesc"
def TJx3cf43 : u_T := fun k => match k with
  | _ => ("", "", "", false)
def tyJx3cf43 : Nat → FieldType := fun k => match k with
  | _ => .int
theorem nmJx3cf43 : ∀ a, a < 0 → ∀ b, b < 0 → a ≠ b → (TJx3cf43 a).2.1 ≠ (TJx3cf43 b).2.1 := by decide +kernel
theorem tyJx3cf43_ok : ∀ k, k < 0 → parseFieldDescriptor (TJx3cf43 k).2.2.1 = some (tyJx3cf43 k) := by decide +kernel
def RJ7 : String := "java/util/Arrays"
def TJ7 : u_T := fun k => match k with
  | _ => ("", "", "", false)
def tyJ7 : Nat → FieldType := fun k => match k with
  | _ => .int
theorem nmJ7 : ∀ a, a < 0 → ∀ b, b < 0 → a ≠ b → (TJ7 a).2.1 ≠ (TJ7 b).2.1 := by decide +kernel
theorem tyJ7_ok : ∀ k, k < 0 → parseFieldDescriptor (TJ7 k).2.2.1 = some (tyJ7 k) := by decide +kernel
abbrev cJ7_fill_53178 : ByteArray := prog_21_method_103_code
def yJ7_fill_53178 : MethodName := ⟨RJ7, "fill", "([II)V"⟩
def RJ3 : String := "jdk/internal/util/Preconditions"
def TJ3 : u_T := fun k => match k with
  | _ => ("", "", "", false)
def tyJ3 : Nat → FieldType := fun k => match k with
  | _ => .int
theorem nmJ3 : ∀ a, a < 0 → ∀ b, b < 0 → a ≠ b → (TJ3 a).2.1 ≠ (TJ3 b).2.1 := by decide +kernel
theorem tyJ3_ok : ∀ k, k < 0 → parseFieldDescriptor (TJ3 k).2.2.1 = some (tyJ3 k) := by decide +kernel
abbrev cJ3_checkIndex_8e157 : ByteArray := prog_22_method_11_code
def yJ3_checkIndex_8e157 : MethodName := ⟨RJ3, "checkIndex", "(IILjava/util/function/BiFunction;)I"⟩
abbrev cJ3_checkFromToIndex_8c36e : ByteArray := prog_22_method_12_code
def yJ3_checkFromToIndex_8c36e : MethodName := ⟨RJ3, "checkFromToIndex", "(IIILjava/util/function/BiFunction;)I"⟩
def RL : String := "FirstPancakeLaw"
abbrev cL_law : ByteArray := code
def yL_law : MethodName := ⟨RL, "law", "([I)Z"⟩
abbrev vwCl : List vw_C := [(RX0, TX0, 2), (RX1, TX1, 3), (RX2, TX2, 8), (RX3, TX3, 4), (RX4, TX4, 2), (RX5, TX5, 7), (RX6, TX6, 7), (RX7, TX7, 6), (RX8, TX8, 4), (RX11, TX11, 16), (RX12, TX12, 67)]
