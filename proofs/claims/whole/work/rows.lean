section
-- ===== PART A: goes FIRST, ahead of the names: the tables' words, and 'selects' of the private methods out of them =====
/-- a private method of a class that the tables say can be made, by its rows of tables_1 -/
def lw_okq (q : MethodName × Nat) : Prop := (q.1.cls ≠ "java/lang/invoke/MethodHandle" ∧ q.1.cls ≠ "java/lang/invoke/VarHandle") ∧ Cond.instantiable q.1.cls q.2 ∈ tables_1 ∧ Cond.privateMethod q.1 ∈ tables_1 ∧ Cond.instanceMethod q.1 ∈ tables_1
theorem lw_p0 : lw_okq (⟨"QuinceEnd$Pan", "spokenOver", "(LQuinceEnd$Thing;)Z"⟩, 8) := ⟨⟨by decide +kernel, by decide +kernel⟩, List.mem_of_getElem? (i := 81) (by decide +kernel), List.mem_of_getElem? (i := 342) (by decide +kernel), List.mem_of_getElem? (i := 343) (by decide +kernel)⟩
theorem lw_p1 : lw_okq (⟨"QuinceEnd$Asking", "isAsSeen", "()Z"⟩, 4) := ⟨⟨by decide +kernel, by decide +kernel⟩, List.mem_of_getElem? (i := 194) (by decide +kernel), List.mem_of_getElem? (i := 365) (by decide +kernel), List.mem_of_getElem? (i := 366) (by decide +kernel)⟩
theorem lw_p2 : lw_okq (⟨"QuinceEnd$Reading", "clause", "()Z"⟩, 4) := ⟨⟨by decide +kernel, by decide +kernel⟩, List.mem_of_getElem? (i := 215) (by decide +kernel), List.mem_of_getElem? (i := 458) (by decide +kernel), List.mem_of_getElem? (i := 459) (by decide +kernel)⟩
theorem lw_p3 : lw_okq (⟨"QuinceEnd$Reading", "sign", "()I"⟩, 4) := ⟨⟨by decide +kernel, by decide +kernel⟩, List.mem_of_getElem? (i := 215) (by decide +kernel), List.mem_of_getElem? (i := 462) (by decide +kernel), List.mem_of_getElem? (i := 463) (by decide +kernel)⟩
theorem lw_p4 : lw_okq (⟨"QuinceEnd$Reading", "needClause", "()Z"⟩, 4) := ⟨⟨by decide +kernel, by decide +kernel⟩, List.mem_of_getElem? (i := 215) (by decide +kernel), List.mem_of_getElem? (i := 466) (by decide +kernel), List.mem_of_getElem? (i := 467) (by decide +kernel)⟩
theorem lw_p5 : lw_okq (⟨"QuinceEnd$Reading", "takeWord", "(Ljava/lang/String;)Z"⟩, 4) := ⟨⟨by decide +kernel, by decide +kernel⟩, List.mem_of_getElem? (i := 215) (by decide +kernel), List.mem_of_getElem? (i := 471) (by decide +kernel), List.mem_of_getElem? (i := 472) (by decide +kernel)⟩
theorem lw_p6 : lw_okq (⟨"QuinceEnd$Reading", "take", "(I)Z"⟩, 4) := ⟨⟨by decide +kernel, by decide +kernel⟩, List.mem_of_getElem? (i := 215) (by decide +kernel), List.mem_of_getElem? (i := 523) (by decide +kernel), List.mem_of_getElem? (i := 524) (by decide +kernel)⟩
theorem lw_p7 : lw_okq (⟨"QuinceEnd$Reading", "takeNumber", "()I"⟩, 4) := ⟨⟨by decide +kernel, by decide +kernel⟩, List.mem_of_getElem? (i := 215) (by decide +kernel), List.mem_of_getElem? (i := 527) (by decide +kernel), List.mem_of_getElem? (i := 528) (by decide +kernel)⟩
theorem lw_p8 : lw_okq (⟨"QuinceEnd$Reading", "expression", "(I)Z"⟩, 4) := ⟨⟨by decide +kernel, by decide +kernel⟩, List.mem_of_getElem? (i := 215) (by decide +kernel), List.mem_of_getElem? (i := 533) (by decide +kernel), List.mem_of_getElem? (i := 534) (by decide +kernel)⟩
theorem lw_p9 : lw_okq (⟨"QuinceEnd$Reading", "factor", "(I)Z"⟩, 4) := ⟨⟨by decide +kernel, by decide +kernel⟩, List.mem_of_getElem? (i := 215) (by decide +kernel), List.mem_of_getElem? (i := 537) (by decide +kernel), List.mem_of_getElem? (i := 538) (by decide +kernel)⟩
theorem lw_p10 : lw_okq (⟨"QuinceEnd$Reading", "takeOneOf", "(Ljava/lang/String;)I"⟩, 4) := ⟨⟨by decide +kernel, by decide +kernel⟩, List.mem_of_getElem? (i := 215) (by decide +kernel), List.mem_of_getElem? (i := 546) (by decide +kernel), List.mem_of_getElem? (i := 547) (by decide +kernel)⟩
theorem lw_p11 : lw_okq (⟨"QuinceEnd$Asking", "minutesToSet", "()I"⟩, 4) := ⟨⟨by decide +kernel, by decide +kernel⟩, List.mem_of_getElem? (i := 194) (by decide +kernel), List.mem_of_getElem? (i := 565) (by decide +kernel), List.mem_of_getElem? (i := 566) (by decide +kernel)⟩
theorem lw_p12 : lw_okq (⟨"QuinceEnd$Asking", "colourOfRow", "(II)I"⟩, 4) := ⟨⟨by decide +kernel, by decide +kernel⟩, List.mem_of_getElem? (i := 194) (by decide +kernel), List.mem_of_getElem? (i := 601) (by decide +kernel), List.mem_of_getElem? (i := 602) (by decide +kernel)⟩
theorem lw_p13 : lw_okq (⟨"QuinceEnd$Asking", "setsWith", "(II)Z"⟩, 4) := ⟨⟨by decide +kernel, by decide +kernel⟩, List.mem_of_getElem? (i := 194) (by decide +kernel), List.mem_of_getElem? (i := 618) (by decide +kernel), List.mem_of_getElem? (i := 619) (by decide +kernel)⟩
theorem lw_p14 : lw_okq (⟨"QuinceEnd$Asking", "follow", "(II)V"⟩, 4) := ⟨⟨by decide +kernel, by decide +kernel⟩, List.mem_of_getElem? (i := 194) (by decide +kernel), List.mem_of_getElem? (i := 686) (by decide +kernel), List.mem_of_getElem? (i := 687) (by decide +kernel)⟩
theorem lw_p15 : lw_okq (⟨"QuinceEnd$Acting", "from", "(IIII)I"⟩, 5) := ⟨⟨by decide +kernel, by decide +kernel⟩, List.mem_of_getElem? (i := 236) (by decide +kernel), List.mem_of_getElem? (i := 743) (by decide +kernel), List.mem_of_getElem? (i := 744) (by decide +kernel)⟩
def lw_privs_1 : List (MethodName × Nat) := [(⟨"QuinceEnd$Pan", "spokenOver", "(LQuinceEnd$Thing;)Z"⟩, 8), (⟨"QuinceEnd$Asking", "isAsSeen", "()Z"⟩, 4), (⟨"QuinceEnd$Reading", "clause", "()Z"⟩, 4), (⟨"QuinceEnd$Reading", "sign", "()I"⟩, 4), (⟨"QuinceEnd$Reading", "needClause", "()Z"⟩, 4), (⟨"QuinceEnd$Reading", "takeWord", "(Ljava/lang/String;)Z"⟩, 4), (⟨"QuinceEnd$Reading", "take", "(I)Z"⟩, 4), (⟨"QuinceEnd$Reading", "takeNumber", "()I"⟩, 4), (⟨"QuinceEnd$Reading", "expression", "(I)Z"⟩, 4), (⟨"QuinceEnd$Reading", "factor", "(I)Z"⟩, 4), (⟨"QuinceEnd$Reading", "takeOneOf", "(Ljava/lang/String;)I"⟩, 4), (⟨"QuinceEnd$Asking", "minutesToSet", "()I"⟩, 4), (⟨"QuinceEnd$Asking", "colourOfRow", "(II)I"⟩, 4), (⟨"QuinceEnd$Asking", "setsWith", "(II)Z"⟩, 4), (⟨"QuinceEnd$Asking", "follow", "(II)V"⟩, 4), (⟨"QuinceEnd$Acting", "from", "(IIII)I"⟩, 5)]
theorem lw_r1 : ∀ q ∈ lw_privs_1, lw_okq q := List.forall_mem_cons.mpr ⟨lw_p0, List.forall_mem_cons.mpr ⟨lw_p1, List.forall_mem_cons.mpr ⟨lw_p2, List.forall_mem_cons.mpr ⟨lw_p3, List.forall_mem_cons.mpr ⟨lw_p4, List.forall_mem_cons.mpr ⟨lw_p5, List.forall_mem_cons.mpr ⟨lw_p6, List.forall_mem_cons.mpr ⟨lw_p7, List.forall_mem_cons.mpr ⟨lw_p8, List.forall_mem_cons.mpr ⟨lw_p9, List.forall_mem_cons.mpr ⟨lw_p10, List.forall_mem_cons.mpr ⟨lw_p11, List.forall_mem_cons.mpr ⟨lw_p12, List.forall_mem_cons.mpr ⟨lw_p13, List.forall_mem_cons.mpr ⟨lw_p14, List.forall_mem_cons.mpr ⟨lw_p15, fun _ h => absurd h List.not_mem_nil⟩⟩⟩⟩⟩⟩⟩⟩⟩⟩⟩⟩⟩⟩⟩⟩
theorem lw_p16 : lw_okq (⟨"QuinceEnd$Acting", "body", "(IIII)I"⟩, 5) := ⟨⟨by decide +kernel, by decide +kernel⟩, List.mem_of_getElem? (i := 236) (by decide +kernel), List.mem_of_getElem? (i := 751) (by decide +kernel), List.mem_of_getElem? (i := 752) (by decide +kernel)⟩
theorem lw_p17 : lw_okq (⟨"QuinceEndModel", "in", "(III)Z"⟩, 77) := ⟨⟨by decide +kernel, by decide +kernel⟩, List.mem_of_getElem? (i := 806) (by decide +kernel), List.mem_of_getElem? (i := 1049) (by decide +kernel), List.mem_of_getElem? (i := 1050) (by decide +kernel)⟩
theorem lw_p18 : lw_okq (⟨"QuinceEndModel", "isWeight", "(I)Z"⟩, 77) := ⟨⟨by decide +kernel, by decide +kernel⟩, List.mem_of_getElem? (i := 806) (by decide +kernel), List.mem_of_getElem? (i := 1053) (by decide +kernel), List.mem_of_getElem? (i := 1054) (by decide +kernel)⟩
theorem lw_p19 : lw_okq (⟨"QuinceEndModel", "isThing", "(I)Z"⟩, 77) := ⟨⟨by decide +kernel, by decide +kernel⟩, List.mem_of_getElem? (i := 806) (by decide +kernel), List.mem_of_getElem? (i := 1061) (by decide +kernel), List.mem_of_getElem? (i := 1062) (by decide +kernel)⟩
theorem lw_p20 : lw_okq (⟨"QuinceEndModel", "puts", "(I)V"⟩, 77) := ⟨⟨by decide +kernel, by decide +kernel⟩, List.mem_of_getElem? (i := 806) (by decide +kernel), List.mem_of_getElem? (i := 1065) (by decide +kernel), List.mem_of_getElem? (i := 1066) (by decide +kernel)⟩
theorem lw_p21 : lw_okq (⟨"QuinceEndModel", "setOf", "(I)I"⟩, 77) := ⟨⟨by decide +kernel, by decide +kernel⟩, List.mem_of_getElem? (i := 806) (by decide +kernel), List.mem_of_getElem? (i := 1069) (by decide +kernel), List.mem_of_getElem? (i := 1070) (by decide +kernel)⟩
theorem lw_p22 : lw_okq (⟨"QuinceEndModel", "bits", "(I)I"⟩, 77) := ⟨⟨by decide +kernel, by decide +kernel⟩, List.mem_of_getElem? (i := 806) (by decide +kernel), List.mem_of_getElem? (i := 1073) (by decide +kernel), List.mem_of_getElem? (i := 1074) (by decide +kernel)⟩
theorem lw_p23 : lw_okq (⟨"QuinceEndModel", "has", "(II)Z"⟩, 77) := ⟨⟨by decide +kernel, by decide +kernel⟩, List.mem_of_getElem? (i := 806) (by decide +kernel), List.mem_of_getElem? (i := 1077) (by decide +kernel), List.mem_of_getElem? (i := 1078) (by decide +kernel)⟩
theorem lw_p24 : lw_okq (⟨"QuinceEndModel", "says", "(I)V"⟩, 77) := ⟨⟨by decide +kernel, by decide +kernel⟩, List.mem_of_getElem? (i := 806) (by decide +kernel), List.mem_of_getElem? (i := 1085) (by decide +kernel), List.mem_of_getElem? (i := 1086) (by decide +kernel)⟩
theorem lw_p25 : lw_okq (⟨"QuinceEndModel", "goesText", "(I)Z"⟩, 77) := ⟨⟨by decide +kernel, by decide +kernel⟩, List.mem_of_getElem? (i := 806) (by decide +kernel), List.mem_of_getElem? (i := 1113) (by decide +kernel), List.mem_of_getElem? (i := 1114) (by decide +kernel)⟩
theorem lw_p26 : lw_okq (⟨"QuinceEndModel", "takesClause", "(I)Z"⟩, 77) := ⟨⟨by decide +kernel, by decide +kernel⟩, List.mem_of_getElem? (i := 806) (by decide +kernel), List.mem_of_getElem? (i := 1117) (by decide +kernel), List.mem_of_getElem? (i := 1118) (by decide +kernel)⟩
theorem lw_p27 : lw_okq (⟨"QuinceEndModel", "takesHead", "(I)Z"⟩, 77) := ⟨⟨by decide +kernel, by decide +kernel⟩, List.mem_of_getElem? (i := 806) (by decide +kernel), List.mem_of_getElem? (i := 1121) (by decide +kernel), List.mem_of_getElem? (i := 1122) (by decide +kernel)⟩
theorem lw_p28 : lw_okq (⟨"QuinceEndModel", "next", "()I"⟩, 77) := ⟨⟨by decide +kernel, by decide +kernel⟩, List.mem_of_getElem? (i := 806) (by decide +kernel), List.mem_of_getElem? (i := 1125) (by decide +kernel), List.mem_of_getElem? (i := 1126) (by decide +kernel)⟩
theorem lw_p29 : lw_okq (⟨"QuinceEndModel", "takesWord", "(II)Z"⟩, 77) := ⟨⟨by decide +kernel, by decide +kernel⟩, List.mem_of_getElem? (i := 806) (by decide +kernel), List.mem_of_getElem? (i := 1129) (by decide +kernel), List.mem_of_getElem? (i := 1130) (by decide +kernel)⟩
theorem lw_p30 : lw_okq (⟨"QuinceEndModel", "takes", "(I)Z"⟩, 77) := ⟨⟨by decide +kernel, by decide +kernel⟩, List.mem_of_getElem? (i := 806) (by decide +kernel), List.mem_of_getElem? (i := 1133) (by decide +kernel), List.mem_of_getElem? (i := 1134) (by decide +kernel)⟩
theorem lw_p31 : lw_okq (⟨"QuinceEndModel", "takesNumber", "()Z"⟩, 77) := ⟨⟨by decide +kernel, by decide +kernel⟩, List.mem_of_getElem? (i := 806) (by decide +kernel), List.mem_of_getElem? (i := 1137) (by decide +kernel), List.mem_of_getElem? (i := 1138) (by decide +kernel)⟩
def lw_privs_2 : List (MethodName × Nat) := [(⟨"QuinceEnd$Acting", "body", "(IIII)I"⟩, 5), (⟨"QuinceEndModel", "in", "(III)Z"⟩, 77), (⟨"QuinceEndModel", "isWeight", "(I)Z"⟩, 77), (⟨"QuinceEndModel", "isThing", "(I)Z"⟩, 77), (⟨"QuinceEndModel", "puts", "(I)V"⟩, 77), (⟨"QuinceEndModel", "setOf", "(I)I"⟩, 77), (⟨"QuinceEndModel", "bits", "(I)I"⟩, 77), (⟨"QuinceEndModel", "has", "(II)Z"⟩, 77), (⟨"QuinceEndModel", "says", "(I)V"⟩, 77), (⟨"QuinceEndModel", "goesText", "(I)Z"⟩, 77), (⟨"QuinceEndModel", "takesClause", "(I)Z"⟩, 77), (⟨"QuinceEndModel", "takesHead", "(I)Z"⟩, 77), (⟨"QuinceEndModel", "next", "()I"⟩, 77), (⟨"QuinceEndModel", "takesWord", "(II)Z"⟩, 77), (⟨"QuinceEndModel", "takes", "(I)Z"⟩, 77), (⟨"QuinceEndModel", "takesNumber", "()Z"⟩, 77)]
theorem lw_r2 : ∀ q ∈ lw_privs_2, lw_okq q := List.forall_mem_cons.mpr ⟨lw_p16, List.forall_mem_cons.mpr ⟨lw_p17, List.forall_mem_cons.mpr ⟨lw_p18, List.forall_mem_cons.mpr ⟨lw_p19, List.forall_mem_cons.mpr ⟨lw_p20, List.forall_mem_cons.mpr ⟨lw_p21, List.forall_mem_cons.mpr ⟨lw_p22, List.forall_mem_cons.mpr ⟨lw_p23, List.forall_mem_cons.mpr ⟨lw_p24, List.forall_mem_cons.mpr ⟨lw_p25, List.forall_mem_cons.mpr ⟨lw_p26, List.forall_mem_cons.mpr ⟨lw_p27, List.forall_mem_cons.mpr ⟨lw_p28, List.forall_mem_cons.mpr ⟨lw_p29, List.forall_mem_cons.mpr ⟨lw_p30, List.forall_mem_cons.mpr ⟨lw_p31, fun _ h => absurd h List.not_mem_nil⟩⟩⟩⟩⟩⟩⟩⟩⟩⟩⟩⟩⟩⟩⟩⟩
theorem lw_p32 : lw_okq (⟨"QuinceEndModel", "isDigit", "()Z"⟩, 77) := ⟨⟨by decide +kernel, by decide +kernel⟩, List.mem_of_getElem? (i := 806) (by decide +kernel), List.mem_of_getElem? (i := 1141) (by decide +kernel), List.mem_of_getElem? (i := 1142) (by decide +kernel)⟩
theorem lw_p33 : lw_okq (⟨"QuinceEndModel", "takesE", "(I)Z"⟩, 77) := ⟨⟨by decide +kernel, by decide +kernel⟩, List.mem_of_getElem? (i := 806) (by decide +kernel), List.mem_of_getElem? (i := 1145) (by decide +kernel), List.mem_of_getElem? (i := 1146) (by decide +kernel)⟩
theorem lw_p34 : lw_okq (⟨"QuinceEndModel", "takesTest", "()Z"⟩, 77) := ⟨⟨by decide +kernel, by decide +kernel⟩, List.mem_of_getElem? (i := 806) (by decide +kernel), List.mem_of_getElem? (i := 1149) (by decide +kernel), List.mem_of_getElem? (i := 1150) (by decide +kernel)⟩
theorem lw_p35 : lw_okq (⟨"QuinceEndModel", "place", "(I)I"⟩, 77) := ⟨⟨by decide +kernel, by decide +kernel⟩, List.mem_of_getElem? (i := 806) (by decide +kernel), List.mem_of_getElem? (i := 1153) (by decide +kernel), List.mem_of_getElem? (i := 1154) (by decide +kernel)⟩
theorem lw_p36 : lw_okq (⟨"QuinceEndModel", "emits", "(I)V"⟩, 77) := ⟨⟨by decide +kernel, by decide +kernel⟩, List.mem_of_getElem? (i := 806) (by decide +kernel), List.mem_of_getElem? (i := 1157) (by decide +kernel), List.mem_of_getElem? (i := 1158) (by decide +kernel)⟩
theorem lw_p37 : lw_okq (⟨"QuinceEndModel", "whole", "()V"⟩, 77) := ⟨⟨by decide +kernel, by decide +kernel⟩, List.mem_of_getElem? (i := 806) (by decide +kernel), List.mem_of_getElem? (i := 1161) (by decide +kernel), List.mem_of_getElem? (i := 1162) (by decide +kernel)⟩
theorem lw_p38 : lw_okq (⟨"QuinceEndModel", "settle", "(I)V"⟩, 77) := ⟨⟨by decide +kernel, by decide +kernel⟩, List.mem_of_getElem? (i := 806) (by decide +kernel), List.mem_of_getElem? (i := 1165) (by decide +kernel), List.mem_of_getElem? (i := 1166) (by decide +kernel)⟩
theorem lw_p39 : lw_okq (⟨"QuinceEndModel", "isMinutes", "(I)Z"⟩, 77) := ⟨⟨by decide +kernel, by decide +kernel⟩, List.mem_of_getElem? (i := 806) (by decide +kernel), List.mem_of_getElem? (i := 1173) (by decide +kernel), List.mem_of_getElem? (i := 1174) (by decide +kernel)⟩
theorem lw_p40 : lw_okq (⟨"QuinceEndModel", "goMinutes", "(I)V"⟩, 77) := ⟨⟨by decide +kernel, by decide +kernel⟩, List.mem_of_getElem? (i := 806) (by decide +kernel), List.mem_of_getElem? (i := 1177) (by decide +kernel), List.mem_of_getElem? (i := 1178) (by decide +kernel)⟩
theorem lw_p41 : lw_okq (⟨"QuinceEndModel", "goMinute", "()V"⟩, 77) := ⟨⟨by decide +kernel, by decide +kernel⟩, List.mem_of_getElem? (i := 806) (by decide +kernel), List.mem_of_getElem? (i := 1181) (by decide +kernel), List.mem_of_getElem? (i := 1182) (by decide +kernel)⟩
theorem lw_p42 : lw_okq (⟨"QuinceEndModel", "allGive", "()I"⟩, 77) := ⟨⟨by decide +kernel, by decide +kernel⟩, List.mem_of_getElem? (i := 806) (by decide +kernel), List.mem_of_getElem? (i := 1185) (by decide +kernel), List.mem_of_getElem? (i := 1186) (by decide +kernel)⟩
theorem lw_p43 : lw_okq (⟨"QuinceEndModel", "gives", "(I)I"⟩, 77) := ⟨⟨by decide +kernel, by decide +kernel⟩, List.mem_of_getElem? (i := 806) (by decide +kernel), List.mem_of_getElem? (i := 1189) (by decide +kernel), List.mem_of_getElem? (i := 1190) (by decide +kernel)⟩
theorem lw_p44 : lw_okq (⟨"QuinceEndModel", "sum", "(I)I"⟩, 77) := ⟨⟨by decide +kernel, by decide +kernel⟩, List.mem_of_getElem? (i := 806) (by decide +kernel), List.mem_of_getElem? (i := 1193) (by decide +kernel), List.mem_of_getElem? (i := 1194) (by decide +kernel)⟩
theorem lw_p45 : lw_okq (⟨"QuinceEndModel", "begin", "()I"⟩, 77) := ⟨⟨by decide +kernel, by decide +kernel⟩, List.mem_of_getElem? (i := 806) (by decide +kernel), List.mem_of_getElem? (i := 1197) (by decide +kernel), List.mem_of_getElem? (i := 1198) (by decide +kernel)⟩
theorem lw_p46 : lw_okq (⟨"QuinceEndModel", "behind", "()I"⟩, 77) := ⟨⟨by decide +kernel, by decide +kernel⟩, List.mem_of_getElem? (i := 806) (by decide +kernel), List.mem_of_getElem? (i := 1201) (by decide +kernel), List.mem_of_getElem? (i := 1202) (by decide +kernel)⟩
theorem lw_p47 : lw_okq (⟨"QuinceEndModel", "holds", "(II)Z"⟩, 77) := ⟨⟨by decide +kernel, by decide +kernel⟩, List.mem_of_getElem? (i := 806) (by decide +kernel), List.mem_of_getElem? (i := 1205) (by decide +kernel), List.mem_of_getElem? (i := 1206) (by decide +kernel)⟩
def lw_privs_3 : List (MethodName × Nat) := [(⟨"QuinceEndModel", "isDigit", "()Z"⟩, 77), (⟨"QuinceEndModel", "takesE", "(I)Z"⟩, 77), (⟨"QuinceEndModel", "takesTest", "()Z"⟩, 77), (⟨"QuinceEndModel", "place", "(I)I"⟩, 77), (⟨"QuinceEndModel", "emits", "(I)V"⟩, 77), (⟨"QuinceEndModel", "whole", "()V"⟩, 77), (⟨"QuinceEndModel", "settle", "(I)V"⟩, 77), (⟨"QuinceEndModel", "isMinutes", "(I)Z"⟩, 77), (⟨"QuinceEndModel", "goMinutes", "(I)V"⟩, 77), (⟨"QuinceEndModel", "goMinute", "()V"⟩, 77), (⟨"QuinceEndModel", "allGive", "()I"⟩, 77), (⟨"QuinceEndModel", "gives", "(I)I"⟩, 77), (⟨"QuinceEndModel", "sum", "(I)I"⟩, 77), (⟨"QuinceEndModel", "begin", "()I"⟩, 77), (⟨"QuinceEndModel", "behind", "()I"⟩, 77), (⟨"QuinceEndModel", "holds", "(II)Z"⟩, 77)]
theorem lw_r3 : ∀ q ∈ lw_privs_3, lw_okq q := List.forall_mem_cons.mpr ⟨lw_p32, List.forall_mem_cons.mpr ⟨lw_p33, List.forall_mem_cons.mpr ⟨lw_p34, List.forall_mem_cons.mpr ⟨lw_p35, List.forall_mem_cons.mpr ⟨lw_p36, List.forall_mem_cons.mpr ⟨lw_p37, List.forall_mem_cons.mpr ⟨lw_p38, List.forall_mem_cons.mpr ⟨lw_p39, List.forall_mem_cons.mpr ⟨lw_p40, List.forall_mem_cons.mpr ⟨lw_p41, List.forall_mem_cons.mpr ⟨lw_p42, List.forall_mem_cons.mpr ⟨lw_p43, List.forall_mem_cons.mpr ⟨lw_p44, List.forall_mem_cons.mpr ⟨lw_p45, List.forall_mem_cons.mpr ⟨lw_p46, List.forall_mem_cons.mpr ⟨lw_p47, fun _ h => absurd h List.not_mem_nil⟩⟩⟩⟩⟩⟩⟩⟩⟩⟩⟩⟩⟩⟩⟩⟩
theorem lw_p48 : lw_okq (⟨"QuinceEndModel", "factOf", "(II)I"⟩, 77) := ⟨⟨by decide +kernel, by decide +kernel⟩, List.mem_of_getElem? (i := 806) (by decide +kernel), List.mem_of_getElem? (i := 1209) (by decide +kernel), List.mem_of_getElem? (i := 1210) (by decide +kernel)⟩
theorem lw_p49 : lw_okq (⟨"QuinceEndModel", "isSaidBeside", "(I)Z"⟩, 77) := ⟨⟨by decide +kernel, by decide +kernel⟩, List.mem_of_getElem? (i := 806) (by decide +kernel), List.mem_of_getElem? (i := 1213) (by decide +kernel), List.mem_of_getElem? (i := 1214) (by decide +kernel)⟩
theorem lw_p50 : lw_okq (⟨"QuinceEndModel", "least", "(II)I"⟩, 77) := ⟨⟨by decide +kernel, by decide +kernel⟩, List.mem_of_getElem? (i := 806) (by decide +kernel), List.mem_of_getElem? (i := 1217) (by decide +kernel), List.mem_of_getElem? (i := 1218) (by decide +kernel)⟩
theorem lw_p51 : lw_okq (⟨"QuinceEndModel", "need", "()I"⟩, 77) := ⟨⟨by decide +kernel, by decide +kernel⟩, List.mem_of_getElem? (i := 806) (by decide +kernel), List.mem_of_getElem? (i := 1222) (by decide +kernel), List.mem_of_getElem? (i := 1223) (by decide +kernel)⟩
theorem lw_p52 : lw_okq (⟨"QuinceEndModel", "sets", "()I"⟩, 77) := ⟨⟨by decide +kernel, by decide +kernel⟩, List.mem_of_getElem? (i := 806) (by decide +kernel), List.mem_of_getElem? (i := 1230) (by decide +kernel), List.mem_of_getElem? (i := 1231) (by decide +kernel)⟩
theorem lw_p53 : lw_okq (⟨"QuinceEndModel", "setsIf", "(I)I"⟩, 77) := ⟨⟨by decide +kernel, by decide +kernel⟩, List.mem_of_getElem? (i := 806) (by decide +kernel), List.mem_of_getElem? (i := 1234) (by decide +kernel), List.mem_of_getElem? (i := 1235) (by decide +kernel)⟩
theorem lw_p54 : lw_okq (⟨"QuinceEndModel", "save", "()V"⟩, 77) := ⟨⟨by decide +kernel, by decide +kernel⟩, List.mem_of_getElem? (i := 806) (by decide +kernel), List.mem_of_getElem? (i := 1238) (by decide +kernel), List.mem_of_getElem? (i := 1239) (by decide +kernel)⟩
theorem lw_p55 : lw_okq (⟨"QuinceEndModel", "putBack", "()V"⟩, 77) := ⟨⟨by decide +kernel, by decide +kernel⟩, List.mem_of_getElem? (i := 806) (by decide +kernel), List.mem_of_getElem? (i := 1243) (by decide +kernel), List.mem_of_getElem? (i := 1244) (by decide +kernel)⟩
theorem lw_p56 : lw_okq (⟨"QuinceEndModel", "wordOf", "()I"⟩, 77) := ⟨⟨by decide +kernel, by decide +kernel⟩, List.mem_of_getElem? (i := 806) (by decide +kernel), List.mem_of_getElem? (i := 1247) (by decide +kernel), List.mem_of_getElem? (i := 1248) (by decide +kernel)⟩
theorem lw_p57 : lw_okq (⟨"QuinceEndModel", "layLine", "(II)Z"⟩, 77) := ⟨⟨by decide +kernel, by decide +kernel⟩, List.mem_of_getElem? (i := 806) (by decide +kernel), List.mem_of_getElem? (i := 1259) (by decide +kernel), List.mem_of_getElem? (i := 1260) (by decide +kernel)⟩
theorem lw_p58 : lw_okq (⟨"QuinceEndModel", "colourBy", "(I)I"⟩, 77) := ⟨⟨by decide +kernel, by decide +kernel⟩, List.mem_of_getElem? (i := 806) (by decide +kernel), List.mem_of_getElem? (i := 1263) (by decide +kernel), List.mem_of_getElem? (i := 1264) (by decide +kernel)⟩
theorem lw_p59 : lw_okq (⟨"QuinceEndModel", "isSetBy", "(II)Z"⟩, 77) := ⟨⟨by decide +kernel, by decide +kernel⟩, List.mem_of_getElem? (i := 806) (by decide +kernel), List.mem_of_getElem? (i := 1271) (by decide +kernel), List.mem_of_getElem? (i := 1272) (by decide +kernel)⟩
theorem lw_p60 : lw_okq (⟨"QuinceEndModel", "apart", "(II)I"⟩, 77) := ⟨⟨by decide +kernel, by decide +kernel⟩, List.mem_of_getElem? (i := 806) (by decide +kernel), List.mem_of_getElem? (i := 1279) (by decide +kernel), List.mem_of_getElem? (i := 1280) (by decide +kernel)⟩
theorem lw_p61 : lw_okq (⟨"QuinceEndModel", "weights", "(I)I"⟩, 77) := ⟨⟨by decide +kernel, by decide +kernel⟩, List.mem_of_getElem? (i := 806) (by decide +kernel), List.mem_of_getElem? (i := 1291) (by decide +kernel), List.mem_of_getElem? (i := 1292) (by decide +kernel)⟩
theorem lw_p62 : lw_okq (⟨"QuinceEndModel", "isSeen", "()Z"⟩, 77) := ⟨⟨by decide +kernel, by decide +kernel⟩, List.mem_of_getElem? (i := 806) (by decide +kernel), List.mem_of_getElem? (i := 1295) (by decide +kernel), List.mem_of_getElem? (i := 1296) (by decide +kernel)⟩
theorem lw_p63 : lw_okq (⟨"QuinceEndModel", "lowest", "(III)J"⟩, 77) := ⟨⟨by decide +kernel, by decide +kernel⟩, List.mem_of_getElem? (i := 806) (by decide +kernel), List.mem_of_getElem? (i := 1308) (by decide +kernel), List.mem_of_getElem? (i := 1309) (by decide +kernel)⟩
def lw_privs_4 : List (MethodName × Nat) := [(⟨"QuinceEndModel", "factOf", "(II)I"⟩, 77), (⟨"QuinceEndModel", "isSaidBeside", "(I)Z"⟩, 77), (⟨"QuinceEndModel", "least", "(II)I"⟩, 77), (⟨"QuinceEndModel", "need", "()I"⟩, 77), (⟨"QuinceEndModel", "sets", "()I"⟩, 77), (⟨"QuinceEndModel", "setsIf", "(I)I"⟩, 77), (⟨"QuinceEndModel", "save", "()V"⟩, 77), (⟨"QuinceEndModel", "putBack", "()V"⟩, 77), (⟨"QuinceEndModel", "wordOf", "()I"⟩, 77), (⟨"QuinceEndModel", "layLine", "(II)Z"⟩, 77), (⟨"QuinceEndModel", "colourBy", "(I)I"⟩, 77), (⟨"QuinceEndModel", "isSetBy", "(II)Z"⟩, 77), (⟨"QuinceEndModel", "apart", "(II)I"⟩, 77), (⟨"QuinceEndModel", "weights", "(I)I"⟩, 77), (⟨"QuinceEndModel", "isSeen", "()Z"⟩, 77), (⟨"QuinceEndModel", "lowest", "(III)J"⟩, 77)]
theorem lw_r4 : ∀ q ∈ lw_privs_4, lw_okq q := List.forall_mem_cons.mpr ⟨lw_p48, List.forall_mem_cons.mpr ⟨lw_p49, List.forall_mem_cons.mpr ⟨lw_p50, List.forall_mem_cons.mpr ⟨lw_p51, List.forall_mem_cons.mpr ⟨lw_p52, List.forall_mem_cons.mpr ⟨lw_p53, List.forall_mem_cons.mpr ⟨lw_p54, List.forall_mem_cons.mpr ⟨lw_p55, List.forall_mem_cons.mpr ⟨lw_p56, List.forall_mem_cons.mpr ⟨lw_p57, List.forall_mem_cons.mpr ⟨lw_p58, List.forall_mem_cons.mpr ⟨lw_p59, List.forall_mem_cons.mpr ⟨lw_p60, List.forall_mem_cons.mpr ⟨lw_p61, List.forall_mem_cons.mpr ⟨lw_p62, List.forall_mem_cons.mpr ⟨lw_p63, fun _ h => absurd h List.not_mem_nil⟩⟩⟩⟩⟩⟩⟩⟩⟩⟩⟩⟩⟩⟩⟩⟩
theorem lw_p64 : lw_okq (⟨"QuinceEndModel", "divisor", "(II)I"⟩, 77) := ⟨⟨by decide +kernel, by decide +kernel⟩, List.mem_of_getElem? (i := 806) (by decide +kernel), List.mem_of_getElem? (i := 1312) (by decide +kernel), List.mem_of_getElem? (i := 1313) (by decide +kernel)⟩
theorem lw_p65 : lw_okq (⟨"QuinceEndModel", "goPlan", "(II)V"⟩, 77) := ⟨⟨by decide +kernel, by decide +kernel⟩, List.mem_of_getElem? (i := 806) (by decide +kernel), List.mem_of_getElem? (i := 1328) (by decide +kernel), List.mem_of_getElem? (i := 1329) (by decide +kernel)⟩
theorem lw_p66 : lw_okq (⟨"QuinceEndModel", "isTape", "(I)Z"⟩, 77) := ⟨⟨by decide +kernel, by decide +kernel⟩, List.mem_of_getElem? (i := 806) (by decide +kernel), List.mem_of_getElem? (i := 1344) (by decide +kernel), List.mem_of_getElem? (i := 1345) (by decide +kernel)⟩
theorem lw_p67 : lw_okq (⟨"QuinceEndModel", "dripsAct", "(II)I"⟩, 77) := ⟨⟨by decide +kernel, by decide +kernel⟩, List.mem_of_getElem? (i := 806) (by decide +kernel), List.mem_of_getElem? (i := 1360) (by decide +kernel), List.mem_of_getElem? (i := 1361) (by decide +kernel)⟩
theorem lw_p68 : lw_okq (⟨"QuinceEndModel", "body", "(I)V"⟩, 77) := ⟨⟨by decide +kernel, by decide +kernel⟩, List.mem_of_getElem? (i := 806) (by decide +kernel), List.mem_of_getElem? (i := 1364) (by decide +kernel), List.mem_of_getElem? (i := 1365) (by decide +kernel)⟩
theorem lw_p69 : lw_okq (⟨"QuinceEndModel", "thingDrips", "(II)I"⟩, 77) := ⟨⟨by decide +kernel, by decide +kernel⟩, List.mem_of_getElem? (i := 806) (by decide +kernel), List.mem_of_getElem? (i := 1368) (by decide +kernel), List.mem_of_getElem? (i := 1369) (by decide +kernel)⟩
theorem lw_p70 : lw_okq (⟨"QuinceEndModel", "reddensAct", "(II)I"⟩, 77) := ⟨⟨by decide +kernel, by decide +kernel⟩, List.mem_of_getElem? (i := 806) (by decide +kernel), List.mem_of_getElem? (i := 1372) (by decide +kernel), List.mem_of_getElem? (i := 1373) (by decide +kernel)⟩
theorem lw_p71 : lw_okq (⟨"QuinceEndModel", "grudgeReddens", "(II)I"⟩, 77) := ⟨⟨by decide +kernel, by decide +kernel⟩, List.mem_of_getElem? (i := 806) (by decide +kernel), List.mem_of_getElem? (i := 1376) (by decide +kernel), List.mem_of_getElem? (i := 1377) (by decide +kernel)⟩
theorem lw_p72 : lw_okq (⟨"QuinceEndModel", "thingReddens", "(II)I"⟩, 77) := ⟨⟨by decide +kernel, by decide +kernel⟩, List.mem_of_getElem? (i := 806) (by decide +kernel), List.mem_of_getElem? (i := 1380) (by decide +kernel), List.mem_of_getElem? (i := 1381) (by decide +kernel)⟩
theorem lw_p73 : lw_okq (⟨"QuinceEndModel", "tellsAct", "(II)I"⟩, 77) := ⟨⟨by decide +kernel, by decide +kernel⟩, List.mem_of_getElem? (i := 806) (by decide +kernel), List.mem_of_getElem? (i := 1384) (by decide +kernel), List.mem_of_getElem? (i := 1385) (by decide +kernel)⟩
theorem lw_p74 : lw_okq (⟨"QuinceEndModel", "thingTells", "(II)I"⟩, 77) := ⟨⟨by decide +kernel, by decide +kernel⟩, List.mem_of_getElem? (i := 806) (by decide +kernel), List.mem_of_getElem? (i := 1388) (by decide +kernel), List.mem_of_getElem? (i := 1389) (by decide +kernel)⟩
theorem lw_p75 : lw_okq (⟨"QuinceEndModel", "narrow", "(IJ)J"⟩, 77) := ⟨⟨by decide +kernel, by decide +kernel⟩, List.mem_of_getElem? (i := 806) (by decide +kernel), List.mem_of_getElem? (i := 1412) (by decide +kernel), List.mem_of_getElem? (i := 1413) (by decide +kernel)⟩
def lw_privs_5 : List (MethodName × Nat) := [(⟨"QuinceEndModel", "divisor", "(II)I"⟩, 77), (⟨"QuinceEndModel", "goPlan", "(II)V"⟩, 77), (⟨"QuinceEndModel", "isTape", "(I)Z"⟩, 77), (⟨"QuinceEndModel", "dripsAct", "(II)I"⟩, 77), (⟨"QuinceEndModel", "body", "(I)V"⟩, 77), (⟨"QuinceEndModel", "thingDrips", "(II)I"⟩, 77), (⟨"QuinceEndModel", "reddensAct", "(II)I"⟩, 77), (⟨"QuinceEndModel", "grudgeReddens", "(II)I"⟩, 77), (⟨"QuinceEndModel", "thingReddens", "(II)I"⟩, 77), (⟨"QuinceEndModel", "tellsAct", "(II)I"⟩, 77), (⟨"QuinceEndModel", "thingTells", "(II)I"⟩, 77), (⟨"QuinceEndModel", "narrow", "(IJ)J"⟩, 77)]
theorem lw_r5 : ∀ q ∈ lw_privs_5, lw_okq q := List.forall_mem_cons.mpr ⟨lw_p64, List.forall_mem_cons.mpr ⟨lw_p65, List.forall_mem_cons.mpr ⟨lw_p66, List.forall_mem_cons.mpr ⟨lw_p67, List.forall_mem_cons.mpr ⟨lw_p68, List.forall_mem_cons.mpr ⟨lw_p69, List.forall_mem_cons.mpr ⟨lw_p70, List.forall_mem_cons.mpr ⟨lw_p71, List.forall_mem_cons.mpr ⟨lw_p72, List.forall_mem_cons.mpr ⟨lw_p73, List.forall_mem_cons.mpr ⟨lw_p74, List.forall_mem_cons.mpr ⟨lw_p75, fun _ h => absurd h List.not_mem_nil⟩⟩⟩⟩⟩⟩⟩⟩⟩⟩⟩⟩
def lw_privs : List (MethodName × Nat) := lw_privs_1 ++ (lw_privs_2 ++ (lw_privs_3 ++ (lw_privs_4 ++ (lw_privs_5))))
def lw_tbl : List Cond := k2_sels lw_privs ++ tables_1
theorem lw_privs_ok : ∀ q ∈ lw_privs, lw_okq q := by
  show ∀ q ∈ lw_privs_1 ++ (lw_privs_2 ++ (lw_privs_3 ++ (lw_privs_4 ++ (lw_privs_5)))), lw_okq q
  exact List.forall_mem_append.mpr ⟨lw_r1, List.forall_mem_append.mpr ⟨lw_r2, List.forall_mem_append.mpr ⟨lw_r3, List.forall_mem_append.mpr ⟨lw_r4, lw_r5⟩⟩⟩⟩
end
section
def qG : List Cond := lw_tbl.filter goodWord
theorem qG_of {w : Cond} (h : w ∈ lw_tbl) (hg : goodWord w = true) : w ∈ qG := List.mem_filter.mpr ⟨h, hg⟩
theorem qG_t (i : Nat) {w : Cond} (h : tables_1[i]? = some w) (hg : goodWord w = true) : w ∈ qG := qG_of (List.mem_append_right _ (List.mem_of_getElem? h)) hg
theorem qG_t1 (i : Nat) {w : Cond} (h : tables_1_1[i]? = some w) (hg : goodWord w = true) : w ∈ qG := qG_of (List.mem_append_right _ (show w ∈ tables_1 from List.mem_append_left _ (List.mem_of_getElem? h))) hg
theorem qG_t2 (i : Nat) {w : Cond} (h : tables_1_2[i]? = some w) (hg : goodWord w = true) : w ∈ qG := qG_of (List.mem_append_right _ (show w ∈ tables_1 from List.mem_append_right _ (List.mem_append_left _ (List.mem_of_getElem? h)))) hg
theorem qG_t3 (i : Nat) {w : Cond} (h : tables_1_3[i]? = some w) (hg : goodWord w = true) : w ∈ qG := qG_of (List.mem_append_right _ (show w ∈ tables_1 from List.mem_append_right _ (List.mem_append_right _ (List.mem_append_left _ (List.mem_of_getElem? h))))) hg
theorem qG_t4 (i : Nat) {w : Cond} (h : tables_1_4[i]? = some w) (hg : goodWord w = true) : w ∈ qG := qG_of (List.mem_append_right _ (show w ∈ tables_1 from List.mem_append_right _ (List.mem_append_right _ (List.mem_append_right _ (List.mem_append_left _ (List.mem_of_getElem? h)))))) hg
theorem qG_t5 (i : Nat) {w : Cond} (h : tables_1_5[i]? = some w) (hg : goodWord w = true) : w ∈ qG := qG_of (List.mem_append_right _ (show w ∈ tables_1 from List.mem_append_right _ (List.mem_append_right _ (List.mem_append_right _ (List.mem_append_right _ (List.mem_append_left _ (List.mem_of_getElem? h))))))) hg
theorem qG_t6 (i : Nat) {w : Cond} (h : tables_1_6[i]? = some w) (hg : goodWord w = true) : w ∈ qG := qG_of (List.mem_append_right _ (show w ∈ tables_1 from List.mem_append_right _ (List.mem_append_right _ (List.mem_append_right _ (List.mem_append_right _ (List.mem_append_right _ (List.mem_of_getElem? h))))))) hg
theorem qG_s (i : Nat) {w : Cond} (h : (k2_sels lw_privs)[i]? = some w) (hg : goodWord w = true) : w ∈ qG := qG_of (List.mem_append_left _ (List.mem_of_getElem? h)) hg
theorem qG_good : GoodIn qG qG := fun _ h => ⟨h, good_of_word (List.mem_filter.mp h).2⟩
abbrev qM : Type := MethodName × ByteArray × Nat × Option FieldType
def qws (M : qM) : List Cond := Cond.code M.1 M.2.1 M.2.2.1 M.2.2.2 :: qG
def q_T0 : u_T := fun k => match k with
  | 0 => ("QuinceEnd$Acting", "bodies", "[I", true)
  | 1 => ("QuinceEnd$Acting", "ran", "I", false)
  | 2 => ("QuinceEnd$Acting", "kind", "I", false)
  | 3 => ("QuinceEnd$Acting", "number", "I", false)
  | _ => ("QuinceEnd$Acting", "v", "I", false)
def q_t0 : Nat → FieldType := fun k => match k with
  | 0 => (.array .int)
  | 1 => .int
  | 2 => .int
  | 3 => .int
  | _ => .int
theorem q_nm0 : ∀ a, a < 5 → ∀ b, b < 5 → a ≠ b → (q_T0 a).2.1 ≠ (q_T0 b).2.1 := by decide +kernel
theorem q_tok0 : ∀ k, k < 5 → parseFieldDescriptor (q_T0 k).2.2.1 = some (q_t0 k) := by decide +kernel
theorem q_in0 : ∀ w ∈ u_ws "QuinceEnd$Acting" q_T0 5, w ∈ qG := fun w h => qG_of ((by decide +kernel : ∀ w ∈ u_ws "QuinceEnd$Acting" q_T0 5, w ∈ lw_tbl) w h) ((by decide +kernel : ∀ w ∈ u_ws "QuinceEnd$Acting" q_T0 5, goodWord w = true) w h)
def q_T1 : u_T := fun k => match k with
  | 0 => ("QuinceEnd$Asking", "now", "LQuinceEnd$Whole;", true)
  | 1 => ("QuinceEnd$Asking", "trial", "LQuinceEnd$Pan;", true)
  | 2 => ("QuinceEnd$Asking", "tried", "[I", true)
  | _ => ("QuinceEnd$Asking", "chosen", "[I", true)
def q_t1 : Nat → FieldType := fun k => match k with
  | 0 => (.object "QuinceEnd$Whole")
  | 1 => (.object "QuinceEnd$Pan")
  | 2 => (.array .int)
  | _ => (.array .int)
theorem q_nm1 : ∀ a, a < 4 → ∀ b, b < 4 → a ≠ b → (q_T1 a).2.1 ≠ (q_T1 b).2.1 := by decide +kernel
theorem q_tok1 : ∀ k, k < 4 → parseFieldDescriptor (q_T1 k).2.2.1 = some (q_t1 k) := by decide +kernel
theorem q_in1 : ∀ w ∈ u_ws "QuinceEnd$Asking" q_T1 4, w ∈ qG := fun w h => qG_of ((by decide +kernel : ∀ w ∈ u_ws "QuinceEnd$Asking" q_T1 4, w ∈ lw_tbl) w h) ((by decide +kernel : ∀ w ∈ u_ws "QuinceEnd$Asking" q_T1 4, goodWord w = true) w h)
def q_T2 : u_T := fun k => match k with
  | 0 => ("QuinceEnd$Kitchen", "steps", "[I", true)
  | 1 => ("QuinceEnd$Kitchen", "relations", "[I", true)
  | 2 => ("QuinceEnd$Kitchen", "numbers", "[I", true)
  | 3 => ("QuinceEnd$Kitchen", "stepCount", "I", false)
  | _ => ("QuinceEnd$Kitchen", "need", "I", false)
def q_t2 : Nat → FieldType := fun k => match k with
  | 0 => (.array .int)
  | 1 => (.array .int)
  | 2 => (.array .int)
  | 3 => .int
  | _ => .int
theorem q_nm2 : ∀ a, a < 5 → ∀ b, b < 5 → a ≠ b → (q_T2 a).2.1 ≠ (q_T2 b).2.1 := by decide +kernel
theorem q_tok2 : ∀ k, k < 5 → parseFieldDescriptor (q_T2 k).2.2.1 = some (q_t2 k) := by decide +kernel
theorem q_in2 : ∀ w ∈ u_ws "QuinceEnd$Kitchen" q_T2 5, w ∈ qG := fun w h => qG_of ((by decide +kernel : ∀ w ∈ u_ws "QuinceEnd$Kitchen" q_T2 5, w ∈ lw_tbl) w h) ((by decide +kernel : ∀ w ∈ u_ws "QuinceEnd$Kitchen" q_T2 5, goodWord w = true) w h)
def q_T3 : u_T := fun k => match k with
  | 0 => ("QuinceEnd$Pan", "count", "I", false)
  | 1 => ("QuinceEnd$Pan", "things", "[LQuinceEnd$Thing;", true)
  | 2 => ("QuinceEnd$Pan", "fire", "I", false)
  | 3 => ("QuinceEnd$Pan", "colour", "I", false)
  | 4 => ("QuinceEnd$Pan", "set", "Z", false)
  | 5 => ("QuinceEnd$Pan", "minute", "I", false)
  | 6 => ("QuinceEnd$Pan", "kitchen", "LQuinceEnd$Kitchen;", false)
  | _ => ("QuinceEnd$Pan", "facts", "[I", true)
def q_t3 : Nat → FieldType := fun k => match k with
  | 0 => .int
  | 1 => (.array (.object "QuinceEnd$Thing"))
  | 2 => .int
  | 3 => .int
  | 4 => .boolean
  | 5 => .int
  | 6 => (.object "QuinceEnd$Kitchen")
  | _ => (.array .int)
theorem q_nm3 : ∀ a, a < 8 → ∀ b, b < 8 → a ≠ b → (q_T3 a).2.1 ≠ (q_T3 b).2.1 := by decide +kernel
theorem q_tok3 : ∀ k, k < 8 → parseFieldDescriptor (q_T3 k).2.2.1 = some (q_t3 k) := by decide +kernel
theorem q_in3 : ∀ w ∈ u_ws "QuinceEnd$Pan" q_T3 8, w ∈ qG := fun w h => qG_of ((by decide +kernel : ∀ w ∈ u_ws "QuinceEnd$Pan" q_T3 8, w ∈ lw_tbl) w h) ((by decide +kernel : ∀ w ∈ u_ws "QuinceEnd$Pan" q_T3 8, goodWord w = true) w h)
def q_T4 : u_T := fun k => match k with
  | 0 => ("QuinceEnd$Reading", "signs", "[I", true)
  | 1 => ("QuinceEnd$Reading", "length", "I", false)
  | 2 => ("QuinceEnd$Reading", "place", "I", false)
  | _ => ("QuinceEnd$Reading", "kitchen", "LQuinceEnd$Kitchen;", false)
def q_t4 : Nat → FieldType := fun k => match k with
  | 0 => (.array .int)
  | 1 => .int
  | 2 => .int
  | _ => (.object "QuinceEnd$Kitchen")
theorem q_nm4 : ∀ a, a < 4 → ∀ b, b < 4 → a ≠ b → (q_T4 a).2.1 ≠ (q_T4 b).2.1 := by decide +kernel
theorem q_tok4 : ∀ k, k < 4 → parseFieldDescriptor (q_T4 k).2.2.1 = some (q_t4 k) := by decide +kernel
theorem q_in4 : ∀ w ∈ u_ws "QuinceEnd$Reading" q_T4 4, w ∈ qG := fun w h => qG_of ((by decide +kernel : ∀ w ∈ u_ws "QuinceEnd$Reading" q_T4 4, w ∈ lw_tbl) w h) ((by decide +kernel : ∀ w ∈ u_ws "QuinceEnd$Reading" q_T4 4, goodWord w = true) w h)
def q_T5 : u_T := fun k => match k with
  | 0 => ("QuinceEnd$Rows", "firsts", "[I", true)
  | 1 => ("QuinceEnd$Rows", "seconds", "[I", true)
  | _ => ("QuinceEnd$Rows", "count", "I", false)
def q_t5 : Nat → FieldType := fun k => match k with
  | 0 => (.array .int)
  | 1 => (.array .int)
  | _ => .int
theorem q_nm5 : ∀ a, a < 3 → ∀ b, b < 3 → a ≠ b → (q_T5 a).2.1 ≠ (q_T5 b).2.1 := by decide +kernel
theorem q_tok5 : ∀ k, k < 3 → parseFieldDescriptor (q_T5 k).2.2.1 = some (q_t5 k) := by decide +kernel
theorem q_in5 : ∀ w ∈ u_ws "QuinceEnd$Rows" q_T5 3, w ∈ qG := fun w h => qG_of ((by decide +kernel : ∀ w ∈ u_ws "QuinceEnd$Rows" q_T5 3, w ∈ lw_tbl) w h) ((by decide +kernel : ∀ w ∈ u_ws "QuinceEnd$Rows" q_T5 3, goodWord w = true) w h)
def q_T6 : u_T := fun k => match k with
  | 0 => ("QuinceEnd$Tape", "sort", "I", false)
  | 1 => ("QuinceEnd$Tape", "length", "I", false)
  | _ => ("QuinceEnd$Tape", "items", "[J", true)
def q_t6 : Nat → FieldType := fun k => match k with
  | 0 => .int
  | 1 => .int
  | _ => (.array .long)
theorem q_nm6 : ∀ a, a < 3 → ∀ b, b < 3 → a ≠ b → (q_T6 a).2.1 ≠ (q_T6 b).2.1 := by decide +kernel
theorem q_tok6 : ∀ k, k < 3 → parseFieldDescriptor (q_T6 k).2.2.1 = some (q_t6 k) := by decide +kernel
theorem q_in6 : ∀ w ∈ u_ws "QuinceEnd$Tape" q_T6 3, w ∈ qG := fun w h => qG_of ((by decide +kernel : ∀ w ∈ u_ws "QuinceEnd$Tape" q_T6 3, w ∈ lw_tbl) w h) ((by decide +kernel : ∀ w ∈ u_ws "QuinceEnd$Tape" q_T6 3, goodWord w = true) w h)
def q_T7 : u_T := fun k => match k with
  | 0 => ("QuinceEnd$Thing", "number", "I", true)
  | 1 => ("QuinceEnd$Thing", "kind", "I", false)
  | 2 => ("QuinceEnd$Thing", "v", "I", false)
  | 3 => ("QuinceEnd$Thing", "weight", "I", false)
  | 4 => ("QuinceEnd$Thing", "whose", "I", false)
  | 5 => ("QuinceEnd$Thing", "state", "I", false)
  | 6 => ("QuinceEnd$Thing", "time", "I", false)
  | _ => ("QuinceEnd$Thing", "row", "[I", true)
def q_t7 : Nat → FieldType := fun k => match k with
  | 0 => .int
  | 1 => .int
  | 2 => .int
  | 3 => .int
  | 4 => .int
  | 5 => .int
  | 6 => .int
  | _ => (.array .int)
theorem q_nm7 : ∀ a, a < 8 → ∀ b, b < 8 → a ≠ b → (q_T7 a).2.1 ≠ (q_T7 b).2.1 := by decide +kernel
theorem q_tok7 : ∀ k, k < 8 → parseFieldDescriptor (q_T7 k).2.2.1 = some (q_t7 k) := by decide +kernel
theorem q_in7 : ∀ w ∈ u_ws "QuinceEnd$Thing" q_T7 8, w ∈ qG := fun w h => qG_of ((by decide +kernel : ∀ w ∈ u_ws "QuinceEnd$Thing" q_T7 8, w ∈ lw_tbl) w h) ((by decide +kernel : ∀ w ∈ u_ws "QuinceEnd$Thing" q_T7 8, goodWord w = true) w h)
def q_T8 : u_T := fun k => match k with
  | 0 => ("QuinceEnd$Whole", "pan", "LQuinceEnd$Pan;", true)
  | 1 => ("QuinceEnd$Whole", "seen", "LQuinceEnd$Rows;", true)
  | 2 => ("QuinceEnd$Whole", "plan", "LQuinceEnd$Rows;", true)
  | _ => ("QuinceEnd$Whole", "book", "LQuinceEnd$Rows;", true)
def q_t8 : Nat → FieldType := fun k => match k with
  | 0 => (.object "QuinceEnd$Pan")
  | 1 => (.object "QuinceEnd$Rows")
  | 2 => (.object "QuinceEnd$Rows")
  | _ => (.object "QuinceEnd$Rows")
theorem q_nm8 : ∀ a, a < 4 → ∀ b, b < 4 → a ≠ b → (q_T8 a).2.1 ≠ (q_T8 b).2.1 := by decide +kernel
theorem q_tok8 : ∀ k, k < 4 → parseFieldDescriptor (q_T8 k).2.2.1 = some (q_t8 k) := by decide +kernel
theorem q_in8 : ∀ w ∈ u_ws "QuinceEnd$Whole" q_T8 4, w ∈ qG := fun w h => qG_of ((by decide +kernel : ∀ w ∈ u_ws "QuinceEnd$Whole" q_T8 4, w ∈ lw_tbl) w h) ((by decide +kernel : ∀ w ∈ u_ws "QuinceEnd$Whole" q_T8 4, goodWord w = true) w h)
def q_T9 : u_T := fun k => match k with
  | 0 => ("QuinceEnd", "now", "LQuinceEnd$Whole;", true)
  | 1 => ("QuinceEnd", "kept", "LQuinceEnd$Whole;", true)
  | 2 => ("QuinceEnd", "imageTaken", "Z", false)
  | 3 => ("QuinceEnd", "asking", "LQuinceEnd$Asking;", true)
  | 4 => ("QuinceEnd", "text", "LQuinceEnd$Reading;", true)
  | 5 => ("QuinceEnd", "kitchens", "[LQuinceEnd$Kitchen;", true)
  | 6 => ("QuinceEnd", "kitchenCount", "I", false)
  | 7 => ("QuinceEnd", "acting", "LQuinceEnd$Acting;", true)
  | _ => ("QuinceEnd", "tapes", "[LQuinceEnd$Tape;", true)
def q_t9 : Nat → FieldType := fun k => match k with
  | 0 => (.object "QuinceEnd$Whole")
  | 1 => (.object "QuinceEnd$Whole")
  | 2 => .boolean
  | 3 => (.object "QuinceEnd$Asking")
  | 4 => (.object "QuinceEnd$Reading")
  | 5 => (.array (.object "QuinceEnd$Kitchen"))
  | 6 => .int
  | 7 => (.object "QuinceEnd$Acting")
  | _ => (.array (.object "QuinceEnd$Tape"))
theorem q_nm9 : ∀ a, a < 9 → ∀ b, b < 9 → a ≠ b → (q_T9 a).2.1 ≠ (q_T9 b).2.1 := by decide +kernel
theorem q_tok9 : ∀ k, k < 9 → parseFieldDescriptor (q_T9 k).2.2.1 = some (q_t9 k) := by decide +kernel
theorem q_in9 : ∀ w ∈ u_ws "QuinceEnd" q_T9 9, w ∈ qG := fun w h => qG_of ((by decide +kernel : ∀ w ∈ u_ws "QuinceEnd" q_T9 9, w ∈ lw_tbl) w h) ((by decide +kernel : ∀ w ∈ u_ws "QuinceEnd" q_T9 9, goodWord w = true) w h)
def q_T10 : u_T := fun k => match k with
  | 0 => ("QuinceEndModel", "things", "I", false)
  | 1 => ("QuinceEndModel", "flames", "I", false)
  | 2 => ("QuinceEndModel", "colour", "I", false)
  | 3 => ("QuinceEndModel", "minute", "I", false)
  | 4 => ("QuinceEndModel", "isSet", "Z", false)
  | 5 => ("QuinceEndModel", "kind", "[I", true)
  | 6 => ("QuinceEndModel", "v", "[I", true)
  | 7 => ("QuinceEndModel", "weight", "[I", true)
  | 8 => ("QuinceEndModel", "whose", "[I", true)
  | 9 => ("QuinceEndModel", "lies", "[I", true)
  | 10 => ("QuinceEndModel", "time", "[I", true)
  | 11 => ("QuinceEndModel", "rows", "[I", true)
  | 12 => ("QuinceEndModel", "kitchens", "I", false)
  | 13 => ("QuinceEndModel", "the", "I", false)
  | 14 => ("QuinceEndModel", "fed", "I", false)
  | 15 => ("QuinceEndModel", "at", "I", false)
  | 16 => ("QuinceEndModel", "digits", "I", false)
  | 17 => ("QuinceEndModel", "text", "[I", true)
  | 18 => ("QuinceEndModel", "clauses", "[I", true)
  | 19 => ("QuinceEndModel", "word", "[I", true)
  | 20 => ("QuinceEndModel", "number", "[I", true)
  | 21 => ("QuinceEndModel", "from", "[I", true)
  | 22 => ("QuinceEndModel", "to", "[I", true)
  | 23 => ("QuinceEndModel", "sign", "[I", true)
  | 24 => ("QuinceEndModel", "waits", "[I", true)
  | 25 => ("QuinceEndModel", "signs", "I", false)
  | 26 => ("QuinceEndModel", "waiting", "I", false)
  | 27 => ("QuinceEndModel", "open", "I", false)
  | 28 => ("QuinceEndModel", "letters", "[I", true)
  | 29 => ("QuinceEndModel", "pile", "[Z", true)
  | 30 => ("QuinceEndModel", "mostTime", "I", false)
  | 31 => ("QuinceEndModel", "keptFlames", "I", false)
  | 32 => ("QuinceEndModel", "keptColour", "I", false)
  | 33 => ("QuinceEndModel", "keptMinute", "I", false)
  | 34 => ("QuinceEndModel", "keptSet", "Z", false)
  | 35 => ("QuinceEndModel", "keptLies", "[I", true)
  | 36 => ("QuinceEndModel", "keptTime", "[I", true)
  | 37 => ("QuinceEndModel", "line", "[I", true)
  | 38 => ("QuinceEndModel", "bestLine", "[I", true)
  | 39 => ("QuinceEndModel", "seen", "I", false)
  | 40 => ("QuinceEndModel", "seenWhen", "[I", true)
  | 41 => ("QuinceEndModel", "seenColour", "[I", true)
  | 42 => ("QuinceEndModel", "plans", "I", false)
  | 43 => ("QuinceEndModel", "books", "I", false)
  | 44 => ("QuinceEndModel", "planWhat", "[I", true)
  | 45 => ("QuinceEndModel", "planNumber", "[I", true)
  | 46 => ("QuinceEndModel", "bookThing", "[I", true)
  | 47 => ("QuinceEndModel", "bookWeight", "[I", true)
  | 48 => ("QuinceEndModel", "hasImage", "Z", false)
  | 49 => ("QuinceEndModel", "imageSet", "Z", false)
  | 50 => ("QuinceEndModel", "imageThe", "I", false)
  | 51 => ("QuinceEndModel", "imageThings", "I", false)
  | 52 => ("QuinceEndModel", "imageFlames", "I", false)
  | 53 => ("QuinceEndModel", "imageColour", "I", false)
  | 54 => ("QuinceEndModel", "imageMinute", "I", false)
  | 55 => ("QuinceEndModel", "imageSeen", "I", false)
  | 56 => ("QuinceEndModel", "imagePlans", "I", false)
  | 57 => ("QuinceEndModel", "imageBooks", "I", false)
  | 58 => ("QuinceEndModel", "imageKind", "[I", true)
  | 59 => ("QuinceEndModel", "imageV", "[I", true)
  | 60 => ("QuinceEndModel", "imageWeight", "[I", true)
  | 61 => ("QuinceEndModel", "imageWhose", "[I", true)
  | 62 => ("QuinceEndModel", "imageLies", "[I", true)
  | 63 => ("QuinceEndModel", "imageTime", "[I", true)
  | 64 => ("QuinceEndModel", "imageRows", "[I", true)
  | 65 => ("QuinceEndModel", "imageWhen", "[I", true)
  | 66 => ("QuinceEndModel", "imageSeenColour", "[I", true)
  | 67 => ("QuinceEndModel", "imageWhat", "[I", true)
  | 68 => ("QuinceEndModel", "imageNumber", "[I", true)
  | 69 => ("QuinceEndModel", "imageBookThing", "[I", true)
  | 70 => ("QuinceEndModel", "imageBookWeight", "[I", true)
  | 71 => ("QuinceEndModel", "ran", "I", false)
  | 72 => ("QuinceEndModel", "bodies", "[I", true)
  | 73 => ("QuinceEndModel", "sort", "[I", true)
  | 74 => ("QuinceEndModel", "length", "[I", true)
  | 75 => ("QuinceEndModel", "item", "[J", true)
  | _ => ("QuinceEndModel", "aside", "[J", true)
def q_t10 : Nat → FieldType := fun k => match k with
  | 0 => .int
  | 1 => .int
  | 2 => .int
  | 3 => .int
  | 4 => .boolean
  | 5 => (.array .int)
  | 6 => (.array .int)
  | 7 => (.array .int)
  | 8 => (.array .int)
  | 9 => (.array .int)
  | 10 => (.array .int)
  | 11 => (.array .int)
  | 12 => .int
  | 13 => .int
  | 14 => .int
  | 15 => .int
  | 16 => .int
  | 17 => (.array .int)
  | 18 => (.array .int)
  | 19 => (.array .int)
  | 20 => (.array .int)
  | 21 => (.array .int)
  | 22 => (.array .int)
  | 23 => (.array .int)
  | 24 => (.array .int)
  | 25 => .int
  | 26 => .int
  | 27 => .int
  | 28 => (.array .int)
  | 29 => (.array .boolean)
  | 30 => .int
  | 31 => .int
  | 32 => .int
  | 33 => .int
  | 34 => .boolean
  | 35 => (.array .int)
  | 36 => (.array .int)
  | 37 => (.array .int)
  | 38 => (.array .int)
  | 39 => .int
  | 40 => (.array .int)
  | 41 => (.array .int)
  | 42 => .int
  | 43 => .int
  | 44 => (.array .int)
  | 45 => (.array .int)
  | 46 => (.array .int)
  | 47 => (.array .int)
  | 48 => .boolean
  | 49 => .boolean
  | 50 => .int
  | 51 => .int
  | 52 => .int
  | 53 => .int
  | 54 => .int
  | 55 => .int
  | 56 => .int
  | 57 => .int
  | 58 => (.array .int)
  | 59 => (.array .int)
  | 60 => (.array .int)
  | 61 => (.array .int)
  | 62 => (.array .int)
  | 63 => (.array .int)
  | 64 => (.array .int)
  | 65 => (.array .int)
  | 66 => (.array .int)
  | 67 => (.array .int)
  | 68 => (.array .int)
  | 69 => (.array .int)
  | 70 => (.array .int)
  | 71 => .int
  | 72 => (.array .int)
  | 73 => (.array .int)
  | 74 => (.array .int)
  | 75 => (.array .long)
  | _ => (.array .long)
theorem q_nm10 : ∀ a, a < 77 → ∀ b, b < 77 → a ≠ b → (q_T10 a).2.1 ≠ (q_T10 b).2.1 := by decide +kernel
theorem q_tok10 : ∀ k, k < 77 → parseFieldDescriptor (q_T10 k).2.2.1 = some (q_t10 k) := by decide +kernel
theorem q_in10 : ∀ w ∈ u_ws "QuinceEndModel" q_T10 77, w ∈ qG := fun w h => qG_of ((by decide +kernel : ∀ w ∈ u_ws "QuinceEndModel" q_T10 77, w ∈ lw_tbl) w h) ((by decide +kernel : ∀ w ∈ u_ws "QuinceEndModel" q_T10 77, goodWord w = true) w h)
abbrev q_cls : List vw_C := [("QuinceEnd$Acting", q_T0, 5), ("QuinceEnd$Asking", q_T1, 4), ("QuinceEnd$Kitchen", q_T2, 5), ("QuinceEnd$Pan", q_T3, 8), ("QuinceEnd$Reading", q_T4, 4), ("QuinceEnd$Rows", q_T5, 3), ("QuinceEnd$Tape", q_T6, 3), ("QuinceEnd$Thing", q_T7, 8), ("QuinceEnd$Whole", q_T8, 4), ("QuinceEnd", q_T9, 9), ("QuinceEndModel", q_T10, 77)]
end
section
abbrev b_Ac_init : ByteArray := prog_2_method_1_code
def M_Ac_init : qM := (⟨"QuinceEnd$Acting", "<init>", "()V"⟩, b_Ac_init, 1, none)
abbrev b_Ac_forget : ByteArray := prog_2_method_2_code
def M_Ac_forget : qM := (⟨"QuinceEnd$Acting", "forget", "()V"⟩, b_Ac_forget, 1, none)
abbrev b_Ac_bodyAt : ByteArray := prog_2_method_3_code
def M_Ac_bodyAt : qM := (⟨"QuinceEnd$Acting", "bodyAt", "(I)I"⟩, b_Ac_bodyAt, 2, (some .int))
abbrev b_Ac_perform : ByteArray := prog_2_method_4_code
def M_Ac_perform : qM := (⟨"QuinceEnd$Acting", "perform", "(LQuinceEnd$Thing;II)I"⟩, b_Ac_perform, 4, (some .int))
abbrev b_Ac_from : ByteArray := prog_2_method_5_code
def M_Ac_from : qM := (⟨"QuinceEnd$Acting", "from", "(IIII)I"⟩, b_Ac_from, 8, (some .int))
abbrev b_Ac_body : ByteArray := prog_2_method_6_code
def M_Ac_body : qM := (⟨"QuinceEnd$Acting", "body", "(IIII)I"⟩, b_Ac_body, 5, (some .int))
abbrev b_As_init : ByteArray := prog_3_method_1_code
def M_As_init : qM := (⟨"QuinceEnd$Asking", "<init>", "(LQuinceEnd$Whole;LQuinceEnd$Kitchen;)V"⟩, b_As_init, 3, none)
abbrev b_As_behind : ByteArray := prog_3_method_2_code
def M_As_behind : qM := (⟨"QuinceEnd$Asking", "behind", "(IZ)I"⟩, b_As_behind, 3, (some .int))
abbrev b_As_sets : ByteArray := prog_3_method_3_code
def M_As_sets : qM := (⟨"QuinceEnd$Asking", "sets", "()I"⟩, b_As_sets, 2, (some .int))
abbrev b_As_minutesToSet : ByteArray := prog_3_method_4_code
def M_As_minutesToSet : qM := (⟨"QuinceEnd$Asking", "minutesToSet", "()I"⟩, b_As_minutesToSet, 2, (some .int))
abbrev b_As_word : ByteArray := prog_3_method_5_code
def M_As_word : qM := (⟨"QuinceEnd$Asking", "word", "()I"⟩, b_As_word, 6, (some .int))
abbrev b_As_bestRow : ByteArray := prog_3_method_6_code
def M_As_bestRow : qM := (⟨"QuinceEnd$Asking", "bestRow", "(II)I"⟩, b_As_bestRow, 7, (some .int))
abbrev b_As_colourOfRow : ByteArray := prog_3_method_7_code
def M_As_colourOfRow : qM := (⟨"QuinceEnd$Asking", "colourOfRow", "(II)I"⟩, b_As_colourOfRow, 6, (some .int))
abbrev b_As_fewest : ByteArray := prog_3_method_8_code
def M_As_fewest : qM := (⟨"QuinceEnd$Asking", "fewest", "(I)I"⟩, b_As_fewest, 7, (some .int))
abbrev b_As_setsWith : ByteArray := prog_3_method_9_code
def M_As_setsWith : qM := (⟨"QuinceEnd$Asking", "setsWith", "(II)Z"⟩, b_As_setsWith, 5, (some .boolean))
abbrev b_As_nearestFire : ByteArray := prog_3_method_10_code
def M_As_nearestFire : qM := (⟨"QuinceEnd$Asking", "nearestFire", "(II)I"⟩, b_As_nearestFire, 7, (some .int))
abbrev b_As_weights : ByteArray := prog_3_method_11_code
def M_As_weights : qM := (⟨"QuinceEnd$Asking", "weights", "(I)I"⟩, b_As_weights, 5, (some .int))
abbrev b_As_firmness : ByteArray := prog_3_method_12_code
def M_As_firmness : qM := (⟨"QuinceEnd$Asking", "firmness", "(IZ)I"⟩, b_As_firmness, 7, (some .int))
abbrev b_As_isAsSeen : ByteArray := prog_3_method_13_code
def M_As_isAsSeen : qM := (⟨"QuinceEnd$Asking", "isAsSeen", "()Z"⟩, b_As_isAsSeen, 5, (some .boolean))
abbrev b_As_chances : ByteArray := prog_3_method_14_code
def M_As_chances : qM := (⟨"QuinceEnd$Asking", "chances", "(I)I"⟩, b_As_chances, 5, (some .int))
abbrev b_As_planned : ByteArray := prog_3_method_15_code
def M_As_planned : qM := (⟨"QuinceEnd$Asking", "planned", "(Z)I"⟩, b_As_planned, 3, (some .int))
abbrev b_As_follow : ByteArray := prog_3_method_16_code
def M_As_follow : qM := (⟨"QuinceEnd$Asking", "follow", "(II)V"⟩, b_As_follow, 4, none)
abbrev b_Ki_init : ByteArray := prog_4_method_1_code
def M_Ki_init : qM := (⟨"QuinceEnd$Kitchen", "<init>", "()V"⟩, b_Ki_init, 1, none)
abbrev b_Ki_clean : ByteArray := prog_4_method_2_code
def M_Ki_clean : qM := (⟨"QuinceEnd$Kitchen", "clean", "()V"⟩, b_Ki_clean, 1, none)
abbrev b_Ki_addStep : ByteArray := prog_4_method_3_code
def M_Ki_addStep : qM := (⟨"QuinceEnd$Kitchen", "addStep", "(III)V"⟩, b_Ki_addStep, 4, none)
abbrev b_Ki_adds : ByteArray := prog_4_method_4_code
def M_Ki_adds : qM := (⟨"QuinceEnd$Kitchen", "adds", "([I)I"⟩, b_Ki_adds, 10, (some .int))
abbrev b_Pa_init : ByteArray := prog_5_method_1_code
def M_Pa_init : qM := (⟨"QuinceEnd$Pan", "<init>", "(LQuinceEnd$Kitchen;)V"⟩, b_Pa_init, 3, none)
abbrev b_Pa_copyFrom : ByteArray := prog_5_method_2_code
def M_Pa_copyFrom : qM := (⟨"QuinceEnd$Pan", "copyFrom", "(LQuinceEnd$Pan;)V"⟩, b_Pa_copyFrom, 3, none)
abbrev b_Pa_addThing : ByteArray := prog_5_method_3_code
def M_Pa_addThing : qM := (⟨"QuinceEnd$Pan", "addThing", "(IIII)I"⟩, b_Pa_addThing, 5, (some .int))
abbrev b_Pa_find : ByteArray := prog_5_method_4_code
def M_Pa_find : qM := (⟨"QuinceEnd$Pan", "find", "(I)LQuinceEnd$Thing;"⟩, b_Pa_find, 2, (some (.object "QuinceEnd$Thing")))
abbrev b_Pa_bitsOf : ByteArray := prog_5_method_5_code
def M_Pa_bitsOf : qM := (⟨"QuinceEnd$Pan", "bitsOf", "(I)I"⟩, b_Pa_bitsOf, 4, (some .int))
abbrev b_Pa_howMany : ByteArray := prog_5_method_6_code
def M_Pa_howMany : qM := (⟨"QuinceEnd$Pan", "howMany", "(I)I"⟩, b_Pa_howMany, 2, (some .int))
abbrev b_Pa_speak : ByteArray := prog_5_method_7_code
def M_Pa_speak : qM := (⟨"QuinceEnd$Pan", "speak", "(LQuinceEnd$Thing;)V"⟩, b_Pa_speak, 2, none)
abbrev b_Pa_tipOut : ByteArray := prog_5_method_8_code
def M_Pa_tipOut : qM := (⟨"QuinceEnd$Pan", "tipOut", "()V"⟩, b_Pa_tipOut, 2, none)
abbrev b_Pa_gives : ByteArray := prog_5_method_9_code
def M_Pa_gives : qM := (⟨"QuinceEnd$Pan", "gives", "(LQuinceEnd$Thing;)I"⟩, b_Pa_gives, 3, (some .int))
abbrev b_Pa_spokenOver : ByteArray := prog_5_method_10_code
def M_Pa_spokenOver : qM := (⟨"QuinceEnd$Pan", "spokenOver", "(LQuinceEnd$Thing;)Z"⟩, b_Pa_spokenOver, 4, (some .boolean))
abbrev b_Pa_together : ByteArray := prog_5_method_11_code
def M_Pa_together : qM := (⟨"QuinceEnd$Pan", "together", "()I"⟩, b_Pa_together, 3, (some .int))
abbrev b_Pa_goMinute : ByteArray := prog_5_method_12_code
def M_Pa_goMinute : qM := (⟨"QuinceEnd$Pan", "goMinute", "()V"⟩, b_Pa_goMinute, 2, none)
abbrev b_Pa_goMinutes : ByteArray := prog_5_method_13_code
def M_Pa_goMinutes : qM := (⟨"QuinceEnd$Pan", "goMinutes", "(I)V"⟩, b_Pa_goMinutes, 3, none)
abbrev b_Pa_judgeTimes : ByteArray := prog_5_method_14_code
def M_Pa_judgeTimes : qM := (⟨"QuinceEnd$Pan", "judgeTimes", "(LQuinceEnd$Tape;I)I"⟩, b_Pa_judgeTimes, 5, (some .int))
abbrev b_Re_init : ByteArray := prog_6_method_1_code
def M_Re_init : qM := (⟨"QuinceEnd$Reading", "<init>", "()V"⟩, b_Re_init, 1, none)
abbrev b_Re_addSign : ByteArray := prog_6_method_2_code
def M_Re_addSign : qM := (⟨"QuinceEnd$Reading", "addSign", "(I)I"⟩, b_Re_addSign, 2, (some .int))
abbrev b_Re_empty : ByteArray := prog_6_method_3_code
def M_Re_empty : qM := (⟨"QuinceEnd$Reading", "empty", "()V"⟩, b_Re_empty, 1, none)
abbrev b_Re_readInto : ByteArray := prog_6_method_4_code
def M_Re_readInto : qM := (⟨"QuinceEnd$Reading", "readInto", "(LQuinceEnd$Kitchen;)I"⟩, b_Re_readInto, 3, (some .int))
abbrev b_Re_clause : ByteArray := prog_6_method_5_code
def M_Re_clause : qM := (⟨"QuinceEnd$Reading", "clause", "()Z"⟩, b_Re_clause, 3, (some .boolean))
abbrev b_Re_needClause : ByteArray := prog_6_method_6_code
def M_Re_needClause : qM := (⟨"QuinceEnd$Reading", "needClause", "()Z"⟩, b_Re_needClause, 2, (some .boolean))
abbrev b_Re_expression : ByteArray := prog_6_method_7_code
def M_Re_expression : qM := (⟨"QuinceEnd$Reading", "expression", "(I)Z"⟩, b_Re_expression, 5, (some .boolean))
abbrev b_Re_factor : ByteArray := prog_6_method_8_code
def M_Re_factor : qM := (⟨"QuinceEnd$Reading", "factor", "(I)Z"⟩, b_Re_factor, 6, (some .boolean))
abbrev b_Re_sign : ByteArray := prog_6_method_9_code
def M_Re_sign : qM := (⟨"QuinceEnd$Reading", "sign", "()I"⟩, b_Re_sign, 1, (some .int))
abbrev b_Re_take : ByteArray := prog_6_method_10_code
def M_Re_take : qM := (⟨"QuinceEnd$Reading", "take", "(I)Z"⟩, b_Re_take, 2, (some .boolean))
abbrev b_Re_takeWord : ByteArray := prog_6_method_11_code
def M_Re_takeWord : qM := (⟨"QuinceEnd$Reading", "takeWord", "(Ljava/lang/String;)Z"⟩, b_Re_takeWord, 3, (some .boolean))
abbrev b_Re_takeOneOf : ByteArray := prog_6_method_12_code
def M_Re_takeOneOf : qM := (⟨"QuinceEnd$Reading", "takeOneOf", "(Ljava/lang/String;)I"⟩, b_Re_takeOneOf, 3, (some .int))
abbrev b_Re_takeNumber : ByteArray := prog_6_method_13_code
def M_Re_takeNumber : qM := (⟨"QuinceEnd$Reading", "takeNumber", "()I"⟩, b_Re_takeNumber, 4, (some .int))
abbrev b_Ro_init : ByteArray := prog_7_method_1_code
def M_Ro_init : qM := (⟨"QuinceEnd$Rows", "<init>", "(I)V"⟩, b_Ro_init, 3, none)
abbrev b_Ro_copyFrom : ByteArray := prog_7_method_2_code
def M_Ro_copyFrom : qM := (⟨"QuinceEnd$Rows", "copyFrom", "(LQuinceEnd$Rows;)V"⟩, b_Ro_copyFrom, 3, none)
abbrev b_Ro_empty : ByteArray := prog_7_method_3_code
def M_Ro_empty : qM := (⟨"QuinceEnd$Rows", "empty", "()I"⟩, b_Ro_empty, 1, (some .int))
abbrev b_Ro_add : ByteArray := prog_7_method_4_code
def M_Ro_add : qM := (⟨"QuinceEnd$Rows", "add", "(II)I"⟩, b_Ro_add, 3, (some .int))
abbrev b_Ro_first : ByteArray := prog_7_method_5_code
def M_Ro_first : qM := (⟨"QuinceEnd$Rows", "first", "(I)I"⟩, b_Ro_first, 2, (some .int))
abbrev b_Ro_second : ByteArray := prog_7_method_6_code
def M_Ro_second : qM := (⟨"QuinceEnd$Rows", "second", "(I)I"⟩, b_Ro_second, 2, (some .int))
abbrev b_Ta_init : ByteArray := prog_8_method_1_code
def M_Ta_init : qM := (⟨"QuinceEnd$Tape", "<init>", "()V"⟩, b_Ta_init, 1, none)
abbrev b_Ta_become : ByteArray := prog_8_method_2_code
def M_Ta_become : qM := (⟨"QuinceEnd$Tape", "become", "(II)V"⟩, b_Ta_become, 4, none)
abbrev b_Ta_has : ByteArray := prog_8_method_3_code
def M_Ta_has : qM := (⟨"QuinceEnd$Tape", "has", "(I)Z"⟩, b_Ta_has, 2, (some .boolean))
abbrev b_Ta_hasRun : ByteArray := prog_8_method_4_code
def M_Ta_hasRun : qM := (⟨"QuinceEnd$Tape", "hasRun", "(II)Z"⟩, b_Ta_hasRun, 3, (some .boolean))
abbrev b_Ta_fitted : ByteArray := prog_8_method_5_code
def M_Ta_fitted : qM := (⟨"QuinceEnd$Tape", "fitted", "(J)J"⟩, b_Ta_fitted, 3, (some .long))
abbrev b_Th_init : ByteArray := prog_9_method_1_code
def M_Th_init : qM := (⟨"QuinceEnd$Thing", "<init>", "(I)V"⟩, b_Th_init, 2, none)
abbrev b_Th_copyFrom : ByteArray := prog_9_method_2_code
def M_Th_copyFrom : qM := (⟨"QuinceEnd$Thing", "copyFrom", "(LQuinceEnd$Thing;)V"⟩, b_Th_copyFrom, 2, none)
abbrev b_Th_begin : ByteArray := prog_9_method_3_code
def M_Th_begin : qM := (⟨"QuinceEnd$Thing", "begin", "(IIII)V"⟩, b_Th_begin, 6, none)
abbrev b_Th_putIn : ByteArray := prog_9_method_4_code
def M_Th_putIn : qM := (⟨"QuinceEnd$Thing", "putIn", "()V"⟩, b_Th_putIn, 1, none)
abbrev b_Th_isUnder : ByteArray := prog_9_method_5_code
def M_Th_isUnder : qM := (⟨"QuinceEnd$Thing", "isUnder", "(I)Z"⟩, b_Th_isUnder, 4, (some .boolean))
abbrev b_Wh_init : ByteArray := prog_10_method_1_code
def M_Wh_init : qM := (⟨"QuinceEnd$Whole", "<init>", "(LQuinceEnd$Kitchen;)V"⟩, b_Wh_init, 2, none)
abbrev b_Wh_copyFrom : ByteArray := prog_10_method_2_code
def M_Wh_copyFrom : qM := (⟨"QuinceEnd$Whole", "copyFrom", "(LQuinceEnd$Whole;)V"⟩, b_Wh_copyFrom, 2, none)
abbrev b_Qu_init : ByteArray := prog_1_method_1_code
def M_Qu_init : qM := (⟨"QuinceEnd", "<init>", "()V"⟩, b_Qu_init, 3, none)
abbrev b_Qu_thing : ByteArray := prog_1_method_2_code
def M_Qu_thing : qM := (⟨"QuinceEnd", "thing", "(IIII)I"⟩, b_Qu_thing, 5, (some .int))
abbrev b_Qu_of : ByteArray := prog_1_method_3_code
def M_Qu_of : qM := (⟨"QuinceEnd", "of", "(II)I"⟩, b_Qu_of, 4, (some .int))
abbrev b_Qu_put : ByteArray := prog_1_method_4_code
def M_Qu_put : qM := (⟨"QuinceEnd", "put", "(I)I"⟩, b_Qu_put, 3, (some .int))
abbrev b_Qu_say : ByteArray := prog_1_method_5_code
def M_Qu_say : qM := (⟨"QuinceEnd", "say", "(I)I"⟩, b_Qu_say, 3, (some .int))
abbrev b_Qu_weigh : ByteArray := prog_1_method_6_code
def M_Qu_weigh : qM := (⟨"QuinceEnd", "weigh", "(II)I"⟩, b_Qu_weigh, 5, (some .int))
abbrev b_Qu_fire : ByteArray := prog_1_method_7_code
def M_Qu_fire : qM := (⟨"QuinceEnd", "fire", "(I)I"⟩, b_Qu_fire, 3, (some .int))
abbrev b_Qu_tip : ByteArray := prog_1_method_8_code
def M_Qu_tip : qM := (⟨"QuinceEnd", "tip", "()I"⟩, b_Qu_tip, 2, (some .int))
abbrev b_Qu_row : ByteArray := prog_1_method_9_code
def M_Qu_row : qM := (⟨"QuinceEnd", "row", "(III)I"⟩, b_Qu_row, 6, (some .int))
abbrev b_Qu_feed : ByteArray := prog_1_method_10_code
def M_Qu_feed : qM := (⟨"QuinceEnd", "feed", "(I)I"⟩, b_Qu_feed, 2, (some .int))
abbrev b_Qu_kitchen : ByteArray := prog_1_method_11_code
def M_Qu_kitchen : qM := (⟨"QuinceEnd", "kitchen", "()I"⟩, b_Qu_kitchen, 3, (some .int))
abbrev b_Qu_told : ByteArray := prog_1_method_12_code
def M_Qu_told : qM := (⟨"QuinceEnd", "told", "(I)I"⟩, b_Qu_told, 3, (some .int))
abbrev b_Qu_pass : ByteArray := prog_1_method_13_code
def M_Qu_pass : qM := (⟨"QuinceEnd", "pass", "(I)I"⟩, b_Qu_pass, 2, (some .int))
abbrev b_Qu_on : ByteArray := prog_1_method_14_code
def M_Qu_on : qM := (⟨"QuinceEnd", "on", "(II)I"⟩, b_Qu_on, 3, (some .int))
abbrev b_Qu_best : ByteArray := prog_1_method_15_code
def M_Qu_best : qM := (⟨"QuinceEnd", "best", "(II)I"⟩, b_Qu_best, 3, (some .int))
abbrev b_Qu_enough : ByteArray := prog_1_method_16_code
def M_Qu_enough : qM := (⟨"QuinceEnd", "enough", "(I)I"⟩, b_Qu_enough, 2, (some .int))
abbrev b_Qu_flame : ByteArray := prog_1_method_17_code
def M_Qu_flame : qM := (⟨"QuinceEnd", "flame", "(II)I"⟩, b_Qu_flame, 3, (some .int))
abbrev b_Qu_see : ByteArray := prog_1_method_18_code
def M_Qu_see : qM := (⟨"QuinceEnd", "see", "(II)I"⟩, b_Qu_see, 3, (some .int))
abbrev b_Qu_can : ByteArray := prog_1_method_19_code
def M_Qu_can : qM := (⟨"QuinceEnd", "can", "(II)I"⟩, b_Qu_can, 3, (some .int))
abbrev b_Qu_odds : ByteArray := prog_1_method_20_code
def M_Qu_odds : qM := (⟨"QuinceEnd", "odds", "(II)J"⟩, b_Qu_odds, 4, (some .long))
abbrev b_Qu_mean : ByteArray := prog_1_method_21_code
def M_Qu_mean : qM := (⟨"QuinceEnd", "mean", "(I)J"⟩, b_Qu_mean, 3, (some .long))
abbrev b_Qu_plan : ByteArray := prog_1_method_22_code
def M_Qu_plan : qM := (⟨"QuinceEnd", "plan", "(II)I"⟩, b_Qu_plan, 3, (some .int))
abbrev b_Qu_ends : ByteArray := prog_1_method_23_code
def M_Qu_ends : qM := (⟨"QuinceEnd", "ends", "(I)I"⟩, b_Qu_ends, 2, (some .int))
abbrev b_Qu_book : ByteArray := prog_1_method_24_code
def M_Qu_book : qM := (⟨"QuinceEnd", "book", "(II)I"⟩, b_Qu_book, 3, (some .int))
abbrev b_Qu_looked : ByteArray := prog_1_method_25_code
def M_Qu_looked : qM := (⟨"QuinceEnd", "looked", "()I"⟩, b_Qu_looked, 3, (some .int))
abbrev b_Qu_judge : ByteArray := prog_1_method_26_code
def M_Qu_judge : qM := (⟨"QuinceEnd", "judge", "(II)I"⟩, b_Qu_judge, 4, (some .int))
abbrev b_Qu_image : ByteArray := prog_1_method_27_code
def M_Qu_image : qM := (⟨"QuinceEnd", "image", "()I"⟩, b_Qu_image, 1, (some .int))
abbrev b_Qu_undo : ByteArray := prog_1_method_28_code
def M_Qu_undo : qM := (⟨"QuinceEnd", "undo", "()I"⟩, b_Qu_undo, 1, (some .int))
abbrev b_Qu_act : ByteArray := prog_1_method_29_code
def M_Qu_act : qM := (⟨"QuinceEnd", "act", "(III)I"⟩, b_Qu_act, 5, (some .int))
abbrev b_Qu_trace : ByteArray := prog_1_method_30_code
def M_Qu_trace : qM := (⟨"QuinceEnd", "trace", "(I)I"⟩, b_Qu_trace, 2, (some .int))
abbrev b_Qu_taken : ByteArray := prog_1_method_31_code
def M_Qu_taken : qM := (⟨"QuinceEnd", "taken", "(II)I"⟩, b_Qu_taken, 4, (some .int))
abbrev b_Qu_count : ByteArray := prog_1_method_32_code
def M_Qu_count : qM := (⟨"QuinceEnd", "count", "(I)I"⟩, b_Qu_count, 2, (some .int))
abbrev b_Qu_tape : ByteArray := prog_1_method_33_code
def M_Qu_tape : qM := (⟨"QuinceEnd", "tape", "(III)I"⟩, b_Qu_tape, 4, (some .int))
abbrev b_Qu_item : ByteArray := prog_1_method_34_code
def M_Qu_item : qM := (⟨"QuinceEnd", "item", "(IIJ)I"⟩, b_Qu_item, 6, (some .int))
abbrev b_Qu_read : ByteArray := prog_1_method_35_code
def M_Qu_read : qM := (⟨"QuinceEnd", "read", "(II)J"⟩, b_Qu_read, 3, (some .long))
abbrev b_Qu_shift : ByteArray := prog_1_method_36_code
def M_Qu_shift : qM := (⟨"QuinceEnd", "shift", "(IIIII)I"⟩, b_Qu_shift, 8, (some .int))
abbrev b_Qu_within : ByteArray := prog_1_method_37_code
def M_Qu_within : qM := (⟨"QuinceEnd", "within", "(III)Z"⟩, b_Qu_within, 3, (some .boolean))
abbrev b_Qu_fraction : ByteArray := prog_1_method_38_code
def M_Qu_fraction : qM := (⟨"QuinceEnd", "fraction", "(III)J"⟩, b_Qu_fraction, 4, (some .long))
abbrev b_Qu_commonDivisor : ByteArray := prog_1_method_39_code
def M_Qu_commonDivisor : qM := (⟨"QuinceEnd", "commonDivisor", "(II)I"⟩, b_Qu_commonDivisor, 6, (some .int))
abbrev b_Mo_init : ByteArray := prog_12_method_1_code
def M_Mo_init : qM := (⟨"QuinceEndModel", "<init>", "()V"⟩, b_Mo_init, 1, none)
abbrev b_Mo_in : ByteArray := prog_12_method_2_code
def M_Mo_in : qM := (⟨"QuinceEndModel", "in", "(III)Z"⟩, b_Mo_in, 4, (some .boolean))
abbrev b_Mo_has : ByteArray := prog_12_method_3_code
def M_Mo_has : qM := (⟨"QuinceEndModel", "has", "(II)Z"⟩, b_Mo_has, 3, (some .boolean))
abbrev b_Mo_least : ByteArray := prog_12_method_4_code
def M_Mo_least : qM := (⟨"QuinceEndModel", "least", "(II)I"⟩, b_Mo_least, 3, (some .int))
abbrev b_Mo_apart : ByteArray := prog_12_method_5_code
def M_Mo_apart : qM := (⟨"QuinceEndModel", "apart", "(II)I"⟩, b_Mo_apart, 3, (some .int))
abbrev b_Mo_bits : ByteArray := prog_12_method_6_code
def M_Mo_bits : qM := (⟨"QuinceEndModel", "bits", "(I)I"⟩, b_Mo_bits, 4, (some .int))
abbrev b_Mo_isThing : ByteArray := prog_12_method_7_code
def M_Mo_isThing : qM := (⟨"QuinceEndModel", "isThing", "(I)Z"⟩, b_Mo_isThing, 2, (some .boolean))
abbrev b_Mo_isWeight : ByteArray := prog_12_method_8_code
def M_Mo_isWeight : qM := (⟨"QuinceEndModel", "isWeight", "(I)Z"⟩, b_Mo_isWeight, 2, (some .boolean))
abbrev b_Mo_isMinutes : ByteArray := prog_12_method_9_code
def M_Mo_isMinutes : qM := (⟨"QuinceEndModel", "isMinutes", "(I)Z"⟩, b_Mo_isMinutes, 2, (some .boolean))
abbrev b_Mo_thing : ByteArray := prog_12_method_10_code
def M_Mo_thing : qM := (⟨"QuinceEndModel", "thing", "(IIII)I"⟩, b_Mo_thing, 6, (some .int))
abbrev b_Mo_setOf : ByteArray := prog_12_method_11_code
def M_Mo_setOf : qM := (⟨"QuinceEndModel", "setOf", "(I)I"⟩, b_Mo_setOf, 4, (some .int))
abbrev b_Mo_puts : ByteArray := prog_12_method_12_code
def M_Mo_puts : qM := (⟨"QuinceEndModel", "puts", "(I)V"⟩, b_Mo_puts, 2, none)
abbrev b_Mo_put : ByteArray := prog_12_method_13_code
def M_Mo_put : qM := (⟨"QuinceEndModel", "put", "(I)I"⟩, b_Mo_put, 2, (some .int))
abbrev b_Mo_says : ByteArray := prog_12_method_14_code
def M_Mo_says : qM := (⟨"QuinceEndModel", "says", "(I)V"⟩, b_Mo_says, 2, none)
abbrev b_Mo_say : ByteArray := prog_12_method_15_code
def M_Mo_say : qM := (⟨"QuinceEndModel", "say", "(I)I"⟩, b_Mo_say, 2, (some .int))
abbrev b_Mo_weigh : ByteArray := prog_12_method_16_code
def M_Mo_weigh : qM := (⟨"QuinceEndModel", "weigh", "(II)I"⟩, b_Mo_weigh, 4, (some .int))
abbrev b_Mo_fire : ByteArray := prog_12_method_17_code
def M_Mo_fire : qM := (⟨"QuinceEndModel", "fire", "(I)I"⟩, b_Mo_fire, 3, (some .int))
abbrev b_Mo_tip : ByteArray := prog_12_method_18_code
def M_Mo_tip : qM := (⟨"QuinceEndModel", "tip", "()I"⟩, b_Mo_tip, 3, (some .int))
abbrev b_Mo_row : ByteArray := prog_12_method_19_code
def M_Mo_row : qM := (⟨"QuinceEndModel", "row", "(III)I"⟩, b_Mo_row, 5, (some .int))
abbrev b_Mo_feed : ByteArray := prog_12_method_20_code
def M_Mo_feed : qM := (⟨"QuinceEndModel", "feed", "(I)I"⟩, b_Mo_feed, 2, (some .int))
abbrev b_Mo_next : ByteArray := prog_12_method_21_code
def M_Mo_next : qM := (⟨"QuinceEndModel", "next", "()I"⟩, b_Mo_next, 1, (some .int))
abbrev b_Mo_takes : ByteArray := prog_12_method_22_code
def M_Mo_takes : qM := (⟨"QuinceEndModel", "takes", "(I)Z"⟩, b_Mo_takes, 2, (some .boolean))
abbrev b_Mo_takesWord : ByteArray := prog_12_method_23_code
def M_Mo_takesWord : qM := (⟨"QuinceEndModel", "takesWord", "(II)Z"⟩, b_Mo_takesWord, 4, (some .boolean))
abbrev b_Mo_isDigit : ByteArray := prog_12_method_24_code
def M_Mo_isDigit : qM := (⟨"QuinceEndModel", "isDigit", "()Z"⟩, b_Mo_isDigit, 1, (some .boolean))
abbrev b_Mo_takesNumber : ByteArray := prog_12_method_25_code
def M_Mo_takesNumber : qM := (⟨"QuinceEndModel", "takesNumber", "()Z"⟩, b_Mo_takesNumber, 2, (some .boolean))
abbrev b_Mo_emits : ByteArray := prog_12_method_26_code
def M_Mo_emits : qM := (⟨"QuinceEndModel", "emits", "(I)V"⟩, b_Mo_emits, 2, none)
abbrev b_Mo_whole : ByteArray := prog_12_method_27_code
def M_Mo_whole : qM := (⟨"QuinceEndModel", "whole", "()V"⟩, b_Mo_whole, 1, none)
abbrev b_Mo_settle : ByteArray := prog_12_method_28_code
def M_Mo_settle : qM := (⟨"QuinceEndModel", "settle", "(I)V"⟩, b_Mo_settle, 2, none)
abbrev b_Mo_place : ByteArray := prog_12_method_29_code
def M_Mo_place : qM := (⟨"QuinceEndModel", "place", "(I)I"⟩, b_Mo_place, 2, (some .int))
abbrev b_Mo_takesTest : ByteArray := prog_12_method_30_code
def M_Mo_takesTest : qM := (⟨"QuinceEndModel", "takesTest", "()Z"⟩, b_Mo_takesTest, 3, (some .boolean))
abbrev b_Mo_takesE : ByteArray := prog_12_method_31_code
def M_Mo_takesE : qM := (⟨"QuinceEndModel", "takesE", "(I)Z"⟩, b_Mo_takesE, 4, (some .boolean))
abbrev b_Mo_takesHead : ByteArray := prog_12_method_32_code
def M_Mo_takesHead : qM := (⟨"QuinceEndModel", "takesHead", "(I)Z"⟩, b_Mo_takesHead, 2, (some .boolean))
abbrev b_Mo_takesClause : ByteArray := prog_12_method_33_code
def M_Mo_takesClause : qM := (⟨"QuinceEndModel", "takesClause", "(I)Z"⟩, b_Mo_takesClause, 2, (some .boolean))
abbrev b_Mo_goesText : ByteArray := prog_12_method_34_code
def M_Mo_goesText : qM := (⟨"QuinceEndModel", "goesText", "(I)Z"⟩, b_Mo_goesText, 3, (some .boolean))
abbrev b_Mo_kitchen : ByteArray := prog_12_method_35_code
def M_Mo_kitchen : qM := (⟨"QuinceEndModel", "kitchen", "()I"⟩, b_Mo_kitchen, 2, (some .int))
abbrev b_Mo_begin : ByteArray := prog_12_method_36_code
def M_Mo_begin : qM := (⟨"QuinceEndModel", "begin", "()I"⟩, b_Mo_begin, 1, (some .int))
abbrev b_Mo_behind : ByteArray := prog_12_method_37_code
def M_Mo_behind : qM := (⟨"QuinceEndModel", "behind", "()I"⟩, b_Mo_behind, 1, (some .int))
abbrev b_Mo_need : ByteArray := prog_12_method_38_code
def M_Mo_need : qM := (⟨"QuinceEndModel", "need", "()I"⟩, b_Mo_need, 3, (some .int))
abbrev b_Mo_factOf : ByteArray := prog_12_method_39_code
def M_Mo_factOf : qM := (⟨"QuinceEndModel", "factOf", "(II)I"⟩, b_Mo_factOf, 3, (some .int))
abbrev b_Mo_holds : ByteArray := prog_12_method_40_code
def M_Mo_holds : qM := (⟨"QuinceEndModel", "holds", "(II)Z"⟩, b_Mo_holds, 8, (some .boolean))
abbrev b_Mo_sum : ByteArray := prog_12_method_41_code
def M_Mo_sum : qM := (⟨"QuinceEndModel", "sum", "(I)I"⟩, b_Mo_sum, 4, (some .int))
abbrev b_Mo_isSaidBeside : ByteArray := prog_12_method_42_code
def M_Mo_isSaidBeside : qM := (⟨"QuinceEndModel", "isSaidBeside", "(I)Z"⟩, b_Mo_isSaidBeside, 3, (some .boolean))
abbrev b_Mo_gives : ByteArray := prog_12_method_43_code
def M_Mo_gives : qM := (⟨"QuinceEndModel", "gives", "(I)I"⟩, b_Mo_gives, 3, (some .int))
abbrev b_Mo_allGive : ByteArray := prog_12_method_44_code
def M_Mo_allGive : qM := (⟨"QuinceEndModel", "allGive", "()I"⟩, b_Mo_allGive, 3, (some .int))
abbrev b_Mo_goMinute : ByteArray := prog_12_method_45_code
def M_Mo_goMinute : qM := (⟨"QuinceEndModel", "goMinute", "()V"⟩, b_Mo_goMinute, 2, none)
abbrev b_Mo_goMinutes : ByteArray := prog_12_method_46_code
def M_Mo_goMinutes : qM := (⟨"QuinceEndModel", "goMinutes", "(I)V"⟩, b_Mo_goMinutes, 3, none)
abbrev b_Mo_pass : ByteArray := prog_12_method_47_code
def M_Mo_pass : qM := (⟨"QuinceEndModel", "pass", "(I)I"⟩, b_Mo_pass, 2, (some .int))
abbrev b_Mo_save : ByteArray := prog_12_method_48_code
def M_Mo_save : qM := (⟨"QuinceEndModel", "save", "()V"⟩, b_Mo_save, 2, none)
abbrev b_Mo_putBack : ByteArray := prog_12_method_49_code
def M_Mo_putBack : qM := (⟨"QuinceEndModel", "putBack", "()V"⟩, b_Mo_putBack, 2, none)
abbrev b_Mo_setsIf : ByteArray := prog_12_method_50_code
def M_Mo_setsIf : qM := (⟨"QuinceEndModel", "setsIf", "(I)I"⟩, b_Mo_setsIf, 3, (some .int))
abbrev b_Mo_sets : ByteArray := prog_12_method_51_code
def M_Mo_sets : qM := (⟨"QuinceEndModel", "sets", "()I"⟩, b_Mo_sets, 1, (some .int))
abbrev b_Mo_wordOf : ByteArray := prog_12_method_52_code
def M_Mo_wordOf : qM := (⟨"QuinceEndModel", "wordOf", "()I"⟩, b_Mo_wordOf, 5, (some .int))
abbrev b_Mo_told : ByteArray := prog_12_method_53_code
def M_Mo_told : qM := (⟨"QuinceEndModel", "told", "(I)I"⟩, b_Mo_told, 2, (some .int))
abbrev b_Mo_on : ByteArray := prog_12_method_54_code
def M_Mo_on : qM := (⟨"QuinceEndModel", "on", "(II)I"⟩, b_Mo_on, 4, (some .int))
abbrev b_Mo_layLine : ByteArray := prog_12_method_55_code
def M_Mo_layLine : qM := (⟨"QuinceEndModel", "layLine", "(II)Z"⟩, b_Mo_layLine, 6, (some .boolean))
abbrev b_Mo_colourBy : ByteArray := prog_12_method_56_code
def M_Mo_colourBy : qM := (⟨"QuinceEndModel", "colourBy", "(I)I"⟩, b_Mo_colourBy, 3, (some .int))
abbrev b_Mo_best : ByteArray := prog_12_method_57_code
def M_Mo_best : qM := (⟨"QuinceEndModel", "best", "(II)I"⟩, b_Mo_best, 8, (some .int))
abbrev b_Mo_isSetBy : ByteArray := prog_12_method_58_code
def M_Mo_isSetBy : qM := (⟨"QuinceEndModel", "isSetBy", "(II)Z"⟩, b_Mo_isSetBy, 4, (some .boolean))
abbrev b_Mo_enough : ByteArray := prog_12_method_59_code
def M_Mo_enough : qM := (⟨"QuinceEndModel", "enough", "(I)I"⟩, b_Mo_enough, 5, (some .int))
abbrev b_Mo_flame : ByteArray := prog_12_method_60_code
def M_Mo_flame : qM := (⟨"QuinceEndModel", "flame", "(II)I"⟩, b_Mo_flame, 7, (some .int))
abbrev b_Mo_see : ByteArray := prog_12_method_61_code
def M_Mo_see : qM := (⟨"QuinceEndModel", "see", "(II)I"⟩, b_Mo_see, 3, (some .int))
abbrev b_Mo_isSeen : ByteArray := prog_12_method_62_code
def M_Mo_isSeen : qM := (⟨"QuinceEndModel", "isSeen", "()Z"⟩, b_Mo_isSeen, 3, (some .boolean))
abbrev b_Mo_weights : ByteArray := prog_12_method_63_code
def M_Mo_weights : qM := (⟨"QuinceEndModel", "weights", "(I)I"⟩, b_Mo_weights, 5, (some .int))
abbrev b_Mo_of : ByteArray := prog_12_method_64_code
def M_Mo_of : qM := (⟨"QuinceEndModel", "of", "(II)I"⟩, b_Mo_of, 3, (some .int))
abbrev b_Mo_can : ByteArray := prog_12_method_65_code
def M_Mo_can : qM := (⟨"QuinceEndModel", "can", "(II)I"⟩, b_Mo_can, 7, (some .int))
abbrev b_Mo_divisor : ByteArray := prog_12_method_66_code
def M_Mo_divisor : qM := (⟨"QuinceEndModel", "divisor", "(II)I"⟩, b_Mo_divisor, 6, (some .int))
abbrev b_Mo_lowest : ByteArray := prog_12_method_67_code
def M_Mo_lowest : qM := (⟨"QuinceEndModel", "lowest", "(III)J"⟩, b_Mo_lowest, 5, (some .long))
abbrev b_Mo_odds : ByteArray := prog_12_method_68_code
def M_Mo_odds : qM := (⟨"QuinceEndModel", "odds", "(II)J"⟩, b_Mo_odds, 6, (some .long))
abbrev b_Mo_mean : ByteArray := prog_12_method_69_code
def M_Mo_mean : qM := (⟨"QuinceEndModel", "mean", "(I)J"⟩, b_Mo_mean, 3, (some .long))
abbrev b_Mo_plan : ByteArray := prog_12_method_70_code
def M_Mo_plan : qM := (⟨"QuinceEndModel", "plan", "(II)I"⟩, b_Mo_plan, 3, (some .int))
abbrev b_Mo_goPlan : ByteArray := prog_12_method_71_code
def M_Mo_goPlan : qM := (⟨"QuinceEndModel", "goPlan", "(II)V"⟩, b_Mo_goPlan, 3, none)
abbrev b_Mo_ends : ByteArray := prog_12_method_72_code
def M_Mo_ends : qM := (⟨"QuinceEndModel", "ends", "(I)I"⟩, b_Mo_ends, 3, (some .int))
abbrev b_Mo_book : ByteArray := prog_12_method_73_code
def M_Mo_book : qM := (⟨"QuinceEndModel", "book", "(II)I"⟩, b_Mo_book, 3, (some .int))
abbrev b_Mo_looked : ByteArray := prog_12_method_74_code
def M_Mo_looked : qM := (⟨"QuinceEndModel", "looked", "()I"⟩, b_Mo_looked, 2, (some .int))
abbrev b_Mo_judge : ByteArray := prog_12_method_75_code
def M_Mo_judge : qM := (⟨"QuinceEndModel", "judge", "(II)I"⟩, b_Mo_judge, 4, (some .int))
abbrev b_Mo_image : ByteArray := prog_12_method_76_code
def M_Mo_image : qM := (⟨"QuinceEndModel", "image", "()I"⟩, b_Mo_image, 2, (some .int))
abbrev b_Mo_undo : ByteArray := prog_12_method_77_code
def M_Mo_undo : qM := (⟨"QuinceEndModel", "undo", "()I"⟩, b_Mo_undo, 2, (some .int))
abbrev b_Mo_body : ByteArray := prog_12_method_78_code
def M_Mo_body : qM := (⟨"QuinceEndModel", "body", "(I)V"⟩, b_Mo_body, 2, none)
abbrev b_Mo_thingDrips : ByteArray := prog_12_method_79_code
def M_Mo_thingDrips : qM := (⟨"QuinceEndModel", "thingDrips", "(II)I"⟩, b_Mo_thingDrips, 3, (some .int))
abbrev b_Mo_dripsAct : ByteArray := prog_12_method_80_code
def M_Mo_dripsAct : qM := (⟨"QuinceEndModel", "dripsAct", "(II)I"⟩, b_Mo_dripsAct, 3, (some .int))
abbrev b_Mo_thingReddens : ByteArray := prog_12_method_81_code
def M_Mo_thingReddens : qM := (⟨"QuinceEndModel", "thingReddens", "(II)I"⟩, b_Mo_thingReddens, 3, (some .int))
abbrev b_Mo_grudgeReddens : ByteArray := prog_12_method_82_code
def M_Mo_grudgeReddens : qM := (⟨"QuinceEndModel", "grudgeReddens", "(II)I"⟩, b_Mo_grudgeReddens, 3, (some .int))
abbrev b_Mo_reddensAct : ByteArray := prog_12_method_83_code
def M_Mo_reddensAct : qM := (⟨"QuinceEndModel", "reddensAct", "(II)I"⟩, b_Mo_reddensAct, 4, (some .int))
abbrev b_Mo_thingTells : ByteArray := prog_12_method_84_code
def M_Mo_thingTells : qM := (⟨"QuinceEndModel", "thingTells", "(II)I"⟩, b_Mo_thingTells, 3, (some .int))
abbrev b_Mo_tellsAct : ByteArray := prog_12_method_85_code
def M_Mo_tellsAct : qM := (⟨"QuinceEndModel", "tellsAct", "(II)I"⟩, b_Mo_tellsAct, 4, (some .int))
abbrev b_Mo_act : ByteArray := prog_12_method_86_code
def M_Mo_act : qM := (⟨"QuinceEndModel", "act", "(III)I"⟩, b_Mo_act, 4, (some .int))
abbrev b_Mo_trace : ByteArray := prog_12_method_87_code
def M_Mo_trace : qM := (⟨"QuinceEndModel", "trace", "(I)I"⟩, b_Mo_trace, 2, (some .int))
abbrev b_Mo_taken : ByteArray := prog_12_method_88_code
def M_Mo_taken : qM := (⟨"QuinceEndModel", "taken", "(II)I"⟩, b_Mo_taken, 4, (some .int))
abbrev b_Mo_count : ByteArray := prog_12_method_89_code
def M_Mo_count : qM := (⟨"QuinceEndModel", "count", "(I)I"⟩, b_Mo_count, 2, (some .int))
abbrev b_Mo_isTape : ByteArray := prog_12_method_90_code
def M_Mo_isTape : qM := (⟨"QuinceEndModel", "isTape", "(I)Z"⟩, b_Mo_isTape, 2, (some .boolean))
abbrev b_Mo_tape : ByteArray := prog_12_method_91_code
def M_Mo_tape : qM := (⟨"QuinceEndModel", "tape", "(III)I"⟩, b_Mo_tape, 5, (some .int))
abbrev b_Mo_narrow : ByteArray := prog_12_method_92_code
def M_Mo_narrow : qM := (⟨"QuinceEndModel", "narrow", "(IJ)J"⟩, b_Mo_narrow, 4, (some .long))
abbrev b_Mo_item : ByteArray := prog_12_method_93_code
def M_Mo_item : qM := (⟨"QuinceEndModel", "item", "(IIJ)I"⟩, b_Mo_item, 5, (some .int))
abbrev b_Mo_read : ByteArray := prog_12_method_94_code
def M_Mo_read : qM := (⟨"QuinceEndModel", "read", "(II)J"⟩, b_Mo_read, 3, (some .long))
abbrev b_Mo_shift : ByteArray := prog_12_method_95_code
def M_Mo_shift : qM := (⟨"QuinceEndModel", "shift", "(IIIII)I"⟩, b_Mo_shift, 7, (some .int))
abbrev b_Ji_bitCount : ByteArray := prog_13_method_49_code
def M_Ji_bitCount : qM := (⟨"java/lang/Integer", "bitCount", "(I)I"⟩, b_Ji_bitCount, 1, (some .int))
abbrev b_Jm_floorMod : ByteArray := prog_14_method_50_code
def M_Jm_floorMod : qM := (⟨"java/lang/Math", "floorMod", "(II)I"⟩, b_Jm_floorMod, 3, (some .int))
abbrev b_Jm_abs : ByteArray := prog_14_method_59_code
def M_Jm_abs : qM := (⟨"java/lang/Math", "abs", "(I)I"⟩, b_Jm_abs, 1, (some .int))
abbrev b_Jm_max : ByteArray := prog_14_method_65_code
def M_Jm_max : qM := (⟨"java/lang/Math", "max", "(II)I"⟩, b_Jm_max, 2, (some .int))
abbrev b_Jm_min : ByteArray := prog_14_method_69_code
def M_Jm_min : qM := (⟨"java/lang/Math", "min", "(II)I"⟩, b_Jm_min, 2, (some .int))
abbrev b_Js_length : ByteArray := prog_15_method_54_code
def M_Js_length : qM := (⟨"java/lang/String", "length", "()I"⟩, b_Js_length, 1, (some .int))
abbrev b_Js_charAt : ByteArray := prog_15_method_56_code
def M_Js_charAt : qM := (⟨"java/lang/String", "charAt", "(I)C"⟩, b_Js_charAt, 2, (some .char))
abbrev b_Js_coder : ByteArray := prog_15_method_152_code
def M_Js_coder : qM := (⟨"java/lang/String", "coder", "()B"⟩, b_Js_coder, 1, (some .byte))
abbrev b_Js_isLatin1 : ByteArray := prog_15_method_154_code
def M_Js_isLatin1 : qM := (⟨"java/lang/String", "isLatin1", "()Z"⟩, b_Js_isLatin1, 1, (some .boolean))
abbrev b_Js_checkIndex : ByteArray := prog_15_method_155_code
def M_Js_checkIndex : qM := (⟨"java/lang/String", "checkIndex", "(II)V"⟩, b_Js_checkIndex, 2, none)
abbrev b_Jl_charAt : ByteArray := prog_16_method_2_code
def M_Jl_charAt : qM := (⟨"java/lang/StringLatin1", "charAt", "([BI)C"⟩, b_Jl_charAt, 2, (some .char))
abbrev b_Ju_getChar : ByteArray := prog_17_method_5_code
def M_Ju_getChar : qM := (⟨"java/lang/StringUTF16", "getChar", "([BI)C"⟩, b_Ju_getChar, 2, (some .char))
abbrev b_Ju_length : ByteArray := prog_17_method_6_code
def M_Ju_length : qM := (⟨"java/lang/StringUTF16", "length", "([B)I"⟩, b_Ju_length, 1, (some .int))
abbrev b_Ju_charAt : ByteArray := prog_17_method_83_code
def M_Ju_charAt : qM := (⟨"java/lang/StringUTF16", "charAt", "([BI)C"⟩, b_Ju_charAt, 2, (some .char))
abbrev b_Ju_checkIndex : ByteArray := prog_17_method_91_code
def M_Ju_checkIndex : qM := (⟨"java/lang/StringUTF16", "checkIndex", "(I[B)V"⟩, b_Ju_checkIndex, 2, none)
abbrev b_Jp_checkIndex : ByteArray := prog_19_method_11_code
def M_Jp_checkIndex : qM := (⟨"jdk/internal/util/Preconditions", "checkIndex", "(IILjava/util/function/BiFunction;)I"⟩, b_Jp_checkIndex, 3, (some .int))
abbrev b_La_law : ByteArray := code
def M_La_law : qM := (⟨"QuinceEndLaw", "law", "([I)Z"⟩, b_La_law, 4, (some .boolean))
end
section
theorem kf_Qu_17 : Cond.fieldLink "QuinceEnd" 17 "QuinceEnd" "now" "LQuinceEnd$Whole;" ∈ qG := qG_t2 39 rfl rfl
theorem kf_Qu_23 : Cond.fieldLink "QuinceEnd" 23 "QuinceEnd" "kept" "LQuinceEnd$Whole;" ∈ qG := qG_t2 40 rfl rfl
theorem kf_Qu_31 : Cond.fieldLink "QuinceEnd" 31 "QuinceEnd" "asking" "LQuinceEnd$Asking;" ∈ qG := qG_t2 42 rfl rfl
theorem kf_Qu_38 : Cond.fieldLink "QuinceEnd" 38 "QuinceEnd" "text" "LQuinceEnd$Reading;" ∈ qG := qG_t2 43 rfl rfl
theorem kf_Qu_42 : Cond.fieldLink "QuinceEnd" 42 "QuinceEnd" "kitchens" "[LQuinceEnd$Kitchen;" ∈ qG := qG_t2 44 rfl rfl
theorem kf_Qu_49 : Cond.fieldLink "QuinceEnd" 49 "QuinceEnd" "acting" "LQuinceEnd$Acting;" ∈ qG := qG_t2 46 rfl rfl
theorem kf_Qu_55 : Cond.fieldLink "QuinceEnd" 55 "QuinceEnd" "tapes" "[LQuinceEnd$Tape;" ∈ qG := qG_t2 47 rfl rfl
theorem kf_Qu_64 : Cond.fieldLink "QuinceEnd" 64 "QuinceEnd$Whole" "pan" "LQuinceEnd$Pan;" ∈ qG := qG_t1 175 rfl rfl
theorem kf_Qu_78 : Cond.fieldLink "QuinceEnd" 78 "QuinceEnd$Thing" "kind" "I" ∈ qG := qG_t1 97 rfl rfl
theorem kf_Qu_84 : Cond.fieldLink "QuinceEnd" 84 "QuinceEnd$Thing" "v" "I" ∈ qG := qG_t1 101 rfl rfl
theorem kf_Qu_87 : Cond.fieldLink "QuinceEnd" 87 "QuinceEnd$Thing" "weight" "I" ∈ qG := qG_t1 106 rfl rfl
theorem kf_Qu_90 : Cond.fieldLink "QuinceEnd" 90 "QuinceEnd$Thing" "whose" "I" ∈ qG := qG_t1 110 rfl rfl
theorem kf_Qu_93 : Cond.fieldLink "QuinceEnd" 93 "QuinceEnd$Thing" "state" "I" ∈ qG := qG_t1 113 rfl rfl
theorem kf_Qu_96 : Cond.fieldLink "QuinceEnd" 96 "QuinceEnd$Thing" "time" "I" ∈ qG := qG_t1 117 rfl rfl
theorem kf_Qu_117 : Cond.fieldLink "QuinceEnd" 117 "QuinceEnd$Pan" "colour" "I" ∈ qG := qG_t1 147 rfl rfl
theorem kf_Qu_120 : Cond.fieldLink "QuinceEnd" 120 "QuinceEnd$Pan" "fire" "I" ∈ qG := qG_t1 143 rfl rfl
theorem kf_Qu_126 : Cond.fieldLink "QuinceEnd" 126 "QuinceEnd$Thing" "row" "[I" ∈ qG := qG_t1 120 rfl rfl
theorem kf_Qu_133 : Cond.fieldLink "QuinceEnd" 133 "QuinceEnd" "kitchenCount" "I" ∈ qG := qG_t2 45 rfl rfl
theorem kf_Qu_143 : Cond.fieldLink "QuinceEnd" 143 "QuinceEnd$Pan" "kitchen" "LQuinceEnd$Kitchen;" ∈ qG := qG_t1 154 rfl rfl
theorem kf_Qu_147 : Cond.fieldLink "QuinceEnd" 147 "QuinceEnd$Pan" "minute" "I" ∈ qG := qG_t1 152 rfl rfl
theorem kf_Qu_150 : Cond.fieldLink "QuinceEnd" 150 "QuinceEnd$Kitchen" "need" "I" ∈ qG := qG_t1 40 rfl rfl
theorem kf_Qu_153 : Cond.fieldLink "QuinceEnd" 153 "QuinceEnd$Pan" "set" "Z" ∈ qG := qG_t1 150 rfl rfl
theorem kf_Qu_188 : Cond.fieldLink "QuinceEnd" 188 "QuinceEnd$Whole" "seen" "LQuinceEnd$Rows;" ∈ qG := qG_t1 178 rfl rfl
theorem kf_Qu_211 : Cond.fieldLink "QuinceEnd" 211 "QuinceEnd$Whole" "plan" "LQuinceEnd$Rows;" ∈ qG := qG_t1 181 rfl rfl
theorem kf_Qu_218 : Cond.fieldLink "QuinceEnd" 218 "QuinceEnd$Whole" "book" "LQuinceEnd$Rows;" ∈ qG := qG_t1 183 rfl rfl
theorem kf_Qu_221 : Cond.fieldLink "QuinceEnd" 221 "QuinceEnd$Rows" "count" "I" ∈ qG := qG_t1 72 rfl rfl
theorem kf_Qu_230 : Cond.fieldLink "QuinceEnd" 230 "QuinceEnd$Tape" "sort" "I" ∈ qG := qG_t2 26 rfl rfl
theorem kf_Qu_241 : Cond.fieldLink "QuinceEnd" 241 "QuinceEnd" "imageTaken" "Z" ∈ qG := qG_t2 41 rfl rfl
theorem kf_Qu_244 : Cond.fieldLink "QuinceEnd" 244 "QuinceEnd$Pan" "count" "I" ∈ qG := qG_t1 140 rfl rfl
theorem kf_Qu_259 : Cond.fieldLink "QuinceEnd" 259 "QuinceEnd$Reading" "length" "I" ∈ qG := qG_t1 222 rfl rfl
theorem kf_Qu_262 : Cond.fieldLink "QuinceEnd" 262 "QuinceEnd$Acting" "ran" "I" ∈ qG := qG_t2 3 rfl rfl
theorem kf_Qu_272 : Cond.fieldLink "QuinceEnd" 272 "QuinceEnd$Tape" "items" "[J" ∈ qG := qG_t2 30 rfl rfl
theorem kf_Ac_9 : Cond.fieldLink "QuinceEnd$Acting" 9 "QuinceEnd$Acting" "bodies" "[I" ∈ qG := qG_t2 1 rfl rfl
theorem kf_Ac_15 : Cond.fieldLink "QuinceEnd$Acting" 15 "QuinceEnd$Acting" "ran" "I" ∈ qG := qG_t2 2 rfl rfl
theorem kf_Ac_19 : Cond.fieldLink "QuinceEnd$Acting" 19 "QuinceEnd$Thing" "kind" "I" ∈ qG := qG_t1 98 rfl rfl
theorem kf_Ac_24 : Cond.fieldLink "QuinceEnd$Acting" 24 "QuinceEnd$Acting" "kind" "I" ∈ qG := qG_t2 4 rfl rfl
theorem kf_Ac_25 : Cond.fieldLink "QuinceEnd$Acting" 25 "QuinceEnd$Thing" "number" "I" ∈ qG := qG_t1 94 rfl rfl
theorem kf_Ac_28 : Cond.fieldLink "QuinceEnd$Acting" 28 "QuinceEnd$Acting" "number" "I" ∈ qG := qG_t2 5 rfl rfl
theorem kf_Ac_29 : Cond.fieldLink "QuinceEnd$Acting" 29 "QuinceEnd$Thing" "v" "I" ∈ qG := qG_t1 102 rfl rfl
theorem kf_Ac_32 : Cond.fieldLink "QuinceEnd$Acting" 32 "QuinceEnd$Acting" "v" "I" ∈ qG := qG_t2 6 rfl rfl
theorem kf_Ac_40 : Cond.fieldLink "QuinceEnd$Acting" 40 "QuinceEnd$Acting" "BODIES" "[I" ∈ qG := qG_t4 28 rfl rfl
theorem kf_As_9 : Cond.fieldLink "QuinceEnd$Asking" 9 "QuinceEnd$Asking" "tried" "[I" ∈ qG := qG_t1 203 rfl rfl
theorem kf_As_15 : Cond.fieldLink "QuinceEnd$Asking" 15 "QuinceEnd$Asking" "chosen" "[I" ∈ qG := qG_t1 204 rfl rfl
theorem kf_As_18 : Cond.fieldLink "QuinceEnd$Asking" 18 "QuinceEnd$Asking" "now" "LQuinceEnd$Whole;" ∈ qG := qG_t1 201 rfl rfl
theorem kf_As_27 : Cond.fieldLink "QuinceEnd$Asking" 27 "QuinceEnd$Asking" "trial" "LQuinceEnd$Pan;" ∈ qG := qG_t1 202 rfl rfl
theorem kf_As_31 : Cond.fieldLink "QuinceEnd$Asking" 31 "QuinceEnd$Whole" "pan" "LQuinceEnd$Pan;" ∈ qG := qG_t1 174 rfl rfl
theorem kf_As_44 : Cond.fieldLink "QuinceEnd$Asking" 44 "QuinceEnd$Pan" "colour" "I" ∈ qG := qG_t1 145 rfl rfl
theorem kf_As_48 : Cond.fieldLink "QuinceEnd$Asking" 48 "QuinceEnd$Pan" "set" "Z" ∈ qG := qG_t1 148 rfl rfl
theorem kf_As_63 : Cond.fieldLink "QuinceEnd$Asking" 63 "QuinceEnd$Thing" "state" "I" ∈ qG := qG_t1 115 rfl rfl
theorem kf_As_104 : Cond.fieldLink "QuinceEnd$Asking" 104 "QuinceEnd$Pan" "fire" "I" ∈ qG := qG_t1 144 rfl rfl
theorem kf_As_110 : Cond.fieldLink "QuinceEnd$Asking" 110 "QuinceEnd$Thing" "weight" "I" ∈ qG := qG_t1 108 rfl rfl
theorem kf_As_117 : Cond.fieldLink "QuinceEnd$Asking" 117 "QuinceEnd$Thing" "v" "I" ∈ qG := qG_t1 104 rfl rfl
theorem kf_As_120 : Cond.fieldLink "QuinceEnd$Asking" 120 "QuinceEnd$Whole" "seen" "LQuinceEnd$Rows;" ∈ qG := qG_t1 177 rfl rfl
theorem kf_As_124 : Cond.fieldLink "QuinceEnd$Asking" 124 "QuinceEnd$Rows" "count" "I" ∈ qG := qG_t1 71 rfl rfl
theorem kf_As_135 : Cond.fieldLink "QuinceEnd$Asking" 135 "QuinceEnd$Whole" "plan" "LQuinceEnd$Rows;" ∈ qG := qG_t1 180 rfl rfl
theorem kf_Ki_9 : Cond.fieldLink "QuinceEnd$Kitchen" 9 "QuinceEnd$Kitchen" "steps" "[I" ∈ qG := qG_t1 33 rfl rfl
theorem kf_Ki_15 : Cond.fieldLink "QuinceEnd$Kitchen" 15 "QuinceEnd$Kitchen" "relations" "[I" ∈ qG := qG_t1 34 rfl rfl
theorem kf_Ki_18 : Cond.fieldLink "QuinceEnd$Kitchen" 18 "QuinceEnd$Kitchen" "numbers" "[I" ∈ qG := qG_t1 35 rfl rfl
theorem kf_Ki_21 : Cond.fieldLink "QuinceEnd$Kitchen" 21 "QuinceEnd$Kitchen" "need" "I" ∈ qG := qG_t1 37 rfl rfl
theorem kf_Ki_25 : Cond.fieldLink "QuinceEnd$Kitchen" 25 "QuinceEnd$Kitchen" "stepCount" "I" ∈ qG := qG_t1 36 rfl rfl
theorem kf_Pa_11 : Cond.fieldLink "QuinceEnd$Pan" 11 "QuinceEnd$Pan" "things" "[LQuinceEnd$Thing;" ∈ qG := qG_t1 141 rfl rfl
theorem kf_Pa_17 : Cond.fieldLink "QuinceEnd$Pan" 17 "QuinceEnd$Pan" "fire" "I" ∈ qG := qG_t1 142 rfl rfl
theorem kf_Pa_23 : Cond.fieldLink "QuinceEnd$Pan" 23 "QuinceEnd$Pan" "facts" "[I" ∈ qG := qG_t1 155 rfl rfl
theorem kf_Pa_27 : Cond.fieldLink "QuinceEnd$Pan" 27 "QuinceEnd$Pan" "kitchen" "LQuinceEnd$Kitchen;" ∈ qG := qG_t1 153 rfl rfl
theorem kf_Pa_34 : Cond.fieldLink "QuinceEnd$Pan" 34 "QuinceEnd$Pan" "count" "I" ∈ qG := qG_t1 139 rfl rfl
theorem kf_Pa_41 : Cond.fieldLink "QuinceEnd$Pan" 41 "QuinceEnd$Pan" "colour" "I" ∈ qG := qG_t1 146 rfl rfl
theorem kf_Pa_44 : Cond.fieldLink "QuinceEnd$Pan" 44 "QuinceEnd$Pan" "set" "Z" ∈ qG := qG_t1 149 rfl rfl
theorem kf_Pa_48 : Cond.fieldLink "QuinceEnd$Pan" 48 "QuinceEnd$Pan" "minute" "I" ∈ qG := qG_t1 151 rfl rfl
theorem kf_Pa_55 : Cond.fieldLink "QuinceEnd$Pan" 55 "QuinceEnd$Thing" "state" "I" ∈ qG := qG_t1 114 rfl rfl
theorem kf_Pa_67 : Cond.fieldLink "QuinceEnd$Pan" 67 "QuinceEnd$Thing" "weight" "I" ∈ qG := qG_t1 107 rfl rfl
theorem kf_Pa_76 : Cond.fieldLink "QuinceEnd$Pan" 76 "QuinceEnd$Thing" "number" "I" ∈ qG := qG_t1 95 rfl rfl
theorem kf_Pa_79 : Cond.fieldLink "QuinceEnd$Pan" 79 "QuinceEnd$Thing" "kind" "I" ∈ qG := qG_t1 99 rfl rfl
theorem kf_Pa_82 : Cond.fieldLink "QuinceEnd$Pan" 82 "QuinceEnd$Thing" "v" "I" ∈ qG := qG_t1 103 rfl rfl
theorem kf_Pa_85 : Cond.fieldLink "QuinceEnd$Pan" 85 "QuinceEnd$Thing" "whose" "I" ∈ qG := qG_t1 111 rfl rfl
theorem kf_Pa_101 : Cond.fieldLink "QuinceEnd$Pan" 101 "QuinceEnd$Thing" "time" "I" ∈ qG := qG_t1 118 rfl rfl
theorem kf_Pa_107 : Cond.fieldLink "QuinceEnd$Pan" 107 "QuinceEnd$Thing" "row" "[I" ∈ qG := qG_t1 121 rfl rfl
theorem kf_Pa_119 : Cond.fieldLink "QuinceEnd$Pan" 119 "QuinceEnd$Kitchen" "need" "I" ∈ qG := qG_t1 39 rfl rfl
theorem kf_Pa_131 : Cond.fieldLink "QuinceEnd$Pan" 131 "QuinceEnd$Tape" "items" "[J" ∈ qG := qG_t2 29 rfl rfl
theorem kf_Re_9 : Cond.fieldLink "QuinceEnd$Reading" 9 "QuinceEnd$Reading" "signs" "[I" ∈ qG := qG_t1 220 rfl rfl
theorem kf_Re_15 : Cond.fieldLink "QuinceEnd$Reading" 15 "QuinceEnd$Reading" "length" "I" ∈ qG := qG_t1 221 rfl rfl
theorem kf_Re_19 : Cond.fieldLink "QuinceEnd$Reading" 19 "QuinceEnd$Reading" "kitchen" "LQuinceEnd$Kitchen;" ∈ qG := qG_t1 224 rfl rfl
theorem kf_Re_28 : Cond.fieldLink "QuinceEnd$Reading" 28 "QuinceEnd$Reading" "place" "I" ∈ qG := qG_t1 223 rfl rfl
theorem kf_Re_66 : Cond.fieldLink "QuinceEnd$Reading" 66 "QuinceEnd$Kitchen" "need" "I" ∈ qG := qG_t1 38 rfl rfl
theorem kf_Ro_15 : Cond.fieldLink "QuinceEnd$Rows" 15 "QuinceEnd$Rows" "firsts" "[I" ∈ qG := qG_t1 68 rfl rfl
theorem kf_Ro_21 : Cond.fieldLink "QuinceEnd$Rows" 21 "QuinceEnd$Rows" "seconds" "[I" ∈ qG := qG_t1 69 rfl rfl
theorem kf_Ro_33 : Cond.fieldLink "QuinceEnd$Rows" 33 "QuinceEnd$Rows" "count" "I" ∈ qG := qG_t1 70 rfl rfl
theorem kf_Ta_9 : Cond.fieldLink "QuinceEnd$Tape" 9 "QuinceEnd$Tape" "sort" "I" ∈ qG := qG_t2 25 rfl rfl
theorem kf_Ta_15 : Cond.fieldLink "QuinceEnd$Tape" 15 "QuinceEnd$Tape" "items" "[J" ∈ qG := qG_t2 28 rfl rfl
theorem kf_Ta_19 : Cond.fieldLink "QuinceEnd$Tape" 19 "QuinceEnd$Tape" "length" "I" ∈ qG := qG_t2 27 rfl rfl
theorem kf_Th_9 : Cond.fieldLink "QuinceEnd$Thing" 9 "QuinceEnd$Thing" "row" "[I" ∈ qG := qG_t1 119 rfl rfl
theorem kf_Th_15 : Cond.fieldLink "QuinceEnd$Thing" 15 "QuinceEnd$Thing" "number" "I" ∈ qG := qG_t1 93 rfl rfl
theorem kf_Th_19 : Cond.fieldLink "QuinceEnd$Thing" 19 "QuinceEnd$Thing" "kind" "I" ∈ qG := qG_t1 96 rfl rfl
theorem kf_Th_22 : Cond.fieldLink "QuinceEnd$Thing" 22 "QuinceEnd$Thing" "v" "I" ∈ qG := qG_t1 100 rfl rfl
theorem kf_Th_25 : Cond.fieldLink "QuinceEnd$Thing" 25 "QuinceEnd$Thing" "weight" "I" ∈ qG := qG_t1 105 rfl rfl
theorem kf_Th_28 : Cond.fieldLink "QuinceEnd$Thing" 28 "QuinceEnd$Thing" "whose" "I" ∈ qG := qG_t1 109 rfl rfl
theorem kf_Th_31 : Cond.fieldLink "QuinceEnd$Thing" 31 "QuinceEnd$Thing" "state" "I" ∈ qG := qG_t1 112 rfl rfl
theorem kf_Th_34 : Cond.fieldLink "QuinceEnd$Thing" 34 "QuinceEnd$Thing" "time" "I" ∈ qG := qG_t1 116 rfl rfl
theorem kf_Wh_14 : Cond.fieldLink "QuinceEnd$Whole" 14 "QuinceEnd$Whole" "seen" "LQuinceEnd$Rows;" ∈ qG := qG_t1 176 rfl rfl
theorem kf_Wh_20 : Cond.fieldLink "QuinceEnd$Whole" 20 "QuinceEnd$Whole" "plan" "LQuinceEnd$Rows;" ∈ qG := qG_t1 179 rfl rfl
theorem kf_Wh_23 : Cond.fieldLink "QuinceEnd$Whole" 23 "QuinceEnd$Whole" "book" "LQuinceEnd$Rows;" ∈ qG := qG_t1 182 rfl rfl
theorem kf_Wh_31 : Cond.fieldLink "QuinceEnd$Whole" 31 "QuinceEnd$Whole" "pan" "LQuinceEnd$Pan;" ∈ qG := qG_t1 173 rfl rfl
theorem kf_Mo_7 : Cond.fieldLink "QuinceEndModel" 7 "QuinceEndModel" "things" "I" ∈ qG := qG_t4 91 rfl rfl
theorem kf_Mo_13 : Cond.fieldLink "QuinceEndModel" 13 "QuinceEndModel" "flames" "I" ∈ qG := qG_t4 92 rfl rfl
theorem kf_Mo_16 : Cond.fieldLink "QuinceEndModel" 16 "QuinceEndModel" "colour" "I" ∈ qG := qG_t4 93 rfl rfl
theorem kf_Mo_19 : Cond.fieldLink "QuinceEndModel" 19 "QuinceEndModel" "minute" "I" ∈ qG := qG_t4 94 rfl rfl
theorem kf_Mo_22 : Cond.fieldLink "QuinceEndModel" 22 "QuinceEndModel" "isSet" "Z" ∈ qG := qG_t4 95 rfl rfl
theorem kf_Mo_26 : Cond.fieldLink "QuinceEndModel" 26 "QuinceEndModel" "kind" "[I" ∈ qG := qG_t4 96 rfl rfl
theorem kf_Mo_30 : Cond.fieldLink "QuinceEndModel" 30 "QuinceEndModel" "v" "[I" ∈ qG := qG_t4 97 rfl rfl
theorem kf_Mo_33 : Cond.fieldLink "QuinceEndModel" 33 "QuinceEndModel" "weight" "[I" ∈ qG := qG_t4 98 rfl rfl
theorem kf_Mo_36 : Cond.fieldLink "QuinceEndModel" 36 "QuinceEndModel" "whose" "[I" ∈ qG := qG_t4 99 rfl rfl
theorem kf_Mo_39 : Cond.fieldLink "QuinceEndModel" 39 "QuinceEndModel" "lies" "[I" ∈ qG := qG_t4 100 rfl rfl
theorem kf_Mo_42 : Cond.fieldLink "QuinceEndModel" 42 "QuinceEndModel" "time" "[I" ∈ qG := qG_t4 101 rfl rfl
theorem kf_Mo_45 : Cond.fieldLink "QuinceEndModel" 45 "QuinceEndModel" "rows" "[I" ∈ qG := qG_t4 102 rfl rfl
theorem kf_Mo_48 : Cond.fieldLink "QuinceEndModel" 48 "QuinceEndModel" "kitchens" "I" ∈ qG := qG_t4 103 rfl rfl
theorem kf_Mo_51 : Cond.fieldLink "QuinceEndModel" 51 "QuinceEndModel" "the" "I" ∈ qG := qG_t4 104 rfl rfl
theorem kf_Mo_54 : Cond.fieldLink "QuinceEndModel" 54 "QuinceEndModel" "fed" "I" ∈ qG := qG_t4 105 rfl rfl
theorem kf_Mo_57 : Cond.fieldLink "QuinceEndModel" 57 "QuinceEndModel" "at" "I" ∈ qG := qG_t4 106 rfl rfl
theorem kf_Mo_60 : Cond.fieldLink "QuinceEndModel" 60 "QuinceEndModel" "digits" "I" ∈ qG := qG_t4 107 rfl rfl
theorem kf_Mo_63 : Cond.fieldLink "QuinceEndModel" 63 "QuinceEndModel" "text" "[I" ∈ qG := qG_t4 108 rfl rfl
theorem kf_Mo_66 : Cond.fieldLink "QuinceEndModel" 66 "QuinceEndModel" "clauses" "[I" ∈ qG := qG_t4 109 rfl rfl
theorem kf_Mo_69 : Cond.fieldLink "QuinceEndModel" 69 "QuinceEndModel" "word" "[I" ∈ qG := qG_t4 110 rfl rfl
theorem kf_Mo_72 : Cond.fieldLink "QuinceEndModel" 72 "QuinceEndModel" "number" "[I" ∈ qG := qG_t4 111 rfl rfl
theorem kf_Mo_75 : Cond.fieldLink "QuinceEndModel" 75 "QuinceEndModel" "from" "[I" ∈ qG := qG_t4 112 rfl rfl
theorem kf_Mo_78 : Cond.fieldLink "QuinceEndModel" 78 "QuinceEndModel" "to" "[I" ∈ qG := qG_t4 113 rfl rfl
theorem kf_Mo_81 : Cond.fieldLink "QuinceEndModel" 81 "QuinceEndModel" "sign" "[I" ∈ qG := qG_t4 114 rfl rfl
theorem kf_Mo_84 : Cond.fieldLink "QuinceEndModel" 84 "QuinceEndModel" "waits" "[I" ∈ qG := qG_t4 115 rfl rfl
theorem kf_Mo_87 : Cond.fieldLink "QuinceEndModel" 87 "QuinceEndModel" "signs" "I" ∈ qG := qG_t4 116 rfl rfl
theorem kf_Mo_90 : Cond.fieldLink "QuinceEndModel" 90 "QuinceEndModel" "waiting" "I" ∈ qG := qG_t4 117 rfl rfl
theorem kf_Mo_93 : Cond.fieldLink "QuinceEndModel" 93 "QuinceEndModel" "open" "I" ∈ qG := qG_t4 118 rfl rfl
theorem kf_Mo_96 : Cond.fieldLink "QuinceEndModel" 96 "QuinceEndModel" "letters" "[I" ∈ qG := qG_t4 119 rfl rfl
theorem kf_Mo_99 : Cond.fieldLink "QuinceEndModel" 99 "QuinceEndModel" "pile" "[Z" ∈ qG := qG_t4 120 rfl rfl
theorem kf_Mo_103 : Cond.fieldLink "QuinceEndModel" 103 "QuinceEndModel" "mostTime" "I" ∈ qG := qG_t4 121 rfl rfl
theorem kf_Mo_106 : Cond.fieldLink "QuinceEndModel" 106 "QuinceEndModel" "keptFlames" "I" ∈ qG := qG_t4 122 rfl rfl
theorem kf_Mo_109 : Cond.fieldLink "QuinceEndModel" 109 "QuinceEndModel" "keptColour" "I" ∈ qG := qG_t4 123 rfl rfl
theorem kf_Mo_112 : Cond.fieldLink "QuinceEndModel" 112 "QuinceEndModel" "keptMinute" "I" ∈ qG := qG_t4 124 rfl rfl
theorem kf_Mo_115 : Cond.fieldLink "QuinceEndModel" 115 "QuinceEndModel" "keptSet" "Z" ∈ qG := qG_t4 125 rfl rfl
theorem kf_Mo_118 : Cond.fieldLink "QuinceEndModel" 118 "QuinceEndModel" "keptLies" "[I" ∈ qG := qG_t4 126 rfl rfl
theorem kf_Mo_121 : Cond.fieldLink "QuinceEndModel" 121 "QuinceEndModel" "keptTime" "[I" ∈ qG := qG_t4 127 rfl rfl
theorem kf_Mo_124 : Cond.fieldLink "QuinceEndModel" 124 "QuinceEndModel" "line" "[I" ∈ qG := qG_t4 128 rfl rfl
theorem kf_Mo_127 : Cond.fieldLink "QuinceEndModel" 127 "QuinceEndModel" "bestLine" "[I" ∈ qG := qG_t4 129 rfl rfl
theorem kf_Mo_130 : Cond.fieldLink "QuinceEndModel" 130 "QuinceEndModel" "seen" "I" ∈ qG := qG_t4 130 rfl rfl
theorem kf_Mo_133 : Cond.fieldLink "QuinceEndModel" 133 "QuinceEndModel" "seenWhen" "[I" ∈ qG := qG_t4 131 rfl rfl
theorem kf_Mo_136 : Cond.fieldLink "QuinceEndModel" 136 "QuinceEndModel" "seenColour" "[I" ∈ qG := qG_t4 132 rfl rfl
theorem kf_Mo_139 : Cond.fieldLink "QuinceEndModel" 139 "QuinceEndModel" "plans" "I" ∈ qG := qG_t4 133 rfl rfl
theorem kf_Mo_142 : Cond.fieldLink "QuinceEndModel" 142 "QuinceEndModel" "books" "I" ∈ qG := qG_t4 134 rfl rfl
theorem kf_Mo_145 : Cond.fieldLink "QuinceEndModel" 145 "QuinceEndModel" "planWhat" "[I" ∈ qG := qG_t4 135 rfl rfl
theorem kf_Mo_148 : Cond.fieldLink "QuinceEndModel" 148 "QuinceEndModel" "planNumber" "[I" ∈ qG := qG_t4 136 rfl rfl
theorem kf_Mo_151 : Cond.fieldLink "QuinceEndModel" 151 "QuinceEndModel" "bookThing" "[I" ∈ qG := qG_t4 137 rfl rfl
theorem kf_Mo_154 : Cond.fieldLink "QuinceEndModel" 154 "QuinceEndModel" "bookWeight" "[I" ∈ qG := qG_t4 138 rfl rfl
theorem kf_Mo_157 : Cond.fieldLink "QuinceEndModel" 157 "QuinceEndModel" "hasImage" "Z" ∈ qG := qG_t4 139 rfl rfl
theorem kf_Mo_160 : Cond.fieldLink "QuinceEndModel" 160 "QuinceEndModel" "imageSet" "Z" ∈ qG := qG_t4 140 rfl rfl
theorem kf_Mo_163 : Cond.fieldLink "QuinceEndModel" 163 "QuinceEndModel" "imageThe" "I" ∈ qG := qG_t4 141 rfl rfl
theorem kf_Mo_166 : Cond.fieldLink "QuinceEndModel" 166 "QuinceEndModel" "imageThings" "I" ∈ qG := qG_t4 142 rfl rfl
theorem kf_Mo_169 : Cond.fieldLink "QuinceEndModel" 169 "QuinceEndModel" "imageFlames" "I" ∈ qG := qG_t4 143 rfl rfl
theorem kf_Mo_172 : Cond.fieldLink "QuinceEndModel" 172 "QuinceEndModel" "imageColour" "I" ∈ qG := qG_t4 144 rfl rfl
theorem kf_Mo_175 : Cond.fieldLink "QuinceEndModel" 175 "QuinceEndModel" "imageMinute" "I" ∈ qG := qG_t4 145 rfl rfl
theorem kf_Mo_178 : Cond.fieldLink "QuinceEndModel" 178 "QuinceEndModel" "imageSeen" "I" ∈ qG := qG_t4 146 rfl rfl
theorem kf_Mo_181 : Cond.fieldLink "QuinceEndModel" 181 "QuinceEndModel" "imagePlans" "I" ∈ qG := qG_t4 147 rfl rfl
theorem kf_Mo_184 : Cond.fieldLink "QuinceEndModel" 184 "QuinceEndModel" "imageBooks" "I" ∈ qG := qG_t4 148 rfl rfl
theorem kf_Mo_187 : Cond.fieldLink "QuinceEndModel" 187 "QuinceEndModel" "imageKind" "[I" ∈ qG := qG_t4 149 rfl rfl
theorem kf_Mo_190 : Cond.fieldLink "QuinceEndModel" 190 "QuinceEndModel" "imageV" "[I" ∈ qG := qG_t4 150 rfl rfl
theorem kf_Mo_193 : Cond.fieldLink "QuinceEndModel" 193 "QuinceEndModel" "imageWeight" "[I" ∈ qG := qG_t4 151 rfl rfl
theorem kf_Mo_196 : Cond.fieldLink "QuinceEndModel" 196 "QuinceEndModel" "imageWhose" "[I" ∈ qG := qG_t4 152 rfl rfl
theorem kf_Mo_199 : Cond.fieldLink "QuinceEndModel" 199 "QuinceEndModel" "imageLies" "[I" ∈ qG := qG_t4 153 rfl rfl
theorem kf_Mo_202 : Cond.fieldLink "QuinceEndModel" 202 "QuinceEndModel" "imageTime" "[I" ∈ qG := qG_t4 154 rfl rfl
theorem kf_Mo_205 : Cond.fieldLink "QuinceEndModel" 205 "QuinceEndModel" "imageRows" "[I" ∈ qG := qG_t4 155 rfl rfl
theorem kf_Mo_208 : Cond.fieldLink "QuinceEndModel" 208 "QuinceEndModel" "imageWhen" "[I" ∈ qG := qG_t4 156 rfl rfl
theorem kf_Mo_211 : Cond.fieldLink "QuinceEndModel" 211 "QuinceEndModel" "imageSeenColour" "[I" ∈ qG := qG_t4 157 rfl rfl
theorem kf_Mo_214 : Cond.fieldLink "QuinceEndModel" 214 "QuinceEndModel" "imageWhat" "[I" ∈ qG := qG_t4 158 rfl rfl
theorem kf_Mo_217 : Cond.fieldLink "QuinceEndModel" 217 "QuinceEndModel" "imageNumber" "[I" ∈ qG := qG_t4 159 rfl rfl
theorem kf_Mo_220 : Cond.fieldLink "QuinceEndModel" 220 "QuinceEndModel" "imageBookThing" "[I" ∈ qG := qG_t4 160 rfl rfl
theorem kf_Mo_223 : Cond.fieldLink "QuinceEndModel" 223 "QuinceEndModel" "imageBookWeight" "[I" ∈ qG := qG_t4 161 rfl rfl
theorem kf_Mo_226 : Cond.fieldLink "QuinceEndModel" 226 "QuinceEndModel" "ran" "I" ∈ qG := qG_t4 162 rfl rfl
theorem kf_Mo_229 : Cond.fieldLink "QuinceEndModel" 229 "QuinceEndModel" "bodies" "[I" ∈ qG := qG_t4 163 rfl rfl
theorem kf_Mo_232 : Cond.fieldLink "QuinceEndModel" 232 "QuinceEndModel" "sort" "[I" ∈ qG := qG_t4 164 rfl rfl
theorem kf_Mo_235 : Cond.fieldLink "QuinceEndModel" 235 "QuinceEndModel" "length" "[I" ∈ qG := qG_t4 165 rfl rfl
theorem kf_Mo_238 : Cond.fieldLink "QuinceEndModel" 238 "QuinceEndModel" "item" "[J" ∈ qG := qG_t4 166 rfl rfl
theorem kf_Mo_242 : Cond.fieldLink "QuinceEndModel" 242 "QuinceEndModel" "aside" "[J" ∈ qG := qG_t4 167 rfl rfl
theorem kf_Js_9 : Cond.fieldLink "java/lang/String" 9 "java/lang/String" "value" "[B" ∈ qG := qG_t6 224 rfl rfl
theorem kf_Js_15 : Cond.fieldLink "java/lang/String" 15 "java/lang/String" "coder" "B" ∈ qG := qG_t6 225 rfl rfl
theorem kf_Js_38 : Cond.fieldLink "java/lang/String" 38 "java/lang/String" "COMPACT_STRINGS" "Z" ∈ qG := qG_t3 2 rfl rfl
theorem kf_Js_1053 : Cond.fieldLink "java/lang/String" 1053 "jdk/internal/util/Preconditions" "SIOOBE_FORMATTER" "Ljava/util/function/BiFunction;" ∈ qG := qG_t3 18 rfl rfl
theorem kf_Ju_44 : Cond.fieldLink "java/lang/StringUTF16" 44 "java/lang/StringUTF16" "$assertionsDisabled" "Z" ∈ qG := qG_t3 36 rfl rfl
theorem kf_Ju_59 : Cond.fieldLink "java/lang/StringUTF16" 59 "java/lang/StringUTF16" "HI_BYTE_SHIFT" "I" ∈ qG := qG_t3 38 rfl rfl
theorem kf_Ju_63 : Cond.fieldLink "java/lang/StringUTF16" 63 "java/lang/StringUTF16" "LO_BYTE_SHIFT" "I" ∈ qG := qG_t3 40 rfl rfl
theorem km_Qu_3 : Cond.methodLink "QuinceEnd" 3 ⟨"java/lang/Object", "<init>", "()V"⟩ ∈ qG := qG_t1 24 rfl rfl
theorem km_Qu_14 : Cond.methodLink "QuinceEnd" 14 ⟨"QuinceEnd$Whole", "<init>", "(LQuinceEnd$Kitchen;)V"⟩ ∈ qG := qG_t1 55 rfl rfl
theorem km_Qu_28 : Cond.methodLink "QuinceEnd" 28 ⟨"QuinceEnd$Asking", "<init>", "(LQuinceEnd$Whole;LQuinceEnd$Kitchen;)V"⟩ ∈ qG := qG_t1 195 rfl rfl
theorem km_Qu_60 : Cond.methodLink "QuinceEnd" 60 ⟨"QuinceEnd", "within", "(III)Z"⟩ ∈ qG := qG_t2 71 rfl rfl
theorem km_Qu_68 : Cond.methodLink "QuinceEnd" 68 ⟨"QuinceEnd$Pan", "addThing", "(IIII)I"⟩ ∈ qG := qG_t2 74 rfl rfl
theorem km_Qu_74 : Cond.methodLink "QuinceEnd" 74 ⟨"QuinceEnd$Pan", "find", "(I)LQuinceEnd$Thing;"⟩ ∈ qG := qG_t2 86 rfl rfl
theorem km_Qu_99 : Cond.methodLink "QuinceEnd" 99 ⟨"QuinceEnd$Pan", "gives", "(LQuinceEnd$Thing;)I"⟩ ∈ qG := qG_t2 90 rfl rfl
theorem km_Qu_103 : Cond.methodLink "QuinceEnd" 103 ⟨"QuinceEnd$Asking", "weights", "(I)I"⟩ ∈ qG := qG_t2 108 rfl rfl
theorem km_Qu_107 : Cond.methodLink "QuinceEnd" 107 ⟨"QuinceEnd$Thing", "putIn", "()V"⟩ ∈ qG := qG_t2 151 rfl rfl
theorem km_Qu_110 : Cond.methodLink "QuinceEnd" 110 ⟨"QuinceEnd$Pan", "howMany", "(I)I"⟩ ∈ qG := qG_t2 155 rfl rfl
theorem km_Qu_113 : Cond.methodLink "QuinceEnd" 113 ⟨"QuinceEnd$Pan", "speak", "(LQuinceEnd$Thing;)V"⟩ ∈ qG := qG_t2 173 rfl rfl
theorem km_Qu_123 : Cond.methodLink "QuinceEnd" 123 ⟨"QuinceEnd$Pan", "tipOut", "()V"⟩ ∈ qG := qG_t2 189 rfl rfl
theorem km_Qu_130 : Cond.methodLink "QuinceEnd" 130 ⟨"QuinceEnd$Reading", "addSign", "(I)I"⟩ ∈ qG := qG_t2 201 rfl rfl
theorem km_Qu_136 : Cond.methodLink "QuinceEnd" 136 ⟨"QuinceEnd$Reading", "readInto", "(LQuinceEnd$Kitchen;)I"⟩ ∈ qG := qG_t2 209 rfl rfl
theorem km_Qu_140 : Cond.methodLink "QuinceEnd" 140 ⟨"QuinceEnd$Reading", "empty", "()V"⟩ ∈ qG := qG_t3 70 rfl rfl
theorem km_Qu_157 : Cond.methodLink "QuinceEnd" 157 ⟨"QuinceEnd$Pan", "bitsOf", "(I)I"⟩ ∈ qG := qG_t3 79 rfl rfl
theorem km_Qu_160 : Cond.methodLink "QuinceEnd" 160 ⟨"QuinceEnd$Asking", "sets", "()I"⟩ ∈ qG := qG_t3 80 rfl rfl
theorem km_Qu_164 : Cond.methodLink "QuinceEnd" 164 ⟨"QuinceEnd$Asking", "word", "()I"⟩ ∈ qG := qG_t3 88 rfl rfl
theorem km_Qu_167 : Cond.methodLink "QuinceEnd" 167 ⟨"QuinceEnd$Pan", "together", "()I"⟩ ∈ qG := qG_t3 93 rfl rfl
theorem km_Qu_170 : Cond.methodLink "QuinceEnd" 170 ⟨"QuinceEnd$Pan", "goMinutes", "(I)V"⟩ ∈ qG := qG_t3 98 rfl rfl
theorem km_Qu_174 : Cond.methodLink "QuinceEnd" 174 ⟨"QuinceEnd$Asking", "behind", "(IZ)I"⟩ ∈ qG := qG_t3 107 rfl rfl
theorem km_Qu_178 : Cond.methodLink "QuinceEnd" 178 ⟨"QuinceEnd$Asking", "bestRow", "(II)I"⟩ ∈ qG := qG_t3 116 rfl rfl
theorem km_Qu_182 : Cond.methodLink "QuinceEnd" 182 ⟨"QuinceEnd$Asking", "fewest", "(I)I"⟩ ∈ qG := qG_t3 131 rfl rfl
theorem km_Qu_185 : Cond.methodLink "QuinceEnd" 185 ⟨"QuinceEnd$Asking", "nearestFire", "(II)I"⟩ ∈ qG := qG_t3 145 rfl rfl
theorem km_Qu_192 : Cond.methodLink "QuinceEnd" 192 ⟨"QuinceEnd$Rows", "empty", "()I"⟩ ∈ qG := qG_t3 157 rfl rfl
theorem km_Qu_196 : Cond.methodLink "QuinceEnd" 196 ⟨"QuinceEnd$Rows", "add", "(II)I"⟩ ∈ qG := qG_t3 161 rfl rfl
theorem km_Qu_199 : Cond.methodLink "QuinceEnd" 199 ⟨"QuinceEnd$Asking", "firmness", "(IZ)I"⟩ ∈ qG := qG_t3 169 rfl rfl
theorem km_Qu_204 : Cond.methodLink "QuinceEnd" 204 ⟨"QuinceEnd$Asking", "chances", "(I)I"⟩ ∈ qG := qG_t3 178 rfl rfl
theorem km_Qu_207 : Cond.methodLink "QuinceEnd" 207 ⟨"QuinceEnd", "fraction", "(III)J"⟩ ∈ qG := qG_t3 182 rfl rfl
theorem km_Qu_214 : Cond.methodLink "QuinceEnd" 214 ⟨"QuinceEnd$Asking", "planned", "(Z)I"⟩ ∈ qG := qG_t3 201 rfl rfl
theorem km_Qu_224 : Cond.methodLink "QuinceEnd" 224 ⟨"QuinceEnd$Rows", "first", "(I)I"⟩ ∈ qG := qG_t3 217 rfl rfl
theorem km_Qu_227 : Cond.methodLink "QuinceEnd" 227 ⟨"QuinceEnd$Rows", "second", "(I)I"⟩ ∈ qG := qG_t3 218 rfl rfl
theorem km_Qu_233 : Cond.methodLink "QuinceEnd" 233 ⟨"QuinceEnd$Pan", "judgeTimes", "(LQuinceEnd$Tape;I)I"⟩ ∈ qG := qG_t3 223 rfl rfl
theorem km_Qu_237 : Cond.methodLink "QuinceEnd" 237 ⟨"QuinceEnd$Whole", "copyFrom", "(LQuinceEnd$Whole;)V"⟩ ∈ qG := qG_t3 235 rfl rfl
theorem km_Qu_245 : Cond.methodLink "QuinceEnd" 245 ⟨"QuinceEnd$Acting", "forget", "()V"⟩ ∈ qG := qG_t4 14 rfl rfl
theorem km_Qu_248 : Cond.methodLink "QuinceEnd" 248 ⟨"QuinceEnd$Acting", "perform", "(LQuinceEnd$Thing;II)I"⟩ ∈ qG := qG_t4 18 rfl rfl
theorem km_Qu_252 : Cond.methodLink "QuinceEnd" 252 ⟨"QuinceEnd$Acting", "bodyAt", "(I)I"⟩ ∈ qG := qG_t4 38 rfl rfl
theorem km_Qu_255 : Cond.methodLink "QuinceEnd" 255 ⟨"QuinceEnd$Thing", "isUnder", "(I)Z"⟩ ∈ qG := qG_t4 46 rfl rfl
theorem km_Qu_265 : Cond.methodLink "QuinceEnd" 265 ⟨"QuinceEnd$Tape", "become", "(II)V"⟩ ∈ qG := qG_t4 59 rfl rfl
theorem km_Qu_269 : Cond.methodLink "QuinceEnd" 269 ⟨"QuinceEnd$Tape", "has", "(I)Z"⟩ ∈ qG := qG_t4 67 rfl rfl
theorem km_Qu_276 : Cond.methodLink "QuinceEnd" 276 ⟨"QuinceEnd$Tape", "fitted", "(J)J"⟩ ∈ qG := qG_t4 68 rfl rfl
theorem km_Qu_280 : Cond.methodLink "QuinceEnd" 280 ⟨"QuinceEnd$Tape", "hasRun", "(II)Z"⟩ ∈ qG := qG_t4 80 rfl rfl
theorem km_Qu_284 : Cond.methodLink "QuinceEnd" 284 ⟨"java/lang/System", "arraycopy", "(Ljava/lang/Object;ILjava/lang/Object;II)V"⟩ ∈ qG := qG_t4 84 rfl rfl
theorem km_Qu_290 : Cond.methodLink "QuinceEnd" 290 ⟨"java/lang/Math", "abs", "(I)I"⟩ ∈ qG := qG_t3 185 rfl rfl
theorem km_Qu_295 : Cond.methodLink "QuinceEnd" 295 ⟨"QuinceEnd", "commonDivisor", "(II)I"⟩ ∈ qG := qG_t3 186 rfl rfl
theorem km_Ac_3 : Cond.methodLink "QuinceEnd$Acting" 3 ⟨"java/lang/Object", "<init>", "()V"⟩ ∈ qG := qG_t2 0 rfl rfl
theorem km_Ac_33 : Cond.methodLink "QuinceEnd$Acting" 33 ⟨"QuinceEnd$Acting", "from", "(IIII)I"⟩ ∈ qG := qG_t4 22 rfl rfl
theorem km_Ac_43 : Cond.methodLink "QuinceEnd$Acting" 43 ⟨"QuinceEnd$Acting", "body", "(IIII)I"⟩ ∈ qG := qG_t4 30 rfl rfl
theorem km_As_3 : Cond.methodLink "QuinceEnd$Asking" 3 ⟨"java/lang/Object", "<init>", "()V"⟩ ∈ qG := qG_t1 198 rfl rfl
theorem km_As_24 : Cond.methodLink "QuinceEnd$Asking" 24 ⟨"QuinceEnd$Pan", "<init>", "(LQuinceEnd$Kitchen;)V"⟩ ∈ qG := qG_t1 200 rfl rfl
theorem km_As_36 : Cond.methodLink "QuinceEnd$Asking" 36 ⟨"QuinceEnd$Pan", "copyFrom", "(LQuinceEnd$Pan;)V"⟩ ∈ qG := qG_t2 112 rfl rfl
theorem km_As_40 : Cond.methodLink "QuinceEnd$Asking" 40 ⟨"QuinceEnd$Pan", "goMinutes", "(I)V"⟩ ∈ qG := qG_t3 111 rfl rfl
theorem km_As_52 : Cond.methodLink "QuinceEnd$Asking" 52 ⟨"QuinceEnd$Asking", "minutesToSet", "()I"⟩ ∈ qG := qG_t3 84 rfl rfl
theorem km_As_56 : Cond.methodLink "QuinceEnd$Asking" 56 ⟨"QuinceEnd$Pan", "goMinute", "()V"⟩ ∈ qG := qG_t2 136 rfl rfl
theorem km_As_59 : Cond.methodLink "QuinceEnd$Asking" 59 ⟨"QuinceEnd$Pan", "find", "(I)LQuinceEnd$Thing;"⟩ ∈ qG := qG_t2 123 rfl rfl
theorem km_As_68 : Cond.methodLink "QuinceEnd$Asking" 68 ⟨"QuinceEnd$Pan", "speak", "(LQuinceEnd$Thing;)V"⟩ ∈ qG := qG_t3 92 rfl rfl
theorem km_As_72 : Cond.methodLink "QuinceEnd$Asking" 72 ⟨"QuinceEnd$Asking", "colourOfRow", "(II)I"⟩ ∈ qG := qG_t3 120 rfl rfl
theorem km_As_76 : Cond.methodLink "QuinceEnd$Asking" 76 ⟨"java/lang/System", "arraycopy", "(Ljava/lang/Object;ILjava/lang/Object;II)V"⟩ ∈ qG := qG_t3 126 rfl rfl
theorem km_As_82 : Cond.methodLink "QuinceEnd$Asking" 82 ⟨"java/lang/Math", "min", "(II)I"⟩ ∈ qG := qG_t3 124 rfl rfl
theorem km_As_87 : Cond.methodLink "QuinceEnd$Asking" 87 ⟨"QuinceEnd$Thing", "putIn", "()V"⟩ ∈ qG := qG_t3 125 rfl rfl
theorem km_As_90 : Cond.methodLink "QuinceEnd$Asking" 90 ⟨"QuinceEnd$Pan", "bitsOf", "(I)I"⟩ ∈ qG := qG_t3 135 rfl rfl
theorem km_As_94 : Cond.methodLink "QuinceEnd$Asking" 94 ⟨"java/lang/Integer", "bitCount", "(I)I"⟩ ∈ qG := qG_t3 136 rfl rfl
theorem km_As_99 : Cond.methodLink "QuinceEnd$Asking" 99 ⟨"QuinceEnd$Asking", "setsWith", "(II)Z"⟩ ∈ qG := qG_t3 137 rfl rfl
theorem km_As_107 : Cond.methodLink "QuinceEnd$Asking" 107 ⟨"java/lang/Math", "abs", "(I)I"⟩ ∈ qG := qG_t3 150 rfl rfl
theorem km_As_113 : Cond.methodLink "QuinceEnd$Asking" 113 ⟨"QuinceEnd$Asking", "isAsSeen", "()Z"⟩ ∈ qG := qG_t2 124 rfl rfl
theorem km_As_129 : Cond.methodLink "QuinceEnd$Asking" 129 ⟨"QuinceEnd$Rows", "first", "(I)I"⟩ ∈ qG := qG_t2 128 rfl rfl
theorem km_As_132 : Cond.methodLink "QuinceEnd$Asking" 132 ⟨"QuinceEnd$Rows", "second", "(I)I"⟩ ∈ qG := qG_t2 132 rfl rfl
theorem km_As_138 : Cond.methodLink "QuinceEnd$Asking" 138 ⟨"QuinceEnd$Asking", "follow", "(II)V"⟩ ∈ qG := qG_t3 205 rfl rfl
theorem km_Ki_3 : Cond.methodLink "QuinceEnd$Kitchen" 3 ⟨"java/lang/Object", "<init>", "()V"⟩ ∈ qG := qG_t1 32 rfl rfl
theorem km_Pa_3 : Cond.methodLink "QuinceEnd$Pan" 3 ⟨"java/lang/Object", "<init>", "()V"⟩ ∈ qG := qG_t1 85 rfl rfl
theorem km_Pa_31 : Cond.methodLink "QuinceEnd$Pan" 31 ⟨"QuinceEnd$Thing", "<init>", "(I)V"⟩ ∈ qG := qG_t1 89 rfl rfl
theorem km_Pa_37 : Cond.methodLink "QuinceEnd$Pan" 37 ⟨"QuinceEnd$Thing", "copyFrom", "(LQuinceEnd$Thing;)V"⟩ ∈ qG := qG_t2 116 rfl rfl
theorem km_Pa_51 : Cond.methodLink "QuinceEnd$Pan" 51 ⟨"QuinceEnd$Thing", "begin", "(IIII)V"⟩ ∈ qG := qG_t2 78 rfl rfl
theorem km_Pa_58 : Cond.methodLink "QuinceEnd$Pan" 58 ⟨"QuinceEnd$Pan", "bitsOf", "(I)I"⟩ ∈ qG := qG_t2 159 rfl rfl
theorem km_Pa_62 : Cond.methodLink "QuinceEnd$Pan" 62 ⟨"java/lang/Integer", "bitCount", "(I)I"⟩ ∈ qG := qG_t2 163 rfl rfl
theorem km_Pa_70 : Cond.methodLink "QuinceEnd$Pan" 70 ⟨"java/lang/Math", "max", "(II)I"⟩ ∈ qG := qG_t2 146 rfl rfl
theorem km_Pa_88 : Cond.methodLink "QuinceEnd$Pan" 88 ⟨"java/lang/Math", "floorMod", "(II)I"⟩ ∈ qG := qG_t2 94 rfl rfl
theorem km_Pa_91 : Cond.methodLink "QuinceEnd$Pan" 91 ⟨"QuinceEnd$Kitchen", "adds", "([I)I"⟩ ∈ qG := qG_t2 97 rfl rfl
theorem km_Pa_97 : Cond.methodLink "QuinceEnd$Pan" 97 ⟨"QuinceEnd$Pan", "spokenOver", "(LQuinceEnd$Thing;)Z"⟩ ∈ qG := qG_t2 101 rfl rfl
theorem km_Pa_104 : Cond.methodLink "QuinceEnd$Pan" 104 ⟨"java/lang/Math", "min", "(II)I"⟩ ∈ qG := qG_t2 105 rfl rfl
theorem km_Pa_110 : Cond.methodLink "QuinceEnd$Pan" 110 ⟨"QuinceEnd$Pan", "gives", "(LQuinceEnd$Thing;)I"⟩ ∈ qG := qG_t2 144 rfl rfl
theorem km_Pa_114 : Cond.methodLink "QuinceEnd$Pan" 114 ⟨"QuinceEnd$Pan", "together", "()I"⟩ ∈ qG := qG_t2 140 rfl rfl
theorem km_Pa_122 : Cond.methodLink "QuinceEnd$Pan" 122 ⟨"QuinceEnd$Pan", "goMinute", "()V"⟩ ∈ qG := qG_t3 102 rfl rfl
theorem km_Pa_125 : Cond.methodLink "QuinceEnd$Pan" 125 ⟨"QuinceEnd$Tape", "has", "(I)Z"⟩ ∈ qG := qG_t3 227 rfl rfl
theorem km_Re_3 : Cond.methodLink "QuinceEnd$Reading" 3 ⟨"java/lang/Object", "<init>", "()V"⟩ ∈ qG := qG_t1 219 rfl rfl
theorem km_Re_23 : Cond.methodLink "QuinceEnd$Reading" 23 ⟨"QuinceEnd$Kitchen", "clean", "()V"⟩ ∈ qG := qG_t2 213 rfl rfl
theorem km_Re_31 : Cond.methodLink "QuinceEnd$Reading" 31 ⟨"QuinceEnd$Reading", "clause", "()Z"⟩ ∈ qG := qG_t2 217 rfl rfl
theorem km_Re_35 : Cond.methodLink "QuinceEnd$Reading" 35 ⟨"QuinceEnd$Reading", "take", "(I)Z"⟩ ∈ qG := qG_t3 42 rfl rfl
theorem km_Re_39 : Cond.methodLink "QuinceEnd$Reading" 39 ⟨"QuinceEnd$Reading", "sign", "()I"⟩ ∈ qG := qG_t2 221 rfl rfl
theorem km_Re_43 : Cond.methodLink "QuinceEnd$Reading" 43 ⟨"QuinceEnd$Reading", "needClause", "()Z"⟩ ∈ qG := qG_t2 225 rfl rfl
theorem km_Re_50 : Cond.methodLink "QuinceEnd$Reading" 50 ⟨"QuinceEnd$Reading", "takeWord", "(Ljava/lang/String;)Z"⟩ ∈ qG := qG_t2 230 rfl rfl
theorem km_Re_54 : Cond.methodLink "QuinceEnd$Reading" 54 ⟨"QuinceEnd$Reading", "takeNumber", "()I"⟩ ∈ qG := qG_t3 46 rfl rfl
theorem km_Re_57 : Cond.methodLink "QuinceEnd$Reading" 57 ⟨"QuinceEnd$Reading", "expression", "(I)Z"⟩ ∈ qG := qG_t3 52 rfl rfl
theorem km_Re_60 : Cond.methodLink "QuinceEnd$Reading" 60 ⟨"QuinceEnd$Kitchen", "addStep", "(III)V"⟩ ∈ qG := qG_t3 60 rfl rfl
theorem km_Re_69 : Cond.methodLink "QuinceEnd$Reading" 69 ⟨"QuinceEnd$Reading", "factor", "(I)Z"⟩ ∈ qG := qG_t3 56 rfl rfl
theorem km_Re_74 : Cond.methodLink "QuinceEnd$Reading" 74 ⟨"QuinceEnd$Reading", "takeOneOf", "(Ljava/lang/String;)I"⟩ ∈ qG := qG_t3 65 rfl rfl
theorem km_Re_80 : Cond.methodLink "QuinceEnd$Reading" 80 ⟨"java/lang/String", "length", "()I"⟩ ∈ qG := qG_t2 234 rfl rfl
theorem km_Re_84 : Cond.methodLink "QuinceEnd$Reading" 84 ⟨"java/lang/String", "charAt", "(I)C"⟩ ∈ qG := qG_t3 4 rfl rfl
theorem km_Ro_3 : Cond.methodLink "QuinceEnd$Rows" 3 ⟨"java/lang/Object", "<init>", "()V"⟩ ∈ qG := qG_t1 64 rfl rfl
theorem km_Ro_9 : Cond.methodLink "QuinceEnd$Rows" 9 ⟨"java/lang/Math", "max", "(II)I"⟩ ∈ qG := qG_t1 65 rfl rfl
theorem km_Ro_24 : Cond.methodLink "QuinceEnd$Rows" 24 ⟨"java/lang/Math", "min", "(II)I"⟩ ∈ qG := qG_t4 4 rfl rfl
theorem km_Ro_27 : Cond.methodLink "QuinceEnd$Rows" 27 ⟨"java/lang/System", "arraycopy", "(Ljava/lang/Object;ILjava/lang/Object;II)V"⟩ ∈ qG := qG_t4 5 rfl rfl
theorem km_Ta_3 : Cond.methodLink "QuinceEnd$Tape" 3 ⟨"java/lang/Object", "<init>", "()V"⟩ ∈ qG := qG_t2 24 rfl rfl
theorem km_Th_3 : Cond.methodLink "QuinceEnd$Thing" 3 ⟨"java/lang/Object", "<init>", "()V"⟩ ∈ qG := qG_t1 92 rfl rfl
theorem km_Th_37 : Cond.methodLink "QuinceEnd$Thing" 37 ⟨"java/lang/System", "arraycopy", "(Ljava/lang/Object;ILjava/lang/Object;II)V"⟩ ∈ qG := qG_t2 120 rfl rfl
theorem km_Wh_3 : Cond.methodLink "QuinceEnd$Whole" 3 ⟨"java/lang/Object", "<init>", "()V"⟩ ∈ qG := qG_t1 58 rfl rfl
theorem km_Wh_11 : Cond.methodLink "QuinceEnd$Whole" 11 ⟨"QuinceEnd$Rows", "<init>", "(I)V"⟩ ∈ qG := qG_t1 61 rfl rfl
theorem km_Wh_28 : Cond.methodLink "QuinceEnd$Whole" 28 ⟨"QuinceEnd$Pan", "<init>", "(LQuinceEnd$Kitchen;)V"⟩ ∈ qG := qG_t1 82 rfl rfl
theorem km_Wh_35 : Cond.methodLink "QuinceEnd$Whole" 35 ⟨"QuinceEnd$Pan", "copyFrom", "(LQuinceEnd$Pan;)V"⟩ ∈ qG := qG_t3 239 rfl rfl
theorem km_Wh_39 : Cond.methodLink "QuinceEnd$Whole" 39 ⟨"QuinceEnd$Rows", "copyFrom", "(LQuinceEnd$Rows;)V"⟩ ∈ qG := qG_t4 0 rfl rfl
theorem km_La_9 : Cond.methodLink "QuinceEndLaw" 9 ⟨"QuinceEnd", "<init>", "()V"⟩ ∈ qG := qG_t1 21 rfl rfl
theorem km_La_12 : Cond.methodLink "QuinceEndLaw" 12 ⟨"QuinceEndModel", "<init>", "()V"⟩ ∈ qG := qG_t4 87 rfl rfl
theorem km_La_13 : Cond.methodLink "QuinceEndLaw" 13 ⟨"QuinceEnd", "thing", "(IIII)I"⟩ ∈ qG := qG_t2 67 rfl rfl
theorem km_La_17 : Cond.methodLink "QuinceEndLaw" 17 ⟨"QuinceEndModel", "thing", "(IIII)I"⟩ ∈ qG := qG_t5 84 rfl rfl
theorem km_La_18 : Cond.methodLink "QuinceEndLaw" 18 ⟨"QuinceEnd", "of", "(II)I"⟩ ∈ qG := qG_t2 82 rfl rfl
theorem km_La_22 : Cond.methodLink "QuinceEndLaw" 22 ⟨"QuinceEndModel", "of", "(II)I"⟩ ∈ qG := qG_t6 86 rfl rfl
theorem km_La_23 : Cond.methodLink "QuinceEndLaw" 23 ⟨"QuinceEnd", "put", "(I)I"⟩ ∈ qG := qG_t2 147 rfl rfl
theorem km_La_27 : Cond.methodLink "QuinceEndLaw" 27 ⟨"QuinceEndModel", "put", "(I)I"⟩ ∈ qG := qG_t5 96 rfl rfl
theorem km_La_28 : Cond.methodLink "QuinceEndLaw" 28 ⟨"QuinceEnd", "say", "(I)I"⟩ ∈ qG := qG_t2 169 rfl rfl
theorem km_La_31 : Cond.methodLink "QuinceEndLaw" 31 ⟨"QuinceEndModel", "say", "(I)I"⟩ ∈ qG := qG_t5 120 rfl rfl
theorem km_La_32 : Cond.methodLink "QuinceEndLaw" 32 ⟨"QuinceEnd", "weigh", "(II)I"⟩ ∈ qG := qG_t2 177 rfl rfl
theorem km_La_35 : Cond.methodLink "QuinceEndLaw" 35 ⟨"QuinceEndModel", "weigh", "(II)I"⟩ ∈ qG := qG_t5 128 rfl rfl
theorem km_La_36 : Cond.methodLink "QuinceEndLaw" 36 ⟨"QuinceEnd", "fire", "(I)I"⟩ ∈ qG := qG_t2 181 rfl rfl
theorem km_La_39 : Cond.methodLink "QuinceEndLaw" 39 ⟨"QuinceEndModel", "fire", "(I)I"⟩ ∈ qG := qG_t5 132 rfl rfl
theorem km_La_40 : Cond.methodLink "QuinceEndLaw" 40 ⟨"QuinceEnd", "tip", "()I"⟩ ∈ qG := qG_t2 185 rfl rfl
theorem km_La_44 : Cond.methodLink "QuinceEndLaw" 44 ⟨"QuinceEndModel", "tip", "()I"⟩ ∈ qG := qG_t5 136 rfl rfl
theorem km_La_45 : Cond.methodLink "QuinceEndLaw" 45 ⟨"QuinceEnd", "row", "(III)I"⟩ ∈ qG := qG_t2 193 rfl rfl
theorem km_La_49 : Cond.methodLink "QuinceEndLaw" 49 ⟨"QuinceEndModel", "row", "(III)I"⟩ ∈ qG := qG_t5 140 rfl rfl
theorem km_La_50 : Cond.methodLink "QuinceEndLaw" 50 ⟨"QuinceEnd", "feed", "(I)I"⟩ ∈ qG := qG_t2 197 rfl rfl
theorem km_La_53 : Cond.methodLink "QuinceEndLaw" 53 ⟨"QuinceEndModel", "feed", "(I)I"⟩ ∈ qG := qG_t5 144 rfl rfl
theorem km_La_54 : Cond.methodLink "QuinceEndLaw" 54 ⟨"QuinceEnd", "kitchen", "()I"⟩ ∈ qG := qG_t2 205 rfl rfl
theorem km_La_57 : Cond.methodLink "QuinceEndLaw" 57 ⟨"QuinceEndModel", "kitchen", "()I"⟩ ∈ qG := qG_t5 148 rfl rfl
theorem km_La_58 : Cond.methodLink "QuinceEndLaw" 58 ⟨"QuinceEnd", "told", "(I)I"⟩ ∈ qG := qG_t3 75 rfl rfl
theorem km_La_61 : Cond.methodLink "QuinceEndLaw" 61 ⟨"QuinceEndModel", "told", "(I)I"⟩ ∈ qG := qG_t6 25 rfl rfl
theorem km_La_62 : Cond.methodLink "QuinceEndLaw" 62 ⟨"QuinceEnd", "pass", "(I)I"⟩ ∈ qG := qG_t3 94 rfl rfl
theorem km_La_65 : Cond.methodLink "QuinceEndLaw" 65 ⟨"QuinceEndModel", "pass", "(I)I"⟩ ∈ qG := qG_t5 208 rfl rfl
theorem km_La_66 : Cond.methodLink "QuinceEndLaw" 66 ⟨"QuinceEnd", "on", "(II)I"⟩ ∈ qG := qG_t3 103 rfl rfl
theorem km_La_69 : Cond.methodLink "QuinceEndLaw" 69 ⟨"QuinceEndModel", "on", "(II)I"⟩ ∈ qG := qG_t6 50 rfl rfl
theorem km_La_70 : Cond.methodLink "QuinceEndLaw" 70 ⟨"QuinceEnd", "best", "(II)I"⟩ ∈ qG := qG_t3 112 rfl rfl
theorem km_La_73 : Cond.methodLink "QuinceEndLaw" 73 ⟨"QuinceEndModel", "best", "(II)I"⟩ ∈ qG := qG_t6 54 rfl rfl
theorem km_La_74 : Cond.methodLink "QuinceEndLaw" 74 ⟨"QuinceEnd", "enough", "(I)I"⟩ ∈ qG := qG_t3 127 rfl rfl
theorem km_La_77 : Cond.methodLink "QuinceEndLaw" 77 ⟨"QuinceEndModel", "enough", "(I)I"⟩ ∈ qG := qG_t6 66 rfl rfl
theorem km_La_78 : Cond.methodLink "QuinceEndLaw" 78 ⟨"QuinceEnd", "flame", "(II)I"⟩ ∈ qG := qG_t3 141 rfl rfl
theorem km_La_81 : Cond.methodLink "QuinceEndLaw" 81 ⟨"QuinceEndModel", "flame", "(II)I"⟩ ∈ qG := qG_t6 74 rfl rfl
theorem km_La_82 : Cond.methodLink "QuinceEndLaw" 82 ⟨"QuinceEnd", "see", "(II)I"⟩ ∈ qG := qG_t3 153 rfl rfl
theorem km_La_85 : Cond.methodLink "QuinceEndLaw" 85 ⟨"QuinceEndModel", "see", "(II)I"⟩ ∈ qG := qG_t6 82 rfl rfl
theorem km_La_86 : Cond.methodLink "QuinceEndLaw" 86 ⟨"QuinceEnd", "can", "(II)I"⟩ ∈ qG := qG_t3 165 rfl rfl
theorem km_La_89 : Cond.methodLink "QuinceEndLaw" 89 ⟨"QuinceEndModel", "can", "(II)I"⟩ ∈ qG := qG_t6 98 rfl rfl
theorem km_La_90 : Cond.methodLink "QuinceEndLaw" 90 ⟨"QuinceEnd", "odds", "(II)J"⟩ ∈ qG := qG_t3 173 rfl rfl
theorem km_La_94 : Cond.methodLink "QuinceEndLaw" 94 ⟨"QuinceEndModel", "odds", "(II)J"⟩ ∈ qG := qG_t6 102 rfl rfl
theorem km_La_95 : Cond.methodLink "QuinceEndLaw" 95 ⟨"QuinceEnd", "mean", "(I)J"⟩ ∈ qG := qG_t3 189 rfl rfl
theorem km_La_99 : Cond.methodLink "QuinceEndLaw" 99 ⟨"QuinceEndModel", "mean", "(I)J"⟩ ∈ qG := qG_t6 115 rfl rfl
theorem km_La_100 : Cond.methodLink "QuinceEndLaw" 100 ⟨"QuinceEnd", "plan", "(II)I"⟩ ∈ qG := qG_t3 193 rfl rfl
theorem km_La_103 : Cond.methodLink "QuinceEndLaw" 103 ⟨"QuinceEndModel", "plan", "(II)I"⟩ ∈ qG := qG_t6 119 rfl rfl
theorem km_La_104 : Cond.methodLink "QuinceEndLaw" 104 ⟨"QuinceEnd", "ends", "(I)I"⟩ ∈ qG := qG_t3 197 rfl rfl
theorem km_La_107 : Cond.methodLink "QuinceEndLaw" 107 ⟨"QuinceEndModel", "ends", "(I)I"⟩ ∈ qG := qG_t6 123 rfl rfl
theorem km_La_108 : Cond.methodLink "QuinceEndLaw" 108 ⟨"QuinceEnd", "book", "(II)I"⟩ ∈ qG := qG_t3 209 rfl rfl
theorem km_La_111 : Cond.methodLink "QuinceEndLaw" 111 ⟨"QuinceEndModel", "book", "(II)I"⟩ ∈ qG := qG_t6 131 rfl rfl
theorem km_La_112 : Cond.methodLink "QuinceEndLaw" 112 ⟨"QuinceEnd", "looked", "()I"⟩ ∈ qG := qG_t3 213 rfl rfl
theorem km_La_115 : Cond.methodLink "QuinceEndLaw" 115 ⟨"QuinceEndModel", "looked", "()I"⟩ ∈ qG := qG_t6 135 rfl rfl
theorem km_La_116 : Cond.methodLink "QuinceEndLaw" 116 ⟨"QuinceEnd", "judge", "(II)I"⟩ ∈ qG := qG_t3 219 rfl rfl
theorem km_La_119 : Cond.methodLink "QuinceEndLaw" 119 ⟨"QuinceEndModel", "judge", "(II)I"⟩ ∈ qG := qG_t6 139 rfl rfl
theorem km_La_120 : Cond.methodLink "QuinceEndLaw" 120 ⟨"QuinceEnd", "image", "()I"⟩ ∈ qG := qG_t3 231 rfl rfl
theorem km_La_123 : Cond.methodLink "QuinceEndLaw" 123 ⟨"QuinceEndModel", "image", "()I"⟩ ∈ qG := qG_t6 147 rfl rfl
theorem km_La_124 : Cond.methodLink "QuinceEndLaw" 124 ⟨"QuinceEnd", "undo", "()I"⟩ ∈ qG := qG_t4 6 rfl rfl
theorem km_La_127 : Cond.methodLink "QuinceEndLaw" 127 ⟨"QuinceEndModel", "undo", "()I"⟩ ∈ qG := qG_t6 151 rfl rfl
theorem km_La_128 : Cond.methodLink "QuinceEndLaw" 128 ⟨"QuinceEnd", "act", "(III)I"⟩ ∈ qG := qG_t4 10 rfl rfl
theorem km_La_131 : Cond.methodLink "QuinceEndLaw" 131 ⟨"QuinceEndModel", "act", "(III)I"⟩ ∈ qG := qG_t6 155 rfl rfl
theorem km_La_132 : Cond.methodLink "QuinceEndLaw" 132 ⟨"QuinceEnd", "trace", "(I)I"⟩ ∈ qG := qG_t4 34 rfl rfl
theorem km_La_135 : Cond.methodLink "QuinceEndLaw" 135 ⟨"QuinceEndModel", "trace", "(I)I"⟩ ∈ qG := qG_t6 191 rfl rfl
theorem km_La_136 : Cond.methodLink "QuinceEndLaw" 136 ⟨"QuinceEnd", "taken", "(II)I"⟩ ∈ qG := qG_t4 42 rfl rfl
theorem km_La_139 : Cond.methodLink "QuinceEndLaw" 139 ⟨"QuinceEndModel", "taken", "(II)I"⟩ ∈ qG := qG_t6 195 rfl rfl
theorem km_La_140 : Cond.methodLink "QuinceEndLaw" 140 ⟨"QuinceEnd", "count", "(I)I"⟩ ∈ qG := qG_t4 51 rfl rfl
theorem km_La_143 : Cond.methodLink "QuinceEndLaw" 143 ⟨"QuinceEndModel", "count", "(I)I"⟩ ∈ qG := qG_t6 199 rfl rfl
theorem km_La_144 : Cond.methodLink "QuinceEndLaw" 144 ⟨"QuinceEnd", "tape", "(III)I"⟩ ∈ qG := qG_t4 55 rfl rfl
theorem km_La_147 : Cond.methodLink "QuinceEndLaw" 147 ⟨"QuinceEndModel", "tape", "(III)I"⟩ ∈ qG := qG_t6 203 rfl rfl
theorem km_La_150 : Cond.methodLink "QuinceEndLaw" 150 ⟨"QuinceEnd", "item", "(IIJ)I"⟩ ∈ qG := qG_t4 63 rfl rfl
theorem km_La_154 : Cond.methodLink "QuinceEndLaw" 154 ⟨"QuinceEndModel", "item", "(IIJ)I"⟩ ∈ qG := qG_t6 207 rfl rfl
theorem km_La_155 : Cond.methodLink "QuinceEndLaw" 155 ⟨"QuinceEnd", "read", "(II)J"⟩ ∈ qG := qG_t4 72 rfl rfl
theorem km_La_158 : Cond.methodLink "QuinceEndLaw" 158 ⟨"QuinceEndModel", "read", "(II)J"⟩ ∈ qG := qG_t6 215 rfl rfl
theorem km_La_159 : Cond.methodLink "QuinceEndLaw" 159 ⟨"QuinceEnd", "shift", "(IIIII)I"⟩ ∈ qG := qG_t4 76 rfl rfl
theorem km_La_163 : Cond.methodLink "QuinceEndLaw" 163 ⟨"QuinceEndModel", "shift", "(IIIII)I"⟩ ∈ qG := qG_t6 219 rfl rfl
theorem km_Mo_1 : Cond.methodLink "QuinceEndModel" 1 ⟨"java/lang/Object", "<init>", "()V"⟩ ∈ qG := qG_t4 90 rfl rfl
theorem km_Mo_245 : Cond.methodLink "QuinceEndModel" 245 ⟨"QuinceEndModel", "has", "(II)Z"⟩ ∈ qG := qG_t5 116 rfl rfl
theorem km_Mo_249 : Cond.methodLink "QuinceEndModel" 249 ⟨"QuinceEndModel", "in", "(III)Z"⟩ ∈ qG := qG_t5 88 rfl rfl
theorem km_Mo_253 : Cond.methodLink "QuinceEndModel" 253 ⟨"QuinceEndModel", "isWeight", "(I)Z"⟩ ∈ qG := qG_t5 92 rfl rfl
theorem km_Mo_257 : Cond.methodLink "QuinceEndModel" 257 ⟨"QuinceEndModel", "isThing", "(I)Z"⟩ ∈ qG := qG_t5 100 rfl rfl
theorem km_Mo_260 : Cond.methodLink "QuinceEndModel" 260 ⟨"QuinceEndModel", "puts", "(I)V"⟩ ∈ qG := qG_t5 104 rfl rfl
theorem km_Mo_264 : Cond.methodLink "QuinceEndModel" 264 ⟨"QuinceEndModel", "setOf", "(I)I"⟩ ∈ qG := qG_t5 108 rfl rfl
theorem km_Mo_268 : Cond.methodLink "QuinceEndModel" 268 ⟨"QuinceEndModel", "bits", "(I)I"⟩ ∈ qG := qG_t5 112 rfl rfl
theorem km_Mo_271 : Cond.methodLink "QuinceEndModel" 271 ⟨"QuinceEndModel", "says", "(I)V"⟩ ∈ qG := qG_t5 124 rfl rfl
theorem km_Mo_274 : Cond.methodLink "QuinceEndModel" 274 ⟨"QuinceEndModel", "next", "()I"⟩ ∈ qG := qG_t5 164 rfl rfl
theorem km_Mo_278 : Cond.methodLink "QuinceEndModel" 278 ⟨"QuinceEndModel", "takes", "(I)Z"⟩ ∈ qG := qG_t5 172 rfl rfl
theorem km_Mo_281 : Cond.methodLink "QuinceEndModel" 281 ⟨"QuinceEndModel", "isDigit", "()Z"⟩ ∈ qG := qG_t5 180 rfl rfl
theorem km_Mo_285 : Cond.methodLink "QuinceEndModel" 285 ⟨"QuinceEndModel", "emits", "(I)V"⟩ ∈ qG := qG_t5 196 rfl rfl
theorem km_Mo_288 : Cond.methodLink "QuinceEndModel" 288 ⟨"QuinceEndModel", "place", "(I)I"⟩ ∈ qG := qG_t5 192 rfl rfl
theorem km_Mo_291 : Cond.methodLink "QuinceEndModel" 291 ⟨"QuinceEndModel", "takesNumber", "()Z"⟩ ∈ qG := qG_t5 176 rfl rfl
theorem km_Mo_294 : Cond.methodLink "QuinceEndModel" 294 ⟨"QuinceEndModel", "whole", "()V"⟩ ∈ qG := qG_t5 200 rfl rfl
theorem km_Mo_297 : Cond.methodLink "QuinceEndModel" 297 ⟨"QuinceEndModel", "takesTest", "()Z"⟩ ∈ qG := qG_t5 188 rfl rfl
theorem km_Mo_300 : Cond.methodLink "QuinceEndModel" 300 ⟨"QuinceEndModel", "settle", "(I)V"⟩ ∈ qG := qG_t5 204 rfl rfl
theorem km_Mo_303 : Cond.methodLink "QuinceEndModel" 303 ⟨"QuinceEndModel", "takesWord", "(II)Z"⟩ ∈ qG := qG_t5 168 rfl rfl
theorem km_Mo_306 : Cond.methodLink "QuinceEndModel" 306 ⟨"QuinceEndModel", "takesHead", "(I)Z"⟩ ∈ qG := qG_t5 160 rfl rfl
theorem km_Mo_309 : Cond.methodLink "QuinceEndModel" 309 ⟨"QuinceEndModel", "takesE", "(I)Z"⟩ ∈ qG := qG_t5 184 rfl rfl
theorem km_Mo_312 : Cond.methodLink "QuinceEndModel" 312 ⟨"QuinceEndModel", "takesClause", "(I)Z"⟩ ∈ qG := qG_t5 156 rfl rfl
theorem km_Mo_315 : Cond.methodLink "QuinceEndModel" 315 ⟨"QuinceEndModel", "goesText", "(I)Z"⟩ ∈ qG := qG_t5 152 rfl rfl
theorem km_Mo_318 : Cond.methodLink "QuinceEndModel" 318 ⟨"QuinceEndModel", "begin", "()I"⟩ ∈ qG := qG_t5 236 rfl rfl
theorem km_Mo_321 : Cond.methodLink "QuinceEndModel" 321 ⟨"QuinceEndModel", "behind", "()I"⟩ ∈ qG := qG_t6 0 rfl rfl
theorem km_Mo_324 : Cond.methodLink "QuinceEndModel" 324 ⟨"QuinceEndModel", "factOf", "(II)I"⟩ ∈ qG := qG_t6 8 rfl rfl
theorem km_Mo_328 : Cond.methodLink "QuinceEndModel" 328 ⟨"QuinceEndModel", "holds", "(II)Z"⟩ ∈ qG := qG_t6 4 rfl rfl
theorem km_Mo_331 : Cond.methodLink "QuinceEndModel" 331 ⟨"QuinceEndModel", "sum", "(I)I"⟩ ∈ qG := qG_t5 232 rfl rfl
theorem km_Mo_334 : Cond.methodLink "QuinceEndModel" 334 ⟨"QuinceEndModel", "isSaidBeside", "(I)Z"⟩ ∈ qG := qG_t6 12 rfl rfl
theorem km_Mo_337 : Cond.methodLink "QuinceEndModel" 337 ⟨"QuinceEndModel", "least", "(II)I"⟩ ∈ qG := qG_t6 16 rfl rfl
theorem km_Mo_340 : Cond.methodLink "QuinceEndModel" 340 ⟨"QuinceEndModel", "gives", "(I)I"⟩ ∈ qG := qG_t5 228 rfl rfl
theorem km_Mo_343 : Cond.methodLink "QuinceEndModel" 343 ⟨"QuinceEndModel", "allGive", "()I"⟩ ∈ qG := qG_t5 224 rfl rfl
theorem km_Mo_347 : Cond.methodLink "QuinceEndModel" 347 ⟨"QuinceEndModel", "need", "()I"⟩ ∈ qG := qG_t6 21 rfl rfl
theorem km_Mo_350 : Cond.methodLink "QuinceEndModel" 350 ⟨"QuinceEndModel", "goMinute", "()V"⟩ ∈ qG := qG_t5 220 rfl rfl
theorem km_Mo_353 : Cond.methodLink "QuinceEndModel" 353 ⟨"QuinceEndModel", "isMinutes", "(I)Z"⟩ ∈ qG := qG_t5 212 rfl rfl
theorem km_Mo_356 : Cond.methodLink "QuinceEndModel" 356 ⟨"QuinceEndModel", "goMinutes", "(I)V"⟩ ∈ qG := qG_t5 216 rfl rfl
theorem km_Mo_360 : Cond.methodLink "QuinceEndModel" 360 ⟨"QuinceEndModel", "save", "()V"⟩ ∈ qG := qG_t6 37 rfl rfl
theorem km_Mo_363 : Cond.methodLink "QuinceEndModel" 363 ⟨"QuinceEndModel", "putBack", "()V"⟩ ∈ qG := qG_t6 42 rfl rfl
theorem km_Mo_366 : Cond.methodLink "QuinceEndModel" 366 ⟨"QuinceEndModel", "setsIf", "(I)I"⟩ ∈ qG := qG_t6 33 rfl rfl
theorem km_Mo_369 : Cond.methodLink "QuinceEndModel" 369 ⟨"QuinceEndModel", "sets", "()I"⟩ ∈ qG := qG_t6 29 rfl rfl
theorem km_Mo_372 : Cond.methodLink "QuinceEndModel" 372 ⟨"QuinceEndModel", "wordOf", "()I"⟩ ∈ qG := qG_t6 46 rfl rfl
theorem km_Mo_375 : Cond.methodLink "QuinceEndModel" 375 ⟨"QuinceEndModel", "layLine", "(II)Z"⟩ ∈ qG := qG_t6 58 rfl rfl
theorem km_Mo_378 : Cond.methodLink "QuinceEndModel" 378 ⟨"QuinceEndModel", "colourBy", "(I)I"⟩ ∈ qG := qG_t6 62 rfl rfl
theorem km_Mo_381 : Cond.methodLink "QuinceEndModel" 381 ⟨"QuinceEndModel", "isSetBy", "(II)Z"⟩ ∈ qG := qG_t6 70 rfl rfl
theorem km_Mo_384 : Cond.methodLink "QuinceEndModel" 384 ⟨"QuinceEndModel", "apart", "(II)I"⟩ ∈ qG := qG_t6 78 rfl rfl
theorem km_Mo_387 : Cond.methodLink "QuinceEndModel" 387 ⟨"QuinceEndModel", "isSeen", "()Z"⟩ ∈ qG := qG_t6 94 rfl rfl
theorem km_Mo_390 : Cond.methodLink "QuinceEndModel" 390 ⟨"QuinceEndModel", "weights", "(I)I"⟩ ∈ qG := qG_t6 90 rfl rfl
theorem km_Mo_393 : Cond.methodLink "QuinceEndModel" 393 ⟨"QuinceEndModel", "divisor", "(II)I"⟩ ∈ qG := qG_t6 111 rfl rfl
theorem km_Mo_398 : Cond.methodLink "QuinceEndModel" 398 ⟨"QuinceEndModel", "lowest", "(III)J"⟩ ∈ qG := qG_t6 107 rfl rfl
theorem km_Mo_402 : Cond.methodLink "QuinceEndModel" 402 ⟨"QuinceEndModel", "goPlan", "(II)V"⟩ ∈ qG := qG_t6 127 rfl rfl
theorem km_Mo_406 : Cond.methodLink "QuinceEndModel" 406 ⟨"QuinceEndModel", "isTape", "(I)Z"⟩ ∈ qG := qG_t6 143 rfl rfl
theorem km_Mo_409 : Cond.methodLink "QuinceEndModel" 409 ⟨"QuinceEndModel", "body", "(I)V"⟩ ∈ qG := qG_t6 163 rfl rfl
theorem km_Mo_412 : Cond.methodLink "QuinceEndModel" 412 ⟨"QuinceEndModel", "thingDrips", "(II)I"⟩ ∈ qG := qG_t6 167 rfl rfl
theorem km_Mo_415 : Cond.methodLink "QuinceEndModel" 415 ⟨"QuinceEndModel", "dripsAct", "(II)I"⟩ ∈ qG := qG_t6 159 rfl rfl
theorem km_Mo_418 : Cond.methodLink "QuinceEndModel" 418 ⟨"QuinceEndModel", "thingReddens", "(II)I"⟩ ∈ qG := qG_t6 179 rfl rfl
theorem km_Mo_421 : Cond.methodLink "QuinceEndModel" 421 ⟨"QuinceEndModel", "grudgeReddens", "(II)I"⟩ ∈ qG := qG_t6 175 rfl rfl
theorem km_Mo_424 : Cond.methodLink "QuinceEndModel" 424 ⟨"QuinceEndModel", "reddensAct", "(II)I"⟩ ∈ qG := qG_t6 171 rfl rfl
theorem km_Mo_427 : Cond.methodLink "QuinceEndModel" 427 ⟨"QuinceEndModel", "thingTells", "(II)I"⟩ ∈ qG := qG_t6 187 rfl rfl
theorem km_Mo_430 : Cond.methodLink "QuinceEndModel" 430 ⟨"QuinceEndModel", "tellsAct", "(II)I"⟩ ∈ qG := qG_t6 183 rfl rfl
theorem km_Mo_433 : Cond.methodLink "QuinceEndModel" 433 ⟨"QuinceEndModel", "narrow", "(IJ)J"⟩ ∈ qG := qG_t6 211 rfl rfl
theorem km_Js_335 : Cond.methodLink "java/lang/String" 335 ⟨"java/lang/String", "coder", "()B"⟩ ∈ qG := qG_t2 238 rfl rfl
theorem km_Js_492 : Cond.methodLink "java/lang/String" 492 ⟨"java/lang/String", "isLatin1", "()Z"⟩ ∈ qG := qG_t3 8 rfl rfl
theorem km_Js_495 : Cond.methodLink "java/lang/String" 495 ⟨"java/lang/StringLatin1", "charAt", "([BI)C"⟩ ∈ qG := qG_t3 12 rfl rfl
theorem km_Js_498 : Cond.methodLink "java/lang/String" 498 ⟨"java/lang/StringUTF16", "charAt", "([BI)C"⟩ ∈ qG := qG_t3 23 rfl rfl
theorem km_Js_1059 : Cond.methodLink "java/lang/String" 1059 ⟨"jdk/internal/util/Preconditions", "checkIndex", "(IILjava/util/function/BiFunction;)I"⟩ ∈ qG := qG_t3 20 rfl rfl
theorem km_Jl_9 : Cond.methodLink "java/lang/StringLatin1" 9 ⟨"java/lang/String", "checkIndex", "(II)V"⟩ ∈ qG := qG_t3 15 rfl rfl
theorem km_Ju_48 : Cond.methodLink "java/lang/StringUTF16" 48 ⟨"java/lang/StringUTF16", "length", "([B)I"⟩ ∈ qG := qG_t3 29 rfl rfl
theorem km_Ju_67 : Cond.methodLink "java/lang/StringUTF16" 67 ⟨"java/lang/StringUTF16", "checkIndex", "(I[B)V"⟩ ∈ qG := qG_t3 26 rfl rfl
theorem km_Ju_71 : Cond.methodLink "java/lang/StringUTF16" 71 ⟨"java/lang/StringUTF16", "getChar", "([BI)C"⟩ ∈ qG := qG_t3 33 rfl rfl
theorem km_Ju_414 : Cond.methodLink "java/lang/StringUTF16" 414 ⟨"java/lang/String", "checkIndex", "(II)V"⟩ ∈ qG := qG_t3 32 rfl rfl
theorem kc_Qu_9 : Cond.classLink "QuinceEnd" 9 "QuinceEnd$Kitchen" ∈ qG := qG_t1 27 rfl rfl
theorem kc_Qu_12 : Cond.classLink "QuinceEnd" 12 "QuinceEnd$Whole" ∈ qG := qG_t1 53 rfl rfl
theorem kc_Qu_26 : Cond.classLink "QuinceEnd" 26 "QuinceEnd$Asking" ∈ qG := qG_t1 193 rfl rfl
theorem kc_Qu_35 : Cond.classLink "QuinceEnd" 35 "QuinceEnd$Reading" ∈ qG := qG_t1 214 rfl rfl
theorem kc_Qu_46 : Cond.classLink "QuinceEnd" 46 "QuinceEnd$Acting" ∈ qG := qG_t1 235 rfl rfl
theorem kc_Qu_53 : Cond.classLink "QuinceEnd" 53 "QuinceEnd$Tape" ∈ qG := qG_t2 18 rfl rfl
theorem kc_As_22 : Cond.classLink "QuinceEnd$Asking" 22 "QuinceEnd$Pan" ∈ qG := qG_t1 199 rfl rfl
theorem kc_Pa_9 : Cond.classLink "QuinceEnd$Pan" 9 "QuinceEnd$Thing" ∈ qG := qG_t1 86 rfl rfl
theorem kc_Wh_9 : Cond.classLink "QuinceEnd$Whole" 9 "QuinceEnd$Rows" ∈ qG := qG_t1 59 rfl rfl
theorem kc_Wh_26 : Cond.classLink "QuinceEnd$Whole" 26 "QuinceEnd$Pan" ∈ qG := qG_t1 80 rfl rfl
theorem kc_La_7 : Cond.classLink "QuinceEndLaw" 7 "QuinceEnd" ∈ qG := qG_t1 19 rfl rfl
theorem kc_La_10 : Cond.classLink "QuinceEndLaw" 10 "QuinceEndModel" ∈ qG := qG_t4 85 rfl rfl
theorem kk_Qu_202 : Cond.constantLong "QuinceEnd" 202 (-9223372036854775808 : Int64) ∈ qG := qG_t3 177 rfl rfl
theorem kk_As_103 : Cond.constant "QuinceEnd$Asking" 103 (100000 : Int32) ∈ qG := qG_t3 149 rfl rfl
theorem kk_Pa_118 : Cond.constant "QuinceEnd$Pan" 118 (99999 : Int32) ∈ qG := qG_t2 145 rfl rfl
theorem kk_La_148 : Cond.constantLong "QuinceEndLaw" 148 (4294967295 : Int64) ∈ qG := qG_t6 223 rfl rfl
theorem kk_Mo_346 : Cond.constant "QuinceEndModel" 346 (99999 : Int32) ∈ qG := qG_t6 20 rfl rfl
theorem kk_Mo_359 : Cond.constant "QuinceEndModel" 359 (2000000000 : Int32) ∈ qG := qG_t6 41 rfl rfl
theorem kk_Mo_396 : Cond.constantLong "QuinceEndModel" 396 (-9223372036854775808 : Int64) ∈ qG := qG_t6 106 rfl rfl
theorem kk_Ji_265 : Cond.constant "java/lang/Integer" 265 (1431655765 : Int32) ∈ qG := qG_t2 166 rfl rfl
theorem kk_Ji_266 : Cond.constant "java/lang/Integer" 266 (858993459 : Int32) ∈ qG := qG_t2 167 rfl rfl
theorem kk_Ji_267 : Cond.constant "java/lang/Integer" 267 (252645135 : Int32) ∈ qG := qG_t2 168 rfl rfl
theorem ki_La : Cond.initialized "QuinceEndLaw" ∈ qG := qG_t1 0 rfl rfl
theorem ki_Qu : Cond.initialized "QuinceEnd" ∈ qG := qG_t1 1 rfl rfl
theorem ki_Ki : Cond.initialized "QuinceEnd$Kitchen" ∈ qG := qG_t1 2 rfl rfl
theorem ki_Wh : Cond.initialized "QuinceEnd$Whole" ∈ qG := qG_t1 3 rfl rfl
theorem ki_Ro : Cond.initialized "QuinceEnd$Rows" ∈ qG := qG_t1 4 rfl rfl
theorem ki_Jm : Cond.initialized "java/lang/Math" ∈ qG := qG_t1 5 rfl rfl
theorem ki_Pa : Cond.initialized "QuinceEnd$Pan" ∈ qG := qG_t1 6 rfl rfl
theorem ki_Th : Cond.initialized "QuinceEnd$Thing" ∈ qG := qG_t1 7 rfl rfl
theorem ki_As : Cond.initialized "QuinceEnd$Asking" ∈ qG := qG_t1 8 rfl rfl
theorem ki_Re : Cond.initialized "QuinceEnd$Reading" ∈ qG := qG_t1 9 rfl rfl
theorem ki_Ac : Cond.initialized "QuinceEnd$Acting" ∈ qG := qG_t1 10 rfl rfl
theorem ki_Ta : Cond.initialized "QuinceEnd$Tape" ∈ qG := qG_t1 11 rfl rfl
theorem ki_Mo : Cond.initialized "QuinceEndModel" ∈ qG := qG_t1 12 rfl rfl
theorem ki_Jy : Cond.initialized "java/lang/System" ∈ qG := qG_t1 13 rfl rfl
theorem ki_Ji : Cond.initialized "java/lang/Integer" ∈ qG := qG_t1 14 rfl rfl
theorem ki_Js : Cond.initialized "java/lang/String" ∈ qG := qG_t1 15 rfl rfl
theorem ki_Jl : Cond.initialized "java/lang/StringLatin1" ∈ qG := qG_t1 16 rfl rfl
theorem ki_Jp : Cond.initialized "jdk/internal/util/Preconditions" ∈ qG := qG_t1 17 rfl rfl
theorem ki_Ju : Cond.initialized "java/lang/StringUTF16" ∈ qG := qG_t1 18 rfl rfl
theorem kn_Qu : Cond.instantiable "QuinceEnd" 9 ∈ qG := qG_t1 20 rfl rfl
theorem kn_Ki : Cond.instantiable "QuinceEnd$Kitchen" 5 ∈ qG := qG_t1 28 rfl rfl
theorem kn_Wh : Cond.instantiable "QuinceEnd$Whole" 4 ∈ qG := qG_t1 54 rfl rfl
theorem kn_Ro : Cond.instantiable "QuinceEnd$Rows" 3 ∈ qG := qG_t1 60 rfl rfl
theorem kn_Pa : Cond.instantiable "QuinceEnd$Pan" 8 ∈ qG := qG_t1 81 rfl rfl
theorem kn_Th : Cond.instantiable "QuinceEnd$Thing" 8 ∈ qG := qG_t1 88 rfl rfl
theorem kn_As : Cond.instantiable "QuinceEnd$Asking" 4 ∈ qG := qG_t1 194 rfl rfl
theorem kn_Re : Cond.instantiable "QuinceEnd$Reading" 4 ∈ qG := qG_t1 215 rfl rfl
theorem kn_Ac : Cond.instantiable "QuinceEnd$Acting" 5 ∈ qG := qG_t1 236 rfl rfl
theorem kn_Ta : Cond.instantiable "QuinceEnd$Tape" 3 ∈ qG := qG_t2 20 rfl rfl
theorem kn_Mo : Cond.instantiable "QuinceEndModel" 77 ∈ qG := qG_t4 86 rfl rfl
theorem kd_Ac_init : Cond.code M_Ac_init.1 M_Ac_init.2.1 M_Ac_init.2.2.1 M_Ac_init.2.2.2 ∈ qG := qG_t1 239 rfl rfl
theorem kx_Ac_init : Cond.instanceMethod M_Ac_init.1 ∈ qG := qG_t1 238 rfl rfl
theorem kd_Ac_forget : Cond.code M_Ac_forget.1 M_Ac_forget.2.1 M_Ac_forget.2.2.1 M_Ac_forget.2.2.2 ∈ qG := qG_t4 17 rfl rfl
theorem kx_Ac_forget : Cond.instanceMethod M_Ac_forget.1 ∈ qG := qG_t4 15 rfl rfl
theorem kv_Ac_forget : Cond.selects M_Ac_forget.1.cls M_Ac_forget.1 M_Ac_forget.1 ∈ qG := qG_t4 16 rfl rfl
theorem kd_Ac_bodyAt : Cond.code M_Ac_bodyAt.1 M_Ac_bodyAt.2.1 M_Ac_bodyAt.2.2.1 M_Ac_bodyAt.2.2.2 ∈ qG := qG_t4 41 rfl rfl
theorem kx_Ac_bodyAt : Cond.instanceMethod M_Ac_bodyAt.1 ∈ qG := qG_t4 39 rfl rfl
theorem kv_Ac_bodyAt : Cond.selects M_Ac_bodyAt.1.cls M_Ac_bodyAt.1 M_Ac_bodyAt.1 ∈ qG := qG_t4 40 rfl rfl
theorem kd_Ac_perform : Cond.code M_Ac_perform.1 M_Ac_perform.2.1 M_Ac_perform.2.2.1 M_Ac_perform.2.2.2 ∈ qG := qG_t4 21 rfl rfl
theorem kx_Ac_perform : Cond.instanceMethod M_Ac_perform.1 ∈ qG := qG_t4 19 rfl rfl
theorem kv_Ac_perform : Cond.selects M_Ac_perform.1.cls M_Ac_perform.1 M_Ac_perform.1 ∈ qG := qG_t4 20 rfl rfl
theorem kd_Ac_from : Cond.code M_Ac_from.1 M_Ac_from.2.1 M_Ac_from.2.2.1 M_Ac_from.2.2.2 ∈ qG := qG_t4 25 rfl rfl
theorem kx_Ac_from : Cond.instanceMethod M_Ac_from.1 ∈ qG := qG_t4 24 rfl rfl
theorem kv_Ac_from : Cond.selects M_Ac_from.1.cls M_Ac_from.1 M_Ac_from.1 ∈ qG := qG_s 15 rfl rfl
theorem kd_Ac_body : Cond.code M_Ac_body.1 M_Ac_body.2.1 M_Ac_body.2.2.1 M_Ac_body.2.2.2 ∈ qG := qG_t4 33 rfl rfl
theorem kx_Ac_body : Cond.instanceMethod M_Ac_body.1 ∈ qG := qG_t4 32 rfl rfl
theorem kv_Ac_body : Cond.selects M_Ac_body.1.cls M_Ac_body.1 M_Ac_body.1 ∈ qG := qG_s 16 rfl rfl
theorem kd_As_init : Cond.code M_As_init.1 M_As_init.2.1 M_As_init.2.2.1 M_As_init.2.2.2 ∈ qG := qG_t1 197 rfl rfl
theorem kx_As_init : Cond.instanceMethod M_As_init.1 ∈ qG := qG_t1 196 rfl rfl
theorem kd_As_behind : Cond.code M_As_behind.1 M_As_behind.2.1 M_As_behind.2.2.1 M_As_behind.2.2.2 ∈ qG := qG_t3 110 rfl rfl
theorem kx_As_behind : Cond.instanceMethod M_As_behind.1 ∈ qG := qG_t3 108 rfl rfl
theorem kv_As_behind : Cond.selects M_As_behind.1.cls M_As_behind.1 M_As_behind.1 ∈ qG := qG_t3 109 rfl rfl
theorem kd_As_sets : Cond.code M_As_sets.1 M_As_sets.2.1 M_As_sets.2.2.1 M_As_sets.2.2.2 ∈ qG := qG_t3 83 rfl rfl
theorem kx_As_sets : Cond.instanceMethod M_As_sets.1 ∈ qG := qG_t3 81 rfl rfl
theorem kv_As_sets : Cond.selects M_As_sets.1.cls M_As_sets.1 M_As_sets.1 ∈ qG := qG_t3 82 rfl rfl
theorem kd_As_minutesToSet : Cond.code M_As_minutesToSet.1 M_As_minutesToSet.2.1 M_As_minutesToSet.2.2.1 M_As_minutesToSet.2.2.2 ∈ qG := qG_t3 87 rfl rfl
theorem kx_As_minutesToSet : Cond.instanceMethod M_As_minutesToSet.1 ∈ qG := qG_t3 86 rfl rfl
theorem kv_As_minutesToSet : Cond.selects M_As_minutesToSet.1.cls M_As_minutesToSet.1 M_As_minutesToSet.1 ∈ qG := qG_s 11 rfl rfl
theorem kd_As_word : Cond.code M_As_word.1 M_As_word.2.1 M_As_word.2.2.1 M_As_word.2.2.2 ∈ qG := qG_t3 91 rfl rfl
theorem kx_As_word : Cond.instanceMethod M_As_word.1 ∈ qG := qG_t3 89 rfl rfl
theorem kv_As_word : Cond.selects M_As_word.1.cls M_As_word.1 M_As_word.1 ∈ qG := qG_t3 90 rfl rfl
theorem kd_As_bestRow : Cond.code M_As_bestRow.1 M_As_bestRow.2.1 M_As_bestRow.2.2.1 M_As_bestRow.2.2.2 ∈ qG := qG_t3 119 rfl rfl
theorem kx_As_bestRow : Cond.instanceMethod M_As_bestRow.1 ∈ qG := qG_t3 117 rfl rfl
theorem kv_As_bestRow : Cond.selects M_As_bestRow.1.cls M_As_bestRow.1 M_As_bestRow.1 ∈ qG := qG_t3 118 rfl rfl
theorem kd_As_colourOfRow : Cond.code M_As_colourOfRow.1 M_As_colourOfRow.2.1 M_As_colourOfRow.2.2.1 M_As_colourOfRow.2.2.2 ∈ qG := qG_t3 123 rfl rfl
theorem kx_As_colourOfRow : Cond.instanceMethod M_As_colourOfRow.1 ∈ qG := qG_t3 122 rfl rfl
theorem kv_As_colourOfRow : Cond.selects M_As_colourOfRow.1.cls M_As_colourOfRow.1 M_As_colourOfRow.1 ∈ qG := qG_s 12 rfl rfl
theorem kd_As_fewest : Cond.code M_As_fewest.1 M_As_fewest.2.1 M_As_fewest.2.2.1 M_As_fewest.2.2.2 ∈ qG := qG_t3 134 rfl rfl
theorem kx_As_fewest : Cond.instanceMethod M_As_fewest.1 ∈ qG := qG_t3 132 rfl rfl
theorem kv_As_fewest : Cond.selects M_As_fewest.1.cls M_As_fewest.1 M_As_fewest.1 ∈ qG := qG_t3 133 rfl rfl
theorem kd_As_setsWith : Cond.code M_As_setsWith.1 M_As_setsWith.2.1 M_As_setsWith.2.2.1 M_As_setsWith.2.2.2 ∈ qG := qG_t3 140 rfl rfl
theorem kx_As_setsWith : Cond.instanceMethod M_As_setsWith.1 ∈ qG := qG_t3 139 rfl rfl
theorem kv_As_setsWith : Cond.selects M_As_setsWith.1.cls M_As_setsWith.1 M_As_setsWith.1 ∈ qG := qG_s 13 rfl rfl
theorem kd_As_nearestFire : Cond.code M_As_nearestFire.1 M_As_nearestFire.2.1 M_As_nearestFire.2.2.1 M_As_nearestFire.2.2.2 ∈ qG := qG_t3 148 rfl rfl
theorem kx_As_nearestFire : Cond.instanceMethod M_As_nearestFire.1 ∈ qG := qG_t3 146 rfl rfl
theorem kv_As_nearestFire : Cond.selects M_As_nearestFire.1.cls M_As_nearestFire.1 M_As_nearestFire.1 ∈ qG := qG_t3 147 rfl rfl
theorem kd_As_weights : Cond.code M_As_weights.1 M_As_weights.2.1 M_As_weights.2.2.1 M_As_weights.2.2.2 ∈ qG := qG_t2 111 rfl rfl
theorem kx_As_weights : Cond.instanceMethod M_As_weights.1 ∈ qG := qG_t2 109 rfl rfl
theorem kv_As_weights : Cond.selects M_As_weights.1.cls M_As_weights.1 M_As_weights.1 ∈ qG := qG_t2 110 rfl rfl
theorem kd_As_firmness : Cond.code M_As_firmness.1 M_As_firmness.2.1 M_As_firmness.2.2.1 M_As_firmness.2.2.2 ∈ qG := qG_t3 172 rfl rfl
theorem kx_As_firmness : Cond.instanceMethod M_As_firmness.1 ∈ qG := qG_t3 170 rfl rfl
theorem kv_As_firmness : Cond.selects M_As_firmness.1.cls M_As_firmness.1 M_As_firmness.1 ∈ qG := qG_t3 171 rfl rfl
theorem kd_As_isAsSeen : Cond.code M_As_isAsSeen.1 M_As_isAsSeen.2.1 M_As_isAsSeen.2.2.1 M_As_isAsSeen.2.2.2 ∈ qG := qG_t2 127 rfl rfl
theorem kx_As_isAsSeen : Cond.instanceMethod M_As_isAsSeen.1 ∈ qG := qG_t2 126 rfl rfl
theorem kv_As_isAsSeen : Cond.selects M_As_isAsSeen.1.cls M_As_isAsSeen.1 M_As_isAsSeen.1 ∈ qG := qG_s 1 rfl rfl
theorem kd_As_chances : Cond.code M_As_chances.1 M_As_chances.2.1 M_As_chances.2.2.1 M_As_chances.2.2.2 ∈ qG := qG_t3 181 rfl rfl
theorem kx_As_chances : Cond.instanceMethod M_As_chances.1 ∈ qG := qG_t3 179 rfl rfl
theorem kv_As_chances : Cond.selects M_As_chances.1.cls M_As_chances.1 M_As_chances.1 ∈ qG := qG_t3 180 rfl rfl
theorem kd_As_planned : Cond.code M_As_planned.1 M_As_planned.2.1 M_As_planned.2.2.1 M_As_planned.2.2.2 ∈ qG := qG_t3 204 rfl rfl
theorem kx_As_planned : Cond.instanceMethod M_As_planned.1 ∈ qG := qG_t3 202 rfl rfl
theorem kv_As_planned : Cond.selects M_As_planned.1.cls M_As_planned.1 M_As_planned.1 ∈ qG := qG_t3 203 rfl rfl
theorem kd_As_follow : Cond.code M_As_follow.1 M_As_follow.2.1 M_As_follow.2.2.1 M_As_follow.2.2.2 ∈ qG := qG_t3 208 rfl rfl
theorem kx_As_follow : Cond.instanceMethod M_As_follow.1 ∈ qG := qG_t3 207 rfl rfl
theorem kv_As_follow : Cond.selects M_As_follow.1.cls M_As_follow.1 M_As_follow.1 ∈ qG := qG_s 14 rfl rfl
theorem kd_Ki_init : Cond.code M_Ki_init.1 M_Ki_init.2.1 M_Ki_init.2.2.1 M_Ki_init.2.2.2 ∈ qG := qG_t1 31 rfl rfl
theorem kx_Ki_init : Cond.instanceMethod M_Ki_init.1 ∈ qG := qG_t1 30 rfl rfl
theorem kd_Ki_clean : Cond.code M_Ki_clean.1 M_Ki_clean.2.1 M_Ki_clean.2.2.1 M_Ki_clean.2.2.2 ∈ qG := qG_t2 216 rfl rfl
theorem kx_Ki_clean : Cond.instanceMethod M_Ki_clean.1 ∈ qG := qG_t2 214 rfl rfl
theorem kv_Ki_clean : Cond.selects M_Ki_clean.1.cls M_Ki_clean.1 M_Ki_clean.1 ∈ qG := qG_t2 215 rfl rfl
theorem kd_Ki_addStep : Cond.code M_Ki_addStep.1 M_Ki_addStep.2.1 M_Ki_addStep.2.2.1 M_Ki_addStep.2.2.2 ∈ qG := qG_t3 63 rfl rfl
theorem kx_Ki_addStep : Cond.instanceMethod M_Ki_addStep.1 ∈ qG := qG_t3 61 rfl rfl
theorem kv_Ki_addStep : Cond.selects M_Ki_addStep.1.cls M_Ki_addStep.1 M_Ki_addStep.1 ∈ qG := qG_t3 62 rfl rfl
theorem kd_Ki_adds : Cond.code M_Ki_adds.1 M_Ki_adds.2.1 M_Ki_adds.2.2.1 M_Ki_adds.2.2.2 ∈ qG := qG_t2 100 rfl rfl
theorem kx_Ki_adds : Cond.instanceMethod M_Ki_adds.1 ∈ qG := qG_t2 98 rfl rfl
theorem kv_Ki_adds : Cond.selects M_Ki_adds.1.cls M_Ki_adds.1 M_Ki_adds.1 ∈ qG := qG_t2 99 rfl rfl
theorem kd_Pa_init : Cond.code M_Pa_init.1 M_Pa_init.2.1 M_Pa_init.2.2.1 M_Pa_init.2.2.2 ∈ qG := qG_t1 84 rfl rfl
theorem kx_Pa_init : Cond.instanceMethod M_Pa_init.1 ∈ qG := qG_t1 83 rfl rfl
theorem kd_Pa_copyFrom : Cond.code M_Pa_copyFrom.1 M_Pa_copyFrom.2.1 M_Pa_copyFrom.2.2.1 M_Pa_copyFrom.2.2.2 ∈ qG := qG_t2 115 rfl rfl
theorem kx_Pa_copyFrom : Cond.instanceMethod M_Pa_copyFrom.1 ∈ qG := qG_t2 113 rfl rfl
theorem kv_Pa_copyFrom : Cond.selects M_Pa_copyFrom.1.cls M_Pa_copyFrom.1 M_Pa_copyFrom.1 ∈ qG := qG_t2 114 rfl rfl
theorem kd_Pa_addThing : Cond.code M_Pa_addThing.1 M_Pa_addThing.2.1 M_Pa_addThing.2.2.1 M_Pa_addThing.2.2.2 ∈ qG := qG_t2 77 rfl rfl
theorem kx_Pa_addThing : Cond.instanceMethod M_Pa_addThing.1 ∈ qG := qG_t2 75 rfl rfl
theorem kv_Pa_addThing : Cond.selects M_Pa_addThing.1.cls M_Pa_addThing.1 M_Pa_addThing.1 ∈ qG := qG_t2 76 rfl rfl
theorem kd_Pa_find : Cond.code M_Pa_find.1 M_Pa_find.2.1 M_Pa_find.2.2.1 M_Pa_find.2.2.2 ∈ qG := qG_t2 89 rfl rfl
theorem kx_Pa_find : Cond.instanceMethod M_Pa_find.1 ∈ qG := qG_t2 87 rfl rfl
theorem kv_Pa_find : Cond.selects M_Pa_find.1.cls M_Pa_find.1 M_Pa_find.1 ∈ qG := qG_t2 88 rfl rfl
theorem kd_Pa_bitsOf : Cond.code M_Pa_bitsOf.1 M_Pa_bitsOf.2.1 M_Pa_bitsOf.2.2.1 M_Pa_bitsOf.2.2.2 ∈ qG := qG_t2 162 rfl rfl
theorem kx_Pa_bitsOf : Cond.instanceMethod M_Pa_bitsOf.1 ∈ qG := qG_t2 160 rfl rfl
theorem kv_Pa_bitsOf : Cond.selects M_Pa_bitsOf.1.cls M_Pa_bitsOf.1 M_Pa_bitsOf.1 ∈ qG := qG_t2 161 rfl rfl
theorem kd_Pa_howMany : Cond.code M_Pa_howMany.1 M_Pa_howMany.2.1 M_Pa_howMany.2.2.1 M_Pa_howMany.2.2.2 ∈ qG := qG_t2 158 rfl rfl
theorem kx_Pa_howMany : Cond.instanceMethod M_Pa_howMany.1 ∈ qG := qG_t2 156 rfl rfl
theorem kv_Pa_howMany : Cond.selects M_Pa_howMany.1.cls M_Pa_howMany.1 M_Pa_howMany.1 ∈ qG := qG_t2 157 rfl rfl
theorem kd_Pa_speak : Cond.code M_Pa_speak.1 M_Pa_speak.2.1 M_Pa_speak.2.2.1 M_Pa_speak.2.2.2 ∈ qG := qG_t2 176 rfl rfl
theorem kx_Pa_speak : Cond.instanceMethod M_Pa_speak.1 ∈ qG := qG_t2 174 rfl rfl
theorem kv_Pa_speak : Cond.selects M_Pa_speak.1.cls M_Pa_speak.1 M_Pa_speak.1 ∈ qG := qG_t2 175 rfl rfl
theorem kd_Pa_tipOut : Cond.code M_Pa_tipOut.1 M_Pa_tipOut.2.1 M_Pa_tipOut.2.2.1 M_Pa_tipOut.2.2.2 ∈ qG := qG_t2 192 rfl rfl
theorem kx_Pa_tipOut : Cond.instanceMethod M_Pa_tipOut.1 ∈ qG := qG_t2 190 rfl rfl
theorem kv_Pa_tipOut : Cond.selects M_Pa_tipOut.1.cls M_Pa_tipOut.1 M_Pa_tipOut.1 ∈ qG := qG_t2 191 rfl rfl
theorem kd_Pa_gives : Cond.code M_Pa_gives.1 M_Pa_gives.2.1 M_Pa_gives.2.2.1 M_Pa_gives.2.2.2 ∈ qG := qG_t2 93 rfl rfl
theorem kx_Pa_gives : Cond.instanceMethod M_Pa_gives.1 ∈ qG := qG_t2 91 rfl rfl
theorem kv_Pa_gives : Cond.selects M_Pa_gives.1.cls M_Pa_gives.1 M_Pa_gives.1 ∈ qG := qG_t2 92 rfl rfl
theorem kd_Pa_spokenOver : Cond.code M_Pa_spokenOver.1 M_Pa_spokenOver.2.1 M_Pa_spokenOver.2.2.1 M_Pa_spokenOver.2.2.2 ∈ qG := qG_t2 104 rfl rfl
theorem kx_Pa_spokenOver : Cond.instanceMethod M_Pa_spokenOver.1 ∈ qG := qG_t2 103 rfl rfl
theorem kv_Pa_spokenOver : Cond.selects M_Pa_spokenOver.1.cls M_Pa_spokenOver.1 M_Pa_spokenOver.1 ∈ qG := qG_s 0 rfl rfl
theorem kd_Pa_together : Cond.code M_Pa_together.1 M_Pa_together.2.1 M_Pa_together.2.2.1 M_Pa_together.2.2.2 ∈ qG := qG_t2 143 rfl rfl
theorem kx_Pa_together : Cond.instanceMethod M_Pa_together.1 ∈ qG := qG_t2 141 rfl rfl
theorem kv_Pa_together : Cond.selects M_Pa_together.1.cls M_Pa_together.1 M_Pa_together.1 ∈ qG := qG_t2 142 rfl rfl
theorem kd_Pa_goMinute : Cond.code M_Pa_goMinute.1 M_Pa_goMinute.2.1 M_Pa_goMinute.2.2.1 M_Pa_goMinute.2.2.2 ∈ qG := qG_t2 139 rfl rfl
theorem kx_Pa_goMinute : Cond.instanceMethod M_Pa_goMinute.1 ∈ qG := qG_t2 137 rfl rfl
theorem kv_Pa_goMinute : Cond.selects M_Pa_goMinute.1.cls M_Pa_goMinute.1 M_Pa_goMinute.1 ∈ qG := qG_t2 138 rfl rfl
theorem kd_Pa_goMinutes : Cond.code M_Pa_goMinutes.1 M_Pa_goMinutes.2.1 M_Pa_goMinutes.2.2.1 M_Pa_goMinutes.2.2.2 ∈ qG := qG_t3 101 rfl rfl
theorem kx_Pa_goMinutes : Cond.instanceMethod M_Pa_goMinutes.1 ∈ qG := qG_t3 99 rfl rfl
theorem kv_Pa_goMinutes : Cond.selects M_Pa_goMinutes.1.cls M_Pa_goMinutes.1 M_Pa_goMinutes.1 ∈ qG := qG_t3 100 rfl rfl
theorem kd_Pa_judgeTimes : Cond.code M_Pa_judgeTimes.1 M_Pa_judgeTimes.2.1 M_Pa_judgeTimes.2.2.1 M_Pa_judgeTimes.2.2.2 ∈ qG := qG_t3 226 rfl rfl
theorem kx_Pa_judgeTimes : Cond.instanceMethod M_Pa_judgeTimes.1 ∈ qG := qG_t3 224 rfl rfl
theorem kv_Pa_judgeTimes : Cond.selects M_Pa_judgeTimes.1.cls M_Pa_judgeTimes.1 M_Pa_judgeTimes.1 ∈ qG := qG_t3 225 rfl rfl
theorem kd_Re_init : Cond.code M_Re_init.1 M_Re_init.2.1 M_Re_init.2.2.1 M_Re_init.2.2.2 ∈ qG := qG_t1 218 rfl rfl
theorem kx_Re_init : Cond.instanceMethod M_Re_init.1 ∈ qG := qG_t1 217 rfl rfl
theorem kd_Re_addSign : Cond.code M_Re_addSign.1 M_Re_addSign.2.1 M_Re_addSign.2.2.1 M_Re_addSign.2.2.2 ∈ qG := qG_t2 204 rfl rfl
theorem kx_Re_addSign : Cond.instanceMethod M_Re_addSign.1 ∈ qG := qG_t2 202 rfl rfl
theorem kv_Re_addSign : Cond.selects M_Re_addSign.1.cls M_Re_addSign.1 M_Re_addSign.1 ∈ qG := qG_t2 203 rfl rfl
theorem kd_Re_empty : Cond.code M_Re_empty.1 M_Re_empty.2.1 M_Re_empty.2.2.1 M_Re_empty.2.2.2 ∈ qG := qG_t3 73 rfl rfl
theorem kx_Re_empty : Cond.instanceMethod M_Re_empty.1 ∈ qG := qG_t3 71 rfl rfl
theorem kv_Re_empty : Cond.selects M_Re_empty.1.cls M_Re_empty.1 M_Re_empty.1 ∈ qG := qG_t3 72 rfl rfl
theorem kd_Re_readInto : Cond.code M_Re_readInto.1 M_Re_readInto.2.1 M_Re_readInto.2.2.1 M_Re_readInto.2.2.2 ∈ qG := qG_t2 212 rfl rfl
theorem kx_Re_readInto : Cond.instanceMethod M_Re_readInto.1 ∈ qG := qG_t2 210 rfl rfl
theorem kv_Re_readInto : Cond.selects M_Re_readInto.1.cls M_Re_readInto.1 M_Re_readInto.1 ∈ qG := qG_t2 211 rfl rfl
theorem kd_Re_clause : Cond.code M_Re_clause.1 M_Re_clause.2.1 M_Re_clause.2.2.1 M_Re_clause.2.2.2 ∈ qG := qG_t2 220 rfl rfl
theorem kx_Re_clause : Cond.instanceMethod M_Re_clause.1 ∈ qG := qG_t2 219 rfl rfl
theorem kv_Re_clause : Cond.selects M_Re_clause.1.cls M_Re_clause.1 M_Re_clause.1 ∈ qG := qG_s 2 rfl rfl
theorem kd_Re_needClause : Cond.code M_Re_needClause.1 M_Re_needClause.2.1 M_Re_needClause.2.2.1 M_Re_needClause.2.2.2 ∈ qG := qG_t2 228 rfl rfl
theorem kx_Re_needClause : Cond.instanceMethod M_Re_needClause.1 ∈ qG := qG_t2 227 rfl rfl
theorem kv_Re_needClause : Cond.selects M_Re_needClause.1.cls M_Re_needClause.1 M_Re_needClause.1 ∈ qG := qG_s 4 rfl rfl
theorem kd_Re_expression : Cond.code M_Re_expression.1 M_Re_expression.2.1 M_Re_expression.2.2.1 M_Re_expression.2.2.2 ∈ qG := qG_t3 55 rfl rfl
theorem kx_Re_expression : Cond.instanceMethod M_Re_expression.1 ∈ qG := qG_t3 54 rfl rfl
theorem kv_Re_expression : Cond.selects M_Re_expression.1.cls M_Re_expression.1 M_Re_expression.1 ∈ qG := qG_s 8 rfl rfl
theorem kd_Re_factor : Cond.code M_Re_factor.1 M_Re_factor.2.1 M_Re_factor.2.2.1 M_Re_factor.2.2.2 ∈ qG := qG_t3 59 rfl rfl
theorem kx_Re_factor : Cond.instanceMethod M_Re_factor.1 ∈ qG := qG_t3 58 rfl rfl
theorem kv_Re_factor : Cond.selects M_Re_factor.1.cls M_Re_factor.1 M_Re_factor.1 ∈ qG := qG_s 9 rfl rfl
theorem kd_Re_sign : Cond.code M_Re_sign.1 M_Re_sign.2.1 M_Re_sign.2.2.1 M_Re_sign.2.2.2 ∈ qG := qG_t2 224 rfl rfl
theorem kx_Re_sign : Cond.instanceMethod M_Re_sign.1 ∈ qG := qG_t2 223 rfl rfl
theorem kv_Re_sign : Cond.selects M_Re_sign.1.cls M_Re_sign.1 M_Re_sign.1 ∈ qG := qG_s 3 rfl rfl
theorem kd_Re_take : Cond.code M_Re_take.1 M_Re_take.2.1 M_Re_take.2.2.1 M_Re_take.2.2.2 ∈ qG := qG_t3 45 rfl rfl
theorem kx_Re_take : Cond.instanceMethod M_Re_take.1 ∈ qG := qG_t3 44 rfl rfl
theorem kv_Re_take : Cond.selects M_Re_take.1.cls M_Re_take.1 M_Re_take.1 ∈ qG := qG_s 6 rfl rfl
theorem kd_Re_takeWord : Cond.code M_Re_takeWord.1 M_Re_takeWord.2.1 M_Re_takeWord.2.2.1 M_Re_takeWord.2.2.2 ∈ qG := qG_t2 233 rfl rfl
theorem kx_Re_takeWord : Cond.instanceMethod M_Re_takeWord.1 ∈ qG := qG_t2 232 rfl rfl
theorem kv_Re_takeWord : Cond.selects M_Re_takeWord.1.cls M_Re_takeWord.1 M_Re_takeWord.1 ∈ qG := qG_s 5 rfl rfl
theorem kd_Re_takeOneOf : Cond.code M_Re_takeOneOf.1 M_Re_takeOneOf.2.1 M_Re_takeOneOf.2.2.1 M_Re_takeOneOf.2.2.2 ∈ qG := qG_t3 68 rfl rfl
theorem kx_Re_takeOneOf : Cond.instanceMethod M_Re_takeOneOf.1 ∈ qG := qG_t3 67 rfl rfl
theorem kv_Re_takeOneOf : Cond.selects M_Re_takeOneOf.1.cls M_Re_takeOneOf.1 M_Re_takeOneOf.1 ∈ qG := qG_s 10 rfl rfl
theorem kd_Re_takeNumber : Cond.code M_Re_takeNumber.1 M_Re_takeNumber.2.1 M_Re_takeNumber.2.2.1 M_Re_takeNumber.2.2.2 ∈ qG := qG_t3 49 rfl rfl
theorem kx_Re_takeNumber : Cond.instanceMethod M_Re_takeNumber.1 ∈ qG := qG_t3 48 rfl rfl
theorem kv_Re_takeNumber : Cond.selects M_Re_takeNumber.1.cls M_Re_takeNumber.1 M_Re_takeNumber.1 ∈ qG := qG_s 7 rfl rfl
theorem kd_Ro_init : Cond.code M_Ro_init.1 M_Ro_init.2.1 M_Ro_init.2.2.1 M_Ro_init.2.2.2 ∈ qG := qG_t1 63 rfl rfl
theorem kx_Ro_init : Cond.instanceMethod M_Ro_init.1 ∈ qG := qG_t1 62 rfl rfl
theorem kd_Ro_copyFrom : Cond.code M_Ro_copyFrom.1 M_Ro_copyFrom.2.1 M_Ro_copyFrom.2.2.1 M_Ro_copyFrom.2.2.2 ∈ qG := qG_t4 3 rfl rfl
theorem kx_Ro_copyFrom : Cond.instanceMethod M_Ro_copyFrom.1 ∈ qG := qG_t4 1 rfl rfl
theorem kv_Ro_copyFrom : Cond.selects M_Ro_copyFrom.1.cls M_Ro_copyFrom.1 M_Ro_copyFrom.1 ∈ qG := qG_t4 2 rfl rfl
theorem kd_Ro_empty : Cond.code M_Ro_empty.1 M_Ro_empty.2.1 M_Ro_empty.2.2.1 M_Ro_empty.2.2.2 ∈ qG := qG_t3 160 rfl rfl
theorem kx_Ro_empty : Cond.instanceMethod M_Ro_empty.1 ∈ qG := qG_t3 158 rfl rfl
theorem kv_Ro_empty : Cond.selects M_Ro_empty.1.cls M_Ro_empty.1 M_Ro_empty.1 ∈ qG := qG_t3 159 rfl rfl
theorem kd_Ro_add : Cond.code M_Ro_add.1 M_Ro_add.2.1 M_Ro_add.2.2.1 M_Ro_add.2.2.2 ∈ qG := qG_t3 164 rfl rfl
theorem kx_Ro_add : Cond.instanceMethod M_Ro_add.1 ∈ qG := qG_t3 162 rfl rfl
theorem kv_Ro_add : Cond.selects M_Ro_add.1.cls M_Ro_add.1 M_Ro_add.1 ∈ qG := qG_t3 163 rfl rfl
theorem kd_Ro_first : Cond.code M_Ro_first.1 M_Ro_first.2.1 M_Ro_first.2.2.1 M_Ro_first.2.2.2 ∈ qG := qG_t2 131 rfl rfl
theorem kx_Ro_first : Cond.instanceMethod M_Ro_first.1 ∈ qG := qG_t2 129 rfl rfl
theorem kv_Ro_first : Cond.selects M_Ro_first.1.cls M_Ro_first.1 M_Ro_first.1 ∈ qG := qG_t2 130 rfl rfl
theorem kd_Ro_second : Cond.code M_Ro_second.1 M_Ro_second.2.1 M_Ro_second.2.2.1 M_Ro_second.2.2.2 ∈ qG := qG_t2 135 rfl rfl
theorem kx_Ro_second : Cond.instanceMethod M_Ro_second.1 ∈ qG := qG_t2 133 rfl rfl
theorem kv_Ro_second : Cond.selects M_Ro_second.1.cls M_Ro_second.1 M_Ro_second.1 ∈ qG := qG_t2 134 rfl rfl
theorem kd_Ta_init : Cond.code M_Ta_init.1 M_Ta_init.2.1 M_Ta_init.2.2.1 M_Ta_init.2.2.2 ∈ qG := qG_t2 23 rfl rfl
theorem kx_Ta_init : Cond.instanceMethod M_Ta_init.1 ∈ qG := qG_t2 22 rfl rfl
theorem kd_Ta_become : Cond.code M_Ta_become.1 M_Ta_become.2.1 M_Ta_become.2.2.1 M_Ta_become.2.2.2 ∈ qG := qG_t4 62 rfl rfl
theorem kx_Ta_become : Cond.instanceMethod M_Ta_become.1 ∈ qG := qG_t4 60 rfl rfl
theorem kv_Ta_become : Cond.selects M_Ta_become.1.cls M_Ta_become.1 M_Ta_become.1 ∈ qG := qG_t4 61 rfl rfl
theorem kd_Ta_has : Cond.code M_Ta_has.1 M_Ta_has.2.1 M_Ta_has.2.2.1 M_Ta_has.2.2.2 ∈ qG := qG_t3 230 rfl rfl
theorem kx_Ta_has : Cond.instanceMethod M_Ta_has.1 ∈ qG := qG_t3 228 rfl rfl
theorem kv_Ta_has : Cond.selects M_Ta_has.1.cls M_Ta_has.1 M_Ta_has.1 ∈ qG := qG_t3 229 rfl rfl
theorem kd_Ta_hasRun : Cond.code M_Ta_hasRun.1 M_Ta_hasRun.2.1 M_Ta_hasRun.2.2.1 M_Ta_hasRun.2.2.2 ∈ qG := qG_t4 83 rfl rfl
theorem kx_Ta_hasRun : Cond.instanceMethod M_Ta_hasRun.1 ∈ qG := qG_t4 81 rfl rfl
theorem kv_Ta_hasRun : Cond.selects M_Ta_hasRun.1.cls M_Ta_hasRun.1 M_Ta_hasRun.1 ∈ qG := qG_t4 82 rfl rfl
theorem kd_Ta_fitted : Cond.code M_Ta_fitted.1 M_Ta_fitted.2.1 M_Ta_fitted.2.2.1 M_Ta_fitted.2.2.2 ∈ qG := qG_t4 71 rfl rfl
theorem kx_Ta_fitted : Cond.instanceMethod M_Ta_fitted.1 ∈ qG := qG_t4 69 rfl rfl
theorem kv_Ta_fitted : Cond.selects M_Ta_fitted.1.cls M_Ta_fitted.1 M_Ta_fitted.1 ∈ qG := qG_t4 70 rfl rfl
theorem kd_Th_init : Cond.code M_Th_init.1 M_Th_init.2.1 M_Th_init.2.2.1 M_Th_init.2.2.2 ∈ qG := qG_t1 91 rfl rfl
theorem kx_Th_init : Cond.instanceMethod M_Th_init.1 ∈ qG := qG_t1 90 rfl rfl
theorem kd_Th_copyFrom : Cond.code M_Th_copyFrom.1 M_Th_copyFrom.2.1 M_Th_copyFrom.2.2.1 M_Th_copyFrom.2.2.2 ∈ qG := qG_t2 119 rfl rfl
theorem kx_Th_copyFrom : Cond.instanceMethod M_Th_copyFrom.1 ∈ qG := qG_t2 117 rfl rfl
theorem kv_Th_copyFrom : Cond.selects M_Th_copyFrom.1.cls M_Th_copyFrom.1 M_Th_copyFrom.1 ∈ qG := qG_t2 118 rfl rfl
theorem kd_Th_begin : Cond.code M_Th_begin.1 M_Th_begin.2.1 M_Th_begin.2.2.1 M_Th_begin.2.2.2 ∈ qG := qG_t2 81 rfl rfl
theorem kx_Th_begin : Cond.instanceMethod M_Th_begin.1 ∈ qG := qG_t2 79 rfl rfl
theorem kv_Th_begin : Cond.selects M_Th_begin.1.cls M_Th_begin.1 M_Th_begin.1 ∈ qG := qG_t2 80 rfl rfl
theorem kd_Th_putIn : Cond.code M_Th_putIn.1 M_Th_putIn.2.1 M_Th_putIn.2.2.1 M_Th_putIn.2.2.2 ∈ qG := qG_t2 154 rfl rfl
theorem kx_Th_putIn : Cond.instanceMethod M_Th_putIn.1 ∈ qG := qG_t2 152 rfl rfl
theorem kv_Th_putIn : Cond.selects M_Th_putIn.1.cls M_Th_putIn.1 M_Th_putIn.1 ∈ qG := qG_t2 153 rfl rfl
theorem kd_Th_isUnder : Cond.code M_Th_isUnder.1 M_Th_isUnder.2.1 M_Th_isUnder.2.2.1 M_Th_isUnder.2.2.2 ∈ qG := qG_t4 49 rfl rfl
theorem kx_Th_isUnder : Cond.instanceMethod M_Th_isUnder.1 ∈ qG := qG_t4 47 rfl rfl
theorem kv_Th_isUnder : Cond.selects M_Th_isUnder.1.cls M_Th_isUnder.1 M_Th_isUnder.1 ∈ qG := qG_t4 48 rfl rfl
theorem kd_Wh_init : Cond.code M_Wh_init.1 M_Wh_init.2.1 M_Wh_init.2.2.1 M_Wh_init.2.2.2 ∈ qG := qG_t1 57 rfl rfl
theorem kx_Wh_init : Cond.instanceMethod M_Wh_init.1 ∈ qG := qG_t1 56 rfl rfl
theorem kd_Wh_copyFrom : Cond.code M_Wh_copyFrom.1 M_Wh_copyFrom.2.1 M_Wh_copyFrom.2.2.1 M_Wh_copyFrom.2.2.2 ∈ qG := qG_t3 238 rfl rfl
theorem kx_Wh_copyFrom : Cond.instanceMethod M_Wh_copyFrom.1 ∈ qG := qG_t3 236 rfl rfl
theorem kv_Wh_copyFrom : Cond.selects M_Wh_copyFrom.1.cls M_Wh_copyFrom.1 M_Wh_copyFrom.1 ∈ qG := qG_t3 237 rfl rfl
theorem kd_Qu_init : Cond.code M_Qu_init.1 M_Qu_init.2.1 M_Qu_init.2.2.1 M_Qu_init.2.2.2 ∈ qG := qG_t1 23 rfl rfl
theorem kx_Qu_init : Cond.instanceMethod M_Qu_init.1 ∈ qG := qG_t1 22 rfl rfl
theorem kd_Qu_thing : Cond.code M_Qu_thing.1 M_Qu_thing.2.1 M_Qu_thing.2.2.1 M_Qu_thing.2.2.2 ∈ qG := qG_t2 70 rfl rfl
theorem kx_Qu_thing : Cond.instanceMethod M_Qu_thing.1 ∈ qG := qG_t2 68 rfl rfl
theorem kv_Qu_thing : Cond.selects M_Qu_thing.1.cls M_Qu_thing.1 M_Qu_thing.1 ∈ qG := qG_t2 69 rfl rfl
theorem kd_Qu_of : Cond.code M_Qu_of.1 M_Qu_of.2.1 M_Qu_of.2.2.1 M_Qu_of.2.2.2 ∈ qG := qG_t2 85 rfl rfl
theorem kx_Qu_of : Cond.instanceMethod M_Qu_of.1 ∈ qG := qG_t2 83 rfl rfl
theorem kv_Qu_of : Cond.selects M_Qu_of.1.cls M_Qu_of.1 M_Qu_of.1 ∈ qG := qG_t2 84 rfl rfl
theorem kd_Qu_put : Cond.code M_Qu_put.1 M_Qu_put.2.1 M_Qu_put.2.2.1 M_Qu_put.2.2.2 ∈ qG := qG_t2 150 rfl rfl
theorem kx_Qu_put : Cond.instanceMethod M_Qu_put.1 ∈ qG := qG_t2 148 rfl rfl
theorem kv_Qu_put : Cond.selects M_Qu_put.1.cls M_Qu_put.1 M_Qu_put.1 ∈ qG := qG_t2 149 rfl rfl
theorem kd_Qu_say : Cond.code M_Qu_say.1 M_Qu_say.2.1 M_Qu_say.2.2.1 M_Qu_say.2.2.2 ∈ qG := qG_t2 172 rfl rfl
theorem kx_Qu_say : Cond.instanceMethod M_Qu_say.1 ∈ qG := qG_t2 170 rfl rfl
theorem kv_Qu_say : Cond.selects M_Qu_say.1.cls M_Qu_say.1 M_Qu_say.1 ∈ qG := qG_t2 171 rfl rfl
theorem kd_Qu_weigh : Cond.code M_Qu_weigh.1 M_Qu_weigh.2.1 M_Qu_weigh.2.2.1 M_Qu_weigh.2.2.2 ∈ qG := qG_t2 180 rfl rfl
theorem kx_Qu_weigh : Cond.instanceMethod M_Qu_weigh.1 ∈ qG := qG_t2 178 rfl rfl
theorem kv_Qu_weigh : Cond.selects M_Qu_weigh.1.cls M_Qu_weigh.1 M_Qu_weigh.1 ∈ qG := qG_t2 179 rfl rfl
theorem kd_Qu_fire : Cond.code M_Qu_fire.1 M_Qu_fire.2.1 M_Qu_fire.2.2.1 M_Qu_fire.2.2.2 ∈ qG := qG_t2 184 rfl rfl
theorem kx_Qu_fire : Cond.instanceMethod M_Qu_fire.1 ∈ qG := qG_t2 182 rfl rfl
theorem kv_Qu_fire : Cond.selects M_Qu_fire.1.cls M_Qu_fire.1 M_Qu_fire.1 ∈ qG := qG_t2 183 rfl rfl
theorem kd_Qu_tip : Cond.code M_Qu_tip.1 M_Qu_tip.2.1 M_Qu_tip.2.2.1 M_Qu_tip.2.2.2 ∈ qG := qG_t2 188 rfl rfl
theorem kx_Qu_tip : Cond.instanceMethod M_Qu_tip.1 ∈ qG := qG_t2 186 rfl rfl
theorem kv_Qu_tip : Cond.selects M_Qu_tip.1.cls M_Qu_tip.1 M_Qu_tip.1 ∈ qG := qG_t2 187 rfl rfl
theorem kd_Qu_row : Cond.code M_Qu_row.1 M_Qu_row.2.1 M_Qu_row.2.2.1 M_Qu_row.2.2.2 ∈ qG := qG_t2 196 rfl rfl
theorem kx_Qu_row : Cond.instanceMethod M_Qu_row.1 ∈ qG := qG_t2 194 rfl rfl
theorem kv_Qu_row : Cond.selects M_Qu_row.1.cls M_Qu_row.1 M_Qu_row.1 ∈ qG := qG_t2 195 rfl rfl
theorem kd_Qu_feed : Cond.code M_Qu_feed.1 M_Qu_feed.2.1 M_Qu_feed.2.2.1 M_Qu_feed.2.2.2 ∈ qG := qG_t2 200 rfl rfl
theorem kx_Qu_feed : Cond.instanceMethod M_Qu_feed.1 ∈ qG := qG_t2 198 rfl rfl
theorem kv_Qu_feed : Cond.selects M_Qu_feed.1.cls M_Qu_feed.1 M_Qu_feed.1 ∈ qG := qG_t2 199 rfl rfl
theorem kd_Qu_kitchen : Cond.code M_Qu_kitchen.1 M_Qu_kitchen.2.1 M_Qu_kitchen.2.2.1 M_Qu_kitchen.2.2.2 ∈ qG := qG_t2 208 rfl rfl
theorem kx_Qu_kitchen : Cond.instanceMethod M_Qu_kitchen.1 ∈ qG := qG_t2 206 rfl rfl
theorem kv_Qu_kitchen : Cond.selects M_Qu_kitchen.1.cls M_Qu_kitchen.1 M_Qu_kitchen.1 ∈ qG := qG_t2 207 rfl rfl
theorem kd_Qu_told : Cond.code M_Qu_told.1 M_Qu_told.2.1 M_Qu_told.2.2.1 M_Qu_told.2.2.2 ∈ qG := qG_t3 78 rfl rfl
theorem kx_Qu_told : Cond.instanceMethod M_Qu_told.1 ∈ qG := qG_t3 76 rfl rfl
theorem kv_Qu_told : Cond.selects M_Qu_told.1.cls M_Qu_told.1 M_Qu_told.1 ∈ qG := qG_t3 77 rfl rfl
theorem kd_Qu_pass : Cond.code M_Qu_pass.1 M_Qu_pass.2.1 M_Qu_pass.2.2.1 M_Qu_pass.2.2.2 ∈ qG := qG_t3 97 rfl rfl
theorem kx_Qu_pass : Cond.instanceMethod M_Qu_pass.1 ∈ qG := qG_t3 95 rfl rfl
theorem kv_Qu_pass : Cond.selects M_Qu_pass.1.cls M_Qu_pass.1 M_Qu_pass.1 ∈ qG := qG_t3 96 rfl rfl
theorem kd_Qu_on : Cond.code M_Qu_on.1 M_Qu_on.2.1 M_Qu_on.2.2.1 M_Qu_on.2.2.2 ∈ qG := qG_t3 106 rfl rfl
theorem kx_Qu_on : Cond.instanceMethod M_Qu_on.1 ∈ qG := qG_t3 104 rfl rfl
theorem kv_Qu_on : Cond.selects M_Qu_on.1.cls M_Qu_on.1 M_Qu_on.1 ∈ qG := qG_t3 105 rfl rfl
theorem kd_Qu_best : Cond.code M_Qu_best.1 M_Qu_best.2.1 M_Qu_best.2.2.1 M_Qu_best.2.2.2 ∈ qG := qG_t3 115 rfl rfl
theorem kx_Qu_best : Cond.instanceMethod M_Qu_best.1 ∈ qG := qG_t3 113 rfl rfl
theorem kv_Qu_best : Cond.selects M_Qu_best.1.cls M_Qu_best.1 M_Qu_best.1 ∈ qG := qG_t3 114 rfl rfl
theorem kd_Qu_enough : Cond.code M_Qu_enough.1 M_Qu_enough.2.1 M_Qu_enough.2.2.1 M_Qu_enough.2.2.2 ∈ qG := qG_t3 130 rfl rfl
theorem kx_Qu_enough : Cond.instanceMethod M_Qu_enough.1 ∈ qG := qG_t3 128 rfl rfl
theorem kv_Qu_enough : Cond.selects M_Qu_enough.1.cls M_Qu_enough.1 M_Qu_enough.1 ∈ qG := qG_t3 129 rfl rfl
theorem kd_Qu_flame : Cond.code M_Qu_flame.1 M_Qu_flame.2.1 M_Qu_flame.2.2.1 M_Qu_flame.2.2.2 ∈ qG := qG_t3 144 rfl rfl
theorem kx_Qu_flame : Cond.instanceMethod M_Qu_flame.1 ∈ qG := qG_t3 142 rfl rfl
theorem kv_Qu_flame : Cond.selects M_Qu_flame.1.cls M_Qu_flame.1 M_Qu_flame.1 ∈ qG := qG_t3 143 rfl rfl
theorem kd_Qu_see : Cond.code M_Qu_see.1 M_Qu_see.2.1 M_Qu_see.2.2.1 M_Qu_see.2.2.2 ∈ qG := qG_t3 156 rfl rfl
theorem kx_Qu_see : Cond.instanceMethod M_Qu_see.1 ∈ qG := qG_t3 154 rfl rfl
theorem kv_Qu_see : Cond.selects M_Qu_see.1.cls M_Qu_see.1 M_Qu_see.1 ∈ qG := qG_t3 155 rfl rfl
theorem kd_Qu_can : Cond.code M_Qu_can.1 M_Qu_can.2.1 M_Qu_can.2.2.1 M_Qu_can.2.2.2 ∈ qG := qG_t3 168 rfl rfl
theorem kx_Qu_can : Cond.instanceMethod M_Qu_can.1 ∈ qG := qG_t3 166 rfl rfl
theorem kv_Qu_can : Cond.selects M_Qu_can.1.cls M_Qu_can.1 M_Qu_can.1 ∈ qG := qG_t3 167 rfl rfl
theorem kd_Qu_odds : Cond.code M_Qu_odds.1 M_Qu_odds.2.1 M_Qu_odds.2.2.1 M_Qu_odds.2.2.2 ∈ qG := qG_t3 176 rfl rfl
theorem kx_Qu_odds : Cond.instanceMethod M_Qu_odds.1 ∈ qG := qG_t3 174 rfl rfl
theorem kv_Qu_odds : Cond.selects M_Qu_odds.1.cls M_Qu_odds.1 M_Qu_odds.1 ∈ qG := qG_t3 175 rfl rfl
theorem kd_Qu_mean : Cond.code M_Qu_mean.1 M_Qu_mean.2.1 M_Qu_mean.2.2.1 M_Qu_mean.2.2.2 ∈ qG := qG_t3 192 rfl rfl
theorem kx_Qu_mean : Cond.instanceMethod M_Qu_mean.1 ∈ qG := qG_t3 190 rfl rfl
theorem kv_Qu_mean : Cond.selects M_Qu_mean.1.cls M_Qu_mean.1 M_Qu_mean.1 ∈ qG := qG_t3 191 rfl rfl
theorem kd_Qu_plan : Cond.code M_Qu_plan.1 M_Qu_plan.2.1 M_Qu_plan.2.2.1 M_Qu_plan.2.2.2 ∈ qG := qG_t3 196 rfl rfl
theorem kx_Qu_plan : Cond.instanceMethod M_Qu_plan.1 ∈ qG := qG_t3 194 rfl rfl
theorem kv_Qu_plan : Cond.selects M_Qu_plan.1.cls M_Qu_plan.1 M_Qu_plan.1 ∈ qG := qG_t3 195 rfl rfl
theorem kd_Qu_ends : Cond.code M_Qu_ends.1 M_Qu_ends.2.1 M_Qu_ends.2.2.1 M_Qu_ends.2.2.2 ∈ qG := qG_t3 200 rfl rfl
theorem kx_Qu_ends : Cond.instanceMethod M_Qu_ends.1 ∈ qG := qG_t3 198 rfl rfl
theorem kv_Qu_ends : Cond.selects M_Qu_ends.1.cls M_Qu_ends.1 M_Qu_ends.1 ∈ qG := qG_t3 199 rfl rfl
theorem kd_Qu_book : Cond.code M_Qu_book.1 M_Qu_book.2.1 M_Qu_book.2.2.1 M_Qu_book.2.2.2 ∈ qG := qG_t3 212 rfl rfl
theorem kx_Qu_book : Cond.instanceMethod M_Qu_book.1 ∈ qG := qG_t3 210 rfl rfl
theorem kv_Qu_book : Cond.selects M_Qu_book.1.cls M_Qu_book.1 M_Qu_book.1 ∈ qG := qG_t3 211 rfl rfl
theorem kd_Qu_looked : Cond.code M_Qu_looked.1 M_Qu_looked.2.1 M_Qu_looked.2.2.1 M_Qu_looked.2.2.2 ∈ qG := qG_t3 216 rfl rfl
theorem kx_Qu_looked : Cond.instanceMethod M_Qu_looked.1 ∈ qG := qG_t3 214 rfl rfl
theorem kv_Qu_looked : Cond.selects M_Qu_looked.1.cls M_Qu_looked.1 M_Qu_looked.1 ∈ qG := qG_t3 215 rfl rfl
theorem kd_Qu_judge : Cond.code M_Qu_judge.1 M_Qu_judge.2.1 M_Qu_judge.2.2.1 M_Qu_judge.2.2.2 ∈ qG := qG_t3 222 rfl rfl
theorem kx_Qu_judge : Cond.instanceMethod M_Qu_judge.1 ∈ qG := qG_t3 220 rfl rfl
theorem kv_Qu_judge : Cond.selects M_Qu_judge.1.cls M_Qu_judge.1 M_Qu_judge.1 ∈ qG := qG_t3 221 rfl rfl
theorem kd_Qu_image : Cond.code M_Qu_image.1 M_Qu_image.2.1 M_Qu_image.2.2.1 M_Qu_image.2.2.2 ∈ qG := qG_t3 234 rfl rfl
theorem kx_Qu_image : Cond.instanceMethod M_Qu_image.1 ∈ qG := qG_t3 232 rfl rfl
theorem kv_Qu_image : Cond.selects M_Qu_image.1.cls M_Qu_image.1 M_Qu_image.1 ∈ qG := qG_t3 233 rfl rfl
theorem kd_Qu_undo : Cond.code M_Qu_undo.1 M_Qu_undo.2.1 M_Qu_undo.2.2.1 M_Qu_undo.2.2.2 ∈ qG := qG_t4 9 rfl rfl
theorem kx_Qu_undo : Cond.instanceMethod M_Qu_undo.1 ∈ qG := qG_t4 7 rfl rfl
theorem kv_Qu_undo : Cond.selects M_Qu_undo.1.cls M_Qu_undo.1 M_Qu_undo.1 ∈ qG := qG_t4 8 rfl rfl
theorem kd_Qu_act : Cond.code M_Qu_act.1 M_Qu_act.2.1 M_Qu_act.2.2.1 M_Qu_act.2.2.2 ∈ qG := qG_t4 13 rfl rfl
theorem kx_Qu_act : Cond.instanceMethod M_Qu_act.1 ∈ qG := qG_t4 11 rfl rfl
theorem kv_Qu_act : Cond.selects M_Qu_act.1.cls M_Qu_act.1 M_Qu_act.1 ∈ qG := qG_t4 12 rfl rfl
theorem kd_Qu_trace : Cond.code M_Qu_trace.1 M_Qu_trace.2.1 M_Qu_trace.2.2.1 M_Qu_trace.2.2.2 ∈ qG := qG_t4 37 rfl rfl
theorem kx_Qu_trace : Cond.instanceMethod M_Qu_trace.1 ∈ qG := qG_t4 35 rfl rfl
theorem kv_Qu_trace : Cond.selects M_Qu_trace.1.cls M_Qu_trace.1 M_Qu_trace.1 ∈ qG := qG_t4 36 rfl rfl
theorem kd_Qu_taken : Cond.code M_Qu_taken.1 M_Qu_taken.2.1 M_Qu_taken.2.2.1 M_Qu_taken.2.2.2 ∈ qG := qG_t4 45 rfl rfl
theorem kx_Qu_taken : Cond.instanceMethod M_Qu_taken.1 ∈ qG := qG_t4 43 rfl rfl
theorem kv_Qu_taken : Cond.selects M_Qu_taken.1.cls M_Qu_taken.1 M_Qu_taken.1 ∈ qG := qG_t4 44 rfl rfl
theorem kd_Qu_count : Cond.code M_Qu_count.1 M_Qu_count.2.1 M_Qu_count.2.2.1 M_Qu_count.2.2.2 ∈ qG := qG_t4 54 rfl rfl
theorem kx_Qu_count : Cond.instanceMethod M_Qu_count.1 ∈ qG := qG_t4 52 rfl rfl
theorem kv_Qu_count : Cond.selects M_Qu_count.1.cls M_Qu_count.1 M_Qu_count.1 ∈ qG := qG_t4 53 rfl rfl
theorem kd_Qu_tape : Cond.code M_Qu_tape.1 M_Qu_tape.2.1 M_Qu_tape.2.2.1 M_Qu_tape.2.2.2 ∈ qG := qG_t4 58 rfl rfl
theorem kx_Qu_tape : Cond.instanceMethod M_Qu_tape.1 ∈ qG := qG_t4 56 rfl rfl
theorem kv_Qu_tape : Cond.selects M_Qu_tape.1.cls M_Qu_tape.1 M_Qu_tape.1 ∈ qG := qG_t4 57 rfl rfl
theorem kd_Qu_item : Cond.code M_Qu_item.1 M_Qu_item.2.1 M_Qu_item.2.2.1 M_Qu_item.2.2.2 ∈ qG := qG_t4 66 rfl rfl
theorem kx_Qu_item : Cond.instanceMethod M_Qu_item.1 ∈ qG := qG_t4 64 rfl rfl
theorem kv_Qu_item : Cond.selects M_Qu_item.1.cls M_Qu_item.1 M_Qu_item.1 ∈ qG := qG_t4 65 rfl rfl
theorem kd_Qu_read : Cond.code M_Qu_read.1 M_Qu_read.2.1 M_Qu_read.2.2.1 M_Qu_read.2.2.2 ∈ qG := qG_t4 75 rfl rfl
theorem kx_Qu_read : Cond.instanceMethod M_Qu_read.1 ∈ qG := qG_t4 73 rfl rfl
theorem kv_Qu_read : Cond.selects M_Qu_read.1.cls M_Qu_read.1 M_Qu_read.1 ∈ qG := qG_t4 74 rfl rfl
theorem kd_Qu_shift : Cond.code M_Qu_shift.1 M_Qu_shift.2.1 M_Qu_shift.2.2.1 M_Qu_shift.2.2.2 ∈ qG := qG_t4 79 rfl rfl
theorem kx_Qu_shift : Cond.instanceMethod M_Qu_shift.1 ∈ qG := qG_t4 77 rfl rfl
theorem kv_Qu_shift : Cond.selects M_Qu_shift.1.cls M_Qu_shift.1 M_Qu_shift.1 ∈ qG := qG_t4 78 rfl rfl
theorem kd_Qu_within : Cond.code M_Qu_within.1 M_Qu_within.2.1 M_Qu_within.2.2.1 M_Qu_within.2.2.2 ∈ qG := qG_t2 73 rfl rfl
theorem ks_Qu_within : Cond.static M_Qu_within.1 ∈ qG := qG_t2 72 rfl rfl
theorem kd_Qu_fraction : Cond.code M_Qu_fraction.1 M_Qu_fraction.2.1 M_Qu_fraction.2.2.1 M_Qu_fraction.2.2.2 ∈ qG := qG_t3 184 rfl rfl
theorem ks_Qu_fraction : Cond.static M_Qu_fraction.1 ∈ qG := qG_t3 183 rfl rfl
theorem kd_Qu_commonDivisor : Cond.code M_Qu_commonDivisor.1 M_Qu_commonDivisor.2.1 M_Qu_commonDivisor.2.2.1 M_Qu_commonDivisor.2.2.2 ∈ qG := qG_t3 188 rfl rfl
theorem ks_Qu_commonDivisor : Cond.static M_Qu_commonDivisor.1 ∈ qG := qG_t3 187 rfl rfl
theorem kd_Mo_init : Cond.code M_Mo_init.1 M_Mo_init.2.1 M_Mo_init.2.2.1 M_Mo_init.2.2.2 ∈ qG := qG_t4 89 rfl rfl
theorem kx_Mo_init : Cond.instanceMethod M_Mo_init.1 ∈ qG := qG_t4 88 rfl rfl
theorem kd_Mo_in : Cond.code M_Mo_in.1 M_Mo_in.2.1 M_Mo_in.2.2.1 M_Mo_in.2.2.2 ∈ qG := qG_t5 91 rfl rfl
theorem kx_Mo_in : Cond.instanceMethod M_Mo_in.1 ∈ qG := qG_t5 90 rfl rfl
theorem kv_Mo_in : Cond.selects M_Mo_in.1.cls M_Mo_in.1 M_Mo_in.1 ∈ qG := qG_s 17 rfl rfl
theorem kd_Mo_has : Cond.code M_Mo_has.1 M_Mo_has.2.1 M_Mo_has.2.2.1 M_Mo_has.2.2.2 ∈ qG := qG_t5 119 rfl rfl
theorem kx_Mo_has : Cond.instanceMethod M_Mo_has.1 ∈ qG := qG_t5 118 rfl rfl
theorem kv_Mo_has : Cond.selects M_Mo_has.1.cls M_Mo_has.1 M_Mo_has.1 ∈ qG := qG_s 23 rfl rfl
theorem kd_Mo_least : Cond.code M_Mo_least.1 M_Mo_least.2.1 M_Mo_least.2.2.1 M_Mo_least.2.2.2 ∈ qG := qG_t6 19 rfl rfl
theorem kx_Mo_least : Cond.instanceMethod M_Mo_least.1 ∈ qG := qG_t6 18 rfl rfl
theorem kv_Mo_least : Cond.selects M_Mo_least.1.cls M_Mo_least.1 M_Mo_least.1 ∈ qG := qG_s 50 rfl rfl
theorem kd_Mo_apart : Cond.code M_Mo_apart.1 M_Mo_apart.2.1 M_Mo_apart.2.2.1 M_Mo_apart.2.2.2 ∈ qG := qG_t6 81 rfl rfl
theorem kx_Mo_apart : Cond.instanceMethod M_Mo_apart.1 ∈ qG := qG_t6 80 rfl rfl
theorem kv_Mo_apart : Cond.selects M_Mo_apart.1.cls M_Mo_apart.1 M_Mo_apart.1 ∈ qG := qG_s 60 rfl rfl
theorem kd_Mo_bits : Cond.code M_Mo_bits.1 M_Mo_bits.2.1 M_Mo_bits.2.2.1 M_Mo_bits.2.2.2 ∈ qG := qG_t5 115 rfl rfl
theorem kx_Mo_bits : Cond.instanceMethod M_Mo_bits.1 ∈ qG := qG_t5 114 rfl rfl
theorem kv_Mo_bits : Cond.selects M_Mo_bits.1.cls M_Mo_bits.1 M_Mo_bits.1 ∈ qG := qG_s 22 rfl rfl
theorem kd_Mo_isThing : Cond.code M_Mo_isThing.1 M_Mo_isThing.2.1 M_Mo_isThing.2.2.1 M_Mo_isThing.2.2.2 ∈ qG := qG_t5 103 rfl rfl
theorem kx_Mo_isThing : Cond.instanceMethod M_Mo_isThing.1 ∈ qG := qG_t5 102 rfl rfl
theorem kv_Mo_isThing : Cond.selects M_Mo_isThing.1.cls M_Mo_isThing.1 M_Mo_isThing.1 ∈ qG := qG_s 19 rfl rfl
theorem kd_Mo_isWeight : Cond.code M_Mo_isWeight.1 M_Mo_isWeight.2.1 M_Mo_isWeight.2.2.1 M_Mo_isWeight.2.2.2 ∈ qG := qG_t5 95 rfl rfl
theorem kx_Mo_isWeight : Cond.instanceMethod M_Mo_isWeight.1 ∈ qG := qG_t5 94 rfl rfl
theorem kv_Mo_isWeight : Cond.selects M_Mo_isWeight.1.cls M_Mo_isWeight.1 M_Mo_isWeight.1 ∈ qG := qG_s 18 rfl rfl
theorem kd_Mo_isMinutes : Cond.code M_Mo_isMinutes.1 M_Mo_isMinutes.2.1 M_Mo_isMinutes.2.2.1 M_Mo_isMinutes.2.2.2 ∈ qG := qG_t5 215 rfl rfl
theorem kx_Mo_isMinutes : Cond.instanceMethod M_Mo_isMinutes.1 ∈ qG := qG_t5 214 rfl rfl
theorem kv_Mo_isMinutes : Cond.selects M_Mo_isMinutes.1.cls M_Mo_isMinutes.1 M_Mo_isMinutes.1 ∈ qG := qG_s 39 rfl rfl
theorem kd_Mo_thing : Cond.code M_Mo_thing.1 M_Mo_thing.2.1 M_Mo_thing.2.2.1 M_Mo_thing.2.2.2 ∈ qG := qG_t5 87 rfl rfl
theorem kx_Mo_thing : Cond.instanceMethod M_Mo_thing.1 ∈ qG := qG_t5 85 rfl rfl
theorem kv_Mo_thing : Cond.selects M_Mo_thing.1.cls M_Mo_thing.1 M_Mo_thing.1 ∈ qG := qG_t5 86 rfl rfl
theorem kd_Mo_setOf : Cond.code M_Mo_setOf.1 M_Mo_setOf.2.1 M_Mo_setOf.2.2.1 M_Mo_setOf.2.2.2 ∈ qG := qG_t5 111 rfl rfl
theorem kx_Mo_setOf : Cond.instanceMethod M_Mo_setOf.1 ∈ qG := qG_t5 110 rfl rfl
theorem kv_Mo_setOf : Cond.selects M_Mo_setOf.1.cls M_Mo_setOf.1 M_Mo_setOf.1 ∈ qG := qG_s 21 rfl rfl
theorem kd_Mo_puts : Cond.code M_Mo_puts.1 M_Mo_puts.2.1 M_Mo_puts.2.2.1 M_Mo_puts.2.2.2 ∈ qG := qG_t5 107 rfl rfl
theorem kx_Mo_puts : Cond.instanceMethod M_Mo_puts.1 ∈ qG := qG_t5 106 rfl rfl
theorem kv_Mo_puts : Cond.selects M_Mo_puts.1.cls M_Mo_puts.1 M_Mo_puts.1 ∈ qG := qG_s 20 rfl rfl
theorem kd_Mo_put : Cond.code M_Mo_put.1 M_Mo_put.2.1 M_Mo_put.2.2.1 M_Mo_put.2.2.2 ∈ qG := qG_t5 99 rfl rfl
theorem kx_Mo_put : Cond.instanceMethod M_Mo_put.1 ∈ qG := qG_t5 97 rfl rfl
theorem kv_Mo_put : Cond.selects M_Mo_put.1.cls M_Mo_put.1 M_Mo_put.1 ∈ qG := qG_t5 98 rfl rfl
theorem kd_Mo_says : Cond.code M_Mo_says.1 M_Mo_says.2.1 M_Mo_says.2.2.1 M_Mo_says.2.2.2 ∈ qG := qG_t5 127 rfl rfl
theorem kx_Mo_says : Cond.instanceMethod M_Mo_says.1 ∈ qG := qG_t5 126 rfl rfl
theorem kv_Mo_says : Cond.selects M_Mo_says.1.cls M_Mo_says.1 M_Mo_says.1 ∈ qG := qG_s 24 rfl rfl
theorem kd_Mo_say : Cond.code M_Mo_say.1 M_Mo_say.2.1 M_Mo_say.2.2.1 M_Mo_say.2.2.2 ∈ qG := qG_t5 123 rfl rfl
theorem kx_Mo_say : Cond.instanceMethod M_Mo_say.1 ∈ qG := qG_t5 121 rfl rfl
theorem kv_Mo_say : Cond.selects M_Mo_say.1.cls M_Mo_say.1 M_Mo_say.1 ∈ qG := qG_t5 122 rfl rfl
theorem kd_Mo_weigh : Cond.code M_Mo_weigh.1 M_Mo_weigh.2.1 M_Mo_weigh.2.2.1 M_Mo_weigh.2.2.2 ∈ qG := qG_t5 131 rfl rfl
theorem kx_Mo_weigh : Cond.instanceMethod M_Mo_weigh.1 ∈ qG := qG_t5 129 rfl rfl
theorem kv_Mo_weigh : Cond.selects M_Mo_weigh.1.cls M_Mo_weigh.1 M_Mo_weigh.1 ∈ qG := qG_t5 130 rfl rfl
theorem kd_Mo_fire : Cond.code M_Mo_fire.1 M_Mo_fire.2.1 M_Mo_fire.2.2.1 M_Mo_fire.2.2.2 ∈ qG := qG_t5 135 rfl rfl
theorem kx_Mo_fire : Cond.instanceMethod M_Mo_fire.1 ∈ qG := qG_t5 133 rfl rfl
theorem kv_Mo_fire : Cond.selects M_Mo_fire.1.cls M_Mo_fire.1 M_Mo_fire.1 ∈ qG := qG_t5 134 rfl rfl
theorem kd_Mo_tip : Cond.code M_Mo_tip.1 M_Mo_tip.2.1 M_Mo_tip.2.2.1 M_Mo_tip.2.2.2 ∈ qG := qG_t5 139 rfl rfl
theorem kx_Mo_tip : Cond.instanceMethod M_Mo_tip.1 ∈ qG := qG_t5 137 rfl rfl
theorem kv_Mo_tip : Cond.selects M_Mo_tip.1.cls M_Mo_tip.1 M_Mo_tip.1 ∈ qG := qG_t5 138 rfl rfl
theorem kd_Mo_row : Cond.code M_Mo_row.1 M_Mo_row.2.1 M_Mo_row.2.2.1 M_Mo_row.2.2.2 ∈ qG := qG_t5 143 rfl rfl
theorem kx_Mo_row : Cond.instanceMethod M_Mo_row.1 ∈ qG := qG_t5 141 rfl rfl
theorem kv_Mo_row : Cond.selects M_Mo_row.1.cls M_Mo_row.1 M_Mo_row.1 ∈ qG := qG_t5 142 rfl rfl
theorem kd_Mo_feed : Cond.code M_Mo_feed.1 M_Mo_feed.2.1 M_Mo_feed.2.2.1 M_Mo_feed.2.2.2 ∈ qG := qG_t5 147 rfl rfl
theorem kx_Mo_feed : Cond.instanceMethod M_Mo_feed.1 ∈ qG := qG_t5 145 rfl rfl
theorem kv_Mo_feed : Cond.selects M_Mo_feed.1.cls M_Mo_feed.1 M_Mo_feed.1 ∈ qG := qG_t5 146 rfl rfl
theorem kd_Mo_next : Cond.code M_Mo_next.1 M_Mo_next.2.1 M_Mo_next.2.2.1 M_Mo_next.2.2.2 ∈ qG := qG_t5 167 rfl rfl
theorem kx_Mo_next : Cond.instanceMethod M_Mo_next.1 ∈ qG := qG_t5 166 rfl rfl
theorem kv_Mo_next : Cond.selects M_Mo_next.1.cls M_Mo_next.1 M_Mo_next.1 ∈ qG := qG_s 28 rfl rfl
theorem kd_Mo_takes : Cond.code M_Mo_takes.1 M_Mo_takes.2.1 M_Mo_takes.2.2.1 M_Mo_takes.2.2.2 ∈ qG := qG_t5 175 rfl rfl
theorem kx_Mo_takes : Cond.instanceMethod M_Mo_takes.1 ∈ qG := qG_t5 174 rfl rfl
theorem kv_Mo_takes : Cond.selects M_Mo_takes.1.cls M_Mo_takes.1 M_Mo_takes.1 ∈ qG := qG_s 30 rfl rfl
theorem kd_Mo_takesWord : Cond.code M_Mo_takesWord.1 M_Mo_takesWord.2.1 M_Mo_takesWord.2.2.1 M_Mo_takesWord.2.2.2 ∈ qG := qG_t5 171 rfl rfl
theorem kx_Mo_takesWord : Cond.instanceMethod M_Mo_takesWord.1 ∈ qG := qG_t5 170 rfl rfl
theorem kv_Mo_takesWord : Cond.selects M_Mo_takesWord.1.cls M_Mo_takesWord.1 M_Mo_takesWord.1 ∈ qG := qG_s 29 rfl rfl
theorem kd_Mo_isDigit : Cond.code M_Mo_isDigit.1 M_Mo_isDigit.2.1 M_Mo_isDigit.2.2.1 M_Mo_isDigit.2.2.2 ∈ qG := qG_t5 183 rfl rfl
theorem kx_Mo_isDigit : Cond.instanceMethod M_Mo_isDigit.1 ∈ qG := qG_t5 182 rfl rfl
theorem kv_Mo_isDigit : Cond.selects M_Mo_isDigit.1.cls M_Mo_isDigit.1 M_Mo_isDigit.1 ∈ qG := qG_s 32 rfl rfl
theorem kd_Mo_takesNumber : Cond.code M_Mo_takesNumber.1 M_Mo_takesNumber.2.1 M_Mo_takesNumber.2.2.1 M_Mo_takesNumber.2.2.2 ∈ qG := qG_t5 179 rfl rfl
theorem kx_Mo_takesNumber : Cond.instanceMethod M_Mo_takesNumber.1 ∈ qG := qG_t5 178 rfl rfl
theorem kv_Mo_takesNumber : Cond.selects M_Mo_takesNumber.1.cls M_Mo_takesNumber.1 M_Mo_takesNumber.1 ∈ qG := qG_s 31 rfl rfl
theorem kd_Mo_emits : Cond.code M_Mo_emits.1 M_Mo_emits.2.1 M_Mo_emits.2.2.1 M_Mo_emits.2.2.2 ∈ qG := qG_t5 199 rfl rfl
theorem kx_Mo_emits : Cond.instanceMethod M_Mo_emits.1 ∈ qG := qG_t5 198 rfl rfl
theorem kv_Mo_emits : Cond.selects M_Mo_emits.1.cls M_Mo_emits.1 M_Mo_emits.1 ∈ qG := qG_s 36 rfl rfl
theorem kd_Mo_whole : Cond.code M_Mo_whole.1 M_Mo_whole.2.1 M_Mo_whole.2.2.1 M_Mo_whole.2.2.2 ∈ qG := qG_t5 203 rfl rfl
theorem kx_Mo_whole : Cond.instanceMethod M_Mo_whole.1 ∈ qG := qG_t5 202 rfl rfl
theorem kv_Mo_whole : Cond.selects M_Mo_whole.1.cls M_Mo_whole.1 M_Mo_whole.1 ∈ qG := qG_s 37 rfl rfl
theorem kd_Mo_settle : Cond.code M_Mo_settle.1 M_Mo_settle.2.1 M_Mo_settle.2.2.1 M_Mo_settle.2.2.2 ∈ qG := qG_t5 207 rfl rfl
theorem kx_Mo_settle : Cond.instanceMethod M_Mo_settle.1 ∈ qG := qG_t5 206 rfl rfl
theorem kv_Mo_settle : Cond.selects M_Mo_settle.1.cls M_Mo_settle.1 M_Mo_settle.1 ∈ qG := qG_s 38 rfl rfl
theorem kd_Mo_place : Cond.code M_Mo_place.1 M_Mo_place.2.1 M_Mo_place.2.2.1 M_Mo_place.2.2.2 ∈ qG := qG_t5 195 rfl rfl
theorem kx_Mo_place : Cond.instanceMethod M_Mo_place.1 ∈ qG := qG_t5 194 rfl rfl
theorem kv_Mo_place : Cond.selects M_Mo_place.1.cls M_Mo_place.1 M_Mo_place.1 ∈ qG := qG_s 35 rfl rfl
theorem kd_Mo_takesTest : Cond.code M_Mo_takesTest.1 M_Mo_takesTest.2.1 M_Mo_takesTest.2.2.1 M_Mo_takesTest.2.2.2 ∈ qG := qG_t5 191 rfl rfl
theorem kx_Mo_takesTest : Cond.instanceMethod M_Mo_takesTest.1 ∈ qG := qG_t5 190 rfl rfl
theorem kv_Mo_takesTest : Cond.selects M_Mo_takesTest.1.cls M_Mo_takesTest.1 M_Mo_takesTest.1 ∈ qG := qG_s 34 rfl rfl
theorem kd_Mo_takesE : Cond.code M_Mo_takesE.1 M_Mo_takesE.2.1 M_Mo_takesE.2.2.1 M_Mo_takesE.2.2.2 ∈ qG := qG_t5 187 rfl rfl
theorem kx_Mo_takesE : Cond.instanceMethod M_Mo_takesE.1 ∈ qG := qG_t5 186 rfl rfl
theorem kv_Mo_takesE : Cond.selects M_Mo_takesE.1.cls M_Mo_takesE.1 M_Mo_takesE.1 ∈ qG := qG_s 33 rfl rfl
theorem kd_Mo_takesHead : Cond.code M_Mo_takesHead.1 M_Mo_takesHead.2.1 M_Mo_takesHead.2.2.1 M_Mo_takesHead.2.2.2 ∈ qG := qG_t5 163 rfl rfl
theorem kx_Mo_takesHead : Cond.instanceMethod M_Mo_takesHead.1 ∈ qG := qG_t5 162 rfl rfl
theorem kv_Mo_takesHead : Cond.selects M_Mo_takesHead.1.cls M_Mo_takesHead.1 M_Mo_takesHead.1 ∈ qG := qG_s 27 rfl rfl
theorem kd_Mo_takesClause : Cond.code M_Mo_takesClause.1 M_Mo_takesClause.2.1 M_Mo_takesClause.2.2.1 M_Mo_takesClause.2.2.2 ∈ qG := qG_t5 159 rfl rfl
theorem kx_Mo_takesClause : Cond.instanceMethod M_Mo_takesClause.1 ∈ qG := qG_t5 158 rfl rfl
theorem kv_Mo_takesClause : Cond.selects M_Mo_takesClause.1.cls M_Mo_takesClause.1 M_Mo_takesClause.1 ∈ qG := qG_s 26 rfl rfl
theorem kd_Mo_goesText : Cond.code M_Mo_goesText.1 M_Mo_goesText.2.1 M_Mo_goesText.2.2.1 M_Mo_goesText.2.2.2 ∈ qG := qG_t5 155 rfl rfl
theorem kx_Mo_goesText : Cond.instanceMethod M_Mo_goesText.1 ∈ qG := qG_t5 154 rfl rfl
theorem kv_Mo_goesText : Cond.selects M_Mo_goesText.1.cls M_Mo_goesText.1 M_Mo_goesText.1 ∈ qG := qG_s 25 rfl rfl
theorem kd_Mo_kitchen : Cond.code M_Mo_kitchen.1 M_Mo_kitchen.2.1 M_Mo_kitchen.2.2.1 M_Mo_kitchen.2.2.2 ∈ qG := qG_t5 151 rfl rfl
theorem kx_Mo_kitchen : Cond.instanceMethod M_Mo_kitchen.1 ∈ qG := qG_t5 149 rfl rfl
theorem kv_Mo_kitchen : Cond.selects M_Mo_kitchen.1.cls M_Mo_kitchen.1 M_Mo_kitchen.1 ∈ qG := qG_t5 150 rfl rfl
theorem kd_Mo_begin : Cond.code M_Mo_begin.1 M_Mo_begin.2.1 M_Mo_begin.2.2.1 M_Mo_begin.2.2.2 ∈ qG := qG_t5 239 rfl rfl
theorem kx_Mo_begin : Cond.instanceMethod M_Mo_begin.1 ∈ qG := qG_t5 238 rfl rfl
theorem kv_Mo_begin : Cond.selects M_Mo_begin.1.cls M_Mo_begin.1 M_Mo_begin.1 ∈ qG := qG_s 45 rfl rfl
theorem kd_Mo_behind : Cond.code M_Mo_behind.1 M_Mo_behind.2.1 M_Mo_behind.2.2.1 M_Mo_behind.2.2.2 ∈ qG := qG_t6 3 rfl rfl
theorem kx_Mo_behind : Cond.instanceMethod M_Mo_behind.1 ∈ qG := qG_t6 2 rfl rfl
theorem kv_Mo_behind : Cond.selects M_Mo_behind.1.cls M_Mo_behind.1 M_Mo_behind.1 ∈ qG := qG_s 46 rfl rfl
theorem kd_Mo_need : Cond.code M_Mo_need.1 M_Mo_need.2.1 M_Mo_need.2.2.1 M_Mo_need.2.2.2 ∈ qG := qG_t6 24 rfl rfl
theorem kx_Mo_need : Cond.instanceMethod M_Mo_need.1 ∈ qG := qG_t6 23 rfl rfl
theorem kv_Mo_need : Cond.selects M_Mo_need.1.cls M_Mo_need.1 M_Mo_need.1 ∈ qG := qG_s 51 rfl rfl
theorem kd_Mo_factOf : Cond.code M_Mo_factOf.1 M_Mo_factOf.2.1 M_Mo_factOf.2.2.1 M_Mo_factOf.2.2.2 ∈ qG := qG_t6 11 rfl rfl
theorem kx_Mo_factOf : Cond.instanceMethod M_Mo_factOf.1 ∈ qG := qG_t6 10 rfl rfl
theorem kv_Mo_factOf : Cond.selects M_Mo_factOf.1.cls M_Mo_factOf.1 M_Mo_factOf.1 ∈ qG := qG_s 48 rfl rfl
theorem kd_Mo_holds : Cond.code M_Mo_holds.1 M_Mo_holds.2.1 M_Mo_holds.2.2.1 M_Mo_holds.2.2.2 ∈ qG := qG_t6 7 rfl rfl
theorem kx_Mo_holds : Cond.instanceMethod M_Mo_holds.1 ∈ qG := qG_t6 6 rfl rfl
theorem kv_Mo_holds : Cond.selects M_Mo_holds.1.cls M_Mo_holds.1 M_Mo_holds.1 ∈ qG := qG_s 47 rfl rfl
theorem kd_Mo_sum : Cond.code M_Mo_sum.1 M_Mo_sum.2.1 M_Mo_sum.2.2.1 M_Mo_sum.2.2.2 ∈ qG := qG_t5 235 rfl rfl
theorem kx_Mo_sum : Cond.instanceMethod M_Mo_sum.1 ∈ qG := qG_t5 234 rfl rfl
theorem kv_Mo_sum : Cond.selects M_Mo_sum.1.cls M_Mo_sum.1 M_Mo_sum.1 ∈ qG := qG_s 44 rfl rfl
theorem kd_Mo_isSaidBeside : Cond.code M_Mo_isSaidBeside.1 M_Mo_isSaidBeside.2.1 M_Mo_isSaidBeside.2.2.1 M_Mo_isSaidBeside.2.2.2 ∈ qG := qG_t6 15 rfl rfl
theorem kx_Mo_isSaidBeside : Cond.instanceMethod M_Mo_isSaidBeside.1 ∈ qG := qG_t6 14 rfl rfl
theorem kv_Mo_isSaidBeside : Cond.selects M_Mo_isSaidBeside.1.cls M_Mo_isSaidBeside.1 M_Mo_isSaidBeside.1 ∈ qG := qG_s 49 rfl rfl
theorem kd_Mo_gives : Cond.code M_Mo_gives.1 M_Mo_gives.2.1 M_Mo_gives.2.2.1 M_Mo_gives.2.2.2 ∈ qG := qG_t5 231 rfl rfl
theorem kx_Mo_gives : Cond.instanceMethod M_Mo_gives.1 ∈ qG := qG_t5 230 rfl rfl
theorem kv_Mo_gives : Cond.selects M_Mo_gives.1.cls M_Mo_gives.1 M_Mo_gives.1 ∈ qG := qG_s 43 rfl rfl
theorem kd_Mo_allGive : Cond.code M_Mo_allGive.1 M_Mo_allGive.2.1 M_Mo_allGive.2.2.1 M_Mo_allGive.2.2.2 ∈ qG := qG_t5 227 rfl rfl
theorem kx_Mo_allGive : Cond.instanceMethod M_Mo_allGive.1 ∈ qG := qG_t5 226 rfl rfl
theorem kv_Mo_allGive : Cond.selects M_Mo_allGive.1.cls M_Mo_allGive.1 M_Mo_allGive.1 ∈ qG := qG_s 42 rfl rfl
theorem kd_Mo_goMinute : Cond.code M_Mo_goMinute.1 M_Mo_goMinute.2.1 M_Mo_goMinute.2.2.1 M_Mo_goMinute.2.2.2 ∈ qG := qG_t5 223 rfl rfl
theorem kx_Mo_goMinute : Cond.instanceMethod M_Mo_goMinute.1 ∈ qG := qG_t5 222 rfl rfl
theorem kv_Mo_goMinute : Cond.selects M_Mo_goMinute.1.cls M_Mo_goMinute.1 M_Mo_goMinute.1 ∈ qG := qG_s 41 rfl rfl
theorem kd_Mo_goMinutes : Cond.code M_Mo_goMinutes.1 M_Mo_goMinutes.2.1 M_Mo_goMinutes.2.2.1 M_Mo_goMinutes.2.2.2 ∈ qG := qG_t5 219 rfl rfl
theorem kx_Mo_goMinutes : Cond.instanceMethod M_Mo_goMinutes.1 ∈ qG := qG_t5 218 rfl rfl
theorem kv_Mo_goMinutes : Cond.selects M_Mo_goMinutes.1.cls M_Mo_goMinutes.1 M_Mo_goMinutes.1 ∈ qG := qG_s 40 rfl rfl
theorem kd_Mo_pass : Cond.code M_Mo_pass.1 M_Mo_pass.2.1 M_Mo_pass.2.2.1 M_Mo_pass.2.2.2 ∈ qG := qG_t5 211 rfl rfl
theorem kx_Mo_pass : Cond.instanceMethod M_Mo_pass.1 ∈ qG := qG_t5 209 rfl rfl
theorem kv_Mo_pass : Cond.selects M_Mo_pass.1.cls M_Mo_pass.1 M_Mo_pass.1 ∈ qG := qG_t5 210 rfl rfl
theorem kd_Mo_save : Cond.code M_Mo_save.1 M_Mo_save.2.1 M_Mo_save.2.2.1 M_Mo_save.2.2.2 ∈ qG := qG_t6 40 rfl rfl
theorem kx_Mo_save : Cond.instanceMethod M_Mo_save.1 ∈ qG := qG_t6 39 rfl rfl
theorem kv_Mo_save : Cond.selects M_Mo_save.1.cls M_Mo_save.1 M_Mo_save.1 ∈ qG := qG_s 54 rfl rfl
theorem kd_Mo_putBack : Cond.code M_Mo_putBack.1 M_Mo_putBack.2.1 M_Mo_putBack.2.2.1 M_Mo_putBack.2.2.2 ∈ qG := qG_t6 45 rfl rfl
theorem kx_Mo_putBack : Cond.instanceMethod M_Mo_putBack.1 ∈ qG := qG_t6 44 rfl rfl
theorem kv_Mo_putBack : Cond.selects M_Mo_putBack.1.cls M_Mo_putBack.1 M_Mo_putBack.1 ∈ qG := qG_s 55 rfl rfl
theorem kd_Mo_setsIf : Cond.code M_Mo_setsIf.1 M_Mo_setsIf.2.1 M_Mo_setsIf.2.2.1 M_Mo_setsIf.2.2.2 ∈ qG := qG_t6 36 rfl rfl
theorem kx_Mo_setsIf : Cond.instanceMethod M_Mo_setsIf.1 ∈ qG := qG_t6 35 rfl rfl
theorem kv_Mo_setsIf : Cond.selects M_Mo_setsIf.1.cls M_Mo_setsIf.1 M_Mo_setsIf.1 ∈ qG := qG_s 53 rfl rfl
theorem kd_Mo_sets : Cond.code M_Mo_sets.1 M_Mo_sets.2.1 M_Mo_sets.2.2.1 M_Mo_sets.2.2.2 ∈ qG := qG_t6 32 rfl rfl
theorem kx_Mo_sets : Cond.instanceMethod M_Mo_sets.1 ∈ qG := qG_t6 31 rfl rfl
theorem kv_Mo_sets : Cond.selects M_Mo_sets.1.cls M_Mo_sets.1 M_Mo_sets.1 ∈ qG := qG_s 52 rfl rfl
theorem kd_Mo_wordOf : Cond.code M_Mo_wordOf.1 M_Mo_wordOf.2.1 M_Mo_wordOf.2.2.1 M_Mo_wordOf.2.2.2 ∈ qG := qG_t6 49 rfl rfl
theorem kx_Mo_wordOf : Cond.instanceMethod M_Mo_wordOf.1 ∈ qG := qG_t6 48 rfl rfl
theorem kv_Mo_wordOf : Cond.selects M_Mo_wordOf.1.cls M_Mo_wordOf.1 M_Mo_wordOf.1 ∈ qG := qG_s 56 rfl rfl
theorem kd_Mo_told : Cond.code M_Mo_told.1 M_Mo_told.2.1 M_Mo_told.2.2.1 M_Mo_told.2.2.2 ∈ qG := qG_t6 28 rfl rfl
theorem kx_Mo_told : Cond.instanceMethod M_Mo_told.1 ∈ qG := qG_t6 26 rfl rfl
theorem kv_Mo_told : Cond.selects M_Mo_told.1.cls M_Mo_told.1 M_Mo_told.1 ∈ qG := qG_t6 27 rfl rfl
theorem kd_Mo_on : Cond.code M_Mo_on.1 M_Mo_on.2.1 M_Mo_on.2.2.1 M_Mo_on.2.2.2 ∈ qG := qG_t6 53 rfl rfl
theorem kx_Mo_on : Cond.instanceMethod M_Mo_on.1 ∈ qG := qG_t6 51 rfl rfl
theorem kv_Mo_on : Cond.selects M_Mo_on.1.cls M_Mo_on.1 M_Mo_on.1 ∈ qG := qG_t6 52 rfl rfl
theorem kd_Mo_layLine : Cond.code M_Mo_layLine.1 M_Mo_layLine.2.1 M_Mo_layLine.2.2.1 M_Mo_layLine.2.2.2 ∈ qG := qG_t6 61 rfl rfl
theorem kx_Mo_layLine : Cond.instanceMethod M_Mo_layLine.1 ∈ qG := qG_t6 60 rfl rfl
theorem kv_Mo_layLine : Cond.selects M_Mo_layLine.1.cls M_Mo_layLine.1 M_Mo_layLine.1 ∈ qG := qG_s 57 rfl rfl
theorem kd_Mo_colourBy : Cond.code M_Mo_colourBy.1 M_Mo_colourBy.2.1 M_Mo_colourBy.2.2.1 M_Mo_colourBy.2.2.2 ∈ qG := qG_t6 65 rfl rfl
theorem kx_Mo_colourBy : Cond.instanceMethod M_Mo_colourBy.1 ∈ qG := qG_t6 64 rfl rfl
theorem kv_Mo_colourBy : Cond.selects M_Mo_colourBy.1.cls M_Mo_colourBy.1 M_Mo_colourBy.1 ∈ qG := qG_s 58 rfl rfl
theorem kd_Mo_best : Cond.code M_Mo_best.1 M_Mo_best.2.1 M_Mo_best.2.2.1 M_Mo_best.2.2.2 ∈ qG := qG_t6 57 rfl rfl
theorem kx_Mo_best : Cond.instanceMethod M_Mo_best.1 ∈ qG := qG_t6 55 rfl rfl
theorem kv_Mo_best : Cond.selects M_Mo_best.1.cls M_Mo_best.1 M_Mo_best.1 ∈ qG := qG_t6 56 rfl rfl
theorem kd_Mo_isSetBy : Cond.code M_Mo_isSetBy.1 M_Mo_isSetBy.2.1 M_Mo_isSetBy.2.2.1 M_Mo_isSetBy.2.2.2 ∈ qG := qG_t6 73 rfl rfl
theorem kx_Mo_isSetBy : Cond.instanceMethod M_Mo_isSetBy.1 ∈ qG := qG_t6 72 rfl rfl
theorem kv_Mo_isSetBy : Cond.selects M_Mo_isSetBy.1.cls M_Mo_isSetBy.1 M_Mo_isSetBy.1 ∈ qG := qG_s 59 rfl rfl
theorem kd_Mo_enough : Cond.code M_Mo_enough.1 M_Mo_enough.2.1 M_Mo_enough.2.2.1 M_Mo_enough.2.2.2 ∈ qG := qG_t6 69 rfl rfl
theorem kx_Mo_enough : Cond.instanceMethod M_Mo_enough.1 ∈ qG := qG_t6 67 rfl rfl
theorem kv_Mo_enough : Cond.selects M_Mo_enough.1.cls M_Mo_enough.1 M_Mo_enough.1 ∈ qG := qG_t6 68 rfl rfl
theorem kd_Mo_flame : Cond.code M_Mo_flame.1 M_Mo_flame.2.1 M_Mo_flame.2.2.1 M_Mo_flame.2.2.2 ∈ qG := qG_t6 77 rfl rfl
theorem kx_Mo_flame : Cond.instanceMethod M_Mo_flame.1 ∈ qG := qG_t6 75 rfl rfl
theorem kv_Mo_flame : Cond.selects M_Mo_flame.1.cls M_Mo_flame.1 M_Mo_flame.1 ∈ qG := qG_t6 76 rfl rfl
theorem kd_Mo_see : Cond.code M_Mo_see.1 M_Mo_see.2.1 M_Mo_see.2.2.1 M_Mo_see.2.2.2 ∈ qG := qG_t6 85 rfl rfl
theorem kx_Mo_see : Cond.instanceMethod M_Mo_see.1 ∈ qG := qG_t6 83 rfl rfl
theorem kv_Mo_see : Cond.selects M_Mo_see.1.cls M_Mo_see.1 M_Mo_see.1 ∈ qG := qG_t6 84 rfl rfl
theorem kd_Mo_isSeen : Cond.code M_Mo_isSeen.1 M_Mo_isSeen.2.1 M_Mo_isSeen.2.2.1 M_Mo_isSeen.2.2.2 ∈ qG := qG_t6 97 rfl rfl
theorem kx_Mo_isSeen : Cond.instanceMethod M_Mo_isSeen.1 ∈ qG := qG_t6 96 rfl rfl
theorem kv_Mo_isSeen : Cond.selects M_Mo_isSeen.1.cls M_Mo_isSeen.1 M_Mo_isSeen.1 ∈ qG := qG_s 62 rfl rfl
theorem kd_Mo_weights : Cond.code M_Mo_weights.1 M_Mo_weights.2.1 M_Mo_weights.2.2.1 M_Mo_weights.2.2.2 ∈ qG := qG_t6 93 rfl rfl
theorem kx_Mo_weights : Cond.instanceMethod M_Mo_weights.1 ∈ qG := qG_t6 92 rfl rfl
theorem kv_Mo_weights : Cond.selects M_Mo_weights.1.cls M_Mo_weights.1 M_Mo_weights.1 ∈ qG := qG_s 61 rfl rfl
theorem kd_Mo_of : Cond.code M_Mo_of.1 M_Mo_of.2.1 M_Mo_of.2.2.1 M_Mo_of.2.2.2 ∈ qG := qG_t6 89 rfl rfl
theorem kx_Mo_of : Cond.instanceMethod M_Mo_of.1 ∈ qG := qG_t6 87 rfl rfl
theorem kv_Mo_of : Cond.selects M_Mo_of.1.cls M_Mo_of.1 M_Mo_of.1 ∈ qG := qG_t6 88 rfl rfl
theorem kd_Mo_can : Cond.code M_Mo_can.1 M_Mo_can.2.1 M_Mo_can.2.2.1 M_Mo_can.2.2.2 ∈ qG := qG_t6 101 rfl rfl
theorem kx_Mo_can : Cond.instanceMethod M_Mo_can.1 ∈ qG := qG_t6 99 rfl rfl
theorem kv_Mo_can : Cond.selects M_Mo_can.1.cls M_Mo_can.1 M_Mo_can.1 ∈ qG := qG_t6 100 rfl rfl
theorem kd_Mo_divisor : Cond.code M_Mo_divisor.1 M_Mo_divisor.2.1 M_Mo_divisor.2.2.1 M_Mo_divisor.2.2.2 ∈ qG := qG_t6 114 rfl rfl
theorem kx_Mo_divisor : Cond.instanceMethod M_Mo_divisor.1 ∈ qG := qG_t6 113 rfl rfl
theorem kv_Mo_divisor : Cond.selects M_Mo_divisor.1.cls M_Mo_divisor.1 M_Mo_divisor.1 ∈ qG := qG_s 64 rfl rfl
theorem kd_Mo_lowest : Cond.code M_Mo_lowest.1 M_Mo_lowest.2.1 M_Mo_lowest.2.2.1 M_Mo_lowest.2.2.2 ∈ qG := qG_t6 110 rfl rfl
theorem kx_Mo_lowest : Cond.instanceMethod M_Mo_lowest.1 ∈ qG := qG_t6 109 rfl rfl
theorem kv_Mo_lowest : Cond.selects M_Mo_lowest.1.cls M_Mo_lowest.1 M_Mo_lowest.1 ∈ qG := qG_s 63 rfl rfl
theorem kd_Mo_odds : Cond.code M_Mo_odds.1 M_Mo_odds.2.1 M_Mo_odds.2.2.1 M_Mo_odds.2.2.2 ∈ qG := qG_t6 105 rfl rfl
theorem kx_Mo_odds : Cond.instanceMethod M_Mo_odds.1 ∈ qG := qG_t6 103 rfl rfl
theorem kv_Mo_odds : Cond.selects M_Mo_odds.1.cls M_Mo_odds.1 M_Mo_odds.1 ∈ qG := qG_t6 104 rfl rfl
theorem kd_Mo_mean : Cond.code M_Mo_mean.1 M_Mo_mean.2.1 M_Mo_mean.2.2.1 M_Mo_mean.2.2.2 ∈ qG := qG_t6 118 rfl rfl
theorem kx_Mo_mean : Cond.instanceMethod M_Mo_mean.1 ∈ qG := qG_t6 116 rfl rfl
theorem kv_Mo_mean : Cond.selects M_Mo_mean.1.cls M_Mo_mean.1 M_Mo_mean.1 ∈ qG := qG_t6 117 rfl rfl
theorem kd_Mo_plan : Cond.code M_Mo_plan.1 M_Mo_plan.2.1 M_Mo_plan.2.2.1 M_Mo_plan.2.2.2 ∈ qG := qG_t6 122 rfl rfl
theorem kx_Mo_plan : Cond.instanceMethod M_Mo_plan.1 ∈ qG := qG_t6 120 rfl rfl
theorem kv_Mo_plan : Cond.selects M_Mo_plan.1.cls M_Mo_plan.1 M_Mo_plan.1 ∈ qG := qG_t6 121 rfl rfl
theorem kd_Mo_goPlan : Cond.code M_Mo_goPlan.1 M_Mo_goPlan.2.1 M_Mo_goPlan.2.2.1 M_Mo_goPlan.2.2.2 ∈ qG := qG_t6 130 rfl rfl
theorem kx_Mo_goPlan : Cond.instanceMethod M_Mo_goPlan.1 ∈ qG := qG_t6 129 rfl rfl
theorem kv_Mo_goPlan : Cond.selects M_Mo_goPlan.1.cls M_Mo_goPlan.1 M_Mo_goPlan.1 ∈ qG := qG_s 65 rfl rfl
theorem kd_Mo_ends : Cond.code M_Mo_ends.1 M_Mo_ends.2.1 M_Mo_ends.2.2.1 M_Mo_ends.2.2.2 ∈ qG := qG_t6 126 rfl rfl
theorem kx_Mo_ends : Cond.instanceMethod M_Mo_ends.1 ∈ qG := qG_t6 124 rfl rfl
theorem kv_Mo_ends : Cond.selects M_Mo_ends.1.cls M_Mo_ends.1 M_Mo_ends.1 ∈ qG := qG_t6 125 rfl rfl
theorem kd_Mo_book : Cond.code M_Mo_book.1 M_Mo_book.2.1 M_Mo_book.2.2.1 M_Mo_book.2.2.2 ∈ qG := qG_t6 134 rfl rfl
theorem kx_Mo_book : Cond.instanceMethod M_Mo_book.1 ∈ qG := qG_t6 132 rfl rfl
theorem kv_Mo_book : Cond.selects M_Mo_book.1.cls M_Mo_book.1 M_Mo_book.1 ∈ qG := qG_t6 133 rfl rfl
theorem kd_Mo_looked : Cond.code M_Mo_looked.1 M_Mo_looked.2.1 M_Mo_looked.2.2.1 M_Mo_looked.2.2.2 ∈ qG := qG_t6 138 rfl rfl
theorem kx_Mo_looked : Cond.instanceMethod M_Mo_looked.1 ∈ qG := qG_t6 136 rfl rfl
theorem kv_Mo_looked : Cond.selects M_Mo_looked.1.cls M_Mo_looked.1 M_Mo_looked.1 ∈ qG := qG_t6 137 rfl rfl
theorem kd_Mo_judge : Cond.code M_Mo_judge.1 M_Mo_judge.2.1 M_Mo_judge.2.2.1 M_Mo_judge.2.2.2 ∈ qG := qG_t6 142 rfl rfl
theorem kx_Mo_judge : Cond.instanceMethod M_Mo_judge.1 ∈ qG := qG_t6 140 rfl rfl
theorem kv_Mo_judge : Cond.selects M_Mo_judge.1.cls M_Mo_judge.1 M_Mo_judge.1 ∈ qG := qG_t6 141 rfl rfl
theorem kd_Mo_image : Cond.code M_Mo_image.1 M_Mo_image.2.1 M_Mo_image.2.2.1 M_Mo_image.2.2.2 ∈ qG := qG_t6 150 rfl rfl
theorem kx_Mo_image : Cond.instanceMethod M_Mo_image.1 ∈ qG := qG_t6 148 rfl rfl
theorem kv_Mo_image : Cond.selects M_Mo_image.1.cls M_Mo_image.1 M_Mo_image.1 ∈ qG := qG_t6 149 rfl rfl
theorem kd_Mo_undo : Cond.code M_Mo_undo.1 M_Mo_undo.2.1 M_Mo_undo.2.2.1 M_Mo_undo.2.2.2 ∈ qG := qG_t6 154 rfl rfl
theorem kx_Mo_undo : Cond.instanceMethod M_Mo_undo.1 ∈ qG := qG_t6 152 rfl rfl
theorem kv_Mo_undo : Cond.selects M_Mo_undo.1.cls M_Mo_undo.1 M_Mo_undo.1 ∈ qG := qG_t6 153 rfl rfl
theorem kd_Mo_body : Cond.code M_Mo_body.1 M_Mo_body.2.1 M_Mo_body.2.2.1 M_Mo_body.2.2.2 ∈ qG := qG_t6 166 rfl rfl
theorem kx_Mo_body : Cond.instanceMethod M_Mo_body.1 ∈ qG := qG_t6 165 rfl rfl
theorem kv_Mo_body : Cond.selects M_Mo_body.1.cls M_Mo_body.1 M_Mo_body.1 ∈ qG := qG_s 68 rfl rfl
theorem kd_Mo_thingDrips : Cond.code M_Mo_thingDrips.1 M_Mo_thingDrips.2.1 M_Mo_thingDrips.2.2.1 M_Mo_thingDrips.2.2.2 ∈ qG := qG_t6 170 rfl rfl
theorem kx_Mo_thingDrips : Cond.instanceMethod M_Mo_thingDrips.1 ∈ qG := qG_t6 169 rfl rfl
theorem kv_Mo_thingDrips : Cond.selects M_Mo_thingDrips.1.cls M_Mo_thingDrips.1 M_Mo_thingDrips.1 ∈ qG := qG_s 69 rfl rfl
theorem kd_Mo_dripsAct : Cond.code M_Mo_dripsAct.1 M_Mo_dripsAct.2.1 M_Mo_dripsAct.2.2.1 M_Mo_dripsAct.2.2.2 ∈ qG := qG_t6 162 rfl rfl
theorem kx_Mo_dripsAct : Cond.instanceMethod M_Mo_dripsAct.1 ∈ qG := qG_t6 161 rfl rfl
theorem kv_Mo_dripsAct : Cond.selects M_Mo_dripsAct.1.cls M_Mo_dripsAct.1 M_Mo_dripsAct.1 ∈ qG := qG_s 67 rfl rfl
theorem kd_Mo_thingReddens : Cond.code M_Mo_thingReddens.1 M_Mo_thingReddens.2.1 M_Mo_thingReddens.2.2.1 M_Mo_thingReddens.2.2.2 ∈ qG := qG_t6 182 rfl rfl
theorem kx_Mo_thingReddens : Cond.instanceMethod M_Mo_thingReddens.1 ∈ qG := qG_t6 181 rfl rfl
theorem kv_Mo_thingReddens : Cond.selects M_Mo_thingReddens.1.cls M_Mo_thingReddens.1 M_Mo_thingReddens.1 ∈ qG := qG_s 72 rfl rfl
theorem kd_Mo_grudgeReddens : Cond.code M_Mo_grudgeReddens.1 M_Mo_grudgeReddens.2.1 M_Mo_grudgeReddens.2.2.1 M_Mo_grudgeReddens.2.2.2 ∈ qG := qG_t6 178 rfl rfl
theorem kx_Mo_grudgeReddens : Cond.instanceMethod M_Mo_grudgeReddens.1 ∈ qG := qG_t6 177 rfl rfl
theorem kv_Mo_grudgeReddens : Cond.selects M_Mo_grudgeReddens.1.cls M_Mo_grudgeReddens.1 M_Mo_grudgeReddens.1 ∈ qG := qG_s 71 rfl rfl
theorem kd_Mo_reddensAct : Cond.code M_Mo_reddensAct.1 M_Mo_reddensAct.2.1 M_Mo_reddensAct.2.2.1 M_Mo_reddensAct.2.2.2 ∈ qG := qG_t6 174 rfl rfl
theorem kx_Mo_reddensAct : Cond.instanceMethod M_Mo_reddensAct.1 ∈ qG := qG_t6 173 rfl rfl
theorem kv_Mo_reddensAct : Cond.selects M_Mo_reddensAct.1.cls M_Mo_reddensAct.1 M_Mo_reddensAct.1 ∈ qG := qG_s 70 rfl rfl
theorem kd_Mo_thingTells : Cond.code M_Mo_thingTells.1 M_Mo_thingTells.2.1 M_Mo_thingTells.2.2.1 M_Mo_thingTells.2.2.2 ∈ qG := qG_t6 190 rfl rfl
theorem kx_Mo_thingTells : Cond.instanceMethod M_Mo_thingTells.1 ∈ qG := qG_t6 189 rfl rfl
theorem kv_Mo_thingTells : Cond.selects M_Mo_thingTells.1.cls M_Mo_thingTells.1 M_Mo_thingTells.1 ∈ qG := qG_s 74 rfl rfl
theorem kd_Mo_tellsAct : Cond.code M_Mo_tellsAct.1 M_Mo_tellsAct.2.1 M_Mo_tellsAct.2.2.1 M_Mo_tellsAct.2.2.2 ∈ qG := qG_t6 186 rfl rfl
theorem kx_Mo_tellsAct : Cond.instanceMethod M_Mo_tellsAct.1 ∈ qG := qG_t6 185 rfl rfl
theorem kv_Mo_tellsAct : Cond.selects M_Mo_tellsAct.1.cls M_Mo_tellsAct.1 M_Mo_tellsAct.1 ∈ qG := qG_s 73 rfl rfl
theorem kd_Mo_act : Cond.code M_Mo_act.1 M_Mo_act.2.1 M_Mo_act.2.2.1 M_Mo_act.2.2.2 ∈ qG := qG_t6 158 rfl rfl
theorem kx_Mo_act : Cond.instanceMethod M_Mo_act.1 ∈ qG := qG_t6 156 rfl rfl
theorem kv_Mo_act : Cond.selects M_Mo_act.1.cls M_Mo_act.1 M_Mo_act.1 ∈ qG := qG_t6 157 rfl rfl
theorem kd_Mo_trace : Cond.code M_Mo_trace.1 M_Mo_trace.2.1 M_Mo_trace.2.2.1 M_Mo_trace.2.2.2 ∈ qG := qG_t6 194 rfl rfl
theorem kx_Mo_trace : Cond.instanceMethod M_Mo_trace.1 ∈ qG := qG_t6 192 rfl rfl
theorem kv_Mo_trace : Cond.selects M_Mo_trace.1.cls M_Mo_trace.1 M_Mo_trace.1 ∈ qG := qG_t6 193 rfl rfl
theorem kd_Mo_taken : Cond.code M_Mo_taken.1 M_Mo_taken.2.1 M_Mo_taken.2.2.1 M_Mo_taken.2.2.2 ∈ qG := qG_t6 198 rfl rfl
theorem kx_Mo_taken : Cond.instanceMethod M_Mo_taken.1 ∈ qG := qG_t6 196 rfl rfl
theorem kv_Mo_taken : Cond.selects M_Mo_taken.1.cls M_Mo_taken.1 M_Mo_taken.1 ∈ qG := qG_t6 197 rfl rfl
theorem kd_Mo_count : Cond.code M_Mo_count.1 M_Mo_count.2.1 M_Mo_count.2.2.1 M_Mo_count.2.2.2 ∈ qG := qG_t6 202 rfl rfl
theorem kx_Mo_count : Cond.instanceMethod M_Mo_count.1 ∈ qG := qG_t6 200 rfl rfl
theorem kv_Mo_count : Cond.selects M_Mo_count.1.cls M_Mo_count.1 M_Mo_count.1 ∈ qG := qG_t6 201 rfl rfl
theorem kd_Mo_isTape : Cond.code M_Mo_isTape.1 M_Mo_isTape.2.1 M_Mo_isTape.2.2.1 M_Mo_isTape.2.2.2 ∈ qG := qG_t6 146 rfl rfl
theorem kx_Mo_isTape : Cond.instanceMethod M_Mo_isTape.1 ∈ qG := qG_t6 145 rfl rfl
theorem kv_Mo_isTape : Cond.selects M_Mo_isTape.1.cls M_Mo_isTape.1 M_Mo_isTape.1 ∈ qG := qG_s 66 rfl rfl
theorem kd_Mo_tape : Cond.code M_Mo_tape.1 M_Mo_tape.2.1 M_Mo_tape.2.2.1 M_Mo_tape.2.2.2 ∈ qG := qG_t6 206 rfl rfl
theorem kx_Mo_tape : Cond.instanceMethod M_Mo_tape.1 ∈ qG := qG_t6 204 rfl rfl
theorem kv_Mo_tape : Cond.selects M_Mo_tape.1.cls M_Mo_tape.1 M_Mo_tape.1 ∈ qG := qG_t6 205 rfl rfl
theorem kd_Mo_narrow : Cond.code M_Mo_narrow.1 M_Mo_narrow.2.1 M_Mo_narrow.2.2.1 M_Mo_narrow.2.2.2 ∈ qG := qG_t6 214 rfl rfl
theorem kx_Mo_narrow : Cond.instanceMethod M_Mo_narrow.1 ∈ qG := qG_t6 213 rfl rfl
theorem kv_Mo_narrow : Cond.selects M_Mo_narrow.1.cls M_Mo_narrow.1 M_Mo_narrow.1 ∈ qG := qG_s 75 rfl rfl
theorem kd_Mo_item : Cond.code M_Mo_item.1 M_Mo_item.2.1 M_Mo_item.2.2.1 M_Mo_item.2.2.2 ∈ qG := qG_t6 210 rfl rfl
theorem kx_Mo_item : Cond.instanceMethod M_Mo_item.1 ∈ qG := qG_t6 208 rfl rfl
theorem kv_Mo_item : Cond.selects M_Mo_item.1.cls M_Mo_item.1 M_Mo_item.1 ∈ qG := qG_t6 209 rfl rfl
theorem kd_Mo_read : Cond.code M_Mo_read.1 M_Mo_read.2.1 M_Mo_read.2.2.1 M_Mo_read.2.2.2 ∈ qG := qG_t6 218 rfl rfl
theorem kx_Mo_read : Cond.instanceMethod M_Mo_read.1 ∈ qG := qG_t6 216 rfl rfl
theorem kv_Mo_read : Cond.selects M_Mo_read.1.cls M_Mo_read.1 M_Mo_read.1 ∈ qG := qG_t6 217 rfl rfl
theorem kd_Mo_shift : Cond.code M_Mo_shift.1 M_Mo_shift.2.1 M_Mo_shift.2.2.1 M_Mo_shift.2.2.2 ∈ qG := qG_t6 222 rfl rfl
theorem kx_Mo_shift : Cond.instanceMethod M_Mo_shift.1 ∈ qG := qG_t6 220 rfl rfl
theorem kv_Mo_shift : Cond.selects M_Mo_shift.1.cls M_Mo_shift.1 M_Mo_shift.1 ∈ qG := qG_t6 221 rfl rfl
theorem kd_Ji_bitCount : Cond.code M_Ji_bitCount.1 M_Ji_bitCount.2.1 M_Ji_bitCount.2.2.1 M_Ji_bitCount.2.2.2 ∈ qG := qG_t2 165 rfl rfl
theorem ks_Ji_bitCount : Cond.static M_Ji_bitCount.1 ∈ qG := qG_t2 164 rfl rfl
theorem kd_Jm_floorMod : Cond.code M_Jm_floorMod.1 M_Jm_floorMod.2.1 M_Jm_floorMod.2.2.1 M_Jm_floorMod.2.2.2 ∈ qG := qG_t2 96 rfl rfl
theorem ks_Jm_floorMod : Cond.static M_Jm_floorMod.1 ∈ qG := qG_t2 95 rfl rfl
theorem kd_Jm_abs : Cond.code M_Jm_abs.1 M_Jm_abs.2.1 M_Jm_abs.2.2.1 M_Jm_abs.2.2.2 ∈ qG := qG_t3 152 rfl rfl
theorem ks_Jm_abs : Cond.static M_Jm_abs.1 ∈ qG := qG_t3 151 rfl rfl
theorem kd_Jm_max : Cond.code M_Jm_max.1 M_Jm_max.2.1 M_Jm_max.2.2.1 M_Jm_max.2.2.2 ∈ qG := qG_t1 67 rfl rfl
theorem ks_Jm_max : Cond.static M_Jm_max.1 ∈ qG := qG_t1 66 rfl rfl
theorem kd_Jm_min : Cond.code M_Jm_min.1 M_Jm_min.2.1 M_Jm_min.2.2.1 M_Jm_min.2.2.2 ∈ qG := qG_t2 107 rfl rfl
theorem ks_Jm_min : Cond.static M_Jm_min.1 ∈ qG := qG_t2 106 rfl rfl
theorem kd_Js_length : Cond.code M_Js_length.1 M_Js_length.2.1 M_Js_length.2.2.1 M_Js_length.2.2.2 ∈ qG := qG_t2 237 rfl rfl
theorem kx_Js_length : Cond.instanceMethod M_Js_length.1 ∈ qG := qG_t2 235 rfl rfl
theorem kv_Js_length : Cond.selects M_Js_length.1.cls M_Js_length.1 M_Js_length.1 ∈ qG := qG_t2 236 rfl rfl
theorem kd_Js_charAt : Cond.code M_Js_charAt.1 M_Js_charAt.2.1 M_Js_charAt.2.2.1 M_Js_charAt.2.2.2 ∈ qG := qG_t3 7 rfl rfl
theorem kx_Js_charAt : Cond.instanceMethod M_Js_charAt.1 ∈ qG := qG_t3 5 rfl rfl
theorem kv_Js_charAt : Cond.selects M_Js_charAt.1.cls M_Js_charAt.1 M_Js_charAt.1 ∈ qG := qG_t3 6 rfl rfl
theorem kd_Js_coder : Cond.code M_Js_coder.1 M_Js_coder.2.1 M_Js_coder.2.2.1 M_Js_coder.2.2.2 ∈ qG := qG_t3 1 rfl rfl
theorem kx_Js_coder : Cond.instanceMethod M_Js_coder.1 ∈ qG := qG_t2 239 rfl rfl
theorem kv_Js_coder : Cond.selects M_Js_coder.1.cls M_Js_coder.1 M_Js_coder.1 ∈ qG := qG_t3 0 rfl rfl
theorem kd_Js_isLatin1 : Cond.code M_Js_isLatin1.1 M_Js_isLatin1.2.1 M_Js_isLatin1.2.2.1 M_Js_isLatin1.2.2.2 ∈ qG := qG_t3 11 rfl rfl
theorem kx_Js_isLatin1 : Cond.instanceMethod M_Js_isLatin1.1 ∈ qG := qG_t3 9 rfl rfl
theorem kv_Js_isLatin1 : Cond.selects M_Js_isLatin1.1.cls M_Js_isLatin1.1 M_Js_isLatin1.1 ∈ qG := qG_t3 10 rfl rfl
theorem kd_Js_checkIndex : Cond.code M_Js_checkIndex.1 M_Js_checkIndex.2.1 M_Js_checkIndex.2.2.1 M_Js_checkIndex.2.2.2 ∈ qG := qG_t3 17 rfl rfl
theorem ks_Js_checkIndex : Cond.static M_Js_checkIndex.1 ∈ qG := qG_t3 16 rfl rfl
theorem kd_Jl_charAt : Cond.code M_Jl_charAt.1 M_Jl_charAt.2.1 M_Jl_charAt.2.2.1 M_Jl_charAt.2.2.2 ∈ qG := qG_t3 14 rfl rfl
theorem ks_Jl_charAt : Cond.static M_Jl_charAt.1 ∈ qG := qG_t3 13 rfl rfl
theorem kd_Ju_getChar : Cond.code M_Ju_getChar.1 M_Ju_getChar.2.1 M_Ju_getChar.2.2.1 M_Ju_getChar.2.2.2 ∈ qG := qG_t3 35 rfl rfl
theorem ks_Ju_getChar : Cond.static M_Ju_getChar.1 ∈ qG := qG_t3 34 rfl rfl
theorem kd_Ju_length : Cond.code M_Ju_length.1 M_Ju_length.2.1 M_Ju_length.2.2.1 M_Ju_length.2.2.2 ∈ qG := qG_t3 31 rfl rfl
theorem ks_Ju_length : Cond.static M_Ju_length.1 ∈ qG := qG_t3 30 rfl rfl
theorem kd_Ju_charAt : Cond.code M_Ju_charAt.1 M_Ju_charAt.2.1 M_Ju_charAt.2.2.1 M_Ju_charAt.2.2.2 ∈ qG := qG_t3 25 rfl rfl
theorem ks_Ju_charAt : Cond.static M_Ju_charAt.1 ∈ qG := qG_t3 24 rfl rfl
theorem kd_Ju_checkIndex : Cond.code M_Ju_checkIndex.1 M_Ju_checkIndex.2.1 M_Ju_checkIndex.2.2.1 M_Ju_checkIndex.2.2.2 ∈ qG := qG_t3 28 rfl rfl
theorem ks_Ju_checkIndex : Cond.static M_Ju_checkIndex.1 ∈ qG := qG_t3 27 rfl rfl
theorem kd_Jp_checkIndex : Cond.code M_Jp_checkIndex.1 M_Jp_checkIndex.2.1 M_Jp_checkIndex.2.2.1 M_Jp_checkIndex.2.2.2 ∈ qG := qG_t3 22 rfl rfl
theorem ks_Jp_checkIndex : Cond.static M_Jp_checkIndex.1 ∈ qG := qG_t3 21 rfl rfl
end
section
abbrev qW : Type := Nat × (Nat → Nat → Int32) × (Nat → Nat → Int64) × (Nat → Nat → Nat)
abbrev qE : Type := Nat × va_G × (Nat → ClassId) × (Nat → Nat) × Nat × (Nat → Int32)
def qb (E : qE) : Nat := E.1
def qD (E : qE) : va_G := E.2.1
def qA (E : qE) : Nat → ClassId := E.2.2.1
def qc (E : qE) : Nat → Nat := E.2.2.2.1
def qL (E : qE) : Nat := E.2.2.2.2.1
def qxs (E : qE) : Nat → Int32 := E.2.2.2.2.2
def qi (w : qW) (k j : Nat) : Int32 := w.2.1 k j
def ql (w : qW) (k j : Nat) : Int64 := w.2.2.1 k j
def qr (w : qW) (k j : Nat) : Nat := w.2.2.2 k j
def qpi (w : qW) (k j : Nat) (v : Int32) : qW := (w.1, (fun a c => if a = k ∧ c = j then v else w.2.1 a c), w.2.2)
def qpl (w : qW) (k j : Nat) (v : Int64) : qW := (w.1, w.2.1, (fun a c => if a = k ∧ c = j then v else w.2.2.1 a c), w.2.2.2)
def qpr (w : qW) (k j : Nat) (v : Nat) : qW := (w.1, w.2.1, w.2.2.1, (fun a c => if a = k ∧ c = j then v else w.2.2.2 a c))
/-- a copy of n items of row k from i on into row k2 from j on -/
def qcp (w : qW) (k i k2 j n : Nat) : qW := (w.1, (fun a c => if a = k2 ∧ j ≤ c ∧ c < j + n then w.2.1 k (i + (c - j)) else w.2.1 a c), w.2.2)
def qcl (w : qW) (k i k2 j n : Nat) : qW := (w.1, w.2.1, (fun a c => if a = k2 ∧ j ≤ c ∧ c < j + n then w.2.2.1 k (i + (c - j)) else w.2.2.1 a c), w.2.2.2)
/-- one more cell, all 0 -/
def qnw (w : qW) : qW := (w.1 + 1, (fun a c => if a = w.1 then 0 else w.2.1 a c), (fun a c => if a = w.1 then 0 else w.2.2.1 a c), (fun a c => if a = w.1 then 0 else w.2.2.2 a c))
def qz (x : Int32) : Int32 := if x = 0 then 0 else 1
theorem qz_01 (x : Int32) : qz x = 0 ∨ qz x = 1 := by unfold qz; split <;> simp
theorem qz_of {x : Int32} (h : x = 0 ∨ x = 1) : qz x = x := by rcases h with rfl | rfl <;> decide
def qro (E : qE) (n : Nat) : Option Nat := match n with | 0 => none | c + 1 => some (qb E + c)
def qrv (E : qE) (n : Nat) : Value := va_rf (qro E n)
def qT : List (Nat × Nat) := [(9, 9), (2, 5), (20, 100), (20, 100), (20, 100), (8, 4), (5, 3), (20, 5), (20, 5), (5, 3), (20, 10), (20, 10), (5, 3), (20, 8), (20, 8), (3, 8), (23, 6), (20, 6), (7, 8), (20, 4), (7, 8), (20, 4), (7, 8), (20, 4), (7, 8), (20, 4), (7, 8), (20, 4), (7, 8), (20, 4), (8, 4), (5, 3), (20, 5), (20, 5), (5, 3), (20, 10), (20, 10), (5, 3), (20, 8), (20, 8), (3, 8), (23, 6), (20, 6), (7, 8), (20, 4), (7, 8), (20, 4), (7, 8), (20, 4), (7, 8), (20, 4), (7, 8), (20, 4), (7, 8), (20, 4), (1, 4), (20, 3), (20, 3), (3, 8), (23, 6), (20, 6), (7, 8), (20, 4), (7, 8), (20, 4), (7, 8), (20, 4), (7, 8), (20, 4), (7, 8), (20, 4), (7, 8), (20, 4), (4, 4), (20, 100), (24, 6), (2, 5), (20, 100), (20, 100), (20, 100), (2, 5), (20, 100), (20, 100), (20, 100), (2, 5), (20, 100), (20, 100), (20, 100), (2, 5), (20, 100), (20, 100), (20, 100), (2, 5), (20, 100), (20, 100), (20, 100), (2, 5), (20, 100), (20, 100), (20, 100), (0, 5), (20, 20), (25, 6), (6, 3), (21, 60), (6, 3), (21, 60), (6, 3), (21, 60), (6, 3), (21, 60), (6, 3), (21, 60), (6, 3), (21, 60), (10, 77), (20, 6), (20, 6), (20, 6), (20, 6), (20, 6), (20, 6), (20, 24), (20, 100), (20, 6), (20, 60), (20, 60), (20, 60), (20, 60), (20, 600), (20, 101), (20, 13), (22, 100), (20, 6), (20, 6), (20, 3), (20, 3), (20, 5), (20, 5), (20, 10), (20, 10), (20, 8), (20, 8), (20, 6), (20, 6), (20, 6), (20, 6), (20, 6), (20, 6), (20, 24), (20, 5), (20, 5), (20, 10), (20, 10), (20, 8), (20, 8), (20, 20), (20, 6), (20, 6), (21, 360), (21, 60)]
def qlay (k : Nat) : Nat × Nat := qT.getD k (99, 0)
def qFt : List (List Nat) := [[2, 0, 0, 0, 0], [2, 2, 2, 2], [2, 2, 2, 0, 0], [0, 2, 0, 0, 1, 0, 2, 2], [2, 0, 0, 2], [2, 2, 0], [0, 0, 2], [0, 0, 0, 0, 0, 0, 0, 2], [2, 2, 2, 2], [2, 2, 1, 2, 2, 2, 0, 2, 2], [0, 0, 0, 0, 1, 2, 2, 2, 2, 2, 2, 2, 0, 0, 0, 0, 0, 2, 2, 2, 2, 2, 2, 2, 2, 0, 0, 0, 2, 2, 0, 0, 0, 0, 1, 2, 2, 2, 2, 0, 2, 2, 0, 0, 2, 2, 2, 2, 1, 1, 0, 0, 0, 0, 0, 0, 0, 0, 2, 2, 2, 2, 2, 2, 2, 2, 2, 2, 2, 2, 2, 0, 2, 2, 2, 2, 2]]
def qft (c j : Nat) : Nat := (qFt.getD c []).getD j 0
def qss : Nat → Nat | 0 => 0 | n + 1 => qss n + (qlay n).2
def qfv (E : qE) (w : qW) (k t j : Nat) : Value := if t = 0 then .int (qi w k j) else if t = 1 then .int (qz (qi w k j)) else qrv E (qr w k j)
def qobj (E : qE) (w : qW) (k c n : Nat) : List Value := (List.range n).map (fun j => qfv E w k (qft c j) j)
def qcell (E : qE) (w : qW) (k : Nat) : va_E :=
  if (qlay k).1 < 20 then .inr ((qlay k).1, qobj E w k (qlay k).1 (qlay k).2)
  else if (qlay k).1 = 20 then .inl (qA E 0, (qlay k).2, .inl (qi w k))
  else if (qlay k).1 = 21 then .inl (qA E 1, (qlay k).2, .inr (.inl (ql w k)))
  else if (qlay k).1 = 22 then .inl (qA E 2, (qlay k).2, .inl (fun j => qz (qi w k j)))
  else .inl (qA E ((qlay k).1 - 20), (qlay k).2, .inr (.inr (.inr (.inr (fun j => qro E (qr w k j))))))
def qLs (E : qE) (w : qW) : va_W := (List.range w.1).map (fun k => (qb E + k, qcell E w k))
theorem qLs_get {E : qE} {w : qW} {k : Nat} (h : k < w.1) : (qLs E w)[k]? = some (qb E + k, qcell E w k) := by
  unfold qLs
  rw [List.getElem?_map, List.getElem?_range h]
  rfl
theorem qLs_inv {E : qE} {w : qW} {k : Nat} {q : Nat × va_E} (h : (qLs E w)[k]? = some q) : k < w.1 ∧ q = (qb E + k, qcell E w k) := by
  have hl := (List.getElem?_eq_some_iff.mp h).1
  have hk : k < w.1 := by simpa [qLs] using hl
  rw [qLs_get hk] at h
  exact ⟨hk, (Option.some.inj h).symm⟩
def qtys (E : qE) : List (ClassId × FieldType) := [(qA E 0, .int), (qA E 1, .long), (qA E 2, .boolean), (qA E 3, .object "QuinceEnd$Thing"), (qA E 4, .object "QuinceEnd$Kitchen"), (qA E 5, .object "QuinceEnd$Tape")]
def qWd (E : qE) (w : qW) (H : Heap) : Prop := (w.1 < 161 → H.size = qb E + w.1) ∧ va_P (qD E) q_cls (qLs E w) H
def qAr (E : qE) : Nat → Prop := fun q => qb E ≤ q
theorem qDs {E : qE} {w : qW} : va_D (qAr E) (qLs E w) := by
  refine ⟨fun i j p q hi hj e => ?_, fun k q hk => ?_⟩
  · obtain ⟨-, rfl⟩ := qLs_inv hi
    obtain ⟨-, rfl⟩ := qLs_inv hj
    have : qb E + i = qb E + j := e
    omega
  · obtain ⟨-, rfl⟩ := qLs_inv hk
    exact Nat.le_add_right _ _
/-- the cells behind a change of one -/
theorem qLs_set {E : qE} {w w' : qW} {k : Nat} {e : va_E} (hk : k < w.1) (hn : w'.1 = w.1) (he : e = qcell E w' k) (ho : ∀ j, j ≠ k → qcell E w' j = qcell E w j) : (qLs E w).set k (qb E + k, e) = qLs E w' := by
  apply List.ext_getElem?
  intro j
  by_cases hj : j < w.1
  · rw [qLs_get (by rw [hn]; exact hj)]
    by_cases hjk : j = k
    · subst hjk
      rw [List.getElem?_set_self (by simpa [qLs] using hj), he]
    · rw [List.getElem?_set_ne (Ne.symm hjk), qLs_get hj, ho j hjk]
  · rw [List.getElem?_eq_none (by simp [qLs]; omega), List.getElem?_eq_none (by simp [qLs, hn]; omega)]
theorem qcell_obj {E : qE} {w : qW} {k c n : Nat} (h : qlay k = (c, n)) (hc : c < 20) : qcell E w k = .inr (c, qobj E w k c n) := by
  unfold qcell
  rw [h]
  exact if_pos hc
theorem qcell_i {E : qE} {w : qW} {k n : Nat} (h : qlay k = (20, n)) : qcell E w k = .inl (qA E 0, n, .inl (qi w k)) := by
  unfold qcell
  rw [h]
  rfl
theorem qcell_l {E : qE} {w : qW} {k n : Nat} (h : qlay k = (21, n)) : qcell E w k = .inl (qA E 1, n, .inr (.inl (ql w k))) := by
  unfold qcell
  rw [h]
  rfl
theorem qcell_z {E : qE} {w : qW} {k n : Nat} (h : qlay k = (22, n)) : qcell E w k = .inl (qA E 2, n, .inl (fun j => qz (qi w k j))) := by
  unfold qcell
  rw [h]
  rfl
theorem qcell_q {E : qE} {w : qW} {k c n : Nat} (h : qlay k = (c, n)) (h0 : 22 < c) : qcell E w k = .inl (qA E (c - 20), n, .inr (.inr (.inr (.inr (fun j => qro E (qr w k j)))))) := by
  unfold qcell
  rw [h]
  show (if c < 20 then _ else if c = 20 then _ else if c = 21 then _ else if c = 22 then _ else _) = _
  rw [if_neg (by omega), if_neg (by omega), if_neg (by omega), if_neg (by omega)]
theorem qobj_get {E : qE} {w : qW} {k c n j : Nat} (h : j < n) : (qobj E w k c n)[j]? = some (qfv E w k (qft c j) j) := by
  unfold qobj
  rw [List.getElem?_map, List.getElem?_range h]
  rfl
theorem qobj_len {E : qE} {w : qW} {k c n : Nat} : (qobj E w k c n).length = n := by simp [qobj]
theorem qobj_set {E : qE} {w w' : qW} {k c n j : Nat} {v : Value} (h : j < n) (hv : v = qfv E w' k (qft c j) j) (ho : ∀ i, i ≠ j → qi w' k i = qi w k i ∧ qr w' k i = qr w k i) : (qobj E w k c n).set j v = qobj E w' k c n := by
  apply List.ext_getElem?
  intro i
  by_cases hi : i < n
  · rw [qobj_get hi]
    by_cases hij : i = j
    · subst hij
      rw [List.getElem?_set_self (by rw [qobj_len]; exact hi), hv]
    · rw [List.getElem?_set_ne (Ne.symm hij), qobj_get hi]
      unfold qfv
      rw [(ho i hij).1, (ho i hij).2]
  · rw [List.getElem?_eq_none (by rw [List.length_set, qobj_len]; omega), List.getElem?_eq_none (by rw [qobj_len]; omega)]
theorem qcell_eq {E : qE} {w w' : qW} {k : Nat} (h : ∀ i, qi w' k i = qi w k i ∧ ql w' k i = ql w k i ∧ qr w' k i = qr w k i) : qcell E w' k = qcell E w k := by
  have h1 : qi w' k = qi w k := funext fun i => (h i).1
  have h2 : ql w' k = ql w k := funext fun i => (h i).2.1
  have h3 : qr w' k = qr w k := funext fun i => (h i).2.2
  unfold qcell qobj qfv
  rw [h1, h2, h3]
def qAbove (j : Nat) : Int32 := [(-1 : Int32), 0, 0, 0, 1, 2, 3].getD j 0
def qBodies (j : Nat) : Int32 := [(10 : Int32), 11, 12, 0, 20, 0, 30, 0, 0, 0, 0, 40, 50, 51, 0, 0, 0, 60, 71, 70, 0].getD j 0
def qlen : List Nat := [5, 5, 6, 6, 3]
def qbyt : List (List Int32) := [[110, 101, 101, 100, 32], [100, 97, 114, 107, 32], [99, 108, 101, 97, 114, 32], [112, 107, 118, 119, 111, 109], [60, 61, 62]]
/-- what was there ahead of all: tables, texts, the script; and what the classes are -/
def qK (E : qE) (s : State) (H : Heap) : Prop :=
  va_K (qD E) q_cls (qtys E) s ∧
  (va_Z "QuinceEnd" "ABOVE" "[I" (.ref (qc E 0)) (qAr E) s H ∧ va_T .int (qc E 0) 7 (fun j => .int (qAbove j)) (qAr E) s H) ∧
  (va_Z "QuinceEnd$Acting" "BODIES" "[I" (.ref (qc E 1)) (qAr E) s H ∧ va_T .int (qc E 1) 21 (fun j => .int (qBodies j)) (qAr E) s H) ∧
  (va_Z "java/lang/String" "COMPACT_STRINGS" "Z" (.int 1) (qAr E) s H ∧ va_Zq "jdk/internal/util/Preconditions" "SIOOBE_FORMATTER" "Ljava/util/function/BiFunction;" (qAr E) s H) ∧
  vk_S 5 qlen qbyt (fun i => qc E (10 + i)) (fun i => qc E (20 + i)) (qAr E) s H ∧
  (vk_R "QuinceEnd$Reading" 64 "need " (qc E 10) s ∧ vk_R "QuinceEnd$Reading" 46 "dark " (qc E 11) s ∧ vk_R "QuinceEnd$Reading" 48 "clear " (qc E 12) s ∧ vk_R "QuinceEnd$Reading" 72 "pkvwom" (qc E 13) s ∧ vk_R "QuinceEnd$Reading" 78 "<=>" (qc E 14) s) ∧
  (va_Nw (.fieldLinkNest "QuinceEnd$Acting" 37 "QuinceEnd" "ABOVE" "[I" "QuinceEnd") s ∧ va_Nw (.fieldLinkNest "QuinceEnd$Thing" 43 "QuinceEnd" "ABOVE" "[I" "QuinceEnd") s ∧ va_Nw (.methodLinkNest "QuinceEnd" 11 ⟨"QuinceEnd$Kitchen", "<init>", "()V"⟩ "QuinceEnd") s ∧ va_Nw (.methodLinkNest "QuinceEnd" 37 ⟨"QuinceEnd$Reading", "<init>", "()V"⟩ "QuinceEnd") s ∧ va_Nw (.methodLinkNest "QuinceEnd" 48 ⟨"QuinceEnd$Acting", "<init>", "()V"⟩ "QuinceEnd") s ∧ va_Nw (.methodLinkNest "QuinceEnd" 59 ⟨"QuinceEnd$Tape", "<init>", "()V"⟩ "QuinceEnd") s) ∧
  (va_AO "QuinceEnd$Thing" s ∧ va_AO "QuinceEnd$Kitchen" s ∧ va_AO "QuinceEnd$Tape" s) ∧
  (va_X (qc E 2) (qL E) (qxs E) s H ∧ qc E 2 < H.size ∧ qc E 2 < qb E)
theorem qK.warm {E : qE} {s U : State} {H : Heap} (hW : s.WarmedH U.vm) (h : qK E s H) : qK E U H := by
  obtain ⟨h1, ⟨h2, h3⟩, ⟨h4, h5⟩, ⟨h6, h7⟩, h8, ⟨r1, r2, r3, r4, r5⟩, ⟨n0, n1, n2, n3, n4, n5⟩, ⟨a1, a2, a3⟩, x1, x2⟩ := h
  exact ⟨va_K.moved hW.alike h1, ⟨va_Z.moved hW.alike h2, va_T.moved hW.alike h3⟩, ⟨va_Z.moved hW.alike h4, va_T.moved hW.alike h5⟩, ⟨va_Z.moved hW.alike h6, va_Zq.moved hW.alike h7⟩, vk_S.moved hW.alike h8, ⟨r1.warm hW, r2.warm hW, r3.warm hW, r4.warm hW, r5.warm hW⟩, ⟨n0.warmF hW, n1.warmF hW, n2.warmM hW, n3.warmM hW, n4.warmM hW, n5.warmM hW⟩, ⟨a1.moved hW.alike, a2.moved hW.alike, a3.moved hW.alike⟩, x1.moved hW.alike, x2⟩
theorem qK.same {E : qE} {u U : State} {H : Heap} (hv : U.vm = u.vm) (h : qK E u H) : qK E U H := by
  have hA : u.vm.Alike U.vm := by rw [hv]; exact Vm.Alike.refl _
  obtain ⟨h1, ⟨h2, h3⟩, ⟨h4, h5⟩, ⟨h6, h7⟩, h8, ⟨r1, r2, r3, r4, r5⟩, ⟨n0, n1, n2, n3, n4, n5⟩, ⟨a1, a2, a3⟩, x1, x2⟩ := h
  exact ⟨va_K.moved hA h1, ⟨va_Z.moved hA h2, va_T.moved hA h3⟩, ⟨va_Z.moved hA h4, va_T.moved hA h5⟩, ⟨va_Z.moved hA h6, va_Zq.moved hA h7⟩, vk_S.moved hA h8, ⟨r1.same hv, r2.same hv, r3.same hv, r4.same hv, r5.same hv⟩, ⟨n0.same rfl hv.symm, n1.same rfl hv.symm, n2.same rfl hv.symm, n3.same rfl hv.symm, n4.same rfl hv.symm, n5.same rfl hv.symm⟩, ⟨a1.moved hA, a2.moved hA, a3.moved hA⟩, x1.moved hA, x2⟩
theorem qK.kept {E : qE} {s : State} {H H1 : Heap} (hz : H.size ≤ H1.size) (hq : ∀ a : Nat, a < H.size → ¬ qAr E a → H1[a]? = H[a]?) (h : qK E s H) : qK E s H1 := by
  obtain ⟨h1, ⟨h2, h3⟩, ⟨h4, h5⟩, ⟨h6, h7⟩, h8, hr, hn, ha, x1, x2, x3⟩ := h
  exact ⟨h1, ⟨h2.kept hq, h3.kept hq⟩, ⟨h4.kept hq, h5.kept hq⟩, ⟨h6.kept hq, h7.kept hq⟩, h8.kept hq, hr, hn, ha, x1.kept (hq _ x2 (fun z => by unfold qAr at z; omega)), Nat.lt_of_lt_of_le x2 hz, x3⟩
/-- how a value goes back -/
def qRet (M : qM) (v : Option Value) (pc : Nat) : Prop :=
  (∃ (x : Int32) (ty : FieldType), v = some (.int x) ∧ M.2.2.2 = some ty ∧ narrow ty (.int x) = .int x ∧ decode M.2.1 pc = .ok (.ireturn, 1)) ∨
  (∃ x : Int64, v = some (.long x) ∧ M.2.2.2 = some .long ∧ decode M.2.1 pc = .ok (.lreturn, 1)) ∨
  (v = none ∧ M.2.2.2 = none ∧ decode M.2.1 pc = .ok (.return_, 1)) ∨
  (∃ (x : Value) (C : String), v = some x ∧ (x = .null ∨ ∃ a, x = .ref a) ∧ M.2.2.2 = some (.object C) ∧ decode M.2.1 pc = .ok (.areturn, 1))
/-- the machine around a method that runs -/
def qCx (d : Nat) (M : qM) (E : qE) (N0 N1 : Nat) (F : qW → Option Value → Prop) (p : Program) (l : Launch) (e : Env) (R : Room) (s : State) (m : MethodId) (args : Array Value) (below : List Frame) (meth : Method) (c : Code) (Z : State → Prop) : Prop :=
  p.tables.exec = Jvm.exec ∧ c.code = M.2.1 ∧ c.maxLocals = M.2.2.1 ∧ s.vm.findClass M.1.cls = some m.cls ∧ (∀ w ∈ qG, w.before args s = true) ∧
  (d ≤ R.frames ∧ 60 * d ≤ R.locals ∧ N1 - N0 ≤ R.cells ∧ qss N1 - qss N0 ≤ R.slots) ∧ qK E s s.heap ∧ (M.1.name = "<init>" → meth.name = "<init>") ∧ qb E ≤ s.heap.size ∧
  (∀ (H : Heap) (locs : List Loc) (w : qW) (v : Option Value) (pc : Nat) (ls : Array Slot), qWd E w H → w.1 = N1 → va_S (qAr E) s.heap H locs → F w v → qRet M v pc → W p l e R s m args below meth c H locs (N1 - N0) (qss N1 - qss N0) Z (F0 m pc ls v.toList))
/-- from pc on, with these locals, this stack and these cells, the method comes to an answer and cells with F -/
def Go (d : Nat) (M : qM) (E : qE) (N0 N1 : Nat) (F : qW → Option Value → Prop) (pc : Nat) (loc : List (Nat × Value)) (stk : List Value) (w : qW) : Prop :=
  ∀ (p : Program) (l : Launch) (e : Env) (R : Room) (s : State) (m : MethodId) (args : Array Value) (below : List Frame) (meth : Method) (c : Code) (Z : State → Prop), qCx d M E N0 N1 F p l e R s m args below meth c Z →
    ∀ (H : Heap) (locs : List Loc) (ls : Array Slot), qWd E w H → N0 ≤ w.1 → w.1 ≤ N1 → va_S (qAr E) s.heap H locs → lv_has ls M.2.2.1 loc → W p l e R s m args below meth c H locs (w.1 - N0) (qss w.1 - qss N0) Z (F0 m pc ls stk)
def qrm (d N N1 : Nat) : Room := { frames := d, cells := N1 - N, slots := qss N1 - qss N, locals := 60 * d }
def qPost (E : qE) (N1 : Nat) (F : qW → Option Value → Prop) : Array Value → State → Outcome → State → Prop := fun _ st oc t => (∃ (w1 : qW) (v : Option Value), oc = .returned v ∧ F w1 v ∧ w1.1 = N1 ∧ qWd E w1 t.heap) ∧ va_F (qAr E) st t
def qPre (E : qE) (w : qW) (U : State) : Prop := qK E U U.heap ∧ qb E ≤ U.heap.size ∧ qWd E w U.heap
/-- the call of a method: it comes back, with F -/
def Ca (d : Nat) (M : qM) (args : List Value) (E : qE) (w : qW) (N1 : Nat) (F : qW → Option Value → Prop) : Prop :=
  w.1 ≤ N1 ∧ ∀ l : Launch, Met l M.1 (qws M) (qrm d w.1 N1) (va_Pc args (qPre E w)) (qPost E N1 F) (N1 - w.1) (qss N1 - qss w.1) (qAr E)
theorem qss_mono {a b : Nat} (h : a ≤ b) : qss a ≤ qss b := by
  induction b with
  | zero => rw [Nat.le_zero.mp h]; exact Nat.le_refl _
  | succ b ih =>
    rcases Nat.lt_or_ge a (b + 1) with q | q
    · exact Nat.le_trans (ih (Nat.lt_succ_iff.mp q)) (Nat.le_add_right _ _)
    · rw [Nat.le_antisymm h q]
      exact Nat.le_refl _
theorem Ca.mono {d : Nat} {M : qM} {args : List Value} {E : qE} {w : qW} {N1 : Nat} {F F' : qW → Option Value → Prop} (h : Ca d M args E w N1 F) (hF : ∀ w1 v, w1.1 = N1 → F w1 v → F' w1 v) : Ca d M args E w N1 F' := by
  refine ⟨h.1, fun l => ?_⟩
  refine MetFree.mono (h.2 l) (fun _ _ x => x) (fun _ _ _ _ _ x => x) (fun a st o t _ hq => ⟨⟨?_, hq.1.2⟩, hq.2⟩)
  obtain ⟨⟨⟨w1, v, h1, h2, h3, h4⟩, -⟩, -⟩ := hq
  exact ⟨w1, v, h1, hF w1 v h3 h2, h3, h4⟩
/-- into a method -/
theorem Ca.enter {d : Nat} {M : qM} {args : List Value} {E : qE} {w : qW} {N1 : Nat} {F : qW → Option Value → Prop} (hp : plainName M.1.cls = true) (hn : w.1 ≤ N1) (hl : (lg_sl args).length ≤ M.2.2.1) (k : Go d M E w.1 N1 F 0 (lv_args 0 args) [] w) : Ca d M args E w N1 F := by
  refine ⟨hn, fun l => ?_⟩
  refine Met.ofW (cc := M.2.1) (maxL := M.2.2.1) (ret := M.2.2.2) hp rfl ?_
  intro p e s m ar below meth c s₁ B hml hv
  obtain ⟨rfl, hK, hbs, hw⟩ := hv
  have hlocks := B.notSynchronized
  have hts := atoms_spec (ws := qws M) B.pre
  have hlv := lv_entry args hl
  have hr := B.returns
  have h := k p l e (qrm d w.1 N1) s m args.toArray below meth c (MQ below (qPost E N1 F) args.toArray s (N1 - w.1) (qss N1 - qss w.1) (qAr E))
    ⟨B.exec, B.bytes, hml, findClass_of_methodNamed B.named, fun w hw => hts w (List.mem_cons_of_mem _ hw), ⟨Nat.le_refl _, Nat.le_refl _, Nat.le_refl _, Nat.le_refl _⟩, hK, fun h => (name_of_methodNamed B.named B.method).1.trans h, hbs, ?_⟩
    s.heap [] _ hw (Nat.le_refl _) hn va_S.rf hlv
  · rw [lg_entry_eq]
    rw [Nat.sub_self, Nat.sub_self] at h
    exact h
  · intro H locs w1 v pc ls h1 h2 h3 h4 h5
    have hq : ∀ t : State, t.heap = H → s.WarmedH t.vm → qPost E N1 F args.toArray s (.returned v) t := fun t ht _ => ⟨⟨w1, v, rfl, h4, h2, by rw [ht]; exact h1⟩, h3.F ht⟩
    rcases h5 with ⟨x, ty, rfl, e1, e2, e3⟩ | ⟨x, rfl, e1, e3⟩ | ⟨rfl, e1, e3⟩ | ⟨x, C, rfl, e0, e1, e3⟩
    · exact W.zret (v := x) (ty := ty) B.exec B.bytes (hr.trans e1) e2 hq h3.2.2 e3
    · exact W.lret (v := x) B.exec B.bytes (hr.trans e1) hq h3.2.2 e3
    · exact W.vret B.exec B.bytes (hr.trans e1) hq h3.2.2 e3
    · exact W.aret (v := x) (rt := .object C) B.exec B.bytes (hr.trans e1) (Or.inl ⟨C, rfl⟩) e0 hq h3.2.2 e3
end
