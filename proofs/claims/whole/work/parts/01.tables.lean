-- ===== PART A: goes FIRST, ahead of the names: the tables' words, and 'selects' of the private methods out of them =====
/-- a private method of a class that the tables say can be made, by its rows of tables_1 -/
def lw_okq (q : MethodName × Nat) : Prop := (q.1.cls ≠ "java/lang/invoke/MethodHandle" ∧ q.1.cls ≠ "java/lang/invoke/VarHandle") ∧ Cond.instantiable q.1.cls q.2 ∈ tables_1 ∧ Cond.privateMethod q.1 ∈ tables_1 ∧ Cond.instanceMethod q.1 ∈ tables_1
theorem lw_p0 : lw_okq (⟨"GuardsLookLeft$Reader", "next", "()V"⟩, 9) := ⟨⟨by decide +kernel, by decide +kernel⟩, List.mem_of_getElem? (i := 101) (by decide +kernel), List.mem_of_getElem? (i := 336) (by decide +kernel), List.mem_of_getElem? (i := 337) (by decide +kernel)⟩
theorem lw_p1 : lw_okq (⟨"GuardsLookLeft$Reader", "takeWord", "()V"⟩, 9) := ⟨⟨by decide +kernel, by decide +kernel⟩, List.mem_of_getElem? (i := 101) (by decide +kernel), List.mem_of_getElem? (i := 343) (by decide +kernel), List.mem_of_getElem? (i := 344) (by decide +kernel)⟩
theorem lw_p2 : lw_okq (⟨"GuardsLookLeft$Reader", "nameAtHand", "()I"⟩, 9) := ⟨⟨by decide +kernel, by decide +kernel⟩, List.mem_of_getElem? (i := 101) (by decide +kernel), List.mem_of_getElem? (i := 347) (by decide +kernel), List.mem_of_getElem? (i := 348) (by decide +kernel)⟩
theorem lw_p3 : lw_okq (⟨"GuardsLookLeft$Reader", "isWord", "(Ljava/lang/String;)Z"⟩, 9) := ⟨⟨by decide +kernel, by decide +kernel⟩, List.mem_of_getElem? (i := 101) (by decide +kernel), List.mem_of_getElem? (i := 352) (by decide +kernel), List.mem_of_getElem? (i := 353) (by decide +kernel)⟩
theorem lw_p4 : lw_okq (⟨"GuardsLookLeft$Reader", "keyAtHand", "()I"⟩, 9) := ⟨⟨by decide +kernel, by decide +kernel⟩, List.mem_of_getElem? (i := 101) (by decide +kernel), List.mem_of_getElem? (i := 363) (by decide +kernel), List.mem_of_getElem? (i := 364) (by decide +kernel)⟩
theorem lw_p5 : lw_okq (⟨"GuardsLookLeft$Reader", "takeDigits", "()V"⟩, 9) := ⟨⟨by decide +kernel, by decide +kernel⟩, List.mem_of_getElem? (i := 101) (by decide +kernel), List.mem_of_getElem? (i := 376) (by decide +kernel), List.mem_of_getElem? (i := 377) (by decide +kernel)⟩
theorem lw_p6 : lw_okq (⟨"GuardsLookLeft$Reader", "readEither", "(I)Z"⟩, 9) := ⟨⟨by decide +kernel, by decide +kernel⟩, List.mem_of_getElem? (i := 101) (by decide +kernel), List.mem_of_getElem? (i := 385) (by decide +kernel), List.mem_of_getElem? (i := 386) (by decide +kernel)⟩
theorem lw_p7 : lw_okq (⟨"GuardsLookLeft$Reader", "readBoth", "(I)Z"⟩, 9) := ⟨⟨by decide +kernel, by decide +kernel⟩, List.mem_of_getElem? (i := 101) (by decide +kernel), List.mem_of_getElem? (i := 389) (by decide +kernel), List.mem_of_getElem? (i := 390) (by decide +kernel)⟩
theorem lw_p8 : lw_okq (⟨"GuardsLookLeft$Reader", "readNot", "(I)Z"⟩, 9) := ⟨⟨by decide +kernel, by decide +kernel⟩, List.mem_of_getElem? (i := 101) (by decide +kernel), List.mem_of_getElem? (i := 393) (by decide +kernel), List.mem_of_getElem? (i := 394) (by decide +kernel)⟩
theorem lw_p9 : lw_okq (⟨"GuardsLookLeft$Reader", "write", "(I)V"⟩, 9) := ⟨⟨by decide +kernel, by decide +kernel⟩, List.mem_of_getElem? (i := 101) (by decide +kernel), List.mem_of_getElem? (i := 397) (by decide +kernel), List.mem_of_getElem? (i := 398) (by decide +kernel)⟩
theorem lw_p10 : lw_okq (⟨"GuardsLookLeft$Reader", "readSum", "(I)Z"⟩, 9) := ⟨⟨by decide +kernel, by decide +kernel⟩, List.mem_of_getElem? (i := 101) (by decide +kernel), List.mem_of_getElem? (i := 401) (by decide +kernel), List.mem_of_getElem? (i := 402) (by decide +kernel)⟩
theorem lw_p11 : lw_okq (⟨"GuardsLookLeft$Reader", "readTerm", "(I)Z"⟩, 9) := ⟨⟨by decide +kernel, by decide +kernel⟩, List.mem_of_getElem? (i := 101) (by decide +kernel), List.mem_of_getElem? (i := 405) (by decide +kernel), List.mem_of_getElem? (i := 406) (by decide +kernel)⟩
theorem lw_p12 : lw_okq (⟨"GuardsLookLeft$Reader", "readOne", "(I)Z"⟩, 9) := ⟨⟨by decide +kernel, by decide +kernel⟩, List.mem_of_getElem? (i := 101) (by decide +kernel), List.mem_of_getElem? (i := 409) (by decide +kernel), List.mem_of_getElem? (i := 410) (by decide +kernel)⟩
theorem lw_p13 : lw_okq (⟨"GuardsLookLeft$Texts", "value", "(I)I"⟩, 6) := ⟨⟨by decide +kernel, by decide +kernel⟩, List.mem_of_getElem? (i := 138) (by decide +kernel), List.mem_of_getElem? (i := 523) (by decide +kernel), List.mem_of_getElem? (i := 524) (by decide +kernel)⟩
theorem lw_p14 : lw_okq (⟨"GuardsLookLeft", "isGuard", "(I)Z"⟩, 9) := ⟨⟨by decide +kernel, by decide +kernel⟩, List.mem_of_getElem? (i := 22) (by decide +kernel), List.mem_of_getElem? (i := 548) (by decide +kernel), List.mem_of_getElem? (i := 549) (by decide +kernel)⟩
theorem lw_p15 : lw_okq (⟨"GuardsLookLeft$Guards", "beat", "(IJ)I"⟩, 10) := ⟨⟨by decide +kernel, by decide +kernel⟩, List.mem_of_getElem? (i := 44) (by decide +kernel), List.mem_of_getElem? (i := 564) (by decide +kernel), List.mem_of_getElem? (i := 565) (by decide +kernel)⟩
def lw_privs_1 : List (MethodName × Nat) := [(⟨"GuardsLookLeft$Reader", "next", "()V"⟩, 9), (⟨"GuardsLookLeft$Reader", "takeWord", "()V"⟩, 9), (⟨"GuardsLookLeft$Reader", "nameAtHand", "()I"⟩, 9), (⟨"GuardsLookLeft$Reader", "isWord", "(Ljava/lang/String;)Z"⟩, 9), (⟨"GuardsLookLeft$Reader", "keyAtHand", "()I"⟩, 9), (⟨"GuardsLookLeft$Reader", "takeDigits", "()V"⟩, 9), (⟨"GuardsLookLeft$Reader", "readEither", "(I)Z"⟩, 9), (⟨"GuardsLookLeft$Reader", "readBoth", "(I)Z"⟩, 9), (⟨"GuardsLookLeft$Reader", "readNot", "(I)Z"⟩, 9), (⟨"GuardsLookLeft$Reader", "write", "(I)V"⟩, 9), (⟨"GuardsLookLeft$Reader", "readSum", "(I)Z"⟩, 9), (⟨"GuardsLookLeft$Reader", "readTerm", "(I)Z"⟩, 9), (⟨"GuardsLookLeft$Reader", "readOne", "(I)Z"⟩, 9), (⟨"GuardsLookLeft$Texts", "value", "(I)I"⟩, 6), (⟨"GuardsLookLeft", "isGuard", "(I)Z"⟩, 9), (⟨"GuardsLookLeft$Guards", "beat", "(IJ)I"⟩, 10)]
theorem lw_r1 : ∀ q ∈ lw_privs_1, lw_okq q := List.forall_mem_cons.mpr ⟨lw_p0, List.forall_mem_cons.mpr ⟨lw_p1, List.forall_mem_cons.mpr ⟨lw_p2, List.forall_mem_cons.mpr ⟨lw_p3, List.forall_mem_cons.mpr ⟨lw_p4, List.forall_mem_cons.mpr ⟨lw_p5, List.forall_mem_cons.mpr ⟨lw_p6, List.forall_mem_cons.mpr ⟨lw_p7, List.forall_mem_cons.mpr ⟨lw_p8, List.forall_mem_cons.mpr ⟨lw_p9, List.forall_mem_cons.mpr ⟨lw_p10, List.forall_mem_cons.mpr ⟨lw_p11, List.forall_mem_cons.mpr ⟨lw_p12, List.forall_mem_cons.mpr ⟨lw_p13, List.forall_mem_cons.mpr ⟨lw_p14, List.forall_mem_cons.mpr ⟨lw_p15, fun _ h => absurd h List.not_mem_nil⟩⟩⟩⟩⟩⟩⟩⟩⟩⟩⟩⟩⟩⟩⟩⟩
theorem lw_p16 : lw_okq (⟨"GuardsLookLeft$Guards", "isLooking", "(II)Z"⟩, 10) := ⟨⟨by decide +kernel, by decide +kernel⟩, List.mem_of_getElem? (i := 44) (by decide +kernel), List.mem_of_getElem? (i := 577) (by decide +kernel), List.mem_of_getElem? (i := 578) (by decide +kernel)⟩
theorem lw_p17 : lw_okq (⟨"GuardsLookLeft", "seenNow", "()[J"⟩, 9) := ⟨⟨by decide +kernel, by decide +kernel⟩, List.mem_of_getElem? (i := 22) (by decide +kernel), List.mem_of_getElem? (i := 607) (by decide +kernel), List.mem_of_getElem? (i := 608) (by decide +kernel)⟩
theorem lw_p18 : lw_okq (⟨"GuardsLookLeft$Watch", "addKnown", "(I)V"⟩, 9) := ⟨⟨by decide +kernel, by decide +kernel⟩, List.mem_of_getElem? (i := 168) (by decide +kernel), List.mem_of_getElem? (i := 623) (by decide +kernel), List.mem_of_getElem? (i := 624) (by decide +kernel)⟩
theorem lw_p19 : lw_okq (⟨"GuardsLookLeft", "worthUnseen", "([J)I"⟩, 9) := ⟨⟨by decide +kernel, by decide +kernel⟩, List.mem_of_getElem? (i := 22) (by decide +kernel), List.mem_of_getElem? (i := 645) (by decide +kernel), List.mem_of_getElem? (i := 646) (by decide +kernel)⟩
theorem lw_p20 : lw_okq (⟨"GuardsLookLeft$Watch", "addFound", "(I)V"⟩, 9) := ⟨⟨by decide +kernel, by decide +kernel⟩, List.mem_of_getElem? (i := 168) (by decide +kernel), List.mem_of_getElem? (i := 724) (by decide +kernel), List.mem_of_getElem? (i := 725) (by decide +kernel)⟩
theorem lw_p21 : lw_okq (⟨"GuardsLookLeft", "holdsWithout", "(IJI)Z"⟩, 9) := ⟨⟨by decide +kernel, by decide +kernel⟩, List.mem_of_getElem? (i := 22) (by decide +kernel), List.mem_of_getElem? (i := 740) (by decide +kernel), List.mem_of_getElem? (i := 741) (by decide +kernel)⟩
theorem lw_p22 : lw_okq (⟨"GuardsLookLeft", "refusalOfTold", "(II)I"⟩, 9) := ⟨⟨by decide +kernel, by decide +kernel⟩, List.mem_of_getElem? (i := 22) (by decide +kernel), List.mem_of_getElem? (i := 757) (by decide +kernel), List.mem_of_getElem? (i := 758) (by decide +kernel)⟩
theorem lw_p23 : lw_okq (⟨"GuardsLookLeftModel", "next", "()V"⟩, 41) := ⟨⟨by decide +kernel, by decide +kernel⟩, List.mem_of_getElem? (i := 865) (by decide +kernel), List.mem_of_getElem? (i := 875) (by decide +kernel), List.mem_of_getElem? (i := 876) (by decide +kernel)⟩
theorem lw_p24 : lw_okq (⟨"GuardsLookLeftModel", "wordFrom", "(II)I"⟩, 41) := ⟨⟨by decide +kernel, by decide +kernel⟩, List.mem_of_getElem? (i := 865) (by decide +kernel), List.mem_of_getElem? (i := 882) (by decide +kernel), List.mem_of_getElem? (i := 883) (by decide +kernel)⟩
theorem lw_p25 : lw_okq (⟨"GuardsLookLeftModel", "eRead", "()Z"⟩, 41) := ⟨⟨by decide +kernel, by decide +kernel⟩, List.mem_of_getElem? (i := 865) (by decide +kernel), List.mem_of_getElem? (i := 886) (by decide +kernel), List.mem_of_getElem? (i := 887) (by decide +kernel)⟩
theorem lw_p26 : lw_okq (⟨"GuardsLookLeftModel", "puts", "(I)V"⟩, 41) := ⟨⟨by decide +kernel, by decide +kernel⟩, List.mem_of_getElem? (i := 865) (by decide +kernel), List.mem_of_getElem? (i := 891) (by decide +kernel), List.mem_of_getElem? (i := 892) (by decide +kernel)⟩
theorem lw_p27 : lw_okq (⟨"GuardsLookLeftModel", "unwinds", "(I)V"⟩, 41) := ⟨⟨by decide +kernel, by decide +kernel⟩, List.mem_of_getElem? (i := 865) (by decide +kernel), List.mem_of_getElem? (i := 895) (by decide +kernel), List.mem_of_getElem? (i := 896) (by decide +kernel)⟩
theorem lw_p28 : lw_okq (⟨"GuardsLookLeftModel", "opensOne", "(I)Z"⟩, 41) := ⟨⟨by decide +kernel, by decide +kernel⟩, List.mem_of_getElem? (i := 865) (by decide +kernel), List.mem_of_getElem? (i := 902) (by decide +kernel), List.mem_of_getElem? (i := 903) (by decide +kernel)⟩
theorem lw_p29 : lw_okq (⟨"GuardsLookLeftModel", "holds", "(I)V"⟩, 41) := ⟨⟨by decide +kernel, by decide +kernel⟩, List.mem_of_getElem? (i := 865) (by decide +kernel), List.mem_of_getElem? (i := 906) (by decide +kernel), List.mem_of_getElem? (i := 907) (by decide +kernel)⟩
theorem lw_p30 : lw_okq (⟨"GuardsLookLeftModel", "signOf", "()I"⟩, 41) := ⟨⟨by decide +kernel, by decide +kernel⟩, List.mem_of_getElem? (i := 865) (by decide +kernel), List.mem_of_getElem? (i := 910) (by decide +kernel), List.mem_of_getElem? (i := 911) (by decide +kernel)⟩
theorem lw_p31 : lw_okq (⟨"GuardsLookLeftModel", "between", "(I)Z"⟩, 41) := ⟨⟨by decide +kernel, by decide +kernel⟩, List.mem_of_getElem? (i := 865) (by decide +kernel), List.mem_of_getElem? (i := 914) (by decide +kernel), List.mem_of_getElem? (i := 915) (by decide +kernel)⟩
def lw_privs_2 : List (MethodName × Nat) := [(⟨"GuardsLookLeft$Guards", "isLooking", "(II)Z"⟩, 10), (⟨"GuardsLookLeft", "seenNow", "()[J"⟩, 9), (⟨"GuardsLookLeft$Watch", "addKnown", "(I)V"⟩, 9), (⟨"GuardsLookLeft", "worthUnseen", "([J)I"⟩, 9), (⟨"GuardsLookLeft$Watch", "addFound", "(I)V"⟩, 9), (⟨"GuardsLookLeft", "holdsWithout", "(IJI)Z"⟩, 9), (⟨"GuardsLookLeft", "refusalOfTold", "(II)I"⟩, 9), (⟨"GuardsLookLeftModel", "next", "()V"⟩, 41), (⟨"GuardsLookLeftModel", "wordFrom", "(II)I"⟩, 41), (⟨"GuardsLookLeftModel", "eRead", "()Z"⟩, 41), (⟨"GuardsLookLeftModel", "puts", "(I)V"⟩, 41), (⟨"GuardsLookLeftModel", "unwinds", "(I)V"⟩, 41), (⟨"GuardsLookLeftModel", "opensOne", "(I)Z"⟩, 41), (⟨"GuardsLookLeftModel", "holds", "(I)V"⟩, 41), (⟨"GuardsLookLeftModel", "signOf", "()I"⟩, 41), (⟨"GuardsLookLeftModel", "between", "(I)Z"⟩, 41)]
theorem lw_r2 : ∀ q ∈ lw_privs_2, lw_okq q := List.forall_mem_cons.mpr ⟨lw_p16, List.forall_mem_cons.mpr ⟨lw_p17, List.forall_mem_cons.mpr ⟨lw_p18, List.forall_mem_cons.mpr ⟨lw_p19, List.forall_mem_cons.mpr ⟨lw_p20, List.forall_mem_cons.mpr ⟨lw_p21, List.forall_mem_cons.mpr ⟨lw_p22, List.forall_mem_cons.mpr ⟨lw_p23, List.forall_mem_cons.mpr ⟨lw_p24, List.forall_mem_cons.mpr ⟨lw_p25, List.forall_mem_cons.mpr ⟨lw_p26, List.forall_mem_cons.mpr ⟨lw_p27, List.forall_mem_cons.mpr ⟨lw_p28, List.forall_mem_cons.mpr ⟨lw_p29, List.forall_mem_cons.mpr ⟨lw_p30, List.forall_mem_cons.mpr ⟨lw_p31, fun _ h => absurd h List.not_mem_nil⟩⟩⟩⟩⟩⟩⟩⟩⟩⟩⟩⟩⟩⟩⟩⟩
theorem lw_p32 : lw_okq (⟨"GuardsLookLeftModel", "asksOf", "(IIIIIII)I"⟩, 41) := ⟨⟨by decide +kernel, by decide +kernel⟩, List.mem_of_getElem? (i := 865) (by decide +kernel), List.mem_of_getElem? (i := 1092) (by decide +kernel), List.mem_of_getElem? (i := 1093) (by decide +kernel)⟩
theorem lw_p33 : lw_okq (⟨"GuardsLookLeftModel", "worth", "(I)I"⟩, 41) := ⟨⟨by decide +kernel, by decide +kernel⟩, List.mem_of_getElem? (i := 865) (by decide +kernel), List.mem_of_getElem? (i := 1096) (by decide +kernel), List.mem_of_getElem? (i := 1097) (by decide +kernel)⟩
theorem lw_p34 : lw_okq (⟨"GuardsLookLeftModel", "isGuard", "(I)Z"⟩, 41) := ⟨⟨by decide +kernel, by decide +kernel⟩, List.mem_of_getElem? (i := 865) (by decide +kernel), List.mem_of_getElem? (i := 1114) (by decide +kernel), List.mem_of_getElem? (i := 1115) (by decide +kernel)⟩
theorem lw_p35 : lw_okq (⟨"GuardsLookLeftModel", "stands", "(II)I"⟩, 41) := ⟨⟨by decide +kernel, by decide +kernel⟩, List.mem_of_getElem? (i := 865) (by decide +kernel), List.mem_of_getElem? (i := 1126) (by decide +kernel), List.mem_of_getElem? (i := 1127) (by decide +kernel)⟩
theorem lw_p36 : lw_okq (⟨"GuardsLookLeftModel", "beat", "(I)I"⟩, 41) := ⟨⟨by decide +kernel, by decide +kernel⟩, List.mem_of_getElem? (i := 865) (by decide +kernel), List.mem_of_getElem? (i := 1130) (by decide +kernel), List.mem_of_getElem? (i := 1131) (by decide +kernel)⟩
theorem lw_p37 : lw_okq (⟨"GuardsLookLeftModel", "beside", "(II)I"⟩, 41) := ⟨⟨by decide +kernel, by decide +kernel⟩, List.mem_of_getElem? (i := 865) (by decide +kernel), List.mem_of_getElem? (i := 1134) (by decide +kernel), List.mem_of_getElem? (i := 1135) (by decide +kernel)⟩
theorem lw_p38 : lw_okq (⟨"GuardsLookLeftModel", "walked", "(II)I"⟩, 41) := ⟨⟨by decide +kernel, by decide +kernel⟩, List.mem_of_getElem? (i := 865) (by decide +kernel), List.mem_of_getElem? (i := 1138) (by decide +kernel), List.mem_of_getElem? (i := 1139) (by decide +kernel)⟩
theorem lw_p39 : lw_okq (⟨"GuardsLookLeftModel", "own", "(II)I"⟩, 41) := ⟨⟨by decide +kernel, by decide +kernel⟩, List.mem_of_getElem? (i := 865) (by decide +kernel), List.mem_of_getElem? (i := 1142) (by decide +kernel), List.mem_of_getElem? (i := 1143) (by decide +kernel)⟩
theorem lw_p40 : lw_okq (⟨"GuardsLookLeftModel", "steps", "(II)I"⟩, 41) := ⟨⟨by decide +kernel, by decide +kernel⟩, List.mem_of_getElem? (i := 865) (by decide +kernel), List.mem_of_getElem? (i := 1146) (by decide +kernel), List.mem_of_getElem? (i := 1147) (by decide +kernel)⟩
theorem lw_p41 : lw_okq (⟨"GuardsLookLeftModel", "turned", "(II)I"⟩, 41) := ⟨⟨by decide +kernel, by decide +kernel⟩, List.mem_of_getElem? (i := 865) (by decide +kernel), List.mem_of_getElem? (i := 1150) (by decide +kernel), List.mem_of_getElem? (i := 1151) (by decide +kernel)⟩
theorem lw_p42 : lw_okq (⟨"GuardsLookLeftModel", "looks", "(II)Z"⟩, 41) := ⟨⟨by decide +kernel, by decide +kernel⟩, List.mem_of_getElem? (i := 865) (by decide +kernel), List.mem_of_getElem? (i := 1154) (by decide +kernel), List.mem_of_getElem? (i := 1155) (by decide +kernel)⟩
theorem lw_p43 : lw_okq (⟨"GuardsLookLeftModel", "seenBy", "(II)J"⟩, 41) := ⟨⟨by decide +kernel, by decide +kernel⟩, List.mem_of_getElem? (i := 865) (by decide +kernel), List.mem_of_getElem? (i := 1162) (by decide +kernel), List.mem_of_getElem? (i := 1163) (by decide +kernel)⟩
theorem lw_p44 : lw_okq (⟨"GuardsLookLeftModel", "lit", "(I)I"⟩, 41) := ⟨⟨by decide +kernel, by decide +kernel⟩, List.mem_of_getElem? (i := 865) (by decide +kernel), List.mem_of_getElem? (i := 1166) (by decide +kernel), List.mem_of_getElem? (i := 1167) (by decide +kernel)⟩
theorem lw_p45 : lw_okq (⟨"GuardsLookLeftModel", "watchesAll", "()V"⟩, 41) := ⟨⟨by decide +kernel, by decide +kernel⟩, List.mem_of_getElem? (i := 865) (by decide +kernel), List.mem_of_getElem? (i := 1174) (by decide +kernel), List.mem_of_getElem? (i := 1175) (by decide +kernel)⟩
theorem lw_p46 : lw_okq (⟨"GuardsLookLeftModel", "watches", "(I)V"⟩, 41) := ⟨⟨by decide +kernel, by decide +kernel⟩, List.mem_of_getElem? (i := 865) (by decide +kernel), List.mem_of_getElem? (i := 1178) (by decide +kernel), List.mem_of_getElem? (i := 1179) (by decide +kernel)⟩
theorem lw_p47 : lw_okq (⟨"GuardsLookLeftModel", "allGuards", "()I"⟩, 41) := ⟨⟨by decide +kernel, by decide +kernel⟩, List.mem_of_getElem? (i := 865) (by decide +kernel), List.mem_of_getElem? (i := 1182) (by decide +kernel), List.mem_of_getElem? (i := 1183) (by decide +kernel)⟩
def lw_privs_3 : List (MethodName × Nat) := [(⟨"GuardsLookLeftModel", "asksOf", "(IIIIIII)I"⟩, 41), (⟨"GuardsLookLeftModel", "worth", "(I)I"⟩, 41), (⟨"GuardsLookLeftModel", "isGuard", "(I)Z"⟩, 41), (⟨"GuardsLookLeftModel", "stands", "(II)I"⟩, 41), (⟨"GuardsLookLeftModel", "beat", "(I)I"⟩, 41), (⟨"GuardsLookLeftModel", "beside", "(II)I"⟩, 41), (⟨"GuardsLookLeftModel", "walked", "(II)I"⟩, 41), (⟨"GuardsLookLeftModel", "own", "(II)I"⟩, 41), (⟨"GuardsLookLeftModel", "steps", "(II)I"⟩, 41), (⟨"GuardsLookLeftModel", "turned", "(II)I"⟩, 41), (⟨"GuardsLookLeftModel", "looks", "(II)Z"⟩, 41), (⟨"GuardsLookLeftModel", "seenBy", "(II)J"⟩, 41), (⟨"GuardsLookLeftModel", "lit", "(I)I"⟩, 41), (⟨"GuardsLookLeftModel", "watchesAll", "()V"⟩, 41), (⟨"GuardsLookLeftModel", "watches", "(I)V"⟩, 41), (⟨"GuardsLookLeftModel", "allGuards", "()I"⟩, 41)]
theorem lw_r3 : ∀ q ∈ lw_privs_3, lw_okq q := List.forall_mem_cons.mpr ⟨lw_p32, List.forall_mem_cons.mpr ⟨lw_p33, List.forall_mem_cons.mpr ⟨lw_p34, List.forall_mem_cons.mpr ⟨lw_p35, List.forall_mem_cons.mpr ⟨lw_p36, List.forall_mem_cons.mpr ⟨lw_p37, List.forall_mem_cons.mpr ⟨lw_p38, List.forall_mem_cons.mpr ⟨lw_p39, List.forall_mem_cons.mpr ⟨lw_p40, List.forall_mem_cons.mpr ⟨lw_p41, List.forall_mem_cons.mpr ⟨lw_p42, List.forall_mem_cons.mpr ⟨lw_p43, List.forall_mem_cons.mpr ⟨lw_p44, List.forall_mem_cons.mpr ⟨lw_p45, List.forall_mem_cons.mpr ⟨lw_p46, List.forall_mem_cons.mpr ⟨lw_p47, fun _ h => absurd h List.not_mem_nil⟩⟩⟩⟩⟩⟩⟩⟩⟩⟩⟩⟩⟩⟩⟩⟩
theorem lw_p48 : lw_okq (⟨"GuardsLookLeftModel", "seenAt", "(II)J"⟩, 41) := ⟨⟨by decide +kernel, by decide +kernel⟩, List.mem_of_getElem? (i := 865) (by decide +kernel), List.mem_of_getElem? (i := 1186) (by decide +kernel), List.mem_of_getElem? (i := 1187) (by decide +kernel)⟩
theorem lw_p49 : lw_okq (⟨"GuardsLookLeftModel", "aloneBy", "(II)I"⟩, 41) := ⟨⟨by decide +kernel, by decide +kernel⟩, List.mem_of_getElem? (i := 865) (by decide +kernel), List.mem_of_getElem? (i := 1194) (by decide +kernel), List.mem_of_getElem? (i := 1195) (by decide +kernel)⟩
theorem lw_p50 : lw_okq (⟨"GuardsLookLeftModel", "findsGaps", "()V"⟩, 41) := ⟨⟨by decide +kernel, by decide +kernel⟩, List.mem_of_getElem? (i := 865) (by decide +kernel), List.mem_of_getElem? (i := 1210) (by decide +kernel), List.mem_of_getElem? (i := 1211) (by decide +kernel)⟩
theorem lw_p51 : lw_okq (⟨"GuardsLookLeftModel", "worthUnseen", "()I"⟩, 41) := ⟨⟨by decide +kernel, by decide +kernel⟩, List.mem_of_getElem? (i := 865) (by decide +kernel), List.mem_of_getElem? (i := 1214) (by decide +kernel), List.mem_of_getElem? (i := 1215) (by decide +kernel)⟩
theorem lw_p52 : lw_okq (⟨"GuardsLookLeftModel", "sneaks", "(II)V"⟩, 41) := ⟨⟨by decide +kernel, by decide +kernel⟩, List.mem_of_getElem? (i := 865) (by decide +kernel), List.mem_of_getElem? (i := 1222) (by decide +kernel), List.mem_of_getElem? (i := 1223) (by decide +kernel)⟩
theorem lw_p53 : lw_okq (⟨"GuardsLookLeftModel", "spread", "(J)J"⟩, 41) := ⟨⟨by decide +kernel, by decide +kernel⟩, List.mem_of_getElem? (i := 865) (by decide +kernel), List.mem_of_getElem? (i := 1226) (by decide +kernel), List.mem_of_getElem? (i := 1227) (by decide +kernel)⟩
theorem lw_p54 : lw_okq (⟨"GuardsLookLeftModel", "soonest", "(I)I"⟩, 41) := ⟨⟨by decide +kernel, by decide +kernel⟩, List.mem_of_getElem? (i := 865) (by decide +kernel), List.mem_of_getElem? (i := 1232) (by decide +kernel), List.mem_of_getElem? (i := 1233) (by decide +kernel)⟩
theorem lw_p55 : lw_okq (⟨"GuardsLookLeftModel", "was", "(II)I"⟩, 41) := ⟨⟨by decide +kernel, by decide +kernel⟩, List.mem_of_getElem? (i := 865) (by decide +kernel), List.mem_of_getElem? (i := 1240) (by decide +kernel), List.mem_of_getElem? (i := 1241) (by decide +kernel)⟩
theorem lw_p56 : lw_okq (⟨"GuardsLookLeftModel", "whenFrom", "(II)I"⟩, 41) := ⟨⟨by decide +kernel, by decide +kernel⟩, List.mem_of_getElem? (i := 865) (by decide +kernel), List.mem_of_getElem? (i := 1252) (by decide +kernel), List.mem_of_getElem? (i := 1253) (by decide +kernel)⟩
theorem lw_p57 : lw_okq (⟨"GuardsLookLeftModel", "holdsBy", "(JII)Z"⟩, 41) := ⟨⟨by decide +kernel, by decide +kernel⟩, List.mem_of_getElem? (i := 865) (by decide +kernel), List.mem_of_getElem? (i := 1268) (by decide +kernel), List.mem_of_getElem? (i := 1269) (by decide +kernel)⟩
theorem lw_p58 : lw_okq (⟨"GuardsLookLeftModel", "sheetWrong", "(II)I"⟩, 41) := ⟨⟨by decide +kernel, by decide +kernel⟩, List.mem_of_getElem? (i := 865) (by decide +kernel), List.mem_of_getElem? (i := 1284) (by decide +kernel), List.mem_of_getElem? (i := 1285) (by decide +kernel)⟩
theorem lw_p59 : lw_okq (⟨"GuardsLookLeftModel", "unlike", "(III)I"⟩, 41) := ⟨⟨by decide +kernel, by decide +kernel⟩, List.mem_of_getElem? (i := 865) (by decide +kernel), List.mem_of_getElem? (i := 1288) (by decide +kernel), List.mem_of_getElem? (i := 1289) (by decide +kernel)⟩
theorem lw_p60 : lw_okq (⟨"GuardsLookLeftModel", "worstBy", "(I)I"⟩, 41) := ⟨⟨by decide +kernel, by decide +kernel⟩, List.mem_of_getElem? (i := 865) (by decide +kernel), List.mem_of_getElem? (i := 1316) (by decide +kernel), List.mem_of_getElem? (i := 1317) (by decide +kernel)⟩
def lw_privs_4 : List (MethodName × Nat) := [(⟨"GuardsLookLeftModel", "seenAt", "(II)J"⟩, 41), (⟨"GuardsLookLeftModel", "aloneBy", "(II)I"⟩, 41), (⟨"GuardsLookLeftModel", "findsGaps", "()V"⟩, 41), (⟨"GuardsLookLeftModel", "worthUnseen", "()I"⟩, 41), (⟨"GuardsLookLeftModel", "sneaks", "(II)V"⟩, 41), (⟨"GuardsLookLeftModel", "spread", "(J)J"⟩, 41), (⟨"GuardsLookLeftModel", "soonest", "(I)I"⟩, 41), (⟨"GuardsLookLeftModel", "was", "(II)I"⟩, 41), (⟨"GuardsLookLeftModel", "whenFrom", "(II)I"⟩, 41), (⟨"GuardsLookLeftModel", "holdsBy", "(JII)Z"⟩, 41), (⟨"GuardsLookLeftModel", "sheetWrong", "(II)I"⟩, 41), (⟨"GuardsLookLeftModel", "unlike", "(III)I"⟩, 41), (⟨"GuardsLookLeftModel", "worstBy", "(I)I"⟩, 41)]
theorem lw_r4 : ∀ q ∈ lw_privs_4, lw_okq q := List.forall_mem_cons.mpr ⟨lw_p48, List.forall_mem_cons.mpr ⟨lw_p49, List.forall_mem_cons.mpr ⟨lw_p50, List.forall_mem_cons.mpr ⟨lw_p51, List.forall_mem_cons.mpr ⟨lw_p52, List.forall_mem_cons.mpr ⟨lw_p53, List.forall_mem_cons.mpr ⟨lw_p54, List.forall_mem_cons.mpr ⟨lw_p55, List.forall_mem_cons.mpr ⟨lw_p56, List.forall_mem_cons.mpr ⟨lw_p57, List.forall_mem_cons.mpr ⟨lw_p58, List.forall_mem_cons.mpr ⟨lw_p59, List.forall_mem_cons.mpr ⟨lw_p60, fun _ h => absurd h List.not_mem_nil⟩⟩⟩⟩⟩⟩⟩⟩⟩⟩⟩⟩⟩
def lw_privs : List (MethodName × Nat) := lw_privs_1 ++ (lw_privs_2 ++ (lw_privs_3 ++ (lw_privs_4)))
def lw_tbl : List Cond := k2_sels lw_privs ++ tables_1
theorem lw_privs_ok : ∀ q ∈ lw_privs, lw_okq q := by
  show ∀ q ∈ lw_privs_1 ++ (lw_privs_2 ++ (lw_privs_3 ++ (lw_privs_4))), lw_okq q
  exact List.forall_mem_append.mpr ⟨lw_r1, List.forall_mem_append.mpr ⟨lw_r2, List.forall_mem_append.mpr ⟨lw_r3, lw_r4⟩⟩⟩


def WS : List Cond := lw_tbl.filter goodWord
theorem ws1 {i : Nat} {w : Cond} (e : tables_1_1[i]? = some w) (g : goodWord w = true) : w ∈ WS := List.mem_filter.mpr ⟨List.mem_append_right _ (List.mem_append_left _ (List.mem_of_getElem? e)), g⟩
theorem ws2 {i : Nat} {w : Cond} (e : tables_1_2[i]? = some w) (g : goodWord w = true) : w ∈ WS := List.mem_filter.mpr ⟨List.mem_append_right _ (List.mem_append_right _ (List.mem_append_left _ (List.mem_of_getElem? e))), g⟩
theorem ws3 {i : Nat} {w : Cond} (e : tables_1_3[i]? = some w) (g : goodWord w = true) : w ∈ WS := List.mem_filter.mpr ⟨List.mem_append_right _ (List.mem_append_right _ (List.mem_append_right _ (List.mem_append_left _ (List.mem_of_getElem? e)))), g⟩
theorem ws4 {i : Nat} {w : Cond} (e : tables_1_4[i]? = some w) (g : goodWord w = true) : w ∈ WS := List.mem_filter.mpr ⟨List.mem_append_right _ (List.mem_append_right _ (List.mem_append_right _ (List.mem_append_right _ (List.mem_append_left _ (List.mem_of_getElem? e))))), g⟩
theorem ws5 {i : Nat} {w : Cond} (e : tables_1_5[i]? = some w) (g : goodWord w = true) : w ∈ WS := List.mem_filter.mpr ⟨List.mem_append_right _ (List.mem_append_right _ (List.mem_append_right _ (List.mem_append_right _ (List.mem_append_right _ (List.mem_append_left _ (List.mem_of_getElem? e)))))), g⟩
theorem ws6 {i : Nat} {w : Cond} (e : tables_1_6[i]? = some w) (g : goodWord w = true) : w ∈ WS := List.mem_filter.mpr ⟨List.mem_append_right _ (List.mem_append_right _ (List.mem_append_right _ (List.mem_append_right _ (List.mem_append_right _ (List.mem_append_right _ (List.mem_of_getElem? e)))))), g⟩
theorem wsP {i : Nat} {q : MethodName × Nat} {w : Cond} (e : lw_privs[i]? = some q) (h : Cond.selects q.1.cls q.1 q.1 = w) : w ∈ WS := by subst h; exact List.mem_filter.mpr ⟨List.mem_append_left _ (List.mem_map.mpr ⟨q, List.mem_of_getElem? e, rfl⟩), rfl⟩
theorem wk_1_0 : (Cond.initialized "GuardsLookLeftLaw") ∈ WS := ws1 (i := 0) rfl rfl
theorem wk_1_1 : (Cond.initialized "GuardsLookLeft") ∈ WS := ws1 (i := 1) rfl rfl
theorem wk_1_2 : (Cond.initialized "GuardsLookLeft$Palace") ∈ WS := ws1 (i := 2) rfl rfl
theorem wk_1_3 : (Cond.initialized "GuardsLookLeft$Guards") ∈ WS := ws1 (i := 3) rfl rfl
theorem wk_1_4 : (Cond.initialized "GuardsLookLeft$Reader") ∈ WS := ws1 (i := 4) rfl rfl
theorem wk_1_5 : (Cond.initialized "GuardsLookLeft$Texts") ∈ WS := ws1 (i := 5) rfl rfl
theorem wk_1_6 : (Cond.initialized "GuardsLookLeft$Watch") ∈ WS := ws1 (i := 6) rfl rfl
theorem wk_1_7 : (Cond.initialized "GuardsLookLeft$Gaps") ∈ WS := ws1 (i := 7) rfl rfl
theorem wk_1_8 : (Cond.initialized "GuardsLookLeft$Thief") ∈ WS := ws1 (i := 8) rfl rfl
theorem wk_1_9 : (Cond.initialized "GuardsLookLeft$Image") ∈ WS := ws1 (i := 9) rfl rfl
theorem wk_1_10 : (Cond.initialized "GuardsLookLeft$Sheet") ∈ WS := ws1 (i := 10) rfl rfl
theorem wk_1_11 : (Cond.initialized "java/lang/String") ∈ WS := ws1 (i := 11) rfl rfl
theorem wk_1_12 : (Cond.initialized "java/lang/StringLatin1") ∈ WS := ws1 (i := 12) rfl rfl
theorem wk_1_13 : (Cond.initialized "jdk/internal/util/Preconditions") ∈ WS := ws1 (i := 13) rfl rfl
theorem wk_1_14 : (Cond.initialized "java/lang/StringUTF16") ∈ WS := ws1 (i := 14) rfl rfl
theorem wk_1_15 : (Cond.initialized "java/lang/System") ∈ WS := ws1 (i := 15) rfl rfl
theorem wk_1_16 : (Cond.initialized "GuardsLookLeftModel") ∈ WS := ws1 (i := 16) rfl rfl
theorem wk_1_17 : (Cond.initialized "java/lang/Long") ∈ WS := ws1 (i := 17) rfl rfl
theorem wk_1_18 : (Cond.initialized "java/lang/Math") ∈ WS := ws1 (i := 18) rfl rfl
theorem wk_1_19 : (Cond.initialized "java/util/Arrays") ∈ WS := ws1 (i := 19) rfl rfl
theorem wk_1_20 : (Cond.initialized "java/lang/Integer") ∈ WS := ws1 (i := 20) rfl rfl
theorem wk_1_21 : (Cond.classLink "GuardsLookLeftLaw" (7 : Nat) "GuardsLookLeft") ∈ WS := ws1 (i := 21) rfl rfl
theorem wk_1_22 : (Cond.instantiable "GuardsLookLeft" (9 : Nat)) ∈ WS := ws1 (i := 22) rfl rfl
theorem wk_1_23 : (Cond.methodLink "GuardsLookLeftLaw" (9 : Nat) ({ cls := "GuardsLookLeft", name := "<init>", desc := "()V" } : MethodName)) ∈ WS := ws1 (i := 23) rfl rfl
theorem wk_1_24 : (Cond.instanceMethod ({ cls := "GuardsLookLeft", name := "<init>", desc := "()V" } : MethodName)) ∈ WS := ws1 (i := 24) rfl rfl
theorem wk_1_25 : (Cond.code ({ cls := "GuardsLookLeft", name := "<init>", desc := "()V" } : MethodName) prog_1_method_1_code (2 : Nat) (Option.none : Option ClassFile.FieldType)) ∈ WS := ws1 (i := 25) rfl rfl
theorem wk_1_26 : (Cond.methodLink "GuardsLookLeft" (3 : Nat) ({ cls := "java/lang/Object", name := "<init>", desc := "()V" } : MethodName)) ∈ WS := ws1 (i := 26) rfl rfl
theorem wk_1_27 : (Cond.instanceMethod ({ cls := "java/lang/Object", name := "<init>", desc := "()V" } : MethodName)) ∈ WS := ws1 (i := 27) rfl rfl
theorem wk_1_28 : (Cond.code ({ cls := "java/lang/Object", name := "<init>", desc := "()V" } : MethodName) object_method_1_code (1 : Nat) (Option.none : Option ClassFile.FieldType)) ∈ WS := ws1 (i := 28) rfl rfl
theorem wk_1_29 : (Cond.classLink "GuardsLookLeft" (9 : Nat) "GuardsLookLeft$Palace") ∈ WS := ws1 (i := 29) rfl rfl
theorem wk_1_30 : (Cond.instantiable "GuardsLookLeft$Palace" (1 : Nat)) ∈ WS := ws1 (i := 30) rfl rfl
theorem wk_1_32 : (Cond.instanceMethod ({ cls := "GuardsLookLeft$Palace", name := "<init>", desc := "()V" } : MethodName)) ∈ WS := ws1 (i := 32) rfl rfl
theorem wk_1_33 : (Cond.code ({ cls := "GuardsLookLeft$Palace", name := "<init>", desc := "()V" } : MethodName) prog_5_method_1_code (1 : Nat) (Option.none : Option ClassFile.FieldType)) ∈ WS := ws1 (i := 33) rfl rfl
theorem wk_1_34 : (Cond.methodLink "GuardsLookLeft$Palace" (3 : Nat) ({ cls := "java/lang/Object", name := "<init>", desc := "()V" } : MethodName)) ∈ WS := ws1 (i := 34) rfl rfl
theorem wk_1_35 : (Cond.fieldLink "GuardsLookLeft$Palace" (9 : Nat) "GuardsLookLeft$Palace" "layers" "[J") ∈ WS := ws1 (i := 35) rfl rfl
theorem wk_1_36 : (Cond.fieldLink "GuardsLookLeft$Watch" (42 : Nat) "GuardsLookLeft$Palace" "layers" "[J") ∈ WS := ws1 (i := 36) rfl rfl
theorem wk_1_37 : (Cond.fieldLink "GuardsLookLeft$Image" (36 : Nat) "GuardsLookLeft$Palace" "layers" "[J") ∈ WS := ws1 (i := 37) rfl rfl
theorem wk_1_38 : (Cond.fieldLink "GuardsLookLeft" (126 : Nat) "GuardsLookLeft$Palace" "layers" "[J") ∈ WS := ws1 (i := 38) rfl rfl
theorem wk_1_39 : (Cond.laysFinal "GuardsLookLeft$Palace" "GuardsLookLeft$Palace" "layers" "[J") ∈ WS := ws1 (i := 39) rfl rfl
theorem wk_1_42 : (Cond.arrayClass ClassFile.FieldType.long) ∈ WS := ws1 (i := 42) rfl rfl
theorem wk_1_43 : (Cond.classLink "GuardsLookLeft" (16 : Nat) "GuardsLookLeft$Guards") ∈ WS := ws1 (i := 43) rfl rfl
theorem wk_1_44 : (Cond.instantiable "GuardsLookLeft$Guards" (10 : Nat)) ∈ WS := ws1 (i := 44) rfl rfl
theorem wk_1_46 : (Cond.instanceMethod ({ cls := "GuardsLookLeft$Guards", name := "<init>", desc := "()V" } : MethodName)) ∈ WS := ws1 (i := 46) rfl rfl
theorem wk_1_47 : (Cond.code ({ cls := "GuardsLookLeft$Guards", name := "<init>", desc := "()V" } : MethodName) prog_3_method_1_code (1 : Nat) (Option.none : Option ClassFile.FieldType)) ∈ WS := ws1 (i := 47) rfl rfl
theorem wk_1_48 : (Cond.methodLink "GuardsLookLeft$Guards" (3 : Nat) ({ cls := "java/lang/Object", name := "<init>", desc := "()V" } : MethodName)) ∈ WS := ws1 (i := 48) rfl rfl
theorem wk_1_49 : (Cond.fieldLink "GuardsLookLeft$Guards" (9 : Nat) "GuardsLookLeft$Guards" "kinds" "[I") ∈ WS := ws1 (i := 49) rfl rfl
theorem wk_1_50 : (Cond.fieldLink "GuardsLookLeft" (182 : Nat) "GuardsLookLeft$Guards" "kinds" "[I") ∈ WS := ws1 (i := 50) rfl rfl
theorem wk_1_51 : (Cond.fieldLink "GuardsLookLeft$Guards" (15 : Nat) "GuardsLookLeft$Guards" "homes" "[I") ∈ WS := ws1 (i := 51) rfl rfl
theorem wk_1_52 : (Cond.fieldLink "GuardsLookLeft" (185 : Nat) "GuardsLookLeft$Guards" "homes" "[I") ∈ WS := ws1 (i := 52) rfl rfl
theorem wk_1_53 : (Cond.fieldLink "GuardsLookLeft$Guards" (18 : Nat) "GuardsLookLeft$Guards" "ways" "[I") ∈ WS := ws1 (i := 53) rfl rfl
theorem wk_1_54 : (Cond.fieldLink "GuardsLookLeft" (188 : Nat) "GuardsLookLeft$Guards" "ways" "[I") ∈ WS := ws1 (i := 54) rfl rfl
theorem wk_1_55 : (Cond.fieldLink "GuardsLookLeft$Guards" (21 : Nat) "GuardsLookLeft$Guards" "mores" "[I") ∈ WS := ws1 (i := 55) rfl rfl
theorem wk_1_56 : (Cond.fieldLink "GuardsLookLeft$Watch" (64 : Nat) "GuardsLookLeft$Guards" "mores" "[I") ∈ WS := ws1 (i := 56) rfl rfl
theorem wk_1_57 : (Cond.fieldLink "GuardsLookLeft" (191 : Nat) "GuardsLookLeft$Guards" "mores" "[I") ∈ WS := ws1 (i := 57) rfl rfl
theorem wk_1_58 : (Cond.fieldLink "GuardsLookLeft$Guards" (24 : Nat) "GuardsLookLeft$Guards" "lengths" "[I") ∈ WS := ws1 (i := 58) rfl rfl
theorem wk_1_59 : (Cond.fieldLink "GuardsLookLeft$Image" (46 : Nat) "GuardsLookLeft$Guards" "lengths" "[I") ∈ WS := ws1 (i := 59) rfl rfl
theorem wk_1_60 : (Cond.fieldLink "GuardsLookLeft" (179 : Nat) "GuardsLookLeft$Guards" "lengths" "[I") ∈ WS := ws1 (i := 60) rfl rfl
theorem wk_1_61 : (Cond.fieldLink "GuardsLookLeft$Guards" (27 : Nat) "GuardsLookLeft$Guards" "aheads" "[I") ∈ WS := ws1 (i := 61) rfl rfl
theorem wk_1_62 : (Cond.fieldLink "GuardsLookLeft$Image" (45 : Nat) "GuardsLookLeft$Guards" "aheads" "[I") ∈ WS := ws1 (i := 62) rfl rfl
theorem wk_1_63 : (Cond.fieldLink "GuardsLookLeft$Watch" (127 : Nat) "GuardsLookLeft$Guards" "aheads" "[I") ∈ WS := ws1 (i := 63) rfl rfl
theorem wk_1_64 : (Cond.fieldLink "GuardsLookLeft" (176 : Nat) "GuardsLookLeft$Guards" "aheads" "[I") ∈ WS := ws1 (i := 64) rfl rfl
theorem wk_1_65 : (Cond.fieldLink "GuardsLookLeft$Guards" (30 : Nat) "GuardsLookLeft$Guards" "number" "I") ∈ WS := ws1 (i := 65) rfl rfl
theorem wk_1_66 : (Cond.fieldLink "GuardsLookLeft$Image" (30 : Nat) "GuardsLookLeft$Guards" "number" "I") ∈ WS := ws1 (i := 66) rfl rfl
theorem wk_1_67 : (Cond.fieldLink "GuardsLookLeft$Watch" (98 : Nat) "GuardsLookLeft$Guards" "number" "I") ∈ WS := ws1 (i := 67) rfl rfl
theorem wk_1_68 : (Cond.fieldLink "GuardsLookLeft" (113 : Nat) "GuardsLookLeft$Guards" "number" "I") ∈ WS := ws1 (i := 68) rfl rfl
theorem wk_1_69 : (Cond.fieldLink "GuardsLookLeft$Watch" (53 : Nat) "GuardsLookLeft$Guards" "stands" "I") ∈ WS := ws1 (i := 69) rfl rfl
theorem wk_1_70 : (Cond.fieldLink "GuardsLookLeft$Guards" (48 : Nat) "GuardsLookLeft$Guards" "stands" "I") ∈ WS := ws1 (i := 70) rfl rfl
theorem wk_1_71 : (Cond.fieldLink "GuardsLookLeft" (198 : Nat) "GuardsLookLeft$Guards" "stands" "I") ∈ WS := ws1 (i := 71) rfl rfl
theorem wk_1_72 : (Cond.fieldLink "GuardsLookLeft$Watch" (84 : Nat) "GuardsLookLeft$Guards" "turned" "I") ∈ WS := ws1 (i := 72) rfl rfl
theorem wk_1_73 : (Cond.fieldLink "GuardsLookLeft$Guards" (51 : Nat) "GuardsLookLeft$Guards" "turned" "I") ∈ WS := ws1 (i := 73) rfl rfl
theorem wk_1_74 : (Cond.fieldLink "GuardsLookLeft" (201 : Nat) "GuardsLookLeft$Guards" "turned" "I") ∈ WS := ws1 (i := 74) rfl rfl
theorem wk_1_75 : (Cond.fieldLink "GuardsLookLeft$Watch" (61 : Nat) "GuardsLookLeft$Guards" "looks" "Z") ∈ WS := ws1 (i := 75) rfl rfl
theorem wk_1_76 : (Cond.fieldLink "GuardsLookLeft$Guards" (58 : Nat) "GuardsLookLeft$Guards" "looks" "Z") ∈ WS := ws1 (i := 76) rfl rfl
theorem wk_1_77 : (Cond.fieldLink "GuardsLookLeft" (204 : Nat) "GuardsLookLeft$Guards" "looks" "Z") ∈ WS := ws1 (i := 77) rfl rfl
theorem wk_1_78 : (Cond.laysFinal "GuardsLookLeft$Guards" "GuardsLookLeft$Guards" "kinds" "[I") ∈ WS := ws1 (i := 78) rfl rfl
theorem wk_1_80 : (Cond.laysFinal "GuardsLookLeft$Guards" "GuardsLookLeft$Guards" "homes" "[I") ∈ WS := ws1 (i := 80) rfl rfl
theorem wk_1_82 : (Cond.laysFinal "GuardsLookLeft$Guards" "GuardsLookLeft$Guards" "ways" "[I") ∈ WS := ws1 (i := 82) rfl rfl
theorem wk_1_84 : (Cond.laysFinal "GuardsLookLeft$Guards" "GuardsLookLeft$Guards" "mores" "[I") ∈ WS := ws1 (i := 84) rfl rfl
theorem wk_1_86 : (Cond.laysFinal "GuardsLookLeft$Guards" "GuardsLookLeft$Guards" "lengths" "[I") ∈ WS := ws1 (i := 86) rfl rfl
theorem wk_1_88 : (Cond.laysFinal "GuardsLookLeft$Guards" "GuardsLookLeft$Guards" "aheads" "[I") ∈ WS := ws1 (i := 88) rfl rfl
theorem wk_1_90 : (Cond.lays "GuardsLookLeft$Guards" "GuardsLookLeft$Guards" "number" "I") ∈ WS := ws1 (i := 90) rfl rfl
theorem wk_1_92 : (Cond.lays "GuardsLookLeft$Guards" "GuardsLookLeft$Guards" "stands" "I") ∈ WS := ws1 (i := 92) rfl rfl
theorem wk_1_94 : (Cond.lays "GuardsLookLeft$Guards" "GuardsLookLeft$Guards" "turned" "I") ∈ WS := ws1 (i := 94) rfl rfl
theorem wk_1_96 : (Cond.lays "GuardsLookLeft$Guards" "GuardsLookLeft$Guards" "looks" "Z") ∈ WS := ws1 (i := 96) rfl rfl
theorem wk_1_99 : (Cond.arrayClass ClassFile.FieldType.int) ∈ WS := ws1 (i := 99) rfl rfl
theorem wk_1_100 : (Cond.classLink "GuardsLookLeft" (23 : Nat) "GuardsLookLeft$Reader") ∈ WS := ws1 (i := 100) rfl rfl
theorem wk_1_101 : (Cond.instantiable "GuardsLookLeft$Reader" (9 : Nat)) ∈ WS := ws1 (i := 101) rfl rfl
theorem wk_1_103 : (Cond.instanceMethod ({ cls := "GuardsLookLeft$Reader", name := "<init>", desc := "()V" } : MethodName)) ∈ WS := ws1 (i := 103) rfl rfl
theorem wk_1_104 : (Cond.code ({ cls := "GuardsLookLeft$Reader", name := "<init>", desc := "()V" } : MethodName) prog_6_method_1_code (1 : Nat) (Option.none : Option ClassFile.FieldType)) ∈ WS := ws1 (i := 104) rfl rfl
theorem wk_1_105 : (Cond.methodLink "GuardsLookLeft$Reader" (3 : Nat) ({ cls := "java/lang/Object", name := "<init>", desc := "()V" } : MethodName)) ∈ WS := ws1 (i := 105) rfl rfl
theorem wk_1_106 : (Cond.fieldLink "GuardsLookLeft$Reader" (9 : Nat) "GuardsLookLeft$Reader" "tape" "[I") ∈ WS := ws1 (i := 106) rfl rfl
theorem wk_1_107 : (Cond.fieldLink "GuardsLookLeft" (93 : Nat) "GuardsLookLeft$Reader" "size" "I") ∈ WS := ws1 (i := 107) rfl rfl
theorem wk_1_108 : (Cond.fieldLink "GuardsLookLeft$Reader" (21 : Nat) "GuardsLookLeft$Reader" "size" "I") ∈ WS := ws1 (i := 108) rfl rfl
theorem wk_1_109 : (Cond.fieldLink "GuardsLookLeft$Reader" (15 : Nat) "GuardsLookLeft$Reader" "codes" "[I") ∈ WS := ws1 (i := 109) rfl rfl
theorem wk_1_110 : (Cond.fieldLink "GuardsLookLeft" (97 : Nat) "GuardsLookLeft$Reader" "codes" "[I") ∈ WS := ws1 (i := 110) rfl rfl
theorem wk_1_111 : (Cond.fieldLink "GuardsLookLeft$Reader" (18 : Nat) "GuardsLookLeft$Reader" "ends" "[I") ∈ WS := ws1 (i := 111) rfl rfl
theorem wk_1_112 : (Cond.fieldLink "GuardsLookLeft" (101 : Nat) "GuardsLookLeft$Reader" "ends" "[I") ∈ WS := ws1 (i := 112) rfl rfl
theorem wk_1_113 : (Cond.fieldLink "GuardsLookLeft$Reader" (25 : Nat) "GuardsLookLeft$Reader" "written" "I") ∈ WS := ws1 (i := 113) rfl rfl
theorem wk_1_114 : (Cond.fieldLink "GuardsLookLeft$Reader" (40 : Nat) "GuardsLookLeft$Reader" "begin" "I") ∈ WS := ws1 (i := 114) rfl rfl
theorem wk_1_115 : (Cond.fieldLink "GuardsLookLeft$Reader" (28 : Nat) "GuardsLookLeft$Reader" "behind" "I") ∈ WS := ws1 (i := 115) rfl rfl
theorem wk_1_116 : (Cond.fieldLink "GuardsLookLeft$Reader" (34 : Nat) "GuardsLookLeft$Reader" "token" "I") ∈ WS := ws1 (i := 116) rfl rfl
theorem wk_1_117 : (Cond.fieldLink "GuardsLookLeft$Reader" (68 : Nat) "GuardsLookLeft$Reader" "tokenCode" "I") ∈ WS := ws1 (i := 117) rfl rfl
theorem wk_1_118 : (Cond.laysFinal "GuardsLookLeft$Reader" "GuardsLookLeft$Reader" "tape" "[I") ∈ WS := ws1 (i := 118) rfl rfl
theorem wk_1_120 : (Cond.lays "GuardsLookLeft$Reader" "GuardsLookLeft$Reader" "size" "I") ∈ WS := ws1 (i := 120) rfl rfl
theorem wk_1_122 : (Cond.laysFinal "GuardsLookLeft$Reader" "GuardsLookLeft$Reader" "codes" "[I") ∈ WS := ws1 (i := 122) rfl rfl
theorem wk_1_124 : (Cond.laysFinal "GuardsLookLeft$Reader" "GuardsLookLeft$Reader" "ends" "[I") ∈ WS := ws1 (i := 124) rfl rfl
theorem wk_1_126 : (Cond.lays "GuardsLookLeft$Reader" "GuardsLookLeft$Reader" "written" "I") ∈ WS := ws1 (i := 126) rfl rfl
theorem wk_1_128 : (Cond.lays "GuardsLookLeft$Reader" "GuardsLookLeft$Reader" "begin" "I") ∈ WS := ws1 (i := 128) rfl rfl
theorem wk_1_130 : (Cond.lays "GuardsLookLeft$Reader" "GuardsLookLeft$Reader" "behind" "I") ∈ WS := ws1 (i := 130) rfl rfl
theorem wk_1_132 : (Cond.lays "GuardsLookLeft$Reader" "GuardsLookLeft$Reader" "token" "I") ∈ WS := ws1 (i := 132) rfl rfl
theorem wk_1_134 : (Cond.lays "GuardsLookLeft$Reader" "GuardsLookLeft$Reader" "tokenCode" "I") ∈ WS := ws1 (i := 134) rfl rfl
theorem wk_1_137 : (Cond.classLink "GuardsLookLeft" (30 : Nat) "GuardsLookLeft$Texts") ∈ WS := ws1 (i := 137) rfl rfl
theorem wk_1_138 : (Cond.instantiable "GuardsLookLeft$Texts" (6 : Nat)) ∈ WS := ws1 (i := 138) rfl rfl
theorem wk_1_140 : (Cond.instanceMethod ({ cls := "GuardsLookLeft$Texts", name := "<init>", desc := "()V" } : MethodName)) ∈ WS := ws1 (i := 140) rfl rfl
theorem wk_1_141 : (Cond.code ({ cls := "GuardsLookLeft$Texts", name := "<init>", desc := "()V" } : MethodName) prog_8_method_1_code (1 : Nat) (Option.none : Option ClassFile.FieldType)) ∈ WS := ws1 (i := 141) rfl rfl
theorem wk_1_142 : (Cond.methodLink "GuardsLookLeft$Texts" (3 : Nat) ({ cls := "java/lang/Object", name := "<init>", desc := "()V" } : MethodName)) ∈ WS := ws1 (i := 142) rfl rfl
theorem wk_1_143 : (Cond.classLink "GuardsLookLeft$Texts" (9 : Nat) "[[I") ∈ WS := ws1 (i := 143) rfl rfl
theorem wk_1_145 : (Cond.fieldLink "GuardsLookLeft$Texts" (11 : Nat) "GuardsLookLeft$Texts" "codes" "[[I") ∈ WS := ws1 (i := 145) rfl rfl
theorem wk_1_146 : (Cond.fieldLink "GuardsLookLeft$Texts" (16 : Nat) "GuardsLookLeft$Texts" "ends" "[[I") ∈ WS := ws1 (i := 146) rfl rfl
theorem wk_1_147 : (Cond.fieldLink "GuardsLookLeft$Texts" (26 : Nat) "GuardsLookLeft$Texts" "number" "I") ∈ WS := ws1 (i := 147) rfl rfl
theorem wk_1_148 : (Cond.fieldLink "GuardsLookLeft" (149 : Nat) "GuardsLookLeft$Texts" "number" "I") ∈ WS := ws1 (i := 148) rfl rfl
theorem wk_1_149 : (Cond.fieldLink "GuardsLookLeft$Texts" (49 : Nat) "GuardsLookLeft$Texts" "inForce" "I") ∈ WS := ws1 (i := 149) rfl rfl
theorem wk_1_150 : (Cond.fieldLink "GuardsLookLeft$Watch" (130 : Nat) "GuardsLookLeft$Texts" "inForce" "I") ∈ WS := ws1 (i := 150) rfl rfl
theorem wk_1_151 : (Cond.fieldLink "GuardsLookLeft" (150 : Nat) "GuardsLookLeft$Texts" "inForce" "I") ∈ WS := ws1 (i := 151) rfl rfl
theorem wk_1_152 : (Cond.fieldLink "GuardsLookLeft$Texts" (19 : Nat) "GuardsLookLeft$Texts" "names" "[I") ∈ WS := ws1 (i := 152) rfl rfl
theorem wk_1_153 : (Cond.fieldLink "GuardsLookLeft$Texts" (23 : Nat) "GuardsLookLeft$Texts" "stack" "[I") ∈ WS := ws1 (i := 153) rfl rfl
theorem wk_1_154 : (Cond.laysFinal "GuardsLookLeft$Texts" "GuardsLookLeft$Texts" "codes" "[[I") ∈ WS := ws1 (i := 154) rfl rfl
theorem wk_1_156 : (Cond.laysFinal "GuardsLookLeft$Texts" "GuardsLookLeft$Texts" "ends" "[[I") ∈ WS := ws1 (i := 156) rfl rfl
theorem wk_1_158 : (Cond.lays "GuardsLookLeft$Texts" "GuardsLookLeft$Texts" "number" "I") ∈ WS := ws1 (i := 158) rfl rfl
theorem wk_1_160 : (Cond.lays "GuardsLookLeft$Texts" "GuardsLookLeft$Texts" "inForce" "I") ∈ WS := ws1 (i := 160) rfl rfl
theorem wk_1_162 : (Cond.laysFinal "GuardsLookLeft$Texts" "GuardsLookLeft$Texts" "names" "[I") ∈ WS := ws1 (i := 162) rfl rfl
theorem wk_1_164 : (Cond.laysFinal "GuardsLookLeft$Texts" "GuardsLookLeft$Texts" "stack" "[I") ∈ WS := ws1 (i := 164) rfl rfl
theorem wk_1_167 : (Cond.classLink "GuardsLookLeft" (37 : Nat) "GuardsLookLeft$Watch") ∈ WS := ws1 (i := 167) rfl rfl
theorem wk_1_168 : (Cond.instantiable "GuardsLookLeft$Watch" (9 : Nat)) ∈ WS := ws1 (i := 168) rfl rfl
theorem wk_1_169 : (Cond.methodLink "GuardsLookLeft" (39 : Nat) ({ cls := "GuardsLookLeft$Watch", name := "<init>", desc := "(LGuardsLookLeft$Palace;LGuardsLookLeft$Guards;LGuardsLookLeft$Texts;)V" } : MethodName)) ∈ WS := ws1 (i := 169) rfl rfl
theorem wk_1_170 : (Cond.instanceMethod ({ cls := "GuardsLookLeft$Watch", name := "<init>", desc := "(LGuardsLookLeft$Palace;LGuardsLookLeft$Guards;LGuardsLookLeft$Texts;)V" } : MethodName)) ∈ WS := ws1 (i := 170) rfl rfl
theorem wk_1_171 : (Cond.code ({ cls := "GuardsLookLeft$Watch", name := "<init>", desc := "(LGuardsLookLeft$Palace;LGuardsLookLeft$Guards;LGuardsLookLeft$Texts;)V" } : MethodName) prog_10_method_1_code (4 : Nat) (Option.none : Option ClassFile.FieldType)) ∈ WS := ws1 (i := 171) rfl rfl
theorem wk_1_172 : (Cond.methodLink "GuardsLookLeft$Watch" (3 : Nat) ({ cls := "java/lang/Object", name := "<init>", desc := "()V" } : MethodName)) ∈ WS := ws1 (i := 172) rfl rfl
theorem wk_1_173 : (Cond.classLink "GuardsLookLeft$Watch" (22 : Nat) "[[J") ∈ WS := ws1 (i := 173) rfl rfl
theorem wk_1_175 : (Cond.fieldLink "GuardsLookLeft$Watch" (30 : Nat) "GuardsLookLeft$Watch" "palace" "LGuardsLookLeft$Palace;") ∈ WS := ws1 (i := 175) rfl rfl
theorem wk_1_176 : (Cond.fieldLink "GuardsLookLeft$Watch" (34 : Nat) "GuardsLookLeft$Watch" "guards" "LGuardsLookLeft$Guards;") ∈ WS := ws1 (i := 176) rfl rfl
theorem wk_1_177 : (Cond.fieldLink "GuardsLookLeft$Watch" (38 : Nat) "GuardsLookLeft$Watch" "texts" "LGuardsLookLeft$Texts;") ∈ WS := ws1 (i := 177) rfl rfl
theorem wk_1_178 : (Cond.fieldLink "GuardsLookLeft$Watch" (9 : Nat) "GuardsLookLeft$Watch" "stale" "Z") ∈ WS := ws1 (i := 178) rfl rfl
theorem wk_1_179 : (Cond.fieldLink "GuardsLookLeft" (130 : Nat) "GuardsLookLeft$Watch" "stale" "Z") ∈ WS := ws1 (i := 179) rfl rfl
theorem wk_1_180 : (Cond.fieldLink "GuardsLookLeft$Watch" (15 : Nat) "GuardsLookLeft$Watch" "seen" "[J") ∈ WS := ws1 (i := 180) rfl rfl
theorem wk_1_181 : (Cond.fieldLink "GuardsLookLeft" (237 : Nat) "GuardsLookLeft$Watch" "seen" "[J") ∈ WS := ws1 (i := 181) rfl rfl
theorem wk_1_182 : (Cond.fieldLink "GuardsLookLeft$Watch" (19 : Nat) "GuardsLookLeft$Watch" "supposed" "[J") ∈ WS := ws1 (i := 182) rfl rfl
theorem wk_1_183 : (Cond.fieldLink "GuardsLookLeft" (269 : Nat) "GuardsLookLeft$Watch" "supposed" "[J") ∈ WS := ws1 (i := 183) rfl rfl
theorem wk_1_184 : (Cond.fieldLink "GuardsLookLeft$Watch" (24 : Nat) "GuardsLookLeft$Watch" "seenBy" "[[J") ∈ WS := ws1 (i := 184) rfl rfl
theorem wk_1_185 : (Cond.fieldLink "GuardsLookLeft$Watch" (27 : Nat) "GuardsLookLeft$Watch" "touched" "[J") ∈ WS := ws1 (i := 185) rfl rfl
theorem wk_1_186 : (Cond.fieldLink "GuardsLookLeft$Watch" (57 : Nat) "GuardsLookLeft$Watch" "trail" "J") ∈ WS := ws1 (i := 186) rfl rfl
theorem wk_1_187 : (Cond.laysFinal "GuardsLookLeft$Watch" "GuardsLookLeft$Watch" "palace" "LGuardsLookLeft$Palace;") ∈ WS := ws1 (i := 187) rfl rfl
theorem wk_1_189 : (Cond.laysFinal "GuardsLookLeft$Watch" "GuardsLookLeft$Watch" "guards" "LGuardsLookLeft$Guards;") ∈ WS := ws1 (i := 189) rfl rfl
theorem wk_1_191 : (Cond.laysFinal "GuardsLookLeft$Watch" "GuardsLookLeft$Watch" "texts" "LGuardsLookLeft$Texts;") ∈ WS := ws1 (i := 191) rfl rfl
theorem wk_1_193 : (Cond.lays "GuardsLookLeft$Watch" "GuardsLookLeft$Watch" "stale" "Z") ∈ WS := ws1 (i := 193) rfl rfl
theorem wk_1_195 : (Cond.laysFinal "GuardsLookLeft$Watch" "GuardsLookLeft$Watch" "seen" "[J") ∈ WS := ws1 (i := 195) rfl rfl
theorem wk_1_197 : (Cond.laysFinal "GuardsLookLeft$Watch" "GuardsLookLeft$Watch" "supposed" "[J") ∈ WS := ws1 (i := 197) rfl rfl
theorem wk_1_199 : (Cond.laysFinal "GuardsLookLeft$Watch" "GuardsLookLeft$Watch" "seenBy" "[[J") ∈ WS := ws1 (i := 199) rfl rfl
theorem wk_1_201 : (Cond.laysFinal "GuardsLookLeft$Watch" "GuardsLookLeft$Watch" "touched" "[J") ∈ WS := ws1 (i := 201) rfl rfl
theorem wk_1_203 : (Cond.lays "GuardsLookLeft$Watch" "GuardsLookLeft$Watch" "trail" "J") ∈ WS := ws1 (i := 203) rfl rfl
theorem wk_1_206 : (Cond.classLink "GuardsLookLeft" (46 : Nat) "GuardsLookLeft$Gaps") ∈ WS := ws1 (i := 206) rfl rfl
theorem wk_1_207 : (Cond.instantiable "GuardsLookLeft$Gaps" (2 : Nat)) ∈ WS := ws1 (i := 207) rfl rfl
theorem wk_1_209 : (Cond.instanceMethod ({ cls := "GuardsLookLeft$Gaps", name := "<init>", desc := "()V" } : MethodName)) ∈ WS := ws1 (i := 209) rfl rfl
theorem wk_1_210 : (Cond.code ({ cls := "GuardsLookLeft$Gaps", name := "<init>", desc := "()V" } : MethodName) prog_2_method_1_code (1 : Nat) (Option.none : Option ClassFile.FieldType)) ∈ WS := ws1 (i := 210) rfl rfl
theorem wk_1_211 : (Cond.methodLink "GuardsLookLeft$Gaps" (3 : Nat) ({ cls := "java/lang/Object", name := "<init>", desc := "()V" } : MethodName)) ∈ WS := ws1 (i := 211) rfl rfl
theorem wk_1_212 : (Cond.fieldLink "GuardsLookLeft$Gaps" (15 : Nat) "GuardsLookLeft$Gaps" "widest" "J") ∈ WS := ws1 (i := 212) rfl rfl
theorem wk_1_213 : (Cond.fieldLink "GuardsLookLeft" (227 : Nat) "GuardsLookLeft$Gaps" "widest" "J") ∈ WS := ws1 (i := 213) rfl rfl
theorem wk_1_214 : (Cond.fieldLink "GuardsLookLeft$Gaps" (9 : Nat) "GuardsLookLeft$Gaps" "runs" "[J") ∈ WS := ws1 (i := 214) rfl rfl
theorem wk_1_215 : (Cond.lays "GuardsLookLeft$Gaps" "GuardsLookLeft$Gaps" "widest" "J") ∈ WS := ws1 (i := 215) rfl rfl
theorem wk_1_217 : (Cond.laysFinal "GuardsLookLeft$Gaps" "GuardsLookLeft$Gaps" "runs" "[J") ∈ WS := ws1 (i := 217) rfl rfl
theorem wk_1_220 : (Cond.classLink "GuardsLookLeft" (53 : Nat) "GuardsLookLeft$Thief") ∈ WS := ws1 (i := 220) rfl rfl
theorem wk_1_221 : (Cond.instantiable "GuardsLookLeft$Thief" (1 : Nat)) ∈ WS := ws1 (i := 221) rfl rfl
theorem wk_1_223 : (Cond.instanceMethod ({ cls := "GuardsLookLeft$Thief", name := "<init>", desc := "()V" } : MethodName)) ∈ WS := ws1 (i := 223) rfl rfl
theorem wk_1_224 : (Cond.code ({ cls := "GuardsLookLeft$Thief", name := "<init>", desc := "()V" } : MethodName) prog_9_method_1_code (1 : Nat) (Option.none : Option ClassFile.FieldType)) ∈ WS := ws1 (i := 224) rfl rfl
theorem wk_1_225 : (Cond.methodLink "GuardsLookLeft$Thief" (3 : Nat) ({ cls := "java/lang/Object", name := "<init>", desc := "()V" } : MethodName)) ∈ WS := ws1 (i := 225) rfl rfl
theorem wk_1_226 : (Cond.fieldLink "GuardsLookLeft$Thief" (9 : Nat) "GuardsLookLeft$Thief" "could" "[J") ∈ WS := ws1 (i := 226) rfl rfl
theorem wk_1_227 : (Cond.fieldLink "GuardsLookLeft" (255 : Nat) "GuardsLookLeft$Thief" "could" "[J") ∈ WS := ws1 (i := 227) rfl rfl
theorem wk_1_228 : (Cond.laysFinal "GuardsLookLeft$Thief" "GuardsLookLeft$Thief" "could" "[J") ∈ WS := ws1 (i := 228) rfl rfl
theorem wk_1_231 : (Cond.classLink "GuardsLookLeft" (60 : Nat) "GuardsLookLeft$Image") ∈ WS := ws1 (i := 231) rfl rfl
theorem wk_1_232 : (Cond.instantiable "GuardsLookLeft$Image" (6 : Nat)) ∈ WS := ws1 (i := 232) rfl rfl
theorem wk_1_234 : (Cond.instanceMethod ({ cls := "GuardsLookLeft$Image", name := "<init>", desc := "()V" } : MethodName)) ∈ WS := ws1 (i := 234) rfl rfl
theorem wk_1_235 : (Cond.code ({ cls := "GuardsLookLeft$Image", name := "<init>", desc := "()V" } : MethodName) prog_4_method_1_code (1 : Nat) (Option.none : Option ClassFile.FieldType)) ∈ WS := ws1 (i := 235) rfl rfl
theorem wk_1_236 : (Cond.methodLink "GuardsLookLeft$Image" (3 : Nat) ({ cls := "java/lang/Object", name := "<init>", desc := "()V" } : MethodName)) ∈ WS := ws1 (i := 236) rfl rfl
theorem wk_1_237 : (Cond.fieldLink "GuardsLookLeft$Image" (22 : Nat) "GuardsLookLeft$Image" "taken" "Z") ∈ WS := ws1 (i := 237) rfl rfl
theorem wk_1_238 : (Cond.fieldLink "GuardsLookLeft" (315 : Nat) "GuardsLookLeft$Image" "taken" "Z") ∈ WS := ws1 (i := 238) rfl rfl
theorem wk_1_239 : (Cond.fieldLink "GuardsLookLeft$Image" (26 : Nat) "GuardsLookLeft$Image" "law" "I") ∈ WS := ws1 (i := 239) rfl rfl
theorem wk_2_0 : (Cond.fieldLink "GuardsLookLeft" (322 : Nat) "GuardsLookLeft$Image" "law" "I") ∈ WS := ws2 (i := 0) rfl rfl
theorem wk_2_1 : (Cond.fieldLink "GuardsLookLeft$Image" (35 : Nat) "GuardsLookLeft$Image" "number" "I") ∈ WS := ws2 (i := 1) rfl rfl
theorem wk_2_2 : (Cond.fieldLink "GuardsLookLeft$Image" (9 : Nat) "GuardsLookLeft$Image" "layers" "[J") ∈ WS := ws2 (i := 2) rfl rfl
theorem wk_2_3 : (Cond.fieldLink "GuardsLookLeft$Image" (15 : Nat) "GuardsLookLeft$Image" "aheads" "[I") ∈ WS := ws2 (i := 3) rfl rfl
theorem wk_2_4 : (Cond.fieldLink "GuardsLookLeft$Image" (19 : Nat) "GuardsLookLeft$Image" "lengths" "[I") ∈ WS := ws2 (i := 4) rfl rfl
theorem wk_2_5 : (Cond.lays "GuardsLookLeft$Image" "GuardsLookLeft$Image" "taken" "Z") ∈ WS := ws2 (i := 5) rfl rfl
theorem wk_2_7 : (Cond.lays "GuardsLookLeft$Image" "GuardsLookLeft$Image" "law" "I") ∈ WS := ws2 (i := 7) rfl rfl
theorem wk_2_9 : (Cond.lays "GuardsLookLeft$Image" "GuardsLookLeft$Image" "number" "I") ∈ WS := ws2 (i := 9) rfl rfl
theorem wk_2_11 : (Cond.laysFinal "GuardsLookLeft$Image" "GuardsLookLeft$Image" "layers" "[J") ∈ WS := ws2 (i := 11) rfl rfl
theorem wk_2_13 : (Cond.laysFinal "GuardsLookLeft$Image" "GuardsLookLeft$Image" "aheads" "[I") ∈ WS := ws2 (i := 13) rfl rfl
theorem wk_2_15 : (Cond.laysFinal "GuardsLookLeft$Image" "GuardsLookLeft$Image" "lengths" "[I") ∈ WS := ws2 (i := 15) rfl rfl
theorem wk_2_18 : (Cond.classLink "GuardsLookLeft" (67 : Nat) "GuardsLookLeft$Sheet") ∈ WS := ws2 (i := 18) rfl rfl
theorem wk_2_20 : (Cond.instantiable "GuardsLookLeft$Sheet" (3 : Nat)) ∈ WS := ws2 (i := 20) rfl rfl
theorem wk_2_22 : (Cond.instanceMethod ({ cls := "GuardsLookLeft$Sheet", name := "<init>", desc := "()V" } : MethodName)) ∈ WS := ws2 (i := 22) rfl rfl
theorem wk_2_23 : (Cond.code ({ cls := "GuardsLookLeft$Sheet", name := "<init>", desc := "()V" } : MethodName) prog_7_method_1_code (1 : Nat) (Option.none : Option ClassFile.FieldType)) ∈ WS := ws2 (i := 23) rfl rfl
theorem wk_2_24 : (Cond.methodLink "GuardsLookLeft$Sheet" (3 : Nat) ({ cls := "java/lang/Object", name := "<init>", desc := "()V" } : MethodName)) ∈ WS := ws2 (i := 24) rfl rfl
theorem wk_2_25 : (Cond.fieldLink "GuardsLookLeft$Sheet" (9 : Nat) "GuardsLookLeft$Sheet" "sort" "I") ∈ WS := ws2 (i := 25) rfl rfl
theorem wk_2_26 : (Cond.fieldLink "GuardsLookLeft" (303 : Nat) "GuardsLookLeft$Sheet" "sort" "I") ∈ WS := ws2 (i := 26) rfl rfl
theorem wk_2_27 : (Cond.fieldLink "GuardsLookLeft$Sheet" (19 : Nat) "GuardsLookLeft$Sheet" "size" "I") ∈ WS := ws2 (i := 27) rfl rfl
theorem wk_2_28 : (Cond.fieldLink "GuardsLookLeft" (306 : Nat) "GuardsLookLeft$Sheet" "size" "I") ∈ WS := ws2 (i := 28) rfl rfl
theorem wk_2_29 : (Cond.fieldLink "GuardsLookLeft$Sheet" (15 : Nat) "GuardsLookLeft$Sheet" "row" "[I") ∈ WS := ws2 (i := 29) rfl rfl
theorem wk_2_30 : (Cond.fieldLink "GuardsLookLeft" (300 : Nat) "GuardsLookLeft$Sheet" "row" "[I") ∈ WS := ws2 (i := 30) rfl rfl
theorem wk_2_31 : (Cond.lays "GuardsLookLeft$Sheet" "GuardsLookLeft$Sheet" "sort" "I") ∈ WS := ws2 (i := 31) rfl rfl
theorem wk_2_33 : (Cond.lays "GuardsLookLeft$Sheet" "GuardsLookLeft$Sheet" "size" "I") ∈ WS := ws2 (i := 33) rfl rfl
theorem wk_2_35 : (Cond.laysFinal "GuardsLookLeft$Sheet" "GuardsLookLeft$Sheet" "row" "[I") ∈ WS := ws2 (i := 35) rfl rfl
theorem wk_2_39 : (Cond.methodLink "GuardsLookLeft" (76 : Nat) ({ cls := "java/lang/String", name := "length", desc := "()I" } : MethodName)) ∈ WS := ws2 (i := 39) rfl rfl
theorem wk_2_40 : (Cond.instanceMethod ({ cls := "java/lang/String", name := "length", desc := "()I" } : MethodName)) ∈ WS := ws2 (i := 40) rfl rfl
theorem wk_2_41 : (Cond.selects "java/lang/String" ({ cls := "java/lang/String", name := "length", desc := "()I" } : MethodName) ({ cls := "java/lang/String", name := "length", desc := "()I" } : MethodName)) ∈ WS := ws2 (i := 41) rfl rfl
theorem wk_2_42 : (Cond.code ({ cls := "java/lang/String", name := "length", desc := "()I" } : MethodName) prog_16_method_54_code (1 : Nat) (Option.some ClassFile.FieldType.int)) ∈ WS := ws2 (i := 42) rfl rfl
theorem wk_2_43 : (Cond.methodLink "java/lang/String" (335 : Nat) ({ cls := "java/lang/String", name := "coder", desc := "()B" } : MethodName)) ∈ WS := ws2 (i := 43) rfl rfl
theorem wk_2_44 : (Cond.instanceMethod ({ cls := "java/lang/String", name := "coder", desc := "()B" } : MethodName)) ∈ WS := ws2 (i := 44) rfl rfl
theorem wk_2_45 : (Cond.selects "java/lang/String" ({ cls := "java/lang/String", name := "coder", desc := "()B" } : MethodName) ({ cls := "java/lang/String", name := "coder", desc := "()B" } : MethodName)) ∈ WS := ws2 (i := 45) rfl rfl
theorem wk_2_46 : (Cond.code ({ cls := "java/lang/String", name := "coder", desc := "()B" } : MethodName) prog_16_method_152_code (1 : Nat) (Option.some ClassFile.FieldType.byte)) ∈ WS := ws2 (i := 46) rfl rfl
theorem wk_2_47 : (Cond.fieldLink "java/lang/String" (38 : Nat) "java/lang/String" "COMPACT_STRINGS" "Z") ∈ WS := ws2 (i := 47) rfl rfl
theorem wk_2_49 : (Cond.methodLink "GuardsLookLeft" (82 : Nat) ({ cls := "java/lang/String", name := "charAt", desc := "(I)C" } : MethodName)) ∈ WS := ws2 (i := 49) rfl rfl
theorem wk_2_50 : (Cond.instanceMethod ({ cls := "java/lang/String", name := "charAt", desc := "(I)C" } : MethodName)) ∈ WS := ws2 (i := 50) rfl rfl
theorem wk_2_51 : (Cond.selects "java/lang/String" ({ cls := "java/lang/String", name := "charAt", desc := "(I)C" } : MethodName) ({ cls := "java/lang/String", name := "charAt", desc := "(I)C" } : MethodName)) ∈ WS := ws2 (i := 51) rfl rfl
theorem wk_2_52 : (Cond.code ({ cls := "java/lang/String", name := "charAt", desc := "(I)C" } : MethodName) prog_16_method_56_code (2 : Nat) (Option.some ClassFile.FieldType.char)) ∈ WS := ws2 (i := 52) rfl rfl
theorem wk_2_53 : (Cond.methodLink "java/lang/String" (492 : Nat) ({ cls := "java/lang/String", name := "isLatin1", desc := "()Z" } : MethodName)) ∈ WS := ws2 (i := 53) rfl rfl
theorem wk_2_54 : (Cond.instanceMethod ({ cls := "java/lang/String", name := "isLatin1", desc := "()Z" } : MethodName)) ∈ WS := ws2 (i := 54) rfl rfl
theorem wk_2_55 : (Cond.selects "java/lang/String" ({ cls := "java/lang/String", name := "isLatin1", desc := "()Z" } : MethodName) ({ cls := "java/lang/String", name := "isLatin1", desc := "()Z" } : MethodName)) ∈ WS := ws2 (i := 55) rfl rfl
theorem wk_2_56 : (Cond.code ({ cls := "java/lang/String", name := "isLatin1", desc := "()Z" } : MethodName) prog_16_method_154_code (1 : Nat) (Option.some ClassFile.FieldType.boolean)) ∈ WS := ws2 (i := 56) rfl rfl
theorem wk_2_57 : (Cond.methodLink "java/lang/String" (495 : Nat) ({ cls := "java/lang/StringLatin1", name := "charAt", desc := "([BI)C" } : MethodName)) ∈ WS := ws2 (i := 57) rfl rfl
theorem wk_2_58 : (Cond.static ({ cls := "java/lang/StringLatin1", name := "charAt", desc := "([BI)C" } : MethodName)) ∈ WS := ws2 (i := 58) rfl rfl
theorem wk_2_59 : (Cond.code ({ cls := "java/lang/StringLatin1", name := "charAt", desc := "([BI)C" } : MethodName) prog_17_method_2_code (2 : Nat) (Option.some ClassFile.FieldType.char)) ∈ WS := ws2 (i := 59) rfl rfl
theorem wk_2_60 : (Cond.methodLink "java/lang/StringLatin1" (9 : Nat) ({ cls := "java/lang/String", name := "checkIndex", desc := "(II)V" } : MethodName)) ∈ WS := ws2 (i := 60) rfl rfl
theorem wk_2_61 : (Cond.static ({ cls := "java/lang/String", name := "checkIndex", desc := "(II)V" } : MethodName)) ∈ WS := ws2 (i := 61) rfl rfl
theorem wk_2_62 : (Cond.code ({ cls := "java/lang/String", name := "checkIndex", desc := "(II)V" } : MethodName) prog_16_method_155_code (2 : Nat) (Option.none : Option ClassFile.FieldType)) ∈ WS := ws2 (i := 62) rfl rfl
theorem wk_2_63 : (Cond.fieldLink "java/lang/String" (1053 : Nat) "jdk/internal/util/Preconditions" "SIOOBE_FORMATTER" "Ljava/util/function/BiFunction;") ∈ WS := ws2 (i := 63) rfl rfl
theorem wk_2_65 : (Cond.methodLink "java/lang/String" (1059 : Nat) ({ cls := "jdk/internal/util/Preconditions", name := "checkIndex", desc := "(IILjava/util/function/BiFunction;)I" } : MethodName)) ∈ WS := ws2 (i := 65) rfl rfl
theorem wk_2_66 : (Cond.static ({ cls := "jdk/internal/util/Preconditions", name := "checkIndex", desc := "(IILjava/util/function/BiFunction;)I" } : MethodName)) ∈ WS := ws2 (i := 66) rfl rfl
theorem wk_2_67 : (Cond.code ({ cls := "jdk/internal/util/Preconditions", name := "checkIndex", desc := "(IILjava/util/function/BiFunction;)I" } : MethodName) prog_21_method_11_code (3 : Nat) (Option.some ClassFile.FieldType.int)) ∈ WS := ws2 (i := 67) rfl rfl
theorem wk_2_68 : (Cond.methodLink "java/lang/String" (498 : Nat) ({ cls := "java/lang/StringUTF16", name := "charAt", desc := "([BI)C" } : MethodName)) ∈ WS := ws2 (i := 68) rfl rfl
theorem wk_2_69 : (Cond.static ({ cls := "java/lang/StringUTF16", name := "charAt", desc := "([BI)C" } : MethodName)) ∈ WS := ws2 (i := 69) rfl rfl
theorem wk_2_70 : (Cond.code ({ cls := "java/lang/StringUTF16", name := "charAt", desc := "([BI)C" } : MethodName) prog_18_method_83_code (2 : Nat) (Option.some ClassFile.FieldType.char)) ∈ WS := ws2 (i := 70) rfl rfl
theorem wk_2_71 : (Cond.methodLink "java/lang/StringUTF16" (67 : Nat) ({ cls := "java/lang/StringUTF16", name := "checkIndex", desc := "(I[B)V" } : MethodName)) ∈ WS := ws2 (i := 71) rfl rfl
theorem wk_2_72 : (Cond.static ({ cls := "java/lang/StringUTF16", name := "checkIndex", desc := "(I[B)V" } : MethodName)) ∈ WS := ws2 (i := 72) rfl rfl
theorem wk_2_73 : (Cond.code ({ cls := "java/lang/StringUTF16", name := "checkIndex", desc := "(I[B)V" } : MethodName) prog_18_method_91_code (2 : Nat) (Option.none : Option ClassFile.FieldType)) ∈ WS := ws2 (i := 73) rfl rfl
theorem wk_2_74 : (Cond.methodLink "java/lang/StringUTF16" (48 : Nat) ({ cls := "java/lang/StringUTF16", name := "length", desc := "([B)I" } : MethodName)) ∈ WS := ws2 (i := 74) rfl rfl
theorem wk_2_75 : (Cond.static ({ cls := "java/lang/StringUTF16", name := "length", desc := "([B)I" } : MethodName)) ∈ WS := ws2 (i := 75) rfl rfl
theorem wk_2_76 : (Cond.code ({ cls := "java/lang/StringUTF16", name := "length", desc := "([B)I" } : MethodName) prog_18_method_6_code (1 : Nat) (Option.some ClassFile.FieldType.int)) ∈ WS := ws2 (i := 76) rfl rfl
theorem wk_2_77 : (Cond.methodLink "java/lang/StringUTF16" (414 : Nat) ({ cls := "java/lang/String", name := "checkIndex", desc := "(II)V" } : MethodName)) ∈ WS := ws2 (i := 77) rfl rfl
theorem wk_2_78 : (Cond.methodLink "java/lang/StringUTF16" (71 : Nat) ({ cls := "java/lang/StringUTF16", name := "getChar", desc := "([BI)C" } : MethodName)) ∈ WS := ws2 (i := 78) rfl rfl
theorem wk_2_79 : (Cond.static ({ cls := "java/lang/StringUTF16", name := "getChar", desc := "([BI)C" } : MethodName)) ∈ WS := ws2 (i := 79) rfl rfl
theorem wk_2_80 : (Cond.code ({ cls := "java/lang/StringUTF16", name := "getChar", desc := "([BI)C" } : MethodName) prog_18_method_5_code (2 : Nat) (Option.some ClassFile.FieldType.char)) ∈ WS := ws2 (i := 80) rfl rfl
theorem wk_2_81 : (Cond.fieldLink "java/lang/StringUTF16" (44 : Nat) "java/lang/StringUTF16" "$assertionsDisabled" "Z") ∈ WS := ws2 (i := 81) rfl rfl
theorem wk_2_83 : (Cond.fieldLink "java/lang/StringUTF16" (59 : Nat) "java/lang/StringUTF16" "HI_BYTE_SHIFT" "I") ∈ WS := ws2 (i := 83) rfl rfl
theorem wk_2_85 : (Cond.fieldLink "java/lang/StringUTF16" (63 : Nat) "java/lang/StringUTF16" "LO_BYTE_SHIFT" "I") ∈ WS := ws2 (i := 85) rfl rfl
theorem wk_2_87 : (Cond.methodLink "GuardsLookLeft" (86 : Nat) ({ cls := "GuardsLookLeft$Reader", name := "add", desc := "(I)V" } : MethodName)) ∈ WS := ws2 (i := 87) rfl rfl
theorem wk_2_88 : (Cond.instanceMethod ({ cls := "GuardsLookLeft$Reader", name := "add", desc := "(I)V" } : MethodName)) ∈ WS := ws2 (i := 88) rfl rfl
theorem wk_2_89 : (Cond.selects "GuardsLookLeft$Reader" ({ cls := "GuardsLookLeft$Reader", name := "add", desc := "(I)V" } : MethodName) ({ cls := "GuardsLookLeft$Reader", name := "add", desc := "(I)V" } : MethodName)) ∈ WS := ws2 (i := 89) rfl rfl
theorem wk_2_90 : (Cond.code ({ cls := "GuardsLookLeft$Reader", name := "add", desc := "(I)V" } : MethodName) prog_6_method_2_code (2 : Nat) (Option.none : Option ClassFile.FieldType)) ∈ WS := ws2 (i := 90) rfl rfl
theorem wk_2_91 : (Cond.methodLink "GuardsLookLeft" (90 : Nat) ({ cls := "GuardsLookLeft$Reader", name := "read", desc := "()I" } : MethodName)) ∈ WS := ws2 (i := 91) rfl rfl
theorem wk_2_92 : (Cond.instanceMethod ({ cls := "GuardsLookLeft$Reader", name := "read", desc := "()I" } : MethodName)) ∈ WS := ws2 (i := 92) rfl rfl
theorem wk_2_93 : (Cond.selects "GuardsLookLeft$Reader" ({ cls := "GuardsLookLeft$Reader", name := "read", desc := "()I" } : MethodName) ({ cls := "GuardsLookLeft$Reader", name := "read", desc := "()I" } : MethodName)) ∈ WS := ws2 (i := 93) rfl rfl
theorem wk_2_94 : (Cond.code ({ cls := "GuardsLookLeft$Reader", name := "read", desc := "()I" } : MethodName) prog_6_method_3_code (2 : Nat) (Option.some ClassFile.FieldType.int)) ∈ WS := ws2 (i := 94) rfl rfl
theorem wk_2_95 : (Cond.methodLink "GuardsLookLeft$Reader" (31 : Nat) ({ cls := "GuardsLookLeft$Reader", name := "next", desc := "()V" } : MethodName)) ∈ WS := ws2 (i := 95) rfl rfl
theorem wk_2_97 : (Cond.instanceMethod ({ cls := "GuardsLookLeft$Reader", name := "next", desc := "()V" } : MethodName)) ∈ WS := ws2 (i := 97) rfl rfl
theorem wk_2_98 : (Cond.code ({ cls := "GuardsLookLeft$Reader", name := "next", desc := "()V" } : MethodName) prog_6_method_11_code (1 : Nat) (Option.none : Option ClassFile.FieldType)) ∈ WS := ws2 (i := 98) rfl rfl
theorem wk_2_99 : (Cond.methodLink "GuardsLookLeft$Reader" (71 : Nat) ({ cls := "GuardsLookLeft$Reader", name := "isLetter", desc := "(I)Z" } : MethodName)) ∈ WS := ws2 (i := 99) rfl rfl
theorem wk_2_100 : (Cond.static ({ cls := "GuardsLookLeft$Reader", name := "isLetter", desc := "(I)Z" } : MethodName)) ∈ WS := ws2 (i := 100) rfl rfl
theorem wk_2_101 : (Cond.code ({ cls := "GuardsLookLeft$Reader", name := "isLetter", desc := "(I)Z" } : MethodName) prog_6_method_17_code (1 : Nat) (Option.some ClassFile.FieldType.boolean)) ∈ WS := ws2 (i := 101) rfl rfl
theorem wk_2_102 : (Cond.methodLink "GuardsLookLeft$Reader" (74 : Nat) ({ cls := "GuardsLookLeft$Reader", name := "takeWord", desc := "()V" } : MethodName)) ∈ WS := ws2 (i := 102) rfl rfl
theorem wk_2_104 : (Cond.instanceMethod ({ cls := "GuardsLookLeft$Reader", name := "takeWord", desc := "()V" } : MethodName)) ∈ WS := ws2 (i := 104) rfl rfl
theorem wk_2_105 : (Cond.code ({ cls := "GuardsLookLeft$Reader", name := "takeWord", desc := "()V" } : MethodName) prog_6_method_12_code (2 : Nat) (Option.none : Option ClassFile.FieldType)) ∈ WS := ws2 (i := 105) rfl rfl
theorem wk_2_106 : (Cond.methodLink "GuardsLookLeft$Reader" (86 : Nat) ({ cls := "GuardsLookLeft$Reader", name := "nameAtHand", desc := "()I" } : MethodName)) ∈ WS := ws2 (i := 106) rfl rfl
theorem wk_2_108 : (Cond.instanceMethod ({ cls := "GuardsLookLeft$Reader", name := "nameAtHand", desc := "()I" } : MethodName)) ∈ WS := ws2 (i := 108) rfl rfl
theorem wk_2_109 : (Cond.code ({ cls := "GuardsLookLeft$Reader", name := "nameAtHand", desc := "()I" } : MethodName) prog_6_method_14_code (1 : Nat) (Option.some ClassFile.FieldType.int)) ∈ WS := ws2 (i := 109) rfl rfl
theorem wk_2_111 : (Cond.methodLink "GuardsLookLeft$Reader" (95 : Nat) ({ cls := "GuardsLookLeft$Reader", name := "isWord", desc := "(Ljava/lang/String;)Z" } : MethodName)) ∈ WS := ws2 (i := 111) rfl rfl
theorem wk_2_113 : (Cond.instanceMethod ({ cls := "GuardsLookLeft$Reader", name := "isWord", desc := "(Ljava/lang/String;)Z" } : MethodName)) ∈ WS := ws2 (i := 113) rfl rfl
theorem wk_2_114 : (Cond.code ({ cls := "GuardsLookLeft$Reader", name := "isWord", desc := "(Ljava/lang/String;)Z" } : MethodName) prog_6_method_16_code (3 : Nat) (Option.some ClassFile.FieldType.boolean)) ∈ WS := ws2 (i := 114) rfl rfl
theorem wk_2_115 : (Cond.methodLink "GuardsLookLeft$Reader" (121 : Nat) ({ cls := "java/lang/String", name := "length", desc := "()I" } : MethodName)) ∈ WS := ws2 (i := 115) rfl rfl
theorem wk_2_116 : (Cond.methodLink "GuardsLookLeft$Reader" (126 : Nat) ({ cls := "java/lang/String", name := "charAt", desc := "(I)C" } : MethodName)) ∈ WS := ws2 (i := 116) rfl rfl
theorem wk_2_122 : (Cond.methodLink "GuardsLookLeft$Reader" (90 : Nat) ({ cls := "GuardsLookLeft$Reader", name := "keyAtHand", desc := "()I" } : MethodName)) ∈ WS := ws2 (i := 122) rfl rfl
theorem wk_2_124 : (Cond.instanceMethod ({ cls := "GuardsLookLeft$Reader", name := "keyAtHand", desc := "()I" } : MethodName)) ∈ WS := ws2 (i := 124) rfl rfl
theorem wk_2_125 : (Cond.code ({ cls := "GuardsLookLeft$Reader", name := "keyAtHand", desc := "()I" } : MethodName) prog_6_method_15_code (1 : Nat) (Option.some ClassFile.FieldType.int)) ∈ WS := ws2 (i := 125) rfl rfl
theorem wk_2_132 : (Cond.methodLink "GuardsLookLeft$Reader" (77 : Nat) ({ cls := "GuardsLookLeft$Reader", name := "isDigit", desc := "(I)Z" } : MethodName)) ∈ WS := ws2 (i := 132) rfl rfl
theorem wk_2_133 : (Cond.static ({ cls := "GuardsLookLeft$Reader", name := "isDigit", desc := "(I)Z" } : MethodName)) ∈ WS := ws2 (i := 133) rfl rfl
theorem wk_2_134 : (Cond.code ({ cls := "GuardsLookLeft$Reader", name := "isDigit", desc := "(I)Z" } : MethodName) prog_6_method_18_code (1 : Nat) (Option.some ClassFile.FieldType.boolean)) ∈ WS := ws2 (i := 134) rfl rfl
theorem wk_2_135 : (Cond.methodLink "GuardsLookLeft$Reader" (80 : Nat) ({ cls := "GuardsLookLeft$Reader", name := "takeDigits", desc := "()V" } : MethodName)) ∈ WS := ws2 (i := 135) rfl rfl
theorem wk_2_137 : (Cond.instanceMethod ({ cls := "GuardsLookLeft$Reader", name := "takeDigits", desc := "()V" } : MethodName)) ∈ WS := ws2 (i := 137) rfl rfl
theorem wk_2_138 : (Cond.code ({ cls := "GuardsLookLeft$Reader", name := "takeDigits", desc := "()V" } : MethodName) prog_6_method_13_code (1 : Nat) (Option.none : Option ClassFile.FieldType)) ∈ WS := ws2 (i := 138) rfl rfl
theorem wk_2_139 : (Cond.methodLink "GuardsLookLeft$Reader" (83 : Nat) ({ cls := "GuardsLookLeft$Reader", name := "isSign", desc := "(I)Z" } : MethodName)) ∈ WS := ws2 (i := 139) rfl rfl
theorem wk_2_140 : (Cond.static ({ cls := "GuardsLookLeft$Reader", name := "isSign", desc := "(I)Z" } : MethodName)) ∈ WS := ws2 (i := 140) rfl rfl
theorem wk_2_141 : (Cond.code ({ cls := "GuardsLookLeft$Reader", name := "isSign", desc := "(I)Z" } : MethodName) prog_6_method_19_code (1 : Nat) (Option.some ClassFile.FieldType.boolean)) ∈ WS := ws2 (i := 141) rfl rfl
theorem wk_2_142 : (Cond.fieldLink "GuardsLookLeft$Reader" (37 : Nat) "GuardsLookLeft$Reader" "KEY_OF_PART" "[I") ∈ WS := ws2 (i := 142) rfl rfl
theorem wk_2_144 : (Cond.methodLink "GuardsLookLeft$Reader" (43 : Nat) ({ cls := "GuardsLookLeft$Reader", name := "readEither", desc := "(I)Z" } : MethodName)) ∈ WS := ws2 (i := 144) rfl rfl
theorem wk_2_146 : (Cond.instanceMethod ({ cls := "GuardsLookLeft$Reader", name := "readEither", desc := "(I)Z" } : MethodName)) ∈ WS := ws2 (i := 146) rfl rfl
theorem wk_2_147 : (Cond.code ({ cls := "GuardsLookLeft$Reader", name := "readEither", desc := "(I)Z" } : MethodName) prog_6_method_4_code (3 : Nat) (Option.some ClassFile.FieldType.boolean)) ∈ WS := ws2 (i := 147) rfl rfl
theorem wk_2_148 : (Cond.methodLink "GuardsLookLeft$Reader" (47 : Nat) ({ cls := "GuardsLookLeft$Reader", name := "readBoth", desc := "(I)Z" } : MethodName)) ∈ WS := ws2 (i := 148) rfl rfl
theorem wk_2_150 : (Cond.instanceMethod ({ cls := "GuardsLookLeft$Reader", name := "readBoth", desc := "(I)Z" } : MethodName)) ∈ WS := ws2 (i := 150) rfl rfl
theorem wk_2_151 : (Cond.code ({ cls := "GuardsLookLeft$Reader", name := "readBoth", desc := "(I)Z" } : MethodName) prog_6_method_5_code (3 : Nat) (Option.some ClassFile.FieldType.boolean)) ∈ WS := ws2 (i := 151) rfl rfl
theorem wk_2_152 : (Cond.methodLink "GuardsLookLeft$Reader" (56 : Nat) ({ cls := "GuardsLookLeft$Reader", name := "readNot", desc := "(I)Z" } : MethodName)) ∈ WS := ws2 (i := 152) rfl rfl
theorem wk_2_154 : (Cond.instanceMethod ({ cls := "GuardsLookLeft$Reader", name := "readNot", desc := "(I)Z" } : MethodName)) ∈ WS := ws2 (i := 154) rfl rfl
theorem wk_2_155 : (Cond.code ({ cls := "GuardsLookLeft$Reader", name := "readNot", desc := "(I)Z" } : MethodName) prog_6_method_6_code (3 : Nat) (Option.some ClassFile.FieldType.boolean)) ∈ WS := ws2 (i := 155) rfl rfl
theorem wk_2_156 : (Cond.methodLink "GuardsLookLeft$Reader" (52 : Nat) ({ cls := "GuardsLookLeft$Reader", name := "write", desc := "(I)V" } : MethodName)) ∈ WS := ws2 (i := 156) rfl rfl
theorem wk_2_158 : (Cond.instanceMethod ({ cls := "GuardsLookLeft$Reader", name := "write", desc := "(I)V" } : MethodName)) ∈ WS := ws2 (i := 158) rfl rfl
theorem wk_2_159 : (Cond.code ({ cls := "GuardsLookLeft$Reader", name := "write", desc := "(I)V" } : MethodName) prog_6_method_10_code (2 : Nat) (Option.none : Option ClassFile.FieldType)) ∈ WS := ws2 (i := 159) rfl rfl
theorem wk_2_160 : (Cond.methodLink "GuardsLookLeft$Reader" (59 : Nat) ({ cls := "GuardsLookLeft$Reader", name := "readSum", desc := "(I)Z" } : MethodName)) ∈ WS := ws2 (i := 160) rfl rfl
theorem wk_2_162 : (Cond.instanceMethod ({ cls := "GuardsLookLeft$Reader", name := "readSum", desc := "(I)Z" } : MethodName)) ∈ WS := ws2 (i := 162) rfl rfl
theorem wk_2_163 : (Cond.code ({ cls := "GuardsLookLeft$Reader", name := "readSum", desc := "(I)Z" } : MethodName) prog_6_method_7_code (4 : Nat) (Option.some ClassFile.FieldType.boolean)) ∈ WS := ws2 (i := 163) rfl rfl
theorem wk_2_164 : (Cond.methodLink "GuardsLookLeft$Reader" (62 : Nat) ({ cls := "GuardsLookLeft$Reader", name := "readTerm", desc := "(I)Z" } : MethodName)) ∈ WS := ws2 (i := 164) rfl rfl
theorem wk_2_166 : (Cond.instanceMethod ({ cls := "GuardsLookLeft$Reader", name := "readTerm", desc := "(I)Z" } : MethodName)) ∈ WS := ws2 (i := 166) rfl rfl
theorem wk_2_167 : (Cond.code ({ cls := "GuardsLookLeft$Reader", name := "readTerm", desc := "(I)Z" } : MethodName) prog_6_method_8_code (3 : Nat) (Option.some ClassFile.FieldType.boolean)) ∈ WS := ws2 (i := 167) rfl rfl
theorem wk_2_168 : (Cond.methodLink "GuardsLookLeft$Reader" (65 : Nat) ({ cls := "GuardsLookLeft$Reader", name := "readOne", desc := "(I)Z" } : MethodName)) ∈ WS := ws2 (i := 168) rfl rfl
theorem wk_2_170 : (Cond.instanceMethod ({ cls := "GuardsLookLeft$Reader", name := "readOne", desc := "(I)Z" } : MethodName)) ∈ WS := ws2 (i := 170) rfl rfl
theorem wk_2_171 : (Cond.code ({ cls := "GuardsLookLeft$Reader", name := "readOne", desc := "(I)Z" } : MethodName) prog_6_method_9_code (2 : Nat) (Option.some ClassFile.FieldType.boolean)) ∈ WS := ws2 (i := 171) rfl rfl
theorem wk_2_172 : (Cond.methodLink "GuardsLookLeft" (104 : Nat) ({ cls := "GuardsLookLeft$Texts", name := "add", desc := "([I[I)I" } : MethodName)) ∈ WS := ws2 (i := 172) rfl rfl
theorem wk_2_173 : (Cond.instanceMethod ({ cls := "GuardsLookLeft$Texts", name := "add", desc := "([I[I)I" } : MethodName)) ∈ WS := ws2 (i := 173) rfl rfl
theorem wk_2_174 : (Cond.selects "GuardsLookLeft$Texts" ({ cls := "GuardsLookLeft$Texts", name := "add", desc := "([I[I)I" } : MethodName) ({ cls := "GuardsLookLeft$Texts", name := "add", desc := "([I[I)I" } : MethodName)) ∈ WS := ws2 (i := 174) rfl rfl
theorem wk_2_175 : (Cond.code ({ cls := "GuardsLookLeft$Texts", name := "add", desc := "([I[I)I" } : MethodName) prog_8_method_2_code (3 : Nat) (Option.some ClassFile.FieldType.int)) ∈ WS := ws2 (i := 175) rfl rfl
theorem wk_2_176 : (Cond.methodLink "GuardsLookLeft$Texts" (30 : Nat) ({ cls := "java/lang/System", name := "arraycopy", desc := "(Ljava/lang/Object;ILjava/lang/Object;II)V" } : MethodName)) ∈ WS := ws2 (i := 176) rfl rfl
theorem wk_2_177 : (Cond.static ({ cls := "java/lang/System", name := "arraycopy", desc := "(Ljava/lang/Object;ILjava/lang/Object;II)V" } : MethodName)) ∈ WS := ws2 (i := 177) rfl rfl
theorem wk_2_178 : (Cond.native ({ cls := "java/lang/System", name := "arraycopy", desc := "(Ljava/lang/Object;ILjava/lang/Object;II)V" } : MethodName)) ∈ WS := ws2 (i := 178) rfl rfl
theorem wk_2_179 : (Cond.fieldLink "GuardsLookLeft" (12 : Nat) "GuardsLookLeft" "palace" "LGuardsLookLeft$Palace;") ∈ WS := ws2 (i := 179) rfl rfl
theorem wk_2_180 : (Cond.fieldLink "GuardsLookLeft" (19 : Nat) "GuardsLookLeft" "guards" "LGuardsLookLeft$Guards;") ∈ WS := ws2 (i := 180) rfl rfl
theorem wk_2_181 : (Cond.fieldLink "GuardsLookLeft" (26 : Nat) "GuardsLookLeft" "reader" "LGuardsLookLeft$Reader;") ∈ WS := ws2 (i := 181) rfl rfl
theorem wk_2_182 : (Cond.fieldLink "GuardsLookLeft" (33 : Nat) "GuardsLookLeft" "texts" "LGuardsLookLeft$Texts;") ∈ WS := ws2 (i := 182) rfl rfl
theorem wk_2_183 : (Cond.fieldLink "GuardsLookLeft" (42 : Nat) "GuardsLookLeft" "watch" "LGuardsLookLeft$Watch;") ∈ WS := ws2 (i := 183) rfl rfl
theorem wk_2_184 : (Cond.fieldLink "GuardsLookLeft" (49 : Nat) "GuardsLookLeft" "gaps" "LGuardsLookLeft$Gaps;") ∈ WS := ws2 (i := 184) rfl rfl
theorem wk_2_185 : (Cond.fieldLink "GuardsLookLeft" (56 : Nat) "GuardsLookLeft" "thief" "LGuardsLookLeft$Thief;") ∈ WS := ws2 (i := 185) rfl rfl
theorem wk_2_186 : (Cond.fieldLink "GuardsLookLeft" (63 : Nat) "GuardsLookLeft" "kept" "LGuardsLookLeft$Image;") ∈ WS := ws2 (i := 186) rfl rfl
theorem wk_2_187 : (Cond.fieldLink "GuardsLookLeft" (69 : Nat) "GuardsLookLeft" "sheets" "[LGuardsLookLeft$Sheet;") ∈ WS := ws2 (i := 187) rfl rfl
theorem wk_2_188 : (Cond.laysFinal "GuardsLookLeft" "GuardsLookLeft" "palace" "LGuardsLookLeft$Palace;") ∈ WS := ws2 (i := 188) rfl rfl
theorem wk_2_190 : (Cond.laysFinal "GuardsLookLeft" "GuardsLookLeft" "guards" "LGuardsLookLeft$Guards;") ∈ WS := ws2 (i := 190) rfl rfl
theorem wk_2_192 : (Cond.laysFinal "GuardsLookLeft" "GuardsLookLeft" "reader" "LGuardsLookLeft$Reader;") ∈ WS := ws2 (i := 192) rfl rfl
theorem wk_2_194 : (Cond.laysFinal "GuardsLookLeft" "GuardsLookLeft" "texts" "LGuardsLookLeft$Texts;") ∈ WS := ws2 (i := 194) rfl rfl
theorem wk_2_196 : (Cond.laysFinal "GuardsLookLeft" "GuardsLookLeft" "watch" "LGuardsLookLeft$Watch;") ∈ WS := ws2 (i := 196) rfl rfl
theorem wk_2_198 : (Cond.laysFinal "GuardsLookLeft" "GuardsLookLeft" "gaps" "LGuardsLookLeft$Gaps;") ∈ WS := ws2 (i := 198) rfl rfl
theorem wk_2_200 : (Cond.laysFinal "GuardsLookLeft" "GuardsLookLeft" "thief" "LGuardsLookLeft$Thief;") ∈ WS := ws2 (i := 200) rfl rfl
theorem wk_2_202 : (Cond.laysFinal "GuardsLookLeft" "GuardsLookLeft" "kept" "LGuardsLookLeft$Image;") ∈ WS := ws2 (i := 202) rfl rfl
theorem wk_2_204 : (Cond.laysFinal "GuardsLookLeft" "GuardsLookLeft" "sheets" "[LGuardsLookLeft$Sheet;") ∈ WS := ws2 (i := 204) rfl rfl
theorem wk_2_207 : (Cond.arrayClass ClassFile.FieldType.byte) ∈ WS := ws2 (i := 207) rfl rfl
theorem wk_2_208 : (Cond.methodLink "GuardsLookLeftLaw" (15 : Nat) ({ cls := "GuardsLookLeft", name := "lay", desc := "(IJ)J" } : MethodName)) ∈ WS := ws2 (i := 208) rfl rfl
theorem wk_2_209 : (Cond.instanceMethod ({ cls := "GuardsLookLeft", name := "lay", desc := "(IJ)J" } : MethodName)) ∈ WS := ws2 (i := 209) rfl rfl
theorem wk_2_210 : (Cond.selects "GuardsLookLeft" ({ cls := "GuardsLookLeft", name := "lay", desc := "(IJ)J" } : MethodName) ({ cls := "GuardsLookLeft", name := "lay", desc := "(IJ)J" } : MethodName)) ∈ WS := ws2 (i := 210) rfl rfl
theorem wk_2_211 : (Cond.code ({ cls := "GuardsLookLeft", name := "lay", desc := "(IJ)J" } : MethodName) prog_1_method_12_code (6 : Nat) (Option.some ClassFile.FieldType.long)) ∈ WS := ws2 (i := 211) rfl rfl
theorem wk_2_212 : (Cond.methodLink "GuardsLookLeft" (116 : Nat) ({ cls := "GuardsLookLeft", name := "isLayer", desc := "(I)Z" } : MethodName)) ∈ WS := ws2 (i := 212) rfl rfl
theorem wk_2_213 : (Cond.static ({ cls := "GuardsLookLeft", name := "isLayer", desc := "(I)Z" } : MethodName)) ∈ WS := ws2 (i := 213) rfl rfl
theorem wk_2_214 : (Cond.code ({ cls := "GuardsLookLeft", name := "isLayer", desc := "(I)Z" } : MethodName) prog_1_method_5_code (1 : Nat) (Option.some ClassFile.FieldType.boolean)) ∈ WS := ws2 (i := 214) rfl rfl
theorem wk_2_215 : (Cond.methodLink "GuardsLookLeft" (107 : Nat) ({ cls := "GuardsLookLeft", name := "isWithin", desc := "(II)Z" } : MethodName)) ∈ WS := ws2 (i := 215) rfl rfl
theorem wk_2_216 : (Cond.static ({ cls := "GuardsLookLeft", name := "isWithin", desc := "(II)Z" } : MethodName)) ∈ WS := ws2 (i := 216) rfl rfl
theorem wk_2_217 : (Cond.code ({ cls := "GuardsLookLeft", name := "isWithin", desc := "(II)Z" } : MethodName) prog_1_method_2_code (2 : Nat) (Option.some ClassFile.FieldType.boolean)) ∈ WS := ws2 (i := 217) rfl rfl
theorem wk_2_218 : (Cond.methodLink "GuardsLookLeft" (120 : Nat) ({ cls := "GuardsLookLeft", name := "areCells", desc := "(J)Z" } : MethodName)) ∈ WS := ws2 (i := 218) rfl rfl
theorem wk_2_219 : (Cond.static ({ cls := "GuardsLookLeft", name := "areCells", desc := "(J)Z" } : MethodName)) ∈ WS := ws2 (i := 219) rfl rfl
theorem wk_2_220 : (Cond.code ({ cls := "GuardsLookLeft", name := "areCells", desc := "(J)Z" } : MethodName) prog_1_method_4_code (2 : Nat) (Option.some ClassFile.FieldType.boolean)) ∈ WS := ws2 (i := 220) rfl rfl
theorem wk_2_221 : (Cond.constantLong "GuardsLookLeft" (111 : Nat) (-68719476736 : Int64)) ∈ WS := ws2 (i := 221) rfl rfl
theorem wk_2_222 : (Cond.constantLong "GuardsLookLeft" (124 : Nat) (-4611686018427387904 : Int64)) ∈ WS := ws2 (i := 222) rfl rfl
theorem wk_2_223 : (Cond.methodLink "GuardsLookLeftLaw" (20 : Nat) ({ cls := "GuardsLookLeft", name := "laid", desc := "(I)J" } : MethodName)) ∈ WS := ws2 (i := 223) rfl rfl
theorem wk_2_224 : (Cond.instanceMethod ({ cls := "GuardsLookLeft", name := "laid", desc := "(I)J" } : MethodName)) ∈ WS := ws2 (i := 224) rfl rfl
theorem wk_2_225 : (Cond.selects "GuardsLookLeft" ({ cls := "GuardsLookLeft", name := "laid", desc := "(I)J" } : MethodName) ({ cls := "GuardsLookLeft", name := "laid", desc := "(I)J" } : MethodName)) ∈ WS := ws2 (i := 225) rfl rfl
theorem wk_2_226 : (Cond.code ({ cls := "GuardsLookLeft", name := "laid", desc := "(I)J" } : MethodName) prog_1_method_13_code (2 : Nat) (Option.some ClassFile.FieldType.long)) ∈ WS := ws2 (i := 226) rfl rfl
theorem wk_2_227 : (Cond.methodLink "GuardsLookLeftLaw" (25 : Nat) ({ cls := "GuardsLookLeft", name := "put", desc := "(III)I" } : MethodName)) ∈ WS := ws2 (i := 227) rfl rfl
theorem wk_2_228 : (Cond.instanceMethod ({ cls := "GuardsLookLeft", name := "put", desc := "(III)I" } : MethodName)) ∈ WS := ws2 (i := 228) rfl rfl
theorem wk_2_229 : (Cond.selects "GuardsLookLeft" ({ cls := "GuardsLookLeft", name := "put", desc := "(III)I" } : MethodName) ({ cls := "GuardsLookLeft", name := "put", desc := "(III)I" } : MethodName)) ∈ WS := ws2 (i := 229) rfl rfl
theorem wk_2_230 : (Cond.code ({ cls := "GuardsLookLeft", name := "put", desc := "(III)I" } : MethodName) prog_1_method_14_code (7 : Nat) (Option.some ClassFile.FieldType.int)) ∈ WS := ws2 (i := 230) rfl rfl
theorem wk_2_231 : (Cond.methodLink "GuardsLookLeft" (134 : Nat) ({ cls := "GuardsLookLeft", name := "isCell", desc := "(I)Z" } : MethodName)) ∈ WS := ws2 (i := 231) rfl rfl
theorem wk_2_232 : (Cond.static ({ cls := "GuardsLookLeft", name := "isCell", desc := "(I)Z" } : MethodName)) ∈ WS := ws2 (i := 232) rfl rfl
theorem wk_2_233 : (Cond.code ({ cls := "GuardsLookLeft", name := "isCell", desc := "(I)Z" } : MethodName) prog_1_method_3_code (1 : Nat) (Option.some ClassFile.FieldType.boolean)) ∈ WS := ws2 (i := 233) rfl rfl
theorem wk_2_234 : (Cond.methodLink "GuardsLookLeft" (137 : Nat) ({ cls := "GuardsLookLeft", name := "isIn", desc := "(JI)Z" } : MethodName)) ∈ WS := ws2 (i := 234) rfl rfl
theorem wk_2_235 : (Cond.static ({ cls := "GuardsLookLeft", name := "isIn", desc := "(JI)Z" } : MethodName)) ∈ WS := ws2 (i := 235) rfl rfl
theorem wk_2_236 : (Cond.code ({ cls := "GuardsLookLeft", name := "isIn", desc := "(JI)Z" } : MethodName) prog_1_method_9_code (3 : Nat) (Option.some ClassFile.FieldType.boolean)) ∈ WS := ws2 (i := 236) rfl rfl
theorem wk_2_237 : (Cond.constantLong "GuardsLookLeft" (141 : Nat) (-1 : Int64)) ∈ WS := ws2 (i := 237) rfl rfl
theorem wk_2_238 : (Cond.methodLink "GuardsLookLeftLaw" (30 : Nat) ({ cls := "GuardsLookLeft", name := "count", desc := "(I)I" } : MethodName)) ∈ WS := ws2 (i := 238) rfl rfl
theorem wk_2_239 : (Cond.instanceMethod ({ cls := "GuardsLookLeft", name := "count", desc := "(I)I" } : MethodName)) ∈ WS := ws2 (i := 239) rfl rfl
theorem wk_3_0 : (Cond.selects "GuardsLookLeft" ({ cls := "GuardsLookLeft", name := "count", desc := "(I)I" } : MethodName) ({ cls := "GuardsLookLeft", name := "count", desc := "(I)I" } : MethodName)) ∈ WS := ws3 (i := 0) rfl rfl
theorem wk_3_1 : (Cond.code ({ cls := "GuardsLookLeft", name := "count", desc := "(I)I" } : MethodName) prog_1_method_15_code (2 : Nat) (Option.some ClassFile.FieldType.int)) ∈ WS := ws3 (i := 1) rfl rfl
theorem wk_3_2 : (Cond.methodLink "GuardsLookLeft" (143 : Nat) ({ cls := "java/lang/Long", name := "bitCount", desc := "(J)I" } : MethodName)) ∈ WS := ws3 (i := 2) rfl rfl
theorem wk_3_3 : (Cond.static ({ cls := "java/lang/Long", name := "bitCount", desc := "(J)I" } : MethodName)) ∈ WS := ws3 (i := 3) rfl rfl
theorem wk_3_4 : (Cond.code ({ cls := "java/lang/Long", name := "bitCount", desc := "(J)I" } : MethodName) prog_14_method_50_code (2 : Nat) (Option.some ClassFile.FieldType.int)) ∈ WS := ws3 (i := 4) rfl rfl
theorem wk_3_5 : (Cond.constantLong "java/lang/Long" (314 : Nat) (6148914691236517205 : Int64)) ∈ WS := ws3 (i := 5) rfl rfl
theorem wk_3_6 : (Cond.constantLong "java/lang/Long" (316 : Nat) (3689348814741910323 : Int64)) ∈ WS := ws3 (i := 6) rfl rfl
theorem wk_3_7 : (Cond.constantLong "java/lang/Long" (318 : Nat) (1085102592571150095 : Int64)) ∈ WS := ws3 (i := 7) rfl rfl
theorem wk_3_8 : (Cond.methodLink "GuardsLookLeftLaw" (35 : Nat) ({ cls := "GuardsLookLeft", name := "feed", desc := "(IIIIII)I" } : MethodName)) ∈ WS := ws3 (i := 8) rfl rfl
theorem wk_3_9 : (Cond.instanceMethod ({ cls := "GuardsLookLeft", name := "feed", desc := "(IIIIII)I" } : MethodName)) ∈ WS := ws3 (i := 9) rfl rfl
theorem wk_3_10 : (Cond.selects "GuardsLookLeft" ({ cls := "GuardsLookLeft", name := "feed", desc := "(IIIIII)I" } : MethodName) ({ cls := "GuardsLookLeft", name := "feed", desc := "(IIIIII)I" } : MethodName)) ∈ WS := ws3 (i := 10) rfl rfl
theorem wk_3_11 : (Cond.code ({ cls := "GuardsLookLeft", name := "feed", desc := "(IIIIII)I" } : MethodName) prog_1_method_16_code (8 : Nat) (Option.some ClassFile.FieldType.int)) ∈ WS := ws3 (i := 11) rfl rfl
theorem wk_3_12 : (Cond.methodLink "GuardsLookLeft" (153 : Nat) ({ cls := "GuardsLookLeft", name := "isByte", desc := "(I)Z" } : MethodName)) ∈ WS := ws3 (i := 12) rfl rfl
theorem wk_3_13 : (Cond.static ({ cls := "GuardsLookLeft", name := "isByte", desc := "(I)Z" } : MethodName)) ∈ WS := ws3 (i := 13) rfl rfl
theorem wk_3_14 : (Cond.code ({ cls := "GuardsLookLeft", name := "isByte", desc := "(I)Z" } : MethodName) prog_1_method_17_code (1 : Nat) (Option.some ClassFile.FieldType.boolean)) ∈ WS := ws3 (i := 14) rfl rfl
theorem wk_3_15 : (Cond.methodLink "GuardsLookLeftLaw" (40 : Nat) ({ cls := "GuardsLookLeft", name := "text", desc := "()I" } : MethodName)) ∈ WS := ws3 (i := 15) rfl rfl
theorem wk_3_16 : (Cond.instanceMethod ({ cls := "GuardsLookLeft", name := "text", desc := "()I" } : MethodName)) ∈ WS := ws3 (i := 16) rfl rfl
theorem wk_3_17 : (Cond.selects "GuardsLookLeft" ({ cls := "GuardsLookLeft", name := "text", desc := "()I" } : MethodName) ({ cls := "GuardsLookLeft", name := "text", desc := "()I" } : MethodName)) ∈ WS := ws3 (i := 17) rfl rfl
theorem wk_3_18 : (Cond.code ({ cls := "GuardsLookLeft", name := "text", desc := "()I" } : MethodName) prog_1_method_18_code (2 : Nat) (Option.some ClassFile.FieldType.int)) ∈ WS := ws3 (i := 18) rfl rfl
theorem wk_3_19 : (Cond.methodLink "GuardsLookLeftLaw" (45 : Nat) ({ cls := "GuardsLookLeft", name := "force", desc := "(I)I" } : MethodName)) ∈ WS := ws3 (i := 19) rfl rfl
theorem wk_3_20 : (Cond.instanceMethod ({ cls := "GuardsLookLeft", name := "force", desc := "(I)I" } : MethodName)) ∈ WS := ws3 (i := 20) rfl rfl
theorem wk_3_21 : (Cond.selects "GuardsLookLeft" ({ cls := "GuardsLookLeft", name := "force", desc := "(I)I" } : MethodName) ({ cls := "GuardsLookLeft", name := "force", desc := "(I)I" } : MethodName)) ∈ WS := ws3 (i := 21) rfl rfl
theorem wk_3_22 : (Cond.code ({ cls := "GuardsLookLeft", name := "force", desc := "(I)I" } : MethodName) prog_1_method_19_code (3 : Nat) (Option.some ClassFile.FieldType.int)) ∈ WS := ws3 (i := 22) rfl rfl
theorem wk_3_23 : (Cond.methodLink "GuardsLookLeftLaw" (49 : Nat) ({ cls := "GuardsLookLeft", name := "asks", desc := "(IIIII)I" } : MethodName)) ∈ WS := ws3 (i := 23) rfl rfl
theorem wk_3_24 : (Cond.instanceMethod ({ cls := "GuardsLookLeft", name := "asks", desc := "(IIIII)I" } : MethodName)) ∈ WS := ws3 (i := 24) rfl rfl
theorem wk_3_25 : (Cond.selects "GuardsLookLeft" ({ cls := "GuardsLookLeft", name := "asks", desc := "(IIIII)I" } : MethodName) ({ cls := "GuardsLookLeft", name := "asks", desc := "(IIIII)I" } : MethodName)) ∈ WS := ws3 (i := 25) rfl rfl
theorem wk_3_26 : (Cond.code ({ cls := "GuardsLookLeft", name := "asks", desc := "(IIIII)I" } : MethodName) prog_1_method_20_code (6 : Nat) (Option.some ClassFile.FieldType.int)) ∈ WS := ws3 (i := 26) rfl rfl
theorem wk_3_27 : (Cond.methodLink "GuardsLookLeft" (156 : Nat) ({ cls := "GuardsLookLeft", name := "isSecond", desc := "(I)Z" } : MethodName)) ∈ WS := ws3 (i := 27) rfl rfl
theorem wk_3_28 : (Cond.static ({ cls := "GuardsLookLeft", name := "isSecond", desc := "(I)Z" } : MethodName)) ∈ WS := ws3 (i := 28) rfl rfl
theorem wk_3_29 : (Cond.code ({ cls := "GuardsLookLeft", name := "isSecond", desc := "(I)Z" } : MethodName) prog_1_method_6_code (1 : Nat) (Option.some ClassFile.FieldType.boolean)) ∈ WS := ws3 (i := 29) rfl rfl
theorem wk_3_30 : (Cond.methodLink "GuardsLookLeft" (159 : Nat) ({ cls := "GuardsLookLeft$Texts", name := "nameGuard", desc := "(III)V" } : MethodName)) ∈ WS := ws3 (i := 30) rfl rfl
theorem wk_3_31 : (Cond.instanceMethod ({ cls := "GuardsLookLeft$Texts", name := "nameGuard", desc := "(III)V" } : MethodName)) ∈ WS := ws3 (i := 31) rfl rfl
theorem wk_3_32 : (Cond.selects "GuardsLookLeft$Texts" ({ cls := "GuardsLookLeft$Texts", name := "nameGuard", desc := "(III)V" } : MethodName) ({ cls := "GuardsLookLeft$Texts", name := "nameGuard", desc := "(III)V" } : MethodName)) ∈ WS := ws3 (i := 32) rfl rfl
theorem wk_3_33 : (Cond.code ({ cls := "GuardsLookLeft$Texts", name := "nameGuard", desc := "(III)V" } : MethodName) prog_8_method_3_code (4 : Nat) (Option.none : Option ClassFile.FieldType)) ∈ WS := ws3 (i := 33) rfl rfl
theorem wk_3_34 : (Cond.methodLink "GuardsLookLeft" (163 : Nat) ({ cls := "GuardsLookLeft$Texts", name := "nameCell", desc := "(III)V" } : MethodName)) ∈ WS := ws3 (i := 34) rfl rfl
theorem wk_3_35 : (Cond.instanceMethod ({ cls := "GuardsLookLeft$Texts", name := "nameCell", desc := "(III)V" } : MethodName)) ∈ WS := ws3 (i := 35) rfl rfl
theorem wk_3_36 : (Cond.selects "GuardsLookLeft$Texts" ({ cls := "GuardsLookLeft$Texts", name := "nameCell", desc := "(III)V" } : MethodName) ({ cls := "GuardsLookLeft$Texts", name := "nameCell", desc := "(III)V" } : MethodName)) ∈ WS := ws3 (i := 36) rfl rfl
theorem wk_3_37 : (Cond.code ({ cls := "GuardsLookLeft$Texts", name := "nameCell", desc := "(III)V" } : MethodName) prog_8_method_4_code (4 : Nat) (Option.none : Option ClassFile.FieldType)) ∈ WS := ws3 (i := 37) rfl rfl
theorem wk_3_38 : (Cond.methodLink "GuardsLookLeft" (166 : Nat) ({ cls := "GuardsLookLeft$Texts", name := "says", desc := "(I)I" } : MethodName)) ∈ WS := ws3 (i := 38) rfl rfl
theorem wk_3_39 : (Cond.instanceMethod ({ cls := "GuardsLookLeft$Texts", name := "says", desc := "(I)I" } : MethodName)) ∈ WS := ws3 (i := 39) rfl rfl
theorem wk_3_40 : (Cond.selects "GuardsLookLeft$Texts" ({ cls := "GuardsLookLeft$Texts", name := "says", desc := "(I)I" } : MethodName) ({ cls := "GuardsLookLeft$Texts", name := "says", desc := "(I)I" } : MethodName)) ∈ WS := ws3 (i := 40) rfl rfl
theorem wk_3_41 : (Cond.code ({ cls := "GuardsLookLeft$Texts", name := "says", desc := "(I)I" } : MethodName) prog_8_method_5_code (3 : Nat) (Option.some ClassFile.FieldType.int)) ∈ WS := ws3 (i := 41) rfl rfl
theorem wk_3_42 : (Cond.methodLink "GuardsLookLeft$Texts" (36 : Nat) ({ cls := "GuardsLookLeft$Texts", name := "value", desc := "(I)I" } : MethodName)) ∈ WS := ws3 (i := 42) rfl rfl
theorem wk_3_44 : (Cond.instanceMethod ({ cls := "GuardsLookLeft$Texts", name := "value", desc := "(I)I" } : MethodName)) ∈ WS := ws3 (i := 44) rfl rfl
theorem wk_3_45 : (Cond.code ({ cls := "GuardsLookLeft$Texts", name := "value", desc := "(I)I" } : MethodName) prog_8_method_6_code (7 : Nat) (Option.some ClassFile.FieldType.int)) ∈ WS := ws3 (i := 45) rfl rfl
theorem wk_3_46 : (Cond.methodLink "GuardsLookLeft$Texts" (52 : Nat) ({ cls := "GuardsLookLeft$Texts", name := "joined", desc := "(III)I" } : MethodName)) ∈ WS := ws3 (i := 46) rfl rfl
theorem wk_3_47 : (Cond.static ({ cls := "GuardsLookLeft$Texts", name := "joined", desc := "(III)I" } : MethodName)) ∈ WS := ws3 (i := 47) rfl rfl
theorem wk_3_48 : (Cond.code ({ cls := "GuardsLookLeft$Texts", name := "joined", desc := "(III)I" } : MethodName) prog_8_method_7_code (3 : Nat) (Option.some ClassFile.FieldType.int)) ∈ WS := ws3 (i := 48) rfl rfl
theorem wk_3_49 : (Cond.methodLink "GuardsLookLeft$Texts" (40 : Nat) ({ cls := "java/lang/Math", name := "min", desc := "(II)I" } : MethodName)) ∈ WS := ws3 (i := 49) rfl rfl
theorem wk_3_50 : (Cond.static ({ cls := "java/lang/Math", name := "min", desc := "(II)I" } : MethodName)) ∈ WS := ws3 (i := 50) rfl rfl
theorem wk_3_51 : (Cond.code ({ cls := "java/lang/Math", name := "min", desc := "(II)I" } : MethodName) prog_15_method_69_code (2 : Nat) (Option.some ClassFile.FieldType.int)) ∈ WS := ws3 (i := 51) rfl rfl
theorem wk_3_52 : (Cond.methodLink "GuardsLookLeft$Texts" (46 : Nat) ({ cls := "java/lang/Math", name := "max", desc := "(II)I" } : MethodName)) ∈ WS := ws3 (i := 52) rfl rfl
theorem wk_3_53 : (Cond.static ({ cls := "java/lang/Math", name := "max", desc := "(II)I" } : MethodName)) ∈ WS := ws3 (i := 53) rfl rfl
theorem wk_3_54 : (Cond.code ({ cls := "java/lang/Math", name := "max", desc := "(II)I" } : MethodName) prog_15_method_65_code (2 : Nat) (Option.some ClassFile.FieldType.int)) ∈ WS := ws3 (i := 54) rfl rfl
theorem wk_3_55 : (Cond.methodLink "GuardsLookLeftLaw" (54 : Nat) ({ cls := "GuardsLookLeft", name := "guard", desc := "(IIII)I" } : MethodName)) ∈ WS := ws3 (i := 55) rfl rfl
theorem wk_3_56 : (Cond.instanceMethod ({ cls := "GuardsLookLeft", name := "guard", desc := "(IIII)I" } : MethodName)) ∈ WS := ws3 (i := 56) rfl rfl
theorem wk_3_57 : (Cond.selects "GuardsLookLeft" ({ cls := "GuardsLookLeft", name := "guard", desc := "(IIII)I" } : MethodName) ({ cls := "GuardsLookLeft", name := "guard", desc := "(IIII)I" } : MethodName)) ∈ WS := ws3 (i := 57) rfl rfl
theorem wk_3_58 : (Cond.code ({ cls := "GuardsLookLeft", name := "guard", desc := "(IIII)I" } : MethodName) prog_1_method_21_code (5 : Nat) (Option.some ClassFile.FieldType.int)) ∈ WS := ws3 (i := 58) rfl rfl
theorem wk_3_59 : (Cond.methodLink "GuardsLookLeft" (170 : Nat) ({ cls := "GuardsLookLeft$Guards", name := "add", desc := "(IIIII)I" } : MethodName)) ∈ WS := ws3 (i := 59) rfl rfl
theorem wk_3_60 : (Cond.instanceMethod ({ cls := "GuardsLookLeft$Guards", name := "add", desc := "(IIIII)I" } : MethodName)) ∈ WS := ws3 (i := 60) rfl rfl
theorem wk_3_61 : (Cond.selects "GuardsLookLeft$Guards" ({ cls := "GuardsLookLeft$Guards", name := "add", desc := "(IIIII)I" } : MethodName) ({ cls := "GuardsLookLeft$Guards", name := "add", desc := "(IIIII)I" } : MethodName)) ∈ WS := ws3 (i := 61) rfl rfl
theorem wk_3_62 : (Cond.code ({ cls := "GuardsLookLeft$Guards", name := "add", desc := "(IIIII)I" } : MethodName) prog_3_method_2_code (6 : Nat) (Option.some ClassFile.FieldType.int)) ∈ WS := ws3 (i := 62) rfl rfl
theorem wk_3_63 : (Cond.methodLink "GuardsLookLeftLaw" (59 : Nat) ({ cls := "GuardsLookLeft", name := "set", desc := "(III)I" } : MethodName)) ∈ WS := ws3 (i := 63) rfl rfl
theorem wk_3_64 : (Cond.instanceMethod ({ cls := "GuardsLookLeft", name := "set", desc := "(III)I" } : MethodName)) ∈ WS := ws3 (i := 64) rfl rfl
theorem wk_3_65 : (Cond.selects "GuardsLookLeft" ({ cls := "GuardsLookLeft", name := "set", desc := "(III)I" } : MethodName) ({ cls := "GuardsLookLeft", name := "set", desc := "(III)I" } : MethodName)) ∈ WS := ws3 (i := 65) rfl rfl
theorem wk_3_66 : (Cond.code ({ cls := "GuardsLookLeft", name := "set", desc := "(III)I" } : MethodName) prog_1_method_22_code (6 : Nat) (Option.some ClassFile.FieldType.int)) ∈ WS := ws3 (i := 66) rfl rfl
theorem wk_3_67 : (Cond.methodLink "GuardsLookLeft" (173 : Nat) ({ cls := "GuardsLookLeft", name := "isGuard", desc := "(I)Z" } : MethodName)) ∈ WS := ws3 (i := 67) rfl rfl
theorem wk_3_69 : (Cond.instanceMethod ({ cls := "GuardsLookLeft", name := "isGuard", desc := "(I)Z" } : MethodName)) ∈ WS := ws3 (i := 69) rfl rfl
theorem wk_3_70 : (Cond.code ({ cls := "GuardsLookLeft", name := "isGuard", desc := "(I)Z" } : MethodName) prog_1_method_8_code (2 : Nat) (Option.some ClassFile.FieldType.boolean)) ∈ WS := ws3 (i := 70) rfl rfl
theorem wk_3_71 : (Cond.methodLink "GuardsLookLeftLaw" (63 : Nat) ({ cls := "GuardsLookLeft", name := "guardTold", desc := "(II)I" } : MethodName)) ∈ WS := ws3 (i := 71) rfl rfl
theorem wk_3_72 : (Cond.instanceMethod ({ cls := "GuardsLookLeft", name := "guardTold", desc := "(II)I" } : MethodName)) ∈ WS := ws3 (i := 72) rfl rfl
theorem wk_3_73 : (Cond.selects "GuardsLookLeft" ({ cls := "GuardsLookLeft", name := "guardTold", desc := "(II)I" } : MethodName) ({ cls := "GuardsLookLeft", name := "guardTold", desc := "(II)I" } : MethodName)) ∈ WS := ws3 (i := 73) rfl rfl
theorem wk_3_74 : (Cond.code ({ cls := "GuardsLookLeft", name := "guardTold", desc := "(II)I" } : MethodName) prog_1_method_23_code (3 : Nat) (Option.some ClassFile.FieldType.int)) ∈ WS := ws3 (i := 74) rfl rfl
theorem wk_3_75 : (Cond.methodLink "GuardsLookLeftLaw" (68 : Nat) ({ cls := "GuardsLookLeft", name := "at", desc := "(III)I" } : MethodName)) ∈ WS := ws3 (i := 75) rfl rfl
theorem wk_3_76 : (Cond.instanceMethod ({ cls := "GuardsLookLeft", name := "at", desc := "(III)I" } : MethodName)) ∈ WS := ws3 (i := 76) rfl rfl
theorem wk_3_77 : (Cond.selects "GuardsLookLeft" ({ cls := "GuardsLookLeft", name := "at", desc := "(III)I" } : MethodName) ({ cls := "GuardsLookLeft", name := "at", desc := "(III)I" } : MethodName)) ∈ WS := ws3 (i := 77) rfl rfl
theorem wk_3_78 : (Cond.code ({ cls := "GuardsLookLeft", name := "at", desc := "(III)I" } : MethodName) prog_1_method_24_code (4 : Nat) (Option.some ClassFile.FieldType.int)) ∈ WS := ws3 (i := 78) rfl rfl
theorem wk_3_79 : (Cond.methodLink "GuardsLookLeft" (194 : Nat) ({ cls := "GuardsLookLeft$Guards", name := "walk", desc := "(IIJ)V" } : MethodName)) ∈ WS := ws3 (i := 79) rfl rfl
theorem wk_3_80 : (Cond.instanceMethod ({ cls := "GuardsLookLeft$Guards", name := "walk", desc := "(IIJ)V" } : MethodName)) ∈ WS := ws3 (i := 80) rfl rfl
theorem wk_3_81 : (Cond.selects "GuardsLookLeft$Guards" ({ cls := "GuardsLookLeft$Guards", name := "walk", desc := "(IIJ)V" } : MethodName) ({ cls := "GuardsLookLeft$Guards", name := "walk", desc := "(IIJ)V" } : MethodName)) ∈ WS := ws3 (i := 81) rfl rfl
theorem wk_3_82 : (Cond.code ({ cls := "GuardsLookLeft$Guards", name := "walk", desc := "(IIJ)V" } : MethodName) prog_3_method_4_code (9 : Nat) (Option.none : Option ClassFile.FieldType)) ∈ WS := ws3 (i := 82) rfl rfl
theorem wk_3_83 : (Cond.methodLink "GuardsLookLeft$Guards" (37 : Nat) ({ cls := "GuardsLookLeft$Guards", name := "beat", desc := "(IJ)I" } : MethodName)) ∈ WS := ws3 (i := 83) rfl rfl
theorem wk_3_85 : (Cond.instanceMethod ({ cls := "GuardsLookLeft$Guards", name := "beat", desc := "(IJ)I" } : MethodName)) ∈ WS := ws3 (i := 85) rfl rfl
theorem wk_3_86 : (Cond.code ({ cls := "GuardsLookLeft$Guards", name := "beat", desc := "(IJ)I" } : MethodName) prog_3_method_5_code (6 : Nat) (Option.some ClassFile.FieldType.int)) ∈ WS := ws3 (i := 86) rfl rfl
theorem wk_3_88 : (Cond.static ({ cls := "GuardsLookLeft", name := "beside", desc := "(II)I" } : MethodName)) ∈ WS := ws3 (i := 88) rfl rfl
theorem wk_3_89 : (Cond.code ({ cls := "GuardsLookLeft", name := "beside", desc := "(II)I" } : MethodName) prog_1_method_11_code (2 : Nat) (Option.some ClassFile.FieldType.int)) ∈ WS := ws3 (i := 89) rfl rfl
theorem wk_3_91 : (Cond.methodLink "GuardsLookLeft$Guards" (41 : Nat) ({ cls := "GuardsLookLeft$Guards", name := "steps", desc := "(II)I" } : MethodName)) ∈ WS := ws3 (i := 91) rfl rfl
theorem wk_3_92 : (Cond.static ({ cls := "GuardsLookLeft$Guards", name := "steps", desc := "(II)I" } : MethodName)) ∈ WS := ws3 (i := 92) rfl rfl
theorem wk_3_93 : (Cond.code ({ cls := "GuardsLookLeft$Guards", name := "steps", desc := "(II)I" } : MethodName) prog_3_method_6_code (2 : Nat) (Option.some ClassFile.FieldType.int)) ∈ WS := ws3 (i := 93) rfl rfl
theorem wk_3_94 : (Cond.fieldLink "GuardsLookLeft$Guards" (45 : Nat) "GuardsLookLeft$Guards" "WAY_ADDS" "[I") ∈ WS := ws3 (i := 94) rfl rfl
theorem wk_3_96 : (Cond.methodLink "GuardsLookLeft$Guards" (54 : Nat) ({ cls := "GuardsLookLeft$Guards", name := "isLooking", desc := "(II)Z" } : MethodName)) ∈ WS := ws3 (i := 96) rfl rfl
theorem wk_3_98 : (Cond.instanceMethod ({ cls := "GuardsLookLeft$Guards", name := "isLooking", desc := "(II)Z" } : MethodName)) ∈ WS := ws3 (i := 98) rfl rfl
theorem wk_3_99 : (Cond.code ({ cls := "GuardsLookLeft$Guards", name := "isLooking", desc := "(II)Z" } : MethodName) prog_3_method_7_code (3 : Nat) (Option.some ClassFile.FieldType.boolean)) ∈ WS := ws3 (i := 99) rfl rfl
theorem wk_3_100 : (Cond.methodLink "GuardsLookLeftLaw" (72 : Nat) ({ cls := "GuardsLookLeft", name := "sees", desc := "(II)J" } : MethodName)) ∈ WS := ws3 (i := 100) rfl rfl
theorem wk_3_101 : (Cond.instanceMethod ({ cls := "GuardsLookLeft", name := "sees", desc := "(II)J" } : MethodName)) ∈ WS := ws3 (i := 101) rfl rfl
theorem wk_3_102 : (Cond.selects "GuardsLookLeft" ({ cls := "GuardsLookLeft", name := "sees", desc := "(II)J" } : MethodName) ({ cls := "GuardsLookLeft", name := "sees", desc := "(II)J" } : MethodName)) ∈ WS := ws3 (i := 102) rfl rfl
theorem wk_3_103 : (Cond.code ({ cls := "GuardsLookLeft", name := "sees", desc := "(II)J" } : MethodName) prog_1_method_25_code (3 : Nat) (Option.some ClassFile.FieldType.long)) ∈ WS := ws3 (i := 103) rfl rfl
theorem wk_3_104 : (Cond.methodLink "GuardsLookLeft" (207 : Nat) ({ cls := "GuardsLookLeft$Watch", name := "sight", desc := "(II)J" } : MethodName)) ∈ WS := ws3 (i := 104) rfl rfl
theorem wk_3_105 : (Cond.instanceMethod ({ cls := "GuardsLookLeft$Watch", name := "sight", desc := "(II)J" } : MethodName)) ∈ WS := ws3 (i := 105) rfl rfl
theorem wk_3_106 : (Cond.selects "GuardsLookLeft$Watch" ({ cls := "GuardsLookLeft$Watch", name := "sight", desc := "(II)J" } : MethodName) ({ cls := "GuardsLookLeft$Watch", name := "sight", desc := "(II)J" } : MethodName)) ∈ WS := ws3 (i := 106) rfl rfl
theorem wk_3_107 : (Cond.code ({ cls := "GuardsLookLeft$Watch", name := "sight", desc := "(II)J" } : MethodName) prog_10_method_2_code (9 : Nat) (Option.some ClassFile.FieldType.long)) ∈ WS := ws3 (i := 107) rfl rfl
theorem wk_3_108 : (Cond.methodLink "GuardsLookLeft$Watch" (47 : Nat) ({ cls := "GuardsLookLeft$Guards", name := "walk", desc := "(IIJ)V" } : MethodName)) ∈ WS := ws3 (i := 108) rfl rfl
theorem wk_3_109 : (Cond.methodLink "GuardsLookLeft$Watch" (68 : Nat) ({ cls := "GuardsLookLeft$Texts", name := "nameGuard", desc := "(III)V" } : MethodName)) ∈ WS := ws3 (i := 109) rfl rfl
theorem wk_3_110 : (Cond.methodLink "GuardsLookLeft$Watch" (74 : Nat) ({ cls := "GuardsLookLeft$Palace", name := "lit", desc := "(I)I" } : MethodName)) ∈ WS := ws3 (i := 110) rfl rfl
theorem wk_3_111 : (Cond.instanceMethod ({ cls := "GuardsLookLeft$Palace", name := "lit", desc := "(I)I" } : MethodName)) ∈ WS := ws3 (i := 111) rfl rfl
theorem wk_3_112 : (Cond.selects "GuardsLookLeft$Palace" ({ cls := "GuardsLookLeft$Palace", name := "lit", desc := "(I)I" } : MethodName) ({ cls := "GuardsLookLeft$Palace", name := "lit", desc := "(I)I" } : MethodName)) ∈ WS := ws3 (i := 112) rfl rfl
theorem wk_3_113 : (Cond.code ({ cls := "GuardsLookLeft$Palace", name := "lit", desc := "(I)I" } : MethodName) prog_5_method_3_code (2 : Nat) (Option.some ClassFile.FieldType.int)) ∈ WS := ws3 (i := 113) rfl rfl
theorem wk_3_115 : (Cond.methodLink "GuardsLookLeft$Watch" (78 : Nat) ({ cls := "GuardsLookLeft$Texts", name := "nameCell", desc := "(III)V" } : MethodName)) ∈ WS := ws3 (i := 115) rfl rfl
theorem wk_3_116 : (Cond.methodLink "GuardsLookLeft$Watch" (81 : Nat) ({ cls := "GuardsLookLeft$Texts", name := "says", desc := "(I)I" } : MethodName)) ∈ WS := ws3 (i := 116) rfl rfl
theorem wk_3_118 : (Cond.static ({ cls := "GuardsLookLeft", name := "leftOf", desc := "(I)I" } : MethodName)) ∈ WS := ws3 (i := 118) rfl rfl
theorem wk_3_119 : (Cond.code ({ cls := "GuardsLookLeft", name := "leftOf", desc := "(I)I" } : MethodName) prog_1_method_10_code (1 : Nat) (Option.some ClassFile.FieldType.int)) ∈ WS := ws3 (i := 119) rfl rfl
theorem wk_3_122 : (Cond.methodLink "GuardsLookLeftLaw" (77 : Nat) ({ cls := "GuardsLookLeft", name := "watched", desc := "(I)J" } : MethodName)) ∈ WS := ws3 (i := 122) rfl rfl
theorem wk_3_123 : (Cond.instanceMethod ({ cls := "GuardsLookLeft", name := "watched", desc := "(I)J" } : MethodName)) ∈ WS := ws3 (i := 123) rfl rfl
theorem wk_3_124 : (Cond.selects "GuardsLookLeft" ({ cls := "GuardsLookLeft", name := "watched", desc := "(I)J" } : MethodName) ({ cls := "GuardsLookLeft", name := "watched", desc := "(I)J" } : MethodName)) ∈ WS := ws3 (i := 124) rfl rfl
theorem wk_3_125 : (Cond.code ({ cls := "GuardsLookLeft", name := "watched", desc := "(I)J" } : MethodName) prog_1_method_26_code (2 : Nat) (Option.some ClassFile.FieldType.long)) ∈ WS := ws3 (i := 125) rfl rfl
theorem wk_3_126 : (Cond.methodLink "GuardsLookLeft" (211 : Nat) ({ cls := "GuardsLookLeft", name := "seenNow", desc := "()[J" } : MethodName)) ∈ WS := ws3 (i := 126) rfl rfl
theorem wk_3_128 : (Cond.instanceMethod ({ cls := "GuardsLookLeft", name := "seenNow", desc := "()[J" } : MethodName)) ∈ WS := ws3 (i := 128) rfl rfl
theorem wk_3_129 : (Cond.code ({ cls := "GuardsLookLeft", name := "seenNow", desc := "()[J" } : MethodName) prog_1_method_30_code (1 : Nat) (Option.some (ClassFile.FieldType.array ClassFile.FieldType.long))) ∈ WS := ws3 (i := 129) rfl rfl
theorem wk_3_130 : (Cond.methodLink "GuardsLookLeft" (234 : Nat) ({ cls := "GuardsLookLeft$Watch", name := "refresh", desc := "()V" } : MethodName)) ∈ WS := ws3 (i := 130) rfl rfl
theorem wk_3_131 : (Cond.instanceMethod ({ cls := "GuardsLookLeft$Watch", name := "refresh", desc := "()V" } : MethodName)) ∈ WS := ws3 (i := 131) rfl rfl
theorem wk_3_132 : (Cond.selects "GuardsLookLeft$Watch" ({ cls := "GuardsLookLeft$Watch", name := "refresh", desc := "()V" } : MethodName) ({ cls := "GuardsLookLeft$Watch", name := "refresh", desc := "()V" } : MethodName)) ∈ WS := ws3 (i := 132) rfl rfl
theorem wk_3_133 : (Cond.code ({ cls := "GuardsLookLeft$Watch", name := "refresh", desc := "()V" } : MethodName) prog_10_method_3_code (5 : Nat) (Option.none : Option ClassFile.FieldType)) ∈ WS := ws3 (i := 133) rfl rfl
theorem wk_3_134 : (Cond.methodLink "GuardsLookLeft$Watch" (101 : Nat) ({ cls := "GuardsLookLeft$Watch", name := "sight", desc := "(II)J" } : MethodName)) ∈ WS := ws3 (i := 134) rfl rfl
theorem wk_3_135 : (Cond.methodLink "GuardsLookLeft$Watch" (105 : Nat) ({ cls := "GuardsLookLeft$Watch", name := "supposeBribed", desc := "(I)V" } : MethodName)) ∈ WS := ws3 (i := 135) rfl rfl
theorem wk_3_136 : (Cond.instanceMethod ({ cls := "GuardsLookLeft$Watch", name := "supposeBribed", desc := "(I)V" } : MethodName)) ∈ WS := ws3 (i := 136) rfl rfl
theorem wk_3_137 : (Cond.selects "GuardsLookLeft$Watch" ({ cls := "GuardsLookLeft$Watch", name := "supposeBribed", desc := "(I)V" } : MethodName) ({ cls := "GuardsLookLeft$Watch", name := "supposeBribed", desc := "(I)V" } : MethodName)) ∈ WS := ws3 (i := 137) rfl rfl
theorem wk_3_138 : (Cond.code ({ cls := "GuardsLookLeft$Watch", name := "supposeBribed", desc := "(I)V" } : MethodName) prog_10_method_6_code (3 : Nat) (Option.none : Option ClassFile.FieldType)) ∈ WS := ws3 (i := 138) rfl rfl
theorem wk_3_139 : (Cond.methodLink "GuardsLookLeft$Watch" (115 : Nat) ({ cls := "java/util/Arrays", name := "fill", desc := "([JJ)V" } : MethodName)) ∈ WS := ws3 (i := 139) rfl rfl
theorem wk_3_140 : (Cond.static ({ cls := "java/util/Arrays", name := "fill", desc := "([JJ)V" } : MethodName)) ∈ WS := ws3 (i := 140) rfl rfl
theorem wk_3_141 : (Cond.code ({ cls := "java/util/Arrays", name := "fill", desc := "([JJ)V" } : MethodName) prog_20_method_101_code (5 : Nat) (Option.none : Option ClassFile.FieldType)) ∈ WS := ws3 (i := 141) rfl rfl
theorem wk_3_142 : (Cond.methodLink "GuardsLookLeft$Watch" (121 : Nat) ({ cls := "GuardsLookLeft$Watch", name := "addKnown", desc := "(I)V" } : MethodName)) ∈ WS := ws3 (i := 142) rfl rfl
theorem wk_3_144 : (Cond.instanceMethod ({ cls := "GuardsLookLeft$Watch", name := "addKnown", desc := "(I)V" } : MethodName)) ∈ WS := ws3 (i := 144) rfl rfl
theorem wk_3_145 : (Cond.code ({ cls := "GuardsLookLeft$Watch", name := "addKnown", desc := "(I)V" } : MethodName) prog_10_method_4_code (3 : Nat) (Option.none : Option ClassFile.FieldType)) ∈ WS := ws3 (i := 145) rfl rfl
theorem wk_3_146 : (Cond.methodLink "GuardsLookLeft$Watch" (109 : Nat) ({ cls := "java/lang/System", name := "arraycopy", desc := "(Ljava/lang/Object;ILjava/lang/Object;II)V" } : MethodName)) ∈ WS := ws3 (i := 146) rfl rfl
theorem wk_3_147 : (Cond.methodLink "GuardsLookLeftLaw" (81 : Nat) ({ cls := "GuardsLookLeft", name := "alone", desc := "(I)I" } : MethodName)) ∈ WS := ws3 (i := 147) rfl rfl
theorem wk_3_148 : (Cond.instanceMethod ({ cls := "GuardsLookLeft", name := "alone", desc := "(I)I" } : MethodName)) ∈ WS := ws3 (i := 148) rfl rfl
theorem wk_3_149 : (Cond.selects "GuardsLookLeft" ({ cls := "GuardsLookLeft", name := "alone", desc := "(I)I" } : MethodName) ({ cls := "GuardsLookLeft", name := "alone", desc := "(I)I" } : MethodName)) ∈ WS := ws3 (i := 149) rfl rfl
theorem wk_3_150 : (Cond.code ({ cls := "GuardsLookLeft", name := "alone", desc := "(I)I" } : MethodName) prog_1_method_27_code (5 : Nat) (Option.some ClassFile.FieldType.int)) ∈ WS := ws3 (i := 150) rfl rfl
theorem wk_3_151 : (Cond.methodLink "GuardsLookLeftLaw" (85 : Nat) ({ cls := "GuardsLookLeft", name := "unseen", desc := "(I)I" } : MethodName)) ∈ WS := ws3 (i := 151) rfl rfl
theorem wk_3_152 : (Cond.instanceMethod ({ cls := "GuardsLookLeft", name := "unseen", desc := "(I)I" } : MethodName)) ∈ WS := ws3 (i := 152) rfl rfl
theorem wk_3_153 : (Cond.selects "GuardsLookLeft" ({ cls := "GuardsLookLeft", name := "unseen", desc := "(I)I" } : MethodName) ({ cls := "GuardsLookLeft", name := "unseen", desc := "(I)I" } : MethodName)) ∈ WS := ws3 (i := 153) rfl rfl
theorem wk_3_154 : (Cond.code ({ cls := "GuardsLookLeft", name := "unseen", desc := "(I)I" } : MethodName) prog_1_method_28_code (2 : Nat) (Option.some ClassFile.FieldType.int)) ∈ WS := ws3 (i := 154) rfl rfl
theorem wk_3_155 : (Cond.methodLink "GuardsLookLeft" (215 : Nat) ({ cls := "GuardsLookLeft$Gaps", name := "greatest", desc := "([JJ)I" } : MethodName)) ∈ WS := ws3 (i := 155) rfl rfl
theorem wk_3_156 : (Cond.instanceMethod ({ cls := "GuardsLookLeft$Gaps", name := "greatest", desc := "([JJ)I" } : MethodName)) ∈ WS := ws3 (i := 156) rfl rfl
theorem wk_3_157 : (Cond.selects "GuardsLookLeft$Gaps" ({ cls := "GuardsLookLeft$Gaps", name := "greatest", desc := "([JJ)I" } : MethodName) ({ cls := "GuardsLookLeft$Gaps", name := "greatest", desc := "([JJ)I" } : MethodName)) ∈ WS := ws3 (i := 157) rfl rfl
theorem wk_3_158 : (Cond.code ({ cls := "GuardsLookLeft$Gaps", name := "greatest", desc := "([JJ)I" } : MethodName) prog_2_method_2_code (8 : Nat) (Option.some ClassFile.FieldType.int)) ∈ WS := ws3 (i := 158) rfl rfl
theorem wk_3_159 : (Cond.constantLong "GuardsLookLeft$Gaps" (19 : Nat) (-1 : Int64)) ∈ WS := ws3 (i := 159) rfl rfl
theorem wk_3_160 : (Cond.methodLink "GuardsLookLeftLaw" (89 : Nat) ({ cls := "GuardsLookLeft", name := "worst", desc := "(I)I" } : MethodName)) ∈ WS := ws3 (i := 160) rfl rfl
theorem wk_3_161 : (Cond.instanceMethod ({ cls := "GuardsLookLeft", name := "worst", desc := "(I)I" } : MethodName)) ∈ WS := ws3 (i := 161) rfl rfl
theorem wk_3_162 : (Cond.selects "GuardsLookLeft" ({ cls := "GuardsLookLeft", name := "worst", desc := "(I)I" } : MethodName) ({ cls := "GuardsLookLeft", name := "worst", desc := "(I)I" } : MethodName)) ∈ WS := ws3 (i := 162) rfl rfl
theorem wk_3_163 : (Cond.code ({ cls := "GuardsLookLeft", name := "worst", desc := "(I)I" } : MethodName) prog_1_method_29_code (3 : Nat) (Option.some ClassFile.FieldType.int)) ∈ WS := ws3 (i := 163) rfl rfl
theorem wk_3_164 : (Cond.methodLink "GuardsLookLeft" (219 : Nat) ({ cls := "GuardsLookLeft", name := "worthUnseen", desc := "([J)I" } : MethodName)) ∈ WS := ws3 (i := 164) rfl rfl
theorem wk_3_166 : (Cond.instanceMethod ({ cls := "GuardsLookLeft", name := "worthUnseen", desc := "([J)I" } : MethodName)) ∈ WS := ws3 (i := 166) rfl rfl
theorem wk_3_167 : (Cond.code ({ cls := "GuardsLookLeft", name := "worthUnseen", desc := "([J)I" } : MethodName) prog_1_method_32_code (7 : Nat) (Option.some ClassFile.FieldType.int)) ∈ WS := ws3 (i := 167) rfl rfl
theorem wk_3_168 : (Cond.methodLink "GuardsLookLeft" (223 : Nat) ({ cls := "GuardsLookLeft$Palace", name := "floor", desc := "()J" } : MethodName)) ∈ WS := ws3 (i := 168) rfl rfl
theorem wk_3_169 : (Cond.instanceMethod ({ cls := "GuardsLookLeft$Palace", name := "floor", desc := "()J" } : MethodName)) ∈ WS := ws3 (i := 169) rfl rfl
theorem wk_3_170 : (Cond.selects "GuardsLookLeft$Palace" ({ cls := "GuardsLookLeft$Palace", name := "floor", desc := "()J" } : MethodName) ({ cls := "GuardsLookLeft$Palace", name := "floor", desc := "()J" } : MethodName)) ∈ WS := ws3 (i := 170) rfl rfl
theorem wk_3_171 : (Cond.code ({ cls := "GuardsLookLeft$Palace", name := "floor", desc := "()J" } : MethodName) prog_5_method_2_code (1 : Nat) (Option.some ClassFile.FieldType.long)) ∈ WS := ws3 (i := 171) rfl rfl
theorem wk_3_172 : (Cond.constantLong "GuardsLookLeft$Palace" (15 : Nat) (68719476735 : Int64)) ∈ WS := ws3 (i := 172) rfl rfl
theorem wk_3_173 : (Cond.constantLong "GuardsLookLeft$Palace" (17 : Nat) (-1 : Int64)) ∈ WS := ws3 (i := 173) rfl rfl
theorem wk_3_174 : (Cond.methodLink "GuardsLookLeft" (240 : Nat) ({ cls := "GuardsLookLeft$Palace", name := "lit", desc := "(I)I" } : MethodName)) ∈ WS := ws3 (i := 174) rfl rfl
theorem wk_3_175 : (Cond.methodLink "GuardsLookLeft" (231 : Nat) ({ cls := "GuardsLookLeft", name := "firstOf", desc := "(J)I" } : MethodName)) ∈ WS := ws3 (i := 175) rfl rfl
theorem wk_3_176 : (Cond.static ({ cls := "GuardsLookLeft", name := "firstOf", desc := "(J)I" } : MethodName)) ∈ WS := ws3 (i := 176) rfl rfl
theorem wk_3_177 : (Cond.code ({ cls := "GuardsLookLeft", name := "firstOf", desc := "(J)I" } : MethodName) prog_1_method_31_code (3 : Nat) (Option.some ClassFile.FieldType.int)) ∈ WS := ws3 (i := 177) rfl rfl
theorem wk_3_178 : (Cond.methodLink "GuardsLookLeftLaw" (93 : Nat) ({ cls := "GuardsLookLeft", name := "soon", desc := "(III)I" } : MethodName)) ∈ WS := ws3 (i := 178) rfl rfl
theorem wk_3_179 : (Cond.instanceMethod ({ cls := "GuardsLookLeft", name := "soon", desc := "(III)I" } : MethodName)) ∈ WS := ws3 (i := 179) rfl rfl
theorem wk_3_180 : (Cond.selects "GuardsLookLeft" ({ cls := "GuardsLookLeft", name := "soon", desc := "(III)I" } : MethodName) ({ cls := "GuardsLookLeft", name := "soon", desc := "(III)I" } : MethodName)) ∈ WS := ws3 (i := 180) rfl rfl
theorem wk_3_181 : (Cond.code ({ cls := "GuardsLookLeft", name := "soon", desc := "(III)I" } : MethodName) prog_1_method_33_code (4 : Nat) (Option.some ClassFile.FieldType.int)) ∈ WS := ws3 (i := 181) rfl rfl
theorem wk_3_182 : (Cond.methodLink "GuardsLookLeft" (243 : Nat) ({ cls := "GuardsLookLeft$Thief", name := "soonest", desc := "([JJIII)I" } : MethodName)) ∈ WS := ws3 (i := 182) rfl rfl
theorem wk_3_183 : (Cond.instanceMethod ({ cls := "GuardsLookLeft$Thief", name := "soonest", desc := "([JJIII)I" } : MethodName)) ∈ WS := ws3 (i := 183) rfl rfl
theorem wk_3_184 : (Cond.selects "GuardsLookLeft$Thief" ({ cls := "GuardsLookLeft$Thief", name := "soonest", desc := "([JJIII)I" } : MethodName) ({ cls := "GuardsLookLeft$Thief", name := "soonest", desc := "([JJIII)I" } : MethodName)) ∈ WS := ws3 (i := 184) rfl rfl
theorem wk_3_185 : (Cond.code ({ cls := "GuardsLookLeft$Thief", name := "soonest", desc := "([JJIII)I" } : MethodName) prog_9_method_3_code (7 : Nat) (Option.some ClassFile.FieldType.int)) ∈ WS := ws3 (i := 185) rfl rfl
theorem wk_3_186 : (Cond.methodLink "GuardsLookLeft$Thief" (27 : Nat) ({ cls := "GuardsLookLeft$Thief", name := "roam", desc := "([JJIIJ)I" } : MethodName)) ∈ WS := ws3 (i := 186) rfl rfl
theorem wk_3_187 : (Cond.instanceMethod ({ cls := "GuardsLookLeft$Thief", name := "roam", desc := "([JJIIJ)I" } : MethodName)) ∈ WS := ws3 (i := 187) rfl rfl
theorem wk_3_188 : (Cond.selects "GuardsLookLeft$Thief" ({ cls := "GuardsLookLeft$Thief", name := "roam", desc := "([JJIIJ)I" } : MethodName) ({ cls := "GuardsLookLeft$Thief", name := "roam", desc := "([JJIIJ)I" } : MethodName)) ∈ WS := ws3 (i := 188) rfl rfl
theorem wk_3_189 : (Cond.code ({ cls := "GuardsLookLeft$Thief", name := "roam", desc := "([JJIIJ)I" } : MethodName) prog_9_method_2_code (11 : Nat) (Option.some ClassFile.FieldType.int)) ∈ WS := ws3 (i := 189) rfl rfl
theorem wk_3_190 : (Cond.methodLink "GuardsLookLeft$Thief" (15 : Nat) ({ cls := "GuardsLookLeft$Thief", name := "withBeside", desc := "(J)J" } : MethodName)) ∈ WS := ws3 (i := 190) rfl rfl
theorem wk_3_191 : (Cond.static ({ cls := "GuardsLookLeft$Thief", name := "withBeside", desc := "(J)J" } : MethodName)) ∈ WS := ws3 (i := 191) rfl rfl
theorem wk_3_192 : (Cond.code ({ cls := "GuardsLookLeft$Thief", name := "withBeside", desc := "(J)J" } : MethodName) prog_9_method_4_code (8 : Nat) (Option.some ClassFile.FieldType.long)) ∈ WS := ws3 (i := 192) rfl rfl
theorem wk_3_193 : (Cond.constantLong "GuardsLookLeft$Thief" (31 : Nat) (-1090785346 : Int64)) ∈ WS := ws3 (i := 193) rfl rfl
theorem wk_3_194 : (Cond.constantLong "GuardsLookLeft$Thief" (33 : Nat) (68719476735 : Int64)) ∈ WS := ws3 (i := 194) rfl rfl
theorem wk_3_195 : (Cond.constantLong "GuardsLookLeft$Thief" (19 : Nat) (-1 : Int64)) ∈ WS := ws3 (i := 195) rfl rfl
theorem wk_3_196 : (Cond.methodLink "GuardsLookLeft$Thief" (21 : Nat) ({ cls := "java/util/Arrays", name := "fill", desc := "([JIIJ)V" } : MethodName)) ∈ WS := ws3 (i := 196) rfl rfl
theorem wk_3_197 : (Cond.static ({ cls := "java/util/Arrays", name := "fill", desc := "([JIIJ)V" } : MethodName)) ∈ WS := ws3 (i := 197) rfl rfl
theorem wk_3_198 : (Cond.code ({ cls := "java/util/Arrays", name := "fill", desc := "([JIIJ)V" } : MethodName) prog_20_method_102_code (6 : Nat) (Option.none : Option ClassFile.FieldType)) ∈ WS := ws3 (i := 198) rfl rfl
theorem wk_3_199 : (Cond.methodLink "java/util/Arrays" (13 : Nat) ({ cls := "java/util/Arrays", name := "rangeCheck", desc := "(III)V" } : MethodName)) ∈ WS := ws3 (i := 199) rfl rfl
theorem wk_3_200 : (Cond.static ({ cls := "java/util/Arrays", name := "rangeCheck", desc := "(III)V" } : MethodName)) ∈ WS := ws3 (i := 200) rfl rfl
theorem wk_3_201 : (Cond.code ({ cls := "java/util/Arrays", name := "rangeCheck", desc := "(III)V" } : MethodName) prog_20_method_30_code (3 : Nat) (Option.none : Option ClassFile.FieldType)) ∈ WS := ws3 (i := 201) rfl rfl
theorem wk_3_202 : (Cond.methodLink "GuardsLookLeftLaw" (97 : Nat) ({ cls := "GuardsLookLeft", name := "path", desc := "(IIII)I" } : MethodName)) ∈ WS := ws3 (i := 202) rfl rfl
theorem wk_3_203 : (Cond.instanceMethod ({ cls := "GuardsLookLeft", name := "path", desc := "(IIII)I" } : MethodName)) ∈ WS := ws3 (i := 203) rfl rfl
theorem wk_3_204 : (Cond.selects "GuardsLookLeft" ({ cls := "GuardsLookLeft", name := "path", desc := "(IIII)I" } : MethodName) ({ cls := "GuardsLookLeft", name := "path", desc := "(IIII)I" } : MethodName)) ∈ WS := ws3 (i := 204) rfl rfl
theorem wk_3_205 : (Cond.code ({ cls := "GuardsLookLeft", name := "path", desc := "(IIII)I" } : MethodName) prog_1_method_34_code (6 : Nat) (Option.some ClassFile.FieldType.int)) ∈ WS := ws3 (i := 205) rfl rfl
theorem wk_3_206 : (Cond.methodLink "GuardsLookLeft" (247 : Nat) ({ cls := "GuardsLookLeft$Thief", name := "before", desc := "(III)I" } : MethodName)) ∈ WS := ws3 (i := 206) rfl rfl
theorem wk_3_207 : (Cond.instanceMethod ({ cls := "GuardsLookLeft$Thief", name := "before", desc := "(III)I" } : MethodName)) ∈ WS := ws3 (i := 207) rfl rfl
theorem wk_3_208 : (Cond.selects "GuardsLookLeft$Thief" ({ cls := "GuardsLookLeft$Thief", name := "before", desc := "(III)I" } : MethodName) ({ cls := "GuardsLookLeft$Thief", name := "before", desc := "(III)I" } : MethodName)) ∈ WS := ws3 (i := 208) rfl rfl
theorem wk_3_209 : (Cond.code ({ cls := "GuardsLookLeft$Thief", name := "before", desc := "(III)I" } : MethodName) prog_9_method_6_code (6 : Nat) (Option.some ClassFile.FieldType.int)) ∈ WS := ws3 (i := 209) rfl rfl
theorem wk_3_210 : (Cond.methodLink "GuardsLookLeft$Thief" (39 : Nat) ({ cls := "GuardsLookLeft$Thief", name := "cameFrom", desc := "(IJ)I" } : MethodName)) ∈ WS := ws3 (i := 210) rfl rfl
theorem wk_3_211 : (Cond.static ({ cls := "GuardsLookLeft$Thief", name := "cameFrom", desc := "(IJ)I" } : MethodName)) ∈ WS := ws3 (i := 211) rfl rfl
theorem wk_3_212 : (Cond.code ({ cls := "GuardsLookLeft$Thief", name := "cameFrom", desc := "(IJ)I" } : MethodName) prog_9_method_7_code (5 : Nat) (Option.some ClassFile.FieldType.int)) ∈ WS := ws3 (i := 212) rfl rfl
theorem wk_3_215 : (Cond.methodLink "GuardsLookLeftLaw" (101 : Nat) ({ cls := "GuardsLookLeft", name := "hides", desc := "(III)J" } : MethodName)) ∈ WS := ws3 (i := 215) rfl rfl
theorem wk_3_216 : (Cond.instanceMethod ({ cls := "GuardsLookLeft", name := "hides", desc := "(III)J" } : MethodName)) ∈ WS := ws3 (i := 216) rfl rfl
theorem wk_3_217 : (Cond.selects "GuardsLookLeft" ({ cls := "GuardsLookLeft", name := "hides", desc := "(III)J" } : MethodName) ({ cls := "GuardsLookLeft", name := "hides", desc := "(III)J" } : MethodName)) ∈ WS := ws3 (i := 217) rfl rfl
theorem wk_3_218 : (Cond.code ({ cls := "GuardsLookLeft", name := "hides", desc := "(III)J" } : MethodName) prog_1_method_35_code (4 : Nat) (Option.some ClassFile.FieldType.long)) ∈ WS := ws3 (i := 218) rfl rfl
theorem wk_3_219 : (Cond.methodLink "GuardsLookLeft" (251 : Nat) ({ cls := "GuardsLookLeft$Thief", name := "roam", desc := "([JJIIJ)I" } : MethodName)) ∈ WS := ws3 (i := 219) rfl rfl
theorem wk_3_220 : (Cond.methodLink "GuardsLookLeftLaw" (106 : Nat) ({ cls := "GuardsLookLeft", name := "when", desc := "(II)I" } : MethodName)) ∈ WS := ws3 (i := 220) rfl rfl
theorem wk_3_221 : (Cond.instanceMethod ({ cls := "GuardsLookLeft", name := "when", desc := "(II)I" } : MethodName)) ∈ WS := ws3 (i := 221) rfl rfl
theorem wk_3_222 : (Cond.selects "GuardsLookLeft" ({ cls := "GuardsLookLeft", name := "when", desc := "(II)I" } : MethodName) ({ cls := "GuardsLookLeft", name := "when", desc := "(II)I" } : MethodName)) ∈ WS := ws3 (i := 222) rfl rfl
theorem wk_3_223 : (Cond.code ({ cls := "GuardsLookLeft", name := "when", desc := "(II)I" } : MethodName) prog_1_method_36_code (3 : Nat) (Option.some ClassFile.FieldType.int)) ∈ WS := ws3 (i := 223) rfl rfl
theorem wk_3_224 : (Cond.methodLink "GuardsLookLeft" (258 : Nat) ({ cls := "GuardsLookLeft$Thief", name := "starts", desc := "([JJII)I" } : MethodName)) ∈ WS := ws3 (i := 224) rfl rfl
theorem wk_3_225 : (Cond.instanceMethod ({ cls := "GuardsLookLeft$Thief", name := "starts", desc := "([JJII)I" } : MethodName)) ∈ WS := ws3 (i := 225) rfl rfl
theorem wk_3_226 : (Cond.selects "GuardsLookLeft$Thief" ({ cls := "GuardsLookLeft$Thief", name := "starts", desc := "([JJII)I" } : MethodName) ({ cls := "GuardsLookLeft$Thief", name := "starts", desc := "([JJII)I" } : MethodName)) ∈ WS := ws3 (i := 226) rfl rfl
theorem wk_3_227 : (Cond.code ({ cls := "GuardsLookLeft$Thief", name := "starts", desc := "([JJII)I" } : MethodName) prog_9_method_5_code (8 : Nat) (Option.some ClassFile.FieldType.int)) ∈ WS := ws3 (i := 227) rfl rfl
theorem wk_3_228 : (Cond.methodLink "GuardsLookLeft$Thief" (35 : Nat) ({ cls := "GuardsLookLeft$Thief", name := "soonest", desc := "([JJIII)I" } : MethodName)) ∈ WS := ws3 (i := 228) rfl rfl
theorem wk_3_229 : (Cond.methodLink "GuardsLookLeftLaw" (110 : Nat) ({ cls := "GuardsLookLeft", name := "more", desc := "(III)I" } : MethodName)) ∈ WS := ws3 (i := 229) rfl rfl
theorem wk_3_230 : (Cond.instanceMethod ({ cls := "GuardsLookLeft", name := "more", desc := "(III)I" } : MethodName)) ∈ WS := ws3 (i := 230) rfl rfl
theorem wk_3_231 : (Cond.selects "GuardsLookLeft" ({ cls := "GuardsLookLeft", name := "more", desc := "(III)I" } : MethodName) ({ cls := "GuardsLookLeft", name := "more", desc := "(III)I" } : MethodName)) ∈ WS := ws3 (i := 231) rfl rfl
theorem wk_3_232 : (Cond.code ({ cls := "GuardsLookLeft", name := "more", desc := "(III)I" } : MethodName) prog_1_method_37_code (10 : Nat) (Option.some ClassFile.FieldType.int)) ∈ WS := ws3 (i := 232) rfl rfl
theorem wk_3_233 : (Cond.methodLink "GuardsLookLeft" (262 : Nat) ({ cls := "java/lang/Integer", name := "bitCount", desc := "(I)I" } : MethodName)) ∈ WS := ws3 (i := 233) rfl rfl
theorem wk_3_234 : (Cond.static ({ cls := "java/lang/Integer", name := "bitCount", desc := "(I)I" } : MethodName)) ∈ WS := ws3 (i := 234) rfl rfl
theorem wk_3_235 : (Cond.code ({ cls := "java/lang/Integer", name := "bitCount", desc := "(I)I" } : MethodName) prog_13_method_49_code (1 : Nat) (Option.some ClassFile.FieldType.int)) ∈ WS := ws3 (i := 235) rfl rfl
theorem wk_3_236 : (Cond.constant "java/lang/Integer" (265 : Nat) (1431655765 : Int32)) ∈ WS := ws3 (i := 236) rfl rfl
theorem wk_3_237 : (Cond.constant "java/lang/Integer" (266 : Nat) (858993459 : Int32)) ∈ WS := ws3 (i := 237) rfl rfl
theorem wk_3_238 : (Cond.constant "java/lang/Integer" (267 : Nat) (252645135 : Int32)) ∈ WS := ws3 (i := 238) rfl rfl
theorem wk_3_239 : (Cond.methodLink "GuardsLookLeft" (266 : Nat) ({ cls := "GuardsLookLeft$Watch", name := "supposeLaid", desc := "(II)Z" } : MethodName)) ∈ WS := ws3 (i := 239) rfl rfl
theorem wk_4_0 : (Cond.instanceMethod ({ cls := "GuardsLookLeft$Watch", name := "supposeLaid", desc := "(II)Z" } : MethodName)) ∈ WS := ws4 (i := 0) rfl rfl
theorem wk_4_1 : (Cond.selects "GuardsLookLeft$Watch" ({ cls := "GuardsLookLeft$Watch", name := "supposeLaid", desc := "(II)Z" } : MethodName) ({ cls := "GuardsLookLeft$Watch", name := "supposeLaid", desc := "(II)Z" } : MethodName)) ∈ WS := ws4 (i := 1) rfl rfl
theorem wk_4_2 : (Cond.code ({ cls := "GuardsLookLeft$Watch", name := "supposeLaid", desc := "(II)Z" } : MethodName) prog_10_method_7_code (8 : Nat) (Option.some ClassFile.FieldType.boolean)) ∈ WS := ws4 (i := 2) rfl rfl
theorem wk_4_3 : (Cond.methodLink "GuardsLookLeft$Watch" (124 : Nat) ({ cls := "GuardsLookLeft$Watch", name := "addFound", desc := "(I)V" } : MethodName)) ∈ WS := ws4 (i := 3) rfl rfl
theorem wk_4_5 : (Cond.instanceMethod ({ cls := "GuardsLookLeft$Watch", name := "addFound", desc := "(I)V" } : MethodName)) ∈ WS := ws4 (i := 5) rfl rfl
theorem wk_4_6 : (Cond.code ({ cls := "GuardsLookLeft$Watch", name := "addFound", desc := "(I)V" } : MethodName) prog_10_method_5_code (5 : Nat) (Option.none : Option ClassFile.FieldType)) ∈ WS := ws4 (i := 6) rfl rfl
theorem wk_4_7 : (Cond.methodLink "GuardsLookLeftLaw" (114 : Nat) ({ cls := "GuardsLookLeft", name := "shift", desc := "(II)I" } : MethodName)) ∈ WS := ws4 (i := 7) rfl rfl
theorem wk_4_8 : (Cond.instanceMethod ({ cls := "GuardsLookLeft", name := "shift", desc := "(II)I" } : MethodName)) ∈ WS := ws4 (i := 8) rfl rfl
theorem wk_4_9 : (Cond.selects "GuardsLookLeft" ({ cls := "GuardsLookLeft", name := "shift", desc := "(II)I" } : MethodName) ({ cls := "GuardsLookLeft", name := "shift", desc := "(II)I" } : MethodName)) ∈ WS := ws4 (i := 9) rfl rfl
theorem wk_4_10 : (Cond.code ({ cls := "GuardsLookLeft", name := "shift", desc := "(II)I" } : MethodName) prog_1_method_38_code (7 : Nat) (Option.some ClassFile.FieldType.int)) ∈ WS := ws4 (i := 10) rfl rfl
theorem wk_4_11 : (Cond.methodLink "GuardsLookLeft" (272 : Nat) ({ cls := "GuardsLookLeft$Watch", name := "supposeAhead", desc := "(II)V" } : MethodName)) ∈ WS := ws4 (i := 11) rfl rfl
theorem wk_4_12 : (Cond.instanceMethod ({ cls := "GuardsLookLeft$Watch", name := "supposeAhead", desc := "(II)V" } : MethodName)) ∈ WS := ws4 (i := 12) rfl rfl
theorem wk_4_13 : (Cond.selects "GuardsLookLeft$Watch" ({ cls := "GuardsLookLeft$Watch", name := "supposeAhead", desc := "(II)V" } : MethodName) ({ cls := "GuardsLookLeft$Watch", name := "supposeAhead", desc := "(II)V" } : MethodName)) ∈ WS := ws4 (i := 13) rfl rfl
theorem wk_4_14 : (Cond.code ({ cls := "GuardsLookLeft$Watch", name := "supposeAhead", desc := "(II)V" } : MethodName) prog_10_method_8_code (4 : Nat) (Option.none : Option ClassFile.FieldType)) ∈ WS := ws4 (i := 14) rfl rfl
theorem wk_4_15 : (Cond.methodLink "GuardsLookLeftLaw" (118 : Nat) ({ cls := "GuardsLookLeft", name := "holds", desc := "(JI)I" } : MethodName)) ∈ WS := ws4 (i := 15) rfl rfl
theorem wk_4_16 : (Cond.instanceMethod ({ cls := "GuardsLookLeft", name := "holds", desc := "(JI)I" } : MethodName)) ∈ WS := ws4 (i := 16) rfl rfl
theorem wk_4_17 : (Cond.selects "GuardsLookLeft" ({ cls := "GuardsLookLeft", name := "holds", desc := "(JI)I" } : MethodName) ({ cls := "GuardsLookLeft", name := "holds", desc := "(JI)I" } : MethodName)) ∈ WS := ws4 (i := 17) rfl rfl
theorem wk_4_18 : (Cond.code ({ cls := "GuardsLookLeft", name := "holds", desc := "(JI)I" } : MethodName) prog_1_method_39_code (4 : Nat) (Option.some ClassFile.FieldType.int)) ∈ WS := ws4 (i := 18) rfl rfl
theorem wk_4_19 : (Cond.methodLink "GuardsLookLeft" (276 : Nat) ({ cls := "GuardsLookLeft", name := "holdsWithout", desc := "(IJI)Z" } : MethodName)) ∈ WS := ws4 (i := 19) rfl rfl
theorem wk_4_21 : (Cond.instanceMethod ({ cls := "GuardsLookLeft", name := "holdsWithout", desc := "(IJI)Z" } : MethodName)) ∈ WS := ws4 (i := 21) rfl rfl
theorem wk_4_22 : (Cond.code ({ cls := "GuardsLookLeft", name := "holdsWithout", desc := "(IJI)Z" } : MethodName) prog_1_method_42_code (5 : Nat) (Option.some ClassFile.FieldType.boolean)) ∈ WS := ws4 (i := 22) rfl rfl
theorem wk_4_23 : (Cond.methodLink "GuardsLookLeft" (280 : Nat) ({ cls := "GuardsLookLeft$Watch", name := "supposeBribed", desc := "(I)V" } : MethodName)) ∈ WS := ws4 (i := 23) rfl rfl
theorem wk_4_24 : (Cond.methodLink "GuardsLookLeftLaw" (123 : Nat) ({ cls := "GuardsLookLeft", name := "bribes", desc := "(JI)I" } : MethodName)) ∈ WS := ws4 (i := 24) rfl rfl
theorem wk_4_25 : (Cond.instanceMethod ({ cls := "GuardsLookLeft", name := "bribes", desc := "(JI)I" } : MethodName)) ∈ WS := ws4 (i := 25) rfl rfl
theorem wk_4_26 : (Cond.selects "GuardsLookLeft" ({ cls := "GuardsLookLeft", name := "bribes", desc := "(JI)I" } : MethodName) ({ cls := "GuardsLookLeft", name := "bribes", desc := "(JI)I" } : MethodName)) ∈ WS := ws4 (i := 26) rfl rfl
theorem wk_4_27 : (Cond.code ({ cls := "GuardsLookLeft", name := "bribes", desc := "(JI)I" } : MethodName) prog_1_method_40_code (6 : Nat) (Option.some ClassFile.FieldType.int)) ∈ WS := ws4 (i := 27) rfl rfl
theorem wk_4_28 : (Cond.methodLink "GuardsLookLeftLaw" (127 : Nat) ({ cls := "GuardsLookLeft", name := "fewest", desc := "(JII)I" } : MethodName)) ∈ WS := ws4 (i := 28) rfl rfl
theorem wk_4_29 : (Cond.instanceMethod ({ cls := "GuardsLookLeft", name := "fewest", desc := "(JII)I" } : MethodName)) ∈ WS := ws4 (i := 29) rfl rfl
theorem wk_4_30 : (Cond.selects "GuardsLookLeft" ({ cls := "GuardsLookLeft", name := "fewest", desc := "(JII)I" } : MethodName) ({ cls := "GuardsLookLeft", name := "fewest", desc := "(JII)I" } : MethodName)) ∈ WS := ws4 (i := 30) rfl rfl
theorem wk_4_31 : (Cond.code ({ cls := "GuardsLookLeft", name := "fewest", desc := "(JII)I" } : MethodName) prog_1_method_41_code (9 : Nat) (Option.some ClassFile.FieldType.int)) ∈ WS := ws4 (i := 31) rfl rfl
theorem wk_4_32 : (Cond.methodLink "GuardsLookLeftLaw" (132 : Nat) ({ cls := "GuardsLookLeft", name := "judge", desc := "(II)I" } : MethodName)) ∈ WS := ws4 (i := 32) rfl rfl
theorem wk_4_33 : (Cond.instanceMethod ({ cls := "GuardsLookLeft", name := "judge", desc := "(II)I" } : MethodName)) ∈ WS := ws4 (i := 33) rfl rfl
theorem wk_4_34 : (Cond.selects "GuardsLookLeft" ({ cls := "GuardsLookLeft", name := "judge", desc := "(II)I" } : MethodName) ({ cls := "GuardsLookLeft", name := "judge", desc := "(II)I" } : MethodName)) ∈ WS := ws4 (i := 34) rfl rfl
theorem wk_4_35 : (Cond.code ({ cls := "GuardsLookLeft", name := "judge", desc := "(II)I" } : MethodName) prog_1_method_43_code (4 : Nat) (Option.some ClassFile.FieldType.int)) ∈ WS := ws4 (i := 35) rfl rfl
theorem wk_4_36 : (Cond.methodLink "GuardsLookLeft" (283 : Nat) ({ cls := "GuardsLookLeft", name := "refusalOfTold", desc := "(II)I" } : MethodName)) ∈ WS := ws4 (i := 36) rfl rfl
theorem wk_4_38 : (Cond.instanceMethod ({ cls := "GuardsLookLeft", name := "refusalOfTold", desc := "(II)I" } : MethodName)) ∈ WS := ws4 (i := 38) rfl rfl
theorem wk_4_39 : (Cond.code ({ cls := "GuardsLookLeft", name := "refusalOfTold", desc := "(II)I" } : MethodName) prog_1_method_48_code (3 : Nat) (Option.some ClassFile.FieldType.int)) ∈ WS := ws4 (i := 39) rfl rfl
theorem wk_4_40 : (Cond.methodLink "GuardsLookLeft" (294 : Nat) ({ cls := "GuardsLookLeft", name := "isSheet", desc := "(I)Z" } : MethodName)) ∈ WS := ws4 (i := 40) rfl rfl
theorem wk_4_41 : (Cond.static ({ cls := "GuardsLookLeft", name := "isSheet", desc := "(I)Z" } : MethodName)) ∈ WS := ws4 (i := 41) rfl rfl
theorem wk_4_42 : (Cond.code ({ cls := "GuardsLookLeft", name := "isSheet", desc := "(I)Z" } : MethodName) prog_1_method_7_code (1 : Nat) (Option.some ClassFile.FieldType.boolean)) ∈ WS := ws4 (i := 42) rfl rfl
theorem wk_4_43 : (Cond.methodLink "GuardsLookLeft" (287 : Nat) ({ cls := "GuardsLookLeft$Sheet", name := "firstOther", desc := "([JI)I" } : MethodName)) ∈ WS := ws4 (i := 43) rfl rfl
theorem wk_4_44 : (Cond.instanceMethod ({ cls := "GuardsLookLeft$Sheet", name := "firstOther", desc := "([JI)I" } : MethodName)) ∈ WS := ws4 (i := 44) rfl rfl
theorem wk_4_45 : (Cond.selects "GuardsLookLeft$Sheet" ({ cls := "GuardsLookLeft$Sheet", name := "firstOther", desc := "([JI)I" } : MethodName) ({ cls := "GuardsLookLeft$Sheet", name := "firstOther", desc := "([JI)I" } : MethodName)) ∈ WS := ws4 (i := 45) rfl rfl
theorem wk_4_46 : (Cond.code ({ cls := "GuardsLookLeft$Sheet", name := "firstOther", desc := "([JI)I" } : MethodName) prog_7_method_4_code (4 : Nat) (Option.some ClassFile.FieldType.int)) ∈ WS := ws4 (i := 46) rfl rfl
theorem wk_4_48 : (Cond.methodLink "GuardsLookLeftLaw" (136 : Nat) ({ cls := "GuardsLookLeft", name := "which", desc := "(I)J" } : MethodName)) ∈ WS := ws4 (i := 48) rfl rfl
theorem wk_4_49 : (Cond.instanceMethod ({ cls := "GuardsLookLeft", name := "which", desc := "(I)J" } : MethodName)) ∈ WS := ws4 (i := 49) rfl rfl
theorem wk_4_50 : (Cond.selects "GuardsLookLeft" ({ cls := "GuardsLookLeft", name := "which", desc := "(I)J" } : MethodName) ({ cls := "GuardsLookLeft", name := "which", desc := "(I)J" } : MethodName)) ∈ WS := ws4 (i := 50) rfl rfl
theorem wk_4_51 : (Cond.code ({ cls := "GuardsLookLeft", name := "which", desc := "(I)J" } : MethodName) prog_1_method_44_code (5 : Nat) (Option.some ClassFile.FieldType.long)) ∈ WS := ws4 (i := 51) rfl rfl
theorem wk_4_52 : (Cond.methodLink "GuardsLookLeftLaw" (140 : Nat) ({ cls := "GuardsLookLeft", name := "laws", desc := "(II)I" } : MethodName)) ∈ WS := ws4 (i := 52) rfl rfl
theorem wk_4_53 : (Cond.instanceMethod ({ cls := "GuardsLookLeft", name := "laws", desc := "(II)I" } : MethodName)) ∈ WS := ws4 (i := 53) rfl rfl
theorem wk_4_54 : (Cond.selects "GuardsLookLeft" ({ cls := "GuardsLookLeft", name := "laws", desc := "(II)I" } : MethodName) ({ cls := "GuardsLookLeft", name := "laws", desc := "(II)I" } : MethodName)) ∈ WS := ws4 (i := 54) rfl rfl
theorem wk_4_55 : (Cond.code ({ cls := "GuardsLookLeft", name := "laws", desc := "(II)I" } : MethodName) prog_1_method_45_code (6 : Nat) (Option.some ClassFile.FieldType.int)) ∈ WS := ws4 (i := 55) rfl rfl
theorem wk_4_56 : (Cond.methodLink "GuardsLookLeft" (291 : Nat) ({ cls := "GuardsLookLeft$Watch", name := "supposeLaw", desc := "(I)V" } : MethodName)) ∈ WS := ws4 (i := 56) rfl rfl
theorem wk_4_57 : (Cond.instanceMethod ({ cls := "GuardsLookLeft$Watch", name := "supposeLaw", desc := "(I)V" } : MethodName)) ∈ WS := ws4 (i := 57) rfl rfl
theorem wk_4_58 : (Cond.selects "GuardsLookLeft$Watch" ({ cls := "GuardsLookLeft$Watch", name := "supposeLaw", desc := "(I)V" } : MethodName) ({ cls := "GuardsLookLeft$Watch", name := "supposeLaw", desc := "(I)V" } : MethodName)) ∈ WS := ws4 (i := 58) rfl rfl
theorem wk_4_59 : (Cond.code ({ cls := "GuardsLookLeft$Watch", name := "supposeLaw", desc := "(I)V" } : MethodName) prog_10_method_9_code (4 : Nat) (Option.none : Option ClassFile.FieldType)) ∈ WS := ws4 (i := 59) rfl rfl
theorem wk_4_60 : (Cond.methodLink "GuardsLookLeftLaw" (144 : Nat) ({ cls := "GuardsLookLeft", name := "gone", desc := "(II)I" } : MethodName)) ∈ WS := ws4 (i := 60) rfl rfl
theorem wk_4_61 : (Cond.instanceMethod ({ cls := "GuardsLookLeft", name := "gone", desc := "(II)I" } : MethodName)) ∈ WS := ws4 (i := 61) rfl rfl
theorem wk_4_62 : (Cond.selects "GuardsLookLeft" ({ cls := "GuardsLookLeft", name := "gone", desc := "(II)I" } : MethodName) ({ cls := "GuardsLookLeft", name := "gone", desc := "(II)I" } : MethodName)) ∈ WS := ws4 (i := 62) rfl rfl
theorem wk_4_63 : (Cond.code ({ cls := "GuardsLookLeft", name := "gone", desc := "(II)I" } : MethodName) prog_1_method_46_code (5 : Nat) (Option.some ClassFile.FieldType.int)) ∈ WS := ws4 (i := 63) rfl rfl
theorem wk_4_64 : (Cond.methodLink "GuardsLookLeftLaw" (148 : Nat) ({ cls := "GuardsLookLeft", name := "film", desc := "(II)I" } : MethodName)) ∈ WS := ws4 (i := 64) rfl rfl
theorem wk_4_65 : (Cond.instanceMethod ({ cls := "GuardsLookLeft", name := "film", desc := "(II)I" } : MethodName)) ∈ WS := ws4 (i := 65) rfl rfl
theorem wk_4_66 : (Cond.selects "GuardsLookLeft" ({ cls := "GuardsLookLeft", name := "film", desc := "(II)I" } : MethodName) ({ cls := "GuardsLookLeft", name := "film", desc := "(II)I" } : MethodName)) ∈ WS := ws4 (i := 66) rfl rfl
theorem wk_4_67 : (Cond.code ({ cls := "GuardsLookLeft", name := "film", desc := "(II)I" } : MethodName) prog_1_method_47_code (5 : Nat) (Option.some ClassFile.FieldType.int)) ∈ WS := ws4 (i := 67) rfl rfl
theorem wk_4_68 : (Cond.methodLink "GuardsLookLeft" (297 : Nat) ({ cls := "GuardsLookLeft$Sheet", name := "become", desc := "(II)V" } : MethodName)) ∈ WS := ws4 (i := 68) rfl rfl
theorem wk_4_69 : (Cond.instanceMethod ({ cls := "GuardsLookLeft$Sheet", name := "become", desc := "(II)V" } : MethodName)) ∈ WS := ws4 (i := 69) rfl rfl
theorem wk_4_70 : (Cond.selects "GuardsLookLeft$Sheet" ({ cls := "GuardsLookLeft$Sheet", name := "become", desc := "(II)V" } : MethodName) ({ cls := "GuardsLookLeft$Sheet", name := "become", desc := "(II)V" } : MethodName)) ∈ WS := ws4 (i := 70) rfl rfl
theorem wk_4_71 : (Cond.code ({ cls := "GuardsLookLeft$Sheet", name := "become", desc := "(II)V" } : MethodName) prog_7_method_2_code (3 : Nat) (Option.none : Option ClassFile.FieldType)) ∈ WS := ws4 (i := 71) rfl rfl
theorem wk_4_72 : (Cond.methodLink "GuardsLookLeft$Sheet" (22 : Nat) ({ cls := "java/util/Arrays", name := "fill", desc := "([II)V" } : MethodName)) ∈ WS := ws4 (i := 72) rfl rfl
theorem wk_4_73 : (Cond.static ({ cls := "java/util/Arrays", name := "fill", desc := "([II)V" } : MethodName)) ∈ WS := ws4 (i := 73) rfl rfl
theorem wk_4_74 : (Cond.code ({ cls := "java/util/Arrays", name := "fill", desc := "([II)V" } : MethodName) prog_20_method_103_code (4 : Nat) (Option.none : Option ClassFile.FieldType)) ∈ WS := ws4 (i := 74) rfl rfl
theorem wk_4_75 : (Cond.methodLink "GuardsLookLeftLaw" (152 : Nat) ({ cls := "GuardsLookLeft", name := "drawn", desc := "(I)I" } : MethodName)) ∈ WS := ws4 (i := 75) rfl rfl
theorem wk_4_76 : (Cond.instanceMethod ({ cls := "GuardsLookLeft", name := "drawn", desc := "(I)I" } : MethodName)) ∈ WS := ws4 (i := 76) rfl rfl
theorem wk_4_77 : (Cond.selects "GuardsLookLeft" ({ cls := "GuardsLookLeft", name := "drawn", desc := "(I)I" } : MethodName) ({ cls := "GuardsLookLeft", name := "drawn", desc := "(I)I" } : MethodName)) ∈ WS := ws4 (i := 77) rfl rfl
theorem wk_4_78 : (Cond.code ({ cls := "GuardsLookLeft", name := "drawn", desc := "(I)I" } : MethodName) prog_1_method_49_code (2 : Nat) (Option.some ClassFile.FieldType.int)) ∈ WS := ws4 (i := 78) rfl rfl
theorem wk_4_79 : (Cond.constant "GuardsLookLeft" (307 : Nat) (99999 : Int32)) ∈ WS := ws4 (i := 79) rfl rfl
theorem wk_4_80 : (Cond.methodLink "GuardsLookLeft" (308 : Nat) ({ cls := "GuardsLookLeft$Watch", name := "supposeLots", desc := "(I)V" } : MethodName)) ∈ WS := ws4 (i := 80) rfl rfl
theorem wk_4_81 : (Cond.instanceMethod ({ cls := "GuardsLookLeft$Watch", name := "supposeLots", desc := "(I)V" } : MethodName)) ∈ WS := ws4 (i := 81) rfl rfl
theorem wk_4_82 : (Cond.selects "GuardsLookLeft$Watch" ({ cls := "GuardsLookLeft$Watch", name := "supposeLots", desc := "(I)V" } : MethodName) ({ cls := "GuardsLookLeft$Watch", name := "supposeLots", desc := "(I)V" } : MethodName)) ∈ WS := ws4 (i := 82) rfl rfl
theorem wk_4_83 : (Cond.code ({ cls := "GuardsLookLeft$Watch", name := "supposeLots", desc := "(I)V" } : MethodName) prog_10_method_10_code (6 : Nat) (Option.none : Option ClassFile.FieldType)) ∈ WS := ws4 (i := 83) rfl rfl
theorem wk_4_84 : (Cond.constantLong "GuardsLookLeft$Watch" (133 : Nat) (48271 : Int64)) ∈ WS := ws4 (i := 84) rfl rfl
theorem wk_4_85 : (Cond.constantLong "GuardsLookLeft$Watch" (135 : Nat) (2147483647 : Int64)) ∈ WS := ws4 (i := 85) rfl rfl
theorem wk_4_86 : (Cond.constantLong "GuardsLookLeft$Watch" (137 : Nat) (24 : Int64)) ∈ WS := ws4 (i := 86) rfl rfl
theorem wk_4_87 : (Cond.methodLink "GuardsLookLeftLaw" (156 : Nat) ({ cls := "GuardsLookLeft", name := "mean", desc := "(III)J" } : MethodName)) ∈ WS := ws4 (i := 87) rfl rfl
theorem wk_4_88 : (Cond.instanceMethod ({ cls := "GuardsLookLeft", name := "mean", desc := "(III)J" } : MethodName)) ∈ WS := ws4 (i := 88) rfl rfl
theorem wk_4_89 : (Cond.selects "GuardsLookLeft" ({ cls := "GuardsLookLeft", name := "mean", desc := "(III)J" } : MethodName) ({ cls := "GuardsLookLeft", name := "mean", desc := "(III)J" } : MethodName)) ∈ WS := ws4 (i := 89) rfl rfl
theorem wk_4_90 : (Cond.code ({ cls := "GuardsLookLeft", name := "mean", desc := "(III)J" } : MethodName) prog_1_method_50_code (7 : Nat) (Option.some ClassFile.FieldType.long)) ∈ WS := ws4 (i := 90) rfl rfl
theorem wk_4_91 : (Cond.methodLink "GuardsLookLeftLaw" (160 : Nat) ({ cls := "GuardsLookLeft", name := "image", desc := "()I" } : MethodName)) ∈ WS := ws4 (i := 91) rfl rfl
theorem wk_4_92 : (Cond.instanceMethod ({ cls := "GuardsLookLeft", name := "image", desc := "()I" } : MethodName)) ∈ WS := ws4 (i := 92) rfl rfl
theorem wk_4_93 : (Cond.selects "GuardsLookLeft" ({ cls := "GuardsLookLeft", name := "image", desc := "()I" } : MethodName) ({ cls := "GuardsLookLeft", name := "image", desc := "()I" } : MethodName)) ∈ WS := ws4 (i := 93) rfl rfl
theorem wk_4_94 : (Cond.code ({ cls := "GuardsLookLeft", name := "image", desc := "()I" } : MethodName) prog_1_method_51_code (1 : Nat) (Option.some ClassFile.FieldType.int)) ∈ WS := ws4 (i := 94) rfl rfl
theorem wk_4_95 : (Cond.methodLink "GuardsLookLeft" (311 : Nat) ({ cls := "GuardsLookLeft$Image", name := "take", desc := "(LGuardsLookLeft$Palace;LGuardsLookLeft$Guards;I)V" } : MethodName)) ∈ WS := ws4 (i := 95) rfl rfl
theorem wk_4_96 : (Cond.instanceMethod ({ cls := "GuardsLookLeft$Image", name := "take", desc := "(LGuardsLookLeft$Palace;LGuardsLookLeft$Guards;I)V" } : MethodName)) ∈ WS := ws4 (i := 96) rfl rfl
theorem wk_4_97 : (Cond.selects "GuardsLookLeft$Image" ({ cls := "GuardsLookLeft$Image", name := "take", desc := "(LGuardsLookLeft$Palace;LGuardsLookLeft$Guards;I)V" } : MethodName) ({ cls := "GuardsLookLeft$Image", name := "take", desc := "(LGuardsLookLeft$Palace;LGuardsLookLeft$Guards;I)V" } : MethodName)) ∈ WS := ws4 (i := 97) rfl rfl
theorem wk_4_98 : (Cond.code ({ cls := "GuardsLookLeft$Image", name := "take", desc := "(LGuardsLookLeft$Palace;LGuardsLookLeft$Guards;I)V" } : MethodName) prog_4_method_2_code (4 : Nat) (Option.none : Option ClassFile.FieldType)) ∈ WS := ws4 (i := 98) rfl rfl
theorem wk_4_99 : (Cond.methodLink "GuardsLookLeft$Image" (39 : Nat) ({ cls := "java/lang/System", name := "arraycopy", desc := "(Ljava/lang/Object;ILjava/lang/Object;II)V" } : MethodName)) ∈ WS := ws4 (i := 99) rfl rfl
theorem wk_4_100 : (Cond.methodLink "GuardsLookLeftLaw" (164 : Nat) ({ cls := "GuardsLookLeft", name := "back", desc := "()I" } : MethodName)) ∈ WS := ws4 (i := 100) rfl rfl
theorem wk_4_101 : (Cond.instanceMethod ({ cls := "GuardsLookLeft", name := "back", desc := "()I" } : MethodName)) ∈ WS := ws4 (i := 101) rfl rfl
theorem wk_4_102 : (Cond.selects "GuardsLookLeft" ({ cls := "GuardsLookLeft", name := "back", desc := "()I" } : MethodName) ({ cls := "GuardsLookLeft", name := "back", desc := "()I" } : MethodName)) ∈ WS := ws4 (i := 102) rfl rfl
theorem wk_4_103 : (Cond.code ({ cls := "GuardsLookLeft", name := "back", desc := "()I" } : MethodName) prog_1_method_52_code (1 : Nat) (Option.some ClassFile.FieldType.int)) ∈ WS := ws4 (i := 103) rfl rfl
theorem wk_4_104 : (Cond.methodLink "GuardsLookLeft" (318 : Nat) ({ cls := "GuardsLookLeft$Image", name := "giveBack", desc := "(LGuardsLookLeft$Palace;LGuardsLookLeft$Guards;)V" } : MethodName)) ∈ WS := ws4 (i := 104) rfl rfl
theorem wk_4_105 : (Cond.instanceMethod ({ cls := "GuardsLookLeft$Image", name := "giveBack", desc := "(LGuardsLookLeft$Palace;LGuardsLookLeft$Guards;)V" } : MethodName)) ∈ WS := ws4 (i := 105) rfl rfl
theorem wk_4_106 : (Cond.selects "GuardsLookLeft$Image" ({ cls := "GuardsLookLeft$Image", name := "giveBack", desc := "(LGuardsLookLeft$Palace;LGuardsLookLeft$Guards;)V" } : MethodName) ({ cls := "GuardsLookLeft$Image", name := "giveBack", desc := "(LGuardsLookLeft$Palace;LGuardsLookLeft$Guards;)V" } : MethodName)) ∈ WS := ws4 (i := 106) rfl rfl
theorem wk_4_107 : (Cond.code ({ cls := "GuardsLookLeft$Image", name := "giveBack", desc := "(LGuardsLookLeft$Palace;LGuardsLookLeft$Guards;)V" } : MethodName) prog_4_method_3_code (3 : Nat) (Option.none : Option ClassFile.FieldType)) ∈ WS := ws4 (i := 107) rfl rfl
theorem wk_4_108 : (Cond.methodLink "GuardsLookLeftLaw" (168 : Nat) ({ cls := "GuardsLookLeft", name := "sheet", desc := "(III)I" } : MethodName)) ∈ WS := ws4 (i := 108) rfl rfl
theorem wk_4_109 : (Cond.instanceMethod ({ cls := "GuardsLookLeft", name := "sheet", desc := "(III)I" } : MethodName)) ∈ WS := ws4 (i := 109) rfl rfl
theorem wk_4_110 : (Cond.selects "GuardsLookLeft" ({ cls := "GuardsLookLeft", name := "sheet", desc := "(III)I" } : MethodName) ({ cls := "GuardsLookLeft", name := "sheet", desc := "(III)I" } : MethodName)) ∈ WS := ws4 (i := 110) rfl rfl
theorem wk_4_111 : (Cond.code ({ cls := "GuardsLookLeft", name := "sheet", desc := "(III)I" } : MethodName) prog_1_method_53_code (4 : Nat) (Option.some ClassFile.FieldType.int)) ∈ WS := ws4 (i := 111) rfl rfl
theorem wk_4_112 : (Cond.methodLink "GuardsLookLeftLaw" (172 : Nat) ({ cls := "GuardsLookLeft", name := "cell", desc := "(III)I" } : MethodName)) ∈ WS := ws4 (i := 112) rfl rfl
theorem wk_4_113 : (Cond.instanceMethod ({ cls := "GuardsLookLeft", name := "cell", desc := "(III)I" } : MethodName)) ∈ WS := ws4 (i := 113) rfl rfl
theorem wk_4_114 : (Cond.selects "GuardsLookLeft" ({ cls := "GuardsLookLeft", name := "cell", desc := "(III)I" } : MethodName) ({ cls := "GuardsLookLeft", name := "cell", desc := "(III)I" } : MethodName)) ∈ WS := ws4 (i := 114) rfl rfl
theorem wk_4_115 : (Cond.code ({ cls := "GuardsLookLeft", name := "cell", desc := "(III)I" } : MethodName) prog_1_method_54_code (5 : Nat) (Option.some ClassFile.FieldType.int)) ∈ WS := ws4 (i := 115) rfl rfl
theorem wk_4_116 : (Cond.methodLink "GuardsLookLeftLaw" (176 : Nat) ({ cls := "GuardsLookLeft", name := "copy", desc := "(IIIII)I" } : MethodName)) ∈ WS := ws4 (i := 116) rfl rfl
theorem wk_4_117 : (Cond.instanceMethod ({ cls := "GuardsLookLeft", name := "copy", desc := "(IIIII)I" } : MethodName)) ∈ WS := ws4 (i := 117) rfl rfl
theorem wk_4_118 : (Cond.selects "GuardsLookLeft" ({ cls := "GuardsLookLeft", name := "copy", desc := "(IIIII)I" } : MethodName) ({ cls := "GuardsLookLeft", name := "copy", desc := "(IIIII)I" } : MethodName)) ∈ WS := ws4 (i := 118) rfl rfl
theorem wk_4_119 : (Cond.code ({ cls := "GuardsLookLeft", name := "copy", desc := "(IIIII)I" } : MethodName) prog_1_method_55_code (8 : Nat) (Option.some ClassFile.FieldType.int)) ∈ WS := ws4 (i := 119) rfl rfl
theorem wk_4_120 : (Cond.methodLink "GuardsLookLeft" (325 : Nat) ({ cls := "GuardsLookLeft$Sheet", name := "hasRoom", desc := "(II)Z" } : MethodName)) ∈ WS := ws4 (i := 120) rfl rfl
theorem wk_4_121 : (Cond.instanceMethod ({ cls := "GuardsLookLeft$Sheet", name := "hasRoom", desc := "(II)Z" } : MethodName)) ∈ WS := ws4 (i := 121) rfl rfl
theorem wk_4_122 : (Cond.selects "GuardsLookLeft$Sheet" ({ cls := "GuardsLookLeft$Sheet", name := "hasRoom", desc := "(II)Z" } : MethodName) ({ cls := "GuardsLookLeft$Sheet", name := "hasRoom", desc := "(II)Z" } : MethodName)) ∈ WS := ws4 (i := 122) rfl rfl
theorem wk_4_123 : (Cond.code ({ cls := "GuardsLookLeft$Sheet", name := "hasRoom", desc := "(II)Z" } : MethodName) prog_7_method_3_code (3 : Nat) (Option.some ClassFile.FieldType.boolean)) ∈ WS := ws4 (i := 123) rfl rfl
theorem wk_4_124 : (Cond.methodLink "GuardsLookLeft" (328 : Nat) ({ cls := "java/lang/System", name := "arraycopy", desc := "(Ljava/lang/Object;ILjava/lang/Object;II)V" } : MethodName)) ∈ WS := ws4 (i := 124) rfl rfl
theorem wk_4_125 : (Cond.methodLink "GuardsLookLeftLaw" (180 : Nat) ({ cls := "GuardsLookLeft", name := "guardsBy", desc := "(IIII)I" } : MethodName)) ∈ WS := ws4 (i := 125) rfl rfl
theorem wk_4_126 : (Cond.instanceMethod ({ cls := "GuardsLookLeft", name := "guardsBy", desc := "(IIII)I" } : MethodName)) ∈ WS := ws4 (i := 126) rfl rfl
theorem wk_4_127 : (Cond.selects "GuardsLookLeft" ({ cls := "GuardsLookLeft", name := "guardsBy", desc := "(IIII)I" } : MethodName) ({ cls := "GuardsLookLeft", name := "guardsBy", desc := "(IIII)I" } : MethodName)) ∈ WS := ws4 (i := 127) rfl rfl
theorem wk_4_128 : (Cond.code ({ cls := "GuardsLookLeft", name := "guardsBy", desc := "(IIII)I" } : MethodName) prog_1_method_56_code (10 : Nat) (Option.some ClassFile.FieldType.int)) ∈ WS := ws4 (i := 128) rfl rfl
theorem wk_4_129 : (Cond.methodLink "GuardsLookLeft" (334 : Nat) ({ cls := "GuardsLookLeft", name := "guard", desc := "(IIII)I" } : MethodName)) ∈ WS := ws4 (i := 129) rfl rfl
theorem wk_4_130 : (Cond.methodLink "GuardsLookLeftLaw" (184 : Nat) ({ cls := "GuardsLookLeft", name := "taken", desc := "(II)I" } : MethodName)) ∈ WS := ws4 (i := 130) rfl rfl
theorem wk_4_131 : (Cond.instanceMethod ({ cls := "GuardsLookLeft", name := "taken", desc := "(II)I" } : MethodName)) ∈ WS := ws4 (i := 131) rfl rfl
theorem wk_4_132 : (Cond.selects "GuardsLookLeft" ({ cls := "GuardsLookLeft", name := "taken", desc := "(II)I" } : MethodName) ({ cls := "GuardsLookLeft", name := "taken", desc := "(II)I" } : MethodName)) ∈ WS := ws4 (i := 132) rfl rfl
theorem wk_4_133 : (Cond.code ({ cls := "GuardsLookLeft", name := "taken", desc := "(II)I" } : MethodName) prog_1_method_57_code (4 : Nat) (Option.some ClassFile.FieldType.int)) ∈ WS := ws4 (i := 133) rfl rfl
theorem wk_4_134 : (Cond.methodLink "GuardsLookLeft" (338 : Nat) ({ cls := "GuardsLookLeft$Palace", name := "lying", desc := "(I)I" } : MethodName)) ∈ WS := ws4 (i := 134) rfl rfl
theorem wk_4_135 : (Cond.instanceMethod ({ cls := "GuardsLookLeft$Palace", name := "lying", desc := "(I)I" } : MethodName)) ∈ WS := ws4 (i := 135) rfl rfl
theorem wk_4_136 : (Cond.selects "GuardsLookLeft$Palace" ({ cls := "GuardsLookLeft$Palace", name := "lying", desc := "(I)I" } : MethodName) ({ cls := "GuardsLookLeft$Palace", name := "lying", desc := "(I)I" } : MethodName)) ∈ WS := ws4 (i := 136) rfl rfl
theorem wk_4_137 : (Cond.code ({ cls := "GuardsLookLeft$Palace", name := "lying", desc := "(I)I" } : MethodName) prog_5_method_4_code (4 : Nat) (Option.some ClassFile.FieldType.int)) ∈ WS := ws4 (i := 137) rfl rfl
theorem wk_4_138 : (Cond.methodLink "GuardsLookLeft" (341 : Nat) ({ cls := "GuardsLookLeft$Guards", name := "isOf", desc := "(II)Z" } : MethodName)) ∈ WS := ws4 (i := 138) rfl rfl
theorem wk_4_139 : (Cond.instanceMethod ({ cls := "GuardsLookLeft$Guards", name := "isOf", desc := "(II)Z" } : MethodName)) ∈ WS := ws4 (i := 139) rfl rfl
theorem wk_4_140 : (Cond.selects "GuardsLookLeft$Guards" ({ cls := "GuardsLookLeft$Guards", name := "isOf", desc := "(II)Z" } : MethodName) ({ cls := "GuardsLookLeft$Guards", name := "isOf", desc := "(II)Z" } : MethodName)) ∈ WS := ws4 (i := 140) rfl rfl
theorem wk_4_141 : (Cond.code ({ cls := "GuardsLookLeft$Guards", name := "isOf", desc := "(II)Z" } : MethodName) prog_3_method_3_code (3 : Nat) (Option.some ClassFile.FieldType.boolean)) ∈ WS := ws4 (i := 141) rfl rfl
theorem wk_4_142 : (Cond.fieldLink "GuardsLookLeft$Guards" (34 : Nat) "GuardsLookLeft$Guards" "KIND_ABOVE" "[I") ∈ WS := ws4 (i := 142) rfl rfl
theorem wk_4_144 : (Cond.classLink "GuardsLookLeftLaw" (10 : Nat) "GuardsLookLeftModel") ∈ WS := ws4 (i := 144) rfl rfl
theorem wk_4_145 : (Cond.instantiable "GuardsLookLeftModel" (41 : Nat)) ∈ WS := ws4 (i := 145) rfl rfl
theorem wk_4_146 : (Cond.methodLink "GuardsLookLeftLaw" (12 : Nat) ({ cls := "GuardsLookLeftModel", name := "<init>", desc := "()V" } : MethodName)) ∈ WS := ws4 (i := 146) rfl rfl
theorem wk_4_147 : (Cond.instanceMethod ({ cls := "GuardsLookLeftModel", name := "<init>", desc := "()V" } : MethodName)) ∈ WS := ws4 (i := 147) rfl rfl
theorem wk_4_148 : (Cond.code ({ cls := "GuardsLookLeftModel", name := "<init>", desc := "()V" } : MethodName) prog_12_method_1_code (2 : Nat) (Option.none : Option ClassFile.FieldType)) ∈ WS := ws4 (i := 148) rfl rfl
theorem wk_4_149 : (Cond.methodLink "GuardsLookLeftModel" (1 : Nat) ({ cls := "java/lang/Object", name := "<init>", desc := "()V" } : MethodName)) ∈ WS := ws4 (i := 149) rfl rfl
theorem wk_4_150 : (Cond.methodLink "GuardsLookLeftModel" (87 : Nat) ({ cls := "GuardsLookLeftModel", name := "text", desc := "()I" } : MethodName)) ∈ WS := ws4 (i := 150) rfl rfl
theorem wk_4_151 : (Cond.instanceMethod ({ cls := "GuardsLookLeftModel", name := "text", desc := "()I" } : MethodName)) ∈ WS := ws4 (i := 151) rfl rfl
theorem wk_4_152 : (Cond.selects "GuardsLookLeftModel" ({ cls := "GuardsLookLeftModel", name := "text", desc := "()I" } : MethodName) ({ cls := "GuardsLookLeftModel", name := "text", desc := "()I" } : MethodName)) ∈ WS := ws4 (i := 152) rfl rfl
theorem wk_4_153 : (Cond.code ({ cls := "GuardsLookLeftModel", name := "text", desc := "()I" } : MethodName) prog_12_method_27_code (3 : Nat) (Option.some ClassFile.FieldType.int)) ∈ WS := ws4 (i := 153) rfl rfl
theorem wk_4_154 : (Cond.methodLink "GuardsLookLeftModel" (168 : Nat) ({ cls := "GuardsLookLeftModel", name := "next", desc := "()V" } : MethodName)) ∈ WS := ws4 (i := 154) rfl rfl
theorem wk_4_156 : (Cond.instanceMethod ({ cls := "GuardsLookLeftModel", name := "next", desc := "()V" } : MethodName)) ∈ WS := ws4 (i := 156) rfl rfl
theorem wk_4_157 : (Cond.code ({ cls := "GuardsLookLeftModel", name := "next", desc := "()V" } : MethodName) prog_12_method_18_code (3 : Nat) (Option.none : Option ClassFile.FieldType)) ∈ WS := ws4 (i := 157) rfl rfl
theorem wk_4_158 : (Cond.methodLink "GuardsLookLeftModel" (91 : Nat) ({ cls := "GuardsLookLeftModel", name := "in", desc := "(III)Z" } : MethodName)) ∈ WS := ws4 (i := 158) rfl rfl
theorem wk_4_159 : (Cond.static ({ cls := "GuardsLookLeftModel", name := "in", desc := "(III)Z" } : MethodName)) ∈ WS := ws4 (i := 159) rfl rfl
theorem wk_4_160 : (Cond.code ({ cls := "GuardsLookLeftModel", name := "in", desc := "(III)Z" } : MethodName) prog_12_method_3_code (3 : Nat) (Option.some ClassFile.FieldType.boolean)) ∈ WS := ws4 (i := 160) rfl rfl
theorem wk_4_161 : (Cond.methodLink "GuardsLookLeftModel" (141 : Nat) ({ cls := "GuardsLookLeftModel", name := "wordFrom", desc := "(II)I" } : MethodName)) ∈ WS := ws4 (i := 161) rfl rfl
theorem wk_4_163 : (Cond.instanceMethod ({ cls := "GuardsLookLeftModel", name := "wordFrom", desc := "(II)I" } : MethodName)) ∈ WS := ws4 (i := 163) rfl rfl
theorem wk_4_164 : (Cond.code ({ cls := "GuardsLookLeftModel", name := "wordFrom", desc := "(II)I" } : MethodName) prog_12_method_17_code (6 : Nat) (Option.some ClassFile.FieldType.int)) ∈ WS := ws4 (i := 164) rfl rfl
theorem wk_4_165 : (Cond.methodLink "GuardsLookLeftModel" (181 : Nat) ({ cls := "GuardsLookLeftModel", name := "eRead", desc := "()Z" } : MethodName)) ∈ WS := ws4 (i := 165) rfl rfl
theorem wk_4_167 : (Cond.instanceMethod ({ cls := "GuardsLookLeftModel", name := "eRead", desc := "()Z" } : MethodName)) ∈ WS := ws4 (i := 167) rfl rfl
theorem wk_4_168 : (Cond.code ({ cls := "GuardsLookLeftModel", name := "eRead", desc := "()Z" } : MethodName) prog_12_method_26_code (4 : Nat) (Option.some ClassFile.FieldType.boolean)) ∈ WS := ws4 (i := 168) rfl rfl
theorem wk_4_169 : (Cond.constant "GuardsLookLeftModel" (171 : Nat) (100000 : Int32)) ∈ WS := ws4 (i := 169) rfl rfl
theorem wk_4_170 : (Cond.methodLink "GuardsLookLeftModel" (158 : Nat) ({ cls := "GuardsLookLeftModel", name := "puts", desc := "(I)V" } : MethodName)) ∈ WS := ws4 (i := 170) rfl rfl
theorem wk_4_172 : (Cond.instanceMethod ({ cls := "GuardsLookLeftModel", name := "puts", desc := "(I)V" } : MethodName)) ∈ WS := ws4 (i := 172) rfl rfl
theorem wk_4_173 : (Cond.code ({ cls := "GuardsLookLeftModel", name := "puts", desc := "(I)V" } : MethodName) prog_12_method_20_code (2 : Nat) (Option.none : Option ClassFile.FieldType)) ∈ WS := ws4 (i := 173) rfl rfl
theorem wk_4_174 : (Cond.methodLink "GuardsLookLeftModel" (165 : Nat) ({ cls := "GuardsLookLeftModel", name := "unwinds", desc := "(I)V" } : MethodName)) ∈ WS := ws4 (i := 174) rfl rfl
theorem wk_4_176 : (Cond.instanceMethod ({ cls := "GuardsLookLeftModel", name := "unwinds", desc := "(I)V" } : MethodName)) ∈ WS := ws4 (i := 176) rfl rfl
theorem wk_4_177 : (Cond.code ({ cls := "GuardsLookLeftModel", name := "unwinds", desc := "(I)V" } : MethodName) prog_12_method_21_code (3 : Nat) (Option.none : Option ClassFile.FieldType)) ∈ WS := ws4 (i := 177) rfl rfl
theorem wk_4_178 : (Cond.methodLink "GuardsLookLeftModel" (151 : Nat) ({ cls := "GuardsLookLeftModel", name := "rank", desc := "(I)I" } : MethodName)) ∈ WS := ws4 (i := 178) rfl rfl
theorem wk_4_179 : (Cond.static ({ cls := "GuardsLookLeftModel", name := "rank", desc := "(I)I" } : MethodName)) ∈ WS := ws4 (i := 179) rfl rfl
theorem wk_4_180 : (Cond.code ({ cls := "GuardsLookLeftModel", name := "rank", desc := "(I)I" } : MethodName) prog_12_method_19_code (1 : Nat) (Option.some ClassFile.FieldType.int)) ∈ WS := ws4 (i := 180) rfl rfl
theorem wk_4_181 : (Cond.methodLink "GuardsLookLeftModel" (172 : Nat) ({ cls := "GuardsLookLeftModel", name := "opensOne", desc := "(I)Z" } : MethodName)) ∈ WS := ws4 (i := 181) rfl rfl
theorem wk_4_183 : (Cond.instanceMethod ({ cls := "GuardsLookLeftModel", name := "opensOne", desc := "(I)Z" } : MethodName)) ∈ WS := ws4 (i := 183) rfl rfl
theorem wk_4_184 : (Cond.code ({ cls := "GuardsLookLeftModel", name := "opensOne", desc := "(I)Z" } : MethodName) prog_12_method_23_code (2 : Nat) (Option.some ClassFile.FieldType.boolean)) ∈ WS := ws4 (i := 184) rfl rfl
theorem wk_4_185 : (Cond.methodLink "GuardsLookLeftModel" (162 : Nat) ({ cls := "GuardsLookLeftModel", name := "holds", desc := "(I)V" } : MethodName)) ∈ WS := ws4 (i := 185) rfl rfl
theorem wk_4_187 : (Cond.instanceMethod ({ cls := "GuardsLookLeftModel", name := "holds", desc := "(I)V" } : MethodName)) ∈ WS := ws4 (i := 187) rfl rfl
theorem wk_4_188 : (Cond.code ({ cls := "GuardsLookLeftModel", name := "holds", desc := "(I)V" } : MethodName) prog_12_method_22_code (2 : Nat) (Option.none : Option ClassFile.FieldType)) ∈ WS := ws4 (i := 188) rfl rfl
theorem wk_4_189 : (Cond.methodLink "GuardsLookLeftModel" (175 : Nat) ({ cls := "GuardsLookLeftModel", name := "signOf", desc := "()I" } : MethodName)) ∈ WS := ws4 (i := 189) rfl rfl
theorem wk_4_191 : (Cond.instanceMethod ({ cls := "GuardsLookLeftModel", name := "signOf", desc := "()I" } : MethodName)) ∈ WS := ws4 (i := 191) rfl rfl
theorem wk_4_192 : (Cond.code ({ cls := "GuardsLookLeftModel", name := "signOf", desc := "()I" } : MethodName) prog_12_method_25_code (1 : Nat) (Option.some ClassFile.FieldType.int)) ∈ WS := ws4 (i := 192) rfl rfl
theorem wk_4_193 : (Cond.methodLink "GuardsLookLeftModel" (178 : Nat) ({ cls := "GuardsLookLeftModel", name := "between", desc := "(I)Z" } : MethodName)) ∈ WS := ws4 (i := 193) rfl rfl
theorem wk_4_195 : (Cond.instanceMethod ({ cls := "GuardsLookLeftModel", name := "between", desc := "(I)Z" } : MethodName)) ∈ WS := ws4 (i := 195) rfl rfl
theorem wk_4_196 : (Cond.code ({ cls := "GuardsLookLeftModel", name := "between", desc := "(I)Z" } : MethodName) prog_12_method_24_code (2 : Nat) (Option.some ClassFile.FieldType.boolean)) ∈ WS := ws4 (i := 196) rfl rfl
theorem wk_4_197 : (Cond.fieldLink "GuardsLookLeftModel" (7 : Nat) "GuardsLookLeftModel" "sets" "[J") ∈ WS := ws4 (i := 197) rfl rfl
theorem wk_4_198 : (Cond.fieldLink "GuardsLookLeftModel" (97 : Nat) "GuardsLookLeftModel" "guards" "I") ∈ WS := ws4 (i := 198) rfl rfl
theorem wk_4_199 : (Cond.fieldLink "GuardsLookLeftModel" (13 : Nat) "GuardsLookLeftModel" "kind" "[I") ∈ WS := ws4 (i := 199) rfl rfl
theorem wk_4_200 : (Cond.fieldLink "GuardsLookLeftModel" (17 : Nat) "GuardsLookLeftModel" "home" "[I") ∈ WS := ws4 (i := 200) rfl rfl
theorem wk_4_201 : (Cond.fieldLink "GuardsLookLeftModel" (20 : Nat) "GuardsLookLeftModel" "wayOf" "[I") ∈ WS := ws4 (i := 201) rfl rfl
theorem wk_4_202 : (Cond.fieldLink "GuardsLookLeftModel" (23 : Nat) "GuardsLookLeftModel" "lengthOf" "[I") ∈ WS := ws4 (i := 202) rfl rfl
theorem wk_4_203 : (Cond.fieldLink "GuardsLookLeftModel" (26 : Nat) "GuardsLookLeftModel" "moreOf" "[I") ∈ WS := ws4 (i := 203) rfl rfl
theorem wk_4_204 : (Cond.fieldLink "GuardsLookLeftModel" (29 : Nat) "GuardsLookLeftModel" "aheadOf" "[I") ∈ WS := ws4 (i := 204) rfl rfl
theorem wk_4_205 : (Cond.fieldLink "GuardsLookLeftModel" (32 : Nat) "GuardsLookLeftModel" "tape" "[I") ∈ WS := ws4 (i := 205) rfl rfl
theorem wk_4_206 : (Cond.fieldLink "GuardsLookLeftModel" (83 : Nat) "GuardsLookLeftModel" "taped" "I") ∈ WS := ws4 (i := 206) rfl rfl
theorem wk_4_207 : (Cond.fieldLink "GuardsLookLeftModel" (35 : Nat) "GuardsLookLeftModel" "codes" "[I") ∈ WS := ws4 (i := 207) rfl rfl
theorem wk_4_208 : (Cond.fieldLink "GuardsLookLeftModel" (38 : Nat) "GuardsLookLeftModel" "starts" "[I") ∈ WS := ws4 (i := 208) rfl rfl
theorem wk_4_209 : (Cond.fieldLink "GuardsLookLeftModel" (120 : Nat) "GuardsLookLeftModel" "texts" "I") ∈ WS := ws4 (i := 209) rfl rfl
theorem wk_4_210 : (Cond.fieldLink "GuardsLookLeftModel" (123 : Nat) "GuardsLookLeftModel" "rule" "I") ∈ WS := ws4 (i := 210) rfl rfl
theorem wk_4_211 : (Cond.fieldLink "GuardsLookLeftModel" (321 : Nat) "GuardsLookLeftModel" "hasImage" "Z") ∈ WS := ws4 (i := 211) rfl rfl
theorem wk_4_212 : (Cond.fieldLink "GuardsLookLeftModel" (325 : Nat) "GuardsLookLeftModel" "imageGuards" "I") ∈ WS := ws4 (i := 212) rfl rfl
theorem wk_4_213 : (Cond.fieldLink "GuardsLookLeftModel" (328 : Nat) "GuardsLookLeftModel" "imageRule" "I") ∈ WS := ws4 (i := 213) rfl rfl
theorem wk_4_214 : (Cond.fieldLink "GuardsLookLeftModel" (41 : Nat) "GuardsLookLeftModel" "imageSets" "[J") ∈ WS := ws4 (i := 214) rfl rfl
theorem wk_4_215 : (Cond.fieldLink "GuardsLookLeftModel" (44 : Nat) "GuardsLookLeftModel" "imageAhead" "[I") ∈ WS := ws4 (i := 215) rfl rfl
theorem wk_4_216 : (Cond.fieldLink "GuardsLookLeftModel" (47 : Nat) "GuardsLookLeftModel" "imageLong" "[I") ∈ WS := ws4 (i := 216) rfl rfl
theorem wk_4_217 : (Cond.fieldLink "GuardsLookLeftModel" (50 : Nat) "GuardsLookLeftModel" "sheetSort" "[I") ∈ WS := ws4 (i := 217) rfl rfl
theorem wk_4_218 : (Cond.fieldLink "GuardsLookLeftModel" (53 : Nat) "GuardsLookLeftModel" "sheetSize" "[I") ∈ WS := ws4 (i := 218) rfl rfl
theorem wk_4_219 : (Cond.fieldLink "GuardsLookLeftModel" (56 : Nat) "GuardsLookLeftModel" "cells" "[I") ∈ WS := ws4 (i := 219) rfl rfl
theorem wk_4_220 : (Cond.fieldLink "GuardsLookLeftModel" (59 : Nat) "GuardsLookLeftModel" "law" "[I") ∈ WS := ws4 (i := 220) rfl rfl
theorem wk_4_221 : (Cond.fieldLink "GuardsLookLeftModel" (129 : Nat) "GuardsLookLeftModel" "at" "I") ∈ WS := ws4 (i := 221) rfl rfl
theorem wk_4_222 : (Cond.fieldLink "GuardsLookLeftModel" (132 : Nat) "GuardsLookLeftModel" "begun" "I") ∈ WS := ws4 (i := 222) rfl rfl
theorem wk_4_223 : (Cond.fieldLink "GuardsLookLeftModel" (135 : Nat) "GuardsLookLeftModel" "token" "I") ∈ WS := ws4 (i := 223) rfl rfl
theorem wk_4_224 : (Cond.fieldLink "GuardsLookLeftModel" (138 : Nat) "GuardsLookLeftModel" "value" "I") ∈ WS := ws4 (i := 224) rfl rfl
theorem wk_4_225 : (Cond.fieldLink "GuardsLookLeftModel" (62 : Nat) "GuardsLookLeftModel" "words" "[I") ∈ WS := ws4 (i := 225) rfl rfl
theorem wk_4_226 : (Cond.fieldLink "GuardsLookLeftModel" (65 : Nat) "GuardsLookLeftModel" "held" "[I") ∈ WS := ws4 (i := 226) rfl rfl
theorem wk_4_227 : (Cond.fieldLink "GuardsLookLeftModel" (148 : Nat) "GuardsLookLeftModel" "heldMany" "I") ∈ WS := ws4 (i := 227) rfl rfl
theorem wk_4_228 : (Cond.fieldLink "GuardsLookLeftModel" (155 : Nat) "GuardsLookLeftModel" "opens" "I") ∈ WS := ws4 (i := 228) rfl rfl
theorem wk_4_229 : (Cond.fieldLink "GuardsLookLeftModel" (145 : Nat) "GuardsLookLeftModel" "out" "I") ∈ WS := ws4 (i := 229) rfl rfl
theorem wk_4_230 : (Cond.fieldLink "GuardsLookLeftModel" (68 : Nat) "GuardsLookLeftModel" "stack" "[I") ∈ WS := ws4 (i := 230) rfl rfl
theorem wk_4_231 : (Cond.fieldLink "GuardsLookLeftModel" (71 : Nat) "GuardsLookLeftModel" "named" "[I") ∈ WS := ws4 (i := 231) rfl rfl
theorem wk_4_232 : (Cond.fieldLink "GuardsLookLeftModel" (74 : Nat) "GuardsLookLeftModel" "through" "[J") ∈ WS := ws4 (i := 232) rfl rfl
theorem wk_4_233 : (Cond.fieldLink "GuardsLookLeftModel" (258 : Nat) "GuardsLookLeftModel" "worstCell" "I") ∈ WS := ws4 (i := 233) rfl rfl
theorem wk_4_234 : (Cond.fieldLink "GuardsLookLeftModel" (261 : Nat) "GuardsLookLeftModel" "worstGap" "I") ∈ WS := ws4 (i := 234) rfl rfl
theorem wk_4_235 : (Cond.fieldLink "GuardsLookLeftModel" (264 : Nat) "GuardsLookLeftModel" "wholeGaps" "I") ∈ WS := ws4 (i := 235) rfl rfl
theorem wk_4_236 : (Cond.fieldLink "GuardsLookLeftModel" (77 : Nat) "GuardsLookLeftModel" "reached" "[J") ∈ WS := ws4 (i := 236) rfl rfl
theorem wk_4_237 : (Cond.fieldLink "GuardsLookLeftModel" (80 : Nat) "GuardsLookLeftModel" "keptAhead" "[I") ∈ WS := ws4 (i := 237) rfl rfl
theorem wk_4_238 : (Cond.laysFinal "GuardsLookLeftModel" "GuardsLookLeftModel" "sets" "[J") ∈ WS := ws4 (i := 238) rfl rfl
theorem wk_5_0 : (Cond.lays "GuardsLookLeftModel" "GuardsLookLeftModel" "guards" "I") ∈ WS := ws5 (i := 0) rfl rfl
theorem wk_5_2 : (Cond.laysFinal "GuardsLookLeftModel" "GuardsLookLeftModel" "kind" "[I") ∈ WS := ws5 (i := 2) rfl rfl
theorem wk_5_4 : (Cond.laysFinal "GuardsLookLeftModel" "GuardsLookLeftModel" "home" "[I") ∈ WS := ws5 (i := 4) rfl rfl
theorem wk_5_6 : (Cond.laysFinal "GuardsLookLeftModel" "GuardsLookLeftModel" "wayOf" "[I") ∈ WS := ws5 (i := 6) rfl rfl
theorem wk_5_8 : (Cond.laysFinal "GuardsLookLeftModel" "GuardsLookLeftModel" "lengthOf" "[I") ∈ WS := ws5 (i := 8) rfl rfl
theorem wk_5_10 : (Cond.laysFinal "GuardsLookLeftModel" "GuardsLookLeftModel" "moreOf" "[I") ∈ WS := ws5 (i := 10) rfl rfl
theorem wk_5_12 : (Cond.laysFinal "GuardsLookLeftModel" "GuardsLookLeftModel" "aheadOf" "[I") ∈ WS := ws5 (i := 12) rfl rfl
theorem wk_5_14 : (Cond.laysFinal "GuardsLookLeftModel" "GuardsLookLeftModel" "tape" "[I") ∈ WS := ws5 (i := 14) rfl rfl
theorem wk_5_16 : (Cond.lays "GuardsLookLeftModel" "GuardsLookLeftModel" "taped" "I") ∈ WS := ws5 (i := 16) rfl rfl
theorem wk_5_18 : (Cond.laysFinal "GuardsLookLeftModel" "GuardsLookLeftModel" "codes" "[I") ∈ WS := ws5 (i := 18) rfl rfl
theorem wk_5_20 : (Cond.laysFinal "GuardsLookLeftModel" "GuardsLookLeftModel" "starts" "[I") ∈ WS := ws5 (i := 20) rfl rfl
theorem wk_5_22 : (Cond.lays "GuardsLookLeftModel" "GuardsLookLeftModel" "texts" "I") ∈ WS := ws5 (i := 22) rfl rfl
theorem wk_5_24 : (Cond.lays "GuardsLookLeftModel" "GuardsLookLeftModel" "rule" "I") ∈ WS := ws5 (i := 24) rfl rfl
theorem wk_5_26 : (Cond.lays "GuardsLookLeftModel" "GuardsLookLeftModel" "hasImage" "Z") ∈ WS := ws5 (i := 26) rfl rfl
theorem wk_5_28 : (Cond.lays "GuardsLookLeftModel" "GuardsLookLeftModel" "imageGuards" "I") ∈ WS := ws5 (i := 28) rfl rfl
theorem wk_5_30 : (Cond.lays "GuardsLookLeftModel" "GuardsLookLeftModel" "imageRule" "I") ∈ WS := ws5 (i := 30) rfl rfl
theorem wk_5_32 : (Cond.laysFinal "GuardsLookLeftModel" "GuardsLookLeftModel" "imageSets" "[J") ∈ WS := ws5 (i := 32) rfl rfl
theorem wk_5_34 : (Cond.laysFinal "GuardsLookLeftModel" "GuardsLookLeftModel" "imageAhead" "[I") ∈ WS := ws5 (i := 34) rfl rfl
theorem wk_5_36 : (Cond.laysFinal "GuardsLookLeftModel" "GuardsLookLeftModel" "imageLong" "[I") ∈ WS := ws5 (i := 36) rfl rfl
theorem wk_5_38 : (Cond.laysFinal "GuardsLookLeftModel" "GuardsLookLeftModel" "sheetSort" "[I") ∈ WS := ws5 (i := 38) rfl rfl
theorem wk_5_40 : (Cond.laysFinal "GuardsLookLeftModel" "GuardsLookLeftModel" "sheetSize" "[I") ∈ WS := ws5 (i := 40) rfl rfl
theorem wk_5_42 : (Cond.laysFinal "GuardsLookLeftModel" "GuardsLookLeftModel" "cells" "[I") ∈ WS := ws5 (i := 42) rfl rfl
theorem wk_5_44 : (Cond.laysFinal "GuardsLookLeftModel" "GuardsLookLeftModel" "law" "[I") ∈ WS := ws5 (i := 44) rfl rfl
theorem wk_5_46 : (Cond.lays "GuardsLookLeftModel" "GuardsLookLeftModel" "at" "I") ∈ WS := ws5 (i := 46) rfl rfl
theorem wk_5_48 : (Cond.lays "GuardsLookLeftModel" "GuardsLookLeftModel" "begun" "I") ∈ WS := ws5 (i := 48) rfl rfl
theorem wk_5_50 : (Cond.lays "GuardsLookLeftModel" "GuardsLookLeftModel" "token" "I") ∈ WS := ws5 (i := 50) rfl rfl
theorem wk_5_52 : (Cond.lays "GuardsLookLeftModel" "GuardsLookLeftModel" "value" "I") ∈ WS := ws5 (i := 52) rfl rfl
theorem wk_5_54 : (Cond.laysFinal "GuardsLookLeftModel" "GuardsLookLeftModel" "words" "[I") ∈ WS := ws5 (i := 54) rfl rfl
theorem wk_5_56 : (Cond.laysFinal "GuardsLookLeftModel" "GuardsLookLeftModel" "held" "[I") ∈ WS := ws5 (i := 56) rfl rfl
theorem wk_5_58 : (Cond.lays "GuardsLookLeftModel" "GuardsLookLeftModel" "heldMany" "I") ∈ WS := ws5 (i := 58) rfl rfl
theorem wk_5_60 : (Cond.lays "GuardsLookLeftModel" "GuardsLookLeftModel" "opens" "I") ∈ WS := ws5 (i := 60) rfl rfl
theorem wk_5_62 : (Cond.lays "GuardsLookLeftModel" "GuardsLookLeftModel" "out" "I") ∈ WS := ws5 (i := 62) rfl rfl
theorem wk_5_64 : (Cond.laysFinal "GuardsLookLeftModel" "GuardsLookLeftModel" "stack" "[I") ∈ WS := ws5 (i := 64) rfl rfl
theorem wk_5_66 : (Cond.laysFinal "GuardsLookLeftModel" "GuardsLookLeftModel" "named" "[I") ∈ WS := ws5 (i := 66) rfl rfl
theorem wk_5_68 : (Cond.laysFinal "GuardsLookLeftModel" "GuardsLookLeftModel" "through" "[J") ∈ WS := ws5 (i := 68) rfl rfl
theorem wk_5_70 : (Cond.lays "GuardsLookLeftModel" "GuardsLookLeftModel" "worstCell" "I") ∈ WS := ws5 (i := 70) rfl rfl
theorem wk_5_72 : (Cond.lays "GuardsLookLeftModel" "GuardsLookLeftModel" "worstGap" "I") ∈ WS := ws5 (i := 72) rfl rfl
theorem wk_5_74 : (Cond.lays "GuardsLookLeftModel" "GuardsLookLeftModel" "wholeGaps" "I") ∈ WS := ws5 (i := 74) rfl rfl
theorem wk_5_76 : (Cond.laysFinal "GuardsLookLeftModel" "GuardsLookLeftModel" "reached" "[J") ∈ WS := ws5 (i := 76) rfl rfl
theorem wk_5_78 : (Cond.laysFinal "GuardsLookLeftModel" "GuardsLookLeftModel" "keptAhead" "[I") ∈ WS := ws5 (i := 78) rfl rfl
theorem wk_5_81 : (Cond.methodLink "GuardsLookLeftLaw" (19 : Nat) ({ cls := "GuardsLookLeftModel", name := "lay", desc := "(IJ)J" } : MethodName)) ∈ WS := ws5 (i := 81) rfl rfl
theorem wk_5_82 : (Cond.instanceMethod ({ cls := "GuardsLookLeftModel", name := "lay", desc := "(IJ)J" } : MethodName)) ∈ WS := ws5 (i := 82) rfl rfl
theorem wk_5_83 : (Cond.selects "GuardsLookLeftModel" ({ cls := "GuardsLookLeftModel", name := "lay", desc := "(IJ)J" } : MethodName) ({ cls := "GuardsLookLeftModel", name := "lay", desc := "(IJ)J" } : MethodName)) ∈ WS := ws5 (i := 83) rfl rfl
theorem wk_5_84 : (Cond.code ({ cls := "GuardsLookLeftModel", name := "lay", desc := "(IJ)J" } : MethodName) prog_12_method_11_code (6 : Nat) (Option.some ClassFile.FieldType.long)) ∈ WS := ws5 (i := 84) rfl rfl
theorem wk_5_85 : (Cond.methodLink "GuardsLookLeftModel" (104 : Nat) ({ cls := "GuardsLookLeftModel", name := "areCells", desc := "(J)Z" } : MethodName)) ∈ WS := ws5 (i := 85) rfl rfl
theorem wk_5_86 : (Cond.static ({ cls := "GuardsLookLeftModel", name := "areCells", desc := "(J)Z" } : MethodName)) ∈ WS := ws5 (i := 86) rfl rfl
theorem wk_5_87 : (Cond.code ({ cls := "GuardsLookLeftModel", name := "areCells", desc := "(J)Z" } : MethodName) prog_12_method_7_code (2 : Nat) (Option.some ClassFile.FieldType.boolean)) ∈ WS := ws5 (i := 87) rfl rfl
theorem wk_5_88 : (Cond.constantLong "GuardsLookLeftModel" (95 : Nat) (68719476735 : Int64)) ∈ WS := ws5 (i := 88) rfl rfl
theorem wk_5_89 : (Cond.constantLong "GuardsLookLeftModel" (108 : Nat) (-4611686018427387904 : Int64)) ∈ WS := ws5 (i := 89) rfl rfl
theorem wk_5_90 : (Cond.methodLink "GuardsLookLeftLaw" (24 : Nat) ({ cls := "GuardsLookLeftModel", name := "laid", desc := "(I)J" } : MethodName)) ∈ WS := ws5 (i := 90) rfl rfl
theorem wk_5_91 : (Cond.instanceMethod ({ cls := "GuardsLookLeftModel", name := "laid", desc := "(I)J" } : MethodName)) ∈ WS := ws5 (i := 91) rfl rfl
theorem wk_5_92 : (Cond.selects "GuardsLookLeftModel" ({ cls := "GuardsLookLeftModel", name := "laid", desc := "(I)J" } : MethodName) ({ cls := "GuardsLookLeftModel", name := "laid", desc := "(I)J" } : MethodName)) ∈ WS := ws5 (i := 92) rfl rfl
theorem wk_5_93 : (Cond.code ({ cls := "GuardsLookLeftModel", name := "laid", desc := "(I)J" } : MethodName) prog_12_method_12_code (2 : Nat) (Option.some ClassFile.FieldType.long)) ∈ WS := ws5 (i := 93) rfl rfl
theorem wk_5_94 : (Cond.methodLink "GuardsLookLeftLaw" (29 : Nat) ({ cls := "GuardsLookLeftModel", name := "put", desc := "(III)I" } : MethodName)) ∈ WS := ws5 (i := 94) rfl rfl
theorem wk_5_95 : (Cond.instanceMethod ({ cls := "GuardsLookLeftModel", name := "put", desc := "(III)I" } : MethodName)) ∈ WS := ws5 (i := 95) rfl rfl
theorem wk_5_96 : (Cond.selects "GuardsLookLeftModel" ({ cls := "GuardsLookLeftModel", name := "put", desc := "(III)I" } : MethodName) ({ cls := "GuardsLookLeftModel", name := "put", desc := "(III)I" } : MethodName)) ∈ WS := ws5 (i := 96) rfl rfl
theorem wk_5_97 : (Cond.code ({ cls := "GuardsLookLeftModel", name := "put", desc := "(III)I" } : MethodName) prog_12_method_13_code (5 : Nat) (Option.some ClassFile.FieldType.int)) ∈ WS := ws5 (i := 97) rfl rfl
theorem wk_5_98 : (Cond.methodLink "GuardsLookLeftModel" (110 : Nat) ({ cls := "GuardsLookLeftModel", name := "isCell", desc := "(I)Z" } : MethodName)) ∈ WS := ws5 (i := 98) rfl rfl
theorem wk_5_99 : (Cond.static ({ cls := "GuardsLookLeftModel", name := "isCell", desc := "(I)Z" } : MethodName)) ∈ WS := ws5 (i := 99) rfl rfl
theorem wk_5_100 : (Cond.code ({ cls := "GuardsLookLeftModel", name := "isCell", desc := "(I)Z" } : MethodName) prog_12_method_5_code (1 : Nat) (Option.some ClassFile.FieldType.boolean)) ∈ WS := ws5 (i := 100) rfl rfl
theorem wk_5_101 : (Cond.methodLink "GuardsLookLeftModel" (100 : Nat) ({ cls := "GuardsLookLeftModel", name := "has", desc := "(JI)Z" } : MethodName)) ∈ WS := ws5 (i := 101) rfl rfl
theorem wk_5_102 : (Cond.static ({ cls := "GuardsLookLeftModel", name := "has", desc := "(JI)Z" } : MethodName)) ∈ WS := ws5 (i := 102) rfl rfl
theorem wk_5_103 : (Cond.code ({ cls := "GuardsLookLeftModel", name := "has", desc := "(JI)Z" } : MethodName) prog_12_method_9_code (3 : Nat) (Option.some ClassFile.FieldType.boolean)) ∈ WS := ws5 (i := 103) rfl rfl
theorem wk_5_104 : (Cond.constantLong "GuardsLookLeftModel" (114 : Nat) (-1 : Int64)) ∈ WS := ws5 (i := 104) rfl rfl
theorem wk_5_105 : (Cond.methodLink "GuardsLookLeftLaw" (34 : Nat) ({ cls := "GuardsLookLeftModel", name := "count", desc := "(I)I" } : MethodName)) ∈ WS := ws5 (i := 105) rfl rfl
theorem wk_5_106 : (Cond.instanceMethod ({ cls := "GuardsLookLeftModel", name := "count", desc := "(I)I" } : MethodName)) ∈ WS := ws5 (i := 106) rfl rfl
theorem wk_5_107 : (Cond.selects "GuardsLookLeftModel" ({ cls := "GuardsLookLeftModel", name := "count", desc := "(I)I" } : MethodName) ({ cls := "GuardsLookLeftModel", name := "count", desc := "(I)I" } : MethodName)) ∈ WS := ws5 (i := 107) rfl rfl
theorem wk_5_108 : (Cond.code ({ cls := "GuardsLookLeftModel", name := "count", desc := "(I)I" } : MethodName) prog_12_method_14_code (2 : Nat) (Option.some ClassFile.FieldType.int)) ∈ WS := ws5 (i := 108) rfl rfl
theorem wk_5_109 : (Cond.methodLink "GuardsLookLeftModel" (116 : Nat) ({ cls := "GuardsLookLeftModel", name := "bitsOf", desc := "(J)I" } : MethodName)) ∈ WS := ws5 (i := 109) rfl rfl
theorem wk_5_110 : (Cond.static ({ cls := "GuardsLookLeftModel", name := "bitsOf", desc := "(J)I" } : MethodName)) ∈ WS := ws5 (i := 110) rfl rfl
theorem wk_5_111 : (Cond.code ({ cls := "GuardsLookLeftModel", name := "bitsOf", desc := "(J)I" } : MethodName) prog_12_method_10_code (4 : Nat) (Option.some ClassFile.FieldType.int)) ∈ WS := ws5 (i := 111) rfl rfl
theorem wk_5_112 : (Cond.methodLink "GuardsLookLeftLaw" (39 : Nat) ({ cls := "GuardsLookLeftModel", name := "feed", desc := "(IIIIII)I" } : MethodName)) ∈ WS := ws5 (i := 112) rfl rfl
theorem wk_5_113 : (Cond.instanceMethod ({ cls := "GuardsLookLeftModel", name := "feed", desc := "(IIIIII)I" } : MethodName)) ∈ WS := ws5 (i := 113) rfl rfl
theorem wk_5_114 : (Cond.selects "GuardsLookLeftModel" ({ cls := "GuardsLookLeftModel", name := "feed", desc := "(IIIIII)I" } : MethodName) ({ cls := "GuardsLookLeftModel", name := "feed", desc := "(IIIIII)I" } : MethodName)) ∈ WS := ws5 (i := 114) rfl rfl
theorem wk_5_115 : (Cond.code ({ cls := "GuardsLookLeftModel", name := "feed", desc := "(IIIIII)I" } : MethodName) prog_12_method_16_code (8 : Nat) (Option.some ClassFile.FieldType.int)) ∈ WS := ws5 (i := 115) rfl rfl
theorem wk_5_116 : (Cond.methodLink "GuardsLookLeftModel" (126 : Nat) ({ cls := "GuardsLookLeftModel", name := "isByte", desc := "(I)Z" } : MethodName)) ∈ WS := ws5 (i := 116) rfl rfl
theorem wk_5_117 : (Cond.static ({ cls := "GuardsLookLeftModel", name := "isByte", desc := "(I)Z" } : MethodName)) ∈ WS := ws5 (i := 117) rfl rfl
theorem wk_5_118 : (Cond.code ({ cls := "GuardsLookLeftModel", name := "isByte", desc := "(I)Z" } : MethodName) prog_12_method_15_code (1 : Nat) (Option.some ClassFile.FieldType.boolean)) ∈ WS := ws5 (i := 118) rfl rfl
theorem wk_5_119 : (Cond.methodLink "GuardsLookLeftLaw" (44 : Nat) ({ cls := "GuardsLookLeftModel", name := "text", desc := "()I" } : MethodName)) ∈ WS := ws5 (i := 119) rfl rfl
theorem wk_5_120 : (Cond.methodLink "GuardsLookLeftLaw" (48 : Nat) ({ cls := "GuardsLookLeftModel", name := "force", desc := "(I)I" } : MethodName)) ∈ WS := ws5 (i := 120) rfl rfl
theorem wk_5_121 : (Cond.instanceMethod ({ cls := "GuardsLookLeftModel", name := "force", desc := "(I)I" } : MethodName)) ∈ WS := ws5 (i := 121) rfl rfl
theorem wk_5_122 : (Cond.selects "GuardsLookLeftModel" ({ cls := "GuardsLookLeftModel", name := "force", desc := "(I)I" } : MethodName) ({ cls := "GuardsLookLeftModel", name := "force", desc := "(I)I" } : MethodName)) ∈ WS := ws5 (i := 122) rfl rfl
theorem wk_5_123 : (Cond.code ({ cls := "GuardsLookLeftModel", name := "force", desc := "(I)I" } : MethodName) prog_12_method_30_code (3 : Nat) (Option.some ClassFile.FieldType.int)) ∈ WS := ws5 (i := 123) rfl rfl
theorem wk_5_124 : (Cond.methodLink "GuardsLookLeftLaw" (53 : Nat) ({ cls := "GuardsLookLeftModel", name := "asks", desc := "(IIIII)I" } : MethodName)) ∈ WS := ws5 (i := 124) rfl rfl
theorem wk_5_125 : (Cond.instanceMethod ({ cls := "GuardsLookLeftModel", name := "asks", desc := "(IIIII)I" } : MethodName)) ∈ WS := ws5 (i := 125) rfl rfl
theorem wk_5_126 : (Cond.selects "GuardsLookLeftModel" ({ cls := "GuardsLookLeftModel", name := "asks", desc := "(IIIII)I" } : MethodName) ({ cls := "GuardsLookLeftModel", name := "asks", desc := "(IIIII)I" } : MethodName)) ∈ WS := ws5 (i := 126) rfl rfl
theorem wk_5_127 : (Cond.code ({ cls := "GuardsLookLeftModel", name := "asks", desc := "(IIIII)I" } : MethodName) prog_12_method_32_code (7 : Nat) (Option.some ClassFile.FieldType.int)) ∈ WS := ws5 (i := 127) rfl rfl
theorem wk_5_128 : (Cond.methodLink "GuardsLookLeftModel" (195 : Nat) ({ cls := "GuardsLookLeftModel", name := "isSecond", desc := "(I)Z" } : MethodName)) ∈ WS := ws5 (i := 128) rfl rfl
theorem wk_5_129 : (Cond.static ({ cls := "GuardsLookLeftModel", name := "isSecond", desc := "(I)Z" } : MethodName)) ∈ WS := ws5 (i := 129) rfl rfl
theorem wk_5_130 : (Cond.code ({ cls := "GuardsLookLeftModel", name := "isSecond", desc := "(I)Z" } : MethodName) prog_12_method_6_code (1 : Nat) (Option.some ClassFile.FieldType.boolean)) ∈ WS := ws5 (i := 130) rfl rfl
theorem wk_5_131 : (Cond.methodLink "GuardsLookLeftModel" (198 : Nat) ({ cls := "GuardsLookLeftModel", name := "asksOf", desc := "(IIIIIII)I" } : MethodName)) ∈ WS := ws5 (i := 131) rfl rfl
theorem wk_5_133 : (Cond.instanceMethod ({ cls := "GuardsLookLeftModel", name := "asksOf", desc := "(IIIIIII)I" } : MethodName)) ∈ WS := ws5 (i := 133) rfl rfl
theorem wk_5_134 : (Cond.code ({ cls := "GuardsLookLeftModel", name := "asksOf", desc := "(IIIIIII)I" } : MethodName) prog_12_method_31_code (9 : Nat) (Option.some ClassFile.FieldType.int)) ∈ WS := ws5 (i := 134) rfl rfl
theorem wk_5_135 : (Cond.methodLink "GuardsLookLeftModel" (189 : Nat) ({ cls := "GuardsLookLeftModel", name := "worth", desc := "(I)I" } : MethodName)) ∈ WS := ws5 (i := 135) rfl rfl
theorem wk_5_137 : (Cond.instanceMethod ({ cls := "GuardsLookLeftModel", name := "worth", desc := "(I)I" } : MethodName)) ∈ WS := ws5 (i := 137) rfl rfl
theorem wk_5_138 : (Cond.code ({ cls := "GuardsLookLeftModel", name := "worth", desc := "(I)I" } : MethodName) prog_12_method_29_code (5 : Nat) (Option.some ClassFile.FieldType.int)) ∈ WS := ws5 (i := 138) rfl rfl
theorem wk_5_139 : (Cond.methodLink "GuardsLookLeftModel" (185 : Nat) ({ cls := "GuardsLookLeftModel", name := "two", desc := "(III)I" } : MethodName)) ∈ WS := ws5 (i := 139) rfl rfl
theorem wk_5_140 : (Cond.static ({ cls := "GuardsLookLeftModel", name := "two", desc := "(III)I" } : MethodName)) ∈ WS := ws5 (i := 140) rfl rfl
theorem wk_5_141 : (Cond.code ({ cls := "GuardsLookLeftModel", name := "two", desc := "(III)I" } : MethodName) prog_12_method_28_code (3 : Nat) (Option.some ClassFile.FieldType.int)) ∈ WS := ws5 (i := 141) rfl rfl
theorem wk_5_142 : (Cond.methodLink "GuardsLookLeftModel" (192 : Nat) ({ cls := "GuardsLookLeftModel", name := "within", desc := "(III)I" } : MethodName)) ∈ WS := ws5 (i := 142) rfl rfl
theorem wk_5_143 : (Cond.static ({ cls := "GuardsLookLeftModel", name := "within", desc := "(III)I" } : MethodName)) ∈ WS := ws5 (i := 143) rfl rfl
theorem wk_5_144 : (Cond.code ({ cls := "GuardsLookLeftModel", name := "within", desc := "(III)I" } : MethodName) prog_12_method_4_code (3 : Nat) (Option.some ClassFile.FieldType.int)) ∈ WS := ws5 (i := 144) rfl rfl
theorem wk_5_145 : (Cond.methodLink "GuardsLookLeftLaw" (58 : Nat) ({ cls := "GuardsLookLeftModel", name := "guard", desc := "(IIII)I" } : MethodName)) ∈ WS := ws5 (i := 145) rfl rfl
theorem wk_5_146 : (Cond.instanceMethod ({ cls := "GuardsLookLeftModel", name := "guard", desc := "(IIII)I" } : MethodName)) ∈ WS := ws5 (i := 146) rfl rfl
theorem wk_5_147 : (Cond.selects "GuardsLookLeftModel" ({ cls := "GuardsLookLeftModel", name := "guard", desc := "(IIII)I" } : MethodName) ({ cls := "GuardsLookLeftModel", name := "guard", desc := "(IIII)I" } : MethodName)) ∈ WS := ws5 (i := 147) rfl rfl
theorem wk_5_148 : (Cond.code ({ cls := "GuardsLookLeftModel", name := "guard", desc := "(IIII)I" } : MethodName) prog_12_method_33_code (6 : Nat) (Option.some ClassFile.FieldType.int)) ∈ WS := ws5 (i := 148) rfl rfl
theorem wk_5_149 : (Cond.methodLink "GuardsLookLeftLaw" (62 : Nat) ({ cls := "GuardsLookLeftModel", name := "set", desc := "(III)I" } : MethodName)) ∈ WS := ws5 (i := 149) rfl rfl
theorem wk_5_150 : (Cond.instanceMethod ({ cls := "GuardsLookLeftModel", name := "set", desc := "(III)I" } : MethodName)) ∈ WS := ws5 (i := 150) rfl rfl
theorem wk_5_151 : (Cond.selects "GuardsLookLeftModel" ({ cls := "GuardsLookLeftModel", name := "set", desc := "(III)I" } : MethodName) ({ cls := "GuardsLookLeftModel", name := "set", desc := "(III)I" } : MethodName)) ∈ WS := ws5 (i := 151) rfl rfl
theorem wk_5_152 : (Cond.code ({ cls := "GuardsLookLeftModel", name := "set", desc := "(III)I" } : MethodName) prog_12_method_34_code (5 : Nat) (Option.some ClassFile.FieldType.int)) ∈ WS := ws5 (i := 152) rfl rfl
theorem wk_5_153 : (Cond.methodLink "GuardsLookLeftModel" (202 : Nat) ({ cls := "GuardsLookLeftModel", name := "isGuard", desc := "(I)Z" } : MethodName)) ∈ WS := ws5 (i := 153) rfl rfl
theorem wk_5_155 : (Cond.instanceMethod ({ cls := "GuardsLookLeftModel", name := "isGuard", desc := "(I)Z" } : MethodName)) ∈ WS := ws5 (i := 155) rfl rfl
theorem wk_5_156 : (Cond.code ({ cls := "GuardsLookLeftModel", name := "isGuard", desc := "(I)Z" } : MethodName) prog_12_method_8_code (2 : Nat) (Option.some ClassFile.FieldType.boolean)) ∈ WS := ws5 (i := 156) rfl rfl
theorem wk_5_157 : (Cond.methodLink "GuardsLookLeftLaw" (67 : Nat) ({ cls := "GuardsLookLeftModel", name := "guardTold", desc := "(II)I" } : MethodName)) ∈ WS := ws5 (i := 157) rfl rfl
theorem wk_5_158 : (Cond.instanceMethod ({ cls := "GuardsLookLeftModel", name := "guardTold", desc := "(II)I" } : MethodName)) ∈ WS := ws5 (i := 158) rfl rfl
theorem wk_5_159 : (Cond.selects "GuardsLookLeftModel" ({ cls := "GuardsLookLeftModel", name := "guardTold", desc := "(II)I" } : MethodName) ({ cls := "GuardsLookLeftModel", name := "guardTold", desc := "(II)I" } : MethodName)) ∈ WS := ws5 (i := 159) rfl rfl
theorem wk_5_160 : (Cond.code ({ cls := "GuardsLookLeftModel", name := "guardTold", desc := "(II)I" } : MethodName) prog_12_method_35_code (3 : Nat) (Option.some ClassFile.FieldType.int)) ∈ WS := ws5 (i := 160) rfl rfl
theorem wk_5_161 : (Cond.methodLink "GuardsLookLeftLaw" (71 : Nat) ({ cls := "GuardsLookLeftModel", name := "at", desc := "(III)I" } : MethodName)) ∈ WS := ws5 (i := 161) rfl rfl
theorem wk_5_162 : (Cond.instanceMethod ({ cls := "GuardsLookLeftModel", name := "at", desc := "(III)I" } : MethodName)) ∈ WS := ws5 (i := 162) rfl rfl
theorem wk_5_163 : (Cond.selects "GuardsLookLeftModel" ({ cls := "GuardsLookLeftModel", name := "at", desc := "(III)I" } : MethodName) ({ cls := "GuardsLookLeftModel", name := "at", desc := "(III)I" } : MethodName)) ∈ WS := ws5 (i := 163) rfl rfl
theorem wk_5_164 : (Cond.code ({ cls := "GuardsLookLeftModel", name := "at", desc := "(III)I" } : MethodName) prog_12_method_44_code (4 : Nat) (Option.some ClassFile.FieldType.int)) ∈ WS := ws5 (i := 164) rfl rfl
theorem wk_5_165 : (Cond.methodLink "GuardsLookLeftModel" (220 : Nat) ({ cls := "GuardsLookLeftModel", name := "stands", desc := "(II)I" } : MethodName)) ∈ WS := ws5 (i := 165) rfl rfl
theorem wk_5_167 : (Cond.instanceMethod ({ cls := "GuardsLookLeftModel", name := "stands", desc := "(II)I" } : MethodName)) ∈ WS := ws5 (i := 167) rfl rfl
theorem wk_5_168 : (Cond.code ({ cls := "GuardsLookLeftModel", name := "stands", desc := "(II)I" } : MethodName) prog_12_method_42_code (8 : Nat) (Option.some ClassFile.FieldType.int)) ∈ WS := ws5 (i := 168) rfl rfl
theorem wk_5_169 : (Cond.methodLink "GuardsLookLeftModel" (211 : Nat) ({ cls := "GuardsLookLeftModel", name := "beat", desc := "(I)I" } : MethodName)) ∈ WS := ws5 (i := 169) rfl rfl
theorem wk_5_171 : (Cond.instanceMethod ({ cls := "GuardsLookLeftModel", name := "beat", desc := "(I)I" } : MethodName)) ∈ WS := ws5 (i := 171) rfl rfl
theorem wk_5_172 : (Cond.code ({ cls := "GuardsLookLeftModel", name := "beat", desc := "(I)I" } : MethodName) prog_12_method_40_code (4 : Nat) (Option.some ClassFile.FieldType.int)) ∈ WS := ws5 (i := 172) rfl rfl
theorem wk_5_173 : (Cond.methodLink "GuardsLookLeftModel" (208 : Nat) ({ cls := "GuardsLookLeftModel", name := "beside", desc := "(II)I" } : MethodName)) ∈ WS := ws5 (i := 173) rfl rfl
theorem wk_5_175 : (Cond.instanceMethod ({ cls := "GuardsLookLeftModel", name := "beside", desc := "(II)I" } : MethodName)) ∈ WS := ws5 (i := 175) rfl rfl
theorem wk_5_176 : (Cond.code ({ cls := "GuardsLookLeftModel", name := "beside", desc := "(II)I" } : MethodName) prog_12_method_36_code (6 : Nat) (Option.some ClassFile.FieldType.int)) ∈ WS := ws5 (i := 176) rfl rfl
theorem wk_5_177 : (Cond.methodLink "GuardsLookLeftModel" (217 : Nat) ({ cls := "GuardsLookLeftModel", name := "walked", desc := "(II)I" } : MethodName)) ∈ WS := ws5 (i := 177) rfl rfl
theorem wk_5_179 : (Cond.instanceMethod ({ cls := "GuardsLookLeftModel", name := "walked", desc := "(II)I" } : MethodName)) ∈ WS := ws5 (i := 179) rfl rfl
theorem wk_5_180 : (Cond.code ({ cls := "GuardsLookLeftModel", name := "walked", desc := "(II)I" } : MethodName) prog_12_method_41_code (4 : Nat) (Option.some ClassFile.FieldType.int)) ∈ WS := ws5 (i := 180) rfl rfl
theorem wk_5_181 : (Cond.methodLink "GuardsLookLeftModel" (205 : Nat) ({ cls := "GuardsLookLeftModel", name := "own", desc := "(II)I" } : MethodName)) ∈ WS := ws5 (i := 181) rfl rfl
theorem wk_5_183 : (Cond.instanceMethod ({ cls := "GuardsLookLeftModel", name := "own", desc := "(II)I" } : MethodName)) ∈ WS := ws5 (i := 183) rfl rfl
theorem wk_5_184 : (Cond.code ({ cls := "GuardsLookLeftModel", name := "own", desc := "(II)I" } : MethodName) prog_12_method_37_code (3 : Nat) (Option.some ClassFile.FieldType.int)) ∈ WS := ws5 (i := 184) rfl rfl
theorem wk_5_185 : (Cond.methodLink "GuardsLookLeftModel" (214 : Nat) ({ cls := "GuardsLookLeftModel", name := "steps", desc := "(II)I" } : MethodName)) ∈ WS := ws5 (i := 185) rfl rfl
theorem wk_5_187 : (Cond.instanceMethod ({ cls := "GuardsLookLeftModel", name := "steps", desc := "(II)I" } : MethodName)) ∈ WS := ws5 (i := 187) rfl rfl
theorem wk_5_188 : (Cond.code ({ cls := "GuardsLookLeftModel", name := "steps", desc := "(II)I" } : MethodName) prog_12_method_38_code (4 : Nat) (Option.some ClassFile.FieldType.int)) ∈ WS := ws5 (i := 188) rfl rfl
theorem wk_5_189 : (Cond.methodLink "GuardsLookLeftModel" (223 : Nat) ({ cls := "GuardsLookLeftModel", name := "turned", desc := "(II)I" } : MethodName)) ∈ WS := ws5 (i := 189) rfl rfl
theorem wk_5_191 : (Cond.instanceMethod ({ cls := "GuardsLookLeftModel", name := "turned", desc := "(II)I" } : MethodName)) ∈ WS := ws5 (i := 191) rfl rfl
theorem wk_5_192 : (Cond.code ({ cls := "GuardsLookLeftModel", name := "turned", desc := "(II)I" } : MethodName) prog_12_method_43_code (5 : Nat) (Option.some ClassFile.FieldType.int)) ∈ WS := ws5 (i := 192) rfl rfl
theorem wk_5_193 : (Cond.methodLink "GuardsLookLeftModel" (226 : Nat) ({ cls := "GuardsLookLeftModel", name := "looks", desc := "(II)Z" } : MethodName)) ∈ WS := ws5 (i := 193) rfl rfl
theorem wk_5_195 : (Cond.instanceMethod ({ cls := "GuardsLookLeftModel", name := "looks", desc := "(II)Z" } : MethodName)) ∈ WS := ws5 (i := 195) rfl rfl
theorem wk_5_196 : (Cond.code ({ cls := "GuardsLookLeftModel", name := "looks", desc := "(II)Z" } : MethodName) prog_12_method_39_code (4 : Nat) (Option.some ClassFile.FieldType.boolean)) ∈ WS := ws5 (i := 196) rfl rfl
theorem wk_5_197 : (Cond.methodLink "GuardsLookLeftLaw" (76 : Nat) ({ cls := "GuardsLookLeftModel", name := "sees", desc := "(II)J" } : MethodName)) ∈ WS := ws5 (i := 197) rfl rfl
theorem wk_5_198 : (Cond.instanceMethod ({ cls := "GuardsLookLeftModel", name := "sees", desc := "(II)J" } : MethodName)) ∈ WS := ws5 (i := 198) rfl rfl
theorem wk_5_199 : (Cond.selects "GuardsLookLeftModel" ({ cls := "GuardsLookLeftModel", name := "sees", desc := "(II)J" } : MethodName) ({ cls := "GuardsLookLeftModel", name := "sees", desc := "(II)J" } : MethodName)) ∈ WS := ws5 (i := 199) rfl rfl
theorem wk_5_200 : (Cond.code ({ cls := "GuardsLookLeftModel", name := "sees", desc := "(II)J" } : MethodName) prog_12_method_51_code (3 : Nat) (Option.some ClassFile.FieldType.long)) ∈ WS := ws5 (i := 200) rfl rfl
theorem wk_5_201 : (Cond.methodLink "GuardsLookLeftModel" (233 : Nat) ({ cls := "GuardsLookLeftModel", name := "seenBy", desc := "(II)J" } : MethodName)) ∈ WS := ws5 (i := 201) rfl rfl
theorem wk_5_203 : (Cond.instanceMethod ({ cls := "GuardsLookLeftModel", name := "seenBy", desc := "(II)J" } : MethodName)) ∈ WS := ws5 (i := 203) rfl rfl
theorem wk_5_204 : (Cond.code ({ cls := "GuardsLookLeftModel", name := "seenBy", desc := "(II)J" } : MethodName) prog_12_method_46_code (9 : Nat) (Option.some ClassFile.FieldType.long)) ∈ WS := ws5 (i := 204) rfl rfl
theorem wk_5_205 : (Cond.methodLink "GuardsLookLeftModel" (230 : Nat) ({ cls := "GuardsLookLeftModel", name := "lit", desc := "(I)I" } : MethodName)) ∈ WS := ws5 (i := 205) rfl rfl
theorem wk_5_207 : (Cond.instanceMethod ({ cls := "GuardsLookLeftModel", name := "lit", desc := "(I)I" } : MethodName)) ∈ WS := ws5 (i := 207) rfl rfl
theorem wk_5_208 : (Cond.code ({ cls := "GuardsLookLeftModel", name := "lit", desc := "(I)I" } : MethodName) prog_12_method_45_code (2 : Nat) (Option.some ClassFile.FieldType.int)) ∈ WS := ws5 (i := 208) rfl rfl
theorem wk_5_209 : (Cond.methodLink "GuardsLookLeftLaw" (80 : Nat) ({ cls := "GuardsLookLeftModel", name := "watched", desc := "(I)J" } : MethodName)) ∈ WS := ws5 (i := 209) rfl rfl
theorem wk_5_210 : (Cond.instanceMethod ({ cls := "GuardsLookLeftModel", name := "watched", desc := "(I)J" } : MethodName)) ∈ WS := ws5 (i := 210) rfl rfl
theorem wk_5_211 : (Cond.selects "GuardsLookLeftModel" ({ cls := "GuardsLookLeftModel", name := "watched", desc := "(I)J" } : MethodName) ({ cls := "GuardsLookLeftModel", name := "watched", desc := "(I)J" } : MethodName)) ∈ WS := ws5 (i := 211) rfl rfl
theorem wk_5_212 : (Cond.code ({ cls := "GuardsLookLeftModel", name := "watched", desc := "(I)J" } : MethodName) prog_12_method_52_code (2 : Nat) (Option.some ClassFile.FieldType.long)) ∈ WS := ws5 (i := 212) rfl rfl
theorem wk_5_213 : (Cond.methodLink "GuardsLookLeftModel" (240 : Nat) ({ cls := "GuardsLookLeftModel", name := "watchesAll", desc := "()V" } : MethodName)) ∈ WS := ws5 (i := 213) rfl rfl
theorem wk_5_215 : (Cond.instanceMethod ({ cls := "GuardsLookLeftModel", name := "watchesAll", desc := "()V" } : MethodName)) ∈ WS := ws5 (i := 215) rfl rfl
theorem wk_5_216 : (Cond.code ({ cls := "GuardsLookLeftModel", name := "watchesAll", desc := "()V" } : MethodName) prog_12_method_48_code (2 : Nat) (Option.none : Option ClassFile.FieldType)) ∈ WS := ws5 (i := 216) rfl rfl
theorem wk_5_217 : (Cond.methodLink "GuardsLookLeftModel" (237 : Nat) ({ cls := "GuardsLookLeftModel", name := "watches", desc := "(I)V" } : MethodName)) ∈ WS := ws5 (i := 217) rfl rfl
theorem wk_5_219 : (Cond.instanceMethod ({ cls := "GuardsLookLeftModel", name := "watches", desc := "(I)V" } : MethodName)) ∈ WS := ws5 (i := 219) rfl rfl
theorem wk_5_220 : (Cond.code ({ cls := "GuardsLookLeftModel", name := "watches", desc := "(I)V" } : MethodName) prog_12_method_47_code (3 : Nat) (Option.none : Option ClassFile.FieldType)) ∈ WS := ws5 (i := 220) rfl rfl
theorem wk_5_221 : (Cond.methodLink "GuardsLookLeftModel" (243 : Nat) ({ cls := "GuardsLookLeftModel", name := "allGuards", desc := "()I" } : MethodName)) ∈ WS := ws5 (i := 221) rfl rfl
theorem wk_5_223 : (Cond.instanceMethod ({ cls := "GuardsLookLeftModel", name := "allGuards", desc := "()I" } : MethodName)) ∈ WS := ws5 (i := 223) rfl rfl
theorem wk_5_224 : (Cond.code ({ cls := "GuardsLookLeftModel", name := "allGuards", desc := "()I" } : MethodName) prog_12_method_50_code (1 : Nat) (Option.some ClassFile.FieldType.int)) ∈ WS := ws5 (i := 224) rfl rfl
theorem wk_5_225 : (Cond.methodLink "GuardsLookLeftModel" (246 : Nat) ({ cls := "GuardsLookLeftModel", name := "seenAt", desc := "(II)J" } : MethodName)) ∈ WS := ws5 (i := 225) rfl rfl
theorem wk_5_227 : (Cond.instanceMethod ({ cls := "GuardsLookLeftModel", name := "seenAt", desc := "(II)J" } : MethodName)) ∈ WS := ws5 (i := 227) rfl rfl
theorem wk_5_228 : (Cond.code ({ cls := "GuardsLookLeftModel", name := "seenAt", desc := "(II)J" } : MethodName) prog_12_method_49_code (6 : Nat) (Option.some ClassFile.FieldType.long)) ∈ WS := ws5 (i := 228) rfl rfl
theorem wk_5_229 : (Cond.methodLink "GuardsLookLeftLaw" (84 : Nat) ({ cls := "GuardsLookLeftModel", name := "alone", desc := "(I)I" } : MethodName)) ∈ WS := ws5 (i := 229) rfl rfl
theorem wk_5_230 : (Cond.instanceMethod ({ cls := "GuardsLookLeftModel", name := "alone", desc := "(I)I" } : MethodName)) ∈ WS := ws5 (i := 230) rfl rfl
theorem wk_5_231 : (Cond.selects "GuardsLookLeftModel" ({ cls := "GuardsLookLeftModel", name := "alone", desc := "(I)I" } : MethodName) ({ cls := "GuardsLookLeftModel", name := "alone", desc := "(I)I" } : MethodName)) ∈ WS := ws5 (i := 231) rfl rfl
theorem wk_5_232 : (Cond.code ({ cls := "GuardsLookLeftModel", name := "alone", desc := "(I)I" } : MethodName) prog_12_method_55_code (2 : Nat) (Option.some ClassFile.FieldType.int)) ∈ WS := ws5 (i := 232) rfl rfl
theorem wk_5_233 : (Cond.methodLink "GuardsLookLeftModel" (249 : Nat) ({ cls := "GuardsLookLeftModel", name := "aloneBy", desc := "(II)I" } : MethodName)) ∈ WS := ws5 (i := 233) rfl rfl
theorem wk_5_235 : (Cond.instanceMethod ({ cls := "GuardsLookLeftModel", name := "aloneBy", desc := "(II)I" } : MethodName)) ∈ WS := ws5 (i := 235) rfl rfl
theorem wk_5_236 : (Cond.code ({ cls := "GuardsLookLeftModel", name := "aloneBy", desc := "(II)I" } : MethodName) prog_12_method_53_code (5 : Nat) (Option.some ClassFile.FieldType.int)) ∈ WS := ws5 (i := 236) rfl rfl
theorem wk_5_237 : (Cond.methodLink "GuardsLookLeftLaw" (88 : Nat) ({ cls := "GuardsLookLeftModel", name := "unseen", desc := "(I)I" } : MethodName)) ∈ WS := ws5 (i := 237) rfl rfl
theorem wk_5_238 : (Cond.instanceMethod ({ cls := "GuardsLookLeftModel", name := "unseen", desc := "(I)I" } : MethodName)) ∈ WS := ws5 (i := 238) rfl rfl
theorem wk_5_239 : (Cond.selects "GuardsLookLeftModel" ({ cls := "GuardsLookLeftModel", name := "unseen", desc := "(I)I" } : MethodName) ({ cls := "GuardsLookLeftModel", name := "unseen", desc := "(I)I" } : MethodName)) ∈ WS := ws5 (i := 239) rfl rfl
theorem wk_6_0 : (Cond.code ({ cls := "GuardsLookLeftModel", name := "unseen", desc := "(I)I" } : MethodName) prog_12_method_56_code (2 : Nat) (Option.some ClassFile.FieldType.int)) ∈ WS := ws6 (i := 0) rfl rfl
theorem wk_6_1 : (Cond.methodLink "GuardsLookLeftModel" (252 : Nat) ({ cls := "GuardsLookLeftModel", name := "alone", desc := "(I)I" } : MethodName)) ∈ WS := ws6 (i := 1) rfl rfl
theorem wk_6_2 : (Cond.methodLink "GuardsLookLeftModel" (255 : Nat) ({ cls := "GuardsLookLeftModel", name := "gapOf", desc := "(I)I" } : MethodName)) ∈ WS := ws6 (i := 2) rfl rfl
theorem wk_6_3 : (Cond.static ({ cls := "GuardsLookLeftModel", name := "gapOf", desc := "(I)I" } : MethodName)) ∈ WS := ws6 (i := 3) rfl rfl
theorem wk_6_4 : (Cond.code ({ cls := "GuardsLookLeftModel", name := "gapOf", desc := "(I)I" } : MethodName) prog_12_method_54_code (4 : Nat) (Option.some ClassFile.FieldType.int)) ∈ WS := ws6 (i := 4) rfl rfl
theorem wk_6_5 : (Cond.methodLink "GuardsLookLeftLaw" (92 : Nat) ({ cls := "GuardsLookLeftModel", name := "worst", desc := "(I)I" } : MethodName)) ∈ WS := ws6 (i := 5) rfl rfl
theorem wk_6_6 : (Cond.instanceMethod ({ cls := "GuardsLookLeftModel", name := "worst", desc := "(I)I" } : MethodName)) ∈ WS := ws6 (i := 6) rfl rfl
theorem wk_6_7 : (Cond.selects "GuardsLookLeftModel" ({ cls := "GuardsLookLeftModel", name := "worst", desc := "(I)I" } : MethodName) ({ cls := "GuardsLookLeftModel", name := "worst", desc := "(I)I" } : MethodName)) ∈ WS := ws6 (i := 7) rfl rfl
theorem wk_6_8 : (Cond.code ({ cls := "GuardsLookLeftModel", name := "worst", desc := "(I)I" } : MethodName) prog_12_method_59_code (2 : Nat) (Option.some ClassFile.FieldType.int)) ∈ WS := ws6 (i := 8) rfl rfl
theorem wk_6_9 : (Cond.methodLink "GuardsLookLeftModel" (267 : Nat) ({ cls := "GuardsLookLeftModel", name := "findsGaps", desc := "()V" } : MethodName)) ∈ WS := ws6 (i := 9) rfl rfl
theorem wk_6_11 : (Cond.instanceMethod ({ cls := "GuardsLookLeftModel", name := "findsGaps", desc := "()V" } : MethodName)) ∈ WS := ws6 (i := 11) rfl rfl
theorem wk_6_12 : (Cond.code ({ cls := "GuardsLookLeftModel", name := "findsGaps", desc := "()V" } : MethodName) prog_12_method_57_code (4 : Nat) (Option.none : Option ClassFile.FieldType)) ∈ WS := ws6 (i := 12) rfl rfl
theorem wk_6_13 : (Cond.methodLink "GuardsLookLeftModel" (270 : Nat) ({ cls := "GuardsLookLeftModel", name := "worthUnseen", desc := "()I" } : MethodName)) ∈ WS := ws6 (i := 13) rfl rfl
theorem wk_6_15 : (Cond.instanceMethod ({ cls := "GuardsLookLeftModel", name := "worthUnseen", desc := "()I" } : MethodName)) ∈ WS := ws6 (i := 15) rfl rfl
theorem wk_6_16 : (Cond.code ({ cls := "GuardsLookLeftModel", name := "worthUnseen", desc := "()I" } : MethodName) prog_12_method_58_code (6 : Nat) (Option.some ClassFile.FieldType.int)) ∈ WS := ws6 (i := 16) rfl rfl
theorem wk_6_17 : (Cond.methodLink "GuardsLookLeftLaw" (96 : Nat) ({ cls := "GuardsLookLeftModel", name := "soon", desc := "(III)I" } : MethodName)) ∈ WS := ws6 (i := 17) rfl rfl
theorem wk_6_18 : (Cond.instanceMethod ({ cls := "GuardsLookLeftModel", name := "soon", desc := "(III)I" } : MethodName)) ∈ WS := ws6 (i := 18) rfl rfl
theorem wk_6_19 : (Cond.selects "GuardsLookLeftModel" ({ cls := "GuardsLookLeftModel", name := "soon", desc := "(III)I" } : MethodName) ({ cls := "GuardsLookLeftModel", name := "soon", desc := "(III)I" } : MethodName)) ∈ WS := ws6 (i := 19) rfl rfl
theorem wk_6_20 : (Cond.code ({ cls := "GuardsLookLeftModel", name := "soon", desc := "(III)I" } : MethodName) prog_12_method_63_code (4 : Nat) (Option.some ClassFile.FieldType.int)) ∈ WS := ws6 (i := 20) rfl rfl
theorem wk_6_21 : (Cond.methodLink "GuardsLookLeftModel" (281 : Nat) ({ cls := "GuardsLookLeftModel", name := "sneaks", desc := "(II)V" } : MethodName)) ∈ WS := ws6 (i := 21) rfl rfl
theorem wk_6_23 : (Cond.instanceMethod ({ cls := "GuardsLookLeftModel", name := "sneaks", desc := "(II)V" } : MethodName)) ∈ WS := ws6 (i := 23) rfl rfl
theorem wk_6_24 : (Cond.code ({ cls := "GuardsLookLeftModel", name := "sneaks", desc := "(II)V" } : MethodName) prog_12_method_61_code (6 : Nat) (Option.none : Option ClassFile.FieldType)) ∈ WS := ws6 (i := 24) rfl rfl
theorem wk_6_25 : (Cond.methodLink "GuardsLookLeftModel" (277 : Nat) ({ cls := "GuardsLookLeftModel", name := "spread", desc := "(J)J" } : MethodName)) ∈ WS := ws6 (i := 25) rfl rfl
theorem wk_6_27 : (Cond.instanceMethod ({ cls := "GuardsLookLeftModel", name := "spread", desc := "(J)J" } : MethodName)) ∈ WS := ws6 (i := 27) rfl rfl
theorem wk_6_28 : (Cond.code ({ cls := "GuardsLookLeftModel", name := "spread", desc := "(J)J" } : MethodName) prog_12_method_60_code (9 : Nat) (Option.some ClassFile.FieldType.long)) ∈ WS := ws6 (i := 28) rfl rfl
theorem wk_6_29 : (Cond.constantLong "GuardsLookLeftModel" (273 : Nat) (-34905131041 : Int64)) ∈ WS := ws6 (i := 29) rfl rfl
theorem wk_6_30 : (Cond.constantLong "GuardsLookLeftModel" (275 : Nat) (-1090785346 : Int64)) ∈ WS := ws6 (i := 30) rfl rfl
theorem wk_6_31 : (Cond.methodLink "GuardsLookLeftModel" (285 : Nat) ({ cls := "GuardsLookLeftModel", name := "soonest", desc := "(I)I" } : MethodName)) ∈ WS := ws6 (i := 31) rfl rfl
theorem wk_6_33 : (Cond.instanceMethod ({ cls := "GuardsLookLeftModel", name := "soonest", desc := "(I)I" } : MethodName)) ∈ WS := ws6 (i := 33) rfl rfl
theorem wk_6_34 : (Cond.code ({ cls := "GuardsLookLeftModel", name := "soonest", desc := "(I)I" } : MethodName) prog_12_method_62_code (3 : Nat) (Option.some ClassFile.FieldType.int)) ∈ WS := ws6 (i := 34) rfl rfl
theorem wk_6_35 : (Cond.methodLink "GuardsLookLeftLaw" (100 : Nat) ({ cls := "GuardsLookLeftModel", name := "path", desc := "(IIII)I" } : MethodName)) ∈ WS := ws6 (i := 35) rfl rfl
theorem wk_6_36 : (Cond.instanceMethod ({ cls := "GuardsLookLeftModel", name := "path", desc := "(IIII)I" } : MethodName)) ∈ WS := ws6 (i := 36) rfl rfl
theorem wk_6_37 : (Cond.selects "GuardsLookLeftModel" ({ cls := "GuardsLookLeftModel", name := "path", desc := "(IIII)I" } : MethodName) ({ cls := "GuardsLookLeftModel", name := "path", desc := "(IIII)I" } : MethodName)) ∈ WS := ws6 (i := 37) rfl rfl
theorem wk_6_38 : (Cond.code ({ cls := "GuardsLookLeftModel", name := "path", desc := "(IIII)I" } : MethodName) prog_12_method_65_code (8 : Nat) (Option.some ClassFile.FieldType.int)) ∈ WS := ws6 (i := 38) rfl rfl
theorem wk_6_39 : (Cond.methodLink "GuardsLookLeftModel" (288 : Nat) ({ cls := "GuardsLookLeftModel", name := "was", desc := "(II)I" } : MethodName)) ∈ WS := ws6 (i := 39) rfl rfl
theorem wk_6_41 : (Cond.instanceMethod ({ cls := "GuardsLookLeftModel", name := "was", desc := "(II)I" } : MethodName)) ∈ WS := ws6 (i := 41) rfl rfl
theorem wk_6_42 : (Cond.code ({ cls := "GuardsLookLeftModel", name := "was", desc := "(II)I" } : MethodName) prog_12_method_64_code (5 : Nat) (Option.some ClassFile.FieldType.int)) ∈ WS := ws6 (i := 42) rfl rfl
theorem wk_6_43 : (Cond.methodLink "GuardsLookLeftLaw" (105 : Nat) ({ cls := "GuardsLookLeftModel", name := "hides", desc := "(III)J" } : MethodName)) ∈ WS := ws6 (i := 43) rfl rfl
theorem wk_6_44 : (Cond.instanceMethod ({ cls := "GuardsLookLeftModel", name := "hides", desc := "(III)J" } : MethodName)) ∈ WS := ws6 (i := 44) rfl rfl
theorem wk_6_45 : (Cond.selects "GuardsLookLeftModel" ({ cls := "GuardsLookLeftModel", name := "hides", desc := "(III)J" } : MethodName) ({ cls := "GuardsLookLeftModel", name := "hides", desc := "(III)J" } : MethodName)) ∈ WS := ws6 (i := 45) rfl rfl
theorem wk_6_46 : (Cond.code ({ cls := "GuardsLookLeftModel", name := "hides", desc := "(III)J" } : MethodName) prog_12_method_66_code (4 : Nat) (Option.some ClassFile.FieldType.long)) ∈ WS := ws6 (i := 46) rfl rfl
theorem wk_6_47 : (Cond.methodLink "GuardsLookLeftLaw" (109 : Nat) ({ cls := "GuardsLookLeftModel", name := "when", desc := "(II)I" } : MethodName)) ∈ WS := ws6 (i := 47) rfl rfl
theorem wk_6_48 : (Cond.instanceMethod ({ cls := "GuardsLookLeftModel", name := "when", desc := "(II)I" } : MethodName)) ∈ WS := ws6 (i := 48) rfl rfl
theorem wk_6_49 : (Cond.selects "GuardsLookLeftModel" ({ cls := "GuardsLookLeftModel", name := "when", desc := "(II)I" } : MethodName) ({ cls := "GuardsLookLeftModel", name := "when", desc := "(II)I" } : MethodName)) ∈ WS := ws6 (i := 49) rfl rfl
theorem wk_6_50 : (Cond.code ({ cls := "GuardsLookLeftModel", name := "when", desc := "(II)I" } : MethodName) prog_12_method_68_code (3 : Nat) (Option.some ClassFile.FieldType.int)) ∈ WS := ws6 (i := 50) rfl rfl
theorem wk_6_51 : (Cond.methodLink "GuardsLookLeftModel" (291 : Nat) ({ cls := "GuardsLookLeftModel", name := "whenFrom", desc := "(II)I" } : MethodName)) ∈ WS := ws6 (i := 51) rfl rfl
theorem wk_6_53 : (Cond.instanceMethod ({ cls := "GuardsLookLeftModel", name := "whenFrom", desc := "(II)I" } : MethodName)) ∈ WS := ws6 (i := 53) rfl rfl
theorem wk_6_54 : (Cond.code ({ cls := "GuardsLookLeftModel", name := "whenFrom", desc := "(II)I" } : MethodName) prog_12_method_67_code (5 : Nat) (Option.some ClassFile.FieldType.int)) ∈ WS := ws6 (i := 54) rfl rfl
theorem wk_6_55 : (Cond.methodLink "GuardsLookLeftLaw" (113 : Nat) ({ cls := "GuardsLookLeftModel", name := "more", desc := "(III)I" } : MethodName)) ∈ WS := ws6 (i := 55) rfl rfl
theorem wk_6_56 : (Cond.instanceMethod ({ cls := "GuardsLookLeftModel", name := "more", desc := "(III)I" } : MethodName)) ∈ WS := ws6 (i := 56) rfl rfl
theorem wk_6_57 : (Cond.selects "GuardsLookLeftModel" ({ cls := "GuardsLookLeftModel", name := "more", desc := "(III)I" } : MethodName) ({ cls := "GuardsLookLeftModel", name := "more", desc := "(III)I" } : MethodName)) ∈ WS := ws6 (i := 57) rfl rfl
theorem wk_6_58 : (Cond.code ({ cls := "GuardsLookLeftModel", name := "more", desc := "(III)I" } : MethodName) prog_12_method_69_code (11 : Nat) (Option.some ClassFile.FieldType.int)) ∈ WS := ws6 (i := 58) rfl rfl
theorem wk_6_59 : (Cond.methodLink "GuardsLookLeftLaw" (117 : Nat) ({ cls := "GuardsLookLeftModel", name := "shift", desc := "(II)I" } : MethodName)) ∈ WS := ws6 (i := 59) rfl rfl
theorem wk_6_60 : (Cond.instanceMethod ({ cls := "GuardsLookLeftModel", name := "shift", desc := "(II)I" } : MethodName)) ∈ WS := ws6 (i := 60) rfl rfl
theorem wk_6_61 : (Cond.selects "GuardsLookLeftModel" ({ cls := "GuardsLookLeftModel", name := "shift", desc := "(II)I" } : MethodName) ({ cls := "GuardsLookLeftModel", name := "shift", desc := "(II)I" } : MethodName)) ∈ WS := ws6 (i := 61) rfl rfl
theorem wk_6_62 : (Cond.code ({ cls := "GuardsLookLeftModel", name := "shift", desc := "(II)I" } : MethodName) prog_12_method_70_code (7 : Nat) (Option.some ClassFile.FieldType.int)) ∈ WS := ws6 (i := 62) rfl rfl
theorem wk_6_63 : (Cond.methodLink "GuardsLookLeftLaw" (122 : Nat) ({ cls := "GuardsLookLeftModel", name := "holds", desc := "(JI)I" } : MethodName)) ∈ WS := ws6 (i := 63) rfl rfl
theorem wk_6_64 : (Cond.instanceMethod ({ cls := "GuardsLookLeftModel", name := "holds", desc := "(JI)I" } : MethodName)) ∈ WS := ws6 (i := 64) rfl rfl
theorem wk_6_65 : (Cond.selects "GuardsLookLeftModel" ({ cls := "GuardsLookLeftModel", name := "holds", desc := "(JI)I" } : MethodName) ({ cls := "GuardsLookLeftModel", name := "holds", desc := "(JI)I" } : MethodName)) ∈ WS := ws6 (i := 65) rfl rfl
theorem wk_6_66 : (Cond.code ({ cls := "GuardsLookLeftModel", name := "holds", desc := "(JI)I" } : MethodName) prog_12_method_72_code (4 : Nat) (Option.some ClassFile.FieldType.int)) ∈ WS := ws6 (i := 66) rfl rfl
theorem wk_6_67 : (Cond.methodLink "GuardsLookLeftModel" (294 : Nat) ({ cls := "GuardsLookLeftModel", name := "holdsBy", desc := "(JII)Z" } : MethodName)) ∈ WS := ws6 (i := 67) rfl rfl
theorem wk_6_69 : (Cond.instanceMethod ({ cls := "GuardsLookLeftModel", name := "holdsBy", desc := "(JII)Z" } : MethodName)) ∈ WS := ws6 (i := 69) rfl rfl
theorem wk_6_70 : (Cond.code ({ cls := "GuardsLookLeftModel", name := "holdsBy", desc := "(JII)Z" } : MethodName) prog_12_method_71_code (6 : Nat) (Option.some ClassFile.FieldType.boolean)) ∈ WS := ws6 (i := 70) rfl rfl
theorem wk_6_71 : (Cond.methodLink "GuardsLookLeftLaw" (126 : Nat) ({ cls := "GuardsLookLeftModel", name := "bribes", desc := "(JI)I" } : MethodName)) ∈ WS := ws6 (i := 71) rfl rfl
theorem wk_6_72 : (Cond.instanceMethod ({ cls := "GuardsLookLeftModel", name := "bribes", desc := "(JI)I" } : MethodName)) ∈ WS := ws6 (i := 72) rfl rfl
theorem wk_6_73 : (Cond.selects "GuardsLookLeftModel" ({ cls := "GuardsLookLeftModel", name := "bribes", desc := "(JI)I" } : MethodName) ({ cls := "GuardsLookLeftModel", name := "bribes", desc := "(JI)I" } : MethodName)) ∈ WS := ws6 (i := 73) rfl rfl
theorem wk_6_74 : (Cond.code ({ cls := "GuardsLookLeftModel", name := "bribes", desc := "(JI)I" } : MethodName) prog_12_method_73_code (6 : Nat) (Option.some ClassFile.FieldType.int)) ∈ WS := ws6 (i := 74) rfl rfl
theorem wk_6_75 : (Cond.methodLink "GuardsLookLeftLaw" (131 : Nat) ({ cls := "GuardsLookLeftModel", name := "fewest", desc := "(JII)I" } : MethodName)) ∈ WS := ws6 (i := 75) rfl rfl
theorem wk_6_76 : (Cond.instanceMethod ({ cls := "GuardsLookLeftModel", name := "fewest", desc := "(JII)I" } : MethodName)) ∈ WS := ws6 (i := 76) rfl rfl
theorem wk_6_77 : (Cond.selects "GuardsLookLeftModel" ({ cls := "GuardsLookLeftModel", name := "fewest", desc := "(JII)I" } : MethodName) ({ cls := "GuardsLookLeftModel", name := "fewest", desc := "(JII)I" } : MethodName)) ∈ WS := ws6 (i := 77) rfl rfl
theorem wk_6_78 : (Cond.code ({ cls := "GuardsLookLeftModel", name := "fewest", desc := "(JII)I" } : MethodName) prog_12_method_74_code (8 : Nat) (Option.some ClassFile.FieldType.int)) ∈ WS := ws6 (i := 78) rfl rfl
theorem wk_6_79 : (Cond.methodLink "GuardsLookLeftLaw" (135 : Nat) ({ cls := "GuardsLookLeftModel", name := "judge", desc := "(II)I" } : MethodName)) ∈ WS := ws6 (i := 79) rfl rfl
theorem wk_6_80 : (Cond.instanceMethod ({ cls := "GuardsLookLeftModel", name := "judge", desc := "(II)I" } : MethodName)) ∈ WS := ws6 (i := 80) rfl rfl
theorem wk_6_81 : (Cond.selects "GuardsLookLeftModel" ({ cls := "GuardsLookLeftModel", name := "judge", desc := "(II)I" } : MethodName) ({ cls := "GuardsLookLeftModel", name := "judge", desc := "(II)I" } : MethodName)) ∈ WS := ws6 (i := 81) rfl rfl
theorem wk_6_82 : (Cond.code ({ cls := "GuardsLookLeftModel", name := "judge", desc := "(II)I" } : MethodName) prog_12_method_77_code (4 : Nat) (Option.some ClassFile.FieldType.int)) ∈ WS := ws6 (i := 82) rfl rfl
theorem wk_6_83 : (Cond.methodLink "GuardsLookLeftModel" (298 : Nat) ({ cls := "GuardsLookLeftModel", name := "sheetWrong", desc := "(II)I" } : MethodName)) ∈ WS := ws6 (i := 83) rfl rfl
theorem wk_6_85 : (Cond.instanceMethod ({ cls := "GuardsLookLeftModel", name := "sheetWrong", desc := "(II)I" } : MethodName)) ∈ WS := ws6 (i := 85) rfl rfl
theorem wk_6_86 : (Cond.code ({ cls := "GuardsLookLeftModel", name := "sheetWrong", desc := "(II)I" } : MethodName) prog_12_method_75_code (3 : Nat) (Option.some ClassFile.FieldType.int)) ∈ WS := ws6 (i := 86) rfl rfl
theorem wk_6_87 : (Cond.methodLink "GuardsLookLeftModel" (301 : Nat) ({ cls := "GuardsLookLeftModel", name := "unlike", desc := "(III)I" } : MethodName)) ∈ WS := ws6 (i := 87) rfl rfl
theorem wk_6_89 : (Cond.instanceMethod ({ cls := "GuardsLookLeftModel", name := "unlike", desc := "(III)I" } : MethodName)) ∈ WS := ws6 (i := 89) rfl rfl
theorem wk_6_90 : (Cond.code ({ cls := "GuardsLookLeftModel", name := "unlike", desc := "(III)I" } : MethodName) prog_12_method_76_code (6 : Nat) (Option.some ClassFile.FieldType.int)) ∈ WS := ws6 (i := 90) rfl rfl
theorem wk_6_91 : (Cond.methodLink "GuardsLookLeftLaw" (139 : Nat) ({ cls := "GuardsLookLeftModel", name := "which", desc := "(I)J" } : MethodName)) ∈ WS := ws6 (i := 91) rfl rfl
theorem wk_6_92 : (Cond.instanceMethod ({ cls := "GuardsLookLeftModel", name := "which", desc := "(I)J" } : MethodName)) ∈ WS := ws6 (i := 92) rfl rfl
theorem wk_6_93 : (Cond.selects "GuardsLookLeftModel" ({ cls := "GuardsLookLeftModel", name := "which", desc := "(I)J" } : MethodName) ({ cls := "GuardsLookLeftModel", name := "which", desc := "(I)J" } : MethodName)) ∈ WS := ws6 (i := 93) rfl rfl
theorem wk_6_94 : (Cond.code ({ cls := "GuardsLookLeftModel", name := "which", desc := "(I)J" } : MethodName) prog_12_method_78_code (5 : Nat) (Option.some ClassFile.FieldType.long)) ∈ WS := ws6 (i := 94) rfl rfl
theorem wk_6_95 : (Cond.methodLink "GuardsLookLeftLaw" (143 : Nat) ({ cls := "GuardsLookLeftModel", name := "laws", desc := "(II)I" } : MethodName)) ∈ WS := ws6 (i := 95) rfl rfl
theorem wk_6_96 : (Cond.instanceMethod ({ cls := "GuardsLookLeftModel", name := "laws", desc := "(II)I" } : MethodName)) ∈ WS := ws6 (i := 96) rfl rfl
theorem wk_6_97 : (Cond.selects "GuardsLookLeftModel" ({ cls := "GuardsLookLeftModel", name := "laws", desc := "(II)I" } : MethodName) ({ cls := "GuardsLookLeftModel", name := "laws", desc := "(II)I" } : MethodName)) ∈ WS := ws6 (i := 97) rfl rfl
theorem wk_6_98 : (Cond.code ({ cls := "GuardsLookLeftModel", name := "laws", desc := "(II)I" } : MethodName) prog_12_method_79_code (7 : Nat) (Option.some ClassFile.FieldType.int)) ∈ WS := ws6 (i := 98) rfl rfl
theorem wk_6_99 : (Cond.methodLink "GuardsLookLeftLaw" (147 : Nat) ({ cls := "GuardsLookLeftModel", name := "gone", desc := "(II)I" } : MethodName)) ∈ WS := ws6 (i := 99) rfl rfl
theorem wk_6_100 : (Cond.instanceMethod ({ cls := "GuardsLookLeftModel", name := "gone", desc := "(II)I" } : MethodName)) ∈ WS := ws6 (i := 100) rfl rfl
theorem wk_6_101 : (Cond.selects "GuardsLookLeftModel" ({ cls := "GuardsLookLeftModel", name := "gone", desc := "(II)I" } : MethodName) ({ cls := "GuardsLookLeftModel", name := "gone", desc := "(II)I" } : MethodName)) ∈ WS := ws6 (i := 101) rfl rfl
theorem wk_6_102 : (Cond.code ({ cls := "GuardsLookLeftModel", name := "gone", desc := "(II)I" } : MethodName) prog_12_method_80_code (5 : Nat) (Option.some ClassFile.FieldType.int)) ∈ WS := ws6 (i := 102) rfl rfl
theorem wk_6_103 : (Cond.methodLink "GuardsLookLeftLaw" (151 : Nat) ({ cls := "GuardsLookLeftModel", name := "film", desc := "(II)I" } : MethodName)) ∈ WS := ws6 (i := 103) rfl rfl
theorem wk_6_104 : (Cond.instanceMethod ({ cls := "GuardsLookLeftModel", name := "film", desc := "(II)I" } : MethodName)) ∈ WS := ws6 (i := 104) rfl rfl
theorem wk_6_105 : (Cond.selects "GuardsLookLeftModel" ({ cls := "GuardsLookLeftModel", name := "film", desc := "(II)I" } : MethodName) ({ cls := "GuardsLookLeftModel", name := "film", desc := "(II)I" } : MethodName)) ∈ WS := ws6 (i := 105) rfl rfl
theorem wk_6_106 : (Cond.code ({ cls := "GuardsLookLeftModel", name := "film", desc := "(II)I" } : MethodName) prog_12_method_81_code (5 : Nat) (Option.some ClassFile.FieldType.int)) ∈ WS := ws6 (i := 106) rfl rfl
theorem wk_6_107 : (Cond.methodLink "GuardsLookLeftLaw" (155 : Nat) ({ cls := "GuardsLookLeftModel", name := "drawn", desc := "(I)I" } : MethodName)) ∈ WS := ws6 (i := 107) rfl rfl
theorem wk_6_108 : (Cond.instanceMethod ({ cls := "GuardsLookLeftModel", name := "drawn", desc := "(I)I" } : MethodName)) ∈ WS := ws6 (i := 108) rfl rfl
theorem wk_6_109 : (Cond.selects "GuardsLookLeftModel" ({ cls := "GuardsLookLeftModel", name := "drawn", desc := "(I)I" } : MethodName) ({ cls := "GuardsLookLeftModel", name := "drawn", desc := "(I)I" } : MethodName)) ∈ WS := ws6 (i := 109) rfl rfl
theorem wk_6_110 : (Cond.code ({ cls := "GuardsLookLeftModel", name := "drawn", desc := "(I)I" } : MethodName) prog_12_method_84_code (2 : Nat) (Option.some ClassFile.FieldType.int)) ∈ WS := ws6 (i := 110) rfl rfl
theorem wk_6_111 : (Cond.methodLink "GuardsLookLeftModel" (311 : Nat) ({ cls := "GuardsLookLeftModel", name := "isSeed", desc := "(I)Z" } : MethodName)) ∈ WS := ws6 (i := 111) rfl rfl
theorem wk_6_112 : (Cond.static ({ cls := "GuardsLookLeftModel", name := "isSeed", desc := "(I)Z" } : MethodName)) ∈ WS := ws6 (i := 112) rfl rfl
theorem wk_6_113 : (Cond.code ({ cls := "GuardsLookLeftModel", name := "isSeed", desc := "(I)Z" } : MethodName) prog_12_method_83_code (1 : Nat) (Option.some ClassFile.FieldType.boolean)) ∈ WS := ws6 (i := 113) rfl rfl
theorem wk_6_114 : (Cond.constant "GuardsLookLeftModel" (310 : Nat) (99999 : Int32)) ∈ WS := ws6 (i := 114) rfl rfl
theorem wk_6_115 : (Cond.methodLink "GuardsLookLeftModel" (314 : Nat) ({ cls := "GuardsLookLeftModel", name := "worstBy", desc := "(I)I" } : MethodName)) ∈ WS := ws6 (i := 115) rfl rfl
theorem wk_6_117 : (Cond.instanceMethod ({ cls := "GuardsLookLeftModel", name := "worstBy", desc := "(I)I" } : MethodName)) ∈ WS := ws6 (i := 117) rfl rfl
theorem wk_6_118 : (Cond.code ({ cls := "GuardsLookLeftModel", name := "worstBy", desc := "(I)I" } : MethodName) prog_12_method_82_code (5 : Nat) (Option.some ClassFile.FieldType.int)) ∈ WS := ws6 (i := 118) rfl rfl
theorem wk_6_119 : (Cond.constantLong "GuardsLookLeftModel" (304 : Nat) (48271 : Int64)) ∈ WS := ws6 (i := 119) rfl rfl
theorem wk_6_120 : (Cond.constantLong "GuardsLookLeftModel" (306 : Nat) (2147483647 : Int64)) ∈ WS := ws6 (i := 120) rfl rfl
theorem wk_6_121 : (Cond.constantLong "GuardsLookLeftModel" (308 : Nat) (24 : Int64)) ∈ WS := ws6 (i := 121) rfl rfl
theorem wk_6_122 : (Cond.methodLink "GuardsLookLeftLaw" (159 : Nat) ({ cls := "GuardsLookLeftModel", name := "mean", desc := "(III)J" } : MethodName)) ∈ WS := ws6 (i := 122) rfl rfl
theorem wk_6_123 : (Cond.instanceMethod ({ cls := "GuardsLookLeftModel", name := "mean", desc := "(III)J" } : MethodName)) ∈ WS := ws6 (i := 123) rfl rfl
theorem wk_6_124 : (Cond.selects "GuardsLookLeftModel" ({ cls := "GuardsLookLeftModel", name := "mean", desc := "(III)J" } : MethodName) ({ cls := "GuardsLookLeftModel", name := "mean", desc := "(III)J" } : MethodName)) ∈ WS := ws6 (i := 124) rfl rfl
theorem wk_6_125 : (Cond.code ({ cls := "GuardsLookLeftModel", name := "mean", desc := "(III)J" } : MethodName) prog_12_method_86_code (7 : Nat) (Option.some ClassFile.FieldType.long)) ∈ WS := ws6 (i := 125) rfl rfl
theorem wk_6_126 : (Cond.methodLink "GuardsLookLeftModel" (317 : Nat) ({ cls := "GuardsLookLeftModel", name := "lowest", desc := "(JJI)J" } : MethodName)) ∈ WS := ws6 (i := 126) rfl rfl
theorem wk_6_127 : (Cond.static ({ cls := "GuardsLookLeftModel", name := "lowest", desc := "(JJI)J" } : MethodName)) ∈ WS := ws6 (i := 127) rfl rfl
theorem wk_6_128 : (Cond.code ({ cls := "GuardsLookLeftModel", name := "lowest", desc := "(JJI)J" } : MethodName) prog_12_method_85_code (11 : Nat) (Option.some ClassFile.FieldType.long)) ∈ WS := ws6 (i := 128) rfl rfl
theorem wk_6_129 : (Cond.methodLink "GuardsLookLeftLaw" (163 : Nat) ({ cls := "GuardsLookLeftModel", name := "image", desc := "()I" } : MethodName)) ∈ WS := ws6 (i := 129) rfl rfl
theorem wk_6_130 : (Cond.instanceMethod ({ cls := "GuardsLookLeftModel", name := "image", desc := "()I" } : MethodName)) ∈ WS := ws6 (i := 130) rfl rfl
theorem wk_6_131 : (Cond.selects "GuardsLookLeftModel" ({ cls := "GuardsLookLeftModel", name := "image", desc := "()I" } : MethodName) ({ cls := "GuardsLookLeftModel", name := "image", desc := "()I" } : MethodName)) ∈ WS := ws6 (i := 131) rfl rfl
theorem wk_6_132 : (Cond.code ({ cls := "GuardsLookLeftModel", name := "image", desc := "()I" } : MethodName) prog_12_method_87_code (2 : Nat) (Option.some ClassFile.FieldType.int)) ∈ WS := ws6 (i := 132) rfl rfl
theorem wk_6_133 : (Cond.methodLink "GuardsLookLeftLaw" (167 : Nat) ({ cls := "GuardsLookLeftModel", name := "back", desc := "()I" } : MethodName)) ∈ WS := ws6 (i := 133) rfl rfl
theorem wk_6_134 : (Cond.instanceMethod ({ cls := "GuardsLookLeftModel", name := "back", desc := "()I" } : MethodName)) ∈ WS := ws6 (i := 134) rfl rfl
theorem wk_6_135 : (Cond.selects "GuardsLookLeftModel" ({ cls := "GuardsLookLeftModel", name := "back", desc := "()I" } : MethodName) ({ cls := "GuardsLookLeftModel", name := "back", desc := "()I" } : MethodName)) ∈ WS := ws6 (i := 135) rfl rfl
theorem wk_6_136 : (Cond.code ({ cls := "GuardsLookLeftModel", name := "back", desc := "()I" } : MethodName) prog_12_method_88_code (2 : Nat) (Option.some ClassFile.FieldType.int)) ∈ WS := ws6 (i := 136) rfl rfl
theorem wk_6_137 : (Cond.methodLink "GuardsLookLeftLaw" (171 : Nat) ({ cls := "GuardsLookLeftModel", name := "sheet", desc := "(III)I" } : MethodName)) ∈ WS := ws6 (i := 137) rfl rfl
theorem wk_6_138 : (Cond.instanceMethod ({ cls := "GuardsLookLeftModel", name := "sheet", desc := "(III)I" } : MethodName)) ∈ WS := ws6 (i := 138) rfl rfl
theorem wk_6_139 : (Cond.selects "GuardsLookLeftModel" ({ cls := "GuardsLookLeftModel", name := "sheet", desc := "(III)I" } : MethodName) ({ cls := "GuardsLookLeftModel", name := "sheet", desc := "(III)I" } : MethodName)) ∈ WS := ws6 (i := 139) rfl rfl
theorem wk_6_140 : (Cond.code ({ cls := "GuardsLookLeftModel", name := "sheet", desc := "(III)I" } : MethodName) prog_12_method_89_code (5 : Nat) (Option.some ClassFile.FieldType.int)) ∈ WS := ws6 (i := 140) rfl rfl
theorem wk_6_141 : (Cond.methodLink "GuardsLookLeftLaw" (175 : Nat) ({ cls := "GuardsLookLeftModel", name := "cell", desc := "(III)I" } : MethodName)) ∈ WS := ws6 (i := 141) rfl rfl
theorem wk_6_142 : (Cond.instanceMethod ({ cls := "GuardsLookLeftModel", name := "cell", desc := "(III)I" } : MethodName)) ∈ WS := ws6 (i := 142) rfl rfl
theorem wk_6_143 : (Cond.selects "GuardsLookLeftModel" ({ cls := "GuardsLookLeftModel", name := "cell", desc := "(III)I" } : MethodName) ({ cls := "GuardsLookLeftModel", name := "cell", desc := "(III)I" } : MethodName)) ∈ WS := ws6 (i := 143) rfl rfl
theorem wk_6_144 : (Cond.code ({ cls := "GuardsLookLeftModel", name := "cell", desc := "(III)I" } : MethodName) prog_12_method_90_code (4 : Nat) (Option.some ClassFile.FieldType.int)) ∈ WS := ws6 (i := 144) rfl rfl
theorem wk_6_145 : (Cond.methodLink "GuardsLookLeftLaw" (179 : Nat) ({ cls := "GuardsLookLeftModel", name := "copy", desc := "(IIIII)I" } : MethodName)) ∈ WS := ws6 (i := 145) rfl rfl
theorem wk_6_146 : (Cond.instanceMethod ({ cls := "GuardsLookLeftModel", name := "copy", desc := "(IIIII)I" } : MethodName)) ∈ WS := ws6 (i := 146) rfl rfl
theorem wk_6_147 : (Cond.selects "GuardsLookLeftModel" ({ cls := "GuardsLookLeftModel", name := "copy", desc := "(IIIII)I" } : MethodName) ({ cls := "GuardsLookLeftModel", name := "copy", desc := "(IIIII)I" } : MethodName)) ∈ WS := ws6 (i := 147) rfl rfl
theorem wk_6_148 : (Cond.code ({ cls := "GuardsLookLeftModel", name := "copy", desc := "(IIIII)I" } : MethodName) prog_12_method_91_code (10 : Nat) (Option.some ClassFile.FieldType.int)) ∈ WS := ws6 (i := 148) rfl rfl
theorem wk_6_149 : (Cond.methodLink "GuardsLookLeftLaw" (183 : Nat) ({ cls := "GuardsLookLeftModel", name := "guardsBy", desc := "(IIII)I" } : MethodName)) ∈ WS := ws6 (i := 149) rfl rfl
theorem wk_6_150 : (Cond.instanceMethod ({ cls := "GuardsLookLeftModel", name := "guardsBy", desc := "(IIII)I" } : MethodName)) ∈ WS := ws6 (i := 150) rfl rfl
theorem wk_6_151 : (Cond.selects "GuardsLookLeftModel" ({ cls := "GuardsLookLeftModel", name := "guardsBy", desc := "(IIII)I" } : MethodName) ({ cls := "GuardsLookLeftModel", name := "guardsBy", desc := "(IIII)I" } : MethodName)) ∈ WS := ws6 (i := 151) rfl rfl
theorem wk_6_152 : (Cond.code ({ cls := "GuardsLookLeftModel", name := "guardsBy", desc := "(IIII)I" } : MethodName) prog_12_method_92_code (9 : Nat) (Option.some ClassFile.FieldType.int)) ∈ WS := ws6 (i := 152) rfl rfl
theorem wk_6_153 : (Cond.methodLink "GuardsLookLeftModel" (331 : Nat) ({ cls := "GuardsLookLeftModel", name := "guard", desc := "(IIII)I" } : MethodName)) ∈ WS := ws6 (i := 153) rfl rfl
theorem wk_6_154 : (Cond.methodLink "GuardsLookLeftLaw" (187 : Nat) ({ cls := "GuardsLookLeftModel", name := "taken", desc := "(II)I" } : MethodName)) ∈ WS := ws6 (i := 154) rfl rfl
theorem wk_6_155 : (Cond.instanceMethod ({ cls := "GuardsLookLeftModel", name := "taken", desc := "(II)I" } : MethodName)) ∈ WS := ws6 (i := 155) rfl rfl
theorem wk_6_156 : (Cond.selects "GuardsLookLeftModel" ({ cls := "GuardsLookLeftModel", name := "taken", desc := "(II)I" } : MethodName) ({ cls := "GuardsLookLeftModel", name := "taken", desc := "(II)I" } : MethodName)) ∈ WS := ws6 (i := 156) rfl rfl
theorem wk_6_157 : (Cond.code ({ cls := "GuardsLookLeftModel", name := "taken", desc := "(II)I" } : MethodName) prog_12_method_94_code (5 : Nat) (Option.some ClassFile.FieldType.int)) ∈ WS := ws6 (i := 157) rfl rfl
theorem wk_6_158 : (Cond.methodLink "GuardsLookLeftModel" (335 : Nat) ({ cls := "GuardsLookLeftModel", name := "isUnder", desc := "(II)Z" } : MethodName)) ∈ WS := ws6 (i := 158) rfl rfl
theorem wk_6_159 : (Cond.static ({ cls := "GuardsLookLeftModel", name := "isUnder", desc := "(II)Z" } : MethodName)) ∈ WS := ws6 (i := 159) rfl rfl
theorem wk_6_160 : (Cond.code ({ cls := "GuardsLookLeftModel", name := "isUnder", desc := "(II)Z" } : MethodName) prog_12_method_93_code (2 : Nat) (Option.some ClassFile.FieldType.boolean)) ∈ WS := ws6 (i := 160) rfl rfl
theorem wk_6_161 : (Cond.constantLong "GuardsLookLeftLaw" (13 : Nat) (4294967295 : Int64)) ∈ WS := ws6 (i := 161) rfl rfl
theorem wk_6_162 : (Cond.fieldLink "java/lang/String" (9 : Nat) "java/lang/String" "value" "[B") ∈ WS := ws6 (i := 162) rfl rfl
theorem wk_6_163 : (Cond.fieldLink "java/lang/String" (15 : Nat) "java/lang/String" "coder" "B") ∈ WS := ws6 (i := 163) rfl rfl
theorem wp_0 : Cond.selects "GuardsLookLeft$Reader" (⟨"GuardsLookLeft$Reader", "next", "()V"⟩ : MethodName) (⟨"GuardsLookLeft$Reader", "next", "()V"⟩ : MethodName) ∈ WS := wsP (i := 0) (q := ((⟨"GuardsLookLeft$Reader", "next", "()V"⟩ : MethodName), 9)) (by decide +kernel) rfl
theorem wp_1 : Cond.selects "GuardsLookLeft$Reader" (⟨"GuardsLookLeft$Reader", "takeWord", "()V"⟩ : MethodName) (⟨"GuardsLookLeft$Reader", "takeWord", "()V"⟩ : MethodName) ∈ WS := wsP (i := 1) (q := ((⟨"GuardsLookLeft$Reader", "takeWord", "()V"⟩ : MethodName), 9)) (by decide +kernel) rfl
theorem wp_2 : Cond.selects "GuardsLookLeft$Reader" (⟨"GuardsLookLeft$Reader", "nameAtHand", "()I"⟩ : MethodName) (⟨"GuardsLookLeft$Reader", "nameAtHand", "()I"⟩ : MethodName) ∈ WS := wsP (i := 2) (q := ((⟨"GuardsLookLeft$Reader", "nameAtHand", "()I"⟩ : MethodName), 9)) (by decide +kernel) rfl
theorem wp_3 : Cond.selects "GuardsLookLeft$Reader" (⟨"GuardsLookLeft$Reader", "isWord", "(Ljava/lang/String;)Z"⟩ : MethodName) (⟨"GuardsLookLeft$Reader", "isWord", "(Ljava/lang/String;)Z"⟩ : MethodName) ∈ WS := wsP (i := 3) (q := ((⟨"GuardsLookLeft$Reader", "isWord", "(Ljava/lang/String;)Z"⟩ : MethodName), 9)) (by decide +kernel) rfl
theorem wp_4 : Cond.selects "GuardsLookLeft$Reader" (⟨"GuardsLookLeft$Reader", "keyAtHand", "()I"⟩ : MethodName) (⟨"GuardsLookLeft$Reader", "keyAtHand", "()I"⟩ : MethodName) ∈ WS := wsP (i := 4) (q := ((⟨"GuardsLookLeft$Reader", "keyAtHand", "()I"⟩ : MethodName), 9)) (by decide +kernel) rfl
theorem wp_5 : Cond.selects "GuardsLookLeft$Reader" (⟨"GuardsLookLeft$Reader", "takeDigits", "()V"⟩ : MethodName) (⟨"GuardsLookLeft$Reader", "takeDigits", "()V"⟩ : MethodName) ∈ WS := wsP (i := 5) (q := ((⟨"GuardsLookLeft$Reader", "takeDigits", "()V"⟩ : MethodName), 9)) (by decide +kernel) rfl
theorem wp_6 : Cond.selects "GuardsLookLeft$Reader" (⟨"GuardsLookLeft$Reader", "readEither", "(I)Z"⟩ : MethodName) (⟨"GuardsLookLeft$Reader", "readEither", "(I)Z"⟩ : MethodName) ∈ WS := wsP (i := 6) (q := ((⟨"GuardsLookLeft$Reader", "readEither", "(I)Z"⟩ : MethodName), 9)) (by decide +kernel) rfl
theorem wp_7 : Cond.selects "GuardsLookLeft$Reader" (⟨"GuardsLookLeft$Reader", "readBoth", "(I)Z"⟩ : MethodName) (⟨"GuardsLookLeft$Reader", "readBoth", "(I)Z"⟩ : MethodName) ∈ WS := wsP (i := 7) (q := ((⟨"GuardsLookLeft$Reader", "readBoth", "(I)Z"⟩ : MethodName), 9)) (by decide +kernel) rfl
theorem wp_8 : Cond.selects "GuardsLookLeft$Reader" (⟨"GuardsLookLeft$Reader", "readNot", "(I)Z"⟩ : MethodName) (⟨"GuardsLookLeft$Reader", "readNot", "(I)Z"⟩ : MethodName) ∈ WS := wsP (i := 8) (q := ((⟨"GuardsLookLeft$Reader", "readNot", "(I)Z"⟩ : MethodName), 9)) (by decide +kernel) rfl
theorem wp_9 : Cond.selects "GuardsLookLeft$Reader" (⟨"GuardsLookLeft$Reader", "write", "(I)V"⟩ : MethodName) (⟨"GuardsLookLeft$Reader", "write", "(I)V"⟩ : MethodName) ∈ WS := wsP (i := 9) (q := ((⟨"GuardsLookLeft$Reader", "write", "(I)V"⟩ : MethodName), 9)) (by decide +kernel) rfl
theorem wp_10 : Cond.selects "GuardsLookLeft$Reader" (⟨"GuardsLookLeft$Reader", "readSum", "(I)Z"⟩ : MethodName) (⟨"GuardsLookLeft$Reader", "readSum", "(I)Z"⟩ : MethodName) ∈ WS := wsP (i := 10) (q := ((⟨"GuardsLookLeft$Reader", "readSum", "(I)Z"⟩ : MethodName), 9)) (by decide +kernel) rfl
theorem wp_11 : Cond.selects "GuardsLookLeft$Reader" (⟨"GuardsLookLeft$Reader", "readTerm", "(I)Z"⟩ : MethodName) (⟨"GuardsLookLeft$Reader", "readTerm", "(I)Z"⟩ : MethodName) ∈ WS := wsP (i := 11) (q := ((⟨"GuardsLookLeft$Reader", "readTerm", "(I)Z"⟩ : MethodName), 9)) (by decide +kernel) rfl
theorem wp_12 : Cond.selects "GuardsLookLeft$Reader" (⟨"GuardsLookLeft$Reader", "readOne", "(I)Z"⟩ : MethodName) (⟨"GuardsLookLeft$Reader", "readOne", "(I)Z"⟩ : MethodName) ∈ WS := wsP (i := 12) (q := ((⟨"GuardsLookLeft$Reader", "readOne", "(I)Z"⟩ : MethodName), 9)) (by decide +kernel) rfl
theorem wp_13 : Cond.selects "GuardsLookLeft$Texts" (⟨"GuardsLookLeft$Texts", "value", "(I)I"⟩ : MethodName) (⟨"GuardsLookLeft$Texts", "value", "(I)I"⟩ : MethodName) ∈ WS := wsP (i := 13) (q := ((⟨"GuardsLookLeft$Texts", "value", "(I)I"⟩ : MethodName), 6)) (by decide +kernel) rfl
theorem wp_14 : Cond.selects "GuardsLookLeft" (⟨"GuardsLookLeft", "isGuard", "(I)Z"⟩ : MethodName) (⟨"GuardsLookLeft", "isGuard", "(I)Z"⟩ : MethodName) ∈ WS := wsP (i := 14) (q := ((⟨"GuardsLookLeft", "isGuard", "(I)Z"⟩ : MethodName), 9)) (by decide +kernel) rfl
theorem wp_15 : Cond.selects "GuardsLookLeft$Guards" (⟨"GuardsLookLeft$Guards", "beat", "(IJ)I"⟩ : MethodName) (⟨"GuardsLookLeft$Guards", "beat", "(IJ)I"⟩ : MethodName) ∈ WS := wsP (i := 15) (q := ((⟨"GuardsLookLeft$Guards", "beat", "(IJ)I"⟩ : MethodName), 10)) (by decide +kernel) rfl
theorem wp_16 : Cond.selects "GuardsLookLeft$Guards" (⟨"GuardsLookLeft$Guards", "isLooking", "(II)Z"⟩ : MethodName) (⟨"GuardsLookLeft$Guards", "isLooking", "(II)Z"⟩ : MethodName) ∈ WS := wsP (i := 16) (q := ((⟨"GuardsLookLeft$Guards", "isLooking", "(II)Z"⟩ : MethodName), 10)) (by decide +kernel) rfl
theorem wp_17 : Cond.selects "GuardsLookLeft" (⟨"GuardsLookLeft", "seenNow", "()[J"⟩ : MethodName) (⟨"GuardsLookLeft", "seenNow", "()[J"⟩ : MethodName) ∈ WS := wsP (i := 17) (q := ((⟨"GuardsLookLeft", "seenNow", "()[J"⟩ : MethodName), 9)) (by decide +kernel) rfl
theorem wp_18 : Cond.selects "GuardsLookLeft$Watch" (⟨"GuardsLookLeft$Watch", "addKnown", "(I)V"⟩ : MethodName) (⟨"GuardsLookLeft$Watch", "addKnown", "(I)V"⟩ : MethodName) ∈ WS := wsP (i := 18) (q := ((⟨"GuardsLookLeft$Watch", "addKnown", "(I)V"⟩ : MethodName), 9)) (by decide +kernel) rfl
theorem wp_19 : Cond.selects "GuardsLookLeft" (⟨"GuardsLookLeft", "worthUnseen", "([J)I"⟩ : MethodName) (⟨"GuardsLookLeft", "worthUnseen", "([J)I"⟩ : MethodName) ∈ WS := wsP (i := 19) (q := ((⟨"GuardsLookLeft", "worthUnseen", "([J)I"⟩ : MethodName), 9)) (by decide +kernel) rfl
theorem wp_20 : Cond.selects "GuardsLookLeft$Watch" (⟨"GuardsLookLeft$Watch", "addFound", "(I)V"⟩ : MethodName) (⟨"GuardsLookLeft$Watch", "addFound", "(I)V"⟩ : MethodName) ∈ WS := wsP (i := 20) (q := ((⟨"GuardsLookLeft$Watch", "addFound", "(I)V"⟩ : MethodName), 9)) (by decide +kernel) rfl
theorem wp_21 : Cond.selects "GuardsLookLeft" (⟨"GuardsLookLeft", "holdsWithout", "(IJI)Z"⟩ : MethodName) (⟨"GuardsLookLeft", "holdsWithout", "(IJI)Z"⟩ : MethodName) ∈ WS := wsP (i := 21) (q := ((⟨"GuardsLookLeft", "holdsWithout", "(IJI)Z"⟩ : MethodName), 9)) (by decide +kernel) rfl
theorem wp_22 : Cond.selects "GuardsLookLeft" (⟨"GuardsLookLeft", "refusalOfTold", "(II)I"⟩ : MethodName) (⟨"GuardsLookLeft", "refusalOfTold", "(II)I"⟩ : MethodName) ∈ WS := wsP (i := 22) (q := ((⟨"GuardsLookLeft", "refusalOfTold", "(II)I"⟩ : MethodName), 9)) (by decide +kernel) rfl
theorem wp_23 : Cond.selects "GuardsLookLeftModel" (⟨"GuardsLookLeftModel", "next", "()V"⟩ : MethodName) (⟨"GuardsLookLeftModel", "next", "()V"⟩ : MethodName) ∈ WS := wsP (i := 23) (q := ((⟨"GuardsLookLeftModel", "next", "()V"⟩ : MethodName), 41)) (by decide +kernel) rfl
theorem wp_24 : Cond.selects "GuardsLookLeftModel" (⟨"GuardsLookLeftModel", "wordFrom", "(II)I"⟩ : MethodName) (⟨"GuardsLookLeftModel", "wordFrom", "(II)I"⟩ : MethodName) ∈ WS := wsP (i := 24) (q := ((⟨"GuardsLookLeftModel", "wordFrom", "(II)I"⟩ : MethodName), 41)) (by decide +kernel) rfl
theorem wp_25 : Cond.selects "GuardsLookLeftModel" (⟨"GuardsLookLeftModel", "eRead", "()Z"⟩ : MethodName) (⟨"GuardsLookLeftModel", "eRead", "()Z"⟩ : MethodName) ∈ WS := wsP (i := 25) (q := ((⟨"GuardsLookLeftModel", "eRead", "()Z"⟩ : MethodName), 41)) (by decide +kernel) rfl
theorem wp_26 : Cond.selects "GuardsLookLeftModel" (⟨"GuardsLookLeftModel", "puts", "(I)V"⟩ : MethodName) (⟨"GuardsLookLeftModel", "puts", "(I)V"⟩ : MethodName) ∈ WS := wsP (i := 26) (q := ((⟨"GuardsLookLeftModel", "puts", "(I)V"⟩ : MethodName), 41)) (by decide +kernel) rfl
theorem wp_27 : Cond.selects "GuardsLookLeftModel" (⟨"GuardsLookLeftModel", "unwinds", "(I)V"⟩ : MethodName) (⟨"GuardsLookLeftModel", "unwinds", "(I)V"⟩ : MethodName) ∈ WS := wsP (i := 27) (q := ((⟨"GuardsLookLeftModel", "unwinds", "(I)V"⟩ : MethodName), 41)) (by decide +kernel) rfl
theorem wp_28 : Cond.selects "GuardsLookLeftModel" (⟨"GuardsLookLeftModel", "opensOne", "(I)Z"⟩ : MethodName) (⟨"GuardsLookLeftModel", "opensOne", "(I)Z"⟩ : MethodName) ∈ WS := wsP (i := 28) (q := ((⟨"GuardsLookLeftModel", "opensOne", "(I)Z"⟩ : MethodName), 41)) (by decide +kernel) rfl
theorem wp_29 : Cond.selects "GuardsLookLeftModel" (⟨"GuardsLookLeftModel", "holds", "(I)V"⟩ : MethodName) (⟨"GuardsLookLeftModel", "holds", "(I)V"⟩ : MethodName) ∈ WS := wsP (i := 29) (q := ((⟨"GuardsLookLeftModel", "holds", "(I)V"⟩ : MethodName), 41)) (by decide +kernel) rfl
theorem wp_30 : Cond.selects "GuardsLookLeftModel" (⟨"GuardsLookLeftModel", "signOf", "()I"⟩ : MethodName) (⟨"GuardsLookLeftModel", "signOf", "()I"⟩ : MethodName) ∈ WS := wsP (i := 30) (q := ((⟨"GuardsLookLeftModel", "signOf", "()I"⟩ : MethodName), 41)) (by decide +kernel) rfl
theorem wp_31 : Cond.selects "GuardsLookLeftModel" (⟨"GuardsLookLeftModel", "between", "(I)Z"⟩ : MethodName) (⟨"GuardsLookLeftModel", "between", "(I)Z"⟩ : MethodName) ∈ WS := wsP (i := 31) (q := ((⟨"GuardsLookLeftModel", "between", "(I)Z"⟩ : MethodName), 41)) (by decide +kernel) rfl
theorem wp_32 : Cond.selects "GuardsLookLeftModel" (⟨"GuardsLookLeftModel", "asksOf", "(IIIIIII)I"⟩ : MethodName) (⟨"GuardsLookLeftModel", "asksOf", "(IIIIIII)I"⟩ : MethodName) ∈ WS := wsP (i := 32) (q := ((⟨"GuardsLookLeftModel", "asksOf", "(IIIIIII)I"⟩ : MethodName), 41)) (by decide +kernel) rfl
theorem wp_33 : Cond.selects "GuardsLookLeftModel" (⟨"GuardsLookLeftModel", "worth", "(I)I"⟩ : MethodName) (⟨"GuardsLookLeftModel", "worth", "(I)I"⟩ : MethodName) ∈ WS := wsP (i := 33) (q := ((⟨"GuardsLookLeftModel", "worth", "(I)I"⟩ : MethodName), 41)) (by decide +kernel) rfl
theorem wp_34 : Cond.selects "GuardsLookLeftModel" (⟨"GuardsLookLeftModel", "isGuard", "(I)Z"⟩ : MethodName) (⟨"GuardsLookLeftModel", "isGuard", "(I)Z"⟩ : MethodName) ∈ WS := wsP (i := 34) (q := ((⟨"GuardsLookLeftModel", "isGuard", "(I)Z"⟩ : MethodName), 41)) (by decide +kernel) rfl
theorem wp_35 : Cond.selects "GuardsLookLeftModel" (⟨"GuardsLookLeftModel", "stands", "(II)I"⟩ : MethodName) (⟨"GuardsLookLeftModel", "stands", "(II)I"⟩ : MethodName) ∈ WS := wsP (i := 35) (q := ((⟨"GuardsLookLeftModel", "stands", "(II)I"⟩ : MethodName), 41)) (by decide +kernel) rfl
theorem wp_36 : Cond.selects "GuardsLookLeftModel" (⟨"GuardsLookLeftModel", "beat", "(I)I"⟩ : MethodName) (⟨"GuardsLookLeftModel", "beat", "(I)I"⟩ : MethodName) ∈ WS := wsP (i := 36) (q := ((⟨"GuardsLookLeftModel", "beat", "(I)I"⟩ : MethodName), 41)) (by decide +kernel) rfl
theorem wp_37 : Cond.selects "GuardsLookLeftModel" (⟨"GuardsLookLeftModel", "beside", "(II)I"⟩ : MethodName) (⟨"GuardsLookLeftModel", "beside", "(II)I"⟩ : MethodName) ∈ WS := wsP (i := 37) (q := ((⟨"GuardsLookLeftModel", "beside", "(II)I"⟩ : MethodName), 41)) (by decide +kernel) rfl
theorem wp_38 : Cond.selects "GuardsLookLeftModel" (⟨"GuardsLookLeftModel", "walked", "(II)I"⟩ : MethodName) (⟨"GuardsLookLeftModel", "walked", "(II)I"⟩ : MethodName) ∈ WS := wsP (i := 38) (q := ((⟨"GuardsLookLeftModel", "walked", "(II)I"⟩ : MethodName), 41)) (by decide +kernel) rfl
theorem wp_39 : Cond.selects "GuardsLookLeftModel" (⟨"GuardsLookLeftModel", "own", "(II)I"⟩ : MethodName) (⟨"GuardsLookLeftModel", "own", "(II)I"⟩ : MethodName) ∈ WS := wsP (i := 39) (q := ((⟨"GuardsLookLeftModel", "own", "(II)I"⟩ : MethodName), 41)) (by decide +kernel) rfl
theorem wp_40 : Cond.selects "GuardsLookLeftModel" (⟨"GuardsLookLeftModel", "steps", "(II)I"⟩ : MethodName) (⟨"GuardsLookLeftModel", "steps", "(II)I"⟩ : MethodName) ∈ WS := wsP (i := 40) (q := ((⟨"GuardsLookLeftModel", "steps", "(II)I"⟩ : MethodName), 41)) (by decide +kernel) rfl
theorem wp_41 : Cond.selects "GuardsLookLeftModel" (⟨"GuardsLookLeftModel", "turned", "(II)I"⟩ : MethodName) (⟨"GuardsLookLeftModel", "turned", "(II)I"⟩ : MethodName) ∈ WS := wsP (i := 41) (q := ((⟨"GuardsLookLeftModel", "turned", "(II)I"⟩ : MethodName), 41)) (by decide +kernel) rfl
theorem wp_42 : Cond.selects "GuardsLookLeftModel" (⟨"GuardsLookLeftModel", "looks", "(II)Z"⟩ : MethodName) (⟨"GuardsLookLeftModel", "looks", "(II)Z"⟩ : MethodName) ∈ WS := wsP (i := 42) (q := ((⟨"GuardsLookLeftModel", "looks", "(II)Z"⟩ : MethodName), 41)) (by decide +kernel) rfl
theorem wp_43 : Cond.selects "GuardsLookLeftModel" (⟨"GuardsLookLeftModel", "seenBy", "(II)J"⟩ : MethodName) (⟨"GuardsLookLeftModel", "seenBy", "(II)J"⟩ : MethodName) ∈ WS := wsP (i := 43) (q := ((⟨"GuardsLookLeftModel", "seenBy", "(II)J"⟩ : MethodName), 41)) (by decide +kernel) rfl
theorem wp_44 : Cond.selects "GuardsLookLeftModel" (⟨"GuardsLookLeftModel", "lit", "(I)I"⟩ : MethodName) (⟨"GuardsLookLeftModel", "lit", "(I)I"⟩ : MethodName) ∈ WS := wsP (i := 44) (q := ((⟨"GuardsLookLeftModel", "lit", "(I)I"⟩ : MethodName), 41)) (by decide +kernel) rfl
theorem wp_45 : Cond.selects "GuardsLookLeftModel" (⟨"GuardsLookLeftModel", "watchesAll", "()V"⟩ : MethodName) (⟨"GuardsLookLeftModel", "watchesAll", "()V"⟩ : MethodName) ∈ WS := wsP (i := 45) (q := ((⟨"GuardsLookLeftModel", "watchesAll", "()V"⟩ : MethodName), 41)) (by decide +kernel) rfl
theorem wp_46 : Cond.selects "GuardsLookLeftModel" (⟨"GuardsLookLeftModel", "watches", "(I)V"⟩ : MethodName) (⟨"GuardsLookLeftModel", "watches", "(I)V"⟩ : MethodName) ∈ WS := wsP (i := 46) (q := ((⟨"GuardsLookLeftModel", "watches", "(I)V"⟩ : MethodName), 41)) (by decide +kernel) rfl
theorem wp_47 : Cond.selects "GuardsLookLeftModel" (⟨"GuardsLookLeftModel", "allGuards", "()I"⟩ : MethodName) (⟨"GuardsLookLeftModel", "allGuards", "()I"⟩ : MethodName) ∈ WS := wsP (i := 47) (q := ((⟨"GuardsLookLeftModel", "allGuards", "()I"⟩ : MethodName), 41)) (by decide +kernel) rfl
theorem wp_48 : Cond.selects "GuardsLookLeftModel" (⟨"GuardsLookLeftModel", "seenAt", "(II)J"⟩ : MethodName) (⟨"GuardsLookLeftModel", "seenAt", "(II)J"⟩ : MethodName) ∈ WS := wsP (i := 48) (q := ((⟨"GuardsLookLeftModel", "seenAt", "(II)J"⟩ : MethodName), 41)) (by decide +kernel) rfl
theorem wp_49 : Cond.selects "GuardsLookLeftModel" (⟨"GuardsLookLeftModel", "aloneBy", "(II)I"⟩ : MethodName) (⟨"GuardsLookLeftModel", "aloneBy", "(II)I"⟩ : MethodName) ∈ WS := wsP (i := 49) (q := ((⟨"GuardsLookLeftModel", "aloneBy", "(II)I"⟩ : MethodName), 41)) (by decide +kernel) rfl
theorem wp_50 : Cond.selects "GuardsLookLeftModel" (⟨"GuardsLookLeftModel", "findsGaps", "()V"⟩ : MethodName) (⟨"GuardsLookLeftModel", "findsGaps", "()V"⟩ : MethodName) ∈ WS := wsP (i := 50) (q := ((⟨"GuardsLookLeftModel", "findsGaps", "()V"⟩ : MethodName), 41)) (by decide +kernel) rfl
theorem wp_51 : Cond.selects "GuardsLookLeftModel" (⟨"GuardsLookLeftModel", "worthUnseen", "()I"⟩ : MethodName) (⟨"GuardsLookLeftModel", "worthUnseen", "()I"⟩ : MethodName) ∈ WS := wsP (i := 51) (q := ((⟨"GuardsLookLeftModel", "worthUnseen", "()I"⟩ : MethodName), 41)) (by decide +kernel) rfl
theorem wp_52 : Cond.selects "GuardsLookLeftModel" (⟨"GuardsLookLeftModel", "sneaks", "(II)V"⟩ : MethodName) (⟨"GuardsLookLeftModel", "sneaks", "(II)V"⟩ : MethodName) ∈ WS := wsP (i := 52) (q := ((⟨"GuardsLookLeftModel", "sneaks", "(II)V"⟩ : MethodName), 41)) (by decide +kernel) rfl
theorem wp_53 : Cond.selects "GuardsLookLeftModel" (⟨"GuardsLookLeftModel", "spread", "(J)J"⟩ : MethodName) (⟨"GuardsLookLeftModel", "spread", "(J)J"⟩ : MethodName) ∈ WS := wsP (i := 53) (q := ((⟨"GuardsLookLeftModel", "spread", "(J)J"⟩ : MethodName), 41)) (by decide +kernel) rfl
theorem wp_54 : Cond.selects "GuardsLookLeftModel" (⟨"GuardsLookLeftModel", "soonest", "(I)I"⟩ : MethodName) (⟨"GuardsLookLeftModel", "soonest", "(I)I"⟩ : MethodName) ∈ WS := wsP (i := 54) (q := ((⟨"GuardsLookLeftModel", "soonest", "(I)I"⟩ : MethodName), 41)) (by decide +kernel) rfl
theorem wp_55 : Cond.selects "GuardsLookLeftModel" (⟨"GuardsLookLeftModel", "was", "(II)I"⟩ : MethodName) (⟨"GuardsLookLeftModel", "was", "(II)I"⟩ : MethodName) ∈ WS := wsP (i := 55) (q := ((⟨"GuardsLookLeftModel", "was", "(II)I"⟩ : MethodName), 41)) (by decide +kernel) rfl
theorem wp_56 : Cond.selects "GuardsLookLeftModel" (⟨"GuardsLookLeftModel", "whenFrom", "(II)I"⟩ : MethodName) (⟨"GuardsLookLeftModel", "whenFrom", "(II)I"⟩ : MethodName) ∈ WS := wsP (i := 56) (q := ((⟨"GuardsLookLeftModel", "whenFrom", "(II)I"⟩ : MethodName), 41)) (by decide +kernel) rfl
theorem wp_57 : Cond.selects "GuardsLookLeftModel" (⟨"GuardsLookLeftModel", "holdsBy", "(JII)Z"⟩ : MethodName) (⟨"GuardsLookLeftModel", "holdsBy", "(JII)Z"⟩ : MethodName) ∈ WS := wsP (i := 57) (q := ((⟨"GuardsLookLeftModel", "holdsBy", "(JII)Z"⟩ : MethodName), 41)) (by decide +kernel) rfl
theorem wp_58 : Cond.selects "GuardsLookLeftModel" (⟨"GuardsLookLeftModel", "sheetWrong", "(II)I"⟩ : MethodName) (⟨"GuardsLookLeftModel", "sheetWrong", "(II)I"⟩ : MethodName) ∈ WS := wsP (i := 58) (q := ((⟨"GuardsLookLeftModel", "sheetWrong", "(II)I"⟩ : MethodName), 41)) (by decide +kernel) rfl
theorem wp_59 : Cond.selects "GuardsLookLeftModel" (⟨"GuardsLookLeftModel", "unlike", "(III)I"⟩ : MethodName) (⟨"GuardsLookLeftModel", "unlike", "(III)I"⟩ : MethodName) ∈ WS := wsP (i := 59) (q := ((⟨"GuardsLookLeftModel", "unlike", "(III)I"⟩ : MethodName), 41)) (by decide +kernel) rfl
theorem wp_60 : Cond.selects "GuardsLookLeftModel" (⟨"GuardsLookLeftModel", "worstBy", "(I)I"⟩ : MethodName) (⟨"GuardsLookLeftModel", "worstBy", "(I)I"⟩ : MethodName) ∈ WS := wsP (i := 60) (q := ((⟨"GuardsLookLeftModel", "worstBy", "(I)I"⟩ : MethodName), 41)) (by decide +kernel) rfl
