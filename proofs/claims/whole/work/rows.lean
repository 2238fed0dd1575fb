section
-- ===== PART A: goes FIRST, ahead of the names: the tables' words, and 'selects' of the private methods out of them =====
/-- a private method of a class that the tables say can be made, by its rows of tables_1 -/
def lw_okq (q : MethodName × Nat) : Prop := (q.1.cls ≠ "java/lang/invoke/MethodHandle" ∧ q.1.cls ≠ "java/lang/invoke/VarHandle") ∧ Cond.instantiable q.1.cls q.2 ∈ tables_1 ∧ Cond.privateMethod q.1 ∈ tables_1 ∧ Cond.instanceMethod q.1 ∈ tables_1
theorem lw_p0 : lw_okq (⟨"LionShield$Shields", "asHeir", "(II)I"⟩, 6) := ⟨⟨by decide +kernel, by decide +kernel⟩, List.mem_of_getElem? (i := 91) (by decide +kernel), List.mem_of_getElem? (i := 331) (by decide +kernel), List.mem_of_getElem? (i := 332) (by decide +kernel)⟩
theorem lw_p1 : lw_okq (⟨"LionShield$Shields", "hidden", "(II)I"⟩, 6) := ⟨⟨by decide +kernel, by decide +kernel⟩, List.mem_of_getElem? (i := 91) (by decide +kernel), List.mem_of_getElem? (i := 339) (by decide +kernel), List.mem_of_getElem? (i := 340) (by decide +kernel)⟩
theorem lw_p2 : lw_okq (⟨"LionShield$Shields", "byKind", "(III)I"⟩, 6) := ⟨⟨by decide +kernel, by decide +kernel⟩, List.mem_of_getElem? (i := 91) (by decide +kernel), List.mem_of_getElem? (i := 362) (by decide +kernel), List.mem_of_getElem? (i := 363) (by decide +kernel)⟩
theorem lw_p3 : lw_okq (⟨"LionShield$Land", "bringForth", "()Z"⟩, 12) := ⟨⟨by decide +kernel, by decide +kernel⟩, List.mem_of_getElem? (i := 27) (by decide +kernel), List.mem_of_getElem? (i := 419) (by decide +kernel), List.mem_of_getElem? (i := 420) (by decide +kernel)⟩
theorem lw_p4 : lw_okq (⟨"LionShield$Land", "nthOf", "(II)I"⟩, 12) := ⟨⟨by decide +kernel, by decide +kernel⟩, List.mem_of_getElem? (i := 27) (by decide +kernel), List.mem_of_getElem? (i := 427) (by decide +kernel), List.mem_of_getElem? (i := 428) (by decide +kernel)⟩
theorem lw_p5 : lw_okq (⟨"LionShield", "repaintThought", "(II)V"⟩, 11) := ⟨⟨by decide +kernel, by decide +kernel⟩, List.mem_of_getElem? (i := 19) (by decide +kernel), List.mem_of_getElem? (i := 490) (by decide +kernel), List.mem_of_getElem? (i := 491) (by decide +kernel)⟩
theorem lw_p6 : lw_okq (⟨"LionShield", "think", "(I)V"⟩, 11) := ⟨⟨by decide +kernel, by decide +kernel⟩, List.mem_of_getElem? (i := 19) (by decide +kernel), List.mem_of_getElem? (i := 498) (by decide +kernel), List.mem_of_getElem? (i := 499) (by decide +kernel)⟩
theorem lw_p7 : lw_okq (⟨"LionShield", "allBear", "(LLionShield$Land;I)I"⟩, 11) := ⟨⟨by decide +kernel, by decide +kernel⟩, List.mem_of_getElem? (i := 19) (by decide +kernel), List.mem_of_getElem? (i := 502) (by decide +kernel), List.mem_of_getElem? (i := 503) (by decide +kernel)⟩
theorem lw_p8 : lw_okq (⟨"LionShield$Reader", "advance", "()V"⟩, 11) := ⟨⟨by decide +kernel, by decide +kernel⟩, List.mem_of_getElem? (i := 119) (by decide +kernel), List.mem_of_getElem? (i := 582) (by decide +kernel), List.mem_of_getElem? (i := 583) (by decide +kernel)⟩
theorem lw_p9 : lw_okq (⟨"LionShield$Reader", "keyHere", "()I"⟩, 11) := ⟨⟨by decide +kernel, by decide +kernel⟩, List.mem_of_getElem? (i := 119) (by decide +kernel), List.mem_of_getElem? (i := 593) (by decide +kernel), List.mem_of_getElem? (i := 594) (by decide +kernel)⟩
theorem lw_p10 : lw_okq (⟨"LionShield$Reader", "isWord", "(Ljava/lang/String;)Z"⟩, 11) := ⟨⟨by decide +kernel, by decide +kernel⟩, List.mem_of_getElem? (i := 119) (by decide +kernel), List.mem_of_getElem? (i := 598) (by decide +kernel), List.mem_of_getElem? (i := 599) (by decide +kernel)⟩
theorem lw_p11 : lw_okq (⟨"LionShield$Reader", "fail", "()V"⟩, 11) := ⟨⟨by decide +kernel, by decide +kernel⟩, List.mem_of_getElem? (i := 119) (by decide +kernel), List.mem_of_getElem? (i := 652) (by decide +kernel), List.mem_of_getElem? (i := 653) (by decide +kernel)⟩
theorem lw_p12 : lw_okq (⟨"LionShield$Reader", "readLevel", "(I)V"⟩, 11) := ⟨⟨by decide +kernel, by decide +kernel⟩, List.mem_of_getElem? (i := 119) (by decide +kernel), List.mem_of_getElem? (i := 656) (by decide +kernel), List.mem_of_getElem? (i := 657) (by decide +kernel)⟩
theorem lw_p13 : lw_okq (⟨"LionShield$Reader", "readPiece", "()V"⟩, 11) := ⟨⟨by decide +kernel, by decide +kernel⟩, List.mem_of_getElem? (i := 119) (by decide +kernel), List.mem_of_getElem? (i := 660) (by decide +kernel), List.mem_of_getElem? (i := 661) (by decide +kernel)⟩
theorem lw_p14 : lw_okq (⟨"LionShield$Reader", "isSign", "(I)Z"⟩, 11) := ⟨⟨by decide +kernel, by decide +kernel⟩, List.mem_of_getElem? (i := 119) (by decide +kernel), List.mem_of_getElem? (i := 664) (by decide +kernel), List.mem_of_getElem? (i := 665) (by decide +kernel)⟩
theorem lw_p15 : lw_okq (⟨"LionShield$Reader", "write", "(I)V"⟩, 11) := ⟨⟨by decide +kernel, by decide +kernel⟩, List.mem_of_getElem? (i := 119) (by decide +kernel), List.mem_of_getElem? (i := 668) (by decide +kernel), List.mem_of_getElem? (i := 669) (by decide +kernel)⟩
def lw_privs_1 : List (MethodName × Nat) := [(⟨"LionShield$Shields", "asHeir", "(II)I"⟩, 6), (⟨"LionShield$Shields", "hidden", "(II)I"⟩, 6), (⟨"LionShield$Shields", "byKind", "(III)I"⟩, 6), (⟨"LionShield$Land", "bringForth", "()Z"⟩, 12), (⟨"LionShield$Land", "nthOf", "(II)I"⟩, 12), (⟨"LionShield", "repaintThought", "(II)V"⟩, 11), (⟨"LionShield", "think", "(I)V"⟩, 11), (⟨"LionShield", "allBear", "(LLionShield$Land;I)I"⟩, 11), (⟨"LionShield$Reader", "advance", "()V"⟩, 11), (⟨"LionShield$Reader", "keyHere", "()I"⟩, 11), (⟨"LionShield$Reader", "isWord", "(Ljava/lang/String;)Z"⟩, 11), (⟨"LionShield$Reader", "fail", "()V"⟩, 11), (⟨"LionShield$Reader", "readLevel", "(I)V"⟩, 11), (⟨"LionShield$Reader", "readPiece", "()V"⟩, 11), (⟨"LionShield$Reader", "isSign", "(I)Z"⟩, 11), (⟨"LionShield$Reader", "write", "(I)V"⟩, 11)]
theorem lw_r1 : ∀ q ∈ lw_privs_1, lw_okq q := List.forall_mem_cons.mpr ⟨lw_p0, List.forall_mem_cons.mpr ⟨lw_p1, List.forall_mem_cons.mpr ⟨lw_p2, List.forall_mem_cons.mpr ⟨lw_p3, List.forall_mem_cons.mpr ⟨lw_p4, List.forall_mem_cons.mpr ⟨lw_p5, List.forall_mem_cons.mpr ⟨lw_p6, List.forall_mem_cons.mpr ⟨lw_p7, List.forall_mem_cons.mpr ⟨lw_p8, List.forall_mem_cons.mpr ⟨lw_p9, List.forall_mem_cons.mpr ⟨lw_p10, List.forall_mem_cons.mpr ⟨lw_p11, List.forall_mem_cons.mpr ⟨lw_p12, List.forall_mem_cons.mpr ⟨lw_p13, List.forall_mem_cons.mpr ⟨lw_p14, List.forall_mem_cons.mpr ⟨lw_p15, fun _ h => absurd h List.not_mem_nil⟩⟩⟩⟩⟩⟩⟩⟩⟩⟩⟩⟩⟩⟩⟩⟩
theorem lw_p16 : lw_okq (⟨"LionShield$Reader", "readClosing", "()V"⟩, 11) := ⟨⟨by decide +kernel, by decide +kernel⟩, List.mem_of_getElem? (i := 119) (by decide +kernel), List.mem_of_getElem? (i := 672) (by decide +kernel), List.mem_of_getElem? (i := 673) (by decide +kernel)⟩
theorem lw_p17 : lw_okq (⟨"LionShield$Reader", "readLeaf", "()V"⟩, 11) := ⟨⟨by decide +kernel, by decide +kernel⟩, List.mem_of_getElem? (i := 119) (by decide +kernel), List.mem_of_getElem? (i := 676) (by decide +kernel), List.mem_of_getElem? (i := 677) (by decide +kernel)⟩
theorem lw_p18 : lw_okq (⟨"LionShield$Reader", "numberHere", "()I"⟩, 11) := ⟨⟨by decide +kernel, by decide +kernel⟩, List.mem_of_getElem? (i := 119) (by decide +kernel), List.mem_of_getElem? (i := 680) (by decide +kernel), List.mem_of_getElem? (i := 681) (by decide +kernel)⟩
theorem lw_p19 : lw_okq (⟨"LionShield$Reader", "nameHere", "()I"⟩, 11) := ⟨⟨by decide +kernel, by decide +kernel⟩, List.mem_of_getElem? (i := 119) (by decide +kernel), List.mem_of_getElem? (i := 684) (by decide +kernel), List.mem_of_getElem? (i := 685) (by decide +kernel)⟩
theorem lw_p20 : lw_okq (⟨"LionShield$Reader", "levelHere", "()I"⟩, 11) := ⟨⟨by decide +kernel, by decide +kernel⟩, List.mem_of_getElem? (i := 119) (by decide +kernel), List.mem_of_getElem? (i := 746) (by decide +kernel), List.mem_of_getElem? (i := 747) (by decide +kernel)⟩
theorem lw_p21 : lw_okq (⟨"LionShield", "isWaiting", "(III)Z"⟩, 11) := ⟨⟨by decide +kernel, by decide +kernel⟩, List.mem_of_getElem? (i := 19) (by decide +kernel), List.mem_of_getElem? (i := 853) (by decide +kernel), List.mem_of_getElem? (i := 854) (by decide +kernel)⟩
theorem lw_p22 : lw_okq (⟨"LionShieldModel", "mayBe", "(II)Z"⟩, 34) := ⟨⟨by decide +kernel, by decide +kernel⟩, List.mem_of_getElem? (i := 873) (by decide +kernel), List.mem_of_getElem? (i := 991) (by decide +kernel), List.mem_of_getElem? (i := 992) (by decide +kernel)⟩
theorem lw_p23 : lw_okq (⟨"LionShieldModel", "isOne", "(I)Z"⟩, 34) := ⟨⟨by decide +kernel, by decide +kernel⟩, List.mem_of_getElem? (i := 873) (by decide +kernel), List.mem_of_getElem? (i := 995) (by decide +kernel), List.mem_of_getElem? (i := 996) (by decide +kernel)⟩
theorem lw_p24 : lw_okq (⟨"LionShieldModel", "of", "(II)I"⟩, 34) := ⟨⟨by decide +kernel, by decide +kernel⟩, List.mem_of_getElem? (i := 873) (by decide +kernel), List.mem_of_getElem? (i := 999) (by decide +kernel), List.mem_of_getElem? (i := 1000) (by decide +kernel)⟩
theorem lw_p25 : lw_okq (⟨"LionShieldModel", "comes", "(IIIII)I"⟩, 34) := ⟨⟨by decide +kernel, by decide +kernel⟩, List.mem_of_getElem? (i := 873) (by decide +kernel), List.mem_of_getElem? (i := 1008) (by decide +kernel), List.mem_of_getElem? (i := 1009) (by decide +kernel)⟩
theorem lw_p26 : lw_okq (⟨"LionShieldModel", "worthOf", "(I)I"⟩, 34) := ⟨⟨by decide +kernel, by decide +kernel⟩, List.mem_of_getElem? (i := 873) (by decide +kernel), List.mem_of_getElem? (i := 1016) (by decide +kernel), List.mem_of_getElem? (i := 1017) (by decide +kernel)⟩
theorem lw_p27 : lw_okq (⟨"LionShieldModel", "isHeiress", "(I)Z"⟩, 34) := ⟨⟨by decide +kernel, by decide +kernel⟩, List.mem_of_getElem? (i := 873) (by decide +kernel), List.mem_of_getElem? (i := 1020) (by decide +kernel), List.mem_of_getElem? (i := 1021) (by decide +kernel)⟩
theorem lw_p28 : lw_okq (⟨"LionShieldModel", "worksOf", "(I)V"⟩, 34) := ⟨⟨by decide +kernel, by decide +kernel⟩, List.mem_of_getElem? (i := 873) (by decide +kernel), List.mem_of_getElem? (i := 1028) (by decide +kernel), List.mem_of_getElem? (i := 1029) (by decide +kernel)⟩
theorem lw_p29 : lw_okq (⟨"LionShieldModel", "worksPart", "(II)I"⟩, 34) := ⟨⟨by decide +kernel, by decide +kernel⟩, List.mem_of_getElem? (i := 873) (by decide +kernel), List.mem_of_getElem? (i := 1032) (by decide +kernel), List.mem_of_getElem? (i := 1033) (by decide +kernel)⟩
theorem lw_p30 : lw_okq (⟨"LionShieldModel", "childOf", "(III)I"⟩, 34) := ⟨⟨by decide +kernel, by decide +kernel⟩, List.mem_of_getElem? (i := 873) (by decide +kernel), List.mem_of_getElem? (i := 1036) (by decide +kernel), List.mem_of_getElem? (i := 1037) (by decide +kernel)⟩
theorem lw_p31 : lw_okq (⟨"LionShieldModel", "joined", "(III)I"⟩, 34) := ⟨⟨by decide +kernel, by decide +kernel⟩, List.mem_of_getElem? (i := 873) (by decide +kernel), List.mem_of_getElem? (i := 1040) (by decide +kernel), List.mem_of_getElem? (i := 1041) (by decide +kernel)⟩
def lw_privs_2 : List (MethodName × Nat) := [(⟨"LionShield$Reader", "readClosing", "()V"⟩, 11), (⟨"LionShield$Reader", "readLeaf", "()V"⟩, 11), (⟨"LionShield$Reader", "numberHere", "()I"⟩, 11), (⟨"LionShield$Reader", "nameHere", "()I"⟩, 11), (⟨"LionShield$Reader", "levelHere", "()I"⟩, 11), (⟨"LionShield", "isWaiting", "(III)Z"⟩, 11), (⟨"LionShieldModel", "mayBe", "(II)Z"⟩, 34), (⟨"LionShieldModel", "isOne", "(I)Z"⟩, 34), (⟨"LionShieldModel", "of", "(II)I"⟩, 34), (⟨"LionShieldModel", "comes", "(IIIII)I"⟩, 34), (⟨"LionShieldModel", "worthOf", "(I)I"⟩, 34), (⟨"LionShieldModel", "isHeiress", "(I)Z"⟩, 34), (⟨"LionShieldModel", "worksOf", "(I)V"⟩, 34), (⟨"LionShieldModel", "worksPart", "(II)I"⟩, 34), (⟨"LionShieldModel", "childOf", "(III)I"⟩, 34), (⟨"LionShieldModel", "joined", "(III)I"⟩, 34)]
theorem lw_r2 : ∀ q ∈ lw_privs_2, lw_okq q := List.forall_mem_cons.mpr ⟨lw_p16, List.forall_mem_cons.mpr ⟨lw_p17, List.forall_mem_cons.mpr ⟨lw_p18, List.forall_mem_cons.mpr ⟨lw_p19, List.forall_mem_cons.mpr ⟨lw_p20, List.forall_mem_cons.mpr ⟨lw_p21, List.forall_mem_cons.mpr ⟨lw_p22, List.forall_mem_cons.mpr ⟨lw_p23, List.forall_mem_cons.mpr ⟨lw_p24, List.forall_mem_cons.mpr ⟨lw_p25, List.forall_mem_cons.mpr ⟨lw_p26, List.forall_mem_cons.mpr ⟨lw_p27, List.forall_mem_cons.mpr ⟨lw_p28, List.forall_mem_cons.mpr ⟨lw_p29, List.forall_mem_cons.mpr ⟨lw_p30, List.forall_mem_cons.mpr ⟨lw_p31, fun _ h => absurd h List.not_mem_nil⟩⟩⟩⟩⟩⟩⟩⟩⟩⟩⟩⟩⟩⟩⟩⟩
theorem lw_p32 : lw_okq (⟨"LionShieldModel", "counts", "(I)I"⟩, 34) := ⟨⟨by decide +kernel, by decide +kernel⟩, List.mem_of_getElem? (i := 873) (by decide +kernel), List.mem_of_getElem? (i := 1044) (by decide +kernel), List.mem_of_getElem? (i := 1045) (by decide +kernel)⟩
theorem lw_p33 : lw_okq (⟨"LionShieldModel", "worksOut", "(I)I"⟩, 34) := ⟨⟨by decide +kernel, by decide +kernel⟩, List.mem_of_getElem? (i := 873) (by decide +kernel), List.mem_of_getElem? (i := 1048) (by decide +kernel), List.mem_of_getElem? (i := 1049) (by decide +kernel)⟩
theorem lw_p34 : lw_okq (⟨"LionShieldModel", "borne", "(II)I"⟩, 34) := ⟨⟨by decide +kernel, by decide +kernel⟩, List.mem_of_getElem? (i := 873) (by decide +kernel), List.mem_of_getElem? (i := 1058) (by decide +kernel), List.mem_of_getElem? (i := 1059) (by decide +kernel)⟩
theorem lw_p35 : lw_okq (⟨"LionShieldModel", "becomes", "(II)I"⟩, 34) := ⟨⟨by decide +kernel, by decide +kernel⟩, List.mem_of_getElem? (i := 873) (by decide +kernel), List.mem_of_getElem? (i := 1074) (by decide +kernel), List.mem_of_getElem? (i := 1075) (by decide +kernel)⟩
theorem lw_p36 : lw_okq (⟨"LionShieldModel", "draw", "()I"⟩, 34) := ⟨⟨by decide +kernel, by decide +kernel⟩, List.mem_of_getElem? (i := 873) (by decide +kernel), List.mem_of_getElem? (i := 1090) (by decide +kernel), List.mem_of_getElem? (i := 1091) (by decide +kernel)⟩
theorem lw_p37 : lw_okq (⟨"LionShieldModel", "goesOn", "(I)V"⟩, 34) := ⟨⟨by decide +kernel, by decide +kernel⟩, List.mem_of_getElem? (i := 873) (by decide +kernel), List.mem_of_getElem? (i := 1103) (by decide +kernel), List.mem_of_getElem? (i := 1104) (by decide +kernel)⟩
theorem lw_p38 : lw_okq (⟨"LionShieldModel", "year", "()V"⟩, 34) := ⟨⟨by decide +kernel, by decide +kernel⟩, List.mem_of_getElem? (i := 873) (by decide +kernel), List.mem_of_getElem? (i := 1107) (by decide +kernel), List.mem_of_getElem? (i := 1108) (by decide +kernel)⟩
theorem lw_p39 : lw_okq (⟨"LionShieldModel", "manyOf", "(I)I"⟩, 34) := ⟨⟨by decide +kernel, by decide +kernel⟩, List.mem_of_getElem? (i := 873) (by decide +kernel), List.mem_of_getElem? (i := 1111) (by decide +kernel), List.mem_of_getElem? (i := 1112) (by decide +kernel)⟩
theorem lw_p40 : lw_okq (⟨"LionShieldModel", "numberOf", "(II)I"⟩, 34) := ⟨⟨by decide +kernel, by decide +kernel⟩, List.mem_of_getElem? (i := 873) (by decide +kernel), List.mem_of_getElem? (i := 1115) (by decide +kernel), List.mem_of_getElem? (i := 1116) (by decide +kernel)⟩
theorem lw_p41 : lw_okq (⟨"LionShieldModel", "worksAll", "()V"⟩, 34) := ⟨⟨by decide +kernel, by decide +kernel⟩, List.mem_of_getElem? (i := 873) (by decide +kernel), List.mem_of_getElem? (i := 1123) (by decide +kernel), List.mem_of_getElem? (i := 1124) (by decide +kernel)⟩
theorem lw_p42 : lw_okq (⟨"LionShieldModel", "areAlike", "(II)Z"⟩, 34) := ⟨⟨by decide +kernel, by decide +kernel⟩, List.mem_of_getElem? (i := 873) (by decide +kernel), List.mem_of_getElem? (i := 1127) (by decide +kernel), List.mem_of_getElem? (i := 1128) (by decide +kernel)⟩
theorem lw_p43 : lw_okq (⟨"LionShieldModel", "clashes", "()I"⟩, 34) := ⟨⟨by decide +kernel, by decide +kernel⟩, List.mem_of_getElem? (i := 873) (by decide +kernel), List.mem_of_getElem? (i := 1135) (by decide +kernel), List.mem_of_getElem? (i := 1136) (by decide +kernel)⟩
theorem lw_p44 : lw_okq (⟨"LionShieldModel", "thinks", "()V"⟩, 34) := ⟨⟨by decide +kernel, by decide +kernel⟩, List.mem_of_getElem? (i := 873) (by decide +kernel), List.mem_of_getElem? (i := 1163) (by decide +kernel), List.mem_of_getElem? (i := 1164) (by decide +kernel)⟩
theorem lw_p45 : lw_okq (⟨"LionShieldModel", "allBear", "(I)I"⟩, 34) := ⟨⟨by decide +kernel, by decide +kernel⟩, List.mem_of_getElem? (i := 873) (by decide +kernel), List.mem_of_getElem? (i := 1167) (by decide +kernel), List.mem_of_getElem? (i := 1168) (by decide +kernel)⟩
theorem lw_p46 : lw_okq (⟨"LionShieldModel", "putsBack", "()V"⟩, 34) := ⟨⟨by decide +kernel, by decide +kernel⟩, List.mem_of_getElem? (i := 873) (by decide +kernel), List.mem_of_getElem? (i := 1171) (by decide +kernel), List.mem_of_getElem? (i := 1172) (by decide +kernel)⟩
theorem lw_p47 : lw_okq (⟨"LionShieldModel", "offBy", "(II)J"⟩, 34) := ⟨⟨by decide +kernel, by decide +kernel⟩, List.mem_of_getElem? (i := 873) (by decide +kernel), List.mem_of_getElem? (i := 1191) (by decide +kernel), List.mem_of_getElem? (i := 1192) (by decide +kernel)⟩
def lw_privs_3 : List (MethodName × Nat) := [(⟨"LionShieldModel", "counts", "(I)I"⟩, 34), (⟨"LionShieldModel", "worksOut", "(I)I"⟩, 34), (⟨"LionShieldModel", "borne", "(II)I"⟩, 34), (⟨"LionShieldModel", "becomes", "(II)I"⟩, 34), (⟨"LionShieldModel", "draw", "()I"⟩, 34), (⟨"LionShieldModel", "goesOn", "(I)V"⟩, 34), (⟨"LionShieldModel", "year", "()V"⟩, 34), (⟨"LionShieldModel", "manyOf", "(I)I"⟩, 34), (⟨"LionShieldModel", "numberOf", "(II)I"⟩, 34), (⟨"LionShieldModel", "worksAll", "()V"⟩, 34), (⟨"LionShieldModel", "areAlike", "(II)Z"⟩, 34), (⟨"LionShieldModel", "clashes", "()I"⟩, 34), (⟨"LionShieldModel", "thinks", "()V"⟩, 34), (⟨"LionShieldModel", "allBear", "(I)I"⟩, 34), (⟨"LionShieldModel", "putsBack", "()V"⟩, 34), (⟨"LionShieldModel", "offBy", "(II)J"⟩, 34)]
theorem lw_r3 : ∀ q ∈ lw_privs_3, lw_okq q := List.forall_mem_cons.mpr ⟨lw_p32, List.forall_mem_cons.mpr ⟨lw_p33, List.forall_mem_cons.mpr ⟨lw_p34, List.forall_mem_cons.mpr ⟨lw_p35, List.forall_mem_cons.mpr ⟨lw_p36, List.forall_mem_cons.mpr ⟨lw_p37, List.forall_mem_cons.mpr ⟨lw_p38, List.forall_mem_cons.mpr ⟨lw_p39, List.forall_mem_cons.mpr ⟨lw_p40, List.forall_mem_cons.mpr ⟨lw_p41, List.forall_mem_cons.mpr ⟨lw_p42, List.forall_mem_cons.mpr ⟨lw_p43, List.forall_mem_cons.mpr ⟨lw_p44, List.forall_mem_cons.mpr ⟨lw_p45, List.forall_mem_cons.mpr ⟨lw_p46, List.forall_mem_cons.mpr ⟨lw_p47, fun _ h => absurd h List.not_mem_nil⟩⟩⟩⟩⟩⟩⟩⟩⟩⟩⟩⟩⟩⟩⟩⟩
theorem lw_p48 : lw_okq (⟨"LionShieldModel", "go", "()V"⟩, 34) := ⟨⟨by decide +kernel, by decide +kernel⟩, List.mem_of_getElem? (i := 873) (by decide +kernel), List.mem_of_getElem? (i := 1215) (by decide +kernel), List.mem_of_getElem? (i := 1216) (by decide +kernel)⟩
theorem lw_p49 : lw_okq (⟨"LionShieldModel", "isLetter", "(I)Z"⟩, 34) := ⟨⟨by decide +kernel, by decide +kernel⟩, List.mem_of_getElem? (i := 873) (by decide +kernel), List.mem_of_getElem? (i := 1219) (by decide +kernel), List.mem_of_getElem? (i := 1220) (by decide +kernel)⟩
theorem lw_p50 : lw_okq (⟨"LionShieldModel", "isFigure", "(I)Z"⟩, 34) := ⟨⟨by decide +kernel, by decide +kernel⟩, List.mem_of_getElem? (i := 873) (by decide +kernel), List.mem_of_getElem? (i := 1223) (by decide +kernel), List.mem_of_getElem? (i := 1224) (by decide +kernel)⟩
theorem lw_p51 : lw_okq (⟨"LionShieldModel", "takesKey", "()Z"⟩, 34) := ⟨⟨by decide +kernel, by decide +kernel⟩, List.mem_of_getElem? (i := 873) (by decide +kernel), List.mem_of_getElem? (i := 1227) (by decide +kernel), List.mem_of_getElem? (i := 1228) (by decide +kernel)⟩
theorem lw_p52 : lw_okq (⟨"LionShieldModel", "takesE", "()Z"⟩, 34) := ⟨⟨by decide +kernel, by decide +kernel⟩, List.mem_of_getElem? (i := 873) (by decide +kernel), List.mem_of_getElem? (i := 1231) (by decide +kernel), List.mem_of_getElem? (i := 1232) (by decide +kernel)⟩
theorem lw_p53 : lw_okq (⟨"LionShieldModel", "takesPart", "()Z"⟩, 34) := ⟨⟨by decide +kernel, by decide +kernel⟩, List.mem_of_getElem? (i := 873) (by decide +kernel), List.mem_of_getElem? (i := 1235) (by decide +kernel), List.mem_of_getElem? (i := 1236) (by decide +kernel)⟩
theorem lw_p54 : lw_okq (⟨"LionShieldModel", "nameOf", "(I)I"⟩, 34) := ⟨⟨by decide +kernel, by decide +kernel⟩, List.mem_of_getElem? (i := 873) (by decide +kernel), List.mem_of_getElem? (i := 1239) (by decide +kernel), List.mem_of_getElem? (i := 1240) (by decide +kernel)⟩
theorem lw_p55 : lw_okq (⟨"LionShieldModel", "settle", "(I)V"⟩, 34) := ⟨⟨by decide +kernel, by decide +kernel⟩, List.mem_of_getElem? (i := 873) (by decide +kernel), List.mem_of_getElem? (i := 1243) (by decide +kernel), List.mem_of_getElem? (i := 1244) (by decide +kernel)⟩
theorem lw_p56 : lw_okq (⟨"LionShieldModel", "notsOpen", "()I"⟩, 34) := ⟨⟨by decide +kernel, by decide +kernel⟩, List.mem_of_getElem? (i := 873) (by decide +kernel), List.mem_of_getElem? (i := 1250) (by decide +kernel), List.mem_of_getElem? (i := 1251) (by decide +kernel)⟩
theorem lw_p57 : lw_okq (⟨"LionShieldModel", "signHere", "()I"⟩, 34) := ⟨⟨by decide +kernel, by decide +kernel⟩, List.mem_of_getElem? (i := 873) (by decide +kernel), List.mem_of_getElem? (i := 1254) (by decide +kernel), List.mem_of_getElem? (i := 1255) (by decide +kernel)⟩
theorem lw_p58 : lw_okq (⟨"LionShieldModel", "founders", "()I"⟩, 34) := ⟨⟨by decide +kernel, by decide +kernel⟩, List.mem_of_getElem? (i := 873) (by decide +kernel), List.mem_of_getElem? (i := 1333) (by decide +kernel), List.mem_of_getElem? (i := 1334) (by decide +kernel)⟩
def lw_privs_4 : List (MethodName × Nat) := [(⟨"LionShieldModel", "go", "()V"⟩, 34), (⟨"LionShieldModel", "isLetter", "(I)Z"⟩, 34), (⟨"LionShieldModel", "isFigure", "(I)Z"⟩, 34), (⟨"LionShieldModel", "takesKey", "()Z"⟩, 34), (⟨"LionShieldModel", "takesE", "()Z"⟩, 34), (⟨"LionShieldModel", "takesPart", "()Z"⟩, 34), (⟨"LionShieldModel", "nameOf", "(I)I"⟩, 34), (⟨"LionShieldModel", "settle", "(I)V"⟩, 34), (⟨"LionShieldModel", "notsOpen", "()I"⟩, 34), (⟨"LionShieldModel", "signHere", "()I"⟩, 34), (⟨"LionShieldModel", "founders", "()I"⟩, 34)]
theorem lw_r4 : ∀ q ∈ lw_privs_4, lw_okq q := List.forall_mem_cons.mpr ⟨lw_p48, List.forall_mem_cons.mpr ⟨lw_p49, List.forall_mem_cons.mpr ⟨lw_p50, List.forall_mem_cons.mpr ⟨lw_p51, List.forall_mem_cons.mpr ⟨lw_p52, List.forall_mem_cons.mpr ⟨lw_p53, List.forall_mem_cons.mpr ⟨lw_p54, List.forall_mem_cons.mpr ⟨lw_p55, List.forall_mem_cons.mpr ⟨lw_p56, List.forall_mem_cons.mpr ⟨lw_p57, List.forall_mem_cons.mpr ⟨lw_p58, fun _ h => absurd h List.not_mem_nil⟩⟩⟩⟩⟩⟩⟩⟩⟩⟩⟩
def lw_privs : List (MethodName × Nat) := lw_privs_1 ++ (lw_privs_2 ++ (lw_privs_3 ++ (lw_privs_4)))
def lw_tbl : List Cond := k2_sels lw_privs ++ tables_1
theorem lw_privs_ok : ∀ q ∈ lw_privs, lw_okq q := by
  show ∀ q ∈ lw_privs_1 ++ (lw_privs_2 ++ (lw_privs_3 ++ (lw_privs_4))), lw_okq q
  exact List.forall_mem_append.mpr ⟨lw_r1, List.forall_mem_append.mpr ⟨lw_r2, List.forall_mem_append.mpr ⟨lw_r3, lw_r4⟩⟩⟩
end
section
def RX0 : String := "LionShield$Land"
def TX0 : u_T := fun k => match k with
  | 0 => ("LionShield$Land", "kind", "[I", true)
  | 1 => ("LionShield$Land", "father", "[I", true)
  | 2 => ("LionShield$Land", "mother", "[I", true)
  | 3 => ("LionShield$Land", "sex", "[I", true)
  | 4 => ("LionShield$Land", "first", "[I", true)
  | 5 => ("LionShield$Land", "barred", "[I", true)
  | 6 => ("LionShield$Land", "people", "I", false)
  | 7 => ("LionShield$Land", "fertile", "I", false)
  | 8 => ("LionShield$Land", "year", "I", false)
  | 9 => ("LionShield$Land", "z", "I", false)
  | 10 => ("LionShield$Land", "laws", "[LLionShield$Law;", true)
  | _ => ("LionShield$Land", "lawCount", "I", false)
def tyX0 : Nat → FieldType := fun k => match k with
  | 0 => .array .int
  | 1 => .array .int
  | 2 => .array .int
  | 3 => .array .int
  | 4 => .array .int
  | 5 => .array .int
  | 6 => .int
  | 7 => .int
  | 8 => .int
  | 9 => .int
  | 10 => .array (.object "LionShield$Law")
  | _ => .int
abbrev wsX00 : List Cond := u_ws RX0 TX0 12
theorem nmX0 : ∀ a, a < 12 → ∀ b, b < 12 → a ≠ b → (TX0 a).2.1 ≠ (TX0 b).2.1 := by decide +kernel
theorem tyX0_ok : ∀ k, k < 12 → parseFieldDescriptor (TX0 k).2.2.1 = some (tyX0 k) := by decide +kernel
abbrev cX0_init : ByteArray := prog_2_method_1_code
def yX0_init : MethodName := ⟨RX0, "<init>", "()V"⟩
abbrev cX0_become : ByteArray := prog_2_method_2_code
def yX0_become : MethodName := ⟨RX0, "become", "(LLionShield$Land;)V"⟩
abbrev cX0_has : ByteArray := prog_2_method_3_code
def yX0_has : MethodName := ⟨RX0, "has", "(I)Z"⟩
abbrev cX0_hasRoom : ByteArray := prog_2_method_4_code
def yX0_hasRoom : MethodName := ⟨RX0, "hasRoom", "()Z"⟩
abbrev cX0_canBeParent : ByteArray := prog_2_method_5_code
def yX0_canBeParent : MethodName := ⟨RX0, "canBeParent", "(II)Z"⟩
abbrev cX0_add : ByteArray := prog_2_method_6_code
def yX0_add : MethodName := ⟨RX0, "add", "(IIIII)I"⟩
abbrev cX0_draw : ByteArray := prog_2_method_7_code
def yX0_draw : MethodName := ⟨RX0, "draw", "()I"⟩
abbrev cX0_drawFounder : ByteArray := prog_2_method_8_code
def yX0_drawFounder : MethodName := ⟨RX0, "drawFounder", "()V"⟩
abbrev cX0_passYear : ByteArray := prog_2_method_9_code
def yX0_passYear : MethodName := ⟨RX0, "passYear", "()Z"⟩
abbrev cX0_bringForth : ByteArray := prog_2_method_10_code
def yX0_bringForth : MethodName := ⟨RX0, "bringForth", "()Z"⟩
abbrev cX0_howMany : ByteArray := prog_2_method_11_code
def yX0_howMany : MethodName := ⟨RX0, "howMany", "(I)I"⟩
abbrev cX0_nthOf : ByteArray := prog_2_method_12_code
def yX0_nthOf : MethodName := ⟨RX0, "nthOf", "(II)I"⟩
abbrev cX0_founders : ByteArray := prog_2_method_13_code
def yX0_founders : MethodName := ⟨RX0, "founders", "()I"⟩
abbrev cX0_isHeiress : ByteArray := prog_2_method_14_code
def yX0_isHeiress : MethodName := ⟨RX0, "isHeiress", "(I)Z"⟩
abbrev cX0_heiresses : ByteArray := prog_2_method_15_code
def yX0_heiresses : MethodName := ⟨RX0, "heiresses", "()I"⟩
abbrev cX0_oldestFounder : ByteArray := prog_2_method_16_code
def yX0_oldestFounder : MethodName := ⟨RX0, "oldestFounder", "(II)I"⟩
abbrev cX0_bitOf : ByteArray := prog_2_method_17_code
def yX0_bitOf : MethodName := ⟨RX0, "bitOf", "(I)I"⟩
abbrev cX0_lastLaw : ByteArray := prog_2_method_18_code
def yX0_lastLaw : MethodName := ⟨RX0, "lastLaw", "(I)I"⟩
abbrev cX0_lawFor : ByteArray := prog_2_method_19_code
def yX0_lawFor : MethodName := ⟨RX0, "lawFor", "(I)LLionShield$Law;"⟩
def RX1 : String := "LionShield$Law"
def TX1 : u_T := fun k => match k with
  | 0 => ("LionShield$Law", "key", "I", true)
  | 1 => ("LionShield$Law", "leaves", "I", true)
  | _ => ("LionShield$Law", "code", "[I", true)
def tyX1 : Nat → FieldType := fun k => match k with
  | 0 => .int
  | 1 => .int
  | _ => .array .int
abbrev wsX10 : List Cond := u_ws RX1 TX1 3
theorem nmX1 : ∀ a, a < 3 → ∀ b, b < 3 → a ≠ b → (TX1 a).2.1 ≠ (TX1 b).2.1 := by decide +kernel
theorem tyX1_ok : ∀ k, k < 3 → parseFieldDescriptor (TX1 k).2.2.1 = some (tyX1 k) := by decide +kernel
abbrev cX1_init : ByteArray := prog_3_method_1_code
def yX1_init : MethodName := ⟨RX1, "<init>", "(II[I)V"⟩
abbrev cX1_give : ByteArray := prog_3_method_2_code
def yX1_give : MethodName := ⟨RX1, "give", "(III[I)I"⟩
abbrev cX1_leaf : ByteArray := prog_3_method_3_code
def yX1_leaf : MethodName := ⟨RX1, "leaf", "(IIII)I"⟩
abbrev cX1_work : ByteArray := prog_3_method_4_code
def yX1_work : MethodName := ⟨RX1, "work", "(III)I"⟩
def RX2 : String := "LionShield$Reader"
def TX2 : u_T := fun k => match k with
  | 0 => ("LionShield$Reader", "tape", "LLionShield$Tape;", true)
  | 1 => ("LionShield$Reader", "sort", "I", false)
  | 2 => ("LionShield$Reader", "start", "I", false)
  | 3 => ("LionShield$Reader", "stop", "I", false)
  | 4 => ("LionShield$Reader", "key", "I", false)
  | 5 => ("LionShield$Reader", "code", "[I", true)
  | 6 => ("LionShield$Reader", "used", "I", false)
  | 7 => ("LionShield$Reader", "leaves", "I", false)
  | 8 => ("LionShield$Reader", "parens", "I", false)
  | 9 => ("LionShield$Reader", "nots", "I", false)
  | _ => ("LionShield$Reader", "fault", "I", false)
def tyX2 : Nat → FieldType := fun k => match k with
  | 0 => .object "LionShield$Tape"
  | 1 => .int
  | 2 => .int
  | 3 => .int
  | 4 => .int
  | 5 => .array .int
  | 6 => .int
  | 7 => .int
  | 8 => .int
  | 9 => .int
  | _ => .int
abbrev wsX20 : List Cond := u_ws RX2 TX2 11
theorem nmX2 : ∀ a, a < 11 → ∀ b, b < 11 → a ≠ b → (TX2 a).2.1 ≠ (TX2 b).2.1 := by decide +kernel
theorem tyX2_ok : ∀ k, k < 11 → parseFieldDescriptor (TX2 k).2.2.1 = some (tyX2 k) := by decide +kernel
abbrev cX2_init : ByteArray := prog_4_method_1_code
def yX2_init : MethodName := ⟨RX2, "<init>", "()V"⟩
abbrev cX2_readTape : ByteArray := prog_4_method_2_code
def yX2_readTape : MethodName := ⟨RX2, "readTape", "()V"⟩
abbrev cX2_lawRead : ByteArray := prog_4_method_3_code
def yX2_lawRead : MethodName := ⟨RX2, "lawRead", "()LLionShield$Law;"⟩
abbrev cX2_fail : ByteArray := prog_4_method_4_code
def yX2_fail : MethodName := ⟨RX2, "fail", "()V"⟩
abbrev cX2_advance : ByteArray := prog_4_method_5_code
def yX2_advance : MethodName := ⟨RX2, "advance", "()V"⟩
abbrev cX2_sortOf : ByteArray := prog_4_method_6_code
def yX2_sortOf : MethodName := ⟨RX2, "sortOf", "(I)I"⟩
abbrev cX2_keyHere : ByteArray := prog_4_method_7_code
def yX2_keyHere : MethodName := ⟨RX2, "keyHere", "()I"⟩
abbrev cX2_isWord : ByteArray := prog_4_method_8_code
def yX2_isWord : MethodName := ⟨RX2, "isWord", "(Ljava/lang/String;)Z"⟩
abbrev cX2_isSign : ByteArray := prog_4_method_9_code
def yX2_isSign : MethodName := ⟨RX2, "isSign", "(I)Z"⟩
abbrev cX2_levelHere : ByteArray := prog_4_method_10_code
def yX2_levelHere : MethodName := ⟨RX2, "levelHere", "()I"⟩
abbrev cX2_readLevel : ByteArray := prog_4_method_11_code
def yX2_readLevel : MethodName := ⟨RX2, "readLevel", "(I)V"⟩
abbrev cX2_readPiece : ByteArray := prog_4_method_12_code
def yX2_readPiece : MethodName := ⟨RX2, "readPiece", "()V"⟩
abbrev cX2_readClosing : ByteArray := prog_4_method_13_code
def yX2_readClosing : MethodName := ⟨RX2, "readClosing", "()V"⟩
abbrev cX2_readLeaf : ByteArray := prog_4_method_14_code
def yX2_readLeaf : MethodName := ⟨RX2, "readLeaf", "()V"⟩
abbrev cX2_numberHere : ByteArray := prog_4_method_15_code
def yX2_numberHere : MethodName := ⟨RX2, "numberHere", "()I"⟩
abbrev cX2_nameHere : ByteArray := prog_4_method_16_code
def yX2_nameHere : MethodName := ⟨RX2, "nameHere", "()I"⟩
abbrev cX2_write : ByteArray := prog_4_method_17_code
def yX2_write : MethodName := ⟨RX2, "write", "(I)V"⟩
def RX3 : String := "LionShield$Row"
def TX3 : u_T := fun k => match k with
  | 0 => ("LionShield$Row", "sort", "I", false)
  | 1 => ("LionShield$Row", "length", "I", false)
  | _ => ("LionShield$Row", "places", "[I", true)
def tyX3 : Nat → FieldType := fun k => match k with
  | 0 => .int
  | 1 => .int
  | _ => .array .int
abbrev wsX30 : List Cond := u_ws RX3 TX3 3
theorem nmX3 : ∀ a, a < 3 → ∀ b, b < 3 → a ≠ b → (TX3 a).2.1 ≠ (TX3 b).2.1 := by decide +kernel
theorem tyX3_ok : ∀ k, k < 3 → parseFieldDescriptor (TX3 k).2.2.1 = some (tyX3 k) := by decide +kernel
abbrev cX3_init : ByteArray := prog_5_method_1_code
def yX3_init : MethodName := ⟨RX3, "<init>", "()V"⟩
abbrev cX3_beginAs : ByteArray := prog_5_method_2_code
def yX3_beginAs : MethodName := ⟨RX3, "beginAs", "(II)V"⟩
abbrev cX3_become : ByteArray := prog_5_method_3_code
def yX3_become : MethodName := ⟨RX3, "become", "(LLionShield$Row;)V"⟩
abbrev cX3_isMissing : ByteArray := prog_5_method_4_code
def yX3_isMissing : MethodName := ⟨RX3, "isMissing", "()Z"⟩
abbrev cX3_hasPlace : ByteArray := prog_5_method_5_code
def yX3_hasPlace : MethodName := ⟨RX3, "hasPlace", "(I)Z"⟩
abbrev cX3_hasSpan : ByteArray := prog_5_method_6_code
def yX3_hasSpan : MethodName := ⟨RX3, "hasSpan", "(II)Z"⟩
abbrev cX3_isNumber : ByteArray := prog_5_method_7_code
def yX3_isNumber : MethodName := ⟨RX3, "isNumber", "(I)Z"⟩
def RX4 : String := "LionShield$Shields"
def TX4 : u_T := fun k => match k with
  | 0 => ("LionShield$Shields", "unbarred", "[I", true)
  | 1 => ("LionShield$Shields", "pack", "[J", true)
  | 2 => ("LionShield$Shields", "stack", "[I", true)
  | 3 => ("LionShield$Shields", "land", "LLionShield$Land;", false)
  | 4 => ("LionShield$Shields", "join", "LLionShield$Law;", false)
  | _ => ("LionShield$Shields", "heiresses", "I", false)
def tyX4 : Nat → FieldType := fun k => match k with
  | 0 => .array .int
  | 1 => .array .long
  | 2 => .array .int
  | 3 => .object "LionShield$Land"
  | 4 => .object "LionShield$Law"
  | _ => .int
abbrev wsX40 : List Cond := u_ws RX4 TX4 6
theorem nmX4 : ∀ a, a < 6 → ∀ b, b < 6 → a ≠ b → (TX4 a).2.1 ≠ (TX4 b).2.1 := by decide +kernel
theorem tyX4_ok : ∀ k, k < 6 → parseFieldDescriptor (TX4 k).2.2.1 = some (tyX4 k) := by decide +kernel
abbrev cX4_init : ByteArray := prog_6_method_1_code
def yX4_init : MethodName := ⟨RX4, "<init>", "()V"⟩
abbrev cX4_lookAt : ByteArray := prog_6_method_2_code
def yX4_lookAt : MethodName := ⟨RX4, "lookAt", "(LLionShield$Land;)V"⟩
abbrev cX4_workOutAll : ByteArray := prog_6_method_3_code
def yX4_workOutAll : MethodName := ⟨RX4, "workOutAll", "(LLionShield$Land;)V"⟩
abbrev cX4_workOut : ByteArray := prog_6_method_4_code
def yX4_workOut : MethodName := ⟨RX4, "workOut", "(I)V"⟩
abbrev cX4_byKind : ByteArray := prog_6_method_5_code
def yX4_byKind : MethodName := ⟨RX4, "byKind", "(III)I"⟩
abbrev cX4_asHeir : ByteArray := prog_6_method_6_code
def yX4_asHeir : MethodName := ⟨RX4, "asHeir", "(II)I"⟩
abbrev cX4_joined : ByteArray := prog_6_method_7_code
def yX4_joined : MethodName := ⟨RX4, "joined", "(III)I"⟩
abbrev cX4_hidden : ByteArray := prog_6_method_8_code
def yX4_hidden : MethodName := ⟨RX4, "hidden", "(II)I"⟩
abbrev cX4_shown : ByteArray := prog_6_method_9_code
def yX4_shown : MethodName := ⟨RX4, "shown", "(II)I"⟩
abbrev cX4_packed : ByteArray := prog_6_method_10_code
def yX4_packed : MethodName := ⟨RX4, "packed", "(I)J"⟩
abbrev cX4_clashes : ByteArray := prog_6_method_11_code
def yX4_clashes : MethodName := ⟨RX4, "clashes", "()I"⟩
abbrev cX4_together : ByteArray := prog_6_method_12_code
def yX4_together : MethodName := ⟨RX4, "together", "(I)I"⟩
abbrev cX4_bearersOf : ByteArray := prog_6_method_13_code
def yX4_bearersOf : MethodName := ⟨RX4, "bearersOf", "(II)I"⟩
abbrev cX4_apart : ByteArray := prog_6_method_14_code
def yX4_apart : MethodName := ⟨RX4, "apart", "(ILLionShield$Row;)I"⟩
def RX5 : String := "LionShield$Slot"
def TX5 : u_T := fun k => match k with
  | 0 => ("LionShield$Slot", "holds", "I", false)
  | 1 => ("LionShield$Slot", "kind", "I", false)
  | 2 => ("LionShield$Slot", "first", "I", false)
  | 3 => ("LionShield$Slot", "number", "I", false)
  | _ => ("LionShield$Slot", "row", "LLionShield$Row;", true)
def tyX5 : Nat → FieldType := fun k => match k with
  | 0 => .int
  | 1 => .int
  | 2 => .int
  | 3 => .int
  | _ => .object "LionShield$Row"
abbrev wsX50 : List Cond := u_ws RX5 TX5 5
theorem nmX5 : ∀ a, a < 5 → ∀ b, b < 5 → a ≠ b → (TX5 a).2.1 ≠ (TX5 b).2.1 := by decide +kernel
theorem tyX5_ok : ∀ k, k < 5 → parseFieldDescriptor (TX5 k).2.2.1 = some (tyX5 k) := by decide +kernel
abbrev cX5_init : ByteArray := prog_7_method_1_code
def yX5_init : MethodName := ⟨RX5, "<init>", "()V"⟩
def RX6 : String := "LionShield$Tape"
def TX6 : u_T := fun k => match k with
  | 0 => ("LionShield$Tape", "bytes", "[I", true)
  | _ => ("LionShield$Tape", "length", "I", false)
def tyX6 : Nat → FieldType := fun k => match k with
  | 0 => .array .int
  | _ => .int
abbrev wsX60 : List Cond := u_ws RX6 TX6 2
theorem nmX6 : ∀ a, a < 2 → ∀ b, b < 2 → a ≠ b → (TX6 a).2.1 ≠ (TX6 b).2.1 := by decide +kernel
theorem tyX6_ok : ∀ k, k < 2 → parseFieldDescriptor (TX6 k).2.2.1 = some (tyX6 k) := by decide +kernel
abbrev cX6_init : ByteArray := prog_8_method_1_code
def yX6_init : MethodName := ⟨RX6, "<init>", "()V"⟩
abbrev cX6_take : ByteArray := prog_8_method_2_code
def yX6_take : MethodName := ⟨RX6, "take", "(I)V"⟩
abbrev cX6_at : ByteArray := prog_8_method_3_code
def yX6_at : MethodName := ⟨RX6, "at", "(I)I"⟩
def RX7 : String := "LionShield"
def TX7 : u_T := fun k => match k with
  | 0 => ("LionShield", "now", "LLionShield$Land;", true)
  | 1 => ("LionShield", "image", "LLionShield$Land;", true)
  | 2 => ("LionShield", "imageKept", "Z", false)
  | 3 => ("LionShield", "thought", "LLionShield$Land;", true)
  | 4 => ("LionShield", "shields", "LLionShield$Shields;", true)
  | 5 => ("LionShield", "reader", "LLionShield$Reader;", true)
  | 6 => ("LionShield", "rows", "[LLionShield$Row;", true)
  | 7 => ("LionShield", "slots", "[LLionShield$Slot;", true)
  | 8 => ("LionShield", "waiting", "[I", true)
  | 9 => ("LionShield", "waits", "I", false)
  | _ => ("LionShield", "stack", "[I", true)
def tyX7 : Nat → FieldType := fun k => match k with
  | 0 => .object "LionShield$Land"
  | 1 => .object "LionShield$Land"
  | 2 => .boolean
  | 3 => .object "LionShield$Land"
  | 4 => .object "LionShield$Shields"
  | 5 => .object "LionShield$Reader"
  | 6 => .array (.object "LionShield$Row")
  | 7 => .array (.object "LionShield$Slot")
  | 8 => .array .int
  | 9 => .int
  | _ => .array .int
abbrev wsX70 : List Cond := u_ws RX7 TX7 11
theorem nmX7 : ∀ a, a < 11 → ∀ b, b < 11 → a ≠ b → (TX7 a).2.1 ≠ (TX7 b).2.1 := by decide +kernel
theorem tyX7_ok : ∀ k, k < 11 → parseFieldDescriptor (TX7 k).2.2.1 = some (tyX7 k) := by decide +kernel
abbrev cX7_init : ByteArray := prog_1_method_1_code
def yX7_init : MethodName := ⟨RX7, "<init>", "()V"⟩
abbrev cX7_person : ByteArray := prog_1_method_2_code
def yX7_person : MethodName := ⟨RX7, "person", "(IIIII)I"⟩
abbrev cX7_told : ByteArray := prog_1_method_3_code
def yX7_told : MethodName := ⟨RX7, "told", "(II)I"⟩
abbrev cX7_bears : ByteArray := prog_1_method_4_code
def yX7_bears : MethodName := ⟨RX7, "bears", "(II)I"⟩
abbrev cX7_as : ByteArray := prog_1_method_5_code
def yX7_as : MethodName := ⟨RX7, "as", "(II)I"⟩
abbrev cX7_turns : ByteArray := prog_1_method_6_code
def yX7_turns : MethodName := ⟨RX7, "turns", "(II)I"⟩
abbrev cX7_set : ByteArray := prog_1_method_7_code
def yX7_set : MethodName := ⟨RX7, "set", "(III)I"⟩
abbrev cX7_fertile : ByteArray := prog_1_method_8_code
def yX7_fertile : MethodName := ⟨RX7, "fertile", "(I)I"⟩
abbrev cX7_deal : ByteArray := prog_1_method_9_code
def yX7_deal : MethodName := ⟨RX7, "deal", "(I)I"⟩
abbrev cX7_seed : ByteArray := prog_1_method_10_code
def yX7_seed : MethodName := ⟨RX7, "seed", "(I)I"⟩
abbrev cX7_years : ByteArray := prog_1_method_11_code
def yX7_years : MethodName := ⟨RX7, "years", "(I)I"⟩
abbrev cX7_alike : ByteArray := prog_1_method_12_code
def yX7_alike : MethodName := ⟨RX7, "alike", "(II)I"⟩
abbrev cX7_land : ByteArray := prog_1_method_13_code
def yX7_land : MethodName := ⟨RX7, "land", "(I)I"⟩
abbrev cX7_sixteenth : ByteArray := prog_1_method_14_code
def yX7_sixteenth : MethodName := ⟨RX7, "sixteenth", "(I)I"⟩
abbrev cX7_from : ByteArray := prog_1_method_15_code
def yX7_from : MethodName := ⟨RX7, "from", "(II)I"⟩
abbrev cX7_match : ByteArray := prog_1_method_16_code
def yX7_match : MethodName := ⟨RX7, "match", "(III)I"⟩
abbrev cX7_repaint : ByteArray := prog_1_method_17_code
def yX7_repaint : MethodName := ⟨RX7, "repaint", "()I"⟩
abbrev cX7_behind : ByteArray := prog_1_method_18_code
def yX7_behind : MethodName := ⟨RX7, "behind", "(II)I"⟩
abbrev cX7_born : ByteArray := prog_1_method_19_code
def yX7_born : MethodName := ⟨RX7, "born", "()I"⟩
abbrev cX7_gone : ByteArray := prog_1_method_20_code
def yX7_gone : MethodName := ⟨RX7, "gone", "(II)I"⟩
abbrev cX7_spoon : ByteArray := prog_1_method_21_code
def yX7_spoon : MethodName := ⟨RX7, "spoon", "(II)I"⟩
abbrev cX7_fee : ByteArray := prog_1_method_22_code
def yX7_fee : MethodName := ⟨RX7, "fee", "()I"⟩
abbrev cX7_fine : ByteArray := prog_1_method_23_code
def yX7_fine : MethodName := ⟨RX7, "fine", "(I)I"⟩
abbrev cX7_feed : ByteArray := prog_1_method_24_code
def yX7_feed : MethodName := ⟨RX7, "feed", "(III)I"⟩
abbrev cX7_trim : ByteArray := prog_1_method_25_code
def yX7_trim : MethodName := ⟨RX7, "trim", "(I)I"⟩
abbrev cX7_text : ByteArray := prog_1_method_26_code
def yX7_text : MethodName := ⟨RX7, "text", "()I"⟩
abbrev cX7_textTold : ByteArray := prog_1_method_27_code
def yX7_textTold : MethodName := ⟨RX7, "textTold", "(II)I"⟩
abbrev cX7_why : ByteArray := prog_1_method_28_code
def yX7_why : MethodName := ⟨RX7, "why", "(I)I"⟩
abbrev cX7_sheet : ByteArray := prog_1_method_29_code
def yX7_sheet : MethodName := ⟨RX7, "sheet", "(III)I"⟩
abbrev cX7_mark : ByteArray := prog_1_method_30_code
def yX7_mark : MethodName := ⟨RX7, "mark", "(III)I"⟩
abbrev cX7_pour : ByteArray := prog_1_method_31_code
def yX7_pour : MethodName := ⟨RX7, "pour", "(I)I"⟩
abbrev cX7_reads : ByteArray := prog_1_method_32_code
def yX7_reads : MethodName := ⟨RX7, "reads", "(I)I"⟩
abbrev cX7_copy : ByteArray := prog_1_method_33_code
def yX7_copy : MethodName := ⟨RX7, "copy", "(IIIII)I"⟩
abbrev cX7_lay : ByteArray := prog_1_method_34_code
def yX7_lay : MethodName := ⟨RX7, "lay", "(III)I"⟩
abbrev cX7_ask : ByteArray := prog_1_method_35_code
def yX7_ask : MethodName := ⟨RX7, "ask", "(II)I"⟩
abbrev cX7_item : ByteArray := prog_1_method_36_code
def yX7_item : MethodName := ⟨RX7, "item", "(II)I"⟩
abbrev cX7_rest : ByteArray := prog_1_method_37_code
def yX7_rest : MethodName := ⟨RX7, "rest", "(II)I"⟩
abbrev cX7_tell : ByteArray := prog_1_method_38_code
def yX7_tell : MethodName := ⟨RX7, "tell", "(I)I"⟩
abbrev cX7_check : ByteArray := prog_1_method_39_code
def yX7_check : MethodName := ⟨RX7, "check", "(I)I"⟩
abbrev cX7_keep : ByteArray := prog_1_method_40_code
def yX7_keep : MethodName := ⟨RX7, "keep", "()I"⟩
abbrev cX7_back : ByteArray := prog_1_method_41_code
def yX7_back : MethodName := ⟨RX7, "back", "()I"⟩
abbrev cX7_count : ByteArray := prog_1_method_42_code
def yX7_count : MethodName := ⟨RX7, "count", "(I)I"⟩
abbrev cX7_think : ByteArray := prog_1_method_43_code
def yX7_think : MethodName := ⟨RX7, "think", "(I)V"⟩
abbrev cX7_allBear : ByteArray := prog_1_method_44_code
def yX7_allBear : MethodName := ⟨RX7, "allBear", "(LLionShield$Land;I)I"⟩
abbrev cX7_repaintThought : ByteArray := prog_1_method_45_code
def yX7_repaintThought : MethodName := ⟨RX7, "repaintThought", "(II)V"⟩
abbrev cX7_isWaiting : ByteArray := prog_1_method_46_code
def yX7_isWaiting : MethodName := ⟨RX7, "isWaiting", "(III)Z"⟩
abbrev cX7_isKind : ByteArray := prog_1_method_47_code
def yX7_isKind : MethodName := ⟨RX7, "isKind", "(I)Z"⟩
abbrev cX7_isCharge : ByteArray := prog_1_method_48_code
def yX7_isCharge : MethodName := ⟨RX7, "isCharge", "(I)Z"⟩
abbrev cX7_isSheet : ByteArray := prog_1_method_49_code
def yX7_isSheet : MethodName := ⟨RX7, "isSheet", "(I)Z"⟩
abbrev cX7_isSlot : ByteArray := prog_1_method_50_code
def yX7_isSlot : MethodName := ⟨RX7, "isSlot", "(I)Z"⟩
abbrev cX7_within : ByteArray := prog_1_method_51_code
def yX7_within : MethodName := ⟨RX7, "within", "(III)I"⟩
abbrev cX7_isOfKind : ByteArray := prog_1_method_52_code
def yX7_isOfKind : MethodName := ⟨RX7, "isOfKind", "(II)Z"⟩
abbrev cX7_worthOf : ByteArray := prog_1_method_53_code
def yX7_worthOf : MethodName := ⟨RX7, "worthOf", "(II)I"⟩
def RX8 : String := "LionShieldModel"
def TX8 : u_T := fun k => match k with
  | 0 => ("LionShieldModel", "now", "[I", true)
  | 1 => ("LionShieldModel", "image", "[I", true)
  | 2 => ("LionShieldModel", "aside", "[I", true)
  | 3 => ("LionShieldModel", "hasImage", "Z", false)
  | 4 => ("LionShieldModel", "parts", "[I", true)
  | 5 => ("LionShieldModel", "before", "[I", true)
  | 6 => ("LionShieldModel", "tape", "[I", true)
  | 7 => ("LionShieldModel", "taped", "I", false)
  | 8 => ("LionShieldModel", "next", "I", false)
  | 9 => ("LionShieldModel", "from", "I", false)
  | 10 => ("LionShieldModel", "token", "I", false)
  | 11 => ("LionShieldModel", "value", "I", false)
  | 12 => ("LionShieldModel", "ended", "I", false)
  | 13 => ("LionShieldModel", "key", "I", false)
  | 14 => ("LionShieldModel", "keys", "[C", true)
  | 15 => ("LionShieldModel", "keyAt", "[I", true)
  | 16 => ("LionShieldModel", "code", "[I", true)
  | 17 => ("LionShieldModel", "codes", "I", false)
  | 18 => ("LionShieldModel", "atoms", "I", false)
  | 19 => ("LionShieldModel", "waits", "[I", true)
  | 20 => ("LionShieldModel", "held", "I", false)
  | 21 => ("LionShieldModel", "tested", "[Z", true)
  | 22 => ("LionShieldModel", "stack", "[I", true)
  | 23 => ("LionShieldModel", "facts", "[I", true)
  | 24 => ("LionShieldModel", "sorts", "[I", true)
  | 25 => ("LionShieldModel", "sizes", "[I", true)
  | 26 => ("LionShieldModel", "cells", "[I", true)
  | 27 => ("LionShieldModel", "holds", "[I", true)
  | 28 => ("LionShieldModel", "holdsA", "[I", true)
  | 29 => ("LionShieldModel", "holdsB", "[I", true)
  | 30 => ("LionShieldModel", "heldCells", "[I", true)
  | 31 => ("LionShieldModel", "moved", "[I", true)
  | 32 => ("LionShieldModel", "tells", "[I", true)
  | _ => ("LionShieldModel", "waiting", "I", false)
def tyX8 : Nat → FieldType := fun k => match k with
  | 0 => .array .int
  | 1 => .array .int
  | 2 => .array .int
  | 3 => .boolean
  | 4 => .array .int
  | 5 => .array .int
  | 6 => .array .int
  | 7 => .int
  | 8 => .int
  | 9 => .int
  | 10 => .int
  | 11 => .int
  | 12 => .int
  | 13 => .int
  | 14 => .array .char
  | 15 => .array .int
  | 16 => .array .int
  | 17 => .int
  | 18 => .int
  | 19 => .array .int
  | 20 => .int
  | 21 => .array .boolean
  | 22 => .array .int
  | 23 => .array .int
  | 24 => .array .int
  | 25 => .array .int
  | 26 => .array .int
  | 27 => .array .int
  | 28 => .array .int
  | 29 => .array .int
  | 30 => .array .int
  | 31 => .array .int
  | 32 => .array .int
  | _ => .int
abbrev wsX80 : List Cond := u_ws RX8 TX8 34
theorem nmX8 : ∀ a, a < 34 → ∀ b, b < 34 → a ≠ b → (TX8 a).2.1 ≠ (TX8 b).2.1 := by decide +kernel
theorem tyX8_ok : ∀ k, k < 34 → parseFieldDescriptor (TX8 k).2.2.1 = some (tyX8 k) := by decide +kernel
abbrev cX8_init : ByteArray := prog_10_method_1_code
def yX8_init : MethodName := ⟨RX8, "<init>", "()V"⟩
abbrev cX8_in : ByteArray := prog_10_method_2_code
def yX8_in : MethodName := ⟨RX8, "in", "(III)Z"⟩
abbrev cX8_within : ByteArray := prog_10_method_3_code
def yX8_within : MethodName := ⟨RX8, "within", "(III)I"⟩
abbrev cX8_copyAll : ByteArray := prog_10_method_4_code
def yX8_copyAll : MethodName := ⟨RX8, "copyAll", "([I[I)V"⟩
abbrev cX8_told0 : ByteArray := prog_10_method_5_code
def yX8_told0 : MethodName := ⟨RX8, "told0", "(I)I"⟩
abbrev cX8_isOne : ByteArray := prog_10_method_6_code
def yX8_isOne : MethodName := ⟨RX8, "isOne", "(I)Z"⟩
abbrev cX8_isCharge : ByteArray := prog_10_method_7_code
def yX8_isCharge : MethodName := ⟨RX8, "isCharge", "(I)Z"⟩
abbrev cX8_of : ByteArray := prog_10_method_8_code
def yX8_of : MethodName := ⟨RX8, "of", "(II)I"⟩
abbrev cX8_becomes : ByteArray := prog_10_method_9_code
def yX8_becomes : MethodName := ⟨RX8, "becomes", "(II)I"⟩
abbrev cX8_comes : ByteArray := prog_10_method_10_code
def yX8_comes : MethodName := ⟨RX8, "comes", "(IIIII)I"⟩
abbrev cX8_mayBe : ByteArray := prog_10_method_11_code
def yX8_mayBe : MethodName := ⟨RX8, "mayBe", "(II)Z"⟩
abbrev cX8_person : ByteArray := prog_10_method_12_code
def yX8_person : MethodName := ⟨RX8, "person", "(IIIII)I"⟩
abbrev cX8_isHeiress : ByteArray := prog_10_method_13_code
def yX8_isHeiress : MethodName := ⟨RX8, "isHeiress", "(I)Z"⟩
abbrev cX8_worthOf : ByteArray := prog_10_method_14_code
def yX8_worthOf : MethodName := ⟨RX8, "worthOf", "(I)I"⟩
abbrev cX8_told : ByteArray := prog_10_method_15_code
def yX8_told : MethodName := ⟨RX8, "told", "(II)I"⟩
abbrev cX8_joined : ByteArray := prog_10_method_16_code
def yX8_joined : MethodName := ⟨RX8, "joined", "(III)I"⟩
abbrev cX8_childOf : ByteArray := prog_10_method_17_code
def yX8_childOf : MethodName := ⟨RX8, "childOf", "(III)I"⟩
abbrev cX8_worksPart : ByteArray := prog_10_method_18_code
def yX8_worksPart : MethodName := ⟨RX8, "worksPart", "(II)I"⟩
abbrev cX8_worksOf : ByteArray := prog_10_method_19_code
def yX8_worksOf : MethodName := ⟨RX8, "worksOf", "(I)V"⟩
abbrev cX8_worksAll : ByteArray := prog_10_method_20_code
def yX8_worksAll : MethodName := ⟨RX8, "worksAll", "()V"⟩
abbrev cX8_borne : ByteArray := prog_10_method_21_code
def yX8_borne : MethodName := ⟨RX8, "borne", "(II)I"⟩
abbrev cX8_bears : ByteArray := prog_10_method_22_code
def yX8_bears : MethodName := ⟨RX8, "bears", "(II)I"⟩
abbrev cX8_isUnder : ByteArray := prog_10_method_23_code
def yX8_isUnder : MethodName := ⟨RX8, "isUnder", "(II)Z"⟩
abbrev cX8_as : ByteArray := prog_10_method_24_code
def yX8_as : MethodName := ⟨RX8, "as", "(II)I"⟩
abbrev cX8_turns : ByteArray := prog_10_method_25_code
def yX8_turns : MethodName := ⟨RX8, "turns", "(II)I"⟩
abbrev cX8_set : ByteArray := prog_10_method_26_code
def yX8_set : MethodName := ⟨RX8, "set", "(III)I"⟩
abbrev cX8_fertile : ByteArray := prog_10_method_27_code
def yX8_fertile : MethodName := ⟨RX8, "fertile", "(I)I"⟩
abbrev cX8_draw : ByteArray := prog_10_method_28_code
def yX8_draw : MethodName := ⟨RX8, "draw", "()I"⟩
abbrev cX8_deal : ByteArray := prog_10_method_29_code
def yX8_deal : MethodName := ⟨RX8, "deal", "(I)I"⟩
abbrev cX8_seed : ByteArray := prog_10_method_30_code
def yX8_seed : MethodName := ⟨RX8, "seed", "(I)I"⟩
abbrev cX8_manyOf : ByteArray := prog_10_method_31_code
def yX8_manyOf : MethodName := ⟨RX8, "manyOf", "(I)I"⟩
abbrev cX8_numberOf : ByteArray := prog_10_method_32_code
def yX8_numberOf : MethodName := ⟨RX8, "numberOf", "(II)I"⟩
abbrev cX8_year : ByteArray := prog_10_method_33_code
def yX8_year : MethodName := ⟨RX8, "year", "()V"⟩
abbrev cX8_goesOn : ByteArray := prog_10_method_34_code
def yX8_goesOn : MethodName := ⟨RX8, "goesOn", "(I)V"⟩
abbrev cX8_years : ByteArray := prog_10_method_35_code
def yX8_years : MethodName := ⟨RX8, "years", "(I)I"⟩
abbrev cX8_areAlike : ByteArray := prog_10_method_36_code
def yX8_areAlike : MethodName := ⟨RX8, "areAlike", "(II)Z"⟩
abbrev cX8_alike : ByteArray := prog_10_method_37_code
def yX8_alike : MethodName := ⟨RX8, "alike", "(II)I"⟩
abbrev cX8_clashes : ByteArray := prog_10_method_38_code
def yX8_clashes : MethodName := ⟨RX8, "clashes", "()I"⟩
abbrev cX8_land : ByteArray := prog_10_method_39_code
def yX8_land : MethodName := ⟨RX8, "land", "(I)I"⟩
abbrev cX8_sixteenth : ByteArray := prog_10_method_40_code
def yX8_sixteenth : MethodName := ⟨RX8, "sixteenth", "(I)I"⟩
abbrev cX8_from : ByteArray := prog_10_method_41_code
def yX8_from : MethodName := ⟨RX8, "from", "(II)I"⟩
abbrev cX8_match : ByteArray := prog_10_method_42_code
def yX8_match : MethodName := ⟨RX8, "match", "(III)I"⟩
abbrev cX8_repaint : ByteArray := prog_10_method_43_code
def yX8_repaint : MethodName := ⟨RX8, "repaint", "()I"⟩
abbrev cX8_thinks : ByteArray := prog_10_method_44_code
def yX8_thinks : MethodName := ⟨RX8, "thinks", "()V"⟩
abbrev cX8_putsBack : ByteArray := prog_10_method_45_code
def yX8_putsBack : MethodName := ⟨RX8, "putsBack", "()V"⟩
abbrev cX8_allBear : ByteArray := prog_10_method_46_code
def yX8_allBear : MethodName := ⟨RX8, "allBear", "(I)I"⟩
abbrev cX8_behind : ByteArray := prog_10_method_47_code
def yX8_behind : MethodName := ⟨RX8, "behind", "(II)I"⟩
abbrev cX8_born : ByteArray := prog_10_method_48_code
def yX8_born : MethodName := ⟨RX8, "born", "()I"⟩
abbrev cX8_gone : ByteArray := prog_10_method_49_code
def yX8_gone : MethodName := ⟨RX8, "gone", "(II)I"⟩
abbrev cX8_offBy : ByteArray := prog_10_method_50_code
def yX8_offBy : MethodName := ⟨RX8, "offBy", "(II)J"⟩
abbrev cX8_spoon : ByteArray := prog_10_method_51_code
def yX8_spoon : MethodName := ⟨RX8, "spoon", "(II)I"⟩
abbrev cX8_fee : ByteArray := prog_10_method_52_code
def yX8_fee : MethodName := ⟨RX8, "fee", "()I"⟩
abbrev cX8_fine : ByteArray := prog_10_method_53_code
def yX8_fine : MethodName := ⟨RX8, "fine", "(I)I"⟩
abbrev cX8_feed : ByteArray := prog_10_method_54_code
def yX8_feed : MethodName := ⟨RX8, "feed", "(III)I"⟩
abbrev cX8_trim : ByteArray := prog_10_method_55_code
def yX8_trim : MethodName := ⟨RX8, "trim", "(I)I"⟩
abbrev cX8_isLetter : ByteArray := prog_10_method_56_code
def yX8_isLetter : MethodName := ⟨RX8, "isLetter", "(I)Z"⟩
abbrev cX8_isFigure : ByteArray := prog_10_method_57_code
def yX8_isFigure : MethodName := ⟨RX8, "isFigure", "(I)Z"⟩
abbrev cX8_go : ByteArray := prog_10_method_58_code
def yX8_go : MethodName := ⟨RX8, "go", "()V"⟩
abbrev cX8_takesKey : ByteArray := prog_10_method_59_code
def yX8_takesKey : MethodName := ⟨RX8, "takesKey", "()Z"⟩
abbrev cX8_nameOf : ByteArray := prog_10_method_60_code
def yX8_nameOf : MethodName := ⟨RX8, "nameOf", "(I)I"⟩
abbrev cX8_rank : ByteArray := prog_10_method_61_code
def yX8_rank : MethodName := ⟨RX8, "rank", "(I)I"⟩
abbrev cX8_settle : ByteArray := prog_10_method_62_code
def yX8_settle : MethodName := ⟨RX8, "settle", "(I)V"⟩
abbrev cX8_signHere : ByteArray := prog_10_method_63_code
def yX8_signHere : MethodName := ⟨RX8, "signHere", "()I"⟩
abbrev cX8_takesPart : ByteArray := prog_10_method_64_code
def yX8_takesPart : MethodName := ⟨RX8, "takesPart", "()Z"⟩
abbrev cX8_takesE : ByteArray := prog_10_method_65_code
def yX8_takesE : MethodName := ⟨RX8, "takesE", "()Z"⟩
abbrev cX8_notsOpen : ByteArray := prog_10_method_66_code
def yX8_notsOpen : MethodName := ⟨RX8, "notsOpen", "()I"⟩
abbrev cX8_text : ByteArray := prog_10_method_67_code
def yX8_text : MethodName := ⟨RX8, "text", "()I"⟩
abbrev cX8_textTold : ByteArray := prog_10_method_68_code
def yX8_textTold : MethodName := ⟨RX8, "textTold", "(II)I"⟩
abbrev cX8_counts : ByteArray := prog_10_method_69_code
def yX8_counts : MethodName := ⟨RX8, "counts", "(I)I"⟩
abbrev cX8_why : ByteArray := prog_10_method_70_code
def yX8_why : MethodName := ⟨RX8, "why", "(I)I"⟩
abbrev cX8_two : ByteArray := prog_10_method_71_code
def yX8_two : MethodName := ⟨RX8, "two", "(III)I"⟩
abbrev cX8_worksOut : ByteArray := prog_10_method_72_code
def yX8_worksOut : MethodName := ⟨RX8, "worksOut", "(I)I"⟩
abbrev cX8_isSheet : ByteArray := prog_10_method_73_code
def yX8_isSheet : MethodName := ⟨RX8, "isSheet", "(I)Z"⟩
abbrev cX8_isSlot : ByteArray := prog_10_method_74_code
def yX8_isSlot : MethodName := ⟨RX8, "isSlot", "(I)Z"⟩
abbrev cX8_sheet : ByteArray := prog_10_method_75_code
def yX8_sheet : MethodName := ⟨RX8, "sheet", "(III)I"⟩
abbrev cX8_mark : ByteArray := prog_10_method_76_code
def yX8_mark : MethodName := ⟨RX8, "mark", "(III)I"⟩
abbrev cX8_pour : ByteArray := prog_10_method_77_code
def yX8_pour : MethodName := ⟨RX8, "pour", "(I)I"⟩
abbrev cX8_reads : ByteArray := prog_10_method_78_code
def yX8_reads : MethodName := ⟨RX8, "reads", "(I)I"⟩
abbrev cX8_copy : ByteArray := prog_10_method_79_code
def yX8_copy : MethodName := ⟨RX8, "copy", "(IIIII)I"⟩
abbrev cX8_lay : ByteArray := prog_10_method_80_code
def yX8_lay : MethodName := ⟨RX8, "lay", "(III)I"⟩
abbrev cX8_ask : ByteArray := prog_10_method_81_code
def yX8_ask : MethodName := ⟨RX8, "ask", "(II)I"⟩
abbrev cX8_item : ByteArray := prog_10_method_82_code
def yX8_item : MethodName := ⟨RX8, "item", "(II)I"⟩
abbrev cX8_rest : ByteArray := prog_10_method_83_code
def yX8_rest : MethodName := ⟨RX8, "rest", "(II)I"⟩
abbrev cX8_tell : ByteArray := prog_10_method_84_code
def yX8_tell : MethodName := ⟨RX8, "tell", "(I)I"⟩
abbrev cX8_check : ByteArray := prog_10_method_85_code
def yX8_check : MethodName := ⟨RX8, "check", "(I)I"⟩
abbrev cX8_keep : ByteArray := prog_10_method_86_code
def yX8_keep : MethodName := ⟨RX8, "keep", "()I"⟩
abbrev cX8_back : ByteArray := prog_10_method_87_code
def yX8_back : MethodName := ⟨RX8, "back", "()I"⟩
abbrev cX8_founders : ByteArray := prog_10_method_88_code
def yX8_founders : MethodName := ⟨RX8, "founders", "()I"⟩
abbrev cX8_count : ByteArray := prog_10_method_89_code
def yX8_count : MethodName := ⟨RX8, "count", "(I)I"⟩
def RJ11 : String := "java/lang/Character"
def TJ11 : u_T := fun k => match k with
  | _ => ("", "", "", false)
def tyJ11 : Nat → FieldType := fun k => match k with
  | _ => .int
abbrev wsJ110 : List Cond := u_ws RJ11 TJ11 0
theorem nmJ11 : ∀ a, a < 0 → ∀ b, b < 0 → a ≠ b → (TJ11 a).2.1 ≠ (TJ11 b).2.1 := by decide +kernel
theorem tyJ11_ok : ∀ k, k < 0 → parseFieldDescriptor (TJ11 k).2.2.1 = some (tyJ11 k) := by decide +kernel
abbrev cJ11_isValidCodePoint_9a6ad : ByteArray := prog_11_method_11_code
def yJ11_isValidCodePoint_9a6ad : MethodName := ⟨RJ11, "isValidCodePoint", "(I)Z"⟩
abbrev cJ11_highSurrogate_5068e : ByteArray := prog_11_method_28_code
def yJ11_highSurrogate_5068e : MethodName := ⟨RJ11, "highSurrogate", "(I)C"⟩
abbrev cJ11_lowSurrogate_5068e : ByteArray := prog_11_method_29_code
def yJ11_lowSurrogate_5068e : MethodName := ⟨RJ11, "lowSurrogate", "(I)C"⟩
def RJ6 : String := "java/lang/Integer"
def TJ6 : u_T := fun k => match k with
  | _ => ("", "", "", false)
def tyJ6 : Nat → FieldType := fun k => match k with
  | _ => .int
abbrev wsJ60 : List Cond := u_ws RJ6 TJ6 0
theorem nmJ6 : ∀ a, a < 0 → ∀ b, b < 0 → a ≠ b → (TJ6 a).2.1 ≠ (TJ6 b).2.1 := by decide +kernel
theorem tyJ6_ok : ∀ k, k < 0 → parseFieldDescriptor (TJ6 k).2.2.1 = some (tyJ6 k) := by decide +kernel
abbrev cJ6_bitCount_0f7a4 : ByteArray := prog_12_method_49_code
def yJ6_bitCount_0f7a4 : MethodName := ⟨RJ6, "bitCount", "(I)I"⟩
def RJ9 : String := "java/lang/Math"
def TJ9 : u_T := fun k => match k with
  | _ => ("", "", "", false)
def tyJ9 : Nat → FieldType := fun k => match k with
  | _ => .int
abbrev wsJ90 : List Cond := u_ws RJ9 TJ9 0
theorem nmJ9 : ∀ a, a < 0 → ∀ b, b < 0 → a ≠ b → (TJ9 a).2.1 ≠ (TJ9 b).2.1 := by decide +kernel
theorem tyJ9_ok : ∀ k, k < 0 → parseFieldDescriptor (TJ9 k).2.2.1 = some (tyJ9 k) := by decide +kernel
abbrev cJ9_abs_0f7a4 : ByteArray := prog_13_method_59_code
def yJ9_abs_0f7a4 : MethodName := ⟨RJ9, "abs", "(I)I"⟩
abbrev cJ9_max_7cf53 : ByteArray := prog_13_method_65_code
def yJ9_max_7cf53 : MethodName := ⟨RJ9, "max", "(II)I"⟩
abbrev cJ9_min_7cf53 : ByteArray := prog_13_method_69_code
def yJ9_min_7cf53 : MethodName := ⟨RJ9, "min", "(II)I"⟩
def RJ0 : String := "java/lang/String"
def TJ0 : u_T := fun k => match k with
  | _ => ("", "", "", false)
def tyJ0 : Nat → FieldType := fun k => match k with
  | _ => .int
abbrev wsJ00 : List Cond := u_ws RJ0 TJ0 0
theorem nmJ0 : ∀ a, a < 0 → ∀ b, b < 0 → a ≠ b → (TJ0 a).2.1 ≠ (TJ0 b).2.1 := by decide +kernel
theorem tyJ0_ok : ∀ k, k < 0 → parseFieldDescriptor (TJ0 k).2.2.1 = some (tyJ0 k) := by decide +kernel
abbrev cJ0_length_8abf5 : ByteArray := prog_14_method_54_code
def yJ0_length_8abf5 : MethodName := ⟨RJ0, "length", "()I"⟩
abbrev cJ0_charAt_5068e : ByteArray := prog_14_method_56_code
def yJ0_charAt_5068e : MethodName := ⟨RJ0, "charAt", "(I)C"⟩
abbrev cJ0_indexOf_0f7a4 : ByteArray := prog_14_method_79_code
def yJ0_indexOf_0f7a4 : MethodName := ⟨RJ0, "indexOf", "(I)I"⟩
abbrev cJ0_indexOf_7cf53 : ByteArray := prog_14_method_80_code
def yJ0_indexOf_7cf53 : MethodName := ⟨RJ0, "indexOf", "(II)I"⟩
abbrev cJ0_coder_7d493 : ByteArray := prog_14_method_152_code
def yJ0_coder_7d493 : MethodName := ⟨RJ0, "coder", "()B"⟩
abbrev cJ0_isLatin1_aae02 : ByteArray := prog_14_method_154_code
def yJ0_isLatin1_aae02 : MethodName := ⟨RJ0, "isLatin1", "()Z"⟩
abbrev cJ0_checkIndex_df160 : ByteArray := prog_14_method_155_code
def yJ0_checkIndex_df160 : MethodName := ⟨RJ0, "checkIndex", "(II)V"⟩
abbrev cJ0_checkBoundsBeginEnd_23922 : ByteArray := prog_14_method_158_code
def yJ0_checkBoundsBeginEnd_23922 : MethodName := ⟨RJ0, "checkBoundsBeginEnd", "(III)V"⟩
def RJ1 : String := "java/lang/StringLatin1"
def TJ1 : u_T := fun k => match k with
  | _ => ("", "", "", false)
def tyJ1 : Nat → FieldType := fun k => match k with
  | _ => .int
abbrev wsJ10 : List Cond := u_ws RJ1 TJ1 0
theorem nmJ1 : ∀ a, a < 0 → ∀ b, b < 0 → a ≠ b → (TJ1 a).2.1 ≠ (TJ1 b).2.1 := by decide +kernel
theorem tyJ1_ok : ∀ k, k < 0 → parseFieldDescriptor (TJ1 k).2.2.1 = some (tyJ1 k) := by decide +kernel
abbrev cJ1_charAt_3b067 : ByteArray := prog_15_method_2_code
def yJ1_charAt_3b067 : MethodName := ⟨RJ1, "charAt", "([BI)C"⟩
abbrev cJ1_canEncode_9a6ad : ByteArray := prog_15_method_4_code
def yJ1_canEncode_9a6ad : MethodName := ⟨RJ1, "canEncode", "(I)Z"⟩
abbrev cJ1_indexOf_4cfef : ByteArray := prog_15_method_22_code
def yJ1_indexOf_4cfef : MethodName := ⟨RJ1, "indexOf", "([BIII)I"⟩
abbrev cJ1_indexOfChar_4cfef : ByteArray := prog_15_method_23_code
def yJ1_indexOfChar_4cfef : MethodName := ⟨RJ1, "indexOfChar", "([BIII)I"⟩
def RJ2 : String := "java/lang/StringUTF16"
def TJ2 : u_T := fun k => match k with
  | _ => ("", "", "", false)
def tyJ2 : Nat → FieldType := fun k => match k with
  | _ => .int
abbrev wsJ20 : List Cond := u_ws RJ2 TJ2 0
theorem nmJ2 : ∀ a, a < 0 → ∀ b, b < 0 → a ≠ b → (TJ2 a).2.1 ≠ (TJ2 b).2.1 := by decide +kernel
theorem tyJ2_ok : ∀ k, k < 0 → parseFieldDescriptor (TJ2 k).2.2.1 = some (tyJ2 k) := by decide +kernel
abbrev cJ2_getChar_3b067 : ByteArray := prog_16_method_5_code
def yJ2_getChar_3b067 : MethodName := ⟨RJ2, "getChar", "([BI)C"⟩
abbrev cJ2_length_9d52b : ByteArray := prog_16_method_6_code
def yJ2_length_9d52b : MethodName := ⟨RJ2, "length", "([B)I"⟩
abbrev cJ2_indexOf_4cfef : ByteArray := prog_16_method_40_code
def yJ2_indexOf_4cfef : MethodName := ⟨RJ2, "indexOf", "([BIII)I"⟩
abbrev cJ2_indexOfChar_4cfef : ByteArray := prog_16_method_47_code
def yJ2_indexOfChar_4cfef : MethodName := ⟨RJ2, "indexOfChar", "([BIII)I"⟩
abbrev cJ2_indexOfCharUnsafe_4cfef : ByteArray := prog_16_method_48_code
def yJ2_indexOfCharUnsafe_4cfef : MethodName := ⟨RJ2, "indexOfCharUnsafe", "([BIII)I"⟩
abbrev cJ2_indexOfSupplementary_4cfef : ByteArray := prog_16_method_49_code
def yJ2_indexOfSupplementary_4cfef : MethodName := ⟨RJ2, "indexOfSupplementary", "([BIII)I"⟩
abbrev cJ2_charAt_3b067 : ByteArray := prog_16_method_83_code
def yJ2_charAt_3b067 : MethodName := ⟨RJ2, "charAt", "([BI)C"⟩
abbrev cJ2_checkIndex_2214a : ByteArray := prog_16_method_91_code
def yJ2_checkIndex_2214a : MethodName := ⟨RJ2, "checkIndex", "(I[B)V"⟩
abbrev cJ2_checkBoundsBeginEnd_d044e : ByteArray := prog_16_method_93_code
def yJ2_checkBoundsBeginEnd_d044e : MethodName := ⟨RJ2, "checkBoundsBeginEnd", "(II[B)V"⟩
def RJ10 : String := "java/lang/System"
def TJ10 : u_T := fun k => match k with
  | _ => ("", "", "", false)
def tyJ10 : Nat → FieldType := fun k => match k with
  | _ => .int
abbrev wsJ100 : List Cond := u_ws RJ10 TJ10 0
theorem nmJ10 : ∀ a, a < 0 → ∀ b, b < 0 → a ≠ b → (TJ10 a).2.1 ≠ (TJ10 b).2.1 := by decide +kernel
theorem tyJ10_ok : ∀ k, k < 0 → parseFieldDescriptor (TJ10 k).2.2.1 = some (tyJ10 k) := by decide +kernel
def RJ3 : String := "jdk/internal/util/Preconditions"
def TJ3 : u_T := fun k => match k with
  | _ => ("", "", "", false)
def tyJ3 : Nat → FieldType := fun k => match k with
  | _ => .int
abbrev wsJ30 : List Cond := u_ws RJ3 TJ3 0
theorem nmJ3 : ∀ a, a < 0 → ∀ b, b < 0 → a ≠ b → (TJ3 a).2.1 ≠ (TJ3 b).2.1 := by decide +kernel
theorem tyJ3_ok : ∀ k, k < 0 → parseFieldDescriptor (TJ3 k).2.2.1 = some (tyJ3 k) := by decide +kernel
abbrev cJ3_checkIndex_8e157 : ByteArray := prog_18_method_11_code
def yJ3_checkIndex_8e157 : MethodName := ⟨RJ3, "checkIndex", "(IILjava/util/function/BiFunction;)I"⟩
abbrev cJ3_checkFromToIndex_8c36e : ByteArray := prog_18_method_12_code
def yJ3_checkFromToIndex_8c36e : MethodName := ⟨RJ3, "checkFromToIndex", "(IIILjava/util/function/BiFunction;)I"⟩
def RL : String := "LionShieldLaw"
abbrev cL_law : ByteArray := code
def yL_law : MethodName := ⟨RL, "law", "([I)Z"⟩
abbrev vwCl : List vw_C := [(RX0, TX0, 12), (RX1, TX1, 3), (RX2, TX2, 11), (RX3, TX3, 3), (RX4, TX4, 6), (RX5, TX5, 5), (RX6, TX6, 2), (RX7, TX7, 11), (RX8, TX8, 34)]
def gtbl : List Cond := lw_tbl.filter goodWord
theorem gt_ {w : Cond} (i : Nat) (h : lw_tbl[i]? = some w) (hg : goodWord w = true) : w ∈ gtbl := List.mem_filter.mpr ⟨List.mem_of_getElem? h, hg⟩
theorem gtbl_in {w : Cond} (h : w ∈ gtbl) : w ∈ lw_tbl := (List.mem_filter.mp h).1
theorem gtbl_good {w : Cond} (h : w ∈ gtbl) : goodWord w = true := (List.mem_filter.mp h).2
/-- a method by its code word and the table: its words are among those of any other such method -/
theorem good_of {x : Cond} {y : MethodName} {cc : ByteArray} {n : Nat} {r : Option FieldType} (h : Cond.code y cc n r ∈ gtbl) : GoodIn (x :: gtbl) (Cond.code y cc n r :: gtbl) := fun w hw => by
  have h2 : w ∈ gtbl := (List.mem_cons.mp hw).elim (fun e => e ▸ h) id
  exact ⟨List.mem_cons_of_mem _ h2, good_of_word (gtbl_good h2)⟩
theorem iX0 : ∀ w ∈ u_ws RX0 TX0 12, w ∈ gtbl := by decide +kernel
theorem iX1 : ∀ w ∈ u_ws RX1 TX1 3, w ∈ gtbl := by decide +kernel
theorem iX2 : ∀ w ∈ u_ws RX2 TX2 11, w ∈ gtbl := by decide +kernel
theorem iX3 : ∀ w ∈ u_ws RX3 TX3 3, w ∈ gtbl := by decide +kernel
theorem iX4 : ∀ w ∈ u_ws RX4 TX4 6, w ∈ gtbl := by decide +kernel
theorem iX5 : ∀ w ∈ u_ws RX5 TX5 5, w ∈ gtbl := by decide +kernel
theorem iX6 : ∀ w ∈ u_ws RX6 TX6 2, w ∈ gtbl := by decide +kernel
theorem iX7 : ∀ w ∈ u_ws RX7 TX7 11, w ∈ gtbl := by decide +kernel
theorem iX8 : ∀ w ∈ u_ws RX8 TX8 34, w ∈ gtbl := by decide +kernel
end
section
theorem tw_0 : Cond.selects RX4 yX4_asHeir yX4_asHeir ∈ gtbl := gt_ 0 (by decide +kernel) (by decide +kernel)
theorem tw_1 : Cond.selects RX4 yX4_hidden yX4_hidden ∈ gtbl := gt_ 1 (by decide +kernel) (by decide +kernel)
theorem tw_2 : Cond.selects RX4 yX4_byKind yX4_byKind ∈ gtbl := gt_ 2 (by decide +kernel) (by decide +kernel)
theorem tw_3 : Cond.selects RX0 yX0_bringForth yX0_bringForth ∈ gtbl := gt_ 3 (by decide +kernel) (by decide +kernel)
theorem tw_4 : Cond.selects RX0 yX0_nthOf yX0_nthOf ∈ gtbl := gt_ 4 (by decide +kernel) (by decide +kernel)
theorem tw_5 : Cond.selects RX7 yX7_repaintThought yX7_repaintThought ∈ gtbl := gt_ 5 (by decide +kernel) (by decide +kernel)
theorem tw_6 : Cond.selects RX7 yX7_think yX7_think ∈ gtbl := gt_ 6 (by decide +kernel) (by decide +kernel)
theorem tw_7 : Cond.selects RX7 yX7_allBear yX7_allBear ∈ gtbl := gt_ 7 (by decide +kernel) (by decide +kernel)
theorem tw_8 : Cond.selects RX2 yX2_advance yX2_advance ∈ gtbl := gt_ 8 (by decide +kernel) (by decide +kernel)
theorem tw_9 : Cond.selects RX2 yX2_keyHere yX2_keyHere ∈ gtbl := gt_ 9 (by decide +kernel) (by decide +kernel)
theorem tw_10 : Cond.selects RX2 yX2_isWord yX2_isWord ∈ gtbl := gt_ 10 (by decide +kernel) (by decide +kernel)
theorem tw_11 : Cond.selects RX2 yX2_fail yX2_fail ∈ gtbl := gt_ 11 (by decide +kernel) (by decide +kernel)
theorem tw_12 : Cond.selects RX2 yX2_readLevel yX2_readLevel ∈ gtbl := gt_ 12 (by decide +kernel) (by decide +kernel)
theorem tw_13 : Cond.selects RX2 yX2_readPiece yX2_readPiece ∈ gtbl := gt_ 13 (by decide +kernel) (by decide +kernel)
theorem tw_14 : Cond.selects RX2 yX2_isSign yX2_isSign ∈ gtbl := gt_ 14 (by decide +kernel) (by decide +kernel)
theorem tw_15 : Cond.selects RX2 yX2_write yX2_write ∈ gtbl := gt_ 15 (by decide +kernel) (by decide +kernel)
theorem tw_16 : Cond.selects RX2 yX2_readClosing yX2_readClosing ∈ gtbl := gt_ 16 (by decide +kernel) (by decide +kernel)
theorem tw_17 : Cond.selects RX2 yX2_readLeaf yX2_readLeaf ∈ gtbl := gt_ 17 (by decide +kernel) (by decide +kernel)
theorem tw_18 : Cond.selects RX2 yX2_numberHere yX2_numberHere ∈ gtbl := gt_ 18 (by decide +kernel) (by decide +kernel)
theorem tw_19 : Cond.selects RX2 yX2_nameHere yX2_nameHere ∈ gtbl := gt_ 19 (by decide +kernel) (by decide +kernel)
theorem tw_20 : Cond.selects RX2 yX2_levelHere yX2_levelHere ∈ gtbl := gt_ 20 (by decide +kernel) (by decide +kernel)
theorem tw_21 : Cond.selects RX7 yX7_isWaiting yX7_isWaiting ∈ gtbl := gt_ 21 (by decide +kernel) (by decide +kernel)
theorem tw_22 : Cond.selects RX8 yX8_mayBe yX8_mayBe ∈ gtbl := gt_ 22 (by decide +kernel) (by decide +kernel)
theorem tw_23 : Cond.selects RX8 yX8_isOne yX8_isOne ∈ gtbl := gt_ 23 (by decide +kernel) (by decide +kernel)
theorem tw_24 : Cond.selects RX8 yX8_of yX8_of ∈ gtbl := gt_ 24 (by decide +kernel) (by decide +kernel)
theorem tw_25 : Cond.selects RX8 yX8_comes yX8_comes ∈ gtbl := gt_ 25 (by decide +kernel) (by decide +kernel)
theorem tw_26 : Cond.selects RX8 yX8_worthOf yX8_worthOf ∈ gtbl := gt_ 26 (by decide +kernel) (by decide +kernel)
theorem tw_27 : Cond.selects RX8 yX8_isHeiress yX8_isHeiress ∈ gtbl := gt_ 27 (by decide +kernel) (by decide +kernel)
theorem tw_28 : Cond.selects RX8 yX8_worksOf yX8_worksOf ∈ gtbl := gt_ 28 (by decide +kernel) (by decide +kernel)
theorem tw_29 : Cond.selects RX8 yX8_worksPart yX8_worksPart ∈ gtbl := gt_ 29 (by decide +kernel) (by decide +kernel)
theorem tw_30 : Cond.selects RX8 yX8_childOf yX8_childOf ∈ gtbl := gt_ 30 (by decide +kernel) (by decide +kernel)
theorem tw_31 : Cond.selects RX8 yX8_joined yX8_joined ∈ gtbl := gt_ 31 (by decide +kernel) (by decide +kernel)
theorem tw_32 : Cond.selects RX8 yX8_counts yX8_counts ∈ gtbl := gt_ 32 (by decide +kernel) (by decide +kernel)
theorem tw_33 : Cond.selects RX8 yX8_worksOut yX8_worksOut ∈ gtbl := gt_ 33 (by decide +kernel) (by decide +kernel)
theorem tw_34 : Cond.selects RX8 yX8_borne yX8_borne ∈ gtbl := gt_ 34 (by decide +kernel) (by decide +kernel)
theorem tw_35 : Cond.selects RX8 yX8_becomes yX8_becomes ∈ gtbl := gt_ 35 (by decide +kernel) (by decide +kernel)
theorem tw_36 : Cond.selects RX8 yX8_draw yX8_draw ∈ gtbl := gt_ 36 (by decide +kernel) (by decide +kernel)
theorem tw_37 : Cond.selects RX8 yX8_goesOn yX8_goesOn ∈ gtbl := gt_ 37 (by decide +kernel) (by decide +kernel)
theorem tw_38 : Cond.selects RX8 yX8_year yX8_year ∈ gtbl := gt_ 38 (by decide +kernel) (by decide +kernel)
theorem tw_39 : Cond.selects RX8 yX8_manyOf yX8_manyOf ∈ gtbl := gt_ 39 (by decide +kernel) (by decide +kernel)
theorem tw_40 : Cond.selects RX8 yX8_numberOf yX8_numberOf ∈ gtbl := gt_ 40 (by decide +kernel) (by decide +kernel)
theorem tw_41 : Cond.selects RX8 yX8_worksAll yX8_worksAll ∈ gtbl := gt_ 41 (by decide +kernel) (by decide +kernel)
theorem tw_42 : Cond.selects RX8 yX8_areAlike yX8_areAlike ∈ gtbl := gt_ 42 (by decide +kernel) (by decide +kernel)
theorem tw_43 : Cond.selects RX8 yX8_clashes yX8_clashes ∈ gtbl := gt_ 43 (by decide +kernel) (by decide +kernel)
theorem tw_44 : Cond.selects RX8 yX8_thinks yX8_thinks ∈ gtbl := gt_ 44 (by decide +kernel) (by decide +kernel)
theorem tw_45 : Cond.selects RX8 yX8_allBear yX8_allBear ∈ gtbl := gt_ 45 (by decide +kernel) (by decide +kernel)
theorem tw_46 : Cond.selects RX8 yX8_putsBack yX8_putsBack ∈ gtbl := gt_ 46 (by decide +kernel) (by decide +kernel)
theorem tw_47 : Cond.selects RX8 yX8_offBy yX8_offBy ∈ gtbl := gt_ 47 (by decide +kernel) (by decide +kernel)
theorem tw_48 : Cond.selects RX8 yX8_go yX8_go ∈ gtbl := gt_ 48 (by decide +kernel) (by decide +kernel)
theorem tw_49 : Cond.selects RX8 yX8_isLetter yX8_isLetter ∈ gtbl := gt_ 49 (by decide +kernel) (by decide +kernel)
theorem tw_50 : Cond.selects RX8 yX8_isFigure yX8_isFigure ∈ gtbl := gt_ 50 (by decide +kernel) (by decide +kernel)
theorem tw_51 : Cond.selects RX8 yX8_takesKey yX8_takesKey ∈ gtbl := gt_ 51 (by decide +kernel) (by decide +kernel)
theorem tw_52 : Cond.selects RX8 yX8_takesE yX8_takesE ∈ gtbl := gt_ 52 (by decide +kernel) (by decide +kernel)
theorem tw_53 : Cond.selects RX8 yX8_takesPart yX8_takesPart ∈ gtbl := gt_ 53 (by decide +kernel) (by decide +kernel)
theorem tw_54 : Cond.selects RX8 yX8_nameOf yX8_nameOf ∈ gtbl := gt_ 54 (by decide +kernel) (by decide +kernel)
theorem tw_55 : Cond.selects RX8 yX8_settle yX8_settle ∈ gtbl := gt_ 55 (by decide +kernel) (by decide +kernel)
theorem tw_56 : Cond.selects RX8 yX8_notsOpen yX8_notsOpen ∈ gtbl := gt_ 56 (by decide +kernel) (by decide +kernel)
theorem tw_57 : Cond.selects RX8 yX8_signHere yX8_signHere ∈ gtbl := gt_ 57 (by decide +kernel) (by decide +kernel)
theorem tw_58 : Cond.selects RX8 yX8_founders yX8_founders ∈ gtbl := gt_ 58 (by decide +kernel) (by decide +kernel)
theorem tw_59 : Cond.initialized RL ∈ gtbl := gt_ 59 (by decide +kernel) (by decide +kernel)
theorem tw_60 : Cond.initialized RX7 ∈ gtbl := gt_ 60 (by decide +kernel) (by decide +kernel)
theorem tw_61 : Cond.initialized RX0 ∈ gtbl := gt_ 61 (by decide +kernel) (by decide +kernel)
theorem tw_62 : Cond.initialized RX4 ∈ gtbl := gt_ 62 (by decide +kernel) (by decide +kernel)
theorem tw_63 : Cond.initialized RX2 ∈ gtbl := gt_ 63 (by decide +kernel) (by decide +kernel)
theorem tw_64 : Cond.initialized RX6 ∈ gtbl := gt_ 64 (by decide +kernel) (by decide +kernel)
theorem tw_65 : Cond.initialized RX3 ∈ gtbl := gt_ 65 (by decide +kernel) (by decide +kernel)
theorem tw_66 : Cond.initialized RX5 ∈ gtbl := gt_ 66 (by decide +kernel) (by decide +kernel)
theorem tw_67 : Cond.initialized RX8 ∈ gtbl := gt_ 67 (by decide +kernel) (by decide +kernel)
theorem tw_68 : Cond.initialized RJ9 ∈ gtbl := gt_ 68 (by decide +kernel) (by decide +kernel)
theorem tw_69 : Cond.initialized RX1 ∈ gtbl := gt_ 69 (by decide +kernel) (by decide +kernel)
theorem tw_70 : Cond.initialized RJ6 ∈ gtbl := gt_ 70 (by decide +kernel) (by decide +kernel)
theorem tw_71 : Cond.initialized RJ0 ∈ gtbl := gt_ 71 (by decide +kernel) (by decide +kernel)
theorem tw_72 : Cond.initialized RJ1 ∈ gtbl := gt_ 72 (by decide +kernel) (by decide +kernel)
theorem tw_73 : Cond.initialized RJ3 ∈ gtbl := gt_ 73 (by decide +kernel) (by decide +kernel)
theorem tw_74 : Cond.initialized RJ2 ∈ gtbl := gt_ 74 (by decide +kernel) (by decide +kernel)
theorem tw_75 : Cond.initialized RJ11 ∈ gtbl := gt_ 75 (by decide +kernel) (by decide +kernel)
theorem tw_76 : Cond.initialized RJ10 ∈ gtbl := gt_ 76 (by decide +kernel) (by decide +kernel)
theorem tw_77 : Cond.classLink RL 7 RX7 ∈ gtbl := gt_ 77 (by decide +kernel) (by decide +kernel)
theorem tw_78 : Cond.instantiable RX7 11 ∈ gtbl := gt_ 78 (by decide +kernel) (by decide +kernel)
theorem tw_79 : Cond.methodLink RL 9 yX7_init ∈ gtbl := gt_ 79 (by decide +kernel) (by decide +kernel)
theorem tw_80 : Cond.instanceMethod yX7_init ∈ gtbl := gt_ 80 (by decide +kernel) (by decide +kernel)
theorem tw_81 : Cond.code yX7_init prog_1_method_1_code 2 (Option.none : Option Jvm.ClassFile.FieldType) ∈ gtbl := gt_ 81 (by decide +kernel) (by decide +kernel)
theorem tw_82 : Cond.methodLink RX7 1 objectInit ∈ gtbl := gt_ 82 (by decide +kernel) (by decide +kernel)
theorem tw_83 : Cond.instanceMethod objectInit ∈ gtbl := gt_ 83 (by decide +kernel) (by decide +kernel)
theorem tw_84 : Cond.code objectInit object_method_1_code 1 (Option.none : Option Jvm.ClassFile.FieldType) ∈ gtbl := gt_ 84 (by decide +kernel) (by decide +kernel)
theorem tw_85 : Cond.classLink RX7 7 RX0 ∈ gtbl := gt_ 85 (by decide +kernel) (by decide +kernel)
theorem tw_86 : Cond.instantiable RX0 12 ∈ gtbl := gt_ 86 (by decide +kernel) (by decide +kernel)
theorem tw_88 : Cond.instanceMethod yX0_init ∈ gtbl := gt_ 88 (by decide +kernel) (by decide +kernel)
theorem tw_89 : Cond.code yX0_init prog_2_method_1_code 1 (Option.none : Option Jvm.ClassFile.FieldType) ∈ gtbl := gt_ 89 (by decide +kernel) (by decide +kernel)
theorem tw_90 : Cond.methodLink RX0 3 objectInit ∈ gtbl := gt_ 90 (by decide +kernel) (by decide +kernel)
theorem tw_91 : Cond.classLink RX0 43 RX1 ∈ gtbl := gt_ 91 (by decide +kernel) (by decide +kernel)
theorem tw_93 : Cond.fieldLink RX0 9 RX0 "kind" "[I" ∈ gtbl := gt_ 93 (by decide +kernel) (by decide +kernel)
theorem tw_94 : Cond.fieldLink RX7 89 RX0 "kind" "[I" ∈ gtbl := gt_ 94 (by decide +kernel) (by decide +kernel)
theorem tw_95 : Cond.fieldLink RX4 71 RX0 "kind" "[I" ∈ gtbl := gt_ 95 (by decide +kernel) (by decide +kernel)
theorem tw_96 : Cond.fieldLink RX0 15 RX0 "father" "[I" ∈ gtbl := gt_ 96 (by decide +kernel) (by decide +kernel)
theorem tw_97 : Cond.fieldLink RX7 92 RX0 "father" "[I" ∈ gtbl := gt_ 97 (by decide +kernel) (by decide +kernel)
theorem tw_98 : Cond.fieldLink RX4 80 RX0 "father" "[I" ∈ gtbl := gt_ 98 (by decide +kernel) (by decide +kernel)
theorem tw_99 : Cond.fieldLink RX0 18 RX0 "mother" "[I" ∈ gtbl := gt_ 99 (by decide +kernel) (by decide +kernel)
theorem tw_100 : Cond.fieldLink RX7 95 RX0 "mother" "[I" ∈ gtbl := gt_ 100 (by decide +kernel) (by decide +kernel)
theorem tw_101 : Cond.fieldLink RX4 74 RX0 "mother" "[I" ∈ gtbl := gt_ 101 (by decide +kernel) (by decide +kernel)
theorem tw_102 : Cond.fieldLink RX0 21 RX0 "sex" "[I" ∈ gtbl := gt_ 102 (by decide +kernel) (by decide +kernel)
theorem tw_103 : Cond.fieldLink RX7 98 RX0 "sex" "[I" ∈ gtbl := gt_ 103 (by decide +kernel) (by decide +kernel)
theorem tw_104 : Cond.fieldLink RX0 24 RX0 "first" "[I" ∈ gtbl := gt_ 104 (by decide +kernel) (by decide +kernel)
theorem tw_105 : Cond.fieldLink RX7 101 RX0 "first" "[I" ∈ gtbl := gt_ 105 (by decide +kernel) (by decide +kernel)
theorem tw_106 : Cond.fieldLink RX4 68 RX0 "first" "[I" ∈ gtbl := gt_ 106 (by decide +kernel) (by decide +kernel)
theorem tw_107 : Cond.fieldLink RX0 27 RX0 "barred" "[I" ∈ gtbl := gt_ 107 (by decide +kernel) (by decide +kernel)
theorem tw_108 : Cond.fieldLink RX7 104 RX0 "barred" "[I" ∈ gtbl := gt_ 108 (by decide +kernel) (by decide +kernel)
theorem tw_109 : Cond.fieldLink RX4 102 RX0 "barred" "[I" ∈ gtbl := gt_ 109 (by decide +kernel) (by decide +kernel)
theorem tw_110 : Cond.fieldLink RX0 30 RX0 "people" "I" ∈ gtbl := gt_ 110 (by decide +kernel) (by decide +kernel)
theorem tw_111 : Cond.fieldLink RX4 52 RX0 "people" "I" ∈ gtbl := gt_ 111 (by decide +kernel) (by decide +kernel)
theorem tw_112 : Cond.fieldLink RX7 174 RX0 "people" "I" ∈ gtbl := gt_ 112 (by decide +kernel) (by decide +kernel)
theorem tw_113 : Cond.fieldLink RX0 34 RX0 "fertile" "I" ∈ gtbl := gt_ 113 (by decide +kernel) (by decide +kernel)
theorem tw_114 : Cond.fieldLink RX7 129 RX0 "fertile" "I" ∈ gtbl := gt_ 114 (by decide +kernel) (by decide +kernel)
theorem tw_115 : Cond.fieldLink RX0 37 RX0 "year" "I" ∈ gtbl := gt_ 115 (by decide +kernel) (by decide +kernel)
theorem tw_116 : Cond.fieldLink RX7 138 RX0 "year" "I" ∈ gtbl := gt_ 116 (by decide +kernel) (by decide +kernel)
theorem tw_117 : Cond.fieldLink RX0 40 RX0 "z" "I" ∈ gtbl := gt_ 117 (by decide +kernel) (by decide +kernel)
theorem tw_118 : Cond.fieldLink RX7 135 RX0 "z" "I" ∈ gtbl := gt_ 118 (by decide +kernel) (by decide +kernel)
theorem tw_119 : Cond.fieldLink RX0 45 RX0 "laws" "[LLionShield$Law;" ∈ gtbl := gt_ 119 (by decide +kernel) (by decide +kernel)
theorem tw_120 : Cond.fieldLink RX7 242 RX0 "laws" "[LLionShield$Law;" ∈ gtbl := gt_ 120 (by decide +kernel) (by decide +kernel)
theorem tw_121 : Cond.fieldLink RX0 49 RX0 "lawCount" "I" ∈ gtbl := gt_ 121 (by decide +kernel) (by decide +kernel)
theorem tw_122 : Cond.fieldLink RX7 239 RX0 "lawCount" "I" ∈ gtbl := gt_ 122 (by decide +kernel) (by decide +kernel)
theorem tw_148 : Cond.arrayClass Jvm.ClassFile.FieldType.int ∈ gtbl := gt_ 148 (by decide +kernel) (by decide +kernel)
theorem tw_149 : Cond.classLink RX7 26 RX4 ∈ gtbl := gt_ 149 (by decide +kernel) (by decide +kernel)
theorem tw_150 : Cond.instantiable RX4 6 ∈ gtbl := gt_ 150 (by decide +kernel) (by decide +kernel)
theorem tw_152 : Cond.instanceMethod yX4_init ∈ gtbl := gt_ 152 (by decide +kernel) (by decide +kernel)
theorem tw_153 : Cond.code yX4_init prog_6_method_1_code 1 (Option.none : Option Jvm.ClassFile.FieldType) ∈ gtbl := gt_ 153 (by decide +kernel) (by decide +kernel)
theorem tw_154 : Cond.methodLink RX4 3 objectInit ∈ gtbl := gt_ 154 (by decide +kernel) (by decide +kernel)
theorem tw_155 : Cond.classLink RX4 22 RX0 ∈ gtbl := gt_ 155 (by decide +kernel) (by decide +kernel)
theorem tw_157 : Cond.fieldLink RX4 9 RX4 "unbarred" "[I" ∈ gtbl := gt_ 157 (by decide +kernel) (by decide +kernel)
theorem tw_158 : Cond.fieldLink RX4 15 RX4 "pack" "[J" ∈ gtbl := gt_ 158 (by decide +kernel) (by decide +kernel)
theorem tw_159 : Cond.fieldLink RX4 19 RX4 "stack" "[I" ∈ gtbl := gt_ 159 (by decide +kernel) (by decide +kernel)
theorem tw_160 : Cond.fieldLink RX4 25 RX4 "land" "LLionShield$Land;" ∈ gtbl := gt_ 160 (by decide +kernel) (by decide +kernel)
theorem tw_161 : Cond.fieldLink RX4 29 RX4 "join" "LLionShield$Law;" ∈ gtbl := gt_ 161 (by decide +kernel) (by decide +kernel)
theorem tw_162 : Cond.fieldLink RX4 33 RX4 "heiresses" "I" ∈ gtbl := gt_ 162 (by decide +kernel) (by decide +kernel)
theorem tw_176 : Cond.arrayClass Jvm.ClassFile.FieldType.long ∈ gtbl := gt_ 176 (by decide +kernel) (by decide +kernel)
theorem tw_177 : Cond.classLink RX7 33 RX2 ∈ gtbl := gt_ 177 (by decide +kernel) (by decide +kernel)
theorem tw_178 : Cond.instantiable RX2 11 ∈ gtbl := gt_ 178 (by decide +kernel) (by decide +kernel)
theorem tw_180 : Cond.instanceMethod yX2_init ∈ gtbl := gt_ 180 (by decide +kernel) (by decide +kernel)
theorem tw_181 : Cond.code yX2_init prog_4_method_1_code 1 (Option.none : Option Jvm.ClassFile.FieldType) ∈ gtbl := gt_ 181 (by decide +kernel) (by decide +kernel)
theorem tw_182 : Cond.methodLink RX2 3 objectInit ∈ gtbl := gt_ 182 (by decide +kernel) (by decide +kernel)
theorem tw_183 : Cond.classLink RX2 9 RX6 ∈ gtbl := gt_ 183 (by decide +kernel) (by decide +kernel)
theorem tw_184 : Cond.instantiable RX6 2 ∈ gtbl := gt_ 184 (by decide +kernel) (by decide +kernel)
theorem tw_186 : Cond.instanceMethod yX6_init ∈ gtbl := gt_ 186 (by decide +kernel) (by decide +kernel)
theorem tw_187 : Cond.code yX6_init prog_8_method_1_code 1 (Option.none : Option Jvm.ClassFile.FieldType) ∈ gtbl := gt_ 187 (by decide +kernel) (by decide +kernel)
theorem tw_188 : Cond.methodLink RX6 3 objectInit ∈ gtbl := gt_ 188 (by decide +kernel) (by decide +kernel)
theorem tw_189 : Cond.fieldLink RX6 9 RX6 "bytes" "[I" ∈ gtbl := gt_ 189 (by decide +kernel) (by decide +kernel)
theorem tw_190 : Cond.fieldLink RX6 15 RX6 "length" "I" ∈ gtbl := gt_ 190 (by decide +kernel) (by decide +kernel)
theorem tw_191 : Cond.fieldLink RX2 69 RX6 "length" "I" ∈ gtbl := gt_ 191 (by decide +kernel) (by decide +kernel)
theorem tw_192 : Cond.fieldLink RX7 225 RX6 "length" "I" ∈ gtbl := gt_ 192 (by decide +kernel) (by decide +kernel)
theorem tw_198 : Cond.fieldLink RX2 12 RX2 "tape" "LLionShield$Tape;" ∈ gtbl := gt_ 198 (by decide +kernel) (by decide +kernel)
theorem tw_199 : Cond.fieldLink RX7 221 RX2 "tape" "LLionShield$Tape;" ∈ gtbl := gt_ 199 (by decide +kernel) (by decide +kernel)
theorem tw_200 : Cond.fieldLink RX2 18 RX2 "sort" "I" ∈ gtbl := gt_ 200 (by decide +kernel) (by decide +kernel)
theorem tw_201 : Cond.fieldLink RX2 22 RX2 "start" "I" ∈ gtbl := gt_ 201 (by decide +kernel) (by decide +kernel)
theorem tw_202 : Cond.fieldLink RX2 25 RX2 "stop" "I" ∈ gtbl := gt_ 202 (by decide +kernel) (by decide +kernel)
theorem tw_203 : Cond.fieldLink RX2 28 RX2 "key" "I" ∈ gtbl := gt_ 203 (by decide +kernel) (by decide +kernel)
theorem tw_204 : Cond.fieldLink RX2 31 RX2 "code" "[I" ∈ gtbl := gt_ 204 (by decide +kernel) (by decide +kernel)
theorem tw_205 : Cond.fieldLink RX2 35 RX2 "used" "I" ∈ gtbl := gt_ 205 (by decide +kernel) (by decide +kernel)
theorem tw_206 : Cond.fieldLink RX2 38 RX2 "leaves" "I" ∈ gtbl := gt_ 206 (by decide +kernel) (by decide +kernel)
theorem tw_207 : Cond.fieldLink RX2 41 RX2 "parens" "I" ∈ gtbl := gt_ 207 (by decide +kernel) (by decide +kernel)
theorem tw_208 : Cond.fieldLink RX2 44 RX2 "nots" "I" ∈ gtbl := gt_ 208 (by decide +kernel) (by decide +kernel)
theorem tw_209 : Cond.fieldLink RX2 47 RX2 "fault" "I" ∈ gtbl := gt_ 209 (by decide +kernel) (by decide +kernel)
theorem tw_210 : Cond.fieldLink RX7 236 RX2 "fault" "I" ∈ gtbl := gt_ 210 (by decide +kernel) (by decide +kernel)
theorem tw_234 : Cond.classLink RX7 40 RX3 ∈ gtbl := gt_ 234 (by decide +kernel) (by decide +kernel)
theorem tw_236 : Cond.classLink RX7 46 RX5 ∈ gtbl := gt_ 236 (by decide +kernel) (by decide +kernel)
theorem tw_238 : Cond.instantiable RX3 3 ∈ gtbl := gt_ 238 (by decide +kernel) (by decide +kernel)
theorem tw_240 : Cond.instanceMethod yX3_init ∈ gtbl := gt_ 240 (by decide +kernel) (by decide +kernel)
theorem tw_241 : Cond.code yX3_init prog_5_method_1_code 1 (Option.none : Option Jvm.ClassFile.FieldType) ∈ gtbl := gt_ 241 (by decide +kernel) (by decide +kernel)
theorem tw_242 : Cond.methodLink RX3 3 objectInit ∈ gtbl := gt_ 242 (by decide +kernel) (by decide +kernel)
theorem tw_243 : Cond.fieldLink RX3 9 RX3 "sort" "I" ∈ gtbl := gt_ 243 (by decide +kernel) (by decide +kernel)
theorem tw_244 : Cond.fieldLink RX7 267 RX3 "sort" "I" ∈ gtbl := gt_ 244 (by decide +kernel) (by decide +kernel)
theorem tw_245 : Cond.fieldLink RX3 15 RX3 "length" "I" ∈ gtbl := gt_ 245 (by decide +kernel) (by decide +kernel)
theorem tw_246 : Cond.fieldLink RX7 281 RX3 "length" "I" ∈ gtbl := gt_ 246 (by decide +kernel) (by decide +kernel)
theorem tw_247 : Cond.fieldLink RX3 18 RX3 "places" "[I" ∈ gtbl := gt_ 247 (by decide +kernel) (by decide +kernel)
theorem tw_248 : Cond.fieldLink RX4 117 RX3 "places" "[I" ∈ gtbl := gt_ 248 (by decide +kernel) (by decide +kernel)
theorem tw_249 : Cond.fieldLink RX7 270 RX3 "places" "[I" ∈ gtbl := gt_ 249 (by decide +kernel) (by decide +kernel)
theorem tw_257 : Cond.instantiable RX5 5 ∈ gtbl := gt_ 257 (by decide +kernel) (by decide +kernel)
theorem tw_259 : Cond.instanceMethod yX5_init ∈ gtbl := gt_ 259 (by decide +kernel) (by decide +kernel)
theorem tw_260 : Cond.code yX5_init prog_7_method_1_code 1 (Option.none : Option Jvm.ClassFile.FieldType) ∈ gtbl := gt_ 260 (by decide +kernel) (by decide +kernel)
theorem tw_261 : Cond.methodLink RX5 3 objectInit ∈ gtbl := gt_ 261 (by decide +kernel) (by decide +kernel)
theorem tw_262 : Cond.classLink RX5 24 RX3 ∈ gtbl := gt_ 262 (by decide +kernel) (by decide +kernel)
theorem tw_264 : Cond.fieldLink RX5 9 RX5 "holds" "I" ∈ gtbl := gt_ 264 (by decide +kernel) (by decide +kernel)
theorem tw_265 : Cond.fieldLink RX7 294 RX5 "holds" "I" ∈ gtbl := gt_ 265 (by decide +kernel) (by decide +kernel)
theorem tw_266 : Cond.fieldLink RX5 15 RX5 "kind" "I" ∈ gtbl := gt_ 266 (by decide +kernel) (by decide +kernel)
theorem tw_267 : Cond.fieldLink RX7 297 RX5 "kind" "I" ∈ gtbl := gt_ 267 (by decide +kernel) (by decide +kernel)
theorem tw_268 : Cond.fieldLink RX5 18 RX5 "first" "I" ∈ gtbl := gt_ 268 (by decide +kernel) (by decide +kernel)
theorem tw_269 : Cond.fieldLink RX7 299 RX5 "first" "I" ∈ gtbl := gt_ 269 (by decide +kernel) (by decide +kernel)
theorem tw_270 : Cond.fieldLink RX5 21 RX5 "number" "I" ∈ gtbl := gt_ 270 (by decide +kernel) (by decide +kernel)
theorem tw_271 : Cond.fieldLink RX7 308 RX5 "number" "I" ∈ gtbl := gt_ 271 (by decide +kernel) (by decide +kernel)
theorem tw_272 : Cond.fieldLink RX5 27 RX5 "row" "LLionShield$Row;" ∈ gtbl := gt_ 272 (by decide +kernel) (by decide +kernel)
theorem tw_273 : Cond.fieldLink RX7 301 RX5 "row" "LLionShield$Row;" ∈ gtbl := gt_ 273 (by decide +kernel) (by decide +kernel)
theorem tw_285 : Cond.fieldLink RX7 10 RX7 "now" "LLionShield$Land;" ∈ gtbl := gt_ 285 (by decide +kernel) (by decide +kernel)
theorem tw_286 : Cond.fieldLink RX7 16 RX7 "image" "LLionShield$Land;" ∈ gtbl := gt_ 286 (by decide +kernel) (by decide +kernel)
theorem tw_287 : Cond.fieldLink RX7 19 RX7 "imageKept" "Z" ∈ gtbl := gt_ 287 (by decide +kernel) (by decide +kernel)
theorem tw_288 : Cond.fieldLink RX7 23 RX7 "thought" "LLionShield$Land;" ∈ gtbl := gt_ 288 (by decide +kernel) (by decide +kernel)
theorem tw_289 : Cond.fieldLink RX7 29 RX7 "shields" "LLionShield$Shields;" ∈ gtbl := gt_ 289 (by decide +kernel) (by decide +kernel)
theorem tw_290 : Cond.fieldLink RX7 36 RX7 "reader" "LLionShield$Reader;" ∈ gtbl := gt_ 290 (by decide +kernel) (by decide +kernel)
theorem tw_291 : Cond.fieldLink RX7 42 RX7 "rows" "[LLionShield$Row;" ∈ gtbl := gt_ 291 (by decide +kernel) (by decide +kernel)
theorem tw_292 : Cond.fieldLink RX7 48 RX7 "slots" "[LLionShield$Slot;" ∈ gtbl := gt_ 292 (by decide +kernel) (by decide +kernel)
theorem tw_293 : Cond.fieldLink RX7 52 RX7 "waiting" "[I" ∈ gtbl := gt_ 293 (by decide +kernel) (by decide +kernel)
theorem tw_294 : Cond.fieldLink RX7 56 RX7 "waits" "I" ∈ gtbl := gt_ 294 (by decide +kernel) (by decide +kernel)
theorem tw_295 : Cond.fieldLink RX7 60 RX7 "stack" "[I" ∈ gtbl := gt_ 295 (by decide +kernel) (by decide +kernel)
theorem tw_319 : Cond.methodLink RL 13 yX7_person ∈ gtbl := gt_ 319 (by decide +kernel) (by decide +kernel)
theorem tw_320 : Cond.instanceMethod yX7_person ∈ gtbl := gt_ 320 (by decide +kernel) (by decide +kernel)
theorem tw_321 : Cond.selects RX7 yX7_person yX7_person ∈ gtbl := gt_ 321 (by decide +kernel) (by decide +kernel)
theorem tw_322 : Cond.code yX7_person prog_1_method_2_code 6 (Option.some Jvm.ClassFile.FieldType.int) ∈ gtbl := gt_ 322 (by decide +kernel) (by decide +kernel)
theorem tw_323 : Cond.methodLink RX7 65 yX7_isKind ∈ gtbl := gt_ 323 (by decide +kernel) (by decide +kernel)
theorem tw_324 : Cond.static yX7_isKind ∈ gtbl := gt_ 324 (by decide +kernel) (by decide +kernel)
theorem tw_325 : Cond.code yX7_isKind prog_1_method_47_code 1 (Option.some Jvm.ClassFile.FieldType.boolean) ∈ gtbl := gt_ 325 (by decide +kernel) (by decide +kernel)
theorem tw_326 : Cond.methodLink RX7 69 yX0_canBeParent ∈ gtbl := gt_ 326 (by decide +kernel) (by decide +kernel)
theorem tw_327 : Cond.instanceMethod yX0_canBeParent ∈ gtbl := gt_ 327 (by decide +kernel) (by decide +kernel)
theorem tw_328 : Cond.selects RX0 yX0_canBeParent yX0_canBeParent ∈ gtbl := gt_ 328 (by decide +kernel) (by decide +kernel)
theorem tw_329 : Cond.code yX0_canBeParent prog_2_method_5_code 3 (Option.some Jvm.ClassFile.FieldType.boolean) ∈ gtbl := gt_ 329 (by decide +kernel) (by decide +kernel)
theorem tw_330 : Cond.methodLink RX0 52 yX0_has ∈ gtbl := gt_ 330 (by decide +kernel) (by decide +kernel)
theorem tw_331 : Cond.instanceMethod yX0_has ∈ gtbl := gt_ 331 (by decide +kernel) (by decide +kernel)
theorem tw_332 : Cond.selects RX0 yX0_has yX0_has ∈ gtbl := gt_ 332 (by decide +kernel) (by decide +kernel)
theorem tw_333 : Cond.code yX0_has prog_2_method_3_code 2 (Option.some Jvm.ClassFile.FieldType.boolean) ∈ gtbl := gt_ 333 (by decide +kernel) (by decide +kernel)
theorem tw_334 : Cond.constant RX7 73 (-1000000001) ∈ gtbl := gt_ 334 (by decide +kernel) (by decide +kernel)
theorem tw_335 : Cond.methodLink RX7 74 yX7_isCharge ∈ gtbl := gt_ 335 (by decide +kernel) (by decide +kernel)
theorem tw_336 : Cond.static yX7_isCharge ∈ gtbl := gt_ 336 (by decide +kernel) (by decide +kernel)
theorem tw_337 : Cond.code yX7_isCharge prog_1_method_48_code 1 (Option.some Jvm.ClassFile.FieldType.boolean) ∈ gtbl := gt_ 337 (by decide +kernel) (by decide +kernel)
theorem tw_338 : Cond.methodLink RX7 77 yX0_hasRoom ∈ gtbl := gt_ 338 (by decide +kernel) (by decide +kernel)
theorem tw_339 : Cond.instanceMethod yX0_hasRoom ∈ gtbl := gt_ 339 (by decide +kernel) (by decide +kernel)
theorem tw_340 : Cond.selects RX0 yX0_hasRoom yX0_hasRoom ∈ gtbl := gt_ 340 (by decide +kernel) (by decide +kernel)
theorem tw_341 : Cond.code yX0_hasRoom prog_2_method_4_code 1 (Option.some Jvm.ClassFile.FieldType.boolean) ∈ gtbl := gt_ 341 (by decide +kernel) (by decide +kernel)
theorem tw_342 : Cond.constant RX7 81 (-1000000003) ∈ gtbl := gt_ 342 (by decide +kernel) (by decide +kernel)
theorem tw_343 : Cond.methodLink RX7 82 yX0_add ∈ gtbl := gt_ 343 (by decide +kernel) (by decide +kernel)
theorem tw_344 : Cond.instanceMethod yX0_add ∈ gtbl := gt_ 344 (by decide +kernel) (by decide +kernel)
theorem tw_345 : Cond.selects RX0 yX0_add yX0_add ∈ gtbl := gt_ 345 (by decide +kernel) (by decide +kernel)
theorem tw_346 : Cond.code yX0_add prog_2_method_6_code 7 (Option.some Jvm.ClassFile.FieldType.int) ∈ gtbl := gt_ 346 (by decide +kernel) (by decide +kernel)
theorem tw_347 : Cond.methodLink RX0 56 yX0_hasRoom ∈ gtbl := gt_ 347 (by decide +kernel) (by decide +kernel)
theorem tw_348 : Cond.constant RX0 60 (-1000000003) ∈ gtbl := gt_ 348 (by decide +kernel) (by decide +kernel)
theorem tw_349 : Cond.methodLink RL 18 yX7_told ∈ gtbl := gt_ 349 (by decide +kernel) (by decide +kernel)
theorem tw_350 : Cond.instanceMethod yX7_told ∈ gtbl := gt_ 350 (by decide +kernel) (by decide +kernel)
theorem tw_351 : Cond.selects RX7 yX7_told yX7_told ∈ gtbl := gt_ 351 (by decide +kernel) (by decide +kernel)
theorem tw_352 : Cond.code yX7_told prog_1_method_3_code 3 (Option.some Jvm.ClassFile.FieldType.int) ∈ gtbl := gt_ 352 (by decide +kernel) (by decide +kernel)
theorem tw_353 : Cond.methodLink RX7 86 yX0_has ∈ gtbl := gt_ 353 (by decide +kernel) (by decide +kernel)
theorem tw_354 : Cond.methodLink RX7 107 yX0_isHeiress ∈ gtbl := gt_ 354 (by decide +kernel) (by decide +kernel)
theorem tw_355 : Cond.instanceMethod yX0_isHeiress ∈ gtbl := gt_ 355 (by decide +kernel) (by decide +kernel)
theorem tw_356 : Cond.selects RX0 yX0_isHeiress yX0_isHeiress ∈ gtbl := gt_ 356 (by decide +kernel) (by decide +kernel)
theorem tw_357 : Cond.code yX0_isHeiress prog_2_method_14_code 3 (Option.some Jvm.ClassFile.FieldType.boolean) ∈ gtbl := gt_ 357 (by decide +kernel) (by decide +kernel)
theorem tw_358 : Cond.methodLink RX7 110 yX7_worthOf ∈ gtbl := gt_ 358 (by decide +kernel) (by decide +kernel)
theorem tw_359 : Cond.static yX7_worthOf ∈ gtbl := gt_ 359 (by decide +kernel) (by decide +kernel)
theorem tw_360 : Cond.code yX7_worthOf prog_1_method_53_code 5 (Option.some Jvm.ClassFile.FieldType.int) ∈ gtbl := gt_ 360 (by decide +kernel) (by decide +kernel)
theorem tw_361 : Cond.methodLink RL 23 yX7_bears ∈ gtbl := gt_ 361 (by decide +kernel) (by decide +kernel)
theorem tw_362 : Cond.instanceMethod yX7_bears ∈ gtbl := gt_ 362 (by decide +kernel) (by decide +kernel)
theorem tw_363 : Cond.selects RX7 yX7_bears yX7_bears ∈ gtbl := gt_ 363 (by decide +kernel) (by decide +kernel)
theorem tw_364 : Cond.code yX7_bears prog_1_method_4_code 3 (Option.some Jvm.ClassFile.FieldType.int) ∈ gtbl := gt_ 364 (by decide +kernel) (by decide +kernel)
theorem tw_365 : Cond.methodLink RX7 114 yX4_lookAt ∈ gtbl := gt_ 365 (by decide +kernel) (by decide +kernel)
theorem tw_366 : Cond.instanceMethod yX4_lookAt ∈ gtbl := gt_ 366 (by decide +kernel) (by decide +kernel)
theorem tw_367 : Cond.selects RX4 yX4_lookAt yX4_lookAt ∈ gtbl := gt_ 367 (by decide +kernel) (by decide +kernel)
theorem tw_368 : Cond.code yX4_lookAt prog_6_method_2_code 2 (Option.none : Option Jvm.ClassFile.FieldType) ∈ gtbl := gt_ 368 (by decide +kernel) (by decide +kernel)
theorem tw_369 : Cond.methodLink RX4 37 yX0_lawFor ∈ gtbl := gt_ 369 (by decide +kernel) (by decide +kernel)
theorem tw_370 : Cond.instanceMethod yX0_lawFor ∈ gtbl := gt_ 370 (by decide +kernel) (by decide +kernel)
theorem tw_371 : Cond.selects RX0 yX0_lawFor yX0_lawFor ∈ gtbl := gt_ 371 (by decide +kernel) (by decide +kernel)
theorem tw_372 : Cond.code yX0_lawFor prog_2_method_19_code 3 (Option.some (Jvm.ClassFile.FieldType.object "LionShield$Law")) ∈ gtbl := gt_ 372 (by decide +kernel) (by decide +kernel)
theorem tw_373 : Cond.methodLink RX0 95 yX0_lastLaw ∈ gtbl := gt_ 373 (by decide +kernel) (by decide +kernel)
theorem tw_374 : Cond.instanceMethod yX0_lastLaw ∈ gtbl := gt_ 374 (by decide +kernel) (by decide +kernel)
theorem tw_375 : Cond.selects RX0 yX0_lastLaw yX0_lastLaw ∈ gtbl := gt_ 375 (by decide +kernel) (by decide +kernel)
theorem tw_376 : Cond.code yX0_lastLaw prog_2_method_18_code 3 (Option.some Jvm.ClassFile.FieldType.int) ∈ gtbl := gt_ 376 (by decide +kernel) (by decide +kernel)
theorem tw_377 : Cond.methodLink RX0 87 yJ9_min_7cf53 ∈ gtbl := gt_ 377 (by decide +kernel) (by decide +kernel)
theorem tw_378 : Cond.static yJ9_min_7cf53 ∈ gtbl := gt_ 378 (by decide +kernel) (by decide +kernel)
theorem tw_379 : Cond.code yJ9_min_7cf53 prog_13_method_69_code 2 (Option.some Jvm.ClassFile.FieldType.int) ∈ gtbl := gt_ 379 (by decide +kernel) (by decide +kernel)
theorem tw_380 : Cond.methodLink RX4 41 yX0_heiresses ∈ gtbl := gt_ 380 (by decide +kernel) (by decide +kernel)
theorem tw_381 : Cond.instanceMethod yX0_heiresses ∈ gtbl := gt_ 381 (by decide +kernel) (by decide +kernel)
theorem tw_382 : Cond.selects RX0 yX0_heiresses yX0_heiresses ∈ gtbl := gt_ 382 (by decide +kernel) (by decide +kernel)
theorem tw_383 : Cond.code yX0_heiresses prog_2_method_15_code 3 (Option.some Jvm.ClassFile.FieldType.int) ∈ gtbl := gt_ 383 (by decide +kernel) (by decide +kernel)
theorem tw_384 : Cond.methodLink RX0 81 yX0_isHeiress ∈ gtbl := gt_ 384 (by decide +kernel) (by decide +kernel)
theorem tw_385 : Cond.methodLink RX7 118 yX4_workOut ∈ gtbl := gt_ 385 (by decide +kernel) (by decide +kernel)
theorem tw_386 : Cond.instanceMethod yX4_workOut ∈ gtbl := gt_ 386 (by decide +kernel) (by decide +kernel)
theorem tw_387 : Cond.selects RX4 yX4_workOut yX4_workOut ∈ gtbl := gt_ 387 (by decide +kernel) (by decide +kernel)
theorem tw_388 : Cond.code yX4_workOut prog_6_method_4_code 3 (Option.none : Option Jvm.ClassFile.FieldType) ∈ gtbl := gt_ 388 (by decide +kernel) (by decide +kernel)
theorem tw_389 : Cond.methodLink RX4 55 yX4_asHeir ∈ gtbl := gt_ 389 (by decide +kernel) (by decide +kernel)
theorem tw_391 : Cond.instanceMethod yX4_asHeir ∈ gtbl := gt_ 391 (by decide +kernel) (by decide +kernel)
theorem tw_392 : Cond.code yX4_asHeir prog_6_method_6_code 3 (Option.some Jvm.ClassFile.FieldType.int) ∈ gtbl := gt_ 392 (by decide +kernel) (by decide +kernel)
theorem tw_393 : Cond.methodLink RX4 83 yX4_joined ∈ gtbl := gt_ 393 (by decide +kernel) (by decide +kernel)
theorem tw_394 : Cond.instanceMethod yX4_joined ∈ gtbl := gt_ 394 (by decide +kernel) (by decide +kernel)
theorem tw_395 : Cond.selects RX4 yX4_joined yX4_joined ∈ gtbl := gt_ 395 (by decide +kernel) (by decide +kernel)
theorem tw_396 : Cond.code yX4_joined prog_6_method_7_code 8 (Option.some Jvm.ClassFile.FieldType.int) ∈ gtbl := gt_ 396 (by decide +kernel) (by decide +kernel)
theorem tw_397 : Cond.methodLink RX4 77 yX4_hidden ∈ gtbl := gt_ 397 (by decide +kernel) (by decide +kernel)
theorem tw_399 : Cond.instanceMethod yX4_hidden ∈ gtbl := gt_ 399 (by decide +kernel) (by decide +kernel)
theorem tw_400 : Cond.code yX4_hidden prog_6_method_8_code 3 (Option.some Jvm.ClassFile.FieldType.int) ∈ gtbl := gt_ 400 (by decide +kernel) (by decide +kernel)
theorem tw_401 : Cond.methodLink RX4 86 yX0_has ∈ gtbl := gt_ 401 (by decide +kernel) (by decide +kernel)
theorem tw_403 : Cond.methodLink RX4 90 yX1_give ∈ gtbl := gt_ 403 (by decide +kernel) (by decide +kernel)
theorem tw_404 : Cond.instanceMethod yX1_give ∈ gtbl := gt_ 404 (by decide +kernel) (by decide +kernel)
theorem tw_405 : Cond.selects RX1 yX1_give yX1_give ∈ gtbl := gt_ 405 (by decide +kernel) (by decide +kernel)
theorem tw_406 : Cond.code yX1_give prog_3_method_2_code 8 (Option.some Jvm.ClassFile.FieldType.int) ∈ gtbl := gt_ 406 (by decide +kernel) (by decide +kernel)
theorem tw_407 : Cond.methodLink RX1 20 yX1_leaf ∈ gtbl := gt_ 407 (by decide +kernel) (by decide +kernel)
theorem tw_408 : Cond.static yX1_leaf ∈ gtbl := gt_ 408 (by decide +kernel) (by decide +kernel)
theorem tw_409 : Cond.code yX1_leaf prog_3_method_3_code 4 (Option.some Jvm.ClassFile.FieldType.int) ∈ gtbl := gt_ 409 (by decide +kernel) (by decide +kernel)
theorem tw_410 : Cond.methodLink RX1 24 yX1_work ∈ gtbl := gt_ 410 (by decide +kernel) (by decide +kernel)
theorem tw_411 : Cond.static yX1_work ∈ gtbl := gt_ 411 (by decide +kernel) (by decide +kernel)
theorem tw_412 : Cond.code yX1_work prog_3_method_4_code 3 (Option.some Jvm.ClassFile.FieldType.int) ∈ gtbl := gt_ 412 (by decide +kernel) (by decide +kernel)
theorem tw_414 : Cond.static yX7_within ∈ gtbl := gt_ 414 (by decide +kernel) (by decide +kernel)
theorem tw_415 : Cond.code yX7_within prog_1_method_51_code 3 (Option.some Jvm.ClassFile.FieldType.int) ∈ gtbl := gt_ 415 (by decide +kernel) (by decide +kernel)
theorem tw_416 : Cond.methodLink RX7 141 yJ9_min_7cf53 ∈ gtbl := gt_ 416 (by decide +kernel) (by decide +kernel)
theorem tw_417 : Cond.methodLink RX7 322 yJ9_max_7cf53 ∈ gtbl := gt_ 417 (by decide +kernel) (by decide +kernel)
theorem tw_418 : Cond.static yJ9_max_7cf53 ∈ gtbl := gt_ 418 (by decide +kernel) (by decide +kernel)
theorem tw_419 : Cond.code yJ9_max_7cf53 prog_13_method_65_code 2 (Option.some Jvm.ClassFile.FieldType.int) ∈ gtbl := gt_ 419 (by decide +kernel) (by decide +kernel)
theorem tw_420 : Cond.methodLink RX4 59 yX4_byKind ∈ gtbl := gt_ 420 (by decide +kernel) (by decide +kernel)
theorem tw_422 : Cond.instanceMethod yX4_byKind ∈ gtbl := gt_ 422 (by decide +kernel) (by decide +kernel)
theorem tw_423 : Cond.code yX4_byKind prog_6_method_5_code 6 (Option.some Jvm.ClassFile.FieldType.int) ∈ gtbl := gt_ 423 (by decide +kernel) (by decide +kernel)
theorem tw_424 : Cond.methodLink RX4 63 yJ9_max_7cf53 ∈ gtbl := gt_ 424 (by decide +kernel) (by decide +kernel)
theorem tw_425 : Cond.methodLink RX7 122 yX4_shown ∈ gtbl := gt_ 425 (by decide +kernel) (by decide +kernel)
theorem tw_426 : Cond.instanceMethod yX4_shown ∈ gtbl := gt_ 426 (by decide +kernel) (by decide +kernel)
theorem tw_427 : Cond.selects RX4 yX4_shown yX4_shown ∈ gtbl := gt_ 427 (by decide +kernel) (by decide +kernel)
theorem tw_428 : Cond.code yX4_shown prog_6_method_9_code 3 (Option.some Jvm.ClassFile.FieldType.int) ∈ gtbl := gt_ 428 (by decide +kernel) (by decide +kernel)
theorem tw_429 : Cond.methodLink RL 27 yX7_as ∈ gtbl := gt_ 429 (by decide +kernel) (by decide +kernel)
theorem tw_430 : Cond.instanceMethod yX7_as ∈ gtbl := gt_ 430 (by decide +kernel) (by decide +kernel)
theorem tw_431 : Cond.selects RX7 yX7_as yX7_as ∈ gtbl := gt_ 431 (by decide +kernel) (by decide +kernel)
theorem tw_432 : Cond.code yX7_as prog_1_method_5_code 3 (Option.some Jvm.ClassFile.FieldType.int) ∈ gtbl := gt_ 432 (by decide +kernel) (by decide +kernel)
theorem tw_433 : Cond.methodLink RX7 125 yX7_isOfKind ∈ gtbl := gt_ 433 (by decide +kernel) (by decide +kernel)
theorem tw_434 : Cond.static yX7_isOfKind ∈ gtbl := gt_ 434 (by decide +kernel) (by decide +kernel)
theorem tw_435 : Cond.code yX7_isOfKind prog_1_method_52_code 4 (Option.some Jvm.ClassFile.FieldType.boolean) ∈ gtbl := gt_ 435 (by decide +kernel) (by decide +kernel)
theorem tw_436 : Cond.fieldLink RX7 325 RX7 "KIND_ABOVE" "[I" ∈ gtbl := gt_ 436 (by decide +kernel) (by decide +kernel)
theorem tw_438 : Cond.constant RX7 128 (-1000000012) ∈ gtbl := gt_ 438 (by decide +kernel) (by decide +kernel)
theorem tw_439 : Cond.methodLink RL 31 yX7_turns ∈ gtbl := gt_ 439 (by decide +kernel) (by decide +kernel)
theorem tw_440 : Cond.instanceMethod yX7_turns ∈ gtbl := gt_ 440 (by decide +kernel) (by decide +kernel)
theorem tw_441 : Cond.selects RX7 yX7_turns yX7_turns ∈ gtbl := gt_ 441 (by decide +kernel) (by decide +kernel)
theorem tw_442 : Cond.code yX7_turns prog_1_method_6_code 4 (Option.some Jvm.ClassFile.FieldType.int) ∈ gtbl := gt_ 442 (by decide +kernel) (by decide +kernel)
theorem tw_443 : Cond.methodLink RL 35 yX7_set ∈ gtbl := gt_ 443 (by decide +kernel) (by decide +kernel)
theorem tw_444 : Cond.instanceMethod yX7_set ∈ gtbl := gt_ 444 (by decide +kernel) (by decide +kernel)
theorem tw_445 : Cond.selects RX7 yX7_set yX7_set ∈ gtbl := gt_ 445 (by decide +kernel) (by decide +kernel)
theorem tw_446 : Cond.code yX7_set prog_1_method_7_code 5 (Option.some Jvm.ClassFile.FieldType.int) ∈ gtbl := gt_ 446 (by decide +kernel) (by decide +kernel)
theorem tw_447 : Cond.methodLink RL 40 yX7_fertile ∈ gtbl := gt_ 447 (by decide +kernel) (by decide +kernel)
theorem tw_448 : Cond.instanceMethod yX7_fertile ∈ gtbl := gt_ 448 (by decide +kernel) (by decide +kernel)
theorem tw_449 : Cond.selects RX7 yX7_fertile yX7_fertile ∈ gtbl := gt_ 449 (by decide +kernel) (by decide +kernel)
theorem tw_450 : Cond.code yX7_fertile prog_1_method_8_code 3 (Option.some Jvm.ClassFile.FieldType.int) ∈ gtbl := gt_ 450 (by decide +kernel) (by decide +kernel)
theorem tw_451 : Cond.methodLink RL 45 yX7_deal ∈ gtbl := gt_ 451 (by decide +kernel) (by decide +kernel)
theorem tw_452 : Cond.instanceMethod yX7_deal ∈ gtbl := gt_ 452 (by decide +kernel) (by decide +kernel)
theorem tw_453 : Cond.selects RX7 yX7_deal yX7_deal ∈ gtbl := gt_ 453 (by decide +kernel) (by decide +kernel)
theorem tw_454 : Cond.code yX7_deal prog_1_method_9_code 3 (Option.some Jvm.ClassFile.FieldType.int) ∈ gtbl := gt_ 454 (by decide +kernel) (by decide +kernel)
theorem tw_455 : Cond.methodLink RX7 132 yX0_drawFounder ∈ gtbl := gt_ 455 (by decide +kernel) (by decide +kernel)
theorem tw_456 : Cond.instanceMethod yX0_drawFounder ∈ gtbl := gt_ 456 (by decide +kernel) (by decide +kernel)
theorem tw_457 : Cond.selects RX0 yX0_drawFounder yX0_drawFounder ∈ gtbl := gt_ 457 (by decide +kernel) (by decide +kernel)
theorem tw_458 : Cond.code yX0_drawFounder prog_2_method_8_code 3 (Option.none : Option Jvm.ClassFile.FieldType) ∈ gtbl := gt_ 458 (by decide +kernel) (by decide +kernel)
theorem tw_459 : Cond.methodLink RX0 62 yX0_draw ∈ gtbl := gt_ 459 (by decide +kernel) (by decide +kernel)
theorem tw_460 : Cond.instanceMethod yX0_draw ∈ gtbl := gt_ 460 (by decide +kernel) (by decide +kernel)
theorem tw_461 : Cond.selects RX0 yX0_draw yX0_draw ∈ gtbl := gt_ 461 (by decide +kernel) (by decide +kernel)
theorem tw_462 : Cond.code yX0_draw prog_2_method_7_code 1 (Option.some Jvm.ClassFile.FieldType.int) ∈ gtbl := gt_ 462 (by decide +kernel) (by decide +kernel)
theorem tw_463 : Cond.constant RX0 61 (1103515245) ∈ gtbl := gt_ 463 (by decide +kernel) (by decide +kernel)
theorem tw_464 : Cond.methodLink RX0 66 yX0_add ∈ gtbl := gt_ 464 (by decide +kernel) (by decide +kernel)
theorem tw_465 : Cond.methodLink RL 49 yX7_seed ∈ gtbl := gt_ 465 (by decide +kernel) (by decide +kernel)
theorem tw_466 : Cond.instanceMethod yX7_seed ∈ gtbl := gt_ 466 (by decide +kernel) (by decide +kernel)
theorem tw_467 : Cond.selects RX7 yX7_seed yX7_seed ∈ gtbl := gt_ 467 (by decide +kernel) (by decide +kernel)
theorem tw_468 : Cond.code yX7_seed prog_1_method_10_code 3 (Option.some Jvm.ClassFile.FieldType.int) ∈ gtbl := gt_ 468 (by decide +kernel) (by decide +kernel)
theorem tw_469 : Cond.methodLink RL 53 yX7_years ∈ gtbl := gt_ 469 (by decide +kernel) (by decide +kernel)
theorem tw_470 : Cond.instanceMethod yX7_years ∈ gtbl := gt_ 470 (by decide +kernel) (by decide +kernel)
theorem tw_471 : Cond.selects RX7 yX7_years yX7_years ∈ gtbl := gt_ 471 (by decide +kernel) (by decide +kernel)
theorem tw_472 : Cond.code yX7_years prog_1_method_11_code 5 (Option.some Jvm.ClassFile.FieldType.int) ∈ gtbl := gt_ 472 (by decide +kernel) (by decide +kernel)
theorem tw_473 : Cond.methodLink RX7 146 yX0_passYear ∈ gtbl := gt_ 473 (by decide +kernel) (by decide +kernel)
theorem tw_474 : Cond.instanceMethod yX0_passYear ∈ gtbl := gt_ 474 (by decide +kernel) (by decide +kernel)
theorem tw_475 : Cond.selects RX0 yX0_passYear yX0_passYear ∈ gtbl := gt_ 475 (by decide +kernel) (by decide +kernel)
theorem tw_476 : Cond.code yX0_passYear prog_2_method_9_code 2 (Option.some Jvm.ClassFile.FieldType.boolean) ∈ gtbl := gt_ 476 (by decide +kernel) (by decide +kernel)
theorem tw_477 : Cond.methodLink RX0 70 yX0_bringForth ∈ gtbl := gt_ 477 (by decide +kernel) (by decide +kernel)
theorem tw_479 : Cond.instanceMethod yX0_bringForth ∈ gtbl := gt_ 479 (by decide +kernel) (by decide +kernel)
theorem tw_480 : Cond.code yX0_bringForth prog_2_method_10_code 7 (Option.some Jvm.ClassFile.FieldType.boolean) ∈ gtbl := gt_ 480 (by decide +kernel) (by decide +kernel)
theorem tw_481 : Cond.methodLink RX0 73 yX0_howMany ∈ gtbl := gt_ 481 (by decide +kernel) (by decide +kernel)
theorem tw_482 : Cond.instanceMethod yX0_howMany ∈ gtbl := gt_ 482 (by decide +kernel) (by decide +kernel)
theorem tw_483 : Cond.selects RX0 yX0_howMany yX0_howMany ∈ gtbl := gt_ 483 (by decide +kernel) (by decide +kernel)
theorem tw_484 : Cond.code yX0_howMany prog_2_method_11_code 4 (Option.some Jvm.ClassFile.FieldType.int) ∈ gtbl := gt_ 484 (by decide +kernel) (by decide +kernel)
theorem tw_485 : Cond.methodLink RX0 77 yX0_nthOf ∈ gtbl := gt_ 485 (by decide +kernel) (by decide +kernel)
theorem tw_487 : Cond.instanceMethod yX0_nthOf ∈ gtbl := gt_ 487 (by decide +kernel) (by decide +kernel)
theorem tw_488 : Cond.code yX0_nthOf prog_2_method_12_code 5 (Option.some Jvm.ClassFile.FieldType.int) ∈ gtbl := gt_ 488 (by decide +kernel) (by decide +kernel)
theorem tw_489 : Cond.methodLink RL 57 yX7_alike ∈ gtbl := gt_ 489 (by decide +kernel) (by decide +kernel)
theorem tw_490 : Cond.instanceMethod yX7_alike ∈ gtbl := gt_ 490 (by decide +kernel) (by decide +kernel)
theorem tw_491 : Cond.selects RX7 yX7_alike yX7_alike ∈ gtbl := gt_ 491 (by decide +kernel) (by decide +kernel)
theorem tw_492 : Cond.code yX7_alike prog_1_method_12_code 3 (Option.some Jvm.ClassFile.FieldType.int) ∈ gtbl := gt_ 492 (by decide +kernel) (by decide +kernel)
theorem tw_493 : Cond.methodLink RX7 149 yX4_workOutAll ∈ gtbl := gt_ 493 (by decide +kernel) (by decide +kernel)
theorem tw_494 : Cond.instanceMethod yX4_workOutAll ∈ gtbl := gt_ 494 (by decide +kernel) (by decide +kernel)
theorem tw_495 : Cond.selects RX4 yX4_workOutAll yX4_workOutAll ∈ gtbl := gt_ 495 (by decide +kernel) (by decide +kernel)
theorem tw_496 : Cond.code yX4_workOutAll prog_6_method_3_code 3 (Option.none : Option Jvm.ClassFile.FieldType) ∈ gtbl := gt_ 496 (by decide +kernel) (by decide +kernel)
theorem tw_497 : Cond.methodLink RX4 44 yX4_lookAt ∈ gtbl := gt_ 497 (by decide +kernel) (by decide +kernel)
theorem tw_498 : Cond.methodLink RX4 48 yX4_workOut ∈ gtbl := gt_ 498 (by decide +kernel) (by decide +kernel)
theorem tw_499 : Cond.methodLink RX7 152 yX4_packed ∈ gtbl := gt_ 499 (by decide +kernel) (by decide +kernel)
theorem tw_500 : Cond.instanceMethod yX4_packed ∈ gtbl := gt_ 500 (by decide +kernel) (by decide +kernel)
theorem tw_501 : Cond.selects RX4 yX4_packed yX4_packed ∈ gtbl := gt_ 501 (by decide +kernel) (by decide +kernel)
theorem tw_502 : Cond.code yX4_packed prog_6_method_10_code 5 (Option.some Jvm.ClassFile.FieldType.long) ∈ gtbl := gt_ 502 (by decide +kernel) (by decide +kernel)
theorem tw_503 : Cond.methodLink RX4 105 yX4_shown ∈ gtbl := gt_ 503 (by decide +kernel) (by decide +kernel)
theorem tw_504 : Cond.methodLink RL 61 yX7_land ∈ gtbl := gt_ 504 (by decide +kernel) (by decide +kernel)
theorem tw_505 : Cond.instanceMethod yX7_land ∈ gtbl := gt_ 505 (by decide +kernel) (by decide +kernel)
theorem tw_506 : Cond.selects RX7 yX7_land yX7_land ∈ gtbl := gt_ 506 (by decide +kernel) (by decide +kernel)
theorem tw_507 : Cond.code yX7_land prog_1_method_13_code 2 (Option.some Jvm.ClassFile.FieldType.int) ∈ gtbl := gt_ 507 (by decide +kernel) (by decide +kernel)
theorem tw_508 : Cond.methodLink RX7 156 yX4_clashes ∈ gtbl := gt_ 508 (by decide +kernel) (by decide +kernel)
theorem tw_509 : Cond.instanceMethod yX4_clashes ∈ gtbl := gt_ 509 (by decide +kernel) (by decide +kernel)
theorem tw_510 : Cond.selects RX4 yX4_clashes yX4_clashes ∈ gtbl := gt_ 510 (by decide +kernel) (by decide +kernel)
theorem tw_511 : Cond.code yX4_clashes prog_6_method_11_code 4 (Option.some Jvm.ClassFile.FieldType.int) ∈ gtbl := gt_ 511 (by decide +kernel) (by decide +kernel)
theorem tw_512 : Cond.methodLink RX4 108 yX4_packed ∈ gtbl := gt_ 512 (by decide +kernel) (by decide +kernel)
theorem tw_513 : Cond.methodLink RX7 160 yX0_howMany ∈ gtbl := gt_ 513 (by decide +kernel) (by decide +kernel)
theorem tw_514 : Cond.methodLink RX7 164 yX0_heiresses ∈ gtbl := gt_ 514 (by decide +kernel) (by decide +kernel)
theorem tw_515 : Cond.methodLink RL 65 yX7_sixteenth ∈ gtbl := gt_ 515 (by decide +kernel) (by decide +kernel)
theorem tw_516 : Cond.instanceMethod yX7_sixteenth ∈ gtbl := gt_ 516 (by decide +kernel) (by decide +kernel)
theorem tw_517 : Cond.selects RX7 yX7_sixteenth yX7_sixteenth ∈ gtbl := gt_ 517 (by decide +kernel) (by decide +kernel)
theorem tw_518 : Cond.code yX7_sixteenth prog_1_method_14_code 2 (Option.some Jvm.ClassFile.FieldType.int) ∈ gtbl := gt_ 518 (by decide +kernel) (by decide +kernel)
theorem tw_519 : Cond.methodLink RX7 167 yX4_bearersOf ∈ gtbl := gt_ 519 (by decide +kernel) (by decide +kernel)
theorem tw_520 : Cond.instanceMethod yX4_bearersOf ∈ gtbl := gt_ 520 (by decide +kernel) (by decide +kernel)
theorem tw_521 : Cond.selects RX4 yX4_bearersOf yX4_bearersOf ∈ gtbl := gt_ 521 (by decide +kernel) (by decide +kernel)
theorem tw_522 : Cond.code yX4_bearersOf prog_6_method_13_code 5 (Option.some Jvm.ClassFile.FieldType.int) ∈ gtbl := gt_ 522 (by decide +kernel) (by decide +kernel)
theorem tw_523 : Cond.methodLink RL 69 yX7_from ∈ gtbl := gt_ 523 (by decide +kernel) (by decide +kernel)
theorem tw_524 : Cond.instanceMethod yX7_from ∈ gtbl := gt_ 524 (by decide +kernel) (by decide +kernel)
theorem tw_525 : Cond.selects RX7 yX7_from yX7_from ∈ gtbl := gt_ 525 (by decide +kernel) (by decide +kernel)
theorem tw_526 : Cond.code yX7_from prog_1_method_15_code 4 (Option.some Jvm.ClassFile.FieldType.int) ∈ gtbl := gt_ 526 (by decide +kernel) (by decide +kernel)
theorem tw_527 : Cond.methodLink RX7 170 yX0_oldestFounder ∈ gtbl := gt_ 527 (by decide +kernel) (by decide +kernel)
theorem tw_528 : Cond.instanceMethod yX0_oldestFounder ∈ gtbl := gt_ 528 (by decide +kernel) (by decide +kernel)
theorem tw_529 : Cond.selects RX0 yX0_oldestFounder yX0_oldestFounder ∈ gtbl := gt_ 529 (by decide +kernel) (by decide +kernel)
theorem tw_530 : Cond.code yX0_oldestFounder prog_2_method_16_code 6 (Option.some Jvm.ClassFile.FieldType.int) ∈ gtbl := gt_ 530 (by decide +kernel) (by decide +kernel)
theorem tw_531 : Cond.methodLink RX0 84 yX0_bitOf ∈ gtbl := gt_ 531 (by decide +kernel) (by decide +kernel)
theorem tw_532 : Cond.static yX0_bitOf ∈ gtbl := gt_ 532 (by decide +kernel) (by decide +kernel)
theorem tw_533 : Cond.code yX0_bitOf prog_2_method_17_code 1 (Option.some Jvm.ClassFile.FieldType.int) ∈ gtbl := gt_ 533 (by decide +kernel) (by decide +kernel)
theorem tw_534 : Cond.constant RX7 173 (-1000000005) ∈ gtbl := gt_ 534 (by decide +kernel) (by decide +kernel)
theorem tw_535 : Cond.methodLink RL 73 yX7_match ∈ gtbl := gt_ 535 (by decide +kernel) (by decide +kernel)
theorem tw_536 : Cond.instanceMethod yX7_match ∈ gtbl := gt_ 536 (by decide +kernel) (by decide +kernel)
theorem tw_537 : Cond.selects RX7 yX7_match yX7_match ∈ gtbl := gt_ 537 (by decide +kernel) (by decide +kernel)
theorem tw_538 : Cond.code yX7_match prog_1_method_16_code 8 (Option.some Jvm.ClassFile.FieldType.int) ∈ gtbl := gt_ 538 (by decide +kernel) (by decide +kernel)
theorem tw_539 : Cond.methodLink RX7 177 yX4_joined ∈ gtbl := gt_ 539 (by decide +kernel) (by decide +kernel)
theorem tw_540 : Cond.methodLink RL 77 yX7_repaint ∈ gtbl := gt_ 540 (by decide +kernel) (by decide +kernel)
theorem tw_541 : Cond.instanceMethod yX7_repaint ∈ gtbl := gt_ 541 (by decide +kernel) (by decide +kernel)
theorem tw_542 : Cond.selects RX7 yX7_repaint yX7_repaint ∈ gtbl := gt_ 542 (by decide +kernel) (by decide +kernel)
theorem tw_543 : Cond.code yX7_repaint prog_1_method_17_code 7 (Option.some Jvm.ClassFile.FieldType.int) ∈ gtbl := gt_ 543 (by decide +kernel) (by decide +kernel)
theorem tw_544 : Cond.methodLink RX7 181 yX0_become ∈ gtbl := gt_ 544 (by decide +kernel) (by decide +kernel)
theorem tw_545 : Cond.instanceMethod yX0_become ∈ gtbl := gt_ 545 (by decide +kernel) (by decide +kernel)
theorem tw_546 : Cond.selects RX0 yX0_become yX0_become ∈ gtbl := gt_ 546 (by decide +kernel) (by decide +kernel)
theorem tw_547 : Cond.code yX0_become prog_2_method_2_code 3 (Option.none : Option Jvm.ClassFile.FieldType) ∈ gtbl := gt_ 547 (by decide +kernel) (by decide +kernel)
theorem tw_548 : Cond.methodLink RX7 184 yX7_repaintThought ∈ gtbl := gt_ 548 (by decide +kernel) (by decide +kernel)
theorem tw_550 : Cond.instanceMethod yX7_repaintThought ∈ gtbl := gt_ 550 (by decide +kernel) (by decide +kernel)
theorem tw_551 : Cond.code yX7_repaintThought prog_1_method_45_code 4 (Option.none : Option Jvm.ClassFile.FieldType) ∈ gtbl := gt_ 551 (by decide +kernel) (by decide +kernel)
theorem tw_552 : Cond.methodLink RL 82 yX7_behind ∈ gtbl := gt_ 552 (by decide +kernel) (by decide +kernel)
theorem tw_553 : Cond.instanceMethod yX7_behind ∈ gtbl := gt_ 553 (by decide +kernel) (by decide +kernel)
theorem tw_554 : Cond.selects RX7 yX7_behind yX7_behind ∈ gtbl := gt_ 554 (by decide +kernel) (by decide +kernel)
theorem tw_555 : Cond.code yX7_behind prog_1_method_18_code 3 (Option.some Jvm.ClassFile.FieldType.int) ∈ gtbl := gt_ 555 (by decide +kernel) (by decide +kernel)
theorem tw_556 : Cond.methodLink RX7 188 yX7_think ∈ gtbl := gt_ 556 (by decide +kernel) (by decide +kernel)
theorem tw_558 : Cond.instanceMethod yX7_think ∈ gtbl := gt_ 558 (by decide +kernel) (by decide +kernel)
theorem tw_559 : Cond.code yX7_think prog_1_method_43_code 3 (Option.none : Option Jvm.ClassFile.FieldType) ∈ gtbl := gt_ 559 (by decide +kernel) (by decide +kernel)
theorem tw_560 : Cond.methodLink RX7 191 yX7_allBear ∈ gtbl := gt_ 560 (by decide +kernel) (by decide +kernel)
theorem tw_562 : Cond.instanceMethod yX7_allBear ∈ gtbl := gt_ 562 (by decide +kernel) (by decide +kernel)
theorem tw_563 : Cond.code yX7_allBear prog_1_method_44_code 3 (Option.some Jvm.ClassFile.FieldType.int) ∈ gtbl := gt_ 563 (by decide +kernel) (by decide +kernel)
theorem tw_564 : Cond.methodLink RX7 319 yX4_together ∈ gtbl := gt_ 564 (by decide +kernel) (by decide +kernel)
theorem tw_565 : Cond.instanceMethod yX4_together ∈ gtbl := gt_ 565 (by decide +kernel) (by decide +kernel)
theorem tw_566 : Cond.selects RX4 yX4_together yX4_together ∈ gtbl := gt_ 566 (by decide +kernel) (by decide +kernel)
theorem tw_567 : Cond.code yX4_together prog_6_method_12_code 4 (Option.some Jvm.ClassFile.FieldType.int) ∈ gtbl := gt_ 567 (by decide +kernel) (by decide +kernel)
theorem tw_568 : Cond.methodLink RL 86 yX7_born ∈ gtbl := gt_ 568 (by decide +kernel) (by decide +kernel)
theorem tw_569 : Cond.instanceMethod yX7_born ∈ gtbl := gt_ 569 (by decide +kernel) (by decide +kernel)
theorem tw_570 : Cond.selects RX7 yX7_born yX7_born ∈ gtbl := gt_ 570 (by decide +kernel) (by decide +kernel)
theorem tw_571 : Cond.code yX7_born prog_1_method_19_code 2 (Option.some Jvm.ClassFile.FieldType.int) ∈ gtbl := gt_ 571 (by decide +kernel) (by decide +kernel)
theorem tw_572 : Cond.methodLink RL 90 yX7_gone ∈ gtbl := gt_ 572 (by decide +kernel) (by decide +kernel)
theorem tw_573 : Cond.instanceMethod yX7_gone ∈ gtbl := gt_ 573 (by decide +kernel) (by decide +kernel)
theorem tw_574 : Cond.selects RX7 yX7_gone yX7_gone ∈ gtbl := gt_ 574 (by decide +kernel) (by decide +kernel)
theorem tw_575 : Cond.code yX7_gone prog_1_method_20_code 7 (Option.some Jvm.ClassFile.FieldType.int) ∈ gtbl := gt_ 575 (by decide +kernel) (by decide +kernel)
theorem tw_576 : Cond.methodLink RX7 195 yJ6_bitCount_0f7a4 ∈ gtbl := gt_ 576 (by decide +kernel) (by decide +kernel)
theorem tw_577 : Cond.static yJ6_bitCount_0f7a4 ∈ gtbl := gt_ 577 (by decide +kernel) (by decide +kernel)
theorem tw_578 : Cond.code yJ6_bitCount_0f7a4 prog_12_method_49_code 1 (Option.some Jvm.ClassFile.FieldType.int) ∈ gtbl := gt_ 578 (by decide +kernel) (by decide +kernel)
theorem tw_579 : Cond.constant RJ6 265 (1431655765) ∈ gtbl := gt_ 579 (by decide +kernel) (by decide +kernel)
theorem tw_580 : Cond.constant RJ6 266 (858993459) ∈ gtbl := gt_ 580 (by decide +kernel) (by decide +kernel)
theorem tw_581 : Cond.constant RJ6 267 (252645135) ∈ gtbl := gt_ 581 (by decide +kernel) (by decide +kernel)
theorem tw_582 : Cond.methodLink RL 94 yX7_spoon ∈ gtbl := gt_ 582 (by decide +kernel) (by decide +kernel)
theorem tw_583 : Cond.instanceMethod yX7_spoon ∈ gtbl := gt_ 583 (by decide +kernel) (by decide +kernel)
theorem tw_584 : Cond.selects RX7 yX7_spoon yX7_spoon ∈ gtbl := gt_ 584 (by decide +kernel) (by decide +kernel)
theorem tw_585 : Cond.code yX7_spoon prog_1_method_21_code 8 (Option.some Jvm.ClassFile.FieldType.int) ∈ gtbl := gt_ 585 (by decide +kernel) (by decide +kernel)
theorem tw_586 : Cond.methodLink RX7 200 yX7_isSheet ∈ gtbl := gt_ 586 (by decide +kernel) (by decide +kernel)
theorem tw_587 : Cond.static yX7_isSheet ∈ gtbl := gt_ 587 (by decide +kernel) (by decide +kernel)
theorem tw_588 : Cond.code yX7_isSheet prog_1_method_49_code 1 (Option.some Jvm.ClassFile.FieldType.boolean) ∈ gtbl := gt_ 588 (by decide +kernel) (by decide +kernel)
theorem tw_589 : Cond.methodLink RX7 203 yX3_isMissing ∈ gtbl := gt_ 589 (by decide +kernel) (by decide +kernel)
theorem tw_590 : Cond.instanceMethod yX3_isMissing ∈ gtbl := gt_ 590 (by decide +kernel) (by decide +kernel)
theorem tw_591 : Cond.selects RX3 yX3_isMissing yX3_isMissing ∈ gtbl := gt_ 591 (by decide +kernel) (by decide +kernel)
theorem tw_592 : Cond.code yX3_isMissing prog_5_method_4_code 1 (Option.some Jvm.ClassFile.FieldType.boolean) ∈ gtbl := gt_ 592 (by decide +kernel) (by decide +kernel)
theorem tw_593 : Cond.constant RX7 206 (-1000000011) ∈ gtbl := gt_ 593 (by decide +kernel) (by decide +kernel)
theorem tw_594 : Cond.methodLink RX7 207 yX4_apart ∈ gtbl := gt_ 594 (by decide +kernel) (by decide +kernel)
theorem tw_595 : Cond.instanceMethod yX4_apart ∈ gtbl := gt_ 595 (by decide +kernel) (by decide +kernel)
theorem tw_596 : Cond.selects RX4 yX4_apart yX4_apart ∈ gtbl := gt_ 596 (by decide +kernel) (by decide +kernel)
theorem tw_597 : Cond.code yX4_apart prog_6_method_14_code 5 (Option.some Jvm.ClassFile.FieldType.int) ∈ gtbl := gt_ 597 (by decide +kernel) (by decide +kernel)
theorem tw_598 : Cond.methodLink RX4 112 yX3_isNumber ∈ gtbl := gt_ 598 (by decide +kernel) (by decide +kernel)
theorem tw_599 : Cond.instanceMethod yX3_isNumber ∈ gtbl := gt_ 599 (by decide +kernel) (by decide +kernel)
theorem tw_600 : Cond.selects RX3 yX3_isNumber yX3_isNumber ∈ gtbl := gt_ 600 (by decide +kernel) (by decide +kernel)
theorem tw_601 : Cond.code yX3_isNumber prog_5_method_7_code 2 (Option.some Jvm.ClassFile.FieldType.boolean) ∈ gtbl := gt_ 601 (by decide +kernel) (by decide +kernel)
theorem tw_602 : Cond.methodLink RX3 22 yX3_hasPlace ∈ gtbl := gt_ 602 (by decide +kernel) (by decide +kernel)
theorem tw_603 : Cond.instanceMethod yX3_hasPlace ∈ gtbl := gt_ 603 (by decide +kernel) (by decide +kernel)
theorem tw_604 : Cond.selects RX3 yX3_hasPlace yX3_hasPlace ∈ gtbl := gt_ 604 (by decide +kernel) (by decide +kernel)
theorem tw_605 : Cond.code yX3_hasPlace prog_5_method_5_code 2 (Option.some Jvm.ClassFile.FieldType.boolean) ∈ gtbl := gt_ 605 (by decide +kernel) (by decide +kernel)
theorem tw_606 : Cond.constant RX3 26 (-1000000005) ∈ gtbl := gt_ 606 (by decide +kernel) (by decide +kernel)
theorem tw_607 : Cond.methodLink RX4 120 yJ9_abs_0f7a4 ∈ gtbl := gt_ 607 (by decide +kernel) (by decide +kernel)
theorem tw_608 : Cond.static yJ9_abs_0f7a4 ∈ gtbl := gt_ 608 (by decide +kernel) (by decide +kernel)
theorem tw_609 : Cond.code yJ9_abs_0f7a4 prog_13_method_59_code 1 (Option.some Jvm.ClassFile.FieldType.int) ∈ gtbl := gt_ 609 (by decide +kernel) (by decide +kernel)
theorem tw_610 : Cond.methodLink RL 98 yX7_fee ∈ gtbl := gt_ 610 (by decide +kernel) (by decide +kernel)
theorem tw_611 : Cond.instanceMethod yX7_fee ∈ gtbl := gt_ 611 (by decide +kernel) (by decide +kernel)
theorem tw_612 : Cond.selects RX7 yX7_fee yX7_fee ∈ gtbl := gt_ 612 (by decide +kernel) (by decide +kernel)
theorem tw_613 : Cond.code yX7_fee prog_1_method_22_code 2 (Option.some Jvm.ClassFile.FieldType.int) ∈ gtbl := gt_ 613 (by decide +kernel) (by decide +kernel)
theorem tw_614 : Cond.methodLink RX7 211 yX0_lawFor ∈ gtbl := gt_ 614 (by decide +kernel) (by decide +kernel)
theorem tw_615 : Cond.methodLink RX7 215 yX1_give ∈ gtbl := gt_ 615 (by decide +kernel) (by decide +kernel)
theorem tw_616 : Cond.methodLink RL 102 yX7_fine ∈ gtbl := gt_ 616 (by decide +kernel) (by decide +kernel)
theorem tw_617 : Cond.instanceMethod yX7_fine ∈ gtbl := gt_ 617 (by decide +kernel) (by decide +kernel)
theorem tw_618 : Cond.selects RX7 yX7_fine yX7_fine ∈ gtbl := gt_ 618 (by decide +kernel) (by decide +kernel)
theorem tw_619 : Cond.code yX7_fine prog_1_method_23_code 3 (Option.some Jvm.ClassFile.FieldType.int) ∈ gtbl := gt_ 619 (by decide +kernel) (by decide +kernel)
theorem tw_620 : Cond.methodLink RL 106 yX7_feed ∈ gtbl := gt_ 620 (by decide +kernel) (by decide +kernel)
theorem tw_621 : Cond.instanceMethod yX7_feed ∈ gtbl := gt_ 621 (by decide +kernel) (by decide +kernel)
theorem tw_622 : Cond.selects RX7 yX7_feed yX7_feed ∈ gtbl := gt_ 622 (by decide +kernel) (by decide +kernel)
theorem tw_623 : Cond.code yX7_feed prog_1_method_24_code 5 (Option.some Jvm.ClassFile.FieldType.int) ∈ gtbl := gt_ 623 (by decide +kernel) (by decide +kernel)
theorem tw_624 : Cond.methodLink RX7 230 yX6_take ∈ gtbl := gt_ 624 (by decide +kernel) (by decide +kernel)
theorem tw_625 : Cond.instanceMethod yX6_take ∈ gtbl := gt_ 625 (by decide +kernel) (by decide +kernel)
theorem tw_626 : Cond.selects RX6 yX6_take yX6_take ∈ gtbl := gt_ 626 (by decide +kernel) (by decide +kernel)
theorem tw_627 : Cond.code yX6_take prog_8_method_2_code 3 (Option.none : Option Jvm.ClassFile.FieldType) ∈ gtbl := gt_ 627 (by decide +kernel) (by decide +kernel)
theorem tw_628 : Cond.methodLink RL 110 yX7_trim ∈ gtbl := gt_ 628 (by decide +kernel) (by decide +kernel)
theorem tw_629 : Cond.instanceMethod yX7_trim ∈ gtbl := gt_ 629 (by decide +kernel) (by decide +kernel)
theorem tw_630 : Cond.selects RX7 yX7_trim yX7_trim ∈ gtbl := gt_ 630 (by decide +kernel) (by decide +kernel)
theorem tw_631 : Cond.code yX7_trim prog_1_method_25_code 2 (Option.some Jvm.ClassFile.FieldType.int) ∈ gtbl := gt_ 631 (by decide +kernel) (by decide +kernel)
theorem tw_632 : Cond.methodLink RL 114 yX7_text ∈ gtbl := gt_ 632 (by decide +kernel) (by decide +kernel)
theorem tw_633 : Cond.instanceMethod yX7_text ∈ gtbl := gt_ 633 (by decide +kernel) (by decide +kernel)
theorem tw_634 : Cond.selects RX7 yX7_text yX7_text ∈ gtbl := gt_ 634 (by decide +kernel) (by decide +kernel)
theorem tw_635 : Cond.code yX7_text prog_1_method_26_code 2 (Option.some Jvm.ClassFile.FieldType.int) ∈ gtbl := gt_ 635 (by decide +kernel) (by decide +kernel)
theorem tw_636 : Cond.methodLink RX7 233 yX2_readTape ∈ gtbl := gt_ 636 (by decide +kernel) (by decide +kernel)
theorem tw_637 : Cond.instanceMethod yX2_readTape ∈ gtbl := gt_ 637 (by decide +kernel) (by decide +kernel)
theorem tw_638 : Cond.selects RX2 yX2_readTape yX2_readTape ∈ gtbl := gt_ 638 (by decide +kernel) (by decide +kernel)
theorem tw_639 : Cond.code yX2_readTape prog_4_method_2_code 1 (Option.none : Option Jvm.ClassFile.FieldType) ∈ gtbl := gt_ 639 (by decide +kernel) (by decide +kernel)
theorem tw_640 : Cond.methodLink RX2 50 yX2_advance ∈ gtbl := gt_ 640 (by decide +kernel) (by decide +kernel)
theorem tw_642 : Cond.instanceMethod yX2_advance ∈ gtbl := gt_ 642 (by decide +kernel) (by decide +kernel)
theorem tw_643 : Cond.code yX2_advance prog_4_method_5_code 3 (Option.none : Option Jvm.ClassFile.FieldType) ∈ gtbl := gt_ 643 (by decide +kernel) (by decide +kernel)
theorem tw_644 : Cond.methodLink RX2 72 yX6_at ∈ gtbl := gt_ 644 (by decide +kernel) (by decide +kernel)
theorem tw_645 : Cond.instanceMethod yX6_at ∈ gtbl := gt_ 645 (by decide +kernel) (by decide +kernel)
theorem tw_646 : Cond.selects RX6 yX6_at yX6_at ∈ gtbl := gt_ 646 (by decide +kernel) (by decide +kernel)
theorem tw_647 : Cond.code yX6_at prog_8_method_3_code 2 (Option.some Jvm.ClassFile.FieldType.int) ∈ gtbl := gt_ 647 (by decide +kernel) (by decide +kernel)
theorem tw_648 : Cond.methodLink RX2 76 yX2_sortOf ∈ gtbl := gt_ 648 (by decide +kernel) (by decide +kernel)
theorem tw_649 : Cond.static yX2_sortOf ∈ gtbl := gt_ 649 (by decide +kernel) (by decide +kernel)
theorem tw_650 : Cond.code yX2_sortOf prog_4_method_6_code 1 (Option.some Jvm.ClassFile.FieldType.int) ∈ gtbl := gt_ 650 (by decide +kernel) (by decide +kernel)
theorem tw_651 : Cond.methodLink RX2 53 yX2_keyHere ∈ gtbl := gt_ 651 (by decide +kernel) (by decide +kernel)
theorem tw_653 : Cond.instanceMethod yX2_keyHere ∈ gtbl := gt_ 653 (by decide +kernel) (by decide +kernel)
theorem tw_654 : Cond.code yX2_keyHere prog_4_method_7_code 1 (Option.some Jvm.ClassFile.FieldType.int) ∈ gtbl := gt_ 654 (by decide +kernel) (by decide +kernel)
theorem tw_656 : Cond.methodLink RX2 81 yX2_isWord ∈ gtbl := gt_ 656 (by decide +kernel) (by decide +kernel)
theorem tw_658 : Cond.instanceMethod yX2_isWord ∈ gtbl := gt_ 658 (by decide +kernel) (by decide +kernel)
theorem tw_659 : Cond.code yX2_isWord prog_4_method_8_code 3 (Option.some Jvm.ClassFile.FieldType.boolean) ∈ gtbl := gt_ 659 (by decide +kernel) (by decide +kernel)
theorem tw_660 : Cond.methodLink RX2 89 yJ0_length_8abf5 ∈ gtbl := gt_ 660 (by decide +kernel) (by decide +kernel)
theorem tw_661 : Cond.instanceMethod yJ0_length_8abf5 ∈ gtbl := gt_ 661 (by decide +kernel) (by decide +kernel)
theorem tw_662 : Cond.selects RJ0 yJ0_length_8abf5 yJ0_length_8abf5 ∈ gtbl := gt_ 662 (by decide +kernel) (by decide +kernel)
theorem tw_663 : Cond.code yJ0_length_8abf5 prog_14_method_54_code 1 (Option.some Jvm.ClassFile.FieldType.int) ∈ gtbl := gt_ 663 (by decide +kernel) (by decide +kernel)
theorem tw_664 : Cond.methodLink RJ0 335 yJ0_coder_7d493 ∈ gtbl := gt_ 664 (by decide +kernel) (by decide +kernel)
theorem tw_665 : Cond.instanceMethod yJ0_coder_7d493 ∈ gtbl := gt_ 665 (by decide +kernel) (by decide +kernel)
theorem tw_666 : Cond.selects RJ0 yJ0_coder_7d493 yJ0_coder_7d493 ∈ gtbl := gt_ 666 (by decide +kernel) (by decide +kernel)
theorem tw_667 : Cond.code yJ0_coder_7d493 prog_14_method_152_code 1 (Option.some Jvm.ClassFile.FieldType.byte) ∈ gtbl := gt_ 667 (by decide +kernel) (by decide +kernel)
theorem tw_668 : Cond.fieldLink RJ0 38 RJ0 "COMPACT_STRINGS" "Z" ∈ gtbl := gt_ 668 (by decide +kernel) (by decide +kernel)
theorem tw_670 : Cond.methodLink RX2 93 yJ0_charAt_5068e ∈ gtbl := gt_ 670 (by decide +kernel) (by decide +kernel)
theorem tw_671 : Cond.instanceMethod yJ0_charAt_5068e ∈ gtbl := gt_ 671 (by decide +kernel) (by decide +kernel)
theorem tw_672 : Cond.selects RJ0 yJ0_charAt_5068e yJ0_charAt_5068e ∈ gtbl := gt_ 672 (by decide +kernel) (by decide +kernel)
theorem tw_673 : Cond.code yJ0_charAt_5068e prog_14_method_56_code 2 (Option.some Jvm.ClassFile.FieldType.char) ∈ gtbl := gt_ 673 (by decide +kernel) (by decide +kernel)
theorem tw_674 : Cond.methodLink RJ0 492 yJ0_isLatin1_aae02 ∈ gtbl := gt_ 674 (by decide +kernel) (by decide +kernel)
theorem tw_675 : Cond.instanceMethod yJ0_isLatin1_aae02 ∈ gtbl := gt_ 675 (by decide +kernel) (by decide +kernel)
theorem tw_676 : Cond.selects RJ0 yJ0_isLatin1_aae02 yJ0_isLatin1_aae02 ∈ gtbl := gt_ 676 (by decide +kernel) (by decide +kernel)
theorem tw_677 : Cond.code yJ0_isLatin1_aae02 prog_14_method_154_code 1 (Option.some Jvm.ClassFile.FieldType.boolean) ∈ gtbl := gt_ 677 (by decide +kernel) (by decide +kernel)
theorem tw_678 : Cond.methodLink RJ0 495 yJ1_charAt_3b067 ∈ gtbl := gt_ 678 (by decide +kernel) (by decide +kernel)
theorem tw_679 : Cond.static yJ1_charAt_3b067 ∈ gtbl := gt_ 679 (by decide +kernel) (by decide +kernel)
theorem tw_680 : Cond.code yJ1_charAt_3b067 prog_15_method_2_code 2 (Option.some Jvm.ClassFile.FieldType.char) ∈ gtbl := gt_ 680 (by decide +kernel) (by decide +kernel)
theorem tw_681 : Cond.methodLink RJ1 9 yJ0_checkIndex_df160 ∈ gtbl := gt_ 681 (by decide +kernel) (by decide +kernel)
theorem tw_682 : Cond.static yJ0_checkIndex_df160 ∈ gtbl := gt_ 682 (by decide +kernel) (by decide +kernel)
theorem tw_683 : Cond.code yJ0_checkIndex_df160 prog_14_method_155_code 2 (Option.none : Option Jvm.ClassFile.FieldType) ∈ gtbl := gt_ 683 (by decide +kernel) (by decide +kernel)
theorem tw_684 : Cond.fieldLink RJ0 1053 RJ3 "SIOOBE_FORMATTER" "Ljava/util/function/BiFunction;" ∈ gtbl := gt_ 684 (by decide +kernel) (by decide +kernel)
theorem tw_686 : Cond.methodLink RJ0 1059 yJ3_checkIndex_8e157 ∈ gtbl := gt_ 686 (by decide +kernel) (by decide +kernel)
theorem tw_687 : Cond.static yJ3_checkIndex_8e157 ∈ gtbl := gt_ 687 (by decide +kernel) (by decide +kernel)
theorem tw_688 : Cond.code yJ3_checkIndex_8e157 prog_18_method_11_code 3 (Option.some Jvm.ClassFile.FieldType.int) ∈ gtbl := gt_ 688 (by decide +kernel) (by decide +kernel)
theorem tw_689 : Cond.methodLink RJ0 498 yJ2_charAt_3b067 ∈ gtbl := gt_ 689 (by decide +kernel) (by decide +kernel)
theorem tw_690 : Cond.static yJ2_charAt_3b067 ∈ gtbl := gt_ 690 (by decide +kernel) (by decide +kernel)
theorem tw_691 : Cond.code yJ2_charAt_3b067 prog_16_method_83_code 2 (Option.some Jvm.ClassFile.FieldType.char) ∈ gtbl := gt_ 691 (by decide +kernel) (by decide +kernel)
theorem tw_692 : Cond.methodLink RJ2 67 yJ2_checkIndex_2214a ∈ gtbl := gt_ 692 (by decide +kernel) (by decide +kernel)
theorem tw_693 : Cond.static yJ2_checkIndex_2214a ∈ gtbl := gt_ 693 (by decide +kernel) (by decide +kernel)
theorem tw_694 : Cond.code yJ2_checkIndex_2214a prog_16_method_91_code 2 (Option.none : Option Jvm.ClassFile.FieldType) ∈ gtbl := gt_ 694 (by decide +kernel) (by decide +kernel)
theorem tw_695 : Cond.methodLink RJ2 48 yJ2_length_9d52b ∈ gtbl := gt_ 695 (by decide +kernel) (by decide +kernel)
theorem tw_696 : Cond.static yJ2_length_9d52b ∈ gtbl := gt_ 696 (by decide +kernel) (by decide +kernel)
theorem tw_697 : Cond.code yJ2_length_9d52b prog_16_method_6_code 1 (Option.some Jvm.ClassFile.FieldType.int) ∈ gtbl := gt_ 697 (by decide +kernel) (by decide +kernel)
theorem tw_698 : Cond.methodLink RJ2 414 yJ0_checkIndex_df160 ∈ gtbl := gt_ 698 (by decide +kernel) (by decide +kernel)
theorem tw_699 : Cond.methodLink RJ2 71 yJ2_getChar_3b067 ∈ gtbl := gt_ 699 (by decide +kernel) (by decide +kernel)
end
section
theorem tw_700 : Cond.static yJ2_getChar_3b067 ∈ gtbl := gt_ 700 (by decide +kernel) (by decide +kernel)
theorem tw_701 : Cond.code yJ2_getChar_3b067 prog_16_method_5_code 2 (Option.some Jvm.ClassFile.FieldType.char) ∈ gtbl := gt_ 701 (by decide +kernel) (by decide +kernel)
theorem tw_702 : Cond.fieldLink RJ2 44 RJ2 "$assertionsDisabled" "Z" ∈ gtbl := gt_ 702 (by decide +kernel) (by decide +kernel)
theorem tw_704 : Cond.fieldLink RJ2 59 RJ2 "HI_BYTE_SHIFT" "I" ∈ gtbl := gt_ 704 (by decide +kernel) (by decide +kernel)
theorem tw_706 : Cond.fieldLink RJ2 63 RJ2 "LO_BYTE_SHIFT" "I" ∈ gtbl := gt_ 706 (by decide +kernel) (by decide +kernel)
theorem tw_710 : Cond.methodLink RX2 57 yX2_fail ∈ gtbl := gt_ 710 (by decide +kernel) (by decide +kernel)
theorem tw_712 : Cond.instanceMethod yX2_fail ∈ gtbl := gt_ 712 (by decide +kernel) (by decide +kernel)
theorem tw_713 : Cond.code yX2_fail prog_4_method_4_code 1 (Option.none : Option Jvm.ClassFile.FieldType) ∈ gtbl := gt_ 713 (by decide +kernel) (by decide +kernel)
theorem tw_714 : Cond.methodLink RX2 60 yX2_readLevel ∈ gtbl := gt_ 714 (by decide +kernel) (by decide +kernel)
theorem tw_716 : Cond.instanceMethod yX2_readLevel ∈ gtbl := gt_ 716 (by decide +kernel) (by decide +kernel)
theorem tw_717 : Cond.code yX2_readLevel prog_4_method_11_code 5 (Option.none : Option Jvm.ClassFile.FieldType) ∈ gtbl := gt_ 717 (by decide +kernel) (by decide +kernel)
theorem tw_718 : Cond.methodLink RX2 97 yX2_readPiece ∈ gtbl := gt_ 718 (by decide +kernel) (by decide +kernel)
theorem tw_720 : Cond.instanceMethod yX2_readPiece ∈ gtbl := gt_ 720 (by decide +kernel) (by decide +kernel)
theorem tw_721 : Cond.code yX2_readPiece prog_4_method_12_code 1 (Option.none : Option Jvm.ClassFile.FieldType) ∈ gtbl := gt_ 721 (by decide +kernel) (by decide +kernel)
theorem tw_722 : Cond.methodLink RX2 106 yX2_isSign ∈ gtbl := gt_ 722 (by decide +kernel) (by decide +kernel)
theorem tw_724 : Cond.instanceMethod yX2_isSign ∈ gtbl := gt_ 724 (by decide +kernel) (by decide +kernel)
theorem tw_725 : Cond.code yX2_isSign prog_4_method_9_code 2 (Option.some Jvm.ClassFile.FieldType.boolean) ∈ gtbl := gt_ 725 (by decide +kernel) (by decide +kernel)
theorem tw_726 : Cond.methodLink RX2 103 yX2_write ∈ gtbl := gt_ 726 (by decide +kernel) (by decide +kernel)
theorem tw_728 : Cond.instanceMethod yX2_write ∈ gtbl := gt_ 728 (by decide +kernel) (by decide +kernel)
theorem tw_729 : Cond.code yX2_write prog_4_method_17_code 2 (Option.none : Option Jvm.ClassFile.FieldType) ∈ gtbl := gt_ 729 (by decide +kernel) (by decide +kernel)
theorem tw_730 : Cond.methodLink RX2 110 yX2_readClosing ∈ gtbl := gt_ 730 (by decide +kernel) (by decide +kernel)
theorem tw_732 : Cond.instanceMethod yX2_readClosing ∈ gtbl := gt_ 732 (by decide +kernel) (by decide +kernel)
theorem tw_733 : Cond.code yX2_readClosing prog_4_method_13_code 1 (Option.none : Option Jvm.ClassFile.FieldType) ∈ gtbl := gt_ 733 (by decide +kernel) (by decide +kernel)
theorem tw_734 : Cond.methodLink RX2 113 yX2_readLeaf ∈ gtbl := gt_ 734 (by decide +kernel) (by decide +kernel)
theorem tw_736 : Cond.instanceMethod yX2_readLeaf ∈ gtbl := gt_ 736 (by decide +kernel) (by decide +kernel)
theorem tw_737 : Cond.code yX2_readLeaf prog_4_method_14_code 2 (Option.none : Option Jvm.ClassFile.FieldType) ∈ gtbl := gt_ 737 (by decide +kernel) (by decide +kernel)
theorem tw_738 : Cond.methodLink RX2 116 yX2_numberHere ∈ gtbl := gt_ 738 (by decide +kernel) (by decide +kernel)
theorem tw_740 : Cond.instanceMethod yX2_numberHere ∈ gtbl := gt_ 740 (by decide +kernel) (by decide +kernel)
theorem tw_741 : Cond.code yX2_numberHere prog_4_method_15_code 3 (Option.some Jvm.ClassFile.FieldType.int) ∈ gtbl := gt_ 741 (by decide +kernel) (by decide +kernel)
theorem tw_742 : Cond.methodLink RX2 119 yX2_nameHere ∈ gtbl := gt_ 742 (by decide +kernel) (by decide +kernel)
theorem tw_744 : Cond.instanceMethod yX2_nameHere ∈ gtbl := gt_ 744 (by decide +kernel) (by decide +kernel)
theorem tw_745 : Cond.code yX2_nameHere prog_4_method_16_code 3 (Option.some Jvm.ClassFile.FieldType.int) ∈ gtbl := gt_ 745 (by decide +kernel) (by decide +kernel)
theorem tw_749 : Cond.methodLink RX2 128 yJ0_indexOf_0f7a4 ∈ gtbl := gt_ 749 (by decide +kernel) (by decide +kernel)
theorem tw_750 : Cond.instanceMethod yJ0_indexOf_0f7a4 ∈ gtbl := gt_ 750 (by decide +kernel) (by decide +kernel)
theorem tw_751 : Cond.selects RJ0 yJ0_indexOf_0f7a4 yJ0_indexOf_0f7a4 ∈ gtbl := gt_ 751 (by decide +kernel) (by decide +kernel)
theorem tw_752 : Cond.code yJ0_indexOf_0f7a4 prog_14_method_79_code 2 (Option.some Jvm.ClassFile.FieldType.int) ∈ gtbl := gt_ 752 (by decide +kernel) (by decide +kernel)
theorem tw_753 : Cond.methodLink RJ0 633 yJ0_indexOf_7cf53 ∈ gtbl := gt_ 753 (by decide +kernel) (by decide +kernel)
theorem tw_754 : Cond.instanceMethod yJ0_indexOf_7cf53 ∈ gtbl := gt_ 754 (by decide +kernel) (by decide +kernel)
theorem tw_755 : Cond.selects RJ0 yJ0_indexOf_7cf53 yJ0_indexOf_7cf53 ∈ gtbl := gt_ 755 (by decide +kernel) (by decide +kernel)
theorem tw_756 : Cond.code yJ0_indexOf_7cf53 prog_14_method_80_code 3 (Option.some Jvm.ClassFile.FieldType.int) ∈ gtbl := gt_ 756 (by decide +kernel) (by decide +kernel)
theorem tw_757 : Cond.methodLink RJ0 505 yJ0_length_8abf5 ∈ gtbl := gt_ 757 (by decide +kernel) (by decide +kernel)
theorem tw_758 : Cond.methodLink RJ0 637 yJ1_indexOf_4cfef ∈ gtbl := gt_ 758 (by decide +kernel) (by decide +kernel)
theorem tw_759 : Cond.static yJ1_indexOf_4cfef ∈ gtbl := gt_ 759 (by decide +kernel) (by decide +kernel)
theorem tw_760 : Cond.code yJ1_indexOf_4cfef prog_15_method_22_code 4 (Option.some Jvm.ClassFile.FieldType.int) ∈ gtbl := gt_ 760 (by decide +kernel) (by decide +kernel)
theorem tw_761 : Cond.methodLink RJ1 88 yJ1_canEncode_9a6ad ∈ gtbl := gt_ 761 (by decide +kernel) (by decide +kernel)
theorem tw_762 : Cond.static yJ1_canEncode_9a6ad ∈ gtbl := gt_ 762 (by decide +kernel) (by decide +kernel)
theorem tw_763 : Cond.code yJ1_canEncode_9a6ad prog_15_method_4_code 1 (Option.some Jvm.ClassFile.FieldType.boolean) ∈ gtbl := gt_ 763 (by decide +kernel) (by decide +kernel)
theorem tw_764 : Cond.methodLink RJ1 92 yJ9_max_7cf53 ∈ gtbl := gt_ 764 (by decide +kernel) (by decide +kernel)
theorem tw_765 : Cond.methodLink RJ1 38 yJ9_min_7cf53 ∈ gtbl := gt_ 765 (by decide +kernel) (by decide +kernel)
theorem tw_766 : Cond.methodLink RJ1 95 yJ1_indexOfChar_4cfef ∈ gtbl := gt_ 766 (by decide +kernel) (by decide +kernel)
theorem tw_767 : Cond.static yJ1_indexOfChar_4cfef ∈ gtbl := gt_ 767 (by decide +kernel) (by decide +kernel)
theorem tw_768 : Cond.code yJ1_indexOfChar_4cfef prog_15_method_23_code 6 (Option.some Jvm.ClassFile.FieldType.int) ∈ gtbl := gt_ 768 (by decide +kernel) (by decide +kernel)
theorem tw_769 : Cond.methodLink RJ0 640 yJ2_indexOf_4cfef ∈ gtbl := gt_ 769 (by decide +kernel) (by decide +kernel)
theorem tw_770 : Cond.static yJ2_indexOf_4cfef ∈ gtbl := gt_ 770 (by decide +kernel) (by decide +kernel)
theorem tw_771 : Cond.code yJ2_indexOf_4cfef prog_16_method_40_code 4 (Option.some Jvm.ClassFile.FieldType.int) ∈ gtbl := gt_ 771 (by decide +kernel) (by decide +kernel)
theorem tw_772 : Cond.methodLink RJ2 224 yJ9_max_7cf53 ∈ gtbl := gt_ 772 (by decide +kernel) (by decide +kernel)
theorem tw_773 : Cond.methodLink RJ2 183 yJ9_min_7cf53 ∈ gtbl := gt_ 773 (by decide +kernel) (by decide +kernel)
theorem tw_774 : Cond.constant RJ2 227 (65536) ∈ gtbl := gt_ 774 (by decide +kernel) (by decide +kernel)
theorem tw_775 : Cond.methodLink RJ2 228 yJ2_indexOfChar_4cfef ∈ gtbl := gt_ 775 (by decide +kernel) (by decide +kernel)
theorem tw_776 : Cond.static yJ2_indexOfChar_4cfef ∈ gtbl := gt_ 776 (by decide +kernel) (by decide +kernel)
theorem tw_777 : Cond.code yJ2_indexOfChar_4cfef prog_16_method_47_code 4 (Option.some Jvm.ClassFile.FieldType.int) ∈ gtbl := gt_ 777 (by decide +kernel) (by decide +kernel)
theorem tw_778 : Cond.methodLink RJ2 96 yJ2_checkBoundsBeginEnd_d044e ∈ gtbl := gt_ 778 (by decide +kernel) (by decide +kernel)
theorem tw_779 : Cond.static yJ2_checkBoundsBeginEnd_d044e ∈ gtbl := gt_ 779 (by decide +kernel) (by decide +kernel)
theorem tw_780 : Cond.code yJ2_checkBoundsBeginEnd_d044e prog_16_method_93_code 3 (Option.none : Option Jvm.ClassFile.FieldType) ∈ gtbl := gt_ 780 (by decide +kernel) (by decide +kernel)
theorem tw_781 : Cond.methodLink RJ2 241 yJ0_checkBoundsBeginEnd_23922 ∈ gtbl := gt_ 781 (by decide +kernel) (by decide +kernel)
theorem tw_782 : Cond.static yJ0_checkBoundsBeginEnd_23922 ∈ gtbl := gt_ 782 (by decide +kernel) (by decide +kernel)
theorem tw_783 : Cond.code yJ0_checkBoundsBeginEnd_23922 prog_14_method_158_code 3 (Option.none : Option Jvm.ClassFile.FieldType) ∈ gtbl := gt_ 783 (by decide +kernel) (by decide +kernel)
theorem tw_784 : Cond.methodLink RJ0 1062 yJ3_checkFromToIndex_8c36e ∈ gtbl := gt_ 784 (by decide +kernel) (by decide +kernel)
theorem tw_785 : Cond.static yJ3_checkFromToIndex_8c36e ∈ gtbl := gt_ 785 (by decide +kernel) (by decide +kernel)
theorem tw_786 : Cond.code yJ3_checkFromToIndex_8c36e prog_18_method_12_code 4 (Option.some Jvm.ClassFile.FieldType.int) ∈ gtbl := gt_ 786 (by decide +kernel) (by decide +kernel)
theorem tw_787 : Cond.methodLink RJ2 244 yJ2_indexOfCharUnsafe_4cfef ∈ gtbl := gt_ 787 (by decide +kernel) (by decide +kernel)
theorem tw_788 : Cond.static yJ2_indexOfCharUnsafe_4cfef ∈ gtbl := gt_ 788 (by decide +kernel) (by decide +kernel)
theorem tw_789 : Cond.code yJ2_indexOfCharUnsafe_4cfef prog_16_method_48_code 5 (Option.some Jvm.ClassFile.FieldType.int) ∈ gtbl := gt_ 789 (by decide +kernel) (by decide +kernel)
theorem tw_790 : Cond.methodLink RJ2 232 yJ2_indexOfSupplementary_4cfef ∈ gtbl := gt_ 790 (by decide +kernel) (by decide +kernel)
theorem tw_791 : Cond.static yJ2_indexOfSupplementary_4cfef ∈ gtbl := gt_ 791 (by decide +kernel) (by decide +kernel)
theorem tw_792 : Cond.code yJ2_indexOfSupplementary_4cfef prog_16_method_49_code 7 (Option.some Jvm.ClassFile.FieldType.int) ∈ gtbl := gt_ 792 (by decide +kernel) (by decide +kernel)
theorem tw_793 : Cond.methodLink RJ2 164 yJ11_isValidCodePoint_9a6ad ∈ gtbl := gt_ 793 (by decide +kernel) (by decide +kernel)
theorem tw_794 : Cond.static yJ11_isValidCodePoint_9a6ad ∈ gtbl := gt_ 794 (by decide +kernel) (by decide +kernel)
theorem tw_795 : Cond.code yJ11_isValidCodePoint_9a6ad prog_11_method_11_code 2 (Option.some Jvm.ClassFile.FieldType.boolean) ∈ gtbl := gt_ 795 (by decide +kernel) (by decide +kernel)
theorem tw_796 : Cond.methodLink RJ2 157 yJ11_highSurrogate_5068e ∈ gtbl := gt_ 796 (by decide +kernel) (by decide +kernel)
theorem tw_797 : Cond.static yJ11_highSurrogate_5068e ∈ gtbl := gt_ 797 (by decide +kernel) (by decide +kernel)
theorem tw_798 : Cond.code yJ11_highSurrogate_5068e prog_11_method_28_code 1 (Option.some Jvm.ClassFile.FieldType.char) ∈ gtbl := gt_ 798 (by decide +kernel) (by decide +kernel)
theorem tw_799 : Cond.constant RJ11 110 (55232) ∈ gtbl := gt_ 799 (by decide +kernel) (by decide +kernel)
theorem tw_800 : Cond.methodLink RJ2 161 yJ11_lowSurrogate_5068e ∈ gtbl := gt_ 800 (by decide +kernel) (by decide +kernel)
theorem tw_801 : Cond.static yJ11_lowSurrogate_5068e ∈ gtbl := gt_ 801 (by decide +kernel) (by decide +kernel)
theorem tw_802 : Cond.code yJ11_lowSurrogate_5068e prog_11_method_29_code 1 (Option.some Jvm.ClassFile.FieldType.char) ∈ gtbl := gt_ 802 (by decide +kernel) (by decide +kernel)
theorem tw_803 : Cond.constant RJ11 76 (56320) ∈ gtbl := gt_ 803 (by decide +kernel) (by decide +kernel)
theorem tw_804 : Cond.methodLink RX2 100 yX2_levelHere ∈ gtbl := gt_ 804 (by decide +kernel) (by decide +kernel)
theorem tw_806 : Cond.instanceMethod yX2_levelHere ∈ gtbl := gt_ 806 (by decide +kernel) (by decide +kernel)
theorem tw_807 : Cond.code yX2_levelHere prog_4_method_10_code 1 (Option.some Jvm.ClassFile.FieldType.int) ∈ gtbl := gt_ 807 (by decide +kernel) (by decide +kernel)
theorem tw_808 : Cond.methodLink RX7 246 yX2_lawRead ∈ gtbl := gt_ 808 (by decide +kernel) (by decide +kernel)
theorem tw_809 : Cond.instanceMethod yX2_lawRead ∈ gtbl := gt_ 809 (by decide +kernel) (by decide +kernel)
theorem tw_810 : Cond.selects RX2 yX2_lawRead yX2_lawRead ∈ gtbl := gt_ 810 (by decide +kernel) (by decide +kernel)
theorem tw_811 : Cond.code yX2_lawRead prog_4_method_3_code 3 (Option.some (Jvm.ClassFile.FieldType.object "LionShield$Law")) ∈ gtbl := gt_ 811 (by decide +kernel) (by decide +kernel)
theorem tw_812 : Cond.classLink RX2 64 RX1 ∈ gtbl := gt_ 812 (by decide +kernel) (by decide +kernel)
theorem tw_813 : Cond.instantiable RX1 3 ∈ gtbl := gt_ 813 (by decide +kernel) (by decide +kernel)
theorem tw_814 : Cond.methodLink RX2 66 yX1_init ∈ gtbl := gt_ 814 (by decide +kernel) (by decide +kernel)
theorem tw_815 : Cond.instanceMethod yX1_init ∈ gtbl := gt_ 815 (by decide +kernel) (by decide +kernel)
theorem tw_816 : Cond.code yX1_init prog_3_method_1_code 4 (Option.none : Option Jvm.ClassFile.FieldType) ∈ gtbl := gt_ 816 (by decide +kernel) (by decide +kernel)
theorem tw_817 : Cond.methodLink RX1 1 objectInit ∈ gtbl := gt_ 817 (by decide +kernel) (by decide +kernel)
theorem tw_818 : Cond.fieldLink RX1 7 RX1 "key" "I" ∈ gtbl := gt_ 818 (by decide +kernel) (by decide +kernel)
theorem tw_819 : Cond.fieldLink RX0 92 RX1 "key" "I" ∈ gtbl := gt_ 819 (by decide +kernel) (by decide +kernel)
theorem tw_820 : Cond.fieldLink RX7 250 RX1 "key" "I" ∈ gtbl := gt_ 820 (by decide +kernel) (by decide +kernel)
theorem tw_821 : Cond.fieldLink RX1 13 RX1 "leaves" "I" ∈ gtbl := gt_ 821 (by decide +kernel) (by decide +kernel)
theorem tw_822 : Cond.fieldLink RX7 253 RX1 "leaves" "I" ∈ gtbl := gt_ 822 (by decide +kernel) (by decide +kernel)
theorem tw_823 : Cond.fieldLink RX1 16 RX1 "code" "[I" ∈ gtbl := gt_ 823 (by decide +kernel) (by decide +kernel)
theorem tw_831 : Cond.arrayClass Jvm.ClassFile.FieldType.byte ∈ gtbl := gt_ 831 (by decide +kernel) (by decide +kernel)
theorem tw_832 : Cond.methodLink RL 118 yX7_textTold ∈ gtbl := gt_ 832 (by decide +kernel) (by decide +kernel)
theorem tw_833 : Cond.instanceMethod yX7_textTold ∈ gtbl := gt_ 833 (by decide +kernel) (by decide +kernel)
theorem tw_834 : Cond.selects RX7 yX7_textTold yX7_textTold ∈ gtbl := gt_ 834 (by decide +kernel) (by decide +kernel)
theorem tw_835 : Cond.code yX7_textTold prog_1_method_27_code 4 (Option.some Jvm.ClassFile.FieldType.int) ∈ gtbl := gt_ 835 (by decide +kernel) (by decide +kernel)
theorem tw_836 : Cond.methodLink RL 122 yX7_why ∈ gtbl := gt_ 836 (by decide +kernel) (by decide +kernel)
theorem tw_837 : Cond.instanceMethod yX7_why ∈ gtbl := gt_ 837 (by decide +kernel) (by decide +kernel)
theorem tw_838 : Cond.selects RX7 yX7_why yX7_why ∈ gtbl := gt_ 838 (by decide +kernel) (by decide +kernel)
theorem tw_839 : Cond.code yX7_why prog_1_method_28_code 3 (Option.some Jvm.ClassFile.FieldType.int) ∈ gtbl := gt_ 839 (by decide +kernel) (by decide +kernel)
theorem tw_840 : Cond.methodLink RX7 256 yX0_lastLaw ∈ gtbl := gt_ 840 (by decide +kernel) (by decide +kernel)
theorem tw_841 : Cond.methodLink RL 126 yX7_sheet ∈ gtbl := gt_ 841 (by decide +kernel) (by decide +kernel)
theorem tw_842 : Cond.instanceMethod yX7_sheet ∈ gtbl := gt_ 842 (by decide +kernel) (by decide +kernel)
theorem tw_843 : Cond.selects RX7 yX7_sheet yX7_sheet ∈ gtbl := gt_ 843 (by decide +kernel) (by decide +kernel)
theorem tw_844 : Cond.code yX7_sheet prog_1_method_29_code 4 (Option.some Jvm.ClassFile.FieldType.int) ∈ gtbl := gt_ 844 (by decide +kernel) (by decide +kernel)
theorem tw_845 : Cond.methodLink RX7 259 yX3_beginAs ∈ gtbl := gt_ 845 (by decide +kernel) (by decide +kernel)
theorem tw_846 : Cond.instanceMethod yX3_beginAs ∈ gtbl := gt_ 846 (by decide +kernel) (by decide +kernel)
theorem tw_847 : Cond.selects RX3 yX3_beginAs yX3_beginAs ∈ gtbl := gt_ 847 (by decide +kernel) (by decide +kernel)
theorem tw_848 : Cond.code yX3_beginAs prog_5_method_2_code 4 (Option.none : Option Jvm.ClassFile.FieldType) ∈ gtbl := gt_ 848 (by decide +kernel) (by decide +kernel)
theorem tw_849 : Cond.constant RX7 262 (-1000000014) ∈ gtbl := gt_ 849 (by decide +kernel) (by decide +kernel)
theorem tw_850 : Cond.methodLink RL 130 yX7_mark ∈ gtbl := gt_ 850 (by decide +kernel) (by decide +kernel)
theorem tw_851 : Cond.instanceMethod yX7_mark ∈ gtbl := gt_ 851 (by decide +kernel) (by decide +kernel)
theorem tw_852 : Cond.selects RX7 yX7_mark yX7_mark ∈ gtbl := gt_ 852 (by decide +kernel) (by decide +kernel)
theorem tw_853 : Cond.code yX7_mark prog_1_method_30_code 5 (Option.some Jvm.ClassFile.FieldType.int) ∈ gtbl := gt_ 853 (by decide +kernel) (by decide +kernel)
theorem tw_854 : Cond.methodLink RX7 263 yX3_hasPlace ∈ gtbl := gt_ 854 (by decide +kernel) (by decide +kernel)
theorem tw_855 : Cond.constant RX7 266 (-1000000013) ∈ gtbl := gt_ 855 (by decide +kernel) (by decide +kernel)
theorem tw_856 : Cond.constant RX7 273 (-99999) ∈ gtbl := gt_ 856 (by decide +kernel) (by decide +kernel)
theorem tw_857 : Cond.constant RX7 274 (99999) ∈ gtbl := gt_ 857 (by decide +kernel) (by decide +kernel)
theorem tw_858 : Cond.methodLink RL 134 yX7_pour ∈ gtbl := gt_ 858 (by decide +kernel) (by decide +kernel)
theorem tw_859 : Cond.instanceMethod yX7_pour ∈ gtbl := gt_ 859 (by decide +kernel) (by decide +kernel)
theorem tw_860 : Cond.selects RX7 yX7_pour yX7_pour ∈ gtbl := gt_ 860 (by decide +kernel) (by decide +kernel)
theorem tw_861 : Cond.code yX7_pour prog_1_method_31_code 6 (Option.some Jvm.ClassFile.FieldType.int) ∈ gtbl := gt_ 861 (by decide +kernel) (by decide +kernel)
theorem tw_862 : Cond.methodLink RX7 275 yX3_isNumber ∈ gtbl := gt_ 862 (by decide +kernel) (by decide +kernel)
theorem tw_863 : Cond.methodLink RX7 278 yX7_within ∈ gtbl := gt_ 863 (by decide +kernel) (by decide +kernel)
theorem tw_864 : Cond.methodLink RL 138 yX7_reads ∈ gtbl := gt_ 864 (by decide +kernel) (by decide +kernel)
theorem tw_865 : Cond.instanceMethod yX7_reads ∈ gtbl := gt_ 865 (by decide +kernel) (by decide +kernel)
theorem tw_866 : Cond.selects RX7 yX7_reads yX7_reads ∈ gtbl := gt_ 866 (by decide +kernel) (by decide +kernel)
theorem tw_867 : Cond.code yX7_reads prog_1_method_32_code 4 (Option.some Jvm.ClassFile.FieldType.int) ∈ gtbl := gt_ 867 (by decide +kernel) (by decide +kernel)
theorem tw_868 : Cond.methodLink RL 142 yX7_copy ∈ gtbl := gt_ 868 (by decide +kernel) (by decide +kernel)
theorem tw_869 : Cond.instanceMethod yX7_copy ∈ gtbl := gt_ 869 (by decide +kernel) (by decide +kernel)
theorem tw_870 : Cond.selects RX7 yX7_copy yX7_copy ∈ gtbl := gt_ 870 (by decide +kernel) (by decide +kernel)
theorem tw_871 : Cond.code yX7_copy prog_1_method_33_code 8 (Option.some Jvm.ClassFile.FieldType.int) ∈ gtbl := gt_ 871 (by decide +kernel) (by decide +kernel)
theorem tw_872 : Cond.methodLink RX7 282 yX3_hasSpan ∈ gtbl := gt_ 872 (by decide +kernel) (by decide +kernel)
theorem tw_873 : Cond.instanceMethod yX3_hasSpan ∈ gtbl := gt_ 873 (by decide +kernel) (by decide +kernel)
theorem tw_874 : Cond.selects RX3 yX3_hasSpan yX3_hasSpan ∈ gtbl := gt_ 874 (by decide +kernel) (by decide +kernel)
theorem tw_875 : Cond.code yX3_hasSpan prog_5_method_6_code 3 (Option.some Jvm.ClassFile.FieldType.boolean) ∈ gtbl := gt_ 875 (by decide +kernel) (by decide +kernel)
theorem tw_876 : Cond.methodLink RX7 285 ⟨"java/lang/System", "arraycopy", "(Ljava/lang/Object;ILjava/lang/Object;II)V"⟩ ∈ gtbl := gt_ 876 (by decide +kernel) (by decide +kernel)
theorem tw_877 : Cond.static ⟨"java/lang/System", "arraycopy", "(Ljava/lang/Object;ILjava/lang/Object;II)V"⟩ ∈ gtbl := gt_ 877 (by decide +kernel) (by decide +kernel)
theorem tw_878 : Cond.native ⟨"java/lang/System", "arraycopy", "(Ljava/lang/Object;ILjava/lang/Object;II)V"⟩ ∈ gtbl := gt_ 878 (by decide +kernel) (by decide +kernel)
theorem tw_879 : Cond.methodLink RL 146 yX7_lay ∈ gtbl := gt_ 879 (by decide +kernel) (by decide +kernel)
theorem tw_880 : Cond.instanceMethod yX7_lay ∈ gtbl := gt_ 880 (by decide +kernel) (by decide +kernel)
theorem tw_881 : Cond.selects RX7 yX7_lay yX7_lay ∈ gtbl := gt_ 881 (by decide +kernel) (by decide +kernel)
theorem tw_882 : Cond.code yX7_lay prog_1_method_34_code 6 (Option.some Jvm.ClassFile.FieldType.int) ∈ gtbl := gt_ 882 (by decide +kernel) (by decide +kernel)
theorem tw_883 : Cond.methodLink RX7 291 yX7_isSlot ∈ gtbl := gt_ 883 (by decide +kernel) (by decide +kernel)
theorem tw_884 : Cond.static yX7_isSlot ∈ gtbl := gt_ 884 (by decide +kernel) (by decide +kernel)
theorem tw_885 : Cond.code yX7_isSlot prog_1_method_50_code 1 (Option.some Jvm.ClassFile.FieldType.boolean) ∈ gtbl := gt_ 885 (by decide +kernel) (by decide +kernel)
theorem tw_886 : Cond.methodLink RX7 305 yX3_become ∈ gtbl := gt_ 886 (by decide +kernel) (by decide +kernel)
theorem tw_887 : Cond.instanceMethod yX3_become ∈ gtbl := gt_ 887 (by decide +kernel) (by decide +kernel)
theorem tw_888 : Cond.selects RX3 yX3_become yX3_become ∈ gtbl := gt_ 888 (by decide +kernel) (by decide +kernel)
theorem tw_889 : Cond.code yX3_become prog_5_method_3_code 3 (Option.none : Option Jvm.ClassFile.FieldType) ∈ gtbl := gt_ 889 (by decide +kernel) (by decide +kernel)
theorem tw_890 : Cond.methodLink RL 150 yX7_ask ∈ gtbl := gt_ 890 (by decide +kernel) (by decide +kernel)
theorem tw_891 : Cond.instanceMethod yX7_ask ∈ gtbl := gt_ 891 (by decide +kernel) (by decide +kernel)
theorem tw_892 : Cond.selects RX7 yX7_ask yX7_ask ∈ gtbl := gt_ 892 (by decide +kernel) (by decide +kernel)
theorem tw_893 : Cond.code yX7_ask prog_1_method_35_code 4 (Option.some Jvm.ClassFile.FieldType.int) ∈ gtbl := gt_ 893 (by decide +kernel) (by decide +kernel)
theorem tw_894 : Cond.methodLink RL 154 yX7_item ∈ gtbl := gt_ 894 (by decide +kernel) (by decide +kernel)
theorem tw_895 : Cond.instanceMethod yX7_item ∈ gtbl := gt_ 895 (by decide +kernel) (by decide +kernel)
theorem tw_896 : Cond.selects RX7 yX7_item yX7_item ∈ gtbl := gt_ 896 (by decide +kernel) (by decide +kernel)
theorem tw_897 : Cond.code yX7_item prog_1_method_36_code 4 (Option.some Jvm.ClassFile.FieldType.int) ∈ gtbl := gt_ 897 (by decide +kernel) (by decide +kernel)
theorem tw_898 : Cond.methodLink RL 158 yX7_rest ∈ gtbl := gt_ 898 (by decide +kernel) (by decide +kernel)
theorem tw_899 : Cond.instanceMethod yX7_rest ∈ gtbl := gt_ 899 (by decide +kernel) (by decide +kernel)
theorem tw_900 : Cond.selects RX7 yX7_rest yX7_rest ∈ gtbl := gt_ 900 (by decide +kernel) (by decide +kernel)
theorem tw_901 : Cond.code yX7_rest prog_1_method_37_code 4 (Option.some Jvm.ClassFile.FieldType.int) ∈ gtbl := gt_ 901 (by decide +kernel) (by decide +kernel)
theorem tw_902 : Cond.constant RX7 311 (-1000000002) ∈ gtbl := gt_ 902 (by decide +kernel) (by decide +kernel)
theorem tw_903 : Cond.methodLink RL 162 yX7_tell ∈ gtbl := gt_ 903 (by decide +kernel) (by decide +kernel)
theorem tw_904 : Cond.instanceMethod yX7_tell ∈ gtbl := gt_ 904 (by decide +kernel) (by decide +kernel)
theorem tw_905 : Cond.selects RX7 yX7_tell yX7_tell ∈ gtbl := gt_ 905 (by decide +kernel) (by decide +kernel)
theorem tw_906 : Cond.code yX7_tell prog_1_method_38_code 2 (Option.some Jvm.ClassFile.FieldType.int) ∈ gtbl := gt_ 906 (by decide +kernel) (by decide +kernel)
theorem tw_907 : Cond.methodLink RL 166 yX7_check ∈ gtbl := gt_ 907 (by decide +kernel) (by decide +kernel)
theorem tw_908 : Cond.instanceMethod yX7_check ∈ gtbl := gt_ 908 (by decide +kernel) (by decide +kernel)
theorem tw_909 : Cond.selects RX7 yX7_check yX7_check ∈ gtbl := gt_ 909 (by decide +kernel) (by decide +kernel)
theorem tw_910 : Cond.code yX7_check prog_1_method_39_code 6 (Option.some Jvm.ClassFile.FieldType.int) ∈ gtbl := gt_ 910 (by decide +kernel) (by decide +kernel)
theorem tw_911 : Cond.methodLink RX7 312 yX7_isWaiting ∈ gtbl := gt_ 911 (by decide +kernel) (by decide +kernel)
theorem tw_913 : Cond.instanceMethod yX7_isWaiting ∈ gtbl := gt_ 913 (by decide +kernel) (by decide +kernel)
theorem tw_914 : Cond.code yX7_isWaiting prog_1_method_46_code 4 (Option.some Jvm.ClassFile.FieldType.boolean) ∈ gtbl := gt_ 914 (by decide +kernel) (by decide +kernel)
theorem tw_915 : Cond.methodLink RL 170 yX7_keep ∈ gtbl := gt_ 915 (by decide +kernel) (by decide +kernel)
theorem tw_916 : Cond.instanceMethod yX7_keep ∈ gtbl := gt_ 916 (by decide +kernel) (by decide +kernel)
theorem tw_917 : Cond.selects RX7 yX7_keep yX7_keep ∈ gtbl := gt_ 917 (by decide +kernel) (by decide +kernel)
theorem tw_918 : Cond.code yX7_keep prog_1_method_40_code 1 (Option.some Jvm.ClassFile.FieldType.int) ∈ gtbl := gt_ 918 (by decide +kernel) (by decide +kernel)
theorem tw_919 : Cond.methodLink RL 174 yX7_back ∈ gtbl := gt_ 919 (by decide +kernel) (by decide +kernel)
theorem tw_920 : Cond.instanceMethod yX7_back ∈ gtbl := gt_ 920 (by decide +kernel) (by decide +kernel)
theorem tw_921 : Cond.selects RX7 yX7_back yX7_back ∈ gtbl := gt_ 921 (by decide +kernel) (by decide +kernel)
theorem tw_922 : Cond.code yX7_back prog_1_method_41_code 1 (Option.some Jvm.ClassFile.FieldType.int) ∈ gtbl := gt_ 922 (by decide +kernel) (by decide +kernel)
theorem tw_923 : Cond.methodLink RL 178 yX7_count ∈ gtbl := gt_ 923 (by decide +kernel) (by decide +kernel)
theorem tw_924 : Cond.instanceMethod yX7_count ∈ gtbl := gt_ 924 (by decide +kernel) (by decide +kernel)
theorem tw_925 : Cond.selects RX7 yX7_count yX7_count ∈ gtbl := gt_ 925 (by decide +kernel) (by decide +kernel)
theorem tw_926 : Cond.code yX7_count prog_1_method_42_code 2 (Option.some Jvm.ClassFile.FieldType.int) ∈ gtbl := gt_ 926 (by decide +kernel) (by decide +kernel)
theorem tw_927 : Cond.methodLink RX7 316 yX0_founders ∈ gtbl := gt_ 927 (by decide +kernel) (by decide +kernel)
theorem tw_928 : Cond.instanceMethod yX0_founders ∈ gtbl := gt_ 928 (by decide +kernel) (by decide +kernel)
theorem tw_929 : Cond.selects RX0 yX0_founders yX0_founders ∈ gtbl := gt_ 929 (by decide +kernel) (by decide +kernel)
theorem tw_930 : Cond.code yX0_founders prog_2_method_13_code 3 (Option.some Jvm.ClassFile.FieldType.int) ∈ gtbl := gt_ 930 (by decide +kernel) (by decide +kernel)
theorem tw_931 : Cond.classLink RL 10 RX8 ∈ gtbl := gt_ 931 (by decide +kernel) (by decide +kernel)
theorem tw_932 : Cond.instantiable RX8 34 ∈ gtbl := gt_ 932 (by decide +kernel) (by decide +kernel)
theorem tw_933 : Cond.methodLink RL 12 yX8_init ∈ gtbl := gt_ 933 (by decide +kernel) (by decide +kernel)
theorem tw_934 : Cond.instanceMethod yX8_init ∈ gtbl := gt_ 934 (by decide +kernel) (by decide +kernel)
theorem tw_935 : Cond.code yX8_init prog_10_method_1_code 1 (Option.none : Option Jvm.ClassFile.FieldType) ∈ gtbl := gt_ 935 (by decide +kernel) (by decide +kernel)
theorem tw_936 : Cond.methodLink RX8 1 objectInit ∈ gtbl := gt_ 936 (by decide +kernel) (by decide +kernel)
theorem tw_937 : Cond.fieldLink RX8 9 RX8 "now" "[I" ∈ gtbl := gt_ 937 (by decide +kernel) (by decide +kernel)
theorem tw_938 : Cond.fieldLink RX8 13 RX8 "image" "[I" ∈ gtbl := gt_ 938 (by decide +kernel) (by decide +kernel)
theorem tw_939 : Cond.fieldLink RX8 16 RX8 "aside" "[I" ∈ gtbl := gt_ 939 (by decide +kernel) (by decide +kernel)
theorem tw_940 : Cond.fieldLink RX8 269 RX8 "hasImage" "Z" ∈ gtbl := gt_ 940 (by decide +kernel) (by decide +kernel)
theorem tw_941 : Cond.fieldLink RX8 19 RX8 "parts" "[I" ∈ gtbl := gt_ 941 (by decide +kernel) (by decide +kernel)
theorem tw_942 : Cond.fieldLink RX8 22 RX8 "before" "[I" ∈ gtbl := gt_ 942 (by decide +kernel) (by decide +kernel)
theorem tw_943 : Cond.fieldLink RX8 25 RX8 "tape" "[I" ∈ gtbl := gt_ 943 (by decide +kernel) (by decide +kernel)
theorem tw_944 : Cond.fieldLink RX8 190 RX8 "taped" "I" ∈ gtbl := gt_ 944 (by decide +kernel) (by decide +kernel)
theorem tw_945 : Cond.fieldLink RX8 194 RX8 "next" "I" ∈ gtbl := gt_ 945 (by decide +kernel) (by decide +kernel)
theorem tw_946 : Cond.fieldLink RX8 197 RX8 "from" "I" ∈ gtbl := gt_ 946 (by decide +kernel) (by decide +kernel)
theorem tw_947 : Cond.fieldLink RX8 203 RX8 "token" "I" ∈ gtbl := gt_ 947 (by decide +kernel) (by decide +kernel)
theorem tw_948 : Cond.fieldLink RX8 209 RX8 "value" "I" ∈ gtbl := gt_ 948 (by decide +kernel) (by decide +kernel)
theorem tw_949 : Cond.fieldLink RX8 200 RX8 "ended" "I" ∈ gtbl := gt_ 949 (by decide +kernel) (by decide +kernel)
theorem tw_950 : Cond.fieldLink RX8 215 RX8 "key" "I" ∈ gtbl := gt_ 950 (by decide +kernel) (by decide +kernel)
theorem tw_951 : Cond.fieldLink RX8 28 RX8 "keys" "[C" ∈ gtbl := gt_ 951 (by decide +kernel) (by decide +kernel)
theorem tw_952 : Cond.fieldLink RX8 32 RX8 "keyAt" "[I" ∈ gtbl := gt_ 952 (by decide +kernel) (by decide +kernel)
theorem tw_953 : Cond.fieldLink RX8 35 RX8 "code" "[I" ∈ gtbl := gt_ 953 (by decide +kernel) (by decide +kernel)
theorem tw_954 : Cond.fieldLink RX8 227 RX8 "codes" "I" ∈ gtbl := gt_ 954 (by decide +kernel) (by decide +kernel)
theorem tw_955 : Cond.fieldLink RX8 233 RX8 "atoms" "I" ∈ gtbl := gt_ 955 (by decide +kernel) (by decide +kernel)
theorem tw_956 : Cond.fieldLink RX8 38 RX8 "waits" "[I" ∈ gtbl := gt_ 956 (by decide +kernel) (by decide +kernel)
theorem tw_957 : Cond.fieldLink RX8 221 RX8 "held" "I" ∈ gtbl := gt_ 957 (by decide +kernel) (by decide +kernel)
theorem tw_958 : Cond.fieldLink RX8 41 RX8 "tested" "[Z" ∈ gtbl := gt_ 958 (by decide +kernel) (by decide +kernel)
theorem tw_959 : Cond.fieldLink RX8 45 RX8 "stack" "[I" ∈ gtbl := gt_ 959 (by decide +kernel) (by decide +kernel)
theorem tw_960 : Cond.fieldLink RX8 48 RX8 "facts" "[I" ∈ gtbl := gt_ 960 (by decide +kernel) (by decide +kernel)
theorem tw_961 : Cond.fieldLink RX8 51 RX8 "sorts" "[I" ∈ gtbl := gt_ 961 (by decide +kernel) (by decide +kernel)
theorem tw_962 : Cond.fieldLink RX8 54 RX8 "sizes" "[I" ∈ gtbl := gt_ 962 (by decide +kernel) (by decide +kernel)
theorem tw_963 : Cond.fieldLink RX8 57 RX8 "cells" "[I" ∈ gtbl := gt_ 963 (by decide +kernel) (by decide +kernel)
theorem tw_964 : Cond.fieldLink RX8 60 RX8 "holds" "[I" ∈ gtbl := gt_ 964 (by decide +kernel) (by decide +kernel)
theorem tw_965 : Cond.fieldLink RX8 63 RX8 "holdsA" "[I" ∈ gtbl := gt_ 965 (by decide +kernel) (by decide +kernel)
theorem tw_966 : Cond.fieldLink RX8 66 RX8 "holdsB" "[I" ∈ gtbl := gt_ 966 (by decide +kernel) (by decide +kernel)
theorem tw_967 : Cond.fieldLink RX8 69 RX8 "heldCells" "[I" ∈ gtbl := gt_ 967 (by decide +kernel) (by decide +kernel)
theorem tw_968 : Cond.fieldLink RX8 72 RX8 "moved" "[I" ∈ gtbl := gt_ 968 (by decide +kernel) (by decide +kernel)
theorem tw_969 : Cond.fieldLink RX8 75 RX8 "tells" "[I" ∈ gtbl := gt_ 969 (by decide +kernel) (by decide +kernel)
theorem tw_970 : Cond.fieldLink RX8 266 RX8 "waiting" "I" ∈ gtbl := gt_ 970 (by decide +kernel) (by decide +kernel)
theorem tw_1040 : Cond.arrayClass Jvm.ClassFile.FieldType.char ∈ gtbl := gt_ 1040 (by decide +kernel) (by decide +kernel)
theorem tw_1041 : Cond.arrayClass Jvm.ClassFile.FieldType.boolean ∈ gtbl := gt_ 1041 (by decide +kernel) (by decide +kernel)
theorem tw_1042 : Cond.methodLink RL 17 yX8_person ∈ gtbl := gt_ 1042 (by decide +kernel) (by decide +kernel)
theorem tw_1043 : Cond.instanceMethod yX8_person ∈ gtbl := gt_ 1043 (by decide +kernel) (by decide +kernel)
theorem tw_1044 : Cond.selects RX8 yX8_person yX8_person ∈ gtbl := gt_ 1044 (by decide +kernel) (by decide +kernel)
theorem tw_1045 : Cond.code yX8_person prog_10_method_12_code 6 (Option.some Jvm.ClassFile.FieldType.int) ∈ gtbl := gt_ 1045 (by decide +kernel) (by decide +kernel)
theorem tw_1046 : Cond.methodLink RX8 79 yX8_in ∈ gtbl := gt_ 1046 (by decide +kernel) (by decide +kernel)
theorem tw_1047 : Cond.static yX8_in ∈ gtbl := gt_ 1047 (by decide +kernel) (by decide +kernel)
theorem tw_1048 : Cond.code yX8_in prog_10_method_2_code 3 (Option.some Jvm.ClassFile.FieldType.boolean) ∈ gtbl := gt_ 1048 (by decide +kernel) (by decide +kernel)
theorem tw_1049 : Cond.methodLink RX8 91 yX8_mayBe ∈ gtbl := gt_ 1049 (by decide +kernel) (by decide +kernel)
theorem tw_1051 : Cond.instanceMethod yX8_mayBe ∈ gtbl := gt_ 1051 (by decide +kernel) (by decide +kernel)
theorem tw_1052 : Cond.code yX8_mayBe prog_10_method_11_code 3 (Option.some Jvm.ClassFile.FieldType.boolean) ∈ gtbl := gt_ 1052 (by decide +kernel) (by decide +kernel)
theorem tw_1053 : Cond.methodLink RX8 83 yX8_isOne ∈ gtbl := gt_ 1053 (by decide +kernel) (by decide +kernel)
theorem tw_1055 : Cond.instanceMethod yX8_isOne ∈ gtbl := gt_ 1055 (by decide +kernel) (by decide +kernel)
theorem tw_1056 : Cond.code yX8_isOne prog_10_method_6_code 2 (Option.some Jvm.ClassFile.FieldType.boolean) ∈ gtbl := gt_ 1056 (by decide +kernel) (by decide +kernel)
theorem tw_1057 : Cond.methodLink RX8 87 yX8_of ∈ gtbl := gt_ 1057 (by decide +kernel) (by decide +kernel)
theorem tw_1059 : Cond.instanceMethod yX8_of ∈ gtbl := gt_ 1059 (by decide +kernel) (by decide +kernel)
theorem tw_1060 : Cond.code yX8_of prog_10_method_8_code 3 (Option.some Jvm.ClassFile.FieldType.int) ∈ gtbl := gt_ 1060 (by decide +kernel) (by decide +kernel)
theorem tw_1061 : Cond.methodLink RX8 95 yX8_isCharge ∈ gtbl := gt_ 1061 (by decide +kernel) (by decide +kernel)
theorem tw_1062 : Cond.static yX8_isCharge ∈ gtbl := gt_ 1062 (by decide +kernel) (by decide +kernel)
theorem tw_1063 : Cond.code yX8_isCharge prog_10_method_7_code 1 (Option.some Jvm.ClassFile.FieldType.boolean) ∈ gtbl := gt_ 1063 (by decide +kernel) (by decide +kernel)
theorem tw_1064 : Cond.constant RX8 98 (-1000000001) ∈ gtbl := gt_ 1064 (by decide +kernel) (by decide +kernel)
theorem tw_1065 : Cond.constant RX8 99 (-1000000003) ∈ gtbl := gt_ 1065 (by decide +kernel) (by decide +kernel)
theorem tw_1066 : Cond.methodLink RX8 100 yX8_comes ∈ gtbl := gt_ 1066 (by decide +kernel) (by decide +kernel)
theorem tw_1068 : Cond.instanceMethod yX8_comes ∈ gtbl := gt_ 1068 (by decide +kernel) (by decide +kernel)
theorem tw_1069 : Cond.code yX8_comes prog_10_method_10_code 8 (Option.some Jvm.ClassFile.FieldType.int) ∈ gtbl := gt_ 1069 (by decide +kernel) (by decide +kernel)
theorem tw_1070 : Cond.methodLink RL 22 yX8_told ∈ gtbl := gt_ 1070 (by decide +kernel) (by decide +kernel)
theorem tw_1071 : Cond.instanceMethod yX8_told ∈ gtbl := gt_ 1071 (by decide +kernel) (by decide +kernel)
theorem tw_1072 : Cond.selects RX8 yX8_told yX8_told ∈ gtbl := gt_ 1072 (by decide +kernel) (by decide +kernel)
theorem tw_1073 : Cond.code yX8_told prog_10_method_15_code 3 (Option.some Jvm.ClassFile.FieldType.int) ∈ gtbl := gt_ 1073 (by decide +kernel) (by decide +kernel)
theorem tw_1074 : Cond.methodLink RX8 104 yX8_worthOf ∈ gtbl := gt_ 1074 (by decide +kernel) (by decide +kernel)
theorem tw_1076 : Cond.instanceMethod yX8_worthOf ∈ gtbl := gt_ 1076 (by decide +kernel) (by decide +kernel)
theorem tw_1077 : Cond.code yX8_worthOf prog_10_method_14_code 3 (Option.some Jvm.ClassFile.FieldType.int) ∈ gtbl := gt_ 1077 (by decide +kernel) (by decide +kernel)
theorem tw_1078 : Cond.methodLink RX8 108 yX8_isHeiress ∈ gtbl := gt_ 1078 (by decide +kernel) (by decide +kernel)
theorem tw_1080 : Cond.instanceMethod yX8_isHeiress ∈ gtbl := gt_ 1080 (by decide +kernel) (by decide +kernel)
theorem tw_1081 : Cond.code yX8_isHeiress prog_10_method_13_code 4 (Option.some Jvm.ClassFile.FieldType.boolean) ∈ gtbl := gt_ 1081 (by decide +kernel) (by decide +kernel)
theorem tw_1082 : Cond.methodLink RL 26 yX8_bears ∈ gtbl := gt_ 1082 (by decide +kernel) (by decide +kernel)
theorem tw_1083 : Cond.instanceMethod yX8_bears ∈ gtbl := gt_ 1083 (by decide +kernel) (by decide +kernel)
theorem tw_1084 : Cond.selects RX8 yX8_bears yX8_bears ∈ gtbl := gt_ 1084 (by decide +kernel) (by decide +kernel)
theorem tw_1085 : Cond.code yX8_bears prog_10_method_22_code 3 (Option.some Jvm.ClassFile.FieldType.int) ∈ gtbl := gt_ 1085 (by decide +kernel) (by decide +kernel)
theorem tw_1086 : Cond.methodLink RX8 130 yX8_worksOf ∈ gtbl := gt_ 1086 (by decide +kernel) (by decide +kernel)
theorem tw_1088 : Cond.instanceMethod yX8_worksOf ∈ gtbl := gt_ 1088 (by decide +kernel) (by decide +kernel)
theorem tw_1089 : Cond.code yX8_worksOf prog_10_method_19_code 3 (Option.none : Option Jvm.ClassFile.FieldType) ∈ gtbl := gt_ 1089 (by decide +kernel) (by decide +kernel)
theorem tw_1090 : Cond.methodLink RX8 127 yX8_worksPart ∈ gtbl := gt_ 1090 (by decide +kernel) (by decide +kernel)
theorem tw_1092 : Cond.instanceMethod yX8_worksPart ∈ gtbl := gt_ 1092 (by decide +kernel) (by decide +kernel)
theorem tw_1093 : Cond.code yX8_worksPart prog_10_method_18_code 8 (Option.some Jvm.ClassFile.FieldType.int) ∈ gtbl := gt_ 1093 (by decide +kernel) (by decide +kernel)
theorem tw_1094 : Cond.methodLink RX8 124 yX8_childOf ∈ gtbl := gt_ 1094 (by decide +kernel) (by decide +kernel)
theorem tw_1096 : Cond.instanceMethod yX8_childOf ∈ gtbl := gt_ 1096 (by decide +kernel) (by decide +kernel)
theorem tw_1097 : Cond.code yX8_childOf prog_10_method_17_code 5 (Option.some Jvm.ClassFile.FieldType.int) ∈ gtbl := gt_ 1097 (by decide +kernel) (by decide +kernel)
theorem tw_1098 : Cond.methodLink RX8 121 yX8_joined ∈ gtbl := gt_ 1098 (by decide +kernel) (by decide +kernel)
theorem tw_1100 : Cond.instanceMethod yX8_joined ∈ gtbl := gt_ 1100 (by decide +kernel) (by decide +kernel)
theorem tw_1101 : Cond.code yX8_joined prog_10_method_16_code 5 (Option.some Jvm.ClassFile.FieldType.int) ∈ gtbl := gt_ 1101 (by decide +kernel) (by decide +kernel)
theorem tw_1102 : Cond.methodLink RX8 111 yX8_counts ∈ gtbl := gt_ 1102 (by decide +kernel) (by decide +kernel)
theorem tw_1104 : Cond.instanceMethod yX8_counts ∈ gtbl := gt_ 1104 (by decide +kernel) (by decide +kernel)
theorem tw_1105 : Cond.code yX8_counts prog_10_method_69_code 3 (Option.some Jvm.ClassFile.FieldType.int) ∈ gtbl := gt_ 1105 (by decide +kernel) (by decide +kernel)
theorem tw_1106 : Cond.methodLink RX8 114 yX8_worksOut ∈ gtbl := gt_ 1106 (by decide +kernel) (by decide +kernel)
theorem tw_1108 : Cond.instanceMethod yX8_worksOut ∈ gtbl := gt_ 1108 (by decide +kernel) (by decide +kernel)
theorem tw_1109 : Cond.code yX8_worksOut prog_10_method_72_code 6 (Option.some Jvm.ClassFile.FieldType.int) ∈ gtbl := gt_ 1109 (by decide +kernel) (by decide +kernel)
theorem tw_1110 : Cond.methodLink RX8 255 yX8_two ∈ gtbl := gt_ 1110 (by decide +kernel) (by decide +kernel)
theorem tw_1111 : Cond.static yX8_two ∈ gtbl := gt_ 1111 (by decide +kernel) (by decide +kernel)
theorem tw_1112 : Cond.code yX8_two prog_10_method_71_code 3 (Option.some Jvm.ClassFile.FieldType.int) ∈ gtbl := gt_ 1112 (by decide +kernel) (by decide +kernel)
theorem tw_1113 : Cond.methodLink RX8 117 yX8_within ∈ gtbl := gt_ 1113 (by decide +kernel) (by decide +kernel)
theorem tw_1114 : Cond.static yX8_within ∈ gtbl := gt_ 1114 (by decide +kernel) (by decide +kernel)
theorem tw_1115 : Cond.code yX8_within prog_10_method_3_code 3 (Option.some Jvm.ClassFile.FieldType.int) ∈ gtbl := gt_ 1115 (by decide +kernel) (by decide +kernel)
theorem tw_1116 : Cond.methodLink RX8 134 yX8_borne ∈ gtbl := gt_ 1116 (by decide +kernel) (by decide +kernel)
theorem tw_1118 : Cond.instanceMethod yX8_borne ∈ gtbl := gt_ 1118 (by decide +kernel) (by decide +kernel)
theorem tw_1119 : Cond.code yX8_borne prog_10_method_21_code 3 (Option.some Jvm.ClassFile.FieldType.int) ∈ gtbl := gt_ 1119 (by decide +kernel) (by decide +kernel)
theorem tw_1120 : Cond.methodLink RL 30 yX8_as ∈ gtbl := gt_ 1120 (by decide +kernel) (by decide +kernel)
theorem tw_1121 : Cond.instanceMethod yX8_as ∈ gtbl := gt_ 1121 (by decide +kernel) (by decide +kernel)
theorem tw_1122 : Cond.selects RX8 yX8_as yX8_as ∈ gtbl := gt_ 1122 (by decide +kernel) (by decide +kernel)
theorem tw_1123 : Cond.code yX8_as prog_10_method_24_code 3 (Option.some Jvm.ClassFile.FieldType.int) ∈ gtbl := gt_ 1123 (by decide +kernel) (by decide +kernel)
theorem tw_1124 : Cond.methodLink RX8 137 yX8_isUnder ∈ gtbl := gt_ 1124 (by decide +kernel) (by decide +kernel)
theorem tw_1125 : Cond.static yX8_isUnder ∈ gtbl := gt_ 1125 (by decide +kernel) (by decide +kernel)
theorem tw_1126 : Cond.code yX8_isUnder prog_10_method_23_code 2 (Option.some Jvm.ClassFile.FieldType.boolean) ∈ gtbl := gt_ 1126 (by decide +kernel) (by decide +kernel)
theorem tw_1127 : Cond.constant RX8 140 (-1000000012) ∈ gtbl := gt_ 1127 (by decide +kernel) (by decide +kernel)
theorem tw_1128 : Cond.methodLink RL 34 yX8_turns ∈ gtbl := gt_ 1128 (by decide +kernel) (by decide +kernel)
theorem tw_1129 : Cond.instanceMethod yX8_turns ∈ gtbl := gt_ 1129 (by decide +kernel) (by decide +kernel)
theorem tw_1130 : Cond.selects RX8 yX8_turns yX8_turns ∈ gtbl := gt_ 1130 (by decide +kernel) (by decide +kernel)
theorem tw_1131 : Cond.code yX8_turns prog_10_method_25_code 3 (Option.some Jvm.ClassFile.FieldType.int) ∈ gtbl := gt_ 1131 (by decide +kernel) (by decide +kernel)
theorem tw_1132 : Cond.methodLink RX8 141 yX8_becomes ∈ gtbl := gt_ 1132 (by decide +kernel) (by decide +kernel)
theorem tw_1134 : Cond.instanceMethod yX8_becomes ∈ gtbl := gt_ 1134 (by decide +kernel) (by decide +kernel)
theorem tw_1135 : Cond.code yX8_becomes prog_10_method_9_code 4 (Option.some Jvm.ClassFile.FieldType.int) ∈ gtbl := gt_ 1135 (by decide +kernel) (by decide +kernel)
theorem tw_1136 : Cond.methodLink RL 39 yX8_set ∈ gtbl := gt_ 1136 (by decide +kernel) (by decide +kernel)
theorem tw_1137 : Cond.instanceMethod yX8_set ∈ gtbl := gt_ 1137 (by decide +kernel) (by decide +kernel)
theorem tw_1138 : Cond.selects RX8 yX8_set yX8_set ∈ gtbl := gt_ 1138 (by decide +kernel) (by decide +kernel)
theorem tw_1139 : Cond.code yX8_set prog_10_method_26_code 4 (Option.some Jvm.ClassFile.FieldType.int) ∈ gtbl := gt_ 1139 (by decide +kernel) (by decide +kernel)
theorem tw_1140 : Cond.methodLink RL 44 yX8_fertile ∈ gtbl := gt_ 1140 (by decide +kernel) (by decide +kernel)
theorem tw_1141 : Cond.instanceMethod yX8_fertile ∈ gtbl := gt_ 1141 (by decide +kernel) (by decide +kernel)
theorem tw_1142 : Cond.selects RX8 yX8_fertile yX8_fertile ∈ gtbl := gt_ 1142 (by decide +kernel) (by decide +kernel)
theorem tw_1143 : Cond.code yX8_fertile prog_10_method_27_code 2 (Option.some Jvm.ClassFile.FieldType.int) ∈ gtbl := gt_ 1143 (by decide +kernel) (by decide +kernel)
theorem tw_1144 : Cond.methodLink RL 48 yX8_deal ∈ gtbl := gt_ 1144 (by decide +kernel) (by decide +kernel)
theorem tw_1145 : Cond.instanceMethod yX8_deal ∈ gtbl := gt_ 1145 (by decide +kernel) (by decide +kernel)
theorem tw_1146 : Cond.selects RX8 yX8_deal yX8_deal ∈ gtbl := gt_ 1146 (by decide +kernel) (by decide +kernel)
theorem tw_1147 : Cond.code yX8_deal prog_10_method_29_code 6 (Option.some Jvm.ClassFile.FieldType.int) ∈ gtbl := gt_ 1147 (by decide +kernel) (by decide +kernel)
theorem tw_1148 : Cond.methodLink RX8 145 yX8_draw ∈ gtbl := gt_ 1148 (by decide +kernel) (by decide +kernel)
theorem tw_1150 : Cond.instanceMethod yX8_draw ∈ gtbl := gt_ 1150 (by decide +kernel) (by decide +kernel)
theorem tw_1151 : Cond.code yX8_draw prog_10_method_28_code 1 (Option.some Jvm.ClassFile.FieldType.int) ∈ gtbl := gt_ 1151 (by decide +kernel) (by decide +kernel)
theorem tw_1152 : Cond.constant RX8 144 (1103515245) ∈ gtbl := gt_ 1152 (by decide +kernel) (by decide +kernel)
theorem tw_1153 : Cond.methodLink RL 52 yX8_seed ∈ gtbl := gt_ 1153 (by decide +kernel) (by decide +kernel)
theorem tw_1154 : Cond.instanceMethod yX8_seed ∈ gtbl := gt_ 1154 (by decide +kernel) (by decide +kernel)
theorem tw_1155 : Cond.selects RX8 yX8_seed yX8_seed ∈ gtbl := gt_ 1155 (by decide +kernel) (by decide +kernel)
theorem tw_1156 : Cond.code yX8_seed prog_10_method_30_code 2 (Option.some Jvm.ClassFile.FieldType.int) ∈ gtbl := gt_ 1156 (by decide +kernel) (by decide +kernel)
theorem tw_1157 : Cond.methodLink RL 56 yX8_years ∈ gtbl := gt_ 1157 (by decide +kernel) (by decide +kernel)
theorem tw_1158 : Cond.instanceMethod yX8_years ∈ gtbl := gt_ 1158 (by decide +kernel) (by decide +kernel)
theorem tw_1159 : Cond.selects RX8 yX8_years yX8_years ∈ gtbl := gt_ 1159 (by decide +kernel) (by decide +kernel)
theorem tw_1160 : Cond.code yX8_years prog_10_method_35_code 3 (Option.some Jvm.ClassFile.FieldType.int) ∈ gtbl := gt_ 1160 (by decide +kernel) (by decide +kernel)
theorem tw_1161 : Cond.methodLink RX8 158 yX8_goesOn ∈ gtbl := gt_ 1161 (by decide +kernel) (by decide +kernel)
theorem tw_1163 : Cond.instanceMethod yX8_goesOn ∈ gtbl := gt_ 1163 (by decide +kernel) (by decide +kernel)
theorem tw_1164 : Cond.code yX8_goesOn prog_10_method_34_code 3 (Option.none : Option Jvm.ClassFile.FieldType) ∈ gtbl := gt_ 1164 (by decide +kernel) (by decide +kernel)
theorem tw_1165 : Cond.methodLink RX8 155 yX8_year ∈ gtbl := gt_ 1165 (by decide +kernel) (by decide +kernel)
theorem tw_1167 : Cond.instanceMethod yX8_year ∈ gtbl := gt_ 1167 (by decide +kernel) (by decide +kernel)
theorem tw_1168 : Cond.code yX8_year prog_10_method_33_code 9 (Option.none : Option Jvm.ClassFile.FieldType) ∈ gtbl := gt_ 1168 (by decide +kernel) (by decide +kernel)
theorem tw_1169 : Cond.methodLink RX8 149 yX8_manyOf ∈ gtbl := gt_ 1169 (by decide +kernel) (by decide +kernel)
theorem tw_1171 : Cond.instanceMethod yX8_manyOf ∈ gtbl := gt_ 1171 (by decide +kernel) (by decide +kernel)
theorem tw_1172 : Cond.code yX8_manyOf prog_10_method_31_code 4 (Option.some Jvm.ClassFile.FieldType.int) ∈ gtbl := gt_ 1172 (by decide +kernel) (by decide +kernel)
theorem tw_1173 : Cond.methodLink RX8 152 yX8_numberOf ∈ gtbl := gt_ 1173 (by decide +kernel) (by decide +kernel)
theorem tw_1175 : Cond.instanceMethod yX8_numberOf ∈ gtbl := gt_ 1175 (by decide +kernel) (by decide +kernel)
theorem tw_1176 : Cond.code yX8_numberOf prog_10_method_32_code 5 (Option.some Jvm.ClassFile.FieldType.int) ∈ gtbl := gt_ 1176 (by decide +kernel) (by decide +kernel)
theorem tw_1177 : Cond.methodLink RL 60 yX8_alike ∈ gtbl := gt_ 1177 (by decide +kernel) (by decide +kernel)
theorem tw_1178 : Cond.instanceMethod yX8_alike ∈ gtbl := gt_ 1178 (by decide +kernel) (by decide +kernel)
theorem tw_1179 : Cond.selects RX8 yX8_alike yX8_alike ∈ gtbl := gt_ 1179 (by decide +kernel) (by decide +kernel)
theorem tw_1180 : Cond.code yX8_alike prog_10_method_37_code 3 (Option.some Jvm.ClassFile.FieldType.int) ∈ gtbl := gt_ 1180 (by decide +kernel) (by decide +kernel)
theorem tw_1181 : Cond.methodLink RX8 161 yX8_worksAll ∈ gtbl := gt_ 1181 (by decide +kernel) (by decide +kernel)
theorem tw_1183 : Cond.instanceMethod yX8_worksAll ∈ gtbl := gt_ 1183 (by decide +kernel) (by decide +kernel)
theorem tw_1184 : Cond.code yX8_worksAll prog_10_method_20_code 2 (Option.none : Option Jvm.ClassFile.FieldType) ∈ gtbl := gt_ 1184 (by decide +kernel) (by decide +kernel)
theorem tw_1185 : Cond.methodLink RX8 164 yX8_areAlike ∈ gtbl := gt_ 1185 (by decide +kernel) (by decide +kernel)
theorem tw_1187 : Cond.instanceMethod yX8_areAlike ∈ gtbl := gt_ 1187 (by decide +kernel) (by decide +kernel)
theorem tw_1188 : Cond.code yX8_areAlike prog_10_method_36_code 5 (Option.some Jvm.ClassFile.FieldType.boolean) ∈ gtbl := gt_ 1188 (by decide +kernel) (by decide +kernel)
theorem tw_1189 : Cond.methodLink RL 64 yX8_land ∈ gtbl := gt_ 1189 (by decide +kernel) (by decide +kernel)
theorem tw_1190 : Cond.instanceMethod yX8_land ∈ gtbl := gt_ 1190 (by decide +kernel) (by decide +kernel)
theorem tw_1191 : Cond.selects RX8 yX8_land yX8_land ∈ gtbl := gt_ 1191 (by decide +kernel) (by decide +kernel)
theorem tw_1192 : Cond.code yX8_land prog_10_method_39_code 4 (Option.some Jvm.ClassFile.FieldType.int) ∈ gtbl := gt_ 1192 (by decide +kernel) (by decide +kernel)
theorem tw_1193 : Cond.methodLink RX8 167 yX8_clashes ∈ gtbl := gt_ 1193 (by decide +kernel) (by decide +kernel)
theorem tw_1195 : Cond.instanceMethod yX8_clashes ∈ gtbl := gt_ 1195 (by decide +kernel) (by decide +kernel)
theorem tw_1196 : Cond.code yX8_clashes prog_10_method_38_code 4 (Option.some Jvm.ClassFile.FieldType.int) ∈ gtbl := gt_ 1196 (by decide +kernel) (by decide +kernel)
theorem tw_1197 : Cond.methodLink RL 68 yX8_sixteenth ∈ gtbl := gt_ 1197 (by decide +kernel) (by decide +kernel)
theorem tw_1198 : Cond.instanceMethod yX8_sixteenth ∈ gtbl := gt_ 1198 (by decide +kernel) (by decide +kernel)
theorem tw_1199 : Cond.selects RX8 yX8_sixteenth yX8_sixteenth ∈ gtbl := gt_ 1199 (by decide +kernel) (by decide +kernel)
theorem tw_1200 : Cond.code yX8_sixteenth prog_10_method_40_code 4 (Option.some Jvm.ClassFile.FieldType.int) ∈ gtbl := gt_ 1200 (by decide +kernel) (by decide +kernel)
theorem tw_1201 : Cond.methodLink RL 72 yX8_from ∈ gtbl := gt_ 1201 (by decide +kernel) (by decide +kernel)
theorem tw_1202 : Cond.instanceMethod yX8_from ∈ gtbl := gt_ 1202 (by decide +kernel) (by decide +kernel)
theorem tw_1203 : Cond.selects RX8 yX8_from yX8_from ∈ gtbl := gt_ 1203 (by decide +kernel) (by decide +kernel)
theorem tw_1204 : Cond.code yX8_from prog_10_method_41_code 6 (Option.some Jvm.ClassFile.FieldType.int) ∈ gtbl := gt_ 1204 (by decide +kernel) (by decide +kernel)
theorem tw_1205 : Cond.methodLink RX8 170 yX8_told0 ∈ gtbl := gt_ 1205 (by decide +kernel) (by decide +kernel)
theorem tw_1206 : Cond.static yX8_told0 ∈ gtbl := gt_ 1206 (by decide +kernel) (by decide +kernel)
theorem tw_1207 : Cond.code yX8_told0 prog_10_method_5_code 1 (Option.some Jvm.ClassFile.FieldType.int) ∈ gtbl := gt_ 1207 (by decide +kernel) (by decide +kernel)
theorem tw_1208 : Cond.constant RX8 78 (-1000000005) ∈ gtbl := gt_ 1208 (by decide +kernel) (by decide +kernel)
theorem tw_1209 : Cond.methodLink RL 76 yX8_match ∈ gtbl := gt_ 1209 (by decide +kernel) (by decide +kernel)
theorem tw_1210 : Cond.instanceMethod yX8_match ∈ gtbl := gt_ 1210 (by decide +kernel) (by decide +kernel)
theorem tw_1211 : Cond.selects RX8 yX8_match yX8_match ∈ gtbl := gt_ 1211 (by decide +kernel) (by decide +kernel)
theorem tw_1212 : Cond.code yX8_match prog_10_method_42_code 8 (Option.some Jvm.ClassFile.FieldType.int) ∈ gtbl := gt_ 1212 (by decide +kernel) (by decide +kernel)
theorem tw_1213 : Cond.methodLink RL 81 yX8_repaint ∈ gtbl := gt_ 1213 (by decide +kernel) (by decide +kernel)
theorem tw_1214 : Cond.instanceMethod yX8_repaint ∈ gtbl := gt_ 1214 (by decide +kernel) (by decide +kernel)
theorem tw_1215 : Cond.selects RX8 yX8_repaint yX8_repaint ∈ gtbl := gt_ 1215 (by decide +kernel) (by decide +kernel)
theorem tw_1216 : Cond.code yX8_repaint prog_10_method_43_code 7 (Option.some Jvm.ClassFile.FieldType.int) ∈ gtbl := gt_ 1216 (by decide +kernel) (by decide +kernel)
theorem tw_1217 : Cond.methodLink RL 85 yX8_behind ∈ gtbl := gt_ 1217 (by decide +kernel) (by decide +kernel)
theorem tw_1218 : Cond.instanceMethod yX8_behind ∈ gtbl := gt_ 1218 (by decide +kernel) (by decide +kernel)
theorem tw_1219 : Cond.selects RX8 yX8_behind yX8_behind ∈ gtbl := gt_ 1219 (by decide +kernel) (by decide +kernel)
theorem tw_1220 : Cond.code yX8_behind prog_10_method_47_code 4 (Option.some Jvm.ClassFile.FieldType.int) ∈ gtbl := gt_ 1220 (by decide +kernel) (by decide +kernel)
theorem tw_1221 : Cond.methodLink RX8 173 yX8_thinks ∈ gtbl := gt_ 1221 (by decide +kernel) (by decide +kernel)
theorem tw_1223 : Cond.instanceMethod yX8_thinks ∈ gtbl := gt_ 1223 (by decide +kernel) (by decide +kernel)
theorem tw_1224 : Cond.code yX8_thinks prog_10_method_44_code 2 (Option.none : Option Jvm.ClassFile.FieldType) ∈ gtbl := gt_ 1224 (by decide +kernel) (by decide +kernel)
theorem tw_1225 : Cond.methodLink RX8 176 yX8_allBear ∈ gtbl := gt_ 1225 (by decide +kernel) (by decide +kernel)
theorem tw_1227 : Cond.instanceMethod yX8_allBear ∈ gtbl := gt_ 1227 (by decide +kernel) (by decide +kernel)
theorem tw_1228 : Cond.code yX8_allBear prog_10_method_46_code 4 (Option.some Jvm.ClassFile.FieldType.int) ∈ gtbl := gt_ 1228 (by decide +kernel) (by decide +kernel)
theorem tw_1229 : Cond.methodLink RX8 179 yX8_putsBack ∈ gtbl := gt_ 1229 (by decide +kernel) (by decide +kernel)
theorem tw_1231 : Cond.instanceMethod yX8_putsBack ∈ gtbl := gt_ 1231 (by decide +kernel) (by decide +kernel)
theorem tw_1232 : Cond.code yX8_putsBack prog_10_method_45_code 2 (Option.none : Option Jvm.ClassFile.FieldType) ∈ gtbl := gt_ 1232 (by decide +kernel) (by decide +kernel)
theorem tw_1233 : Cond.methodLink RL 89 yX8_born ∈ gtbl := gt_ 1233 (by decide +kernel) (by decide +kernel)
theorem tw_1234 : Cond.instanceMethod yX8_born ∈ gtbl := gt_ 1234 (by decide +kernel) (by decide +kernel)
theorem tw_1235 : Cond.selects RX8 yX8_born yX8_born ∈ gtbl := gt_ 1235 (by decide +kernel) (by decide +kernel)
theorem tw_1236 : Cond.code yX8_born prog_10_method_48_code 4 (Option.some Jvm.ClassFile.FieldType.int) ∈ gtbl := gt_ 1236 (by decide +kernel) (by decide +kernel)
theorem tw_1237 : Cond.methodLink RL 93 yX8_gone ∈ gtbl := gt_ 1237 (by decide +kernel) (by decide +kernel)
theorem tw_1238 : Cond.instanceMethod yX8_gone ∈ gtbl := gt_ 1238 (by decide +kernel) (by decide +kernel)
theorem tw_1239 : Cond.selects RX8 yX8_gone yX8_gone ∈ gtbl := gt_ 1239 (by decide +kernel) (by decide +kernel)
theorem tw_1240 : Cond.code yX8_gone prog_10_method_49_code 8 (Option.some Jvm.ClassFile.FieldType.int) ∈ gtbl := gt_ 1240 (by decide +kernel) (by decide +kernel)
theorem tw_1241 : Cond.methodLink RL 97 yX8_spoon ∈ gtbl := gt_ 1241 (by decide +kernel) (by decide +kernel)
theorem tw_1242 : Cond.instanceMethod yX8_spoon ∈ gtbl := gt_ 1242 (by decide +kernel) (by decide +kernel)
theorem tw_1243 : Cond.selects RX8 yX8_spoon yX8_spoon ∈ gtbl := gt_ 1243 (by decide +kernel) (by decide +kernel)
theorem tw_1244 : Cond.code yX8_spoon prog_10_method_51_code 9 (Option.some Jvm.ClassFile.FieldType.int) ∈ gtbl := gt_ 1244 (by decide +kernel) (by decide +kernel)
theorem tw_1245 : Cond.methodLink RX8 182 yX8_isSheet ∈ gtbl := gt_ 1245 (by decide +kernel) (by decide +kernel)
theorem tw_1246 : Cond.static yX8_isSheet ∈ gtbl := gt_ 1246 (by decide +kernel) (by decide +kernel)
theorem tw_1247 : Cond.code yX8_isSheet prog_10_method_73_code 1 (Option.some Jvm.ClassFile.FieldType.boolean) ∈ gtbl := gt_ 1247 (by decide +kernel) (by decide +kernel)
theorem tw_1248 : Cond.constant RX8 185 (-1000000011) ∈ gtbl := gt_ 1248 (by decide +kernel) (by decide +kernel)
theorem tw_1249 : Cond.methodLink RX8 186 yX8_offBy ∈ gtbl := gt_ 1249 (by decide +kernel) (by decide +kernel)
theorem tw_1251 : Cond.instanceMethod yX8_offBy ∈ gtbl := gt_ 1251 (by decide +kernel) (by decide +kernel)
theorem tw_1252 : Cond.code yX8_offBy prog_10_method_50_code 9 (Option.some Jvm.ClassFile.FieldType.long) ∈ gtbl := gt_ 1252 (by decide +kernel) (by decide +kernel)
theorem tw_1253 : Cond.methodLink RL 101 yX8_fee ∈ gtbl := gt_ 1253 (by decide +kernel) (by decide +kernel)
theorem tw_1254 : Cond.instanceMethod yX8_fee ∈ gtbl := gt_ 1254 (by decide +kernel) (by decide +kernel)
theorem tw_1255 : Cond.selects RX8 yX8_fee yX8_fee ∈ gtbl := gt_ 1255 (by decide +kernel) (by decide +kernel)
theorem tw_1256 : Cond.code yX8_fee prog_10_method_52_code 2 (Option.some Jvm.ClassFile.FieldType.int) ∈ gtbl := gt_ 1256 (by decide +kernel) (by decide +kernel)
theorem tw_1257 : Cond.methodLink RL 105 yX8_fine ∈ gtbl := gt_ 1257 (by decide +kernel) (by decide +kernel)
theorem tw_1258 : Cond.instanceMethod yX8_fine ∈ gtbl := gt_ 1258 (by decide +kernel) (by decide +kernel)
theorem tw_1259 : Cond.selects RX8 yX8_fine yX8_fine ∈ gtbl := gt_ 1259 (by decide +kernel) (by decide +kernel)
theorem tw_1260 : Cond.code yX8_fine prog_10_method_53_code 5 (Option.some Jvm.ClassFile.FieldType.int) ∈ gtbl := gt_ 1260 (by decide +kernel) (by decide +kernel)
theorem tw_1261 : Cond.methodLink RL 109 yX8_feed ∈ gtbl := gt_ 1261 (by decide +kernel) (by decide +kernel)
theorem tw_1262 : Cond.instanceMethod yX8_feed ∈ gtbl := gt_ 1262 (by decide +kernel) (by decide +kernel)
theorem tw_1263 : Cond.selects RX8 yX8_feed yX8_feed ∈ gtbl := gt_ 1263 (by decide +kernel) (by decide +kernel)
theorem tw_1264 : Cond.code yX8_feed prog_10_method_54_code 6 (Option.some Jvm.ClassFile.FieldType.int) ∈ gtbl := gt_ 1264 (by decide +kernel) (by decide +kernel)
theorem tw_1265 : Cond.methodLink RL 113 yX8_trim ∈ gtbl := gt_ 1265 (by decide +kernel) (by decide +kernel)
theorem tw_1266 : Cond.instanceMethod yX8_trim ∈ gtbl := gt_ 1266 (by decide +kernel) (by decide +kernel)
theorem tw_1267 : Cond.selects RX8 yX8_trim yX8_trim ∈ gtbl := gt_ 1267 (by decide +kernel) (by decide +kernel)
theorem tw_1268 : Cond.code yX8_trim prog_10_method_55_code 2 (Option.some Jvm.ClassFile.FieldType.int) ∈ gtbl := gt_ 1268 (by decide +kernel) (by decide +kernel)
theorem tw_1269 : Cond.methodLink RL 117 yX8_text ∈ gtbl := gt_ 1269 (by decide +kernel) (by decide +kernel)
theorem tw_1270 : Cond.instanceMethod yX8_text ∈ gtbl := gt_ 1270 (by decide +kernel) (by decide +kernel)
theorem tw_1271 : Cond.selects RX8 yX8_text yX8_text ∈ gtbl := gt_ 1271 (by decide +kernel) (by decide +kernel)
theorem tw_1272 : Cond.code yX8_text prog_10_method_67_code 4 (Option.some Jvm.ClassFile.FieldType.int) ∈ gtbl := gt_ 1272 (by decide +kernel) (by decide +kernel)
theorem tw_1273 : Cond.methodLink RX8 218 yX8_go ∈ gtbl := gt_ 1273 (by decide +kernel) (by decide +kernel)
theorem tw_1275 : Cond.instanceMethod yX8_go ∈ gtbl := gt_ 1275 (by decide +kernel) (by decide +kernel)
theorem tw_1276 : Cond.code yX8_go prog_10_method_58_code 2 (Option.none : Option Jvm.ClassFile.FieldType) ∈ gtbl := gt_ 1276 (by decide +kernel) (by decide +kernel)
theorem tw_1277 : Cond.methodLink RX8 206 yX8_isLetter ∈ gtbl := gt_ 1277 (by decide +kernel) (by decide +kernel)
theorem tw_1279 : Cond.instanceMethod yX8_isLetter ∈ gtbl := gt_ 1279 (by decide +kernel) (by decide +kernel)
theorem tw_1280 : Cond.code yX8_isLetter prog_10_method_56_code 2 (Option.some Jvm.ClassFile.FieldType.boolean) ∈ gtbl := gt_ 1280 (by decide +kernel) (by decide +kernel)
theorem tw_1281 : Cond.methodLink RX8 212 yX8_isFigure ∈ gtbl := gt_ 1281 (by decide +kernel) (by decide +kernel)
theorem tw_1283 : Cond.instanceMethod yX8_isFigure ∈ gtbl := gt_ 1283 (by decide +kernel) (by decide +kernel)
theorem tw_1284 : Cond.code yX8_isFigure prog_10_method_57_code 2 (Option.some Jvm.ClassFile.FieldType.boolean) ∈ gtbl := gt_ 1284 (by decide +kernel) (by decide +kernel)
theorem tw_1285 : Cond.methodLink RX8 249 yX8_takesKey ∈ gtbl := gt_ 1285 (by decide +kernel) (by decide +kernel)
theorem tw_1287 : Cond.instanceMethod yX8_takesKey ∈ gtbl := gt_ 1287 (by decide +kernel) (by decide +kernel)
theorem tw_1288 : Cond.code yX8_takesKey prog_10_method_59_code 5 (Option.some Jvm.ClassFile.FieldType.boolean) ∈ gtbl := gt_ 1288 (by decide +kernel) (by decide +kernel)
theorem tw_1289 : Cond.methodLink RX8 252 yX8_takesE ∈ gtbl := gt_ 1289 (by decide +kernel) (by decide +kernel)
theorem tw_1291 : Cond.instanceMethod yX8_takesE ∈ gtbl := gt_ 1291 (by decide +kernel) (by decide +kernel)
theorem tw_1292 : Cond.code yX8_takesE prog_10_method_65_code 5 (Option.some Jvm.ClassFile.FieldType.boolean) ∈ gtbl := gt_ 1292 (by decide +kernel) (by decide +kernel)
theorem tw_1293 : Cond.methodLink RX8 239 yX8_takesPart ∈ gtbl := gt_ 1293 (by decide +kernel) (by decide +kernel)
theorem tw_1295 : Cond.instanceMethod yX8_takesPart ∈ gtbl := gt_ 1295 (by decide +kernel) (by decide +kernel)
theorem tw_1296 : Cond.code yX8_takesPart prog_10_method_64_code 2 (Option.some Jvm.ClassFile.FieldType.boolean) ∈ gtbl := gt_ 1296 (by decide +kernel) (by decide +kernel)
theorem tw_1297 : Cond.methodLink RX8 230 yX8_nameOf ∈ gtbl := gt_ 1297 (by decide +kernel) (by decide +kernel)
theorem tw_1299 : Cond.instanceMethod yX8_nameOf ∈ gtbl := gt_ 1299 (by decide +kernel) (by decide +kernel)
theorem tw_1300 : Cond.code yX8_nameOf prog_10_method_60_code 2 (Option.some Jvm.ClassFile.FieldType.int) ∈ gtbl := gt_ 1300 (by decide +kernel) (by decide +kernel)
theorem tw_1301 : Cond.methodLink RX8 236 yX8_settle ∈ gtbl := gt_ 1301 (by decide +kernel) (by decide +kernel)
theorem tw_1303 : Cond.instanceMethod yX8_settle ∈ gtbl := gt_ 1303 (by decide +kernel) (by decide +kernel)
theorem tw_1304 : Cond.code yX8_settle prog_10_method_62_code 2 (Option.none : Option Jvm.ClassFile.FieldType) ∈ gtbl := gt_ 1304 (by decide +kernel) (by decide +kernel)
theorem tw_1305 : Cond.methodLink RX8 224 yX8_rank ∈ gtbl := gt_ 1305 (by decide +kernel) (by decide +kernel)
theorem tw_1306 : Cond.static yX8_rank ∈ gtbl := gt_ 1306 (by decide +kernel) (by decide +kernel)
theorem tw_1307 : Cond.code yX8_rank prog_10_method_61_code 1 (Option.some Jvm.ClassFile.FieldType.int) ∈ gtbl := gt_ 1307 (by decide +kernel) (by decide +kernel)
theorem tw_1308 : Cond.methodLink RX8 243 yX8_notsOpen ∈ gtbl := gt_ 1308 (by decide +kernel) (by decide +kernel)
theorem tw_1310 : Cond.instanceMethod yX8_notsOpen ∈ gtbl := gt_ 1310 (by decide +kernel) (by decide +kernel)
theorem tw_1311 : Cond.code yX8_notsOpen prog_10_method_66_code 3 (Option.some Jvm.ClassFile.FieldType.int) ∈ gtbl := gt_ 1311 (by decide +kernel) (by decide +kernel)
theorem tw_1312 : Cond.methodLink RX8 246 yX8_signHere ∈ gtbl := gt_ 1312 (by decide +kernel) (by decide +kernel)
theorem tw_1314 : Cond.instanceMethod yX8_signHere ∈ gtbl := gt_ 1314 (by decide +kernel) (by decide +kernel)
theorem tw_1315 : Cond.code yX8_signHere prog_10_method_63_code 1 (Option.some Jvm.ClassFile.FieldType.int) ∈ gtbl := gt_ 1315 (by decide +kernel) (by decide +kernel)
theorem tw_1316 : Cond.methodLink RL 121 yX8_textTold ∈ gtbl := gt_ 1316 (by decide +kernel) (by decide +kernel)
theorem tw_1317 : Cond.instanceMethod yX8_textTold ∈ gtbl := gt_ 1317 (by decide +kernel) (by decide +kernel)
theorem tw_1318 : Cond.selects RX8 yX8_textTold yX8_textTold ∈ gtbl := gt_ 1318 (by decide +kernel) (by decide +kernel)
theorem tw_1319 : Cond.code yX8_textTold prog_10_method_68_code 3 (Option.some Jvm.ClassFile.FieldType.int) ∈ gtbl := gt_ 1319 (by decide +kernel) (by decide +kernel)
theorem tw_1320 : Cond.methodLink RL 125 yX8_why ∈ gtbl := gt_ 1320 (by decide +kernel) (by decide +kernel)
theorem tw_1321 : Cond.instanceMethod yX8_why ∈ gtbl := gt_ 1321 (by decide +kernel) (by decide +kernel)
theorem tw_1322 : Cond.selects RX8 yX8_why yX8_why ∈ gtbl := gt_ 1322 (by decide +kernel) (by decide +kernel)
theorem tw_1323 : Cond.code yX8_why prog_10_method_70_code 3 (Option.some Jvm.ClassFile.FieldType.int) ∈ gtbl := gt_ 1323 (by decide +kernel) (by decide +kernel)
theorem tw_1324 : Cond.methodLink RL 129 yX8_sheet ∈ gtbl := gt_ 1324 (by decide +kernel) (by decide +kernel)
theorem tw_1325 : Cond.instanceMethod yX8_sheet ∈ gtbl := gt_ 1325 (by decide +kernel) (by decide +kernel)
theorem tw_1326 : Cond.selects RX8 yX8_sheet yX8_sheet ∈ gtbl := gt_ 1326 (by decide +kernel) (by decide +kernel)
theorem tw_1327 : Cond.code yX8_sheet prog_10_method_75_code 5 (Option.some Jvm.ClassFile.FieldType.int) ∈ gtbl := gt_ 1327 (by decide +kernel) (by decide +kernel)
theorem tw_1328 : Cond.constant RX8 258 (-1000000014) ∈ gtbl := gt_ 1328 (by decide +kernel) (by decide +kernel)
theorem tw_1329 : Cond.methodLink RL 133 yX8_mark ∈ gtbl := gt_ 1329 (by decide +kernel) (by decide +kernel)
theorem tw_1330 : Cond.instanceMethod yX8_mark ∈ gtbl := gt_ 1330 (by decide +kernel) (by decide +kernel)
theorem tw_1331 : Cond.selects RX8 yX8_mark yX8_mark ∈ gtbl := gt_ 1331 (by decide +kernel) (by decide +kernel)
theorem tw_1332 : Cond.code yX8_mark prog_10_method_76_code 4 (Option.some Jvm.ClassFile.FieldType.int) ∈ gtbl := gt_ 1332 (by decide +kernel) (by decide +kernel)
theorem tw_1333 : Cond.constant RX8 259 (-1000000013) ∈ gtbl := gt_ 1333 (by decide +kernel) (by decide +kernel)
theorem tw_1334 : Cond.constant RX8 260 (-99999) ∈ gtbl := gt_ 1334 (by decide +kernel) (by decide +kernel)
theorem tw_1335 : Cond.constant RX8 261 (99999) ∈ gtbl := gt_ 1335 (by decide +kernel) (by decide +kernel)
theorem tw_1336 : Cond.methodLink RL 137 yX8_pour ∈ gtbl := gt_ 1336 (by decide +kernel) (by decide +kernel)
theorem tw_1337 : Cond.instanceMethod yX8_pour ∈ gtbl := gt_ 1337 (by decide +kernel) (by decide +kernel)
theorem tw_1338 : Cond.selects RX8 yX8_pour yX8_pour ∈ gtbl := gt_ 1338 (by decide +kernel) (by decide +kernel)
theorem tw_1339 : Cond.code yX8_pour prog_10_method_77_code 6 (Option.some Jvm.ClassFile.FieldType.int) ∈ gtbl := gt_ 1339 (by decide +kernel) (by decide +kernel)
theorem tw_1340 : Cond.methodLink RL 141 yX8_reads ∈ gtbl := gt_ 1340 (by decide +kernel) (by decide +kernel)
theorem tw_1341 : Cond.instanceMethod yX8_reads ∈ gtbl := gt_ 1341 (by decide +kernel) (by decide +kernel)
theorem tw_1342 : Cond.selects RX8 yX8_reads yX8_reads ∈ gtbl := gt_ 1342 (by decide +kernel) (by decide +kernel)
theorem tw_1343 : Cond.code yX8_reads prog_10_method_78_code 4 (Option.some Jvm.ClassFile.FieldType.int) ∈ gtbl := gt_ 1343 (by decide +kernel) (by decide +kernel)
theorem tw_1344 : Cond.methodLink RL 145 yX8_copy ∈ gtbl := gt_ 1344 (by decide +kernel) (by decide +kernel)
theorem tw_1345 : Cond.instanceMethod yX8_copy ∈ gtbl := gt_ 1345 (by decide +kernel) (by decide +kernel)
theorem tw_1346 : Cond.selects RX8 yX8_copy yX8_copy ∈ gtbl := gt_ 1346 (by decide +kernel) (by decide +kernel)
theorem tw_1347 : Cond.code yX8_copy prog_10_method_79_code 7 (Option.some Jvm.ClassFile.FieldType.int) ∈ gtbl := gt_ 1347 (by decide +kernel) (by decide +kernel)
theorem tw_1348 : Cond.methodLink RL 149 yX8_lay ∈ gtbl := gt_ 1348 (by decide +kernel) (by decide +kernel)
theorem tw_1349 : Cond.instanceMethod yX8_lay ∈ gtbl := gt_ 1349 (by decide +kernel) (by decide +kernel)
theorem tw_1350 : Cond.selects RX8 yX8_lay yX8_lay ∈ gtbl := gt_ 1350 (by decide +kernel) (by decide +kernel)
theorem tw_1351 : Cond.code yX8_lay prog_10_method_80_code 6 (Option.some Jvm.ClassFile.FieldType.int) ∈ gtbl := gt_ 1351 (by decide +kernel) (by decide +kernel)
theorem tw_1352 : Cond.methodLink RX8 262 yX8_isSlot ∈ gtbl := gt_ 1352 (by decide +kernel) (by decide +kernel)
theorem tw_1353 : Cond.static yX8_isSlot ∈ gtbl := gt_ 1353 (by decide +kernel) (by decide +kernel)
theorem tw_1354 : Cond.code yX8_isSlot prog_10_method_74_code 1 (Option.some Jvm.ClassFile.FieldType.boolean) ∈ gtbl := gt_ 1354 (by decide +kernel) (by decide +kernel)
theorem tw_1355 : Cond.methodLink RL 153 yX8_ask ∈ gtbl := gt_ 1355 (by decide +kernel) (by decide +kernel)
theorem tw_1356 : Cond.instanceMethod yX8_ask ∈ gtbl := gt_ 1356 (by decide +kernel) (by decide +kernel)
theorem tw_1357 : Cond.selects RX8 yX8_ask yX8_ask ∈ gtbl := gt_ 1357 (by decide +kernel) (by decide +kernel)
theorem tw_1358 : Cond.code yX8_ask prog_10_method_81_code 3 (Option.some Jvm.ClassFile.FieldType.int) ∈ gtbl := gt_ 1358 (by decide +kernel) (by decide +kernel)
theorem tw_1359 : Cond.methodLink RL 157 yX8_item ∈ gtbl := gt_ 1359 (by decide +kernel) (by decide +kernel)
theorem tw_1360 : Cond.instanceMethod yX8_item ∈ gtbl := gt_ 1360 (by decide +kernel) (by decide +kernel)
theorem tw_1361 : Cond.selects RX8 yX8_item yX8_item ∈ gtbl := gt_ 1361 (by decide +kernel) (by decide +kernel)
theorem tw_1362 : Cond.code yX8_item prog_10_method_82_code 4 (Option.some Jvm.ClassFile.FieldType.int) ∈ gtbl := gt_ 1362 (by decide +kernel) (by decide +kernel)
theorem tw_1363 : Cond.methodLink RL 161 yX8_rest ∈ gtbl := gt_ 1363 (by decide +kernel) (by decide +kernel)
theorem tw_1364 : Cond.instanceMethod yX8_rest ∈ gtbl := gt_ 1364 (by decide +kernel) (by decide +kernel)
theorem tw_1365 : Cond.selects RX8 yX8_rest yX8_rest ∈ gtbl := gt_ 1365 (by decide +kernel) (by decide +kernel)
theorem tw_1366 : Cond.code yX8_rest prog_10_method_83_code 3 (Option.some Jvm.ClassFile.FieldType.int) ∈ gtbl := gt_ 1366 (by decide +kernel) (by decide +kernel)
theorem tw_1367 : Cond.constant RX8 265 (-1000000002) ∈ gtbl := gt_ 1367 (by decide +kernel) (by decide +kernel)
theorem tw_1368 : Cond.methodLink RL 165 yX8_tell ∈ gtbl := gt_ 1368 (by decide +kernel) (by decide +kernel)
theorem tw_1369 : Cond.instanceMethod yX8_tell ∈ gtbl := gt_ 1369 (by decide +kernel) (by decide +kernel)
theorem tw_1370 : Cond.selects RX8 yX8_tell yX8_tell ∈ gtbl := gt_ 1370 (by decide +kernel) (by decide +kernel)
theorem tw_1371 : Cond.code yX8_tell prog_10_method_84_code 2 (Option.some Jvm.ClassFile.FieldType.int) ∈ gtbl := gt_ 1371 (by decide +kernel) (by decide +kernel)
theorem tw_1372 : Cond.methodLink RL 169 yX8_check ∈ gtbl := gt_ 1372 (by decide +kernel) (by decide +kernel)
theorem tw_1373 : Cond.instanceMethod yX8_check ∈ gtbl := gt_ 1373 (by decide +kernel) (by decide +kernel)
theorem tw_1374 : Cond.selects RX8 yX8_check yX8_check ∈ gtbl := gt_ 1374 (by decide +kernel) (by decide +kernel)
theorem tw_1375 : Cond.code yX8_check prog_10_method_85_code 6 (Option.some Jvm.ClassFile.FieldType.int) ∈ gtbl := gt_ 1375 (by decide +kernel) (by decide +kernel)
theorem tw_1376 : Cond.methodLink RX8 273 yX8_copyAll ∈ gtbl := gt_ 1376 (by decide +kernel) (by decide +kernel)
theorem tw_1377 : Cond.static yX8_copyAll ∈ gtbl := gt_ 1377 (by decide +kernel) (by decide +kernel)
theorem tw_1378 : Cond.code yX8_copyAll prog_10_method_4_code 3 (Option.none : Option Jvm.ClassFile.FieldType) ∈ gtbl := gt_ 1378 (by decide +kernel) (by decide +kernel)
theorem tw_1379 : Cond.methodLink RL 173 yX8_keep ∈ gtbl := gt_ 1379 (by decide +kernel) (by decide +kernel)
theorem tw_1380 : Cond.instanceMethod yX8_keep ∈ gtbl := gt_ 1380 (by decide +kernel) (by decide +kernel)
theorem tw_1381 : Cond.selects RX8 yX8_keep yX8_keep ∈ gtbl := gt_ 1381 (by decide +kernel) (by decide +kernel)
theorem tw_1382 : Cond.code yX8_keep prog_10_method_86_code 1 (Option.some Jvm.ClassFile.FieldType.int) ∈ gtbl := gt_ 1382 (by decide +kernel) (by decide +kernel)
theorem tw_1383 : Cond.methodLink RL 177 yX8_back ∈ gtbl := gt_ 1383 (by decide +kernel) (by decide +kernel)
theorem tw_1384 : Cond.instanceMethod yX8_back ∈ gtbl := gt_ 1384 (by decide +kernel) (by decide +kernel)
theorem tw_1385 : Cond.selects RX8 yX8_back yX8_back ∈ gtbl := gt_ 1385 (by decide +kernel) (by decide +kernel)
theorem tw_1386 : Cond.code yX8_back prog_10_method_87_code 1 (Option.some Jvm.ClassFile.FieldType.int) ∈ gtbl := gt_ 1386 (by decide +kernel) (by decide +kernel)
theorem tw_1387 : Cond.methodLink RL 181 yX8_count ∈ gtbl := gt_ 1387 (by decide +kernel) (by decide +kernel)
theorem tw_1388 : Cond.instanceMethod yX8_count ∈ gtbl := gt_ 1388 (by decide +kernel) (by decide +kernel)
theorem tw_1389 : Cond.selects RX8 yX8_count yX8_count ∈ gtbl := gt_ 1389 (by decide +kernel) (by decide +kernel)
theorem tw_1390 : Cond.code yX8_count prog_10_method_89_code 2 (Option.some Jvm.ClassFile.FieldType.int) ∈ gtbl := gt_ 1390 (by decide +kernel) (by decide +kernel)
theorem tw_1391 : Cond.methodLink RX8 277 yX8_founders ∈ gtbl := gt_ 1391 (by decide +kernel) (by decide +kernel)
theorem tw_1393 : Cond.instanceMethod yX8_founders ∈ gtbl := gt_ 1393 (by decide +kernel) (by decide +kernel)
theorem tw_1394 : Cond.code yX8_founders prog_10_method_88_code 3 (Option.some Jvm.ClassFile.FieldType.int) ∈ gtbl := gt_ 1394 (by decide +kernel) (by decide +kernel)
theorem tw_1395 : Cond.fieldLink RJ0 9 RJ0 "value" "[B" ∈ gtbl := gt_ 1395 (by decide +kernel) (by decide +kernel)
theorem tw_1396 : Cond.fieldLink RJ0 15 RJ0 "coder" "B" ∈ gtbl := gt_ 1396 (by decide +kernel) (by decide +kernel)
end
section
/-! THE HEAP BY NUMBERS: the cells that the run makes, in the order of their making: cell r lies at z0 + r. kinds: 0 .. 8 objects by vwCl, 9 int[], 10 long[], 11 boolean[], 12 char[], 13 Law[], 14 Row[], 15 Slot[] -/
abbrev HC : Type := (Nat → Nat → Int32) × (Nat → Nat → Option Nat) × (Nat → Nat → Int64)
def up2 {α : Type} (f : Nat → Nat → α) (r k : Nat) (v : α) : Nat → Nat → α := fun a b => if a = r ∧ b = k then v else f a b
def up1 {α : Type} (f : Nat → Nat → α) (r : Nat) (v : Nat → α) : Nat → Nat → α := fun a => if a = r then v else f a
def hI (S : HC) (r k : Nat) : Int32 := S.1 r k
def hR (S : HC) (r k : Nat) : Option Nat := S.2.1 r k
def hJ (S : HC) (r k : Nat) : Int64 := S.2.2 r k
def sI (S : HC) (r k : Nat) (v : Int32) : HC := (up2 S.1 r k v, S.2.1, S.2.2)
def sR (S : HC) (r k : Nat) (v : Option Nat) : HC := (S.1, up2 S.2.1 r k v, S.2.2)
def sJ (S : HC) (r k : Nat) (v : Int64) : HC := (S.1, S.2.1, up2 S.2.2 r k v)
def sC (S : HC) (r1 sp r2 dp n : Nat) : HC := (up1 S.1 r2 (va_cpy (S.1 r1) (S.1 r2) sp dp n), S.2.1, S.2.2)
def nw (S : HC) (r : Nat) : HC := (up1 S.1 r (fun _ => 0), up1 S.2.1 r (fun _ => none), up1 S.2.2 r (fun _ => 0))
def kdL : List Nat := [7, 0, 9, 9, 9, 9, 9, 9, 13, 0, 9, 9, 9, 9, 9, 9, 13, 0, 9, 9, 9, 9, 9, 9, 13, 4, 9, 10, 9, 0, 9, 9, 9, 9, 9, 9, 13, 2, 6, 9, 9, 14, 15, 9, 9, 3, 9, 3, 9, 3, 9, 3, 9, 5, 3, 9, 5, 3, 9, 5, 3, 9, 5, 3, 9, 5, 3, 9, 8, 9, 9, 9, 9, 9, 9, 12, 9, 9, 9, 11, 9, 9, 9, 9, 9, 9, 9, 9, 9, 9, 9]
def kd (r : Nat) : Nat := if r < 91 then kdL.getD r 0 else if r % 2 = 1 then 9 else 1
def nf (c : Nat) : Nat := [12, 3, 11, 3, 6, 5, 2, 11, 34].getD c 0
/-- the kind of what a field, or an array's place, refers to; 99: it's a number -/
def fkL : List (List Nat) := [[9, 9, 9, 9, 9, 9, 99, 99, 99, 99, 13, 99], [99, 99, 9], [6, 99, 99, 99, 99, 9, 99, 99, 99, 99, 99], [99, 99, 9], [9, 10, 9, 0, 1, 99], [99, 99, 99, 99, 3], [9, 99], [0, 0, 99, 0, 4, 2, 14, 15, 9, 99, 9], [9, 9, 9, 99, 9, 9, 9, 99, 99, 99, 99, 99, 99, 99, 12, 9, 9, 99, 99, 9, 99, 11, 9, 9, 9, 9, 9, 9, 9, 9, 9, 9, 9, 99]]
def fk (c k : Nat) : Nat := if c = 13 then 1 else if c = 14 then 3 else if c = 15 then 5 else (fkL.getD c []).getD k 99
abbrev GX : Type := va_G × (Nat → ClassId) × Nat × (Nat → Nat) × (Nat → Nat) × Nat
abbrev gD (g : GX) : va_G := g.1
abbrev gA (g : GX) : Nat → ClassId := g.2.1
abbrev gz (g : GX) : Nat := g.2.2.1
abbrev gK (g : GX) : Nat → Nat := g.2.2.2.1
abbrev gV (g : GX) : Nat → Nat := g.2.2.2.2.1
abbrev gT (g : GX) : Nat := g.2.2.2.2.2
abbrev gF (g : GX) : Nat → Prop := fun q => gz g ≤ q
def fv (z0 : Nat) (S : HC) (r c k : Nat) : Value := if fk c k = 99 then .int (hI S r k) else va_rf ((hR S r k).map (z0 + ·))
def fl (z0 : Nat) (S : HC) (r c : Nat) : List Value := (List.range (nf c)).map (fv z0 S r c)
def ar (z0 : Nat) (ln : Nat → Nat) (S : HC) (r c : Nat) : vp_A := (ln r, if c = 10 then .inr (.inl (hJ S r)) else if c < 13 then .inl (hI S r) else .inr (.inr (.inr (.inr (fun j => (hR S r j).map (z0 + ·))))))
def ce (z0 : Nat) (cA : Nat → ClassId) (ln : Nat → Nat) (S : HC) (r : Nat) : va_E := if kd r < 9 then .inr (kd r, fl z0 S r (kd r)) else .inl (cA (kd r), ar z0 ln S r (kd r))
def wl (z0 : Nat) (cA : Nat → ClassId) (N : Nat) (ln : Nat → Nat) (S : HC) : va_W := (List.range N).map (fun r => (z0 + r, ce z0 cA ln S r))
def tyL (cA : Nat → ClassId) : List (ClassId × FieldType) := [(cA 9, .int), (cA 10, .long), (cA 11, .boolean), (cA 12, .char), (cA 13, .object "LionShield$Law"), (cA 14, .object "LionShield$Row"), (cA 15, .object "LionShield$Slot")]
theorem wl_at {z0 N r : Nat} {cA : Nat → ClassId} {ln : Nat → Nat} {S : HC} (h : r < N) : (wl z0 cA N ln S)[r]? = some (z0 + r, ce z0 cA ln S r) := by
  simp [wl, h]
theorem wl_len {z0 N : Nat} {cA : Nat → ClassId} {ln : Nat → Nat} {S : HC} : (wl z0 cA N ln S).length = N := by simp [wl]
theorem wl_in {z0 N k : Nat} {cA : Nat → ClassId} {ln : Nat → Nat} {S : HC} {q : Nat × va_E} (h : (wl z0 cA N ln S)[k]? = some q) : k < N ∧ q = (z0 + k, ce z0 cA ln S k) := by
  have hk : k < N := by
    have := (List.getElem?_eq_some_iff.mp h).1
    rwa [wl_len] at this
  rw [wl_at hk] at h
  exact ⟨hk, (Option.some.inj h).symm⟩
theorem wl_set {z0 N r : Nat} {cA : Nat → ClassId} {ln ln' : Nat → Nat} {S S' : HC} {e : va_E} (h : r < N) (he : e = ce z0 cA ln' S' r) (ho : ∀ a, a ≠ r → ce z0 cA ln' S' a = ce z0 cA ln S a) : (wl z0 cA N ln S).set r (z0 + r, e) = wl z0 cA N ln' S' := by
  subst he
  apply List.ext_getElem?
  intro k
  by_cases hk : k < N
  · rw [wl_at hk]
    by_cases hkr : k = r
    · subst hkr
      rw [List.getElem?_set_self (by rw [wl_len]; exact hk)]
    · rw [List.getElem?_set_ne (Ne.symm hkr), wl_at hk, ho k hkr]
  · rw [List.getElem?_eq_none (by rw [List.length_set, wl_len]; omega), List.getElem?_eq_none (by rw [wl_len]; omega)]
theorem wl_push {z0 N : Nat} {cA : Nat → ClassId} {ln ln' : Nat → Nat} {S S' : HC} {e : va_E} (he : e = ce z0 cA ln' S' N) (ho : ∀ a, a < N → ce z0 cA ln' S' a = ce z0 cA ln S a) : wl z0 cA N ln S ++ [(z0 + N, e)] = wl z0 cA (N + 1) ln' S' := by
  subst he
  rw [wl, wl, List.range_succ, List.map_append]
  congr 1
  apply List.map_congr_left
  intro a ha
  rw [ho a (List.mem_range.mp ha)]
theorem wl_D {z0 N : Nat} {cA : Nat → ClassId} {ln : Nat → Nat} {S : HC} : va_D (fun q => z0 ≤ q) (wl z0 cA N ln S) := by
  refine ⟨fun i j p q h1 h2 h3 => ?_, fun k q h => ?_⟩
  · obtain ⟨a1, a2⟩ := wl_in h1
    obtain ⟨b1, b2⟩ := wl_in h2
    subst a2; subst b2
    simp only at h3
    omega
  · obtain ⟨a1, a2⟩ := wl_in h
    subst a2
    show z0 ≤ z0 + k
    omega
/-- every reference is to a cell that is there, of the kind that its place has -/
def WT (N : Nat) (S : HC) : Prop := ∀ r k b, r < N → hR S r k = some b → fk (kd r) k ≠ 99 → b < N ∧ kd b = fk (kd r) k
theorem WT.at {N : Nat} {S : HC} (h : WT N S) {r k b c f : Nat} (hr : r < N) (hk : kd r = c) (hf : fk c k = f) (h9 : f ≠ 99) (hb : hR S r k = some b) : b < N ∧ kd b = f := by
  subst hk; subst hf
  exact h r k b hr hb h9
theorem WT.sI {N : Nat} {S : HC} (h : WT N S) (r k : Nat) (v : Int32) : WT N (sI S r k v) := h
theorem WT.sJ {N : Nat} {S : HC} (h : WT N S) (r k : Nat) (v : Int64) : WT N (sJ S r k v) := h
theorem WT.sC {N : Nat} {S : HC} (h : WT N S) (a b c d e : Nat) : WT N (sC S a b c d e) := h
theorem WT.sR {N : Nat} {S : HC} (h : WT N S) {r k : Nat} {o : Option Nat} (ho : ∀ b, o = some b → b < N ∧ kd b = fk (kd r) k) : WT N (sR S r k o) := by
  intro r2 k2 b hr hb h9
  have hb' : (if r2 = r ∧ k2 = k then o else hR S r2 k2) = some b := hb
  by_cases e : r2 = r ∧ k2 = k
  · rw [if_pos e] at hb'
    obtain ⟨e1, e2⟩ := e
    subst e1; subst e2
    exact ho b hb'
  · rw [if_neg e] at hb'
    exact h r2 k2 b hr hb' h9
theorem WT.nw {N : Nat} {S : HC} (h : WT N S) : WT (N + 1) (nw S N) := by
  intro r k b hr hb h9
  have hb' : (if r = N then (fun _ => none) else S.2.1 r) k = some b := hb
  by_cases e : r = N
  · rw [if_pos e] at hb'; cases hb'
  · rw [if_neg e] at hb'
    obtain ⟨q1, q2⟩ := h r k b (by omega) hb' h9
    exact ⟨by omega, q2⟩
theorem ce_sI {z0 r : Nat} {cA : Nat → ClassId} {ln : Nat → Nat} {S : HC} {k : Nat} {v : Int32} : ∀ a, a ≠ r → ce z0 cA ln (sI S r k v) a = ce z0 cA ln S a := by
  intro a ha
  have e : hI (sI S r k v) a = hI S a := by funext b; simp [hI, sI, up2, ha]
  simp only [ce, fl, ar]
  have e2 : fv z0 (sI S r k v) a (kd a) = fv z0 S a (kd a) := by funext b; simp only [fv, e]; rfl
  rw [e, e2]; rfl
theorem ce_sJ {z0 r : Nat} {cA : Nat → ClassId} {ln : Nat → Nat} {S : HC} {k : Nat} {v : Int64} : ∀ a, a ≠ r → ce z0 cA ln (sJ S r k v) a = ce z0 cA ln S a := by
  intro a ha
  have e : hJ (sJ S r k v) a = hJ S a := by funext b; simp [hJ, sJ, up2, ha]
  simp only [ce, fl, ar]
  have e2 : fv z0 (sJ S r k v) a (kd a) = fv z0 S a (kd a) := rfl
  rw [e, e2]; rfl
theorem ce_sR {z0 r : Nat} {cA : Nat → ClassId} {ln : Nat → Nat} {S : HC} {k : Nat} {v : Option Nat} : ∀ a, a ≠ r → ce z0 cA ln (sR S r k v) a = ce z0 cA ln S a := by
  intro a ha
  have e : hR (sR S r k v) a = hR S a := by funext b; simp [hR, sR, up2, ha]
  simp only [ce, fl, ar]
  have e2 : fv z0 (sR S r k v) a (kd a) = fv z0 S a (kd a) := by funext b; simp only [fv, e]; rfl
  rw [e, e2]; rfl
theorem ce_sC {z0 r r1 sp dp n : Nat} {cA : Nat → ClassId} {ln : Nat → Nat} {S : HC} : ∀ a, a ≠ r → ce z0 cA ln (sC S r1 sp r dp n) a = ce z0 cA ln S a := by
  intro a ha
  have e : hI (sC S r1 sp r dp n) a = hI S a := by funext b; simp [hI, sC, up1, ha]
  simp only [ce, fl, ar]
  have e2 : fv z0 (sC S r1 sp r dp n) a (kd a) = fv z0 S a (kd a) := by funext b; simp only [fv, e]; rfl
  rw [e, e2]; rfl
theorem ce_nw {z0 r n : Nat} {cA : Nat → ClassId} {ln : Nat → Nat} {S : HC} : ∀ a, a ≠ r → ce z0 cA (va_up ln r n) (nw S r) a = ce z0 cA ln S a := by
  intro a ha
  have e1 : hI (nw S r) a = hI S a := by funext b; simp [hI, nw, up1, ha]
  have e2 : hR (nw S r) a = hR S a := by funext b; simp [hR, nw, up1, ha]
  have e3 : hJ (nw S r) a = hJ S a := by funext b; simp [hJ, nw, up1, ha]
  have e4 : va_up ln r n a = ln a := va_up_ne _ _ ha
  have e5 : fv z0 (nw S r) a (kd a) = fv z0 S a (kd a) := by funext b; simp only [fv, e1, e2]
  simp only [ce, fl, ar, e1, e2, e3, e4, e5]
theorem ce_o {z0 r c : Nat} {cA : Nat → ClassId} {ln : Nat → Nat} {S : HC} (h : kd r = c) (h9 : c < 9) : ce z0 cA ln S r = .inr (c, fl z0 S r c) := by
  subst h; simp only [ce, if_pos h9]
theorem ce_i {z0 r c : Nat} {cA : Nat → ClassId} {ln : Nat → Nat} {S : HC} (h : kd r = c) (hc : c = 9 ∨ c = 11 ∨ c = 12) : ce z0 cA ln S r = .inl (cA c, ln r, .inl (hI S r)) := by
  subst h
  simp only [ce, ar]
  rw [if_neg (by omega), if_neg (by omega), if_pos (by omega)]
theorem ce_j {z0 r : Nat} {cA : Nat → ClassId} {ln : Nat → Nat} {S : HC} (h : kd r = 10) : ce z0 cA ln S r = .inl (cA 10, ln r, .inr (.inl (hJ S r))) := by
  simp only [ce, ar, h]
  rw [if_neg (by omega)]; rfl
theorem ce_r {z0 r c : Nat} {cA : Nat → ClassId} {ln : Nat → Nat} {S : HC} (h : kd r = c) (hc : 13 ≤ c) : ce z0 cA ln S r = .inl (cA c, ln r, .inr (.inr (.inr (.inr (fun j => (hR S r j).map (z0 + ·)))))) := by
  subst h
  simp only [ce, ar]
  rw [if_neg (by omega), if_neg (by omega), if_neg (by omega)]
theorem fl_at {z0 r c k : Nat} {S : HC} (hk : k < nf c) : (fl z0 S r c)[k]? = some (fv z0 S r c k) := by
  simp [fl, hk]
theorem fl_len {z0 r c : Nat} {S : HC} : (fl z0 S r c).length = nf c := by simp [fl]
theorem fl_set {z0 r c k : Nat} {S S' : HC} {v : Value} (hk : k < nf c) (hv : v = fv z0 S' r c k) (ho : ∀ j, j ≠ k → fv z0 S' r c j = fv z0 S r c j) : (fl z0 S r c).set k v = fl z0 S' r c := by
  subst hv
  apply List.ext_getElem?
  intro j
  by_cases hj : j < nf c
  · rw [fl_at hj]
    by_cases e : j = k
    · subst e
      rw [List.getElem?_set_self (by rw [fl_len]; exact hj)]
    · rw [List.getElem?_set_ne (Ne.symm e), fl_at hj, ho j e]
  · rw [List.getElem?_eq_none (by rw [List.length_set, fl_len]; omega), List.getElem?_eq_none (by rw [fl_len]; omega)]
/-- what stands below z0 and isn't written: links of nest mates, classes of arrays, the table KIND_ABOVE, the texts -/
def nestW : List Cond := [Cond.methodLinkNest RX7 9 yX0_init RX7, Cond.methodLinkNest RX7 28 yX4_init RX7, Cond.methodLinkNest RX4 24 yX0_init RX7, Cond.methodLinkNest RX7 35 yX2_init RX7, Cond.methodLinkNest RX2 11 yX6_init RX7, Cond.methodLinkNest RX7 63 yX3_init RX7, Cond.methodLinkNest RX7 64 yX5_init RX7, Cond.methodLinkNest RX5 26 yX3_init RX7, Cond.methodLinkNest RX4 99 yX7_isCharge RX7, Cond.methodLinkNest RX4 96 yX7_within RX7]
def strK : List Nat := [79, 85, 87, 122, 124, 126]
def strT : List String := ["join", "fee", "fine", "fmn", "yp", "ab"]
def strL : List Nat := [4, 3, 4, 3, 2, 2]
def strB : List (List Int32) := [[106, 111, 105, 110], [102, 101, 101], [102, 105, 110, 101], [102, 109, 110], [121, 112], [97, 98]]
def kaL : List Int32 := [-1, 0, 0, 1, 2, 0]
def OldV (g : GX) (U : State) : Prop := (∀ w ∈ nestW, va_Nw w U) ∧ (va_AO "LionShield$Law" U ∧ va_AO "LionShield$Row" U ∧ va_AO "LionShield$Slot" U) ∧ ∀ i, i < 6 → vk_R RX2 (strK.getD i 0) (strT.getD i "") (gK g i) U
def OldH (g : GX) (U : State) (H : Heap) : Prop := (va_Z "LionShield" "KIND_ABOVE" "[I" (.ref (gT g)) (gF g) U H ∧ va_T .int (gT g) 6 (fun j => .int (kaL.getD j 0)) (gF g) U H) ∧ vk_S 6 strL strB (gK g) (gV g) (gF g) U H ∧ va_Z "java/lang/String" "COMPACT_STRINGS" "Z" (.int 1) (gF g) U H ∧ va_Zq "jdk/internal/util/Preconditions" "SIOOBE_FORMATTER" "Ljava/util/function/BiFunction;" (gF g) U H
theorem nestW_m : ∀ w ∈ nestW, ∃ (a : String) (i : Nat) (x : MethodName) (h : String), w = .methodLinkNest a i x h := by
  intro w hw
  simp only [nestW, List.mem_cons, List.not_mem_nil, or_false] at hw
  rcases hw with h | h | h | h | h | h | h | h | h | h <;> exact ⟨_, _, _, _, h⟩
theorem OldV.warm {g : GX} {s U : State} (hW : s.WarmedH U.vm) (h : OldV g s) : OldV g U := by
  refine ⟨fun w hw => ?_, ⟨va_AO.moved hW.alike h.2.1.1, va_AO.moved hW.alike h.2.1.2.1, va_AO.moved hW.alike h.2.1.2.2⟩, fun i hi => (h.2.2 i hi).warm hW⟩
  obtain ⟨a, i, x, k, e⟩ := nestW_m w hw
  have h1 := h.1 w hw
  rw [e] at h1 ⊢
  exact va_Nw.warmM hW h1
theorem OldV.same {g : GX} {u U : State} (hv : U.vm = u.vm) (h : OldV g u) : OldV g U := by
  refine ⟨fun w hw => ?_, ⟨va_AO.moved (by rw [hv]; exact Vm.Alike.refl _) h.2.1.1, va_AO.moved (by rw [hv]; exact Vm.Alike.refl _) h.2.1.2.1, va_AO.moved (by rw [hv]; exact Vm.Alike.refl _) h.2.1.2.2⟩, fun i hi => (h.2.2 i hi).same hv⟩
  obtain ⟨a, i, x, k, e⟩ := nestW_m w hw
  have h1 := h.1 w hw
  rw [e] at h1 ⊢
  exact va_Nw.same rfl hv.symm h1
theorem OldH.moved {g : GX} {u U : State} {H : Heap} (hvm : u.vm.Alike U.vm) (h : OldH g u H) : OldH g U H := ⟨⟨va_Z.moved hvm h.1.1, va_T.moved hvm h.1.2⟩, vk_S.moved hvm h.2.1, va_Z.moved hvm h.2.2.1, va_Zq.moved hvm h.2.2.2⟩
theorem OldH.kept {g : GX} {U : State} {H H1 : Heap} (h : OldH g U H) (hq : ∀ a : Nat, a < H.size → ¬ gF g a → H1[a]? = H[a]?) : OldH g U H1 := ⟨⟨h.1.1.kept hq, h.1.2.kept hq⟩, h.2.1.kept hq, h.2.2.1.kept hq, h.2.2.2.kept hq⟩
/-- the world behind a method, and ahead of it -/
def AtQ (g : GX) (N : Nat) (ln : Nat → Nat) (S : HC) (U : State) : Prop := (va_K (gD g) vwCl (tyL (gA g)) U ∧ va_P (gD g) vwCl (wl (gz g) (gA g) N ln S) U.heap) ∧ U.heap.size = gz g + N ∧ WT N S
def AtP (g : GX) (N : Nat) (ln : Nat → Nat) (S : HC) (U : State) : Prop := AtQ g N ln S U ∧ OldV g U ∧ OldH g U U.heap
/-- the world within a method that began at s -/
def Inv (g : GX) (N : Nat) (ln : Nat → Nat) (S : HC) (s : State) (H : Heap) (locs : List Loc) : Prop := (va_K (gD g) vwCl (tyL (gA g)) s ∧ va_P (gD g) vwCl (wl (gz g) (gA g) N ln S) H) ∧ (H.size = gz g + N ∧ WT N S) ∧ (OldV g s ∧ OldH g s s.heap ∧ gz g ≤ s.heap.size) ∧ va_S (gF g) s.heap H locs
theorem Inv.K {g : GX} {N : Nat} {ln : Nat → Nat} {S : HC} {s : State} {H : Heap} {locs : List Loc} (h : Inv g N ln S s H locs) : va_K (gD g) vwCl (tyL (gA g)) s := h.1.1
theorem Inv.P {g : GX} {N : Nat} {ln : Nat → Nat} {S : HC} {s : State} {H : Heap} {locs : List Loc} (h : Inv g N ln S s H locs) : va_P (gD g) vwCl (wl (gz g) (gA g) N ln S) H := h.1.2
theorem Inv.sz {g : GX} {N : Nat} {ln : Nat → Nat} {S : HC} {s : State} {H : Heap} {locs : List Loc} (h : Inv g N ln S s H locs) : H.size = gz g + N := h.2.1.1
theorem Inv.T {g : GX} {N : Nat} {ln : Nat → Nat} {S : HC} {s : State} {H : Heap} {locs : List Loc} (h : Inv g N ln S s H locs) : WT N S := h.2.1.2
theorem Inv.S {g : GX} {N : Nat} {ln : Nat → Nat} {S : HC} {s : State} {H : Heap} {locs : List Loc} (h : Inv g N ln S s H locs) : va_S (gF g) s.heap H locs := h.2.2.2
theorem Inv.at {g : GX} {N : Nat} {ln : Nat → Nat} {S : HC} {s : State} {H : Heap} {locs : List Loc} (h : Inv g N ln S s H locs) {r k b c f : Nat} (hr : r < N) (hk : kd r = c) (hf : fk c k = f) (h9 : f ≠ 99) (hb : hR S r k = some b) : b < N ∧ kd b = f := h.T.at hr hk hf h9 hb
theorem Inv.of {g : GX} {N : Nat} {ln : Nat → Nat} {S : HC} {s : State} (h : AtP g N ln S s) : Inv g N ln S s s.heap [] := ⟨h.1.1, h.1.2, ⟨h.2.1, h.2.2, by have := h.1.2.1; omega⟩, va_S.rf⟩
/-- ahead of a call: the world as the callee finds it -/
theorem Inv.atP {g : GX} {N : Nat} {ln : Nat → Nat} {S : HC} {s U : State} {H : Heap} {locs : List Loc} (h : Inv g N ln S s H locs) (hU : U.heap = H) (hW : s.WarmedH U.vm) : AtP g N ln S U := by
  refine ⟨⟨⟨va_K.moved hW.alike h.K, by rw [hU]; exact h.P⟩, by rw [hU]; exact h.sz, h.T⟩, h.2.2.1.1.warm hW, ?_⟩
  rw [hU]
  exact (OldH.moved hW.alike h.2.2.1.2.1).kept (fun a h1 h2 => h.S.2.1 a h1 h2)
theorem AtP.blind {g : GX} {N : Nat} {ln : Nat → Nat} {S : HC} {av : List Value} : FrameBlind (va_Pc av (AtP g N ln S)) := by
  intro a U f mk h
  obtain ⟨h0, ⟨⟨h1, h2⟩, h3⟩, h4, h5⟩ := h
  exact ⟨h0, ⟨⟨va_K.moved (u := U) (U := U.calling f mk a) (Vm.Alike.refl U.vm) h1, h2⟩, h3⟩, OldV.same (u := U) (U := U.calling f mk a) rfl h4, OldH.moved (u := U) (U := U.calling f mk a) (Vm.Alike.refl U.vm) h5⟩
/-- behind a call -/
theorem Inv.back {g : GX} {N N' : Nat} {ln ln' : Nat → Nat} {S S' : HC} {s t : State} {H H1 : Heap} {locs locs1 : List Loc} (h : Inv g N ln S s H locs) (hB : AtQ g N' ln' S' t) (ht : t.heap = H1) (hvm : s.vm.Alike t.vm) (hS : va_S (gF g) s.heap H1 locs1) : Inv g N' ln' S' s H1 locs1 :=
  ⟨⟨va_K.moved hvm.symm hB.1.1, by rw [← ht]; exact hB.1.2⟩, ⟨by rw [← ht]; exact hB.2.1, hB.2.2⟩, h.2.2.1, hS⟩
/-- at a return -/
theorem Inv.atQ {g : GX} {N : Nat} {ln : Nat → Nat} {S : HC} {s t : State} {H : Heap} {locs : List Loc} (h : Inv g N ln S s H locs) (ht : t.heap = H) (hW : s.WarmedH t.vm) : AtQ g N ln S t := ⟨⟨va_K.moved hW.alike h.K, by rw [ht]; exact h.P⟩, by rw [ht]; exact h.sz, h.T⟩
/-- behind a write -/
theorem Inv.wr {g : GX} {N : Nat} {ln : Nat → Nat} {S S' : HC} {s : State} {H H1 : Heap} {locs locs1 : List Loc} (h : Inv g N ln S s H locs) (hP : va_P (gD g) vwCl (wl (gz g) (gA g) N ln S') H1) (hT : WT N S') (hz : H1.size = H.size) (hS : va_S (gF g) s.heap H1 locs1) : Inv g N ln S' s H1 locs1 := ⟨⟨h.K, hP⟩, ⟨hz.trans h.sz, hT⟩, h.2.2.1, hS⟩
end
section
/-! ROWS: an instruction, what the pure predicate says of it, and the machine's step -/
def lt_ {α : Type} (v : α) (K : α → Prop) : Prop := K v
/-- a reference that must be there -/
def dn_ (o : Option Nat) (K : Nat → Prop) : Prop := ∃ b, o = some b ∧ K b
/-- a reference that may be null -/
def cO_ (o : Option Nat) (A : Prop) (B : Nat → Prop) : Prop := (o = none → A) ∧ ∀ b, o = some b → B b
/-- reading and writing a place of an array -/
def al_ {α : Type} (n : Nat) (i : Int32) (f : Nat → α) (K : α → Prop) : Prop := vp_in i n ∧ K (f i.toNatClampNeg)
def as_ (n : Nat) (i : Int32) (f : Nat → HC) (K : HC → Prop) : Prop := vp_in i n ∧ K (f i.toNatClampNeg)
def ne_ (y : Int32) (K : Prop) : Prop := ¬ y = 0 ∧ K
/-- a field, by the class that names it and the place there: class, place, type, final -/
def fldOK (own : String) (idx ci k : Nat) (fty : FieldType) (fin : Bool) : Prop := ∃ (C : String) (T : u_T) (n : Nat) (ty : Nat → FieldType), (vwCl[ci]? = some (C, T, n) ∧ (∀ w ∈ u_ws C T n, w ∈ gtbl) ∧ k < n ∧ nf ci = n ∧ ci < 9) ∧ Cond.fieldLink own idx (T k).1 (T k).2.1 (T k).2.2.1 ∈ gtbl ∧ ((∀ k, k < n → parseFieldDescriptor (T k).2.2.1 = some (ty k)) ∧ (∀ a, a < n → ∀ b, b < n → a ≠ b → (T a).2.1 ≠ (T b).2.1)) ∧ parseFieldDescriptor (T k).2.2.1 = some fty ∧ (T k).2.2.2 = fin ∧ (T k).1 = C
/-- a class that is made -/
def clsOK (own : String) (idx ci n : Nat) : Prop := ∃ (C : String) (T : u_T) (ty : Nat → FieldType), (vwCl[ci]? = some (C, T, n) ∧ (∀ w ∈ u_ws C T n, w ∈ gtbl) ∧ nf ci = n ∧ ci < 9) ∧ (∀ k, k < n → parseFieldDescriptor (T k).2.2.1 = some (ty k)) ∧ (∀ k, k < n → defaultValue (ty k) = if fk ci k = 99 then .int 0 else .null) ∧ Cond.classLink own idx C ∈ gtbl ∧ Cond.instantiable C n ∈ gtbl ∧ Cond.initialized C ∈ gtbl
/-- a method that is called -/
def mthOK (own : String) (idx : Nat) (C : String) (y : MethodName) (bytes : ByteArray) (mL : Nat) (ret : Option FieldType) (n : Nat) : Prop := (Cond.methodLink own idx y ∈ gtbl ∧ Cond.initialized y.cls ∈ gtbl ∧ Cond.code y bytes mL ret ∈ gtbl) ∧ y.cls = C ∧ y.cls ≠ "java/lang/invoke/MethodHandle" ∧ y.cls ≠ "java/lang/invoke/VarHandle" ∧ (parseMethodDescriptor y.desc).map (fun d => d.parameters.length) = some n
theorem good_in {y : MethodName} {cc : ByteArray} {n : Nat} {r : Option FieldType} (h : Cond.code y cc n r ∈ gtbl) : GoodIn gtbl (Cond.code y cc n r :: gtbl) := fun w hw => by
  have h2 : w ∈ gtbl := (List.mem_cons.mp hw).elim (fun e => e ▸ h) id
  exact ⟨h2, good_of_word (gtbl_good h2)⟩
theorem wl_eq {z0 N r : Nat} {cA : Nat → ClassId} {ln : Nat → Nat} {S : HC} {e : va_E} (hr : r < N) (he : ce z0 cA ln S r = e) : (wl z0 cA N ln S)[r]? = some (z0 + r, e) := by rw [wl_at hr, he]
theorem Inv.wr2 {g : GX} {N : Nat} {ln : Nat → Nat} {S S' : HC} {s : State} {H H1 : Heap} {locs : List Loc} (I : Inv g N ln S s H locs) {r k : Nat} (hr : r < N) (hat : va_at (gD g) vwCl (gz g + r, ce (gz g) (gA g) ln S' r) H1) (hz : H1.size = H.size) (oq : ∀ q, q ≠ gz g + r → H1[q]? = H[q]?) (hce : ∀ a, a ≠ r → ce (gz g) (gA g) ln S' a = ce (gz g) (gA g) ln S a) (hT : WT N S') : Inv g N ln S' s H1 (locs ++ [⟨gz g + r, k⟩]) := by
  refine I.wr (fun j q hj => ?_) hT hz (I.S.put hz oq (Nat.le_add_right _ _))
  obtain ⟨h1, h2⟩ := wl_in hj
  subst h2
  by_cases e : j = r
  · subst e; exact hat
  · have h3 := I.P j _ (wl_at h1)
    rw [hce j e]
    exact h3.kept (oq _ (by simp only; omega))
section RW
variable {p : Program} {l : Launch} {e : Env} {R : Room} {s : State} {m : MethodId} {args : Array Value} {below : List Frame} {meth : Method} {c : Code} {H : Heap} {locs : List Loc} {cells slots : Nat} {Q : State → Prop}
variable {cc : ByteArray} {pc nL : Nat} {ls : Array Slot} {rest : List Value} {own : String}
variable {g : GX} {N : Nat} {ln : Nat → Nat} {S : HC}
theorem r_getI (F : CallFix p m c cc nL s args gtbl own) (I : Inv g N ln S s H locs) {r idx ci k : Nat} {fty : FieldType} {fin : Bool} (hr : r < N) (hk : kd r = ci) (ff : fldOK own idx ci k fty fin) (hf : fk ci k = 99) (hdg : decode cc pc = .ok (.getfield idx, 3)) {K : Int32 → Prop} (h : lt_ (hI S r k) K)
    (kk : ∀ v, K v → W p l e R s m args below meth c H locs cells slots Q (F0 m (pc + 3) ls (.int v :: rest))) : W p l e R s m args below meth c H locs cells slots Q (F0 m pc ls (.ref (gz g + r) :: rest)) := by
  obtain ⟨C, T, n, ty, ⟨hc, hin, hkn, hn, h9⟩, hl, -, -, -, -⟩ := ff
  refine va_get (D := gD g) (ci := ci) (v := .int (hI S r k)) (C := C) (T := T) (N := n) (ref := (T k).1) F.1 F.2.1 F.2.2.2.2 hin F.2.2.2.1 I.K I.P r (wl_eq hr (ce_o hk h9)) hc k hkn (F.2.2.2.2 _ hl) (fun _ h9 => h9) ?_ hdg (kk _ h)
  rw [fl_at (by omega), fv, if_pos hf]
theorem r_getN (F : CallFix p m c cc nL s args gtbl own) (I : Inv g N ln S s H locs) {r idx ci k f : Nat} {fty : FieldType} {fin : Bool} (hr : r < N) (hk : kd r = ci) (ff : fldOK own idx ci k fty fin) (hf : fk ci k = f) (hf9 : f ≠ 99) (hdg : decode cc pc = .ok (.getfield idx, 3)) {K : Nat → Prop} (h : dn_ (hR S r k) K)
    (kk : ∀ b, b < N → kd b = f → K b → W p l e R s m args below meth c H locs cells slots Q (F0 m (pc + 3) ls (.ref (gz g + b) :: rest))) : W p l e R s m args below meth c H locs cells slots Q (F0 m pc ls (.ref (gz g + r) :: rest)) := by
  obtain ⟨b, hb, h⟩ := h
  obtain ⟨h1, h2⟩ := I.at hr hk hf hf9 hb
  obtain ⟨C, T, n, ty, ⟨hc, hin, hkn, hn, h9⟩, hl, -, -, -, -⟩ := ff
  refine va_get (D := gD g) (ci := ci) (v := .ref (gz g + b)) (C := C) (T := T) (N := n) (ref := (T k).1) F.1 F.2.1 F.2.2.2.2 hin F.2.2.2.1 I.K I.P r (wl_eq hr (ce_o hk h9)) hc k hkn (F.2.2.2.2 _ hl) (fun _ h9 => h9) ?_ hdg (kk b h1 h2 h)
  rw [fl_at (by omega), fv, if_neg (by omega), hb]; rfl
theorem r_getO (F : CallFix p m c cc nL s args gtbl own) (I : Inv g N ln S s H locs) {r idx ci k f : Nat} {fty : FieldType} {fin : Bool} (hr : r < N) (hk : kd r = ci) (ff : fldOK own idx ci k fty fin) (hf : fk ci k = f) (hf9 : f ≠ 99) (hdg : decode cc pc = .ok (.getfield idx, 3)) {K : Option Nat → Prop} (h : lt_ (hR S r k) K)
    (kk : ∀ o : Option Nat, (∀ b, o = some b → b < N ∧ kd b = f) → K o → W p l e R s m args below meth c H locs cells slots Q (F0 m (pc + 3) ls (va_rf (o.map (gz g + ·)) :: rest))) : W p l e R s m args below meth c H locs cells slots Q (F0 m pc ls (.ref (gz g + r) :: rest)) := by
  obtain ⟨C, T, n, ty, ⟨hc, hin, hkn, hn, h9⟩, hl, -, -, -, -⟩ := ff
  refine va_get (D := gD g) (ci := ci) (v := va_rf ((hR S r k).map (gz g + ·))) (C := C) (T := T) (N := n) (ref := (T k).1) F.1 F.2.1 F.2.2.2.2 hin F.2.2.2.1 I.K I.P r (wl_eq hr (ce_o hk h9)) hc k hkn (F.2.2.2.2 _ hl) (fun _ h9 => h9) ?_ hdg (kk _ (fun b hb => I.at hr hk hf hf9 hb) h)
  rw [fl_at (by omega), fv, if_neg (by omega)]
/-- a write of a field, any value -/
theorem r_put0 (F : CallFix p m c cc nL s args gtbl own) (I : Inv g N ln S s H locs) {r idx ci k : Nat} {fty : FieldType} {fin : Bool} (hr : r < N) (hk : kd r = ci) (ff : fldOK own idx ci k fty fin) (hF : fin = false ∨ (meth.name = "<init>" ∧ vwCl[ci]?.map (fun q => q.1) = some own)) {v : Value} (hn : narrow fty v = v) (hfit : fits fty v = true) {S' : HC} (hv : v = fv (gz g) S' r ci k) (ho : ∀ j, j ≠ k → fv (gz g) S' r ci j = fv (gz g) S r ci j) (hce : ∀ a, a ≠ r → ce (gz g) (gA g) ln S' a = ce (gz g) (gA g) ln S a) (hT : WT N S') (hdg : decode cc pc = .ok (.putfield idx, 3))
    (kk : ∀ (H1 : Heap) (locs1 : List Loc), Inv g N ln S' s H1 locs1 → W p l e R s m args below meth c H1 locs1 cells slots Q (F0 m (pc + 3) ls rest)) : W p l e R s m args below meth c H locs cells slots Q (F0 m pc ls (v :: .ref (gz g + r) :: rest)) := by
  obtain ⟨C, T, n, ty, ⟨hc, hin, hkn, hnn, h9⟩, hl, ⟨hty, hnm⟩, hd, hfin, hdecl⟩ := ff
  obtain ⟨hx, hb, -, hown, hts⟩ := F
  have hap := va_apart (own := own) hts hin ty hty hnm I.K hc
  obtain ⟨q, hq1, cell, q1, q2, q3, q4⟩ := I.P r _ (wl_eq hr (ce_o hk h9))
  have hq : q = (C, T, n) := Option.some.inj (hq1.symm.trans hc)
  subst hq
  obtain ⟨hS, hfc, kC, hkC, hkind⟩ := I.K.1 ci _ hc
  obtain ⟨cf, kf, fi, f, hi, hsl⟩ := hS k hkn
  have hst := (u_facts hfc hkC (u_lays hts hin hkn) hi).1
  have fin2 : ∀ (H1 : Heap) (locs1 : List Loc), H1[gz g + r]? = some (cell.setSlot f.slot v) → H1.size = H.size → (∀ q, q ≠ gz g + r → H1[q]? = H[q]?) → Inv g N ln S' s H1 (locs ++ [⟨gz g + r, f.slot⟩]) := by
    intro H1 locs1 e1 e2 e3
    refine I.wr2 hr ?_ e2 e3 hce hT
    rw [ce_o hk h9]
    refine ⟨_, hc, ?_⟩
    rw [hsl] at e1
    refine t_OB.to (V := updV (vp_V (fl (gz g) S r ci)) k v) ⟨_, e1, q2, q3, t_set q4 hap hkn v⟩ (fun j hj => ?_)
    rw [vp_updV_set (by rw [fl_len]; omega), fl_set (by omega) hv ho]
  have hlay := hts _ (hin _ (u_in_lay hkn))
  unfold u_lay at hlay
  cases hfin2 : fin with
  | false =>
    rw [hfin2] at hfin
    rw [if_neg (by rw [hfin]; decide)] at hlay
    have h6 := u_store hfc hkC hkind hlay hi hd hn hfit
    exact W.putK hx hb (f := f) ⟨hown, hts _ hl, ⟨_, _, _, hi⟩, hst⟩ (by rw [q2]; exact h6) q1 q3 (by rw [hsl]; exact k2_hasslot (q4 k hkn)) rfl rfl hdg fun H1 e1 e2 e3 => kk H1 _ (fin2 H1 [] e1 e2 e3)
  | true =>
    rw [hfin2] at hfin hF
    rcases hF with hF | ⟨hin2, hcl⟩
    · cases hF
    rw [hc] at hcl
    have hCo : C = own := Option.some.inj hcl
    rw [if_pos hfin] at hlay
    have hcf : m.cls = cf := by
      obtain ⟨_, _, c', _, _, _, -, -, hf', -, -, -, hown2, -⟩ := Cond.laysFinal_spec hlay
      have e1 : c' = cf := by have := hi.symm.trans hf'; simp at this; exact this.1.symm
      rw [hdecl, hCo] at hown2
      rw [← e1]; exact Option.some.inj (hown.symm.trans hown2)
    have h6 := u_fits hfc hkC hkind (Or.inr hlay) hi hd hn hfit
    exact W.putFinK hx hb hown (hts _ hl) hi hst hcf hin2 (by rw [q2]; exact h6) q1 q3 (by rw [hsl]; exact k2_hasslot (q4 k hkn)) rfl rfl hdg fun H1 e1 e2 e3 => kk H1 _ (fin2 H1 [] e1 e2 e3)
theorem r_putI (F : CallFix p m c cc nL s args gtbl own) (I : Inv g N ln S s H locs) {r idx ci k : Nat} {fty : FieldType} {fin : Bool} (hr : r < N) (hk : kd r = ci) (ff : fldOK own idx ci k fty fin) (hf : fk ci k = 99) (hF : fin = false ∨ (meth.name = "<init>" ∧ vwCl[ci]?.map (fun q => q.1) = some own)) {v : Int32} (hn : narrow fty (.int v) = .int v ∧ fits fty (.int v) = true) (hdg : decode cc pc = .ok (.putfield idx, 3)) {K : HC → Prop} (h : lt_ (sI S r k v) K)
    (kk : ∀ (S1 : HC) (H1 : Heap) (locs1 : List Loc), Inv g N ln S1 s H1 locs1 → K S1 → W p l e R s m args below meth c H1 locs1 cells slots Q (F0 m (pc + 3) ls rest)) : W p l e R s m args below meth c H locs cells slots Q (F0 m pc ls (.int v :: .ref (gz g + r) :: rest)) := by
  refine r_put0 (S' := sI S r k v) F I hr hk ff hF hn.1 hn.2 ?_ ?_ ce_sI (I.T.sI r k v) hdg (fun H1 locs1 I1 => kk _ H1 locs1 I1 h)
  · rw [fv, if_pos hf]; simp [hI, sI, up2]
  · intro j hj; simp only [fv]; simp [hI, hR, sI, up2, hj]
theorem r_putO (F : CallFix p m c cc nL s args gtbl own) (I : Inv g N ln S s H locs) {r idx ci k f : Nat} {fty : FieldType} {fin : Bool} (hr : r < N) (hk : kd r = ci) (ff : fldOK own idx ci k fty fin) (hf : fk ci k = f) (hf9 : f ≠ 99) (hF : fin = false ∨ (meth.name = "<init>" ∧ vwCl[ci]?.map (fun q => q.1) = some own)) {o : Option Nat} (ho : ∀ b, o = some b → b < N ∧ kd b = f) (hn : ∀ a : Nat, (narrow fty (.ref a) = .ref a ∧ fits fty (.ref a) = true) ∧ narrow fty .null = .null ∧ fits fty .null = true) (hdg : decode cc pc = .ok (.putfield idx, 3)) {K : HC → Prop} (h : lt_ (sR S r k o) K)
    (kk : ∀ (S1 : HC) (H1 : Heap) (locs1 : List Loc), Inv g N ln S1 s H1 locs1 → K S1 → W p l e R s m args below meth c H1 locs1 cells slots Q (F0 m (pc + 3) ls rest)) : W p l e R s m args below meth c H locs cells slots Q (F0 m pc ls (va_rf (o.map (gz g + ·)) :: .ref (gz g + r) :: rest)) := by
  refine r_put0 (S' := sR S r k o) F I hr hk ff hF ?_ ?_ ?_ ?_ ce_sR (I.T.sR (fun b hb => by rw [hk, hf]; exact ho b hb)) hdg (fun H1 locs1 I1 => kk _ H1 locs1 I1 h)
  · cases o with
    | none => exact (hn 0).2.1
    | some b => exact (hn _).1.1
  · cases o with
    | none => exact (hn 0).2.2
    | some b => exact (hn _).1.2
  · rw [fv, if_neg (by omega)]; simp [hR, sR, up2]
  · intro j hj; simp only [fv]; simp [hI, hR, sR, up2, hj]
theorem r_putN (F : CallFix p m c cc nL s args gtbl own) (I : Inv g N ln S s H locs) {r idx ci k f b : Nat} {fty : FieldType} {fin : Bool} (hr : r < N) (hk : kd r = ci) (ff : fldOK own idx ci k fty fin) (hf : fk ci k = f) (hf9 : f ≠ 99) (hF : fin = false ∨ (meth.name = "<init>" ∧ vwCl[ci]?.map (fun q => q.1) = some own)) (hb : b < N) (hkb : kd b = f) (hn : ∀ a : Nat, (narrow fty (.ref a) = .ref a ∧ fits fty (.ref a) = true) ∧ narrow fty .null = .null ∧ fits fty .null = true) (hdg : decode cc pc = .ok (.putfield idx, 3)) {K : HC → Prop} (h : lt_ (sR S r k (some b)) K)
    (kk : ∀ (S1 : HC) (H1 : Heap) (locs1 : List Loc), Inv g N ln S1 s H1 locs1 → K S1 → W p l e R s m args below meth c H1 locs1 cells slots Q (F0 m (pc + 3) ls rest)) : W p l e R s m args below meth c H locs cells slots Q (F0 m pc ls (.ref (gz g + b) :: .ref (gz g + r) :: rest)) :=
  r_putO (o := some b) F I hr hk ff hf hf9 hF (fun b' e => by cases e; exact ⟨hb, hkb⟩) hn hdg h kk
theorem r_putNul (F : CallFix p m c cc nL s args gtbl own) (I : Inv g N ln S s H locs) {r idx ci k f : Nat} {fty : FieldType} {fin : Bool} (hr : r < N) (hk : kd r = ci) (ff : fldOK own idx ci k fty fin) (hf : fk ci k = f) (hf9 : f ≠ 99) (hF : fin = false ∨ (meth.name = "<init>" ∧ vwCl[ci]?.map (fun q => q.1) = some own)) (hn : ∀ a : Nat, (narrow fty (.ref a) = .ref a ∧ fits fty (.ref a) = true) ∧ narrow fty .null = .null ∧ fits fty .null = true) (hdg : decode cc pc = .ok (.putfield idx, 3)) {K : HC → Prop} (h : lt_ (sR S r k none) K)
    (kk : ∀ (S1 : HC) (H1 : Heap) (locs1 : List Loc), Inv g N ln S1 s H1 locs1 → K S1 → W p l e R s m args below meth c H1 locs1 cells slots Q (F0 m (pc + 3) ls rest)) : W p l e R s m args below meth c H locs cells slots Q (F0 m pc ls (.null :: .ref (gz g + r) :: rest)) :=
  r_putO (o := none) F I hr hk ff hf hf9 hF (fun b' e => by cases e) hn hdg h kk
theorem r_ald (F : CallFix p m c cc nL s args gtbl own) (I : Inv g N ln S s H locs) {r : Nat} (hr : r < N) (hk : kd r = 9) (hdg : decode cc pc = .ok (.iaload, 1)) {i : Int32} {K : Int32 → Prop} (h : al_ (ln r) i (hI S r) K)
    (kk : ∀ v, K v → W p l e R s m args below meth c H locs cells slots Q (F0 m (pc + 1) ls (.int v :: rest))) : W p l e R s m args below meth c H locs cells slots Q (F0 m pc ls (.int i :: .ref (gz g + r) :: rest)) :=
  va_iald F.1 F.2.1 I.K I.P r 0 (wl_eq hr (ce_i hk (Or.inl rfl))) rfl h.1 hdg (kk _ h.2)
theorem r_zald (F : CallFix p m c cc nL s args gtbl own) (I : Inv g N ln S s H locs) {r : Nat} (hr : r < N) (hk : kd r = 11) (hdg : decode cc pc = .ok (.baload, 1)) {i : Int32} {K : Int32 → Prop} (h : al_ (ln r) i (hI S r) K)
    (kk : ∀ v, K v → W p l e R s m args below meth c H locs cells slots Q (F0 m (pc + 1) ls (.int v :: rest))) : W p l e R s m args below meth c H locs cells slots Q (F0 m pc ls (.int i :: .ref (gz g + r) :: rest)) :=
  va_zald F.1 F.2.1 I.K I.P r 2 (wl_eq hr (ce_i hk (Or.inr (Or.inl rfl)))) rfl h.1 hdg (kk _ h.2)
theorem r_cald (F : CallFix p m c cc nL s args gtbl own) (I : Inv g N ln S s H locs) {r : Nat} (hr : r < N) (hk : kd r = 12) (hdg : decode cc pc = .ok (.caload, 1)) {i : Int32} {K : Int32 → Prop} (h : al_ (ln r) i (hI S r) K)
    (kk : ∀ v, K v → W p l e R s m args below meth c H locs cells slots Q (F0 m (pc + 1) ls (.int v :: rest))) : W p l e R s m args below meth c H locs cells slots Q (F0 m pc ls (.int i :: .ref (gz g + r) :: rest)) :=
  va_cald F.1 F.2.1 I.K I.P r 3 (wl_eq hr (ce_i hk (Or.inr (Or.inr rfl)))) rfl h.1 hdg (kk _ h.2)
theorem r_lald (F : CallFix p m c cc nL s args gtbl own) (I : Inv g N ln S s H locs) {r : Nat} (hr : r < N) (hk : kd r = 10) (hdg : decode cc pc = .ok (.laload, 1)) {i : Int32} {K : Int64 → Prop} (h : al_ (ln r) i (hJ S r) K)
    (kk : ∀ v, K v → W p l e R s m args below meth c H locs cells slots Q (F0 m (pc + 1) ls (.long v :: rest))) : W p l e R s m args below meth c H locs cells slots Q (F0 m pc ls (.int i :: .ref (gz g + r) :: rest)) :=
  va_lald F.1 F.2.1 I.K I.P r 1 (wl_eq hr (ce_j hk)) rfl h.1 hdg (kk _ h.2)
theorem tyL_at {cA : Nat → ClassId} {q : Nat} (h1 : 13 ≤ q) (h2 : q ≤ 15) : ∃ C, (tyL cA)[q - 9]? = some (cA q, .object C) ∧ C = ["LionShield$Law", "LionShield$Row", "LionShield$Slot"].getD (q - 13) "" := by
  rcases (show q = 13 ∨ q = 14 ∨ q = 15 by omega) with rfl | rfl | rfl <;> exact ⟨_, rfl, rfl⟩
theorem r_aldO (F : CallFix p m c cc nL s args gtbl own) (I : Inv g N ln S s H locs) {r q f : Nat} (hr : r < N) (hk : kd r = q) (hq : 13 ≤ q ∧ q ≤ 15) (hf : fk q 0 = f) (hdg : decode cc pc = .ok (.aaload, 1)) {i : Int32} {K : Option Nat → Prop} (h : al_ (ln r) i (hR S r) K)
    (kk : ∀ o : Option Nat, (∀ b, o = some b → b < N ∧ kd b = f) → K o → W p l e R s m args below meth c H locs cells slots Q (F0 m (pc + 1) ls (va_rf (o.map (gz g + ·)) :: rest))) : W p l e R s m args below meth c H locs cells slots Q (F0 m pc ls (.int i :: .ref (gz g + r) :: rest)) := by
  obtain ⟨C, hC, -⟩ := tyL_at (cA := gA g) hq.1 hq.2
  refine va_aldq F.1 F.2.1 I.K I.P r (q - 9) (wl_eq hr (ce_r hk hq.1)) hC h.1 hdg (kk _ (fun b hb => ?_) h.2)
  have e : ∀ j, fk q j = f := by
    intro j
    rcases (show q = 13 ∨ q = 14 ∨ q = 15 by omega) with rfl | rfl | rfl <;> exact hf
  refine I.at hr hk (e _) ?_ hb
  rw [← hf]
  rcases (show q = 13 ∨ q = 14 ∨ q = 15 by omega) with rfl | rfl | rfl <;> decide
theorem r_aldN (F : CallFix p m c cc nL s args gtbl own) (I : Inv g N ln S s H locs) {r q f : Nat} (hr : r < N) (hk : kd r = q) (hq : 13 ≤ q ∧ q ≤ 15) (hf : fk q 0 = f) (hdg : decode cc pc = .ok (.aaload, 1)) {i : Int32} {K : Nat → Prop} (h : al_ (ln r) i (hR S r) (fun o => dn_ o K))
    (kk : ∀ b : Nat, b < N → kd b = f → K b → W p l e R s m args below meth c H locs cells slots Q (F0 m (pc + 1) ls (.ref (gz g + b) :: rest))) : W p l e R s m args below meth c H locs cells slots Q (F0 m pc ls (.int i :: .ref (gz g + r) :: rest)) := by
  refine r_aldO F I hr hk hq hf hdg h (fun o ho h => ?_)
  obtain ⟨b, hb, h⟩ := h
  subst hb
  exact kk b (ho b rfl).1 (ho b rfl).2 h
theorem r_alen (F : CallFix p m c cc nL s args gtbl own) (I : Inv g N ln S s H locs) {r : Nat} (hr : r < N) (hk : kd r = 9) (hdg : decode cc pc = .ok (.arraylength, 1)) {K : Int32 → Prop} (h : lt_ (nI (ln r)) K)
    (kk : ∀ v, K v → W p l e R s m args below meth c H locs cells slots Q (F0 m (pc + 1) ls (.int v :: rest))) : W p l e R s m args below meth c H locs cells slots Q (F0 m pc ls (.ref (gz g + r) :: rest)) :=
  va_alen F.1 F.2.1 I.K I.P r 0 (wl_eq hr (ce_i hk (Or.inl rfl))) rfl (v := nI (ln r)) rfl hdg (kk _ h)
/-- a write of an int place -/
theorem r_ast0 (I : Inv g N ln S s H locs) {r q : Nat} (hr : r < N) (hk : kd r = q) (hq : q = 9 ∨ q = 11 ∨ q = 12) {j : Nat} {x : Int32} {H1 : Heap} (e1 : H1[gz g + r]? = some ((arrV (gA g q) (ln r) (fun j => .int (hI S r j))).setSlot j (.int x))) (e2 : H1.size = H.size) (e3 : ∀ q, q ≠ gz g + r → H1[q]? = H[q]?) : Inv g N ln (sI S r j x) s H1 (locs ++ [⟨gz g + r, j⟩]) := by
  refine I.wr2 hr ?_ e2 e3 ce_sI (I.T.sI r j x)
  rw [ce_i hk hq]
  show H1[gz g + r]? = some (vp_cell _ _)
  rw [vp_cell_i]
  rw [e1, arrV_store]
  congr 2
  funext b
  by_cases hb : b = j
  · subst hb; simp [updV, hI, sI, up2]
  · simp [updV, hI, sI, up2, hb]
theorem r_ast (F : CallFix p m c cc nL s args gtbl own) (I : Inv g N ln S s H locs) {r : Nat} (hr : r < N) (hk : kd r = 9) (hdg : decode cc pc = .ok (.iastore, 1)) {i x : Int32} {K : HC → Prop} (h : as_ (ln r) i (fun j => sI S r j x) K)
    (kk : ∀ (S1 : HC) (H1 : Heap) (locs1 : List Loc), Inv g N ln S1 s H1 locs1 → K S1 → W p l e R s m args below meth c H1 locs1 cells slots Q (F0 m (pc + 1) ls rest)) : W p l e R s m args below meth c H locs cells slots Q (F0 m pc ls (.int x :: .int i :: .ref (gz g + r) :: rest)) := by
  refine W.iast F.1 F.2.1 (I.P r _ (wl_eq hr (ce_i hk (Or.inl rfl)))) ((I.K.2 0 _ rfl).1 (ln r) (fun j => .int (hI S r j))) (fun q => by cases q) (by show ¬ (i < 0 ∨ (arrV _ _ _).slots.size ≤ _); rw [arrV_size]; exact h.1) rfl rfl hdg fun H1 e1 e2 e3 => kk _ H1 _ (r_ast0 I hr hk (Or.inl rfl) e1 e2 e3) h.2
theorem r_zast (F : CallFix p m c cc nL s args gtbl own) (I : Inv g N ln S s H locs) {r : Nat} (hr : r < N) (hk : kd r = 11) (hdg : decode cc pc = .ok (.bastore, 1)) {i x : Int32} {K : HC → Prop} (h : as_ (ln r) i (fun j => sI S r j (vp_nar .boolean x)) K)
    (kk : ∀ (S1 : HC) (H1 : Heap) (locs1 : List Loc), Inv g N ln S1 s H1 locs1 → K S1 → W p l e R s m args below meth c H1 locs1 cells slots Q (F0 m (pc + 1) ls rest)) : W p l e R s m args below meth c H locs cells slots Q (F0 m pc ls (.int x :: .int i :: .ref (gz g + r) :: rest)) := by
  refine W.zast F.1 F.2.1 (I.P r _ (wl_eq hr (ce_i hk (Or.inr (Or.inl rfl))))) ((I.K.2 2 _ rfl).1 (ln r) (fun j => .int (hI S r j))) (fun q => by cases q) (by show ¬ (i < 0 ∨ (arrV _ _ _).slots.size ≤ _); rw [arrV_size]; exact h.1) rfl rfl hdg fun H1 e1 e2 e3 => kk _ H1 _ (r_ast0 I hr hk (Or.inr (Or.inl rfl)) e1 e2 e3) h.2
theorem r_cast (F : CallFix p m c cc nL s args gtbl own) (I : Inv g N ln S s H locs) {r : Nat} (hr : r < N) (hk : kd r = 12) (hdg : decode cc pc = .ok (.castore, 1)) {i x : Int32} {K : HC → Prop} (h : as_ (ln r) i (fun j => sI S r j (vp_nar .char x)) K)
    (kk : ∀ (S1 : HC) (H1 : Heap) (locs1 : List Loc), Inv g N ln S1 s H1 locs1 → K S1 → W p l e R s m args below meth c H1 locs1 cells slots Q (F0 m (pc + 1) ls rest)) : W p l e R s m args below meth c H locs cells slots Q (F0 m pc ls (.int x :: .int i :: .ref (gz g + r) :: rest)) := by
  refine W.cast F.1 F.2.1 (I.P r _ (wl_eq hr (ce_i hk (Or.inr (Or.inr rfl))))) ((I.K.2 3 _ rfl).1 (ln r) (fun j => .int (hI S r j))) (fun q => by cases q) (by show ¬ (i < 0 ∨ (arrV _ _ _).slots.size ≤ _); rw [arrV_size]; exact h.1) rfl rfl hdg fun H1 e1 e2 e3 => kk _ H1 _ (r_ast0 I hr hk (Or.inr (Or.inr rfl)) e1 e2 e3) h.2
theorem r_last (F : CallFix p m c cc nL s args gtbl own) (I : Inv g N ln S s H locs) {r : Nat} (hr : r < N) (hk : kd r = 10) (hdg : decode cc pc = .ok (.lastore, 1)) {i : Int32} {x : Int64} {K : HC → Prop} (h : as_ (ln r) i (fun j => sJ S r j x) K)
    (kk : ∀ (S1 : HC) (H1 : Heap) (locs1 : List Loc), Inv g N ln S1 s H1 locs1 → K S1 → W p l e R s m args below meth c H1 locs1 cells slots Q (F0 m (pc + 1) ls rest)) : W p l e R s m args below meth c H locs cells slots Q (F0 m pc ls (.long x :: .int i :: .ref (gz g + r) :: rest)) := by
  refine W.last F.1 F.2.1 (I.P r _ (wl_eq hr (ce_j hk))) ((I.K.2 1 _ rfl).1 (ln r) (fun j => .long (hJ S r j))) (fun q => by cases q) (by show ¬ (i < 0 ∨ (arrV _ _ _).slots.size ≤ _); rw [arrV_size]; exact h.1) rfl rfl hdg fun H1 e1 e2 e3 => kk _ H1 _ (I.wr2 hr ?_ e2 e3 ce_sJ (I.T.sJ r _ x)) h.2
  rw [ce_j hk]
  show H1[gz g + r]? = some (vp_cell _ _)
  rw [vp_cell_l]
  rw [e1]
  show some ((arrV _ _ _).setSlot _ _) = _
  rw [arrV_store]
  congr 2
  funext b
  by_cases hb : b = i.toNatClampNeg
  · subst hb; simp [updV, hJ, sJ, up2]
  · simp [updV, hJ, sJ, up2, hb]
theorem r_astR0 (I : Inv g N ln S s H locs) {r q f : Nat} (hr : r < N) (hk : kd r = q) (hq : 13 ≤ q ∧ q ≤ 15) (hf : fk q 0 = f) {j : Nat} {o : Option Nat} (ho : ∀ b, o = some b → b < N ∧ kd b = f) {H1 : Heap} (e1 : H1[gz g + r]? = some ((arrV (gA g q) (ln r) (fun j => va_rf ((hR S r j).map (gz g + ·)))).setSlot j (va_rf (o.map (gz g + ·))))) (e2 : H1.size = H.size) (e3 : ∀ q, q ≠ gz g + r → H1[q]? = H[q]?) : Inv g N ln (sR S r j o) s H1 (locs ++ [⟨gz g + r, j⟩]) := by
  have e : ∀ j, fk q j = f := by
    intro j
    rcases (show q = 13 ∨ q = 14 ∨ q = 15 by omega) with rfl | rfl | rfl <;> exact hf
  refine I.wr2 hr ?_ e2 e3 ce_sR (I.T.sR (fun b hb => by rw [hk, e]; exact ho b hb))
  rw [ce_r hk hq.1]
  show H1[gz g + r]? = some (vp_cell _ _)
  rw [vp_cell_q]
  rw [e1, arrV_store]
  congr 2
  funext b
  by_cases hb : b = j
  · subst hb; simp [updV, hR, sR, up2]
  · simp [updV, hR, sR, up2, hb]
theorem r_astO (F : CallFix p m c cc nL s args gtbl own) (I : Inv g N ln S s H locs) {r q f : Nat} (hr : r < N) (hk : kd r = q) (hq : 13 ≤ q ∧ q ≤ 15) (hf : fk q 0 = f) {o : Option Nat} (ho : ∀ b, o = some b → b < N ∧ kd b = f) (hdg : decode cc pc = .ok (.aastore, 1)) {i : Int32} {K : HC → Prop} (h : as_ (ln r) i (fun j => sR S r j o) K)
    (kk : ∀ (S1 : HC) (H1 : Heap) (locs1 : List Loc), Inv g N ln S1 s H1 locs1 → K S1 → W p l e R s m args below meth c H1 locs1 cells slots Q (F0 m (pc + 1) ls rest)) : W p l e R s m args below meth c H locs cells slots Q (F0 m pc ls (va_rf (o.map (gz g + ·)) :: .int i :: .ref (gz g + r) :: rest)) := by
  obtain ⟨C, hC, hCn⟩ := tyL_at (cA := gA g) hq.1 hq.2
  have hcell : H[gz g + r]? = some (arrV (gA g q) (ln r) (fun j => va_rf ((hR S r j).map (gz g + ·)))) := I.P r _ (wl_eq hr (ce_r hk hq.1))
  cases o with
  | none =>
    refine va_WaastN (C := C) F.1 F.2.1 hcell ((I.K.2 (q - 9) _ hC).1 (ln r) _) (fun h => by cases h) (by show ¬ (i < 0 ∨ (arrV _ _ _).slots.size ≤ _); rw [arrV_size]; exact h.1) rfl rfl hdg fun H1 e1 e2 e3 => kk _ H1 _ (r_astR0 I hr hk hq hf (o := none) ho e1 e2 e3) h.2
  | some b =>
    obtain ⟨hbN, hkb⟩ := ho b rfl
    have hlt : i.toNatClampNeg < ln r := Nat.not_le.mp fun q => h.1 (Or.inr q)
    have h0 : ¬ i < 0 := fun q => h.1 (Or.inl q)
    have hcl : ∃ n T, vwCl[f]? = some (C, T, n) ∧ f < 9 := by
      rw [hCn, ← hf]
      rcases (show q = 13 ∨ q = 14 ∨ q = 15 by omega) with rfl | rfl | rfl <;> exact ⟨_, _, rfl, by decide⟩
    obtain ⟨n, T, hc, h9⟩ := hcl
    obtain ⟨r', hr', cellV, g1, g2, g3, -⟩ := I.P b _ (wl_eq hbN (ce_o hkb h9))
    have hcls := (I.K.1 f _ hc).2
    obtain ⟨kA, comp, k1, k2, k3, -⟩ := (I.K.2 (q - 9) _ hC).2
    have hcomp : comp = (gD g).1 f := Option.some.inj (k3.symm.trans hcls.1)
    subst hcomp
    obtain ⟨kC, hkC, -⟩ := hcls.2
    refine W.aast F.1 F.2.1 hcell (fun q h => by cases h) (fun h => by cases h) k1 k2 rfl hkC ⟨h0, by show _ < (arrV _ _ _).slots.size; rw [arrV_size]; exact hlt⟩ g1 (fun q h => by rw [g3] at h; cases h) (by rw [g2]; exact hkC) (by rw [g2]; exact va_assign hcls) rfl rfl hdg fun H1 e1 e2 e3 => kk _ H1 _ (r_astR0 I hr hk hq hf (o := some b) ho e1 e2 e3) h.2
theorem r_astN (F : CallFix p m c cc nL s args gtbl own) (I : Inv g N ln S s H locs) {r q f b : Nat} (hr : r < N) (hk : kd r = q) (hq : 13 ≤ q ∧ q ≤ 15) (hf : fk q 0 = f) (hb : b < N) (hkb : kd b = f) (hdg : decode cc pc = .ok (.aastore, 1)) {i : Int32} {K : HC → Prop} (h : as_ (ln r) i (fun j => sR S r j (some b)) K)
    (kk : ∀ (S1 : HC) (H1 : Heap) (locs1 : List Loc), Inv g N ln S1 s H1 locs1 → K S1 → W p l e R s m args below meth c H1 locs1 cells slots Q (F0 m (pc + 1) ls rest)) : W p l e R s m args below meth c H locs cells slots Q (F0 m pc ls (.ref (gz g + b) :: .int i :: .ref (gz g + r) :: rest)) :=
  r_astO (o := some b) F I hr hk hq hf (fun b' e => by cases e; exact ⟨hb, hkb⟩) hdg h kk
end RW
end
section
/-! ROWS, the second text: numbers, branches, entry and end of a method, calls, new cells -/
def rb_ (ty : FieldType) (v : Int32) (K : Prop) : Prop := narrow ty (.int v) = .int v ∧ K
theorem lt_x {α : Type} {v : α} {K : α → Prop} (h : lt_ v K) : ∃ z, z = v ∧ K z := ⟨v, rfl, h⟩
section RX
variable {p : Program} {l : Launch} {e : Env} {R : Room} {s : State} {m : MethodId} {args : Array Value} {below : List Frame} {meth : Method} {c : Code} {H : Heap} {locs : List Loc} {cells slots : Nat} {Q : State → Prop}
variable {cc : ByteArray} {pc nL : Nat} {ls : Array Slot} {rest : List Value} {own : String}
variable {g : GX} {N : Nat} {ln : Nat → Nat} {S : HC}
theorem r_iadd (F : CallFix p m c cc nL s args gtbl own) {x y : Int32} (hdg : decode cc pc = .ok (.iadd, 1)) {K : Int32 → Prop} (h : lt_ (x + y) K) (kk : ∀ z, K z → W p l e R s m args below meth c H locs cells slots Q (F0 m (pc + 1) ls (.int z :: rest))) : W p l e R s m args below meth c H locs cells slots Q (F0 m pc ls (.int y :: .int x :: rest)) := lv_iadd F.1 F.2.1 hdg (kk _ h)
theorem r_isub (F : CallFix p m c cc nL s args gtbl own) {x y : Int32} (hdg : decode cc pc = .ok (.isub, 1)) {K : Int32 → Prop} (h : lt_ (x - y) K) (kk : ∀ z, K z → W p l e R s m args below meth c H locs cells slots Q (F0 m (pc + 1) ls (.int z :: rest))) : W p l e R s m args below meth c H locs cells slots Q (F0 m pc ls (.int y :: .int x :: rest)) := lv_isub F.1 F.2.1 hdg (kk _ h)
theorem r_imul (F : CallFix p m c cc nL s args gtbl own) {x y : Int32} (hdg : decode cc pc = .ok (.imul, 1)) {K : Int32 → Prop} (h : lt_ (x * y) K) (kk : ∀ z, K z → W p l e R s m args below meth c H locs cells slots Q (F0 m (pc + 1) ls (.int z :: rest))) : W p l e R s m args below meth c H locs cells slots Q (F0 m pc ls (.int y :: .int x :: rest)) := lv_imul F.1 F.2.1 hdg (kk _ h)
theorem r_iand (F : CallFix p m c cc nL s args gtbl own) {x y : Int32} (hdg : decode cc pc = .ok (.iand, 1)) {K : Int32 → Prop} (h : lt_ (x &&& y) K) (kk : ∀ z, K z → W p l e R s m args below meth c H locs cells slots Q (F0 m (pc + 1) ls (.int z :: rest))) : W p l e R s m args below meth c H locs cells slots Q (F0 m pc ls (.int y :: .int x :: rest)) := lv_iand F.1 F.2.1 hdg (kk _ h)
theorem r_ior (F : CallFix p m c cc nL s args gtbl own) {x y : Int32} (hdg : decode cc pc = .ok (.ior, 1)) {K : Int32 → Prop} (h : lt_ (x ||| y) K) (kk : ∀ z, K z → W p l e R s m args below meth c H locs cells slots Q (F0 m (pc + 1) ls (.int z :: rest))) : W p l e R s m args below meth c H locs cells slots Q (F0 m pc ls (.int y :: .int x :: rest)) := lv_ior F.1 F.2.1 hdg (kk _ h)
theorem r_ishl (F : CallFix p m c cc nL s args gtbl own) {x y : Int32} (hdg : decode cc pc = .ok (.ishl, 1)) {K : Int32 → Prop} (h : lt_ (x <<< (y &&& 31)) K) (kk : ∀ z, K z → W p l e R s m args below meth c H locs cells slots Q (F0 m (pc + 1) ls (.int z :: rest))) : W p l e R s m args below meth c H locs cells slots Q (F0 m pc ls (.int y :: .int x :: rest)) := lv_ishl F.1 F.2.1 hdg (kk _ h)
theorem r_ishr (F : CallFix p m c cc nL s args gtbl own) {x y : Int32} (hdg : decode cc pc = .ok (.ishr, 1)) {K : Int32 → Prop} (h : lt_ (x >>> (y &&& 31)) K) (kk : ∀ z, K z → W p l e R s m args below meth c H locs cells slots Q (F0 m (pc + 1) ls (.int z :: rest))) : W p l e R s m args below meth c H locs cells slots Q (F0 m pc ls (.int y :: .int x :: rest)) := lv_ishr F.1 F.2.1 hdg (kk _ h)
theorem r_iushr (F : CallFix p m c cc nL s args gtbl own) {x y : Int32} (hdg : decode cc pc = .ok (.iushr, 1)) {K : Int32 → Prop} (h : lt_ ((x.toUInt32 >>> (y.toUInt32 &&& Int32.toUInt32 31)).toInt32) K) (kk : ∀ z, K z → W p l e R s m args below meth c H locs cells slots Q (F0 m (pc + 1) ls (.int z :: rest))) : W p l e R s m args below meth c H locs cells slots Q (F0 m pc ls (.int y :: .int x :: rest)) := lv_iushr F.1 F.2.1 hdg rfl (kk _ h)
theorem r_idiv (F : CallFix p m c cc nL s args gtbl own) {x y : Int32} (hdg : decode cc pc = .ok (.idiv, 1)) {K : Int32 → Prop} (h : ne_ y (lt_ (x / y) K)) (kk : ∀ z, K z → W p l e R s m args below meth c H locs cells slots Q (F0 m (pc + 1) ls (.int z :: rest))) : W p l e R s m args below meth c H locs cells slots Q (F0 m pc ls (.int y :: .int x :: rest)) := lv_idiv F.1 F.2.1 hdg h.1 (kk _ h.2)
theorem r_irem (F : CallFix p m c cc nL s args gtbl own) {x y : Int32} (hdg : decode cc pc = .ok (.irem, 1)) {K : Int32 → Prop} (h : ne_ y (lt_ (x - x / y * y) K)) (kk : ∀ z, K z → W p l e R s m args below meth c H locs cells slots Q (F0 m (pc + 1) ls (.int z :: rest))) : W p l e R s m args below meth c H locs cells slots Q (F0 m pc ls (.int y :: .int x :: rest)) := lv_irem F.1 F.2.1 hdg h.1 (kk _ h.2)
theorem r_ladd (F : CallFix p m c cc nL s args gtbl own) {x y : Int64} (hdg : decode cc pc = .ok (.ladd, 1)) {K : Int64 → Prop} (h : lt_ (x + y) K) (kk : ∀ z, K z → W p l e R s m args below meth c H locs cells slots Q (F0 m (pc + 1) ls (.long z :: rest))) : W p l e R s m args below meth c H locs cells slots Q (F0 m pc ls (.long y :: .long x :: rest)) := lv_ladd F.1 F.2.1 hdg (kk _ h)
theorem r_lsub (F : CallFix p m c cc nL s args gtbl own) {x y : Int64} (hdg : decode cc pc = .ok (.lsub, 1)) {K : Int64 → Prop} (h : lt_ (x - y) K) (kk : ∀ z, K z → W p l e R s m args below meth c H locs cells slots Q (F0 m (pc + 1) ls (.long z :: rest))) : W p l e R s m args below meth c H locs cells slots Q (F0 m pc ls (.long y :: .long x :: rest)) := lv_lsub F.1 F.2.1 hdg (kk _ h)
theorem r_lor (F : CallFix p m c cc nL s args gtbl own) {x y : Int64} (hdg : decode cc pc = .ok (.lor, 1)) {K : Int64 → Prop} (h : lt_ (x ||| y) K) (kk : ∀ z, K z → W p l e R s m args below meth c H locs cells slots Q (F0 m (pc + 1) ls (.long z :: rest))) : W p l e R s m args below meth c H locs cells slots Q (F0 m pc ls (.long y :: .long x :: rest)) := lv_lor F.1 F.2.1 hdg (kk _ h)
theorem r_lshl (F : CallFix p m c cc nL s args gtbl own) {x : Int64} {y : Int32} (hdg : decode cc pc = .ok (.lshl, 1)) {K : Int64 → Prop} (h : lt_ (x <<< (y.toInt64 &&& 63)) K) (kk : ∀ z, K z → W p l e R s m args below meth c H locs cells slots Q (F0 m (pc + 1) ls (.long z :: rest))) : W p l e R s m args below meth c H locs cells slots Q (F0 m pc ls (.int y :: .long x :: rest)) := lv_lshl F.1 F.2.1 hdg rfl (kk _ h)
theorem r_lcmp (F : CallFix p m c cc nL s args gtbl own) {x y : Int64} (hdg : decode cc pc = .ok (.lcmp, 1)) {K : Int32 → Prop} (h : lt_ (lg_cmp x y) K) (kk : ∀ z, K z → W p l e R s m args below meth c H locs cells slots Q (F0 m (pc + 1) ls (.int z :: rest))) : W p l e R s m args below meth c H locs cells slots Q (F0 m pc ls (.long y :: .long x :: rest)) := W.lcmp F.1 F.2.1 hdg (kk _ h)
theorem r_lneg (F : CallFix p m c cc nL s args gtbl own) {x : Int64} (hdg : decode cc pc = .ok (.lneg, 1)) {K : Int64 → Prop} (h : lt_ (-x) K) (kk : ∀ z, K z → W p l e R s m args below meth c H locs cells slots Q (F0 m (pc + 1) ls (.long z :: rest))) : W p l e R s m args below meth c H locs cells slots Q (F0 m pc ls (.long x :: rest)) := lv_lneg F.1 F.2.1 hdg (kk _ h)
theorem r_i2l (F : CallFix p m c cc nL s args gtbl own) {x : Int32} (hdg : decode cc pc = .ok (.i2l, 1)) {K : Int64 → Prop} (h : lt_ (x.toInt64) K) (kk : ∀ z, K z → W p l e R s m args below meth c H locs cells slots Q (F0 m (pc + 1) ls (.long z :: rest))) : W p l e R s m args below meth c H locs cells slots Q (F0 m pc ls (.int x :: rest)) := lv_i2l F.1 F.2.1 hdg rfl (kk _ h)
theorem r_l2i (F : CallFix p m c cc nL s args gtbl own) {x : Int64} (hdg : decode cc pc = .ok (.l2i, 1)) {K : Int32 → Prop} (h : lt_ (x.toInt32) K) (kk : ∀ z, K z → W p l e R s m args below meth c H locs cells slots Q (F0 m (pc + 1) ls (.int z :: rest))) : W p l e R s m args below meth c H locs cells slots Q (F0 m pc ls (.long x :: rest)) := lv_l2i F.1 F.2.1 hdg rfl (kk _ h)
theorem r_i2s (F : CallFix p m c cc nL s args gtbl own) {x : Int32} (hdg : decode cc pc = .ok (.i2s, 1)) {K : Int32 → Prop} (h : lt_ (x.toInt16.toInt32) K) (kk : ∀ z, K z → W p l e R s m args below meth c H locs cells slots Q (F0 m (pc + 1) ls (.int z :: rest))) : W p l e R s m args below meth c H locs cells slots Q (F0 m pc ls (.int x :: rest)) := lv_i2s F.1 F.2.1 hdg rfl (kk _ h)
theorem r_i2c (F : CallFix p m c cc nL s args gtbl own) {x : Int32} (hdg : decode cc pc = .ok (.i2c, 1)) {K : Int32 → Prop} (h : lt_ ((x.toUInt32 % 65536).toInt32) K) (kk : ∀ z, K z → W p l e R s m args below meth c H locs cells slots Q (F0 m (pc + 1) ls (.int z :: rest))) : W p l e R s m args below meth c H locs cells slots Q (F0 m pc ls (.int x :: rest)) := lv_i2c F.1 F.2.1 hdg rfl (kk _ h)
theorem r_i2b (F : CallFix p m c cc nL s args gtbl own) {x : Int32} (hdg : decode cc pc = .ok (.i2b, 1)) {K : Int32 → Prop} (h : lt_ (x.toInt8.toInt32) K) (kk : ∀ z, K z → W p l e R s m args below meth c H locs cells slots Q (F0 m (pc + 1) ls (.int z :: rest))) : W p l e R s m args below meth c H locs cells slots Q (F0 m pc ls (.int x :: rest)) := lv_i2b F.1 F.2.1 hdg rfl (kk _ h)
theorem r_if_eq (F : CallFix p m c cc nL s args gtbl own) {x : Int32} {off : Int} {tgt : Nat} (hdg : decode cc pc = .ok (.ifCond .eq off, 3)) (ht : (pc : Int) + off = (tgt : Int)) {A B : Prop} (h : if x = 0 then A else B) (kt : A → W p l e R s m args below meth c H locs cells slots Q (F0 m tgt ls rest)) (kf : B → W p l e R s m args below meth c H locs cells slots Q (F0 m (pc + 3) ls rest)) : W p l e R s m args below meth c H locs cells slots Q (F0 m pc ls (.int x :: rest)) := lv_if_eq F.1 F.2.1 hdg ht (fun q => kt (by rwa [if_pos q] at h)) (fun q => kf (by rwa [if_neg q] at h))
theorem r_if_lt (F : CallFix p m c cc nL s args gtbl own) {x : Int32} {off : Int} {tgt : Nat} (hdg : decode cc pc = .ok (.ifCond .lt off, 3)) (ht : (pc : Int) + off = (tgt : Int)) {A B : Prop} (h : if x < 0 then A else B) (kt : A → W p l e R s m args below meth c H locs cells slots Q (F0 m tgt ls rest)) (kf : B → W p l e R s m args below meth c H locs cells slots Q (F0 m (pc + 3) ls rest)) : W p l e R s m args below meth c H locs cells slots Q (F0 m pc ls (.int x :: rest)) := lv_if_lt F.1 F.2.1 hdg ht (fun q => kt (by rwa [if_pos q] at h)) (fun q => kf (by rwa [if_neg q] at h))
theorem r_if_ge (F : CallFix p m c cc nL s args gtbl own) {x : Int32} {off : Int} {tgt : Nat} (hdg : decode cc pc = .ok (.ifCond .ge off, 3)) (ht : (pc : Int) + off = (tgt : Int)) {A B : Prop} (h : if 0 ≤ x then A else B) (kt : A → W p l e R s m args below meth c H locs cells slots Q (F0 m tgt ls rest)) (kf : B → W p l e R s m args below meth c H locs cells slots Q (F0 m (pc + 3) ls rest)) : W p l e R s m args below meth c H locs cells slots Q (F0 m pc ls (.int x :: rest)) := lv_if_ge F.1 F.2.1 hdg ht (fun q => kt (by rwa [if_pos q] at h)) (fun q => kf (by rwa [if_neg q] at h))
theorem r_if_gt (F : CallFix p m c cc nL s args gtbl own) {x : Int32} {off : Int} {tgt : Nat} (hdg : decode cc pc = .ok (.ifCond .gt off, 3)) (ht : (pc : Int) + off = (tgt : Int)) {A B : Prop} (h : if 0 < x then A else B) (kt : A → W p l e R s m args below meth c H locs cells slots Q (F0 m tgt ls rest)) (kf : B → W p l e R s m args below meth c H locs cells slots Q (F0 m (pc + 3) ls rest)) : W p l e R s m args below meth c H locs cells slots Q (F0 m pc ls (.int x :: rest)) := lv_if_gt F.1 F.2.1 hdg ht (fun q => kt (by rwa [if_pos q] at h)) (fun q => kf (by rwa [if_neg q] at h))
theorem r_if_le (F : CallFix p m c cc nL s args gtbl own) {x : Int32} {off : Int} {tgt : Nat} (hdg : decode cc pc = .ok (.ifCond .le off, 3)) (ht : (pc : Int) + off = (tgt : Int)) {A B : Prop} (h : if x ≤ 0 then A else B) (kt : A → W p l e R s m args below meth c H locs cells slots Q (F0 m tgt ls rest)) (kf : B → W p l e R s m args below meth c H locs cells slots Q (F0 m (pc + 3) ls rest)) : W p l e R s m args below meth c H locs cells slots Q (F0 m pc ls (.int x :: rest)) := lv_if_le F.1 F.2.1 hdg ht (fun q => kt (by rwa [if_pos q] at h)) (fun q => kf (by rwa [if_neg q] at h))
theorem r_icmp_eq (F : CallFix p m c cc nL s args gtbl own) {x y : Int32} {off : Int} {tgt : Nat} (hdg : decode cc pc = .ok (.if_icmp .eq off, 3)) (ht : (pc : Int) + off = (tgt : Int)) {A B : Prop} (h : if x = y then A else B) (kt : A → W p l e R s m args below meth c H locs cells slots Q (F0 m tgt ls rest)) (kf : B → W p l e R s m args below meth c H locs cells slots Q (F0 m (pc + 3) ls rest)) : W p l e R s m args below meth c H locs cells slots Q (F0 m pc ls (.int y :: .int x :: rest)) := lv_icmp_eq F.1 F.2.1 hdg ht (fun q => kt (by rwa [if_pos q] at h)) (fun q => kf (by rwa [if_neg q] at h))
theorem r_icmp_lt (F : CallFix p m c cc nL s args gtbl own) {x y : Int32} {off : Int} {tgt : Nat} (hdg : decode cc pc = .ok (.if_icmp .lt off, 3)) (ht : (pc : Int) + off = (tgt : Int)) {A B : Prop} (h : if x < y then A else B) (kt : A → W p l e R s m args below meth c H locs cells slots Q (F0 m tgt ls rest)) (kf : B → W p l e R s m args below meth c H locs cells slots Q (F0 m (pc + 3) ls rest)) : W p l e R s m args below meth c H locs cells slots Q (F0 m pc ls (.int y :: .int x :: rest)) := lv_icmp_lt F.1 F.2.1 hdg ht (fun q => kt (by rwa [if_pos q] at h)) (fun q => kf (by rwa [if_neg q] at h))
theorem r_icmp_ge (F : CallFix p m c cc nL s args gtbl own) {x y : Int32} {off : Int} {tgt : Nat} (hdg : decode cc pc = .ok (.if_icmp .ge off, 3)) (ht : (pc : Int) + off = (tgt : Int)) {A B : Prop} (h : if y ≤ x then A else B) (kt : A → W p l e R s m args below meth c H locs cells slots Q (F0 m tgt ls rest)) (kf : B → W p l e R s m args below meth c H locs cells slots Q (F0 m (pc + 3) ls rest)) : W p l e R s m args below meth c H locs cells slots Q (F0 m pc ls (.int y :: .int x :: rest)) := lv_icmp_ge F.1 F.2.1 hdg ht (fun q => kt (by rwa [if_pos q] at h)) (fun q => kf (by rwa [if_neg q] at h))
theorem r_icmp_gt (F : CallFix p m c cc nL s args gtbl own) {x y : Int32} {off : Int} {tgt : Nat} (hdg : decode cc pc = .ok (.if_icmp .gt off, 3)) (ht : (pc : Int) + off = (tgt : Int)) {A B : Prop} (h : if y < x then A else B) (kt : A → W p l e R s m args below meth c H locs cells slots Q (F0 m tgt ls rest)) (kf : B → W p l e R s m args below meth c H locs cells slots Q (F0 m (pc + 3) ls rest)) : W p l e R s m args below meth c H locs cells slots Q (F0 m pc ls (.int y :: .int x :: rest)) := lv_icmp_gt F.1 F.2.1 hdg ht (fun q => kt (by rwa [if_pos q] at h)) (fun q => kf (by rwa [if_neg q] at h))
theorem r_icmp_le (F : CallFix p m c cc nL s args gtbl own) {x y : Int32} {off : Int} {tgt : Nat} (hdg : decode cc pc = .ok (.if_icmp .le off, 3)) (ht : (pc : Int) + off = (tgt : Int)) {A B : Prop} (h : if x ≤ y then A else B) (kt : A → W p l e R s m args below meth c H locs cells slots Q (F0 m tgt ls rest)) (kf : B → W p l e R s m args below meth c H locs cells slots Q (F0 m (pc + 3) ls rest)) : W p l e R s m args below meth c H locs cells slots Q (F0 m pc ls (.int y :: .int x :: rest)) := lv_icmp_le F.1 F.2.1 hdg ht (fun q => kt (by rwa [if_pos q] at h)) (fun q => kf (by rwa [if_neg q] at h))
theorem r_if_ne (F : CallFix p m c cc nL s args gtbl own) {x : Int32} {off : Int} {tgt : Nat} (hdg : decode cc pc = .ok (.ifCond .ne off, 3)) (ht : (pc : Int) + off = (tgt : Int)) {A B : Prop} (h : if x = 0 then B else A) (kt : A → W p l e R s m args below meth c H locs cells slots Q (F0 m tgt ls rest)) (kf : B → W p l e R s m args below meth c H locs cells slots Q (F0 m (pc + 3) ls rest)) : W p l e R s m args below meth c H locs cells slots Q (F0 m pc ls (.int x :: rest)) := lv_if_ne F.1 F.2.1 hdg ht (fun q => kt (by rwa [if_neg q] at h)) (fun q => kf (by rwa [if_pos q] at h))
theorem r_icmp_ne (F : CallFix p m c cc nL s args gtbl own) {x y : Int32} {off : Int} {tgt : Nat} (hdg : decode cc pc = .ok (.if_icmp .ne off, 3)) (ht : (pc : Int) + off = (tgt : Int)) {A B : Prop} (h : if x = y then B else A) (kt : A → W p l e R s m args below meth c H locs cells slots Q (F0 m tgt ls rest)) (kf : B → W p l e R s m args below meth c H locs cells slots Q (F0 m (pc + 3) ls rest)) : W p l e R s m args below meth c H locs cells slots Q (F0 m pc ls (.int y :: .int x :: rest)) := lv_icmp_ne F.1 F.2.1 hdg ht (fun q => kt (by rwa [if_neg q] at h)) (fun q => kf (by rwa [if_pos q] at h))
theorem r_ifnull (F : CallFix p m c cc nL s args gtbl own) {o : Option Nat} {off : Int} {tgt : Nat} (hdg : decode cc pc = .ok (.ifnull off, 3)) (ht : (pc : Int) + off = (tgt : Int)) {A : Prop} {B : Nat → Prop} (h : cO_ o A B) (kt : o = none → A → W p l e R s m args below meth c H locs cells slots Q (F0 m tgt ls rest)) (kf : ∀ b, o = some b → B b → W p l e R s m args below meth c H locs cells slots Q (F0 m (pc + 3) ls rest)) : W p l e R s m args below meth c H locs cells slots Q (F0 m pc ls (va_rf (o.map (gz g + ·)) :: rest)) := by
  cases o with
  | none => exact lv_ifnullN F.1 F.2.1 hdg ht (kt rfl (h.1 rfl))
  | some b => exact lv_ifnull F.1 F.2.1 hdg (kf b rfl (h.2 b rfl))
theorem r_ifnonnull (F : CallFix p m c cc nL s args gtbl own) {o : Option Nat} {off : Int} {tgt : Nat} (hdg : decode cc pc = .ok (.ifnonnull off, 3)) (ht : (pc : Int) + off = (tgt : Int)) {A : Prop} {B : Nat → Prop} (h : cO_ o A B) (kt : o = none → A → W p l e R s m args below meth c H locs cells slots Q (F0 m (pc + 3) ls rest)) (kf : ∀ b, o = some b → B b → W p l e R s m args below meth c H locs cells slots Q (F0 m tgt ls rest)) : W p l e R s m args below meth c H locs cells slots Q (F0 m pc ls (va_rf (o.map (gz g + ·)) :: rest)) := by
  cases o with
  | none => exact lv_ifnonnullN F.1 F.2.1 hdg (kt rfl (h.1 rfl))
  | some b => exact lv_ifnonnull F.1 F.2.1 hdg ht (kf b rfl (h.2 b rfl))
theorem r_aloadO (F : CallFix p m c cc nL s args gtbl own) {i len : Nat} {o : Option Nat} (hd : (∃ k : Fin 4, decode cc pc = .ok (.aload_n k, 1) ∧ (k : Nat) = i ∧ len = 1) ∨ (decode cc pc = .ok (.aload i, 2) ∧ len = 2)) (hl : ls[i]? = some (.val (va_rf (o.map (gz g + ·))))) (k : W p l e R s m args below meth c H locs cells slots Q (F0 m (pc + len) ls (va_rf (o.map (gz g + ·)) :: rest))) : W p l e R s m args below meth c H locs cells slots Q (F0 m pc ls rest) := by
  cases o with
  | none =>
    rcases hd with ⟨k1, h1, h2, h3⟩ | ⟨h1, h3⟩ <;> subst h3
    · exact lv_aload_nN F.1 F.2.1 h1 h2 hl k
    · exact lv_aloadN F.1 F.2.1 h1 hl k
  | some b =>
    rcases hd with ⟨k1, h1, h2, h3⟩ | ⟨h1, h3⟩ <;> subst h3
    · exact lv_aload_n F.1 F.2.1 h1 h2 hl k
    · exact lv_aload F.1 F.2.1 h1 hl k
theorem r_astoreO (F : CallFix p m c cc nL s args gtbl own) {i len : Nat} {o : Option Nat} {lv lv1 : List (Nat × Value)} (hd : (∃ k : Fin 4, decode cc pc = .ok (.astore_n k, 1) ∧ (k : Nat) = i ∧ len = 1) ∨ (decode cc pc = .ok (.astore i, 2) ∧ len = 2)) (h : lv_has ls nL lv) (hn : i < nL) (hl : lv.filter (fun q => !(q.1 == i) && !(q.1 + 1 == i && q.2.category == 2)) = lv1) (kk : ∀ ls1 : Array Slot, lv_has ls1 nL ((i, va_rf (o.map (gz g + ·))) :: lv1) → W p l e R s m args below meth c H locs cells slots Q (F0 m (pc + len) ls1 rest)) : W p l e R s m args below meth c H locs cells slots Q (F0 m pc ls (va_rf (o.map (gz g + ·)) :: rest)) := by
  cases o with
  | none =>
    rcases hd with ⟨k1, h1, h2, h3⟩ | ⟨h1, h3⟩ <;> subst h3
    · exact lv_astore_nN F.1 F.2.1 h1 h2 h hn (by rw [hl]; rfl) kk
    · exact lv_astoreN F.1 F.2.1 h1 h hn (by rw [hl]; rfl) kk
  | some b =>
    rcases hd with ⟨k1, h1, h2, h3⟩ | ⟨h1, h3⟩ <;> subst h3
    · exact lv_astore_n F.1 F.2.1 h1 h2 h hn (by rw [hl]; rfl) kk
    · exact lv_astore F.1 F.2.1 h1 h hn (by rw [hl]; rfl) kk
end RX
/-- the entry of a method -/
theorem m_of {l : Launch} {y : MethodName} {cc : ByteArray} {mL : Nat} {ret : Option FieldType} {rm : Room} {g : GX} {N : Nat} {ln : Nat → Nat} {S : HC} {av : List Value} {Qc : Array Value → State → Outcome → State → Prop} {mc ms : Nat} (hy : plainName y.cls = true) (hlen : (lg_sl av).length ≤ mL)
    (body : ∀ (p : Program) (e : Env) (s : State) (m : MethodId) (below : List Frame) (meth : Method) (c : Code) (ls : Array Slot), CallFix p m c cc mL s av.toArray gtbl y.cls → (meth.sig.returnType = ret ∧ meth.locks = false ∧ meth.name = y.name) → Inv g N ln S s s.heap [] → lv_has ls mL (lv_args 0 av) → W p l e rm s m av.toArray below meth c s.heap [] 0 0 (MQ below Qc av.toArray s mc ms (gF g)) (F0 m 0 ls [])) :
    Met l y (Cond.code y cc mL ret :: gtbl) rm (va_Pc av (AtP g N ln S)) Qc mc ms (gF g) := by
  refine Met.ofW (cc := cc) (maxL := mL) (ret := ret) hy rfl ?_
  intro p e s m args below meth c s₁ B hml hv
  obtain ⟨rfl, hA⟩ := hv
  have hts := atoms_spec (ws := Cond.code y cc mL ret :: gtbl) B.pre
  have hown : s.vm.findClass y.cls = some m.cls := findClass_of_methodNamed B.named
  have hl := lv_entry av (n := mL) hlen
  rw [lg_entry_eq]
  exact body p e s m below meth c _ ⟨B.exec, B.bytes, hml, hown, fun w hw => hts w (List.mem_cons_of_mem _ hw)⟩ ⟨B.returns, B.notSynchronized, (name_of_methodNamed B.named B.method).1⟩ (Inv.of hA) hl
/-- how methods end -/
abbrev QI (g : GX) (N : Nat) (ln : Nat → Nat) (post : Int32 → HC → Prop) := va_Qi post (AtQ g N ln) (gF g)
abbrev QL (g : GX) (N : Nat) (ln : Nat → Nat) (post : Int64 → HC → Prop) := va_Ql post (AtQ g N ln) (gF g)
abbrev QV (g : GX) (N : Nat) (ln : Nat → Nat) (post : HC → Prop) := va_Qv post (AtQ g N ln) (gF g)
abbrev QO (g : GX) (N : Nat) (ln : Nat → Nat) (f : Nat) (post : Option Nat → HC → Prop) := va_Qq (fun a u => ∃ o : Option Nat, a = o.map (gz g + ·) ∧ (∀ b, o = some b → b < N ∧ kd b = f) ∧ post o u) (AtQ g N ln) (gF g)
abbrev HX : Type := Nat × (Nat → Nat) × HC
abbrev AtX (g : GX) (u : HX) (U : State) : Prop := AtQ g u.1 u.2.1 u.2.2 U
abbrev QXV (g : GX) (N : Nat) (post : Nat → (Nat → Nat) → HC → Prop) := va_Qv (fun u : HX => N ≤ u.1 ∧ post u.1 u.2.1 u.2.2) (AtX g) (gF g)
abbrev QXI (g : GX) (N : Nat) (post : Int32 → Nat → (Nat → Nat) → HC → Prop) := va_Qi (fun v (u : HX) => N ≤ u.1 ∧ post v u.1 u.2.1 u.2.2) (AtX g) (gF g)
abbrev QXN (g : GX) (N f : Nat) (post : Nat → Nat → (Nat → Nat) → HC → Prop) := va_Qq (fun a (u : HX) => ∃ b : Nat, a = some (gz g + b) ∧ b < u.1 ∧ kd b = f ∧ N ≤ u.1 ∧ post b u.1 u.2.1 u.2.2) (AtX g) (gF g)
section RY
variable {p : Program} {l : Launch} {e : Env} {R : Room} {s : State} {m : MethodId} {args : Array Value} {below : List Frame} {meth : Method} {c : Code} {H : Heap} {locs : List Loc} {cells slots : Nat} {Q : State → Prop}
variable {cc : ByteArray} {pc nL : Nat} {ls : Array Slot} {rest : List Value} {own : String}
variable {g : GX} {N : Nat} {ln : Nat → Nat} {S : HC}
theorem r_ireturn (F : CallFix p m c cc nL s args gtbl own) (I : Inv g N ln S s H locs) (hr : meth.sig.returnType = some .int ∧ meth.locks = false ∧ True) {v : Int32} {post : Int32 → HC → Prop} (hp : post v S) (hdg : decode cc pc = .ok (.ireturn, 1)) : W p l e R s m args below meth c H locs cells slots (MQ below (QI g N ln post) args s cells slots (gF g)) (F0 m pc ls [.int v]) :=
  W.iret F.1 F.2.1 hr.1 (fun t ht hW => ⟨⟨v, S, rfl, hp, I.atQ ht hW⟩, I.S.F ht⟩) I.S.2.2 hdg hr.2.1
theorem r_zreturn (F : CallFix p m c cc nL s args gtbl own) (I : Inv g N ln S s H locs) {ty : FieldType} (hr : meth.sig.returnType = some ty ∧ meth.locks = false ∧ True) {v : Int32} {post : Int32 → HC → Prop} (hp : rb_ ty v (post v S)) (hdg : decode cc pc = .ok (.ireturn, 1)) : W p l e R s m args below meth c H locs cells slots (MQ below (QI g N ln post) args s cells slots (gF g)) (F0 m pc ls [.int v]) :=
  W.zret F.1 F.2.1 hr.1 hp.1 (fun t ht hW => ⟨⟨v, S, rfl, hp.2, I.atQ ht hW⟩, I.S.F ht⟩) I.S.2.2 hdg hr.2.1
theorem r_lreturn (F : CallFix p m c cc nL s args gtbl own) (I : Inv g N ln S s H locs) (hr : meth.sig.returnType = some .long ∧ meth.locks = false ∧ True) {v : Int64} {post : Int64 → HC → Prop} (hp : post v S) (hdg : decode cc pc = .ok (.lreturn, 1)) : W p l e R s m args below meth c H locs cells slots (MQ below (QL g N ln post) args s cells slots (gF g)) (F0 m pc ls [.long v]) :=
  W.lret F.1 F.2.1 hr.1 (fun t ht hW => ⟨⟨v, S, rfl, hp, I.atQ ht hW⟩, I.S.F ht⟩) I.S.2.2 hdg hr.2.1
theorem r_vreturn (F : CallFix p m c cc nL s args gtbl own) (I : Inv g N ln S s H locs) (hr : meth.sig.returnType = none ∧ meth.locks = false ∧ True) {post : HC → Prop} (hp : post S) (hdg : decode cc pc = .ok (.return_, 1)) : W p l e R s m args below meth c H locs cells slots (MQ below (QV g N ln post) args s cells slots (gF g)) (F0 m pc ls []) :=
  W.vret F.1 F.2.1 hr.1 (fun t ht hW => ⟨⟨S, rfl, hp, I.atQ ht hW⟩, I.S.F ht⟩) I.S.2.2 hdg hr.2.1
theorem r_areturnO (F : CallFix p m c cc nL s args gtbl own) (I : Inv g N ln S s H locs) {C : String} (hr : meth.sig.returnType = some (.object C) ∧ meth.locks = false ∧ True) {o : Option Nat} {f : Nat} (ho : ∀ b, o = some b → b < N ∧ kd b = f) {post : Option Nat → HC → Prop} (hp : post o S) (hdg : decode cc pc = .ok (.areturn, 1)) : W p l e R s m args below meth c H locs cells slots (MQ below (QO g N ln f post) args s cells slots (gF g)) (F0 m pc ls [va_rf (o.map (gz g + ·))]) :=
  W.aret F.1 F.2.1 hr.1 (Or.inl ⟨_, rfl⟩) (va_rf_or _) (fun t ht hW => ⟨⟨_, S, rfl, ⟨o, rfl, ho, hp⟩, I.atQ ht hW⟩, I.S.F ht⟩) I.S.2.2 hdg hr.2.1
theorem r_vreturnX (F : CallFix p m c cc nL s args gtbl own) (I : Inv g N ln S s H locs) (hr : meth.sig.returnType = none ∧ meth.locks = false ∧ True) {N0 : Nat} (hN : N0 ≤ N) {post : Nat → (Nat → Nat) → HC → Prop} (hp : post N ln S) (hdg : decode cc pc = .ok (.return_, 1)) : W p l e R s m args below meth c H locs cells slots (MQ below (QXV g N0 post) args s cells slots (gF g)) (F0 m pc ls []) :=
  W.vret F.1 F.2.1 hr.1 (fun t ht hW => ⟨⟨(N, ln, S), rfl, ⟨hN, hp⟩, I.atQ ht hW⟩, I.S.F ht⟩) I.S.2.2 hdg hr.2.1
theorem r_ireturnX (F : CallFix p m c cc nL s args gtbl own) (I : Inv g N ln S s H locs) (hr : meth.sig.returnType = some .int ∧ meth.locks = false ∧ True) {N0 : Nat} (hN : N0 ≤ N) {v : Int32} {post : Int32 → Nat → (Nat → Nat) → HC → Prop} (hp : post v N ln S) (hdg : decode cc pc = .ok (.ireturn, 1)) : W p l e R s m args below meth c H locs cells slots (MQ below (QXI g N0 post) args s cells slots (gF g)) (F0 m pc ls [.int v]) :=
  W.iret F.1 F.2.1 hr.1 (fun t ht hW => ⟨⟨v, (N, ln, S), rfl, ⟨hN, hp⟩, I.atQ ht hW⟩, I.S.F ht⟩) I.S.2.2 hdg hr.2.1
theorem r_areturnX (F : CallFix p m c cc nL s args gtbl own) (I : Inv g N ln S s H locs) {C : String} (hr : meth.sig.returnType = some (.object C) ∧ meth.locks = false ∧ True) {N0 b f : Nat} (hN : N0 ≤ N) (hb : b < N) (hkb : kd b = f) {post : Nat → Nat → (Nat → Nat) → HC → Prop} (hp : post b N ln S) (hdg : decode cc pc = .ok (.areturn, 1)) : W p l e R s m args below meth c H locs cells slots (MQ below (QXN g N0 f post) args s cells slots (gF g)) (F0 m pc ls [.ref (gz g + b)]) :=
  W.aret F.1 F.2.1 hr.1 (Or.inl ⟨_, rfl⟩) (Or.inr ⟨_, rfl⟩) (fun t ht hW => ⟨⟨some (gz g + b), (N, ln, S), rfl, ⟨b, rfl, hb, hkb, hN, hp⟩, I.atQ ht hW⟩, I.S.F ht⟩) I.S.2.2 hdg hr.2.1
/-- calls: what they rest on -/
def mthV (own : String) (idx ci : Nat) (y : MethodName) (bytes : ByteArray) (mL : Nat) (ret : Option FieldType) (n : Nat) : Prop := mthOK own idx y.cls y bytes mL ret n ∧ Cond.instanceMethod y ∈ gtbl ∧ Cond.selects y.cls y y ∈ gtbl ∧ vwCl[ci]?.map (fun q => q.1) = some y.cls
def mthS (own : String) (idx : Nat) (y : MethodName) (bytes : ByteArray) (mL : Nat) (ret : Option FieldType) (n : Nat) : Prop := mthOK own idx y.cls y bytes mL ret n ∧ Cond.static y ∈ gtbl
def mthI (own : String) (idx : Nat) (y : MethodName) (bytes : ByteArray) (mL n : Nat) : Prop := mthOK own idx y.cls y bytes mL none n ∧ Cond.instanceMethod y ∈ gtbl ∧ y.name = "<init>"
def nstI (own : String) (idx : Nat) (y : MethodName) (bytes : ByteArray) (mL n : Nat) : Prop := (Cond.methodLinkNest own idx y RX7 ∈ nestW ∧ Cond.initialized y.cls ∈ gtbl ∧ Cond.code y bytes mL none ∈ gtbl) ∧ (y.cls ≠ "java/lang/invoke/MethodHandle" ∧ y.cls ≠ "java/lang/invoke/VarHandle" ∧ (parseMethodDescriptor y.desc).map (fun d => d.parameters.length) = some n) ∧ Cond.instanceMethod y ∈ gtbl ∧ y.name = "<init>"
def nstS (own : String) (idx : Nat) (y : MethodName) (bytes : ByteArray) (mL : Nat) (ret : Option FieldType) (n : Nat) : Prop := (Cond.methodLinkNest own idx y RX7 ∈ nestW ∧ Cond.initialized y.cls ∈ gtbl ∧ Cond.code y bytes mL ret ∈ gtbl) ∧ (y.cls ≠ "java/lang/invoke/MethodHandle" ∧ y.cls ≠ "java/lang/invoke/VarHandle" ∧ (parseMethodDescriptor y.desc).map (fun d => d.parameters.length) = some n) ∧ Cond.static y ∈ gtbl
variable {y : MethodName} {bytes : ByteArray} {mL idx n ci r mc ms : Nat} {ret : Option FieldType} {rm : Room} {Qc : Array Value → State → Outcome → State → Prop} {As st : List Value}
/-- the run of a call, by its kind -/
theorem run_V (F : CallFix p m c cc nL s args gtbl own) (I : Inv g N ln S s H locs) (hr : r < N) (hk : kd r = ci) (h9 : ci < 9) (k : mthV own idx ci y bytes mL ret n) (hM : Met l y (Cond.code y bytes mL ret :: gtbl) rm (va_Pc (.ref (gz g + r) :: As) (AtP g N ln S)) Qc mc ms (gF g)) (hrm : rm.cells = mc ∧ rm.slots = ms) (hR : rm.frames + 1 ≤ R.frames ∧ 8 + (mL + 11) + rm.locals ≤ R.locals) (hn : As.length = n) (hsz : ls.size = nL) (hst : st = As.reverse ++ .ref (gz g + r) :: rest) (hroom : (rest.map fun v => v.category).sum ≤ 8) (hcs : cells + mc ≤ R.cells ∧ slots + ms ≤ R.slots) (hdg : decode cc pc = .ok (.invokevirtual idx, 3)) :
    va_Run p l e R s m args below meth c H locs cells slots mc ms (F0 m pc ls st) rest (Qc (Value.ref (gz g + r) :: As).toArray) (gF g) := by
  obtain ⟨⟨⟨k1, k2, k3⟩, -, k5⟩, k6, k7, k8⟩ := k
  have hts := F.2.2.2.2
  obtain ⟨q, hq, hq2⟩ : ∃ q : vw_C, vwCl[ci]? = some q ∧ q.1 = y.cls := by
    cases hv : vwCl[ci]? with
    | none => rw [hv] at k8; cases k8
    | some q => rw [hv] at k8; exact ⟨q, rfl, Option.some.inj k8⟩
  refine va_runV (C := y.cls) F hM ⟨callB_of n hts (good_in k3) rfl hrm.1 hrm.2 (hts _ k2) (hts _ k1) k5 hR, hts _ k6, hts _ k7⟩ ⟨AtP.blind, ?_, fun U hU hW => ⟨rfl, I.atP hU hW⟩⟩ rfl hn hsz hst (lv_room hroom) hdg hcs
  rw [← hq2]
  exact va_recv I.K I.P hq (wl_eq hr (ce_o hk h9))
theorem run_S (F : CallFix p m c cc nL s args gtbl own) (I : Inv g N ln S s H locs) (k : mthS own idx y bytes mL ret n) (hM : Met l y (Cond.code y bytes mL ret :: gtbl) rm (va_Pc As (AtP g N ln S)) Qc mc ms (gF g)) (hrm : rm.cells = mc ∧ rm.slots = ms) (hR : rm.frames + 1 ≤ R.frames ∧ 8 + (mL + 11) + rm.locals ≤ R.locals) (hn : As.length = n) (hsz : ls.size = nL) (hst : st = As.reverse ++ rest) (hroom : (rest.map fun v => v.category).sum ≤ 8) (hcs : cells + mc ≤ R.cells ∧ slots + ms ≤ R.slots) (hdg : decode cc pc = .ok (.invokestatic idx, 3)) :
    va_Run p l e R s m args below meth c H locs cells slots mc ms (F0 m pc ls st) rest (Qc As.toArray) (gF g) := by
  obtain ⟨⟨⟨k1, k2, k3⟩, -, k5⟩, k6⟩ := k
  have hts := F.2.2.2.2
  exact va_runS F hM ⟨callB_of n hts (good_in k3) rfl hrm.1 hrm.2 (hts _ k2) (hts _ k1) k5 hR, hts _ k6⟩ ⟨AtP.blind, fun U hU hW => ⟨rfl, I.atP hU hW⟩⟩ rfl hn hsz hst (lv_room hroom) hdg hcs
theorem run_NS (F : CallFix p m c cc nL s args gtbl own) (I : Inv g N ln S s H locs) (k : nstS own idx y bytes mL ret n) (hM : Met l y (Cond.code y bytes mL ret :: gtbl) rm (va_Pc As (AtP g N ln S)) Qc mc ms (gF g)) (hrm : rm.cells = mc ∧ rm.slots = ms) (hR : rm.frames + 1 ≤ R.frames ∧ 8 + (mL + 11) + rm.locals ≤ R.locals) (hn : As.length = n) (hsz : ls.size = nL) (hst : st = As.reverse ++ rest) (hroom : (rest.map fun v => v.category).sum ≤ 8) (hcs : cells + mc ≤ R.cells ∧ slots + ms ≤ R.slots) (hdg : decode cc pc = .ok (.invokestatic idx, 3)) :
    va_Run p l e R s m args below meth c H locs cells slots mc ms (F0 m pc ls st) rest (Qc As.toArray) (gF g) := by
  obtain ⟨⟨k1, k2, k3⟩, k5, k6⟩ := k
  have hts := F.2.2.2.2
  exact va_runSN F hM ⟨va_cnB n hts (good_in k3) rfl hrm.1 hrm.2 (I.2.2.1.1.1 _ k1) (hts _ k2) k5 hR, hts _ k6, trivial⟩ ⟨AtP.blind, fun U hU hW => ⟨rfl, I.atP hU hW⟩⟩ rfl hn hsz hst (lv_room hroom) hdg hcs
theorem run_I (F : CallFix p m c cc nL s args gtbl own) (I : Inv g N ln S s H locs) (k : mthI own idx y bytes mL n) {b : Nat} (hM : Met l y (Cond.code y bytes mL none :: gtbl) rm (va_Pc (.ref b :: As) (AtP g N ln S)) Qc mc ms (gF g)) (hrm : rm.cells = mc ∧ rm.slots = ms) (hR : rm.frames + 1 ≤ R.frames ∧ 8 + (mL + 11) + rm.locals ≤ R.locals) (hn : As.length = n) (hsz : ls.size = nL) (hst : st = As.reverse ++ .ref b :: rest) (hroom : (rest.map fun v => v.category).sum ≤ 8) (hcs : cells + mc ≤ R.cells ∧ slots + ms ≤ R.slots) (hdg : decode cc pc = .ok (.invokespecial idx, 3)) :
    va_Run p l e R s m args below meth c H locs cells slots mc ms (F0 m pc ls st) rest (Qc (Value.ref b :: As).toArray) (gF g) := by
  obtain ⟨⟨⟨k1, k2, k3⟩, -, k5⟩, k6, k7⟩ := k
  have hts := F.2.2.2.2
  exact va_runI F hM ⟨callB_of n hts (good_in k3) rfl hrm.1 hrm.2 (hts _ k2) (hts _ k1) k5 hR, k7, hts _ k6⟩ ⟨AtP.blind, fun U hU hW => ⟨rfl, I.atP hU hW⟩⟩ rfl hn hsz hst (lv_room hroom) hdg hcs
theorem run_NI (F : CallFix p m c cc nL s args gtbl own) (I : Inv g N ln S s H locs) (k : nstI own idx y bytes mL n) {b : Nat} (hM : Met l y (Cond.code y bytes mL none :: gtbl) rm (va_Pc (.ref b :: As) (AtP g N ln S)) Qc mc ms (gF g)) (hrm : rm.cells = mc ∧ rm.slots = ms) (hR : rm.frames + 1 ≤ R.frames ∧ 8 + (mL + 11) + rm.locals ≤ R.locals) (hn : As.length = n) (hsz : ls.size = nL) (hst : st = As.reverse ++ .ref b :: rest) (hroom : (rest.map fun v => v.category).sum ≤ 8) (hcs : cells + mc ≤ R.cells ∧ slots + ms ≤ R.slots) (hdg : decode cc pc = .ok (.invokespecial idx, 3)) :
    va_Run p l e R s m args below meth c H locs cells slots mc ms (F0 m pc ls st) rest (Qc (Value.ref b :: As).toArray) (gF g) := by
  obtain ⟨⟨k1, k2, k3⟩, k5, k6, k7⟩ := k
  have hts := F.2.2.2.2
  exact va_runIN F hM ⟨va_cnB n hts (good_in k3) rfl hrm.1 hrm.2 (I.2.2.1.1.1 _ k1) (hts _ k2) k5 hR, k7, hts _ k6⟩ ⟨AtP.blind, fun U hU hW => ⟨rfl, I.atP hU hW⟩⟩ rfl hn hsz hst (lv_room hroom) hdg hcs
variable {av : Array Value}
/-- behind a call -/
theorem g_I (I : Inv g N ln S s H locs) {post : Int32 → HC → Prop} (hr : va_Run p l e R s m args below meth c H locs cells slots mc ms (F0 m pc ls st) rest (QI g N ln post av) (gF g)) (kk : ∀ (v : Int32) (S1 : HC) (H1 : Heap) (locs1 : List Loc), Inv g N ln S1 s H1 locs1 → post v S1 → W p l e R s m args below meth c H1 locs1 (cells + mc) (slots + ms) Q (F0 m (pc + 3) ls (.int v :: rest))) : W p l e R s m args below meth c H locs cells slots Q (F0 m pc ls st) :=
  va_calli hr I.S (fun _ _ h => h) (fun _ h => h) (fun v u t H1 locs1 ht hvm hp hB _ _ hS => kk v u H1 locs1 (I.back hB ht hvm hS) hp)
theorem g_L (I : Inv g N ln S s H locs) {post : Int64 → HC → Prop} (hr : va_Run p l e R s m args below meth c H locs cells slots mc ms (F0 m pc ls st) rest (QL g N ln post av) (gF g)) (kk : ∀ (v : Int64) (S1 : HC) (H1 : Heap) (locs1 : List Loc), Inv g N ln S1 s H1 locs1 → post v S1 → W p l e R s m args below meth c H1 locs1 (cells + mc) (slots + ms) Q (F0 m (pc + 3) ls (.long v :: rest))) : W p l e R s m args below meth c H locs cells slots Q (F0 m pc ls st) :=
  va_calll hr I.S (fun _ _ h => h) (fun _ h => h) (fun v u t H1 locs1 ht hvm hp hB _ _ hS => kk v u H1 locs1 (I.back hB ht hvm hS) hp)
theorem g_V (I : Inv g N ln S s H locs) {post : HC → Prop} (hr : va_Run p l e R s m args below meth c H locs cells slots mc ms (F0 m pc ls st) rest (QV g N ln post av) (gF g)) (kk : ∀ (S1 : HC) (H1 : Heap) (locs1 : List Loc), Inv g N ln S1 s H1 locs1 → post S1 → W p l e R s m args below meth c H1 locs1 (cells + mc) (slots + ms) Q (F0 m (pc + 3) ls rest)) : W p l e R s m args below meth c H locs cells slots Q (F0 m pc ls st) :=
  va_callv hr I.S (fun _ _ h => h) (fun _ h => h) (fun u t H1 locs1 ht hvm hp hB _ _ hS => kk u H1 locs1 (I.back hB ht hvm hS) hp)
theorem g_O (I : Inv g N ln S s H locs) {f : Nat} {post : Option Nat → HC → Prop} (hr : va_Run p l e R s m args below meth c H locs cells slots mc ms (F0 m pc ls st) rest (QO g N ln f post av) (gF g)) (kk : ∀ (o : Option Nat) (S1 : HC) (H1 : Heap) (locs1 : List Loc), (∀ b, o = some b → b < N ∧ kd b = f) → Inv g N ln S1 s H1 locs1 → post o S1 → W p l e R s m args below meth c H1 locs1 (cells + mc) (slots + ms) Q (F0 m (pc + 3) ls (va_rf (o.map (gz g + ·)) :: rest))) : W p l e R s m args below meth c H locs cells slots Q (F0 m pc ls st) :=
  va_callq hr I.S (fun _ _ h => h) (fun _ h => h) (fun v u t H1 locs1 ht hvm hp hB _ _ hS => by
    obtain ⟨o, e1, e2, e3⟩ := hp
    subst e1
    exact kk o u H1 locs1 e2 (I.back hB ht hvm hS) e3)
theorem g_XV (I : Inv g N ln S s H locs) {post : Nat → (Nat → Nat) → HC → Prop} (hr : va_Run p l e R s m args below meth c H locs cells slots mc ms (F0 m pc ls st) rest (QXV g N post av) (gF g)) (kk : ∀ (N1 : Nat) (ln1 : Nat → Nat) (S1 : HC) (H1 : Heap) (locs1 : List Loc), N ≤ N1 → Inv g N1 ln1 S1 s H1 locs1 → post N1 ln1 S1 → W p l e R s m args below meth c H1 locs1 (cells + mc) (slots + ms) Q (F0 m (pc + 3) ls rest)) : W p l e R s m args below meth c H locs cells slots Q (F0 m pc ls st) :=
  va_callv hr I.S (fun _ _ h => h) (fun _ h => h) (fun u t H1 locs1 ht hvm hp hB _ _ hS => kk u.1 u.2.1 u.2.2 H1 locs1 hp.1 (I.back hB ht hvm hS) hp.2)
theorem g_XI (I : Inv g N ln S s H locs) {post : Int32 → Nat → (Nat → Nat) → HC → Prop} (hr : va_Run p l e R s m args below meth c H locs cells slots mc ms (F0 m pc ls st) rest (QXI g N post av) (gF g)) (kk : ∀ (v : Int32) (N1 : Nat) (ln1 : Nat → Nat) (S1 : HC) (H1 : Heap) (locs1 : List Loc), N ≤ N1 → Inv g N1 ln1 S1 s H1 locs1 → post v N1 ln1 S1 → W p l e R s m args below meth c H1 locs1 (cells + mc) (slots + ms) Q (F0 m (pc + 3) ls (.int v :: rest))) : W p l e R s m args below meth c H locs cells slots Q (F0 m pc ls st) :=
  va_calli hr I.S (fun _ _ h => h) (fun _ h => h) (fun v u t H1 locs1 ht hvm hp hB _ _ hS => kk v u.1 u.2.1 u.2.2 H1 locs1 hp.1 (I.back hB ht hvm hS) hp.2)
theorem g_XN (I : Inv g N ln S s H locs) {f : Nat} {post : Nat → Nat → (Nat → Nat) → HC → Prop} (hr : va_Run p l e R s m args below meth c H locs cells slots mc ms (F0 m pc ls st) rest (QXN g N f post av) (gF g)) (kk : ∀ (b N1 : Nat) (ln1 : Nat → Nat) (S1 : HC) (H1 : Heap) (locs1 : List Loc), b < N1 → kd b = f → N ≤ N1 → Inv g N1 ln1 S1 s H1 locs1 → post b N1 ln1 S1 → W p l e R s m args below meth c H1 locs1 (cells + mc) (slots + ms) Q (F0 m (pc + 3) ls (.ref (gz g + b) :: rest))) : W p l e R s m args below meth c H locs cells slots Q (F0 m pc ls st) :=
  va_callq hr I.S (fun _ _ h => h) (fun _ h => h) (fun v u t H1 locs1 ht hvm hp hB _ _ hS => by
    obtain ⟨b, e1, e2, e3, e4, e5⟩ := hp
    subst e1
    exact kk b u.1 u.2.1 u.2.2 H1 locs1 e2 e3 e4 (I.back hB ht hvm hS) e5)
/-- new cells -/
def nw_ (N ci : Nat) (ln : Nat → Nat) (S : HC) (K : Nat → (Nat → Nat) → HC → Prop) : Prop := kd N = ci ∧ K (N + 1) ln (nw S N)
def na_ (N ci : Nat) (n : Int32) (B : Nat) (ln : Nat → Nat) (S : HC) (K : Nat → (Nat → Nat) → HC → Prop) : Prop := kd N = ci ∧ (¬ n < 0 ∧ n.toNatClampNeg ≤ B) ∧ K (N + 1) (va_up ln N n.toNatClampNeg) (nw S N)
theorem Inv.push (I : Inv g N ln S s H locs) {ln1 : Nat → Nat} {H1 : Heap} (hz : H1.size = H.size + 1) (ho : ∀ q, q < H.size → H1[q]? = H[q]?) (hl : ∀ a, a ≠ N → ln1 a = ln a) (hat : va_at (gD g) vwCl (gz g + N, ce (gz g) (gA g) ln1 (nw S N) N) H1) : Inv g (N + 1) ln1 (nw S N) s H1 locs := by
  have hs := I.sz
  have ecell : ∀ a, a ≠ N → ce (gz g) (gA g) ln1 (nw S N) a = ce (gz g) (gA g) ln S a := by
    intro a ha
    have e : va_up ln N (ln1 N) = ln1 := by
      funext x
      by_cases hx : x = N
      · subst hx; exact va_up_self _ _ _
      · rw [va_up_ne _ _ hx, hl x hx]
    have := ce_nw (z0 := gz g) (cA := gA g) (ln := ln) (S := S) (r := N) (n := ln1 N) a ha
    rw [e] at this
    exact this
  refine ⟨⟨I.K, fun j q hj => ?_⟩, ⟨by omega, I.T.nw⟩, I.2.2.1, ⟨by have := I.S.1; omega, fun q h1 h2 => ?_, I.S.2.2⟩⟩
  · obtain ⟨h1, h2⟩ := wl_in hj
    subst h2
    by_cases e : j = N
    · subst e; exact hat
    · rw [ecell j e]
      exact (I.P j _ (wl_at (by omega))).kept (ho _ (by simp only; omega))
  · have := I.S.1
    rw [ho q (by omega)]
    exact I.S.2.1 q h1 h2
theorem r_new (F : CallFix p m c cc nL s args gtbl own) (I : Inv g N ln S s H locs) (k : clsOK own idx ci n) {K : Nat → (Nat → Nat) → HC → Prop} (h : nw_ N ci ln S K) (hcs : cells + 1 ≤ R.cells ∧ slots + n ≤ R.slots) (hdg : decode cc pc = .ok (.new idx, 3))
    (kk : ∀ (N1 : Nat) (ln1 : Nat → Nat) (S1 : HC) (H1 : Heap), N < N1 → kd N = ci → Inv g N1 ln1 S1 s H1 locs → K N1 ln1 S1 → W p l e R s m args below meth c H1 locs (cells + 1) (slots + n) Q (F0 m (pc + 3) ls (.ref (gz g + N) :: rest))) : W p l e R s m args below meth c H locs cells slots Q (F0 m pc ls rest) := by
  obtain ⟨C, T, ty, ⟨hc, hin, hnf, h9⟩, hty, hdv, k1, k2, k3⟩ := k
  have hts := F.2.2.2.2
  have hKn := I.K.1 ci _ hc
  have hs := I.sz
  refine W.newcK F.1 F.2.1 F.2.2.2.1 (hts _ k1) (hts _ k2) (hts _ k3) rfl hdg hcs.1 hcs.2 hKn.2.1 hs fun H1 kC hkC e1 z1 o1 => ?_
  refine kk _ _ _ H1 (Nat.lt_succ_self N) h.1 (I.push (by rw [z1, hs]) (fun q hq => o1 q (by omega)) (fun _ _ => rfl) ?_) h.2
  rw [ce_o h.1 h9]
  refine ⟨_, hc, (u_born ty hts hin hKn hkC e1 hty).to (fun j hj => ?_)⟩
  rw [hdv j hj]
  simp only [vp_V, List.getD_eq_getElem?_getD]
  rw [fl_at (by omega)]
  simp only [fv, hI, hR, nw, up1, if_true, Option.getD_some, Option.map_none]
  rfl
theorem r_newa0 (I : Inv g N ln S s H locs) {q : Nat} (hk : kd N = q) {B : Nat} {ty : FieldType} {t0 : Nat} {cA : ClassId} (ht : (tyL (gA g))[t0]? = some (gA g q, ty)) (hnm : va_RA s cA ty) (hcl : ∀ H1 : Heap, H1[gz g + N]? = some (arrV cA B (fun _ => defaultValue ty)) → cA = gA g q → va_at (gD g) vwCl (gz g + N, ce (gz g) (gA g) (va_up ln N B) (nw S N) N) H1) (hu : ∀ a b, va_RA s a ty → va_RA s b ty → a = b) {H1 : Heap} (e1 : H1[gz g + N]? = some (arrV cA B (fun _ => defaultValue ty))) (z1 : H1.size = gz g + N + 1) (o1 : ∀ q, q < gz g + N → H1[q]? = H[q]?) : Inv g (N + 1) (va_up ln N B) (nw S N) s H1 locs := by
  have hs := I.sz
  exact I.push (by rw [z1, hs]) (fun q hq => o1 q (by omega)) (fun a ha => va_up_ne _ _ ha) (hcl H1 e1 (hu _ _ hnm (I.K.2 t0 _ ht).2))
theorem ra_u {s : State} {a b : ClassId} {x : String} (h1 : s.vm.findClass x = some a) (h2 : s.vm.findClass x = some b) : a = b := Option.some.inj (h1.symm.trans h2)
theorem r_newa (F : CallFix p m c cc nL s args gtbl own) (I : Inv g N ln S s H locs) {x : Int32} {B : Nat} {K : Nat → (Nat → Nat) → HC → Prop} (h : na_ N 9 x B ln S K) (hw : Cond.arrayClass .int ∈ gtbl) (hcs : cells + 1 ≤ R.cells ∧ slots + B ≤ R.slots) (hB : B * 4 ≤ 536870912) (hdg : decode cc pc = .ok (.newarray .int, 2))
    (kk : ∀ (N1 : Nat) (ln1 : Nat → Nat) (S1 : HC) (H1 : Heap), N < N1 → kd N = 9 → Inv g N1 ln1 S1 s H1 locs → K N1 ln1 S1 → W p l e R s m args below meth c H1 locs (cells + 1) (slots + B) Q (F0 m (pc + 2) ls (.ref (gz g + N) :: rest))) : W p l e R s m args below meth c H locs cells slots Q (F0 m pc ls (.int x :: rest)) := by
  obtain ⟨hk, ⟨hx, hxB⟩, hK⟩ := h
  refine va_newaK (atype := .int) F.1 F.2.1 (F.2.2.2.2 _ hw) rfl hdg rfl hx rfl (Nat.le_trans (Nat.mul_le_mul_right _ hxB) hB) hcs.1 (by omega) I.sz fun H1 cA e1 z1 o1 _ hNm => ?_
  refine W.widen (k := cells + 1) (n := slots + B) (Nat.le_refl _) (by omega) ?_
  refine kk _ _ _ H1 (Nat.lt_succ_self N) hk (r_newa0 I hk (t0 := 0) (ty := .int) rfl hNm (fun H1 e1 ec => ?_) (fun a b h1 h2 => ra_u h1 h2) e1 z1 o1) hK
  rw [ce_i hk (Or.inl rfl), ← ec]
  show H1[gz g + N]? = some (vp_cell _ _)
  rw [vp_cell_i, e1]
  simp [hI, nw, up1, va_up, defaultValue]
theorem r_newaJ (F : CallFix p m c cc nL s args gtbl own) (I : Inv g N ln S s H locs) {x : Int32} {B : Nat} {K : Nat → (Nat → Nat) → HC → Prop} (h : na_ N 10 x B ln S K) (hw : Cond.arrayClass .long ∈ gtbl) (hcs : cells + 1 ≤ R.cells ∧ slots + B ≤ R.slots) (hB : B * 8 ≤ 536870912) (hdg : decode cc pc = .ok (.newarray .long, 2))
    (kk : ∀ (N1 : Nat) (ln1 : Nat → Nat) (S1 : HC) (H1 : Heap), N < N1 → kd N = 10 → Inv g N1 ln1 S1 s H1 locs → K N1 ln1 S1 → W p l e R s m args below meth c H1 locs (cells + 1) (slots + B) Q (F0 m (pc + 2) ls (.ref (gz g + N) :: rest))) : W p l e R s m args below meth c H locs cells slots Q (F0 m pc ls (.int x :: rest)) := by
  obtain ⟨hk, ⟨hx, hxB⟩, hK⟩ := h
  refine va_newaK (atype := .long) F.1 F.2.1 (F.2.2.2.2 _ hw) rfl hdg rfl hx rfl (Nat.le_trans (Nat.mul_le_mul_right _ hxB) hB) hcs.1 (by omega) I.sz fun H1 cA e1 z1 o1 _ hNm => ?_
  refine W.widen (k := cells + 1) (n := slots + B) (Nat.le_refl _) (by omega) ?_
  refine kk _ _ _ H1 (Nat.lt_succ_self N) hk (r_newa0 I hk (t0 := 1) (ty := .long) rfl hNm (fun H1 e1 ec => ?_) (fun a b h1 h2 => ra_u h1 h2) e1 z1 o1) hK
  rw [ce_j hk, ← ec]
  show H1[gz g + N]? = some (vp_cell _ _)
  rw [vp_cell_l, e1]
  simp [hJ, nw, up1, va_up, defaultValue]
theorem r_newaZ (F : CallFix p m c cc nL s args gtbl own) (I : Inv g N ln S s H locs) {x : Int32} {B : Nat} {K : Nat → (Nat → Nat) → HC → Prop} (h : na_ N 11 x B ln S K) (hw : Cond.arrayClass .boolean ∈ gtbl) (hcs : cells + 1 ≤ R.cells ∧ slots + B ≤ R.slots) (hB : B * 1 ≤ 536870912) (hdg : decode cc pc = .ok (.newarray .boolean, 2))
    (kk : ∀ (N1 : Nat) (ln1 : Nat → Nat) (S1 : HC) (H1 : Heap), N < N1 → kd N = 11 → Inv g N1 ln1 S1 s H1 locs → K N1 ln1 S1 → W p l e R s m args below meth c H1 locs (cells + 1) (slots + B) Q (F0 m (pc + 2) ls (.ref (gz g + N) :: rest))) : W p l e R s m args below meth c H locs cells slots Q (F0 m pc ls (.int x :: rest)) := by
  obtain ⟨hk, ⟨hx, hxB⟩, hK⟩ := h
  refine va_newaK (atype := .boolean) F.1 F.2.1 (F.2.2.2.2 _ hw) rfl hdg rfl hx rfl (Nat.le_trans (Nat.mul_le_mul_right _ hxB) hB) hcs.1 (by omega) I.sz fun H1 cA e1 z1 o1 _ hNm => ?_
  refine W.widen (k := cells + 1) (n := slots + B) (Nat.le_refl _) (by omega) ?_
  refine kk _ _ _ H1 (Nat.lt_succ_self N) hk (r_newa0 I hk (t0 := 2) (ty := .boolean) rfl hNm (fun H1 e1 ec => ?_) (fun a b h1 h2 => ra_u h1 h2) e1 z1 o1) hK
  rw [ce_i hk (Or.inr (Or.inl rfl)), ← ec]
  show H1[gz g + N]? = some (vp_cell _ _)
  rw [vp_cell_i, e1]
  simp [hI, nw, up1, va_up, defaultValue]
theorem r_newaC (F : CallFix p m c cc nL s args gtbl own) (I : Inv g N ln S s H locs) {x : Int32} {B : Nat} {K : Nat → (Nat → Nat) → HC → Prop} (h : na_ N 12 x B ln S K) (hw : Cond.arrayClass .char ∈ gtbl) (hcs : cells + 1 ≤ R.cells ∧ slots + B ≤ R.slots) (hB : B * 2 ≤ 536870912) (hdg : decode cc pc = .ok (.newarray .char, 2))
    (kk : ∀ (N1 : Nat) (ln1 : Nat → Nat) (S1 : HC) (H1 : Heap), N < N1 → kd N = 12 → Inv g N1 ln1 S1 s H1 locs → K N1 ln1 S1 → W p l e R s m args below meth c H1 locs (cells + 1) (slots + B) Q (F0 m (pc + 2) ls (.ref (gz g + N) :: rest))) : W p l e R s m args below meth c H locs cells slots Q (F0 m pc ls (.int x :: rest)) := by
  obtain ⟨hk, ⟨hx, hxB⟩, hK⟩ := h
  refine va_newaK (atype := .char) F.1 F.2.1 (F.2.2.2.2 _ hw) rfl hdg rfl hx rfl (Nat.le_trans (Nat.mul_le_mul_right _ hxB) hB) hcs.1 (by omega) I.sz fun H1 cA e1 z1 o1 _ hNm => ?_
  refine W.widen (k := cells + 1) (n := slots + B) (Nat.le_refl _) (by omega) ?_
  refine kk _ _ _ H1 (Nat.lt_succ_self N) hk (r_newa0 I hk (t0 := 3) (ty := .char) rfl hNm (fun H1 e1 ec => ?_) (fun a b h1 h2 => ra_u h1 h2) e1 z1 o1) hK
  rw [ce_i hk (Or.inr (Or.inr rfl)), ← ec]
  show H1[gz g + N]? = some (vp_cell _ _)
  rw [vp_cell_i, e1]
  simp [hI, nw, up1, va_up, defaultValue]
theorem r_newq (F : CallFix p m c cc nL s args gtbl own) (I : Inv g N ln S s H locs) {x : Int32} {q B : Nat} {C : String} {K : Nat → (Nat → Nat) → HC → Prop} (h : na_ N q x B ln S K) (hq : 13 ≤ q) (ht : (tyL (gA g))[q - 9]? = some (gA g q, .object C)) (hw : Cond.classLink own idx C ∈ gtbl) (ho : OldV g s → va_AO C s) (hcs : cells + 1 ≤ R.cells ∧ slots + B ≤ R.slots) (hB : B * 4 ≤ 536870912) (hdg : decode cc pc = .ok (.anewarray idx, 3))
    (kk : ∀ (N1 : Nat) (ln1 : Nat → Nat) (S1 : HC) (H1 : Heap), N < N1 → kd N = q → Inv g N1 ln1 S1 s H1 locs → K N1 ln1 S1 → W p l e R s m args below meth c H1 locs (cells + 1) (slots + B) Q (F0 m (pc + 3) ls (.ref (gz g + N) :: rest))) : W p l e R s m args below meth c H locs cells slots Q (F0 m pc ls (.int x :: rest)) := by
  obtain ⟨hk, ⟨hx, hxB⟩, hK⟩ := h
  have hs := I.sz
  refine W.anew F.1 F.2.1 F.2.2.2.1 (F.2.2.2.2 _ hw) (va_AO.use (ho I.2.2.1.1)) rfl hdg rfl hx (Nat.le_trans (Nat.mul_le_mul_right _ hxB) hB) hcs.1 (by omega) fun cA kA comp f1 f2 f3 f4 => ?_
  refine W.widen (k := cells + 1) (n := slots + B) (Nat.le_refl _) (by omega) ?_
  have key : Inv g (N + 1) (va_up ln N x.toNatClampNeg) (nw S N) s (H.push ({ cls := cA, slots := Array.replicate x.toNatClampNeg .null, vm := .none } : Cell)) locs := by
    refine I.push (by simp) (fun q hq => by rw [Array.getElem?_push, if_neg (Nat.ne_of_lt hq)]) (fun a ha => va_up_ne _ _ ha) ?_
    obtain ⟨-, kA2, comp2, g1, g2, g3, g4⟩ := I.K.2 (q - 9) _ ht
    have ec : cA = gA g q := Option.some.inj (f1.symm.trans g4)
    rw [ce_r hk hq, ← ec]
    show (H.push _)[gz g + N]? = some (vp_cell _ _)
    rw [vp_cell_q, ← hs, Array.getElem?_push_size, arrV_new]
    simp [hR, nw, up1, va_up, va_rf]
  have := kk _ _ _ _ (Nat.lt_succ_self N) hk key hK
  rw [← hs] at this
  exact this
theorem r_kget (F : CallFix p m c cc nL s args gtbl own) (I : Inv g N ln S s H locs) (hw : Cond.fieldLink own idx RX7 "KIND_ABOVE" "[I" ∈ gtbl) (hdg : decode cc pc = .ok (.getstatic idx, 3)) (kk : W p l e R s m args below meth c H locs cells slots Q (F0 m (pc + 3) ls (.ref (gT g) :: rest))) : W p l e R s m args below meth c H locs cells slots Q (F0 m pc ls rest) :=
  va_gets F.1 F.2.1 I.2.2.1.2.1.1.1 I.S F.2.2.2.1 (F.2.2.2.2 _ hw) (fun _ h => h) hdg kk
theorem r_kald (F : CallFix p m c cc nL s args gtbl own) (I : Inv g N ln S s H locs) (hdg : decode cc pc = .ok (.iaload, 1)) {i : Int32} {K : Int32 → Prop} (h : al_ 6 i (fun j => kaL.getD j 0) K) (kk : ∀ v, K v → W p l e R s m args below meth c H locs cells slots Q (F0 m (pc + 1) ls (.int v :: rest))) : W p l e R s m args below meth c H locs cells slots Q (F0 m pc ls (.int i :: .ref (gT g) :: rest)) :=
  va_ti F.1 F.2.1 I.2.2.1.2.1.1.2 I.S h.1 rfl hdg (kk _ h.2)
def cp_ (ln : Nat → Nat) (S : HC) (r1 : Nat) (sp : Int32) (r2 : Nat) (dp n : Int32) (K : HC → Prop) : Prop := (¬ sp < 0 ∧ ¬ dp < 0 ∧ ¬ n < 0) ∧ (sp.toNatClampNeg + n.toNatClampNeg ≤ ln r1 ∧ dp.toNatClampNeg + n.toNatClampNeg ≤ ln r2) ∧ K (sC S r1 sp.toNatClampNeg r2 dp.toNatClampNeg n.toNatClampNeg)
theorem mm_max : Cond.code Lib.Math.max.name Lib.Math.max.code 2 (some .int) ∈ gtbl := gt_ 419 (by decide +kernel) (by decide +kernel)
theorem mm_max_n : Lib.Math.max.name = yJ9_max_7cf53 := by decide +kernel
theorem r_mmax (F : CallFix p m c cc nL s args gtbl own) (hsz : ls.size = nL) (hw : Cond.methodLink own idx yJ9_max_7cf53 ∈ gtbl) (hfr : 1 ≤ R.frames) (hlo : (rest.map fun v => v.category).sum + 13 ≤ R.locals) (hc : cells ≤ R.cells) (hs : slots ≤ R.slots) {x y : Int32} (hdg : decode cc pc = .ok (.invokestatic idx, 3)) {K : Int32 → Prop} (h : lt_ (if x < y then y else x) K) (kk : ∀ z, K z → W p l e R s m args below meth c H locs cells slots Q (F0 m (pc + 3) ls (.int z :: rest))) : W p l e R s m args below meth c H locs cells slots Q (F0 m pc ls (.int y :: .int x :: rest)) :=
  va_mmax F.1 F.2.1 (F.2.2.1.trans hsz.symm) F.2.2.2.1 (F.2.2.2.2 _ (by rw [mm_max_n]; exact hw)) (F.2.2.2.2 _ (by rw [mm_max_n]; exact tw_418)) (F.2.2.2.2 _ tw_68) (F.2.2.2.2 _ mm_max) hfr hlo hc hs hdg (kk _ h)
theorem mm_min : Cond.code Lib.Math.min.name Lib.Math.min.code 2 (some .int) ∈ gtbl := gt_ 379 (by decide +kernel) (by decide +kernel)
theorem mm_min_n : Lib.Math.min.name = yJ9_min_7cf53 := by decide +kernel
theorem r_mmin (F : CallFix p m c cc nL s args gtbl own) (hsz : ls.size = nL) (hw : Cond.methodLink own idx yJ9_min_7cf53 ∈ gtbl) (hfr : 1 ≤ R.frames) (hlo : (rest.map fun v => v.category).sum + 13 ≤ R.locals) (hc : cells ≤ R.cells) (hs : slots ≤ R.slots) {x y : Int32} (hdg : decode cc pc = .ok (.invokestatic idx, 3)) {K : Int32 → Prop} (h : lt_ (if y < x then y else x) K) (kk : ∀ z, K z → W p l e R s m args below meth c H locs cells slots Q (F0 m (pc + 3) ls (.int z :: rest))) : W p l e R s m args below meth c H locs cells slots Q (F0 m pc ls (.int y :: .int x :: rest)) :=
  va_mmin F.1 F.2.1 (F.2.2.1.trans hsz.symm) F.2.2.2.1 (F.2.2.2.2 _ (by rw [mm_min_n]; exact hw)) (F.2.2.2.2 _ (by rw [mm_min_n]; exact tw_378)) (F.2.2.2.2 _ tw_68) (F.2.2.2.2 _ mm_min) hfr hlo hc hs hdg (kk _ h)
theorem mm_abs : Cond.code Lib.Math.abs.name Lib.Math.abs.code 1 (some .int) ∈ gtbl := gt_ 609 (by decide +kernel) (by decide +kernel)
theorem mm_abs_n : Lib.Math.abs.name = yJ9_abs_0f7a4 := by decide +kernel
theorem r_mabs (F : CallFix p m c cc nL s args gtbl own) (hsz : ls.size = nL) (hw : Cond.methodLink own idx yJ9_abs_0f7a4 ∈ gtbl) (hfr : 1 ≤ R.frames) (hlo : (rest.map fun v => v.category).sum + 13 ≤ R.locals) (hc : cells ≤ R.cells) (hs : slots ≤ R.slots) {x : Int32} (hdg : decode cc pc = .ok (.invokestatic idx, 3)) {K : Int32 → Prop} (h : lt_ (if 0 ≤ x then x else 0 - x) K) (kk : ∀ z, K z → W p l e R s m args below meth c H locs cells slots Q (F0 m (pc + 3) ls (.int z :: rest))) : W p l e R s m args below meth c H locs cells slots Q (F0 m pc ls (.int x :: rest)) :=
  va_mabs F.1 F.2.1 (F.2.2.1.trans hsz.symm) F.2.2.2.1 (F.2.2.2.2 _ (by rw [mm_abs_n]; exact hw)) (F.2.2.2.2 _ (by rw [mm_abs_n]; exact tw_608)) (F.2.2.2.2 _ tw_68) (F.2.2.2.2 _ mm_abs) hfr hlo hc hs hdg (kk _ h)
theorem toInt_nn {z : Int32} (hz : ¬ z < 0) : z.toInt = (z.toNatClampNeg : Int) := by
  have hz0 : (0 : Int) ≤ z.toInt := by
    have := Int32.not_lt.mp hz
    simpa using Int32.le_iff_toInt_le.mp this
  show z.toInt = ((z.toInt.toNat : Nat) : Int)
  omega
theorem r_copy (F : CallFix p m c cc nL s args gtbl own) (I : Inv g N ln S s H locs) {r1 r2 : Nat} (hr1 : r1 < N) (hk1 : kd r1 = 9) (hr2 : r2 < N) (hk2 : kd r2 = 9) (hsz : ls.size = nL) (w1 : Cond.methodLink own idx arraycopyName ∈ gtbl) (w2 : Cond.native arraycopyName ∈ gtbl) (w3 : Cond.static arraycopyName ∈ gtbl) (w4 : Cond.initialized "java/lang/System" ∈ gtbl) (hfr : 1 ≤ R.frames) (hlo : (rest.map fun v => v.category).sum + (nativeFrameWords "java/lang/System" "arraycopy" 5 + 11) ≤ R.locals) (hdg : decode cc pc = .ok (.invokestatic idx, 3)) {sp dp n : Int32} {K : HC → Prop} (h : cp_ ln S r1 sp r2 dp n K)
    (kk : ∀ (S1 : HC) (H1 : Heap) (locs1 : List Loc), Inv g N ln S1 s H1 locs1 → K S1 → W p l e R s m args below meth c H1 locs1 cells slots Q (F0 m (pc + 3) ls rest)) : W p l e R s m args below meth c H locs cells slots Q (F0 m pc ls (.int n :: .int dp :: .ref (gz g + r2) :: .int sp :: .ref (gz g + r1) :: rest)) := by
  obtain ⟨⟨h1, h2, h3⟩, ⟨h4, h5⟩, h6⟩ := h
  obtain ⟨hx, hb, hml, hown, hts⟩ := F
  intro T hT X
  have hc1 : H[gz g + r1]? = some (vp_cell (gA g 9) (ln r1, .inl (hI S r1))) := I.P r1 _ (wl_eq hr1 (ce_i hk1 (Or.inl rfl)))
  have hc2 : H[gz g + r2]? = some (vp_cell (gA g 9) (ln r2, .inl (hI S r2))) := I.P r2 _ (wl_eq hr2 (ce_i hk2 (Or.inl rfl)))
  obtain ⟨-, k0, hk0, cm0, hkk0⟩ := (I.K.2 0 _ rfl).1 (ln r1) (fun j => .int (hI S r1 j))
  obtain ⟨-, k1, hk1', cm1, hkk1⟩ := (I.K.2 0 _ rfl).1 (ln r2) (fun j => .int (hI S r2 j))
  obtain ⟨vm', X', step⟩ := X.arraycopy hx hown (hts _ w1) (hts _ w2) (hts _ w3) (hts _ w4) (src := gz g + r1) (dst := gz g + r2) (cs := vp_cell (gA g 9) (ln r1, .inl (hI S r1))) (cd := vp_cell (gA g 9) (ln r2, .inl (hI S r2))) (srcPos := sp) (destPos := dp) (n := n) (by rw [hT]; exact hc1) (by rw [hT]; exact hc2)
    (fun _ h => by cases h) (fun _ h => by cases h) (fun h => by cases h) (fun h => by cases h) hk0 hk1' hkk0 hkk1 (by show (refKind .int != refKind .int || !refKind .int && FieldType.int != FieldType.int) = false; decide) h1 h2 h3
    (by rw [toInt_nn h1, toInt_nn h3]; show ¬ _ > ((arrV _ (ln r1) _).slots.size : Int); rw [arrV_size]; omega)
    (by rw [toInt_nn h2, toInt_nn h3]; show ¬ _ > ((arrV _ (ln r2) _).slots.size : Int); rw [arrV_size]; omega)
    (fun vm₁ _ i hi => by
      have e : (vp_cell (gA g 9) (ln r1, .inl (hI S r1))).slots.getD (sp.toNatClampNeg + i) .null = .int (hI S r1 (sp.toNatClampNeg + i)) := by
        show (arrV _ (ln r1) (fun j => .int (hI S r1 j))).slots.getD _ _ = _
        rw [Array.getD_eq_getD_getElem?, arrV_read _ _ (by omega)]
        rfl
      rw [e]
      exact ⟨rfl, trivial⟩)
    (g := F0 m pc ls (.int n :: .int dp :: .ref (gz g + r2) :: .int sp :: .ref (gz g + r1) :: rest)) rfl (by rw [hml]; exact hsz) (rest := rest) rfl (by rw [hb]; exact hdg) hfr (by show 2 * 0 + _ + _ ≤ _; omega)
  have e1 : copied (vp_cell (gA g 9) (ln r1, .inl (hI S r1))) (vp_cell (gA g 9) (ln r2, .inl (hI S r2))) sp dp n = vp_cell (gA g 9) (ln r2, .inl (va_cpy (hI S r1) (hI S r2) sp.toNatClampNeg dp.toNatClampNeg n.toNatClampNeg)) := va_copied (fun z => .int z) _ _ _ _ h4
  rw [e1] at X' step
  have hl : gz g + r2 < H.size := (Array.getElem?_eq_some_iff.mp hc2).1
  have hheap : ((T.setVm vm').setCell (gz g + r2) (vp_cell (gA g 9) (ln r2, .inl (va_cpy (hI S r1) (hI S r2) sp.toNatClampNeg dp.toNatClampNeg n.toNatClampNeg)))).heap = H.setIfInBounds (gz g + r2) (vp_cell (gA g 9) (ln r2, .inl (va_cpy (hI S r1) (hI S r2) sp.toNatClampNeg dp.toNatClampNeg n.toNatClampNeg))) := by rw [← hT]; rfl
  have oq : ∀ q : Nat, q ≠ gz g + r2 → (H.setIfInBounds (gz g + r2) (vp_cell (gA g 9) (ln r2, .inl (va_cpy (hI S r1) (hI S r2) sp.toNatClampNeg dp.toNatClampNeg n.toNatClampNeg))))[q]? = H[q]? := fun q hq => by simp [Array.getElem?_setIfInBounds, Ne.symm hq]
  have I1 : Inv g N ln (sC S r1 sp.toNatClampNeg r2 dp.toNatClampNeg n.toNatClampNeg) s (H.setIfInBounds (gz g + r2) (vp_cell (gA g 9) (ln r2, .inl (va_cpy (hI S r1) (hI S r2) sp.toNatClampNeg dp.toNatClampNeg n.toNatClampNeg)))) (locs ++ [⟨gz g + r2, 0⟩]) := by
    refine I.wr2 hr2 ?_ (by simp) oq ce_sC (I.T.sC _ _ _ _ _)
    rw [ce_i hk2 (Or.inl rfl)]
    show (H.setIfInBounds (gz g + r2) _)[gz g + r2]? = some (vp_cell _ _)
    rw [show hI (sC S r1 sp.toNatClampNeg r2 dp.toNatClampNeg n.toNatClampNeg) r2 = va_cpy (hI S r1) (hI S r2) sp.toNatClampNeg dp.toNatClampNeg n.toNatClampNeg by funext b; simp [hI, sC, up1]; rfl]
    simp [Array.getElem?_setIfInBounds, hl]
  have I2 : ∀ locs1, (∀ q ∈ locs1, gF g q.base) → Inv g N ln (sC S r1 sp.toNatClampNeg r2 dp.toNatClampNeg n.toNatClampNeg) s (H.setIfInBounds (gz g + r2) (vp_cell (gA g 9) (ln r2, .inl (va_cpy (hI S r1) (hI S r2) sp.toNatClampNeg dp.toNatClampNeg n.toNatClampNeg)))) locs1 := fun locs1 hq => ⟨I1.1, I1.2.1, I1.2.2.1, I1.S.1, I1.S.2.1, hq⟩
  obtain ⟨t, a1, b1⟩ := kk _ _ _ (I2 _ (fun q hq => by
      rcases List.mem_append.mp hq with h | h
      · exact I.S.2.2 q h
      · obtain ⟨z, -, hz⟩ := List.mem_map.mp h
        rw [← hz]
        exact Nat.le_add_right _ _)) h6 _ hheap X'
  exact ⟨t, step t a1, b1⟩
end RY
end
section
theorem dX0_has_0 : decode cX0_has 0 = .ok (.iload_n 1, 1) := by decide +kernel
theorem dX0_has_1 : decode cX0_has 1 = .ok (.ifCond .lt 21, 3) := by decide +kernel
theorem dX0_has_4 : decode cX0_has 4 = .ok (.iload_n 1, 1) := by decide +kernel
theorem dX0_has_5 : decode cX0_has 5 = .ok (.aload_n 0, 1) := by decide +kernel
theorem dX0_has_6 : decode cX0_has 6 = .ok (.getfield 30, 3) := by decide +kernel
theorem dX0_has_9 : decode cX0_has 9 = .ok (.if_icmp .ge 13, 3) := by decide +kernel
theorem dX0_has_12 : decode cX0_has 12 = .ok (.iload_n 1, 1) := by decide +kernel
theorem dX0_has_13 : decode cX0_has 13 = .ok (.bipush 14, 2) := by decide +kernel
theorem dX0_has_15 : decode cX0_has 15 = .ok (.if_icmp .ge 7, 3) := by decide +kernel
theorem dX0_has_18 : decode cX0_has 18 = .ok (.iconst 1, 1) := by decide +kernel
theorem dX0_has_19 : decode cX0_has 19 = .ok (.goto 4, 3) := by decide +kernel
theorem dX0_has_22 : decode cX0_has 22 = .ok (.iconst 0, 1) := by decide +kernel
theorem dX0_has_23 : decode cX0_has 23 = .ok (.ireturn, 1) := by decide +kernel
theorem fX0_30 : fldOK RX0 30 0 6 .int false := ⟨_, _, _, tyX0, ⟨rfl, iX0, by decide, rfl, by decide⟩, tw_110, ⟨tyX0_ok, nmX0⟩, by decide +kernel, rfl, rfl⟩
def BX0_has_22 (ln : Nat → Nat) (post : Int32 → HC → Prop) (S : HC)  : Prop := rb_ .boolean (0 : Int32) (post (0 : Int32) S)
def wpX0_has (ln : Nat → Nat) (S : HC) (a0 : Nat) (a1 : Int32) (post : Int32 → HC → Prop) : Prop := if a1 < 0 then (BX0_has_22 ln post S) else (lt_ (hI S a0 6) fun z1 => if z1 ≤ a1 then (BX0_has_22 ln post S) else (if (14 : Int32) ≤ a1 then (BX0_has_22 ln post S) else (rb_ .boolean (1 : Int32) (post (1 : Int32) S))))
abbrev rmX0_has : Room := { frames := 0, cells := 0, slots := 0, locals := 0 }
set_option maxHeartbeats 4000000 in
set_option maxRecDepth 100000 in
theorem ctX0_has {l : Launch} {g : GX} {N : Nat} {ln : Nat → Nat} {S : HC} {a0 : Nat} {a1 : Int32} {post : Int32 → HC → Prop} (hr_a0 : a0 < N) (hk_a0 : kd a0 = 0) (h : wpX0_has ln S a0 a1 post) : Met l yX0_has (Cond.code yX0_has prog_2_method_3_code 2 (Option.some Jvm.ClassFile.FieldType.boolean) :: gtbl) rmX0_has (va_Pc [.ref (gz g + a0), .int a1] (AtP g N ln S)) (QI g N ln post) 0 0 (gF g) := by
  refine m_of (by decide) (Nat.le_of_ble_eq_true rfl) ?_
  intro p e s m below meth c ls F hr I hl
  have hl : lv_has ls 2 [(0, .ref (gz g + a0)), (1, .int a1)] := hl
  unfold wpX0_has at h
  have hj_22 : ∀ (S : HC) (H : Heap) (locs : List Loc) (ls : Array Slot), BX0_has_22 ln post S  → Inv g N ln S s H locs → lv_has ls 2 [] → W p l e rmX0_has s m ([.ref (gz g + a0), .int a1] : List Value).toArray below meth c H locs 0 0 (MQ below (QI g N ln post) ([.ref (gz g + a0), .int a1] : List Value).toArray s 0 0 (gF g)) (F0 m 22 ls []) := by
    intro S H locs ls h I hl
    unfold BX0_has_22 at h
    refine lv_iconst (v := 0) F.1 F.2.1 dX0_has_22 (by decide) ?_
    exact r_zreturn F I ⟨hr.1, hr.2.1, trivial⟩ h dX0_has_23
  refine lv_iload_n F.1 F.2.1 dX0_has_0 rfl (lv_at hl 1 rfl) ?_
  refine r_if_lt (tgt := 22) F dX0_has_1 (by decide) h (fun h => ?_) (fun h => ?_)
  · exact hj_22 S _ _ _   h I (lv_sub hl [] rfl)
  · refine lv_iload_n F.1 F.2.1 dX0_has_4 rfl (lv_at hl 1 rfl) ?_
    refine lv_aload_n F.1 F.2.1 dX0_has_5 rfl (lv_at hl 0 rfl) ?_
    refine r_getI F I hr_a0 hk_a0 fX0_30 rfl dX0_has_6 h (fun z1 h => ?_)
    refine r_icmp_ge (tgt := 22) F dX0_has_9 (by decide) h (fun h => ?_) (fun h => ?_)
    · exact hj_22 S _ _ _   h I (lv_sub hl [] rfl)
    · refine lv_iload_n F.1 F.2.1 dX0_has_12 rfl (lv_at hl 1 rfl) ?_
      refine lv_bipush (v := 14) F.1 F.2.1 dX0_has_13 (by decide) ?_
      refine r_icmp_ge (tgt := 22) F dX0_has_15 (by decide) h (fun h => ?_) (fun h => ?_)
      · exact hj_22 S _ _ _   h I (lv_sub hl [] rfl)
      · refine lv_iconst (v := 1) F.1 F.2.1 dX0_has_18 (by decide) ?_
        refine lv_goto (tgt := 23) F.1 F.2.1 dX0_has_19 (by decide) ?_
        exact r_zreturn F I ⟨hr.1, hr.2.1, trivial⟩ h dX0_has_23
theorem dX0_hasRoom_0 : decode cX0_hasRoom 0 = .ok (.aload_n 0, 1) := by decide +kernel
theorem dX0_hasRoom_1 : decode cX0_hasRoom 1 = .ok (.getfield 30, 3) := by decide +kernel
theorem dX0_hasRoom_4 : decode cX0_hasRoom 4 = .ok (.ifCond .lt 16, 3) := by decide +kernel
theorem dX0_hasRoom_7 : decode cX0_hasRoom 7 = .ok (.aload_n 0, 1) := by decide +kernel
theorem dX0_hasRoom_8 : decode cX0_hasRoom 8 = .ok (.getfield 30, 3) := by decide +kernel
theorem dX0_hasRoom_11 : decode cX0_hasRoom 11 = .ok (.bipush 14, 2) := by decide +kernel
theorem dX0_hasRoom_13 : decode cX0_hasRoom 13 = .ok (.if_icmp .ge 7, 3) := by decide +kernel
theorem dX0_hasRoom_16 : decode cX0_hasRoom 16 = .ok (.iconst 1, 1) := by decide +kernel
theorem dX0_hasRoom_17 : decode cX0_hasRoom 17 = .ok (.goto 4, 3) := by decide +kernel
theorem dX0_hasRoom_20 : decode cX0_hasRoom 20 = .ok (.iconst 0, 1) := by decide +kernel
theorem dX0_hasRoom_21 : decode cX0_hasRoom 21 = .ok (.ireturn, 1) := by decide +kernel
def BX0_hasRoom_20 (ln : Nat → Nat) (post : Int32 → HC → Prop) (S : HC)  : Prop := rb_ .boolean (0 : Int32) (post (0 : Int32) S)
def wpX0_hasRoom (ln : Nat → Nat) (S : HC) (a0 : Nat) (post : Int32 → HC → Prop) : Prop := lt_ (hI S a0 6) fun z1 => if z1 < 0 then (BX0_hasRoom_20 ln post S) else (lt_ (hI S a0 6) fun z2 => if (14 : Int32) ≤ z2 then (BX0_hasRoom_20 ln post S) else (rb_ .boolean (1 : Int32) (post (1 : Int32) S)))
abbrev rmX0_hasRoom : Room := { frames := 0, cells := 0, slots := 0, locals := 0 }
set_option maxHeartbeats 4000000 in
set_option maxRecDepth 100000 in
theorem ctX0_hasRoom {l : Launch} {g : GX} {N : Nat} {ln : Nat → Nat} {S : HC} {a0 : Nat} {post : Int32 → HC → Prop} (hr_a0 : a0 < N) (hk_a0 : kd a0 = 0) (h : wpX0_hasRoom ln S a0 post) : Met l yX0_hasRoom (Cond.code yX0_hasRoom prog_2_method_4_code 1 (Option.some Jvm.ClassFile.FieldType.boolean) :: gtbl) rmX0_hasRoom (va_Pc [.ref (gz g + a0)] (AtP g N ln S)) (QI g N ln post) 0 0 (gF g) := by
  refine m_of (by decide) (Nat.le_of_ble_eq_true rfl) ?_
  intro p e s m below meth c ls F hr I hl
  have hl : lv_has ls 1 [(0, .ref (gz g + a0))] := hl
  unfold wpX0_hasRoom at h
  have hj_20 : ∀ (S : HC) (H : Heap) (locs : List Loc) (ls : Array Slot), BX0_hasRoom_20 ln post S  → Inv g N ln S s H locs → lv_has ls 1 [] → W p l e rmX0_hasRoom s m ([.ref (gz g + a0)] : List Value).toArray below meth c H locs 0 0 (MQ below (QI g N ln post) ([.ref (gz g + a0)] : List Value).toArray s 0 0 (gF g)) (F0 m 20 ls []) := by
    intro S H locs ls h I hl
    unfold BX0_hasRoom_20 at h
    refine lv_iconst (v := 0) F.1 F.2.1 dX0_hasRoom_20 (by decide) ?_
    exact r_zreturn F I ⟨hr.1, hr.2.1, trivial⟩ h dX0_hasRoom_21
  refine lv_aload_n F.1 F.2.1 dX0_hasRoom_0 rfl (lv_at hl 0 rfl) ?_
  refine r_getI F I hr_a0 hk_a0 fX0_30 rfl dX0_hasRoom_1 h (fun z1 h => ?_)
  refine r_if_lt (tgt := 20) F dX0_hasRoom_4 (by decide) h (fun h => ?_) (fun h => ?_)
  · exact hj_20 S _ _ _   h I (lv_sub hl [] rfl)
  · refine lv_aload_n F.1 F.2.1 dX0_hasRoom_7 rfl (lv_at hl 0 rfl) ?_
    refine r_getI F I hr_a0 hk_a0 fX0_30 rfl dX0_hasRoom_8 h (fun z2 h => ?_)
    refine lv_bipush (v := 14) F.1 F.2.1 dX0_hasRoom_11 (by decide) ?_
    refine r_icmp_ge (tgt := 20) F dX0_hasRoom_13 (by decide) h (fun h => ?_) (fun h => ?_)
    · exact hj_20 S _ _ _   h I (lv_sub hl [] rfl)
    · refine lv_iconst (v := 1) F.1 F.2.1 dX0_hasRoom_16 (by decide) ?_
      refine lv_goto (tgt := 21) F.1 F.2.1 dX0_hasRoom_17 (by decide) ?_
      exact r_zreturn F I ⟨hr.1, hr.2.1, trivial⟩ h dX0_hasRoom_21
theorem dX0_canBeParent_0 : decode cX0_canBeParent 0 = .ok (.iload_n 1, 1) := by decide +kernel
theorem dX0_canBeParent_1 : decode cX0_canBeParent 1 = .ok (.iconst (-1), 1) := by decide +kernel
theorem dX0_canBeParent_2 : decode cX0_canBeParent 2 = .ok (.if_icmp .eq 21, 3) := by decide +kernel
theorem dX0_canBeParent_5 : decode cX0_canBeParent 5 = .ok (.aload_n 0, 1) := by decide +kernel
theorem dX0_canBeParent_6 : decode cX0_canBeParent 6 = .ok (.iload_n 1, 1) := by decide +kernel
theorem dX0_canBeParent_7 : decode cX0_canBeParent 7 = .ok (.invokevirtual 52, 3) := by decide +kernel
theorem dX0_canBeParent_10 : decode cX0_canBeParent 10 = .ok (.ifCond .eq 17, 3) := by decide +kernel
theorem dX0_canBeParent_13 : decode cX0_canBeParent 13 = .ok (.aload_n 0, 1) := by decide +kernel
theorem dX0_canBeParent_14 : decode cX0_canBeParent 14 = .ok (.getfield 21, 3) := by decide +kernel
theorem dX0_canBeParent_17 : decode cX0_canBeParent 17 = .ok (.iload_n 1, 1) := by decide +kernel
theorem dX0_canBeParent_18 : decode cX0_canBeParent 18 = .ok (.iaload, 1) := by decide +kernel
theorem dX0_canBeParent_19 : decode cX0_canBeParent 19 = .ok (.iload_n 2, 1) := by decide +kernel
theorem dX0_canBeParent_20 : decode cX0_canBeParent 20 = .ok (.if_icmp .ne 7, 3) := by decide +kernel
theorem dX0_canBeParent_23 : decode cX0_canBeParent 23 = .ok (.iconst 1, 1) := by decide +kernel
theorem dX0_canBeParent_24 : decode cX0_canBeParent 24 = .ok (.goto 4, 3) := by decide +kernel
theorem dX0_canBeParent_27 : decode cX0_canBeParent 27 = .ok (.iconst 0, 1) := by decide +kernel
theorem dX0_canBeParent_28 : decode cX0_canBeParent 28 = .ok (.ireturn, 1) := by decide +kernel
theorem kX0_52 : mthV RX0 52 0 yX0_has prog_2_method_3_code 2 (Option.some Jvm.ClassFile.FieldType.boolean) 1 := ⟨⟨⟨tw_330, tw_61, tw_333⟩, rfl, by decide +kernel⟩, tw_331, tw_332, rfl⟩
theorem fX0_21 : fldOK RX0 21 0 3 (.array .int) true := ⟨_, _, _, tyX0, ⟨rfl, iX0, by decide, rfl, by decide⟩, tw_102, ⟨tyX0_ok, nmX0⟩, by decide +kernel, rfl, rfl⟩
def BX0_canBeParent_27 (ln : Nat → Nat) (post : Int32 → HC → Prop) (S : HC)  : Prop := rb_ .boolean (0 : Int32) (post (0 : Int32) S)
def BX0_canBeParent_23 (ln : Nat → Nat) (post : Int32 → HC → Prop) (S : HC)  : Prop := rb_ .boolean (1 : Int32) (post (1 : Int32) S)
def wpX0_canBeParent (ln : Nat → Nat) (S : HC) (a0 : Nat) (a1 : Int32) (a2 : Int32) (post : Int32 → HC → Prop) : Prop := if a1 = (-1 : Int32) then (BX0_canBeParent_23 ln post S) else (wpX0_has ln S a0 a1 fun z1 S => if z1 = 0 then (BX0_canBeParent_27 ln post S) else (dn_ (hR S a0 3) fun b2 => al_ (ln b2) a1 (hI S b2) fun z3 => if z3 = a2 then (BX0_canBeParent_23 ln post S) else (BX0_canBeParent_27 ln post S)))
abbrev rmX0_canBeParent : Room := { frames := 1, cells := 0, slots := 0, locals := 21 }
set_option maxHeartbeats 4000000 in
set_option maxRecDepth 100000 in
theorem ctX0_canBeParent {l : Launch} {g : GX} {N : Nat} {ln : Nat → Nat} {S : HC} {a0 : Nat} {a1 : Int32} {a2 : Int32} {post : Int32 → HC → Prop} (hr_a0 : a0 < N) (hk_a0 : kd a0 = 0) (h : wpX0_canBeParent ln S a0 a1 a2 post) : Met l yX0_canBeParent (Cond.code yX0_canBeParent prog_2_method_5_code 3 (Option.some Jvm.ClassFile.FieldType.boolean) :: gtbl) rmX0_canBeParent (va_Pc [.ref (gz g + a0), .int a1, .int a2] (AtP g N ln S)) (QI g N ln post) 0 0 (gF g) := by
  refine m_of (by decide) (Nat.le_of_ble_eq_true rfl) ?_
  intro p e s m below meth c ls F hr I hl
  have hl : lv_has ls 3 [(0, .ref (gz g + a0)), (1, .int a1), (2, .int a2)] := hl
  unfold wpX0_canBeParent at h
  have hj_27 : ∀ (S : HC) (H : Heap) (locs : List Loc) (ls : Array Slot), BX0_canBeParent_27 ln post S  → Inv g N ln S s H locs → lv_has ls 3 [] → W p l e rmX0_canBeParent s m ([.ref (gz g + a0), .int a1, .int a2] : List Value).toArray below meth c H locs 0 0 (MQ below (QI g N ln post) ([.ref (gz g + a0), .int a1, .int a2] : List Value).toArray s 0 0 (gF g)) (F0 m 27 ls []) := by
    intro S H locs ls h I hl
    unfold BX0_canBeParent_27 at h
    refine lv_iconst (v := 0) F.1 F.2.1 dX0_canBeParent_27 (by decide) ?_
    exact r_zreturn F I ⟨hr.1, hr.2.1, trivial⟩ h dX0_canBeParent_28
  have hj_23 : ∀ (S : HC) (H : Heap) (locs : List Loc) (ls : Array Slot), BX0_canBeParent_23 ln post S  → Inv g N ln S s H locs → lv_has ls 3 [] → W p l e rmX0_canBeParent s m ([.ref (gz g + a0), .int a1, .int a2] : List Value).toArray below meth c H locs 0 0 (MQ below (QI g N ln post) ([.ref (gz g + a0), .int a1, .int a2] : List Value).toArray s 0 0 (gF g)) (F0 m 23 ls []) := by
    intro S H locs ls h I hl
    unfold BX0_canBeParent_23 at h
    refine lv_iconst (v := 1) F.1 F.2.1 dX0_canBeParent_23 (by decide) ?_
    refine lv_goto (tgt := 28) F.1 F.2.1 dX0_canBeParent_24 (by decide) ?_
    exact r_zreturn F I ⟨hr.1, hr.2.1, trivial⟩ h dX0_canBeParent_28
  refine lv_iload_n F.1 F.2.1 dX0_canBeParent_0 rfl (lv_at hl 1 rfl) ?_
  refine lv_iconst (v := -1) F.1 F.2.1 dX0_canBeParent_1 (by decide) ?_
  refine r_icmp_eq (tgt := 23) F dX0_canBeParent_2 (by decide) h (fun h => ?_) (fun h => ?_)
  · exact hj_23 S _ _ _   h I (lv_sub hl [] rfl)
  · refine lv_aload_n F.1 F.2.1 dX0_canBeParent_5 rfl (lv_at hl 0 rfl) ?_
    refine lv_iload_n F.1 F.2.1 dX0_canBeParent_6 rfl (lv_at hl 1 rfl) ?_
    refine g_I I (run_V (As := [.int a1]) (rest := []) F I hr_a0 hk_a0 (by decide) kX0_52 (ctX0_has hr_a0 hk_a0 h) ⟨rfl, rfl⟩ ⟨Nat.le_of_ble_eq_true rfl, Nat.le_of_ble_eq_true rfl⟩ rfl hl.1 rfl (Nat.le_of_ble_eq_true rfl) ⟨Nat.le_of_ble_eq_true rfl, Nat.le_of_ble_eq_true rfl⟩ dX0_canBeParent_7) (fun z1 S H locs I h => ?_)
    refine r_if_eq (tgt := 27) F dX0_canBeParent_10 (by decide) h (fun h => ?_) (fun h => ?_)
    · exact hj_27 S _ _ _   h I (lv_sub hl [] rfl)
    · refine lv_aload_n F.1 F.2.1 dX0_canBeParent_13 rfl (lv_at hl 0 rfl) ?_
      refine r_getN F I hr_a0 hk_a0 fX0_21 (f := 9) rfl (by decide) dX0_canBeParent_14 h (fun b2 hr_b2 hk_b2 h => ?_)
      refine lv_iload_n F.1 F.2.1 dX0_canBeParent_17 rfl (lv_at hl 1 rfl) ?_
      refine r_ald F I hr_b2 hk_b2 dX0_canBeParent_18 h (fun z3 h => ?_)
      refine lv_iload_n F.1 F.2.1 dX0_canBeParent_19 rfl (lv_at hl 2 rfl) ?_
      refine r_icmp_ne (tgt := 27) F dX0_canBeParent_20 (by decide) h (fun h => ?_) (fun h => ?_)
      · exact hj_27 S _ _ _   h I (lv_sub hl [] rfl)
      · exact hj_23 S _ _ _   h I (lv_sub hl [] rfl)
theorem dX0_add_0 : decode cX0_add 0 = .ok (.aload_n 0, 1) := by decide +kernel
theorem dX0_add_1 : decode cX0_add 1 = .ok (.invokevirtual 56, 3) := by decide +kernel
theorem dX0_add_4 : decode cX0_add 4 = .ok (.ifCond .ne 6, 3) := by decide +kernel
theorem dX0_add_7 : decode cX0_add 7 = .ok (.ldc 60, 2) := by decide +kernel
theorem dX0_add_9 : decode cX0_add 9 = .ok (.ireturn, 1) := by decide +kernel
theorem dX0_add_10 : decode cX0_add 10 = .ok (.aload_n 0, 1) := by decide +kernel
theorem dX0_add_11 : decode cX0_add 11 = .ok (.getfield 30, 3) := by decide +kernel
theorem dX0_add_14 : decode cX0_add 14 = .ok (.istore 6, 2) := by decide +kernel
theorem dX0_add_16 : decode cX0_add 16 = .ok (.aload_n 0, 1) := by decide +kernel
theorem dX0_add_17 : decode cX0_add 17 = .ok (.getfield 9, 3) := by decide +kernel
theorem dX0_add_20 : decode cX0_add 20 = .ok (.iload 6, 2) := by decide +kernel
theorem dX0_add_22 : decode cX0_add 22 = .ok (.iload_n 1, 1) := by decide +kernel
theorem dX0_add_23 : decode cX0_add 23 = .ok (.iastore, 1) := by decide +kernel
theorem dX0_add_24 : decode cX0_add 24 = .ok (.aload_n 0, 1) := by decide +kernel
theorem dX0_add_25 : decode cX0_add 25 = .ok (.getfield 15, 3) := by decide +kernel
theorem dX0_add_28 : decode cX0_add 28 = .ok (.iload 6, 2) := by decide +kernel
theorem dX0_add_30 : decode cX0_add 30 = .ok (.iload_n 2, 1) := by decide +kernel
theorem dX0_add_31 : decode cX0_add 31 = .ok (.iastore, 1) := by decide +kernel
theorem dX0_add_32 : decode cX0_add 32 = .ok (.aload_n 0, 1) := by decide +kernel
theorem dX0_add_33 : decode cX0_add 33 = .ok (.getfield 18, 3) := by decide +kernel
theorem dX0_add_36 : decode cX0_add 36 = .ok (.iload 6, 2) := by decide +kernel
theorem dX0_add_38 : decode cX0_add 38 = .ok (.iload_n 3, 1) := by decide +kernel
theorem dX0_add_39 : decode cX0_add 39 = .ok (.iastore, 1) := by decide +kernel
theorem dX0_add_40 : decode cX0_add 40 = .ok (.aload_n 0, 1) := by decide +kernel
theorem dX0_add_41 : decode cX0_add 41 = .ok (.getfield 21, 3) := by decide +kernel
theorem dX0_add_44 : decode cX0_add 44 = .ok (.iload 6, 2) := by decide +kernel
theorem dX0_add_46 : decode cX0_add 46 = .ok (.iload 4, 2) := by decide +kernel
theorem dX0_add_48 : decode cX0_add 48 = .ok (.iastore, 1) := by decide +kernel
theorem dX0_add_49 : decode cX0_add 49 = .ok (.aload_n 0, 1) := by decide +kernel
theorem dX0_add_50 : decode cX0_add 50 = .ok (.getfield 24, 3) := by decide +kernel
theorem dX0_add_53 : decode cX0_add 53 = .ok (.iload 6, 2) := by decide +kernel
theorem dX0_add_55 : decode cX0_add 55 = .ok (.iload 5, 2) := by decide +kernel
theorem dX0_add_57 : decode cX0_add 57 = .ok (.iastore, 1) := by decide +kernel
theorem dX0_add_58 : decode cX0_add 58 = .ok (.aload_n 0, 1) := by decide +kernel
theorem dX0_add_59 : decode cX0_add 59 = .ok (.getfield 27, 3) := by decide +kernel
theorem dX0_add_62 : decode cX0_add 62 = .ok (.iload 6, 2) := by decide +kernel
theorem dX0_add_64 : decode cX0_add 64 = .ok (.iconst 0, 1) := by decide +kernel
theorem dX0_add_65 : decode cX0_add 65 = .ok (.iastore, 1) := by decide +kernel
theorem dX0_add_66 : decode cX0_add 66 = .ok (.aload_n 0, 1) := by decide +kernel
theorem dX0_add_67 : decode cX0_add 67 = .ok (.iload 6, 2) := by decide +kernel
theorem dX0_add_69 : decode cX0_add 69 = .ok (.iconst 1, 1) := by decide +kernel
theorem dX0_add_70 : decode cX0_add 70 = .ok (.iadd, 1) := by decide +kernel
theorem dX0_add_71 : decode cX0_add 71 = .ok (.putfield 30, 3) := by decide +kernel
theorem dX0_add_74 : decode cX0_add 74 = .ok (.iload 6, 2) := by decide +kernel
theorem dX0_add_76 : decode cX0_add 76 = .ok (.ireturn, 1) := by decide +kernel
theorem kX0_56 : mthV RX0 56 0 yX0_hasRoom prog_2_method_4_code 1 (Option.some Jvm.ClassFile.FieldType.boolean) 0 := ⟨⟨⟨tw_347, tw_61, tw_341⟩, rfl, by decide +kernel⟩, tw_339, tw_340, rfl⟩
theorem fX0_9 : fldOK RX0 9 0 0 (.array .int) true := ⟨_, _, _, tyX0, ⟨rfl, iX0, by decide, rfl, by decide⟩, tw_93, ⟨tyX0_ok, nmX0⟩, by decide +kernel, rfl, rfl⟩
theorem fX0_15 : fldOK RX0 15 0 1 (.array .int) true := ⟨_, _, _, tyX0, ⟨rfl, iX0, by decide, rfl, by decide⟩, tw_96, ⟨tyX0_ok, nmX0⟩, by decide +kernel, rfl, rfl⟩
theorem fX0_18 : fldOK RX0 18 0 2 (.array .int) true := ⟨_, _, _, tyX0, ⟨rfl, iX0, by decide, rfl, by decide⟩, tw_99, ⟨tyX0_ok, nmX0⟩, by decide +kernel, rfl, rfl⟩
theorem fX0_24 : fldOK RX0 24 0 4 (.array .int) true := ⟨_, _, _, tyX0, ⟨rfl, iX0, by decide, rfl, by decide⟩, tw_104, ⟨tyX0_ok, nmX0⟩, by decide +kernel, rfl, rfl⟩
theorem fX0_27 : fldOK RX0 27 0 5 (.array .int) true := ⟨_, _, _, tyX0, ⟨rfl, iX0, by decide, rfl, by decide⟩, tw_107, ⟨tyX0_ok, nmX0⟩, by decide +kernel, rfl, rfl⟩
def wpX0_add (ln : Nat → Nat) (S : HC) (a0 : Nat) (a1 : Int32) (a2 : Int32) (a3 : Int32) (a4 : Int32) (a5 : Int32) (post : Int32 → HC → Prop) : Prop := wpX0_hasRoom ln S a0 fun z1 S => if z1 = 0 then (post (-1000000003 : Int32) S) else (lt_ (hI S a0 6) fun z2 => dn_ (hR S a0 0) fun b3 => as_ (ln b3) z2 (fun j => sI S b3 j a1) fun S => dn_ (hR S a0 1) fun b4 => as_ (ln b4) z2 (fun j => sI S b4 j a2) fun S => dn_ (hR S a0 2) fun b5 => as_ (ln b5) z2 (fun j => sI S b5 j a3) fun S => dn_ (hR S a0 3) fun b6 => as_ (ln b6) z2 (fun j => sI S b6 j a4) fun S => dn_ (hR S a0 4) fun b7 => as_ (ln b7) z2 (fun j => sI S b7 j a5) fun S => dn_ (hR S a0 5) fun b8 => as_ (ln b8) z2 (fun j => sI S b8 j (0 : Int32)) fun S => lt_ (z2 + (1 : Int32)) fun z9 => lt_ (sI S a0 6 z9) fun S => post z2 S)
abbrev rmX0_add : Room := { frames := 1, cells := 0, slots := 0, locals := 20 }
set_option maxHeartbeats 4000000 in
set_option maxRecDepth 100000 in
theorem ctX0_add {l : Launch} {g : GX} {N : Nat} {ln : Nat → Nat} {S : HC} {a0 : Nat} {a1 : Int32} {a2 : Int32} {a3 : Int32} {a4 : Int32} {a5 : Int32} {post : Int32 → HC → Prop} (hr_a0 : a0 < N) (hk_a0 : kd a0 = 0) (h : wpX0_add ln S a0 a1 a2 a3 a4 a5 post) : Met l yX0_add (Cond.code yX0_add prog_2_method_6_code 7 (Option.some Jvm.ClassFile.FieldType.int) :: gtbl) rmX0_add (va_Pc [.ref (gz g + a0), .int a1, .int a2, .int a3, .int a4, .int a5] (AtP g N ln S)) (QI g N ln post) 0 0 (gF g) := by
  refine m_of (by decide) (Nat.le_of_ble_eq_true rfl) ?_
  intro p e s m below meth c ls F hr I hl
  have hl : lv_has ls 7 [(0, .ref (gz g + a0)), (1, .int a1), (2, .int a2), (3, .int a3), (4, .int a4), (5, .int a5)] := hl
  unfold wpX0_add at h
  refine lv_aload_n F.1 F.2.1 dX0_add_0 rfl (lv_at hl 0 rfl) ?_
  refine g_I I (run_V (As := []) (rest := []) F I hr_a0 hk_a0 (by decide) kX0_56 (ctX0_hasRoom hr_a0 hk_a0 h) ⟨rfl, rfl⟩ ⟨Nat.le_of_ble_eq_true rfl, Nat.le_of_ble_eq_true rfl⟩ rfl hl.1 rfl (Nat.le_of_ble_eq_true rfl) ⟨Nat.le_of_ble_eq_true rfl, Nat.le_of_ble_eq_true rfl⟩ dX0_add_1) (fun z1 S H locs I h => ?_)
  refine r_if_ne (tgt := 10) F dX0_add_4 (by decide) h (fun h => ?_) (fun h => ?_)
  · refine lv_aload_n F.1 F.2.1 dX0_add_10 rfl (lv_at hl 0 rfl) ?_
    refine r_getI F I hr_a0 hk_a0 fX0_30 rfl dX0_add_11 h (fun z2 h => ?_)
    refine lv_istore (lv' := [(6, .int z2), (0, .ref (gz g + a0)), (1, .int a1), (2, .int a2), (3, .int a3), (4, .int a4), (5, .int a5)]) F.1 F.2.1 dX0_add_14 hl (by decide) rfl (fun ls hl => ?_)
    refine lv_aload_n F.1 F.2.1 dX0_add_16 rfl (lv_at hl 1 rfl) ?_
    refine r_getN F I hr_a0 hk_a0 fX0_9 (f := 9) rfl (by decide) dX0_add_17 h (fun b3 hr_b3 hk_b3 h => ?_)
    refine lv_iload F.1 F.2.1 dX0_add_20 (lv_at hl 0 rfl) ?_
    refine lv_iload_n F.1 F.2.1 dX0_add_22 rfl (lv_at hl 2 rfl) ?_
    refine r_ast F I hr_b3 hk_b3 dX0_add_23 h (fun S H locs I h => ?_)
    refine lv_aload_n F.1 F.2.1 dX0_add_24 rfl (lv_at hl 1 rfl) ?_
    refine r_getN F I hr_a0 hk_a0 fX0_15 (f := 9) rfl (by decide) dX0_add_25 h (fun b4 hr_b4 hk_b4 h => ?_)
    refine lv_iload F.1 F.2.1 dX0_add_28 (lv_at hl 0 rfl) ?_
    refine lv_iload_n F.1 F.2.1 dX0_add_30 rfl (lv_at hl 3 rfl) ?_
    refine r_ast F I hr_b4 hk_b4 dX0_add_31 h (fun S H locs I h => ?_)
    refine lv_aload_n F.1 F.2.1 dX0_add_32 rfl (lv_at hl 1 rfl) ?_
    refine r_getN F I hr_a0 hk_a0 fX0_18 (f := 9) rfl (by decide) dX0_add_33 h (fun b5 hr_b5 hk_b5 h => ?_)
    refine lv_iload F.1 F.2.1 dX0_add_36 (lv_at hl 0 rfl) ?_
    refine lv_iload_n F.1 F.2.1 dX0_add_38 rfl (lv_at hl 4 rfl) ?_
    refine r_ast F I hr_b5 hk_b5 dX0_add_39 h (fun S H locs I h => ?_)
    refine lv_aload_n F.1 F.2.1 dX0_add_40 rfl (lv_at hl 1 rfl) ?_
    refine r_getN F I hr_a0 hk_a0 fX0_21 (f := 9) rfl (by decide) dX0_add_41 h (fun b6 hr_b6 hk_b6 h => ?_)
    refine lv_iload F.1 F.2.1 dX0_add_44 (lv_at hl 0 rfl) ?_
    refine lv_iload F.1 F.2.1 dX0_add_46 (lv_at hl 5 rfl) ?_
    refine r_ast F I hr_b6 hk_b6 dX0_add_48 h (fun S H locs I h => ?_)
    refine lv_aload_n F.1 F.2.1 dX0_add_49 rfl (lv_at hl 1 rfl) ?_
    refine r_getN F I hr_a0 hk_a0 fX0_24 (f := 9) rfl (by decide) dX0_add_50 h (fun b7 hr_b7 hk_b7 h => ?_)
    refine lv_iload F.1 F.2.1 dX0_add_53 (lv_at hl 0 rfl) ?_
    refine lv_iload F.1 F.2.1 dX0_add_55 (lv_at hl 6 rfl) ?_
    refine r_ast F I hr_b7 hk_b7 dX0_add_57 h (fun S H locs I h => ?_)
    refine lv_aload_n F.1 F.2.1 dX0_add_58 rfl (lv_at hl 1 rfl) ?_
    refine r_getN F I hr_a0 hk_a0 fX0_27 (f := 9) rfl (by decide) dX0_add_59 h (fun b8 hr_b8 hk_b8 h => ?_)
    refine lv_iload F.1 F.2.1 dX0_add_62 (lv_at hl 0 rfl) ?_
    refine lv_iconst (v := 0) F.1 F.2.1 dX0_add_64 (by decide) ?_
    refine r_ast F I hr_b8 hk_b8 dX0_add_65 h (fun S H locs I h => ?_)
    refine lv_aload_n F.1 F.2.1 dX0_add_66 rfl (lv_at hl 1 rfl) ?_
    refine lv_iload F.1 F.2.1 dX0_add_67 (lv_at hl 0 rfl) ?_
    refine lv_iconst (v := 1) F.1 F.2.1 dX0_add_69 (by decide) ?_
    refine r_iadd F dX0_add_70 h (fun z9 h => ?_)
    refine r_putI F I hr_a0 hk_a0 fX0_30 rfl (Or.inl rfl) ⟨rfl, rfl⟩ dX0_add_71 h (fun S H locs I h => ?_)
    refine lv_iload F.1 F.2.1 dX0_add_74 (lv_at hl 0 rfl) ?_
    exact r_ireturn F I ⟨hr.1, hr.2.1, trivial⟩ h dX0_add_76
  · refine lv_ldc F.1 F.2.1 F.2.2.2.1 (F.2.2.2.2 _ tw_348) dX0_add_7 ?_
    exact r_ireturn F I ⟨hr.1, hr.2.1, trivial⟩ h dX0_add_9
theorem dX0_draw_0 : decode cX0_draw 0 = .ok (.aload_n 0, 1) := by decide +kernel
theorem dX0_draw_1 : decode cX0_draw 1 = .ok (.aload_n 0, 1) := by decide +kernel
theorem dX0_draw_2 : decode cX0_draw 2 = .ok (.getfield 40, 3) := by decide +kernel
theorem dX0_draw_5 : decode cX0_draw 5 = .ok (.ldc 61, 2) := by decide +kernel
theorem dX0_draw_7 : decode cX0_draw 7 = .ok (.imul, 1) := by decide +kernel
theorem dX0_draw_8 : decode cX0_draw 8 = .ok (.sipush 12345, 3) := by decide +kernel
theorem dX0_draw_11 : decode cX0_draw 11 = .ok (.iadd, 1) := by decide +kernel
theorem dX0_draw_12 : decode cX0_draw 12 = .ok (.putfield 40, 3) := by decide +kernel
theorem dX0_draw_15 : decode cX0_draw 15 = .ok (.aload_n 0, 1) := by decide +kernel
theorem dX0_draw_16 : decode cX0_draw 16 = .ok (.getfield 40, 3) := by decide +kernel
theorem dX0_draw_19 : decode cX0_draw 19 = .ok (.bipush 8, 2) := by decide +kernel
theorem dX0_draw_21 : decode cX0_draw 21 = .ok (.iushr, 1) := by decide +kernel
theorem dX0_draw_22 : decode cX0_draw 22 = .ok (.ireturn, 1) := by decide +kernel
theorem fX0_40 : fldOK RX0 40 0 9 .int false := ⟨_, _, _, tyX0, ⟨rfl, iX0, by decide, rfl, by decide⟩, tw_117, ⟨tyX0_ok, nmX0⟩, by decide +kernel, rfl, rfl⟩
def wpX0_draw (ln : Nat → Nat) (S : HC) (a0 : Nat) (post : Int32 → HC → Prop) : Prop := lt_ (hI S a0 9) fun z1 => lt_ (z1 * (1103515245 : Int32)) fun z2 => lt_ (z2 + (12345 : Int32)) fun z3 => lt_ (sI S a0 9 z3) fun S => lt_ (hI S a0 9) fun z4 => lt_ ((z4.toUInt32 >>> ((8 : Int32).toUInt32 &&& Int32.toUInt32 31)).toInt32) fun z5 => post z5 S
abbrev rmX0_draw : Room := { frames := 0, cells := 0, slots := 0, locals := 0 }
set_option maxHeartbeats 4000000 in
set_option maxRecDepth 100000 in
theorem ctX0_draw {l : Launch} {g : GX} {N : Nat} {ln : Nat → Nat} {S : HC} {a0 : Nat} {post : Int32 → HC → Prop} (hr_a0 : a0 < N) (hk_a0 : kd a0 = 0) (h : wpX0_draw ln S a0 post) : Met l yX0_draw (Cond.code yX0_draw prog_2_method_7_code 1 (Option.some Jvm.ClassFile.FieldType.int) :: gtbl) rmX0_draw (va_Pc [.ref (gz g + a0)] (AtP g N ln S)) (QI g N ln post) 0 0 (gF g) := by
  refine m_of (by decide) (Nat.le_of_ble_eq_true rfl) ?_
  intro p e s m below meth c ls F hr I hl
  have hl : lv_has ls 1 [(0, .ref (gz g + a0))] := hl
  unfold wpX0_draw at h
  refine lv_aload_n F.1 F.2.1 dX0_draw_0 rfl (lv_at hl 0 rfl) ?_
  refine lv_aload_n F.1 F.2.1 dX0_draw_1 rfl (lv_at hl 0 rfl) ?_
  refine r_getI F I hr_a0 hk_a0 fX0_40 rfl dX0_draw_2 h (fun z1 h => ?_)
  refine lv_ldc F.1 F.2.1 F.2.2.2.1 (F.2.2.2.2 _ tw_463) dX0_draw_5 ?_
  refine r_imul F dX0_draw_7 h (fun z2 h => ?_)
  refine lv_sipush (v := 12345) F.1 F.2.1 dX0_draw_8 (by decide) ?_
  refine r_iadd F dX0_draw_11 h (fun z3 h => ?_)
  refine r_putI F I hr_a0 hk_a0 fX0_40 rfl (Or.inl rfl) ⟨rfl, rfl⟩ dX0_draw_12 h (fun S H locs I h => ?_)
  refine lv_aload_n F.1 F.2.1 dX0_draw_15 rfl (lv_at hl 0 rfl) ?_
  refine r_getI F I hr_a0 hk_a0 fX0_40 rfl dX0_draw_16 h (fun z4 h => ?_)
  refine lv_bipush (v := 8) F.1 F.2.1 dX0_draw_19 (by decide) ?_
  refine r_iushr F dX0_draw_21 h (fun z5 h => ?_)
  exact r_ireturn F I ⟨hr.1, hr.2.1, trivial⟩ h dX0_draw_22
theorem dX0_drawFounder_0 : decode cX0_drawFounder 0 = .ok (.aload_n 0, 1) := by decide +kernel
theorem dX0_drawFounder_1 : decode cX0_drawFounder 1 = .ok (.invokevirtual 62, 3) := by decide +kernel
theorem dX0_drawFounder_4 : decode cX0_drawFounder 4 = .ok (.bipush 6, 2) := by decide +kernel
theorem dX0_drawFounder_6 : decode cX0_drawFounder 6 = .ok (.irem, 1) := by decide +kernel
theorem dX0_drawFounder_7 : decode cX0_drawFounder 7 = .ok (.istore_n 1, 1) := by decide +kernel
theorem dX0_drawFounder_8 : decode cX0_drawFounder 8 = .ok (.aload_n 0, 1) := by decide +kernel
theorem dX0_drawFounder_9 : decode cX0_drawFounder 9 = .ok (.invokevirtual 62, 3) := by decide +kernel
theorem dX0_drawFounder_12 : decode cX0_drawFounder 12 = .ok (.iconst 2, 1) := by decide +kernel
theorem dX0_drawFounder_13 : decode cX0_drawFounder 13 = .ok (.irem, 1) := by decide +kernel
theorem dX0_drawFounder_14 : decode cX0_drawFounder 14 = .ok (.istore_n 2, 1) := by decide +kernel
theorem dX0_drawFounder_15 : decode cX0_drawFounder 15 = .ok (.aload_n 0, 1) := by decide +kernel
theorem dX0_drawFounder_16 : decode cX0_drawFounder 16 = .ok (.iload_n 1, 1) := by decide +kernel
theorem dX0_drawFounder_17 : decode cX0_drawFounder 17 = .ok (.iconst (-1), 1) := by decide +kernel
theorem dX0_drawFounder_18 : decode cX0_drawFounder 18 = .ok (.iconst (-1), 1) := by decide +kernel
theorem dX0_drawFounder_19 : decode cX0_drawFounder 19 = .ok (.iload_n 2, 1) := by decide +kernel
theorem dX0_drawFounder_20 : decode cX0_drawFounder 20 = .ok (.aload_n 0, 1) := by decide +kernel
theorem dX0_drawFounder_21 : decode cX0_drawFounder 21 = .ok (.invokevirtual 62, 3) := by decide +kernel
theorem dX0_drawFounder_24 : decode cX0_drawFounder 24 = .ok (.bipush 8, 2) := by decide +kernel
theorem dX0_drawFounder_26 : decode cX0_drawFounder 26 = .ok (.irem, 1) := by decide +kernel
theorem dX0_drawFounder_27 : decode cX0_drawFounder 27 = .ok (.invokevirtual 66, 3) := by decide +kernel
theorem dX0_drawFounder_30 : decode cX0_drawFounder 30 = .ok (.pop, 1) := by decide +kernel
theorem dX0_drawFounder_31 : decode cX0_drawFounder 31 = .ok (.return_, 1) := by decide +kernel
theorem kX0_62 : mthV RX0 62 0 yX0_draw prog_2_method_7_code 1 (Option.some Jvm.ClassFile.FieldType.int) 0 := ⟨⟨⟨tw_459, tw_61, tw_462⟩, rfl, by decide +kernel⟩, tw_460, tw_461, rfl⟩
theorem kX0_66 : mthV RX0 66 0 yX0_add prog_2_method_6_code 7 (Option.some Jvm.ClassFile.FieldType.int) 5 := ⟨⟨⟨tw_464, tw_61, tw_346⟩, rfl, by decide +kernel⟩, tw_344, tw_345, rfl⟩
def wpX0_drawFounder (ln : Nat → Nat) (S : HC) (a0 : Nat) (post : HC → Prop) : Prop := wpX0_draw ln S a0 fun z1 S => ne_ (6 : Int32) <| lt_ (z1 - z1 / (6 : Int32) * (6 : Int32)) fun z2 => wpX0_draw ln S a0 fun z3 S => ne_ (2 : Int32) <| lt_ (z3 - z3 / (2 : Int32) * (2 : Int32)) fun z4 => wpX0_draw ln S a0 fun z5 S => ne_ (8 : Int32) <| lt_ (z5 - z5 / (8 : Int32) * (8 : Int32)) fun z6 => wpX0_add ln S a0 z2 (-1 : Int32) (-1 : Int32) z4 z6 fun z7 S => post S
abbrev rmX0_drawFounder : Room := { frames := 2, cells := 0, slots := 0, locals := 46 }
set_option maxHeartbeats 4000000 in
set_option maxRecDepth 100000 in
theorem ctX0_drawFounder {l : Launch} {g : GX} {N : Nat} {ln : Nat → Nat} {S : HC} {a0 : Nat} {post : HC → Prop} (hr_a0 : a0 < N) (hk_a0 : kd a0 = 0) (h : wpX0_drawFounder ln S a0 post) : Met l yX0_drawFounder (Cond.code yX0_drawFounder prog_2_method_8_code 3 (Option.none : Option Jvm.ClassFile.FieldType) :: gtbl) rmX0_drawFounder (va_Pc [.ref (gz g + a0)] (AtP g N ln S)) (QV g N ln post) 0 0 (gF g) := by
  refine m_of (by decide) (Nat.le_of_ble_eq_true rfl) ?_
  intro p e s m below meth c ls F hr I hl
  have hl : lv_has ls 3 [(0, .ref (gz g + a0))] := hl
  unfold wpX0_drawFounder at h
  refine lv_aload_n F.1 F.2.1 dX0_drawFounder_0 rfl (lv_at hl 0 rfl) ?_
  refine g_I I (run_V (As := []) (rest := []) F I hr_a0 hk_a0 (by decide) kX0_62 (ctX0_draw hr_a0 hk_a0 h) ⟨rfl, rfl⟩ ⟨Nat.le_of_ble_eq_true rfl, Nat.le_of_ble_eq_true rfl⟩ rfl hl.1 rfl (Nat.le_of_ble_eq_true rfl) ⟨Nat.le_of_ble_eq_true rfl, Nat.le_of_ble_eq_true rfl⟩ dX0_drawFounder_1) (fun z1 S H locs I h => ?_)
  refine lv_bipush (v := 6) F.1 F.2.1 dX0_drawFounder_4 (by decide) ?_
  refine r_irem F dX0_drawFounder_6 h (fun z2 h => ?_)
  refine lv_istore_n (lv' := [(1, .int z2), (0, .ref (gz g + a0))]) F.1 F.2.1 dX0_drawFounder_7 rfl hl (by decide) rfl (fun ls hl => ?_)
  refine lv_aload_n F.1 F.2.1 dX0_drawFounder_8 rfl (lv_at hl 1 rfl) ?_
  refine g_I I (run_V (As := []) (rest := []) F I hr_a0 hk_a0 (by decide) kX0_62 (ctX0_draw hr_a0 hk_a0 h) ⟨rfl, rfl⟩ ⟨Nat.le_of_ble_eq_true rfl, Nat.le_of_ble_eq_true rfl⟩ rfl hl.1 rfl (Nat.le_of_ble_eq_true rfl) ⟨Nat.le_of_ble_eq_true rfl, Nat.le_of_ble_eq_true rfl⟩ dX0_drawFounder_9) (fun z3 S H locs I h => ?_)
  refine lv_iconst (v := 2) F.1 F.2.1 dX0_drawFounder_12 (by decide) ?_
  refine r_irem F dX0_drawFounder_13 h (fun z4 h => ?_)
  refine lv_istore_n (lv' := [(2, .int z4), (1, .int z2), (0, .ref (gz g + a0))]) F.1 F.2.1 dX0_drawFounder_14 rfl hl (by decide) rfl (fun ls hl => ?_)
  refine lv_aload_n F.1 F.2.1 dX0_drawFounder_15 rfl (lv_at hl 2 rfl) ?_
  refine lv_iload_n F.1 F.2.1 dX0_drawFounder_16 rfl (lv_at hl 1 rfl) ?_
  refine lv_iconst (v := -1) F.1 F.2.1 dX0_drawFounder_17 (by decide) ?_
  refine lv_iconst (v := -1) F.1 F.2.1 dX0_drawFounder_18 (by decide) ?_
  refine lv_iload_n F.1 F.2.1 dX0_drawFounder_19 rfl (lv_at hl 0 rfl) ?_
  refine lv_aload_n F.1 F.2.1 dX0_drawFounder_20 rfl (lv_at hl 2 rfl) ?_
  refine g_I I (run_V (As := []) (rest := [.int z4, .int (-1 : Int32), .int (-1 : Int32), .int z2, .ref (gz g + a0)]) F I hr_a0 hk_a0 (by decide) kX0_62 (ctX0_draw hr_a0 hk_a0 h) ⟨rfl, rfl⟩ ⟨Nat.le_of_ble_eq_true rfl, Nat.le_of_ble_eq_true rfl⟩ rfl hl.1 rfl (Nat.le_of_ble_eq_true rfl) ⟨Nat.le_of_ble_eq_true rfl, Nat.le_of_ble_eq_true rfl⟩ dX0_drawFounder_21) (fun z5 S H locs I h => ?_)
  refine lv_bipush (v := 8) F.1 F.2.1 dX0_drawFounder_24 (by decide) ?_
  refine r_irem F dX0_drawFounder_26 h (fun z6 h => ?_)
  refine g_I I (run_V (As := [.int z2, .int (-1 : Int32), .int (-1 : Int32), .int z4, .int z6]) (rest := []) F I hr_a0 hk_a0 (by decide) kX0_66 (ctX0_add hr_a0 hk_a0 h) ⟨rfl, rfl⟩ ⟨Nat.le_of_ble_eq_true rfl, Nat.le_of_ble_eq_true rfl⟩ rfl hl.1 rfl (Nat.le_of_ble_eq_true rfl) ⟨Nat.le_of_ble_eq_true rfl, Nat.le_of_ble_eq_true rfl⟩ dX0_drawFounder_27) (fun z7 S H locs I h => ?_)
  refine lv_pop F.1 F.2.1 dX0_drawFounder_30 rfl ?_
  exact r_vreturn F I ⟨hr.1, hr.2.1, trivial⟩ h dX0_drawFounder_31
theorem dX0_howMany_0 : decode cX0_howMany 0 = .ok (.iconst 0, 1) := by decide +kernel
theorem dX0_howMany_1 : decode cX0_howMany 1 = .ok (.istore_n 2, 1) := by decide +kernel
theorem dX0_howMany_2 : decode cX0_howMany 2 = .ok (.iconst 0, 1) := by decide +kernel
theorem dX0_howMany_3 : decode cX0_howMany 3 = .ok (.istore_n 3, 1) := by decide +kernel
theorem dX0_howMany_4 : decode cX0_howMany 4 = .ok (.iload_n 3, 1) := by decide +kernel
theorem dX0_howMany_5 : decode cX0_howMany 5 = .ok (.aload_n 0, 1) := by decide +kernel
theorem dX0_howMany_6 : decode cX0_howMany 6 = .ok (.getfield 30, 3) := by decide +kernel
theorem dX0_howMany_9 : decode cX0_howMany 9 = .ok (.if_icmp .ge 22, 3) := by decide +kernel
theorem dX0_howMany_12 : decode cX0_howMany 12 = .ok (.aload_n 0, 1) := by decide +kernel
theorem dX0_howMany_13 : decode cX0_howMany 13 = .ok (.getfield 21, 3) := by decide +kernel
theorem dX0_howMany_16 : decode cX0_howMany 16 = .ok (.iload_n 3, 1) := by decide +kernel
theorem dX0_howMany_17 : decode cX0_howMany 17 = .ok (.iaload, 1) := by decide +kernel
theorem dX0_howMany_18 : decode cX0_howMany 18 = .ok (.iload_n 1, 1) := by decide +kernel
theorem dX0_howMany_19 : decode cX0_howMany 19 = .ok (.if_icmp .ne 6, 3) := by decide +kernel
theorem dX0_howMany_22 : decode cX0_howMany 22 = .ok (.iinc 2 1, 3) := by decide +kernel
theorem dX0_howMany_25 : decode cX0_howMany 25 = .ok (.iinc 3 1, 3) := by decide +kernel
theorem dX0_howMany_28 : decode cX0_howMany 28 = .ok (.goto (-24), 3) := by decide +kernel
theorem dX0_howMany_31 : decode cX0_howMany 31 = .ok (.iload_n 2, 1) := by decide +kernel
theorem dX0_howMany_32 : decode cX0_howMany 32 = .ok (.ireturn, 1) := by decide +kernel
def BX0_howMany_25 (ln : Nat → Nat) (post : Int32 → HC → Prop) (K4 : HC → Nat → Int32 → Int32 → Int32 → Prop) (S : HC) (x0 : Nat) (x1 : Int32) (x2 : Int32) (x3 : Int32) : Prop := lt_ (x3 + (1 : Int32)) fun z1 => K4 S x0 x1 x2 z1
def LX0_howMany_4 (ln : Nat → Nat) (post : Int32 → HC → Prop) : Nat → HC → Nat → Int32 → Int32 → Int32 → Prop
  | 0 => fun _ _ _ _ _ => False
  | n4 + 1 => fun S x0 x1 x2 x3 => lt_ (hI S x0 6) fun z2 => if z2 ≤ x3 then (post x2 S) else (dn_ (hR S x0 3) fun b3 => al_ (ln b3) x3 (hI S b3) fun z4 => if z4 = x1 then (lt_ (x2 + (1 : Int32)) fun z5 => BX0_howMany_25 ln post (LX0_howMany_4 ln post n4) S x0 x1 z5 x3) else (BX0_howMany_25 ln post (LX0_howMany_4 ln post n4) S x0 x1 x2 x3))
def wpX0_howMany (ln : Nat → Nat) (S : HC) (a0 : Nat) (a1 : Int32) (post : Int32 → HC → Prop) : Prop := ∃ n4, LX0_howMany_4 ln post n4 S a0 a1 (0 : Int32) (0 : Int32)
abbrev rmX0_howMany : Room := { frames := 0, cells := 0, slots := 0, locals := 0 }
set_option maxHeartbeats 4000000 in
set_option maxRecDepth 100000 in
theorem ctX0_howMany {l : Launch} {g : GX} {N : Nat} {ln : Nat → Nat} {S : HC} {a0 : Nat} {a1 : Int32} {post : Int32 → HC → Prop} (hr_a0 : a0 < N) (hk_a0 : kd a0 = 0) (h : wpX0_howMany ln S a0 a1 post) : Met l yX0_howMany (Cond.code yX0_howMany prog_2_method_11_code 4 (Option.some Jvm.ClassFile.FieldType.int) :: gtbl) rmX0_howMany (va_Pc [.ref (gz g + a0), .int a1] (AtP g N ln S)) (QI g N ln post) 0 0 (gF g) := by
  refine m_of (by decide) (Nat.le_of_ble_eq_true rfl) ?_
  intro p e s m below meth c ls F hr I hl
  have hl : lv_has ls 4 [(0, .ref (gz g + a0)), (1, .int a1)] := hl
  unfold wpX0_howMany at h
  have hl_4 : ∀ n4 : Nat, ∀ (S : HC) (H : Heap) (locs : List Loc) (ls : Array Slot) (x0 : Nat) (x1 : Int32) (x2 : Int32) (x3 : Int32), x0 < N → kd x0 = 0 → LX0_howMany_4 ln post n4 S x0 x1 x2 x3 → Inv g N ln S s H locs → lv_has ls 4 [(0, .ref (gz g + x0)), (1, .int x1), (2, .int x2), (3, .int x3)] → W p l e rmX0_howMany s m ([.ref (gz g + a0), .int a1] : List Value).toArray below meth c H locs 0 0 (MQ below (QI g N ln post) ([.ref (gz g + a0), .int a1] : List Value).toArray s 0 0 (gF g)) (F0 m 4 ls []) := by
    intro n4
    induction n4 with
    | zero =>
      intro S H locs ls x0 x1 x2 x3 hr_x0 hk_x0 h I hl
      exact h.elim
    | succ n4 ih =>
      have hk4 := ih
      have hj_25 : ∀ (S : HC) (H : Heap) (locs : List Loc) (ls : Array Slot) (x0 : Nat) (x1 : Int32) (x2 : Int32) (x3 : Int32), x0 < N → kd x0 = 0 → BX0_howMany_25 ln post (LX0_howMany_4 ln post n4) S x0 x1 x2 x3 → Inv g N ln S s H locs → lv_has ls 4 [(0, .ref (gz g + x0)), (1, .int x1), (2, .int x2), (3, .int x3)] → W p l e rmX0_howMany s m ([.ref (gz g + a0), .int a1] : List Value).toArray below meth c H locs 0 0 (MQ below (QI g N ln post) ([.ref (gz g + a0), .int a1] : List Value).toArray s 0 0 (gF g)) (F0 m 25 ls []) := by
        intro S H locs ls x0 x1 x2 x3 hr_x0 hk_x0 h I hl
        unfold BX0_howMany_25 at h
        obtain ⟨z1, e_z1, h⟩ := lt_x h
        refine lv_iinc (v := z1) (lv' := [(3, .int z1), (0, .ref (gz g + x0)), (1, .int x1), (2, .int x2)]) F.1 F.2.1 dX0_howMany_25 hl (k := 3) rfl (by rw [e_z1]; rfl) (by decide) rfl (fun ls hl => ?_)
        refine lv_goto (tgt := 4) F.1 F.2.1 dX0_howMany_28 (by decide) ?_
        exact hk4 S _ _ _ x0 x1 x2 z1 hr_x0 hk_x0 h I (lv_sub hl [1, 2, 3, 0] rfl)
      intro S H locs ls x0 x1 x2 x3 hr_x0 hk_x0 h I hl
      rw [LX0_howMany_4] at h
      refine lv_iload_n F.1 F.2.1 dX0_howMany_4 rfl (lv_at hl 3 rfl) ?_
      refine lv_aload_n F.1 F.2.1 dX0_howMany_5 rfl (lv_at hl 0 rfl) ?_
      refine r_getI F I hr_x0 hk_x0 fX0_30 rfl dX0_howMany_6 h (fun z2 h => ?_)
      refine r_icmp_ge (tgt := 31) F dX0_howMany_9 (by decide) h (fun h => ?_) (fun h => ?_)
      · refine lv_iload_n F.1 F.2.1 dX0_howMany_31 rfl (lv_at hl 2 rfl) ?_
        exact r_ireturn F I ⟨hr.1, hr.2.1, trivial⟩ h dX0_howMany_32
      · refine lv_aload_n F.1 F.2.1 dX0_howMany_12 rfl (lv_at hl 0 rfl) ?_
        refine r_getN F I hr_x0 hk_x0 fX0_21 (f := 9) rfl (by decide) dX0_howMany_13 h (fun b3 hr_b3 hk_b3 h => ?_)
        refine lv_iload_n F.1 F.2.1 dX0_howMany_16 rfl (lv_at hl 3 rfl) ?_
        refine r_ald F I hr_b3 hk_b3 dX0_howMany_17 h (fun z4 h => ?_)
        refine lv_iload_n F.1 F.2.1 dX0_howMany_18 rfl (lv_at hl 1 rfl) ?_
        refine r_icmp_ne (tgt := 25) F dX0_howMany_19 (by decide) h (fun h => ?_) (fun h => ?_)
        · exact hj_25 S _ _ _ x0 x1 x2 x3 hr_x0 hk_x0 h I (lv_sub hl [0, 1, 2, 3] rfl)
        · obtain ⟨z5, e_z5, h⟩ := lt_x h
          refine lv_iinc (v := z5) (lv' := [(2, .int z5), (0, .ref (gz g + x0)), (1, .int x1), (3, .int x3)]) F.1 F.2.1 dX0_howMany_22 hl (k := 2) rfl (by rw [e_z5]; rfl) (by decide) rfl (fun ls hl => ?_)
          exact hj_25 S _ _ _ x0 x1 z5 x3 hr_x0 hk_x0 h I (lv_sub hl [1, 2, 0, 3] rfl)
  refine lv_iconst (v := 0) F.1 F.2.1 dX0_howMany_0 (by decide) ?_
  refine lv_istore_n (lv' := [(2, .int (0 : Int32)), (0, .ref (gz g + a0)), (1, .int a1)]) F.1 F.2.1 dX0_howMany_1 rfl hl (by decide) rfl (fun ls hl => ?_)
  refine lv_iconst (v := 0) F.1 F.2.1 dX0_howMany_2 (by decide) ?_
  refine lv_istore_n (lv' := [(3, .int (0 : Int32)), (2, .int (0 : Int32)), (0, .ref (gz g + a0)), (1, .int a1)]) F.1 F.2.1 dX0_howMany_3 rfl hl (by decide) rfl (fun ls hl => ?_)
  obtain ⟨n4, h⟩ := h
  exact hl_4 n4 S _ _ _ a0 a1 (0 : Int32) (0 : Int32) hr_a0 hk_a0 h I (lv_sub hl [2, 3, 1, 0] rfl)
theorem dX0_nthOf_0 : decode cX0_nthOf 0 = .ok (.iload_n 2, 1) := by decide +kernel
theorem dX0_nthOf_1 : decode cX0_nthOf 1 = .ok (.istore_n 3, 1) := by decide +kernel
theorem dX0_nthOf_2 : decode cX0_nthOf 2 = .ok (.iconst 0, 1) := by decide +kernel
theorem dX0_nthOf_3 : decode cX0_nthOf 3 = .ok (.istore 4, 2) := by decide +kernel
theorem dX0_nthOf_5 : decode cX0_nthOf 5 = .ok (.iload 4, 2) := by decide +kernel
theorem dX0_nthOf_7 : decode cX0_nthOf 7 = .ok (.aload_n 0, 1) := by decide +kernel
theorem dX0_nthOf_8 : decode cX0_nthOf 8 = .ok (.getfield 30, 3) := by decide +kernel
theorem dX0_nthOf_11 : decode cX0_nthOf 11 = .ok (.if_icmp .ge 30, 3) := by decide +kernel
theorem dX0_nthOf_14 : decode cX0_nthOf 14 = .ok (.aload_n 0, 1) := by decide +kernel
theorem dX0_nthOf_15 : decode cX0_nthOf 15 = .ok (.getfield 21, 3) := by decide +kernel
theorem dX0_nthOf_18 : decode cX0_nthOf 18 = .ok (.iload 4, 2) := by decide +kernel
theorem dX0_nthOf_20 : decode cX0_nthOf 20 = .ok (.iaload, 1) := by decide +kernel
theorem dX0_nthOf_21 : decode cX0_nthOf 21 = .ok (.iload_n 1, 1) := by decide +kernel
theorem dX0_nthOf_22 : decode cX0_nthOf 22 = .ok (.if_icmp .ne 13, 3) := by decide +kernel
theorem dX0_nthOf_25 : decode cX0_nthOf 25 = .ok (.iload_n 3, 1) := by decide +kernel
theorem dX0_nthOf_26 : decode cX0_nthOf 26 = .ok (.ifCond .ne 6, 3) := by decide +kernel
theorem dX0_nthOf_29 : decode cX0_nthOf 29 = .ok (.iload 4, 2) := by decide +kernel
theorem dX0_nthOf_31 : decode cX0_nthOf 31 = .ok (.ireturn, 1) := by decide +kernel
theorem dX0_nthOf_32 : decode cX0_nthOf 32 = .ok (.iinc 3 (-1), 3) := by decide +kernel
theorem dX0_nthOf_35 : decode cX0_nthOf 35 = .ok (.iinc 4 1, 3) := by decide +kernel
theorem dX0_nthOf_38 : decode cX0_nthOf 38 = .ok (.goto (-33), 3) := by decide +kernel
theorem dX0_nthOf_41 : decode cX0_nthOf 41 = .ok (.iconst (-1), 1) := by decide +kernel
theorem dX0_nthOf_42 : decode cX0_nthOf 42 = .ok (.ireturn, 1) := by decide +kernel
def BX0_nthOf_35 (ln : Nat → Nat) (post : Int32 → HC → Prop) (K5 : HC → Nat → Int32 → Int32 → Int32 → Prop) (S : HC) (x0 : Nat) (x1 : Int32) (x3 : Int32) (x4 : Int32) : Prop := lt_ (x4 + (1 : Int32)) fun z1 => K5 S x0 x1 x3 z1
def LX0_nthOf_5 (ln : Nat → Nat) (post : Int32 → HC → Prop) : Nat → HC → Nat → Int32 → Int32 → Int32 → Prop
  | 0 => fun _ _ _ _ _ => False
  | n5 + 1 => fun S x0 x1 x3 x4 => lt_ (hI S x0 6) fun z2 => if z2 ≤ x4 then (post (-1 : Int32) S) else (dn_ (hR S x0 3) fun b3 => al_ (ln b3) x4 (hI S b3) fun z4 => if z4 = x1 then (if x3 = 0 then (post x4 S) else (lt_ (x3 + (-1 : Int32)) fun z5 => BX0_nthOf_35 ln post (LX0_nthOf_5 ln post n5) S x0 x1 z5 x4)) else (BX0_nthOf_35 ln post (LX0_nthOf_5 ln post n5) S x0 x1 x3 x4))
def wpX0_nthOf (ln : Nat → Nat) (S : HC) (a0 : Nat) (a1 : Int32) (a2 : Int32) (post : Int32 → HC → Prop) : Prop := ∃ n5, LX0_nthOf_5 ln post n5 S a0 a1 a2 (0 : Int32)
abbrev rmX0_nthOf : Room := { frames := 0, cells := 0, slots := 0, locals := 0 }
set_option maxHeartbeats 4000000 in
set_option maxRecDepth 100000 in
theorem ctX0_nthOf {l : Launch} {g : GX} {N : Nat} {ln : Nat → Nat} {S : HC} {a0 : Nat} {a1 : Int32} {a2 : Int32} {post : Int32 → HC → Prop} (hr_a0 : a0 < N) (hk_a0 : kd a0 = 0) (h : wpX0_nthOf ln S a0 a1 a2 post) : Met l yX0_nthOf (Cond.code yX0_nthOf prog_2_method_12_code 5 (Option.some Jvm.ClassFile.FieldType.int) :: gtbl) rmX0_nthOf (va_Pc [.ref (gz g + a0), .int a1, .int a2] (AtP g N ln S)) (QI g N ln post) 0 0 (gF g) := by
  refine m_of (by decide) (Nat.le_of_ble_eq_true rfl) ?_
  intro p e s m below meth c ls F hr I hl
  have hl : lv_has ls 5 [(0, .ref (gz g + a0)), (1, .int a1), (2, .int a2)] := hl
  unfold wpX0_nthOf at h
  have hl_5 : ∀ n5 : Nat, ∀ (S : HC) (H : Heap) (locs : List Loc) (ls : Array Slot) (x0 : Nat) (x1 : Int32) (x3 : Int32) (x4 : Int32), x0 < N → kd x0 = 0 → LX0_nthOf_5 ln post n5 S x0 x1 x3 x4 → Inv g N ln S s H locs → lv_has ls 5 [(0, .ref (gz g + x0)), (1, .int x1), (3, .int x3), (4, .int x4)] → W p l e rmX0_nthOf s m ([.ref (gz g + a0), .int a1, .int a2] : List Value).toArray below meth c H locs 0 0 (MQ below (QI g N ln post) ([.ref (gz g + a0), .int a1, .int a2] : List Value).toArray s 0 0 (gF g)) (F0 m 5 ls []) := by
    intro n5
    induction n5 with
    | zero =>
      intro S H locs ls x0 x1 x3 x4 hr_x0 hk_x0 h I hl
      exact h.elim
    | succ n5 ih =>
      have hk5 := ih
      have hj_35 : ∀ (S : HC) (H : Heap) (locs : List Loc) (ls : Array Slot) (x0 : Nat) (x1 : Int32) (x3 : Int32) (x4 : Int32), x0 < N → kd x0 = 0 → BX0_nthOf_35 ln post (LX0_nthOf_5 ln post n5) S x0 x1 x3 x4 → Inv g N ln S s H locs → lv_has ls 5 [(0, .ref (gz g + x0)), (1, .int x1), (3, .int x3), (4, .int x4)] → W p l e rmX0_nthOf s m ([.ref (gz g + a0), .int a1, .int a2] : List Value).toArray below meth c H locs 0 0 (MQ below (QI g N ln post) ([.ref (gz g + a0), .int a1, .int a2] : List Value).toArray s 0 0 (gF g)) (F0 m 35 ls []) := by
        intro S H locs ls x0 x1 x3 x4 hr_x0 hk_x0 h I hl
        unfold BX0_nthOf_35 at h
        obtain ⟨z1, e_z1, h⟩ := lt_x h
        refine lv_iinc (v := z1) (lv' := [(4, .int z1), (0, .ref (gz g + x0)), (1, .int x1), (3, .int x3)]) F.1 F.2.1 dX0_nthOf_35 hl (k := 3) rfl (by rw [e_z1]; rfl) (by decide) rfl (fun ls hl => ?_)
        refine lv_goto (tgt := 5) F.1 F.2.1 dX0_nthOf_38 (by decide) ?_
        exact hk5 S _ _ _ x0 x1 x3 z1 hr_x0 hk_x0 h I (lv_sub hl [1, 2, 3, 0] rfl)
      intro S H locs ls x0 x1 x3 x4 hr_x0 hk_x0 h I hl
      rw [LX0_nthOf_5] at h
      refine lv_iload F.1 F.2.1 dX0_nthOf_5 (lv_at hl 3 rfl) ?_
      refine lv_aload_n F.1 F.2.1 dX0_nthOf_7 rfl (lv_at hl 0 rfl) ?_
      refine r_getI F I hr_x0 hk_x0 fX0_30 rfl dX0_nthOf_8 h (fun z2 h => ?_)
      refine r_icmp_ge (tgt := 41) F dX0_nthOf_11 (by decide) h (fun h => ?_) (fun h => ?_)
      · refine lv_iconst (v := -1) F.1 F.2.1 dX0_nthOf_41 (by decide) ?_
        exact r_ireturn F I ⟨hr.1, hr.2.1, trivial⟩ h dX0_nthOf_42
      · refine lv_aload_n F.1 F.2.1 dX0_nthOf_14 rfl (lv_at hl 0 rfl) ?_
        refine r_getN F I hr_x0 hk_x0 fX0_21 (f := 9) rfl (by decide) dX0_nthOf_15 h (fun b3 hr_b3 hk_b3 h => ?_)
        refine lv_iload F.1 F.2.1 dX0_nthOf_18 (lv_at hl 3 rfl) ?_
        refine r_ald F I hr_b3 hk_b3 dX0_nthOf_20 h (fun z4 h => ?_)
        refine lv_iload_n F.1 F.2.1 dX0_nthOf_21 rfl (lv_at hl 1 rfl) ?_
        refine r_icmp_ne (tgt := 35) F dX0_nthOf_22 (by decide) h (fun h => ?_) (fun h => ?_)
        · exact hj_35 S _ _ _ x0 x1 x3 x4 hr_x0 hk_x0 h I (lv_sub hl [0, 1, 2, 3] rfl)
        · refine lv_iload_n F.1 F.2.1 dX0_nthOf_25 rfl (lv_at hl 2 rfl) ?_
          refine r_if_ne (tgt := 32) F dX0_nthOf_26 (by decide) h (fun h => ?_) (fun h => ?_)
          · obtain ⟨z5, e_z5, h⟩ := lt_x h
            refine lv_iinc (v := z5) (lv' := [(3, .int z5), (0, .ref (gz g + x0)), (1, .int x1), (4, .int x4)]) F.1 F.2.1 dX0_nthOf_32 hl (k := 2) rfl (by rw [e_z5]; rfl) (by decide) rfl (fun ls hl => ?_)
            exact hj_35 S _ _ _ x0 x1 z5 x4 hr_x0 hk_x0 h I (lv_sub hl [1, 2, 0, 3] rfl)
          · refine lv_iload F.1 F.2.1 dX0_nthOf_29 (lv_at hl 3 rfl) ?_
            exact r_ireturn F I ⟨hr.1, hr.2.1, trivial⟩ h dX0_nthOf_31
  refine lv_iload_n F.1 F.2.1 dX0_nthOf_0 rfl (lv_at hl 2 rfl) ?_
  refine lv_istore_n (lv' := [(3, .int a2), (0, .ref (gz g + a0)), (1, .int a1), (2, .int a2)]) F.1 F.2.1 dX0_nthOf_1 rfl hl (by decide) rfl (fun ls hl => ?_)
  refine lv_iconst (v := 0) F.1 F.2.1 dX0_nthOf_2 (by decide) ?_
  refine lv_istore (lv' := [(4, .int (0 : Int32)), (3, .int a2), (0, .ref (gz g + a0)), (1, .int a1), (2, .int a2)]) F.1 F.2.1 dX0_nthOf_3 hl (by decide) rfl (fun ls hl => ?_)
  obtain ⟨n5, h⟩ := h
  exact hl_5 n5 S _ _ _ a0 a1 a2 (0 : Int32) hr_a0 hk_a0 h I (lv_sub hl [2, 3, 1, 0] rfl)
theorem dX0_bringForth_0 : decode cX0_bringForth 0 = .ok (.aload_n 0, 1) := by decide +kernel
theorem dX0_bringForth_1 : decode cX0_bringForth 1 = .ok (.iconst 0, 1) := by decide +kernel
theorem dX0_bringForth_2 : decode cX0_bringForth 2 = .ok (.invokevirtual 73, 3) := by decide +kernel
theorem dX0_bringForth_5 : decode cX0_bringForth 5 = .ok (.istore_n 1, 1) := by decide +kernel
theorem dX0_bringForth_6 : decode cX0_bringForth 6 = .ok (.aload_n 0, 1) := by decide +kernel
theorem dX0_bringForth_7 : decode cX0_bringForth 7 = .ok (.iconst 1, 1) := by decide +kernel
theorem dX0_bringForth_8 : decode cX0_bringForth 8 = .ok (.invokevirtual 73, 3) := by decide +kernel
theorem dX0_bringForth_11 : decode cX0_bringForth 11 = .ok (.istore_n 2, 1) := by decide +kernel
theorem dX0_bringForth_12 : decode cX0_bringForth 12 = .ok (.iload_n 1, 1) := by decide +kernel
theorem dX0_bringForth_13 : decode cX0_bringForth 13 = .ok (.iconst 1, 1) := by decide +kernel
theorem dX0_bringForth_14 : decode cX0_bringForth 14 = .ok (.if_icmp .lt 8, 3) := by decide +kernel
theorem dX0_bringForth_17 : decode cX0_bringForth 17 = .ok (.iload_n 2, 1) := by decide +kernel
theorem dX0_bringForth_18 : decode cX0_bringForth 18 = .ok (.iconst 1, 1) := by decide +kernel
theorem dX0_bringForth_19 : decode cX0_bringForth 19 = .ok (.if_icmp .ge 5, 3) := by decide +kernel
theorem dX0_bringForth_22 : decode cX0_bringForth 22 = .ok (.iconst 0, 1) := by decide +kernel
theorem dX0_bringForth_23 : decode cX0_bringForth 23 = .ok (.ireturn, 1) := by decide +kernel
theorem dX0_bringForth_24 : decode cX0_bringForth 24 = .ok (.aload_n 0, 1) := by decide +kernel
theorem dX0_bringForth_25 : decode cX0_bringForth 25 = .ok (.iconst 0, 1) := by decide +kernel
theorem dX0_bringForth_26 : decode cX0_bringForth 26 = .ok (.aload_n 0, 1) := by decide +kernel
theorem dX0_bringForth_27 : decode cX0_bringForth 27 = .ok (.invokevirtual 62, 3) := by decide +kernel
theorem dX0_bringForth_30 : decode cX0_bringForth 30 = .ok (.iload_n 1, 1) := by decide +kernel
theorem dX0_bringForth_31 : decode cX0_bringForth 31 = .ok (.irem, 1) := by decide +kernel
theorem dX0_bringForth_32 : decode cX0_bringForth 32 = .ok (.invokevirtual 77, 3) := by decide +kernel
theorem dX0_bringForth_35 : decode cX0_bringForth 35 = .ok (.istore_n 3, 1) := by decide +kernel
theorem dX0_bringForth_36 : decode cX0_bringForth 36 = .ok (.aload_n 0, 1) := by decide +kernel
theorem dX0_bringForth_37 : decode cX0_bringForth 37 = .ok (.iconst 1, 1) := by decide +kernel
theorem dX0_bringForth_38 : decode cX0_bringForth 38 = .ok (.aload_n 0, 1) := by decide +kernel
theorem dX0_bringForth_39 : decode cX0_bringForth 39 = .ok (.invokevirtual 62, 3) := by decide +kernel
theorem dX0_bringForth_42 : decode cX0_bringForth 42 = .ok (.iload_n 2, 1) := by decide +kernel
theorem dX0_bringForth_43 : decode cX0_bringForth 43 = .ok (.irem, 1) := by decide +kernel
theorem dX0_bringForth_44 : decode cX0_bringForth 44 = .ok (.invokevirtual 77, 3) := by decide +kernel
theorem dX0_bringForth_47 : decode cX0_bringForth 47 = .ok (.istore 4, 2) := by decide +kernel
theorem dX0_bringForth_49 : decode cX0_bringForth 49 = .ok (.aload_n 0, 1) := by decide +kernel
theorem dX0_bringForth_50 : decode cX0_bringForth 50 = .ok (.invokevirtual 62, 3) := by decide +kernel
theorem dX0_bringForth_53 : decode cX0_bringForth 53 = .ok (.iconst 2, 1) := by decide +kernel
theorem dX0_bringForth_54 : decode cX0_bringForth 54 = .ok (.irem, 1) := by decide +kernel
theorem dX0_bringForth_55 : decode cX0_bringForth 55 = .ok (.istore 5, 2) := by decide +kernel
theorem dX0_bringForth_57 : decode cX0_bringForth 57 = .ok (.aload_n 0, 1) := by decide +kernel
theorem dX0_bringForth_58 : decode cX0_bringForth 58 = .ok (.invokevirtual 62, 3) := by decide +kernel
theorem dX0_bringForth_61 : decode cX0_bringForth 61 = .ok (.bipush 6, 2) := by decide +kernel
theorem dX0_bringForth_63 : decode cX0_bringForth 63 = .ok (.irem, 1) := by decide +kernel
theorem dX0_bringForth_64 : decode cX0_bringForth 64 = .ok (.istore 6, 2) := by decide +kernel
theorem dX0_bringForth_66 : decode cX0_bringForth 66 = .ok (.aload_n 0, 1) := by decide +kernel
theorem dX0_bringForth_67 : decode cX0_bringForth 67 = .ok (.iload 6, 2) := by decide +kernel
theorem dX0_bringForth_69 : decode cX0_bringForth 69 = .ok (.iload_n 3, 1) := by decide +kernel
theorem dX0_bringForth_70 : decode cX0_bringForth 70 = .ok (.iload 4, 2) := by decide +kernel
theorem dX0_bringForth_72 : decode cX0_bringForth 72 = .ok (.iload 5, 2) := by decide +kernel
theorem dX0_bringForth_74 : decode cX0_bringForth 74 = .ok (.aload_n 0, 1) := by decide +kernel
theorem dX0_bringForth_75 : decode cX0_bringForth 75 = .ok (.invokevirtual 62, 3) := by decide +kernel
theorem dX0_bringForth_78 : decode cX0_bringForth 78 = .ok (.bipush 8, 2) := by decide +kernel
theorem dX0_bringForth_80 : decode cX0_bringForth 80 = .ok (.irem, 1) := by decide +kernel
theorem dX0_bringForth_81 : decode cX0_bringForth 81 = .ok (.invokevirtual 66, 3) := by decide +kernel
theorem dX0_bringForth_84 : decode cX0_bringForth 84 = .ok (.pop, 1) := by decide +kernel
theorem dX0_bringForth_85 : decode cX0_bringForth 85 = .ok (.iconst 1, 1) := by decide +kernel
theorem dX0_bringForth_86 : decode cX0_bringForth 86 = .ok (.ireturn, 1) := by decide +kernel
theorem kX0_73 : mthV RX0 73 0 yX0_howMany prog_2_method_11_code 4 (Option.some Jvm.ClassFile.FieldType.int) 1 := ⟨⟨⟨tw_481, tw_61, tw_484⟩, rfl, by decide +kernel⟩, tw_482, tw_483, rfl⟩
theorem kX0_77 : mthV RX0 77 0 yX0_nthOf prog_2_method_12_code 5 (Option.some Jvm.ClassFile.FieldType.int) 2 := ⟨⟨⟨tw_485, tw_61, tw_488⟩, rfl, by decide +kernel⟩, tw_487, tw_4, rfl⟩
def BX0_bringForth_22 (ln : Nat → Nat) (post : Int32 → HC → Prop) (S : HC)  : Prop := rb_ .boolean (0 : Int32) (post (0 : Int32) S)
def wpX0_bringForth (ln : Nat → Nat) (S : HC) (a0 : Nat) (post : Int32 → HC → Prop) : Prop := wpX0_howMany ln S a0 (0 : Int32) fun z1 S => wpX0_howMany ln S a0 (1 : Int32) fun z2 S => if z1 < (1 : Int32) then (BX0_bringForth_22 ln post S) else (if (1 : Int32) ≤ z2 then (wpX0_draw ln S a0 fun z3 S => ne_ z1 <| lt_ (z3 - z3 / z1 * z1) fun z4 => wpX0_nthOf ln S a0 (0 : Int32) z4 fun z5 S => wpX0_draw ln S a0 fun z6 S => ne_ z2 <| lt_ (z6 - z6 / z2 * z2) fun z7 => wpX0_nthOf ln S a0 (1 : Int32) z7 fun z8 S => wpX0_draw ln S a0 fun z9 S => ne_ (2 : Int32) <| lt_ (z9 - z9 / (2 : Int32) * (2 : Int32)) fun z10 => wpX0_draw ln S a0 fun z11 S => ne_ (6 : Int32) <| lt_ (z11 - z11 / (6 : Int32) * (6 : Int32)) fun z12 => wpX0_draw ln S a0 fun z13 S => ne_ (8 : Int32) <| lt_ (z13 - z13 / (8 : Int32) * (8 : Int32)) fun z14 => wpX0_add ln S a0 z12 z5 z8 z10 z14 fun z15 S => rb_ .boolean (1 : Int32) (post (1 : Int32) S)) else (BX0_bringForth_22 ln post S))
abbrev rmX0_bringForth : Room := { frames := 2, cells := 0, slots := 0, locals := 46 }
set_option maxHeartbeats 4000000 in
set_option maxRecDepth 100000 in
theorem ctX0_bringForth {l : Launch} {g : GX} {N : Nat} {ln : Nat → Nat} {S : HC} {a0 : Nat} {post : Int32 → HC → Prop} (hr_a0 : a0 < N) (hk_a0 : kd a0 = 0) (h : wpX0_bringForth ln S a0 post) : Met l yX0_bringForth (Cond.code yX0_bringForth prog_2_method_10_code 7 (Option.some Jvm.ClassFile.FieldType.boolean) :: gtbl) rmX0_bringForth (va_Pc [.ref (gz g + a0)] (AtP g N ln S)) (QI g N ln post) 0 0 (gF g) := by
  refine m_of (by decide) (Nat.le_of_ble_eq_true rfl) ?_
  intro p e s m below meth c ls F hr I hl
  have hl : lv_has ls 7 [(0, .ref (gz g + a0))] := hl
  unfold wpX0_bringForth at h
  have hj_22 : ∀ (S : HC) (H : Heap) (locs : List Loc) (ls : Array Slot), BX0_bringForth_22 ln post S  → Inv g N ln S s H locs → lv_has ls 7 [] → W p l e rmX0_bringForth s m ([.ref (gz g + a0)] : List Value).toArray below meth c H locs 0 0 (MQ below (QI g N ln post) ([.ref (gz g + a0)] : List Value).toArray s 0 0 (gF g)) (F0 m 22 ls []) := by
    intro S H locs ls h I hl
    unfold BX0_bringForth_22 at h
    refine lv_iconst (v := 0) F.1 F.2.1 dX0_bringForth_22 (by decide) ?_
    exact r_zreturn F I ⟨hr.1, hr.2.1, trivial⟩ h dX0_bringForth_23
  refine lv_aload_n F.1 F.2.1 dX0_bringForth_0 rfl (lv_at hl 0 rfl) ?_
  refine lv_iconst (v := 0) F.1 F.2.1 dX0_bringForth_1 (by decide) ?_
  refine g_I I (run_V (As := [.int (0 : Int32)]) (rest := []) F I hr_a0 hk_a0 (by decide) kX0_73 (ctX0_howMany hr_a0 hk_a0 h) ⟨rfl, rfl⟩ ⟨Nat.le_of_ble_eq_true rfl, Nat.le_of_ble_eq_true rfl⟩ rfl hl.1 rfl (Nat.le_of_ble_eq_true rfl) ⟨Nat.le_of_ble_eq_true rfl, Nat.le_of_ble_eq_true rfl⟩ dX0_bringForth_2) (fun z1 S H locs I h => ?_)
  refine lv_istore_n (lv' := [(1, .int z1), (0, .ref (gz g + a0))]) F.1 F.2.1 dX0_bringForth_5 rfl hl (by decide) rfl (fun ls hl => ?_)
  refine lv_aload_n F.1 F.2.1 dX0_bringForth_6 rfl (lv_at hl 1 rfl) ?_
  refine lv_iconst (v := 1) F.1 F.2.1 dX0_bringForth_7 (by decide) ?_
  refine g_I I (run_V (As := [.int (1 : Int32)]) (rest := []) F I hr_a0 hk_a0 (by decide) kX0_73 (ctX0_howMany hr_a0 hk_a0 h) ⟨rfl, rfl⟩ ⟨Nat.le_of_ble_eq_true rfl, Nat.le_of_ble_eq_true rfl⟩ rfl hl.1 rfl (Nat.le_of_ble_eq_true rfl) ⟨Nat.le_of_ble_eq_true rfl, Nat.le_of_ble_eq_true rfl⟩ dX0_bringForth_8) (fun z2 S H locs I h => ?_)
  refine lv_istore_n (lv' := [(2, .int z2), (1, .int z1), (0, .ref (gz g + a0))]) F.1 F.2.1 dX0_bringForth_11 rfl hl (by decide) rfl (fun ls hl => ?_)
  refine lv_iload_n F.1 F.2.1 dX0_bringForth_12 rfl (lv_at hl 1 rfl) ?_
  refine lv_iconst (v := 1) F.1 F.2.1 dX0_bringForth_13 (by decide) ?_
  refine r_icmp_lt (tgt := 22) F dX0_bringForth_14 (by decide) h (fun h => ?_) (fun h => ?_)
  · exact hj_22 S _ _ _   h I (lv_sub hl [] rfl)
  · refine lv_iload_n F.1 F.2.1 dX0_bringForth_17 rfl (lv_at hl 0 rfl) ?_
    refine lv_iconst (v := 1) F.1 F.2.1 dX0_bringForth_18 (by decide) ?_
    refine r_icmp_ge (tgt := 24) F dX0_bringForth_19 (by decide) h (fun h => ?_) (fun h => ?_)
    · refine lv_aload_n F.1 F.2.1 dX0_bringForth_24 rfl (lv_at hl 2 rfl) ?_
      refine lv_iconst (v := 0) F.1 F.2.1 dX0_bringForth_25 (by decide) ?_
      refine lv_aload_n F.1 F.2.1 dX0_bringForth_26 rfl (lv_at hl 2 rfl) ?_
      refine g_I I (run_V (As := []) (rest := [.int (0 : Int32), .ref (gz g + a0)]) F I hr_a0 hk_a0 (by decide) kX0_62 (ctX0_draw hr_a0 hk_a0 h) ⟨rfl, rfl⟩ ⟨Nat.le_of_ble_eq_true rfl, Nat.le_of_ble_eq_true rfl⟩ rfl hl.1 rfl (Nat.le_of_ble_eq_true rfl) ⟨Nat.le_of_ble_eq_true rfl, Nat.le_of_ble_eq_true rfl⟩ dX0_bringForth_27) (fun z3 S H locs I h => ?_)
      refine lv_iload_n F.1 F.2.1 dX0_bringForth_30 rfl (lv_at hl 1 rfl) ?_
      refine r_irem F dX0_bringForth_31 h (fun z4 h => ?_)
      refine g_I I (run_V (As := [.int (0 : Int32), .int z4]) (rest := []) F I hr_a0 hk_a0 (by decide) kX0_77 (ctX0_nthOf hr_a0 hk_a0 h) ⟨rfl, rfl⟩ ⟨Nat.le_of_ble_eq_true rfl, Nat.le_of_ble_eq_true rfl⟩ rfl hl.1 rfl (Nat.le_of_ble_eq_true rfl) ⟨Nat.le_of_ble_eq_true rfl, Nat.le_of_ble_eq_true rfl⟩ dX0_bringForth_32) (fun z5 S H locs I h => ?_)
      refine lv_istore_n (lv' := [(3, .int z5), (2, .int z2), (1, .int z1), (0, .ref (gz g + a0))]) F.1 F.2.1 dX0_bringForth_35 rfl hl (by decide) rfl (fun ls hl => ?_)
      refine lv_aload_n F.1 F.2.1 dX0_bringForth_36 rfl (lv_at hl 3 rfl) ?_
      refine lv_iconst (v := 1) F.1 F.2.1 dX0_bringForth_37 (by decide) ?_
      refine lv_aload_n F.1 F.2.1 dX0_bringForth_38 rfl (lv_at hl 3 rfl) ?_
      refine g_I I (run_V (As := []) (rest := [.int (1 : Int32), .ref (gz g + a0)]) F I hr_a0 hk_a0 (by decide) kX0_62 (ctX0_draw hr_a0 hk_a0 h) ⟨rfl, rfl⟩ ⟨Nat.le_of_ble_eq_true rfl, Nat.le_of_ble_eq_true rfl⟩ rfl hl.1 rfl (Nat.le_of_ble_eq_true rfl) ⟨Nat.le_of_ble_eq_true rfl, Nat.le_of_ble_eq_true rfl⟩ dX0_bringForth_39) (fun z6 S H locs I h => ?_)
      refine lv_iload_n F.1 F.2.1 dX0_bringForth_42 rfl (lv_at hl 1 rfl) ?_
      refine r_irem F dX0_bringForth_43 h (fun z7 h => ?_)
      refine g_I I (run_V (As := [.int (1 : Int32), .int z7]) (rest := []) F I hr_a0 hk_a0 (by decide) kX0_77 (ctX0_nthOf hr_a0 hk_a0 h) ⟨rfl, rfl⟩ ⟨Nat.le_of_ble_eq_true rfl, Nat.le_of_ble_eq_true rfl⟩ rfl hl.1 rfl (Nat.le_of_ble_eq_true rfl) ⟨Nat.le_of_ble_eq_true rfl, Nat.le_of_ble_eq_true rfl⟩ dX0_bringForth_44) (fun z8 S H locs I h => ?_)
      refine lv_istore (lv' := [(4, .int z8), (3, .int z5), (2, .int z2), (1, .int z1), (0, .ref (gz g + a0))]) F.1 F.2.1 dX0_bringForth_47 hl (by decide) rfl (fun ls hl => ?_)
      refine lv_aload_n F.1 F.2.1 dX0_bringForth_49 rfl (lv_at hl 4 rfl) ?_
      refine g_I I (run_V (As := []) (rest := []) F I hr_a0 hk_a0 (by decide) kX0_62 (ctX0_draw hr_a0 hk_a0 h) ⟨rfl, rfl⟩ ⟨Nat.le_of_ble_eq_true rfl, Nat.le_of_ble_eq_true rfl⟩ rfl hl.1 rfl (Nat.le_of_ble_eq_true rfl) ⟨Nat.le_of_ble_eq_true rfl, Nat.le_of_ble_eq_true rfl⟩ dX0_bringForth_50) (fun z9 S H locs I h => ?_)
      refine lv_iconst (v := 2) F.1 F.2.1 dX0_bringForth_53 (by decide) ?_
      refine r_irem F dX0_bringForth_54 h (fun z10 h => ?_)
      refine lv_istore (lv' := [(5, .int z10), (4, .int z8), (3, .int z5), (2, .int z2), (1, .int z1), (0, .ref (gz g + a0))]) F.1 F.2.1 dX0_bringForth_55 hl (by decide) rfl (fun ls hl => ?_)
      refine lv_aload_n F.1 F.2.1 dX0_bringForth_57 rfl (lv_at hl 5 rfl) ?_
      refine g_I I (run_V (As := []) (rest := []) F I hr_a0 hk_a0 (by decide) kX0_62 (ctX0_draw hr_a0 hk_a0 h) ⟨rfl, rfl⟩ ⟨Nat.le_of_ble_eq_true rfl, Nat.le_of_ble_eq_true rfl⟩ rfl hl.1 rfl (Nat.le_of_ble_eq_true rfl) ⟨Nat.le_of_ble_eq_true rfl, Nat.le_of_ble_eq_true rfl⟩ dX0_bringForth_58) (fun z11 S H locs I h => ?_)
      refine lv_bipush (v := 6) F.1 F.2.1 dX0_bringForth_61 (by decide) ?_
      refine r_irem F dX0_bringForth_63 h (fun z12 h => ?_)
      refine lv_istore (lv' := [(6, .int z12), (5, .int z10), (4, .int z8), (3, .int z5), (2, .int z2), (1, .int z1), (0, .ref (gz g + a0))]) F.1 F.2.1 dX0_bringForth_64 hl (by decide) rfl (fun ls hl => ?_)
      refine lv_aload_n F.1 F.2.1 dX0_bringForth_66 rfl (lv_at hl 6 rfl) ?_
      refine lv_iload F.1 F.2.1 dX0_bringForth_67 (lv_at hl 0 rfl) ?_
      refine lv_iload_n F.1 F.2.1 dX0_bringForth_69 rfl (lv_at hl 3 rfl) ?_
      refine lv_iload F.1 F.2.1 dX0_bringForth_70 (lv_at hl 2 rfl) ?_
      refine lv_iload F.1 F.2.1 dX0_bringForth_72 (lv_at hl 1 rfl) ?_
      refine lv_aload_n F.1 F.2.1 dX0_bringForth_74 rfl (lv_at hl 6 rfl) ?_
      refine g_I I (run_V (As := []) (rest := [.int z10, .int z8, .int z5, .int z12, .ref (gz g + a0)]) F I hr_a0 hk_a0 (by decide) kX0_62 (ctX0_draw hr_a0 hk_a0 h) ⟨rfl, rfl⟩ ⟨Nat.le_of_ble_eq_true rfl, Nat.le_of_ble_eq_true rfl⟩ rfl hl.1 rfl (Nat.le_of_ble_eq_true rfl) ⟨Nat.le_of_ble_eq_true rfl, Nat.le_of_ble_eq_true rfl⟩ dX0_bringForth_75) (fun z13 S H locs I h => ?_)
      refine lv_bipush (v := 8) F.1 F.2.1 dX0_bringForth_78 (by decide) ?_
      refine r_irem F dX0_bringForth_80 h (fun z14 h => ?_)
      refine g_I I (run_V (As := [.int z12, .int z5, .int z8, .int z10, .int z14]) (rest := []) F I hr_a0 hk_a0 (by decide) kX0_66 (ctX0_add hr_a0 hk_a0 h) ⟨rfl, rfl⟩ ⟨Nat.le_of_ble_eq_true rfl, Nat.le_of_ble_eq_true rfl⟩ rfl hl.1 rfl (Nat.le_of_ble_eq_true rfl) ⟨Nat.le_of_ble_eq_true rfl, Nat.le_of_ble_eq_true rfl⟩ dX0_bringForth_81) (fun z15 S H locs I h => ?_)
      refine lv_pop F.1 F.2.1 dX0_bringForth_84 rfl ?_
      refine lv_iconst (v := 1) F.1 F.2.1 dX0_bringForth_85 (by decide) ?_
      exact r_zreturn F I ⟨hr.1, hr.2.1, trivial⟩ h dX0_bringForth_86
    · exact hj_22 S _ _ _   h I (lv_sub hl [] rfl)
theorem dX0_passYear_0 : decode cX0_passYear 0 = .ok (.aload_n 0, 1) := by decide +kernel
theorem dX0_passYear_1 : decode cX0_passYear 1 = .ok (.invokevirtual 62, 3) := by decide +kernel
theorem dX0_passYear_4 : decode cX0_passYear 4 = .ok (.bipush 100, 2) := by decide +kernel
theorem dX0_passYear_6 : decode cX0_passYear 6 = .ok (.irem, 1) := by decide +kernel
theorem dX0_passYear_7 : decode cX0_passYear 7 = .ok (.aload_n 0, 1) := by decide +kernel
theorem dX0_passYear_8 : decode cX0_passYear 8 = .ok (.getfield 34, 3) := by decide +kernel
theorem dX0_passYear_11 : decode cX0_passYear 11 = .ok (.if_icmp .ge 7, 3) := by decide +kernel
theorem dX0_passYear_14 : decode cX0_passYear 14 = .ok (.iconst 1, 1) := by decide +kernel
theorem dX0_passYear_15 : decode cX0_passYear 15 = .ok (.goto 4, 3) := by decide +kernel
theorem dX0_passYear_18 : decode cX0_passYear 18 = .ok (.iconst 0, 1) := by decide +kernel
theorem dX0_passYear_19 : decode cX0_passYear 19 = .ok (.istore_n 1, 1) := by decide +kernel
theorem dX0_passYear_20 : decode cX0_passYear 20 = .ok (.aload_n 0, 1) := by decide +kernel
theorem dX0_passYear_21 : decode cX0_passYear 21 = .ok (.dup, 1) := by decide +kernel
theorem dX0_passYear_22 : decode cX0_passYear 22 = .ok (.getfield 37, 3) := by decide +kernel
theorem dX0_passYear_25 : decode cX0_passYear 25 = .ok (.iconst 1, 1) := by decide +kernel
theorem dX0_passYear_26 : decode cX0_passYear 26 = .ok (.iadd, 1) := by decide +kernel
theorem dX0_passYear_27 : decode cX0_passYear 27 = .ok (.putfield 37, 3) := by decide +kernel
theorem dX0_passYear_30 : decode cX0_passYear 30 = .ok (.iload_n 1, 1) := by decide +kernel
theorem dX0_passYear_31 : decode cX0_passYear 31 = .ok (.ifCond .eq 21, 3) := by decide +kernel
theorem dX0_passYear_34 : decode cX0_passYear 34 = .ok (.aload_n 0, 1) := by decide +kernel
theorem dX0_passYear_35 : decode cX0_passYear 35 = .ok (.invokevirtual 56, 3) := by decide +kernel
theorem dX0_passYear_38 : decode cX0_passYear 38 = .ok (.ifCond .eq 14, 3) := by decide +kernel
theorem dX0_passYear_41 : decode cX0_passYear 41 = .ok (.aload_n 0, 1) := by decide +kernel
theorem dX0_passYear_42 : decode cX0_passYear 42 = .ok (.invokevirtual 70, 3) := by decide +kernel
theorem dX0_passYear_45 : decode cX0_passYear 45 = .ok (.ifCond .eq 7, 3) := by decide +kernel
theorem dX0_passYear_48 : decode cX0_passYear 48 = .ok (.iconst 1, 1) := by decide +kernel
theorem dX0_passYear_49 : decode cX0_passYear 49 = .ok (.goto 4, 3) := by decide +kernel
theorem dX0_passYear_52 : decode cX0_passYear 52 = .ok (.iconst 0, 1) := by decide +kernel
theorem dX0_passYear_53 : decode cX0_passYear 53 = .ok (.ireturn, 1) := by decide +kernel
theorem fX0_37 : fldOK RX0 37 0 8 .int false := ⟨_, _, _, tyX0, ⟨rfl, iX0, by decide, rfl, by decide⟩, tw_115, ⟨tyX0_ok, nmX0⟩, by decide +kernel, rfl, rfl⟩
theorem kX0_70 : mthV RX0 70 0 yX0_bringForth prog_2_method_10_code 7 (Option.some Jvm.ClassFile.FieldType.boolean) 0 := ⟨⟨⟨tw_477, tw_61, tw_480⟩, rfl, by decide +kernel⟩, tw_479, tw_3, rfl⟩
theorem fX0_34 : fldOK RX0 34 0 7 .int false := ⟨_, _, _, tyX0, ⟨rfl, iX0, by decide, rfl, by decide⟩, tw_113, ⟨tyX0_ok, nmX0⟩, by decide +kernel, rfl, rfl⟩
def BX0_passYear_52 (ln : Nat → Nat) (post : Int32 → HC → Prop) (S : HC)  : Prop := rb_ .boolean (0 : Int32) (post (0 : Int32) S)
def BX0_passYear_19 (ln : Nat → Nat) (post : Int32 → HC → Prop) (S : HC) (x0 : Nat) (t0 : Int32) : Prop := lt_ (hI S x0 8) fun z1 => lt_ (z1 + (1 : Int32)) fun z2 => lt_ (sI S x0 8 z2) fun S => if t0 = 0 then (BX0_passYear_52 ln post S) else (wpX0_hasRoom ln S x0 fun z3 S => if z3 = 0 then (BX0_passYear_52 ln post S) else (wpX0_bringForth ln S x0 fun z4 S => if z4 = 0 then (BX0_passYear_52 ln post S) else (rb_ .boolean (1 : Int32) (post (1 : Int32) S))))
def wpX0_passYear (ln : Nat → Nat) (S : HC) (a0 : Nat) (post : Int32 → HC → Prop) : Prop := wpX0_draw ln S a0 fun z5 S => ne_ (100 : Int32) <| lt_ (z5 - z5 / (100 : Int32) * (100 : Int32)) fun z6 => lt_ (hI S a0 7) fun z7 => if z7 ≤ z6 then (BX0_passYear_19 ln post S a0 (0 : Int32)) else (BX0_passYear_19 ln post S a0 (1 : Int32))
abbrev rmX0_passYear : Room := { frames := 3, cells := 0, slots := 0, locals := 72 }
set_option maxHeartbeats 4000000 in
set_option maxRecDepth 100000 in
theorem ctX0_passYear {l : Launch} {g : GX} {N : Nat} {ln : Nat → Nat} {S : HC} {a0 : Nat} {post : Int32 → HC → Prop} (hr_a0 : a0 < N) (hk_a0 : kd a0 = 0) (h : wpX0_passYear ln S a0 post) : Met l yX0_passYear (Cond.code yX0_passYear prog_2_method_9_code 2 (Option.some Jvm.ClassFile.FieldType.boolean) :: gtbl) rmX0_passYear (va_Pc [.ref (gz g + a0)] (AtP g N ln S)) (QI g N ln post) 0 0 (gF g) := by
  refine m_of (by decide) (Nat.le_of_ble_eq_true rfl) ?_
  intro p e s m below meth c ls F hr I hl
  have hl : lv_has ls 2 [(0, .ref (gz g + a0))] := hl
  unfold wpX0_passYear at h
  have hj_52 : ∀ (S : HC) (H : Heap) (locs : List Loc) (ls : Array Slot), BX0_passYear_52 ln post S  → Inv g N ln S s H locs → lv_has ls 2 [] → W p l e rmX0_passYear s m ([.ref (gz g + a0)] : List Value).toArray below meth c H locs 0 0 (MQ below (QI g N ln post) ([.ref (gz g + a0)] : List Value).toArray s 0 0 (gF g)) (F0 m 52 ls []) := by
    intro S H locs ls h I hl
    unfold BX0_passYear_52 at h
    refine lv_iconst (v := 0) F.1 F.2.1 dX0_passYear_52 (by decide) ?_
    exact r_zreturn F I ⟨hr.1, hr.2.1, trivial⟩ h dX0_passYear_53
  have hj_19 : ∀ (S : HC) (H : Heap) (locs : List Loc) (ls : Array Slot) (x0 : Nat) (t0 : Int32), x0 < N → kd x0 = 0 → BX0_passYear_19 ln post S x0 t0 → Inv g N ln S s H locs → lv_has ls 2 [(0, .ref (gz g + x0))] → W p l e rmX0_passYear s m ([.ref (gz g + a0)] : List Value).toArray below meth c H locs 0 0 (MQ below (QI g N ln post) ([.ref (gz g + a0)] : List Value).toArray s 0 0 (gF g)) (F0 m 19 ls [.int t0]) := by
    intro S H locs ls x0 t0 hr_x0 hk_x0 h I hl
    unfold BX0_passYear_19 at h
    refine lv_istore_n (lv' := [(1, .int t0), (0, .ref (gz g + x0))]) F.1 F.2.1 dX0_passYear_19 rfl hl (by decide) rfl (fun ls hl => ?_)
    refine lv_aload_n F.1 F.2.1 dX0_passYear_20 rfl (lv_at hl 1 rfl) ?_
    refine lv_dup F.1 F.2.1 dX0_passYear_21 rfl ?_
    refine r_getI F I hr_x0 hk_x0 fX0_37 rfl dX0_passYear_22 h (fun z1 h => ?_)
    refine lv_iconst (v := 1) F.1 F.2.1 dX0_passYear_25 (by decide) ?_
    refine r_iadd F dX0_passYear_26 h (fun z2 h => ?_)
    refine r_putI F I hr_x0 hk_x0 fX0_37 rfl (Or.inl rfl) ⟨rfl, rfl⟩ dX0_passYear_27 h (fun S H locs I h => ?_)
    refine lv_iload_n F.1 F.2.1 dX0_passYear_30 rfl (lv_at hl 0 rfl) ?_
    refine r_if_eq (tgt := 52) F dX0_passYear_31 (by decide) h (fun h => ?_) (fun h => ?_)
    · exact hj_52 S _ _ _   h I (lv_sub hl [] rfl)
    · refine lv_aload_n F.1 F.2.1 dX0_passYear_34 rfl (lv_at hl 1 rfl) ?_
      refine g_I I (run_V (As := []) (rest := []) F I hr_x0 hk_x0 (by decide) kX0_56 (ctX0_hasRoom hr_x0 hk_x0 h) ⟨rfl, rfl⟩ ⟨Nat.le_of_ble_eq_true rfl, Nat.le_of_ble_eq_true rfl⟩ rfl hl.1 rfl (Nat.le_of_ble_eq_true rfl) ⟨Nat.le_of_ble_eq_true rfl, Nat.le_of_ble_eq_true rfl⟩ dX0_passYear_35) (fun z3 S H locs I h => ?_)
      refine r_if_eq (tgt := 52) F dX0_passYear_38 (by decide) h (fun h => ?_) (fun h => ?_)
      · exact hj_52 S _ _ _   h I (lv_sub hl [] rfl)
      · refine lv_aload_n F.1 F.2.1 dX0_passYear_41 rfl (lv_at hl 1 rfl) ?_
        refine g_I I (run_V (As := []) (rest := []) F I hr_x0 hk_x0 (by decide) kX0_70 (ctX0_bringForth hr_x0 hk_x0 h) ⟨rfl, rfl⟩ ⟨Nat.le_of_ble_eq_true rfl, Nat.le_of_ble_eq_true rfl⟩ rfl hl.1 rfl (Nat.le_of_ble_eq_true rfl) ⟨Nat.le_of_ble_eq_true rfl, Nat.le_of_ble_eq_true rfl⟩ dX0_passYear_42) (fun z4 S H locs I h => ?_)
        refine r_if_eq (tgt := 52) F dX0_passYear_45 (by decide) h (fun h => ?_) (fun h => ?_)
        · exact hj_52 S _ _ _   h I (lv_sub hl [] rfl)
        · refine lv_iconst (v := 1) F.1 F.2.1 dX0_passYear_48 (by decide) ?_
          refine lv_goto (tgt := 53) F.1 F.2.1 dX0_passYear_49 (by decide) ?_
          exact r_zreturn F I ⟨hr.1, hr.2.1, trivial⟩ h dX0_passYear_53
  refine lv_aload_n F.1 F.2.1 dX0_passYear_0 rfl (lv_at hl 0 rfl) ?_
  refine g_I I (run_V (As := []) (rest := []) F I hr_a0 hk_a0 (by decide) kX0_62 (ctX0_draw hr_a0 hk_a0 h) ⟨rfl, rfl⟩ ⟨Nat.le_of_ble_eq_true rfl, Nat.le_of_ble_eq_true rfl⟩ rfl hl.1 rfl (Nat.le_of_ble_eq_true rfl) ⟨Nat.le_of_ble_eq_true rfl, Nat.le_of_ble_eq_true rfl⟩ dX0_passYear_1) (fun z5 S H locs I h => ?_)
  refine lv_bipush (v := 100) F.1 F.2.1 dX0_passYear_4 (by decide) ?_
  refine r_irem F dX0_passYear_6 h (fun z6 h => ?_)
  refine lv_aload_n F.1 F.2.1 dX0_passYear_7 rfl (lv_at hl 0 rfl) ?_
  refine r_getI F I hr_a0 hk_a0 fX0_34 rfl dX0_passYear_8 h (fun z7 h => ?_)
  refine r_icmp_ge (tgt := 18) F dX0_passYear_11 (by decide) h (fun h => ?_) (fun h => ?_)
  · refine lv_iconst (v := 0) F.1 F.2.1 dX0_passYear_18 (by decide) ?_
    exact hj_19 S _ _ _ a0 (0 : Int32) hr_a0 hk_a0 h I (lv_sub hl [0] rfl)
  · refine lv_iconst (v := 1) F.1 F.2.1 dX0_passYear_14 (by decide) ?_
    refine lv_goto (tgt := 19) F.1 F.2.1 dX0_passYear_15 (by decide) ?_
    exact hj_19 S _ _ _ a0 (1 : Int32) hr_a0 hk_a0 h I (lv_sub hl [0] rfl)
theorem dX0_founders_0 : decode cX0_founders 0 = .ok (.iconst 0, 1) := by decide +kernel
theorem dX0_founders_1 : decode cX0_founders 1 = .ok (.istore_n 1, 1) := by decide +kernel
theorem dX0_founders_2 : decode cX0_founders 2 = .ok (.iconst 0, 1) := by decide +kernel
theorem dX0_founders_3 : decode cX0_founders 3 = .ok (.istore_n 2, 1) := by decide +kernel
theorem dX0_founders_4 : decode cX0_founders 4 = .ok (.iload_n 2, 1) := by decide +kernel
theorem dX0_founders_5 : decode cX0_founders 5 = .ok (.aload_n 0, 1) := by decide +kernel
theorem dX0_founders_6 : decode cX0_founders 6 = .ok (.getfield 30, 3) := by decide +kernel
theorem dX0_founders_9 : decode cX0_founders 9 = .ok (.if_icmp .ge 22, 3) := by decide +kernel
theorem dX0_founders_12 : decode cX0_founders 12 = .ok (.aload_n 0, 1) := by decide +kernel
theorem dX0_founders_13 : decode cX0_founders 13 = .ok (.getfield 15, 3) := by decide +kernel
theorem dX0_founders_16 : decode cX0_founders 16 = .ok (.iload_n 2, 1) := by decide +kernel
theorem dX0_founders_17 : decode cX0_founders 17 = .ok (.iaload, 1) := by decide +kernel
theorem dX0_founders_18 : decode cX0_founders 18 = .ok (.iconst (-1), 1) := by decide +kernel
theorem dX0_founders_19 : decode cX0_founders 19 = .ok (.if_icmp .ne 6, 3) := by decide +kernel
theorem dX0_founders_22 : decode cX0_founders 22 = .ok (.iinc 1 1, 3) := by decide +kernel
theorem dX0_founders_25 : decode cX0_founders 25 = .ok (.iinc 2 1, 3) := by decide +kernel
theorem dX0_founders_28 : decode cX0_founders 28 = .ok (.goto (-24), 3) := by decide +kernel
theorem dX0_founders_31 : decode cX0_founders 31 = .ok (.iload_n 1, 1) := by decide +kernel
theorem dX0_founders_32 : decode cX0_founders 32 = .ok (.ireturn, 1) := by decide +kernel
def BX0_founders_25 (ln : Nat → Nat) (post : Int32 → HC → Prop) (K4 : HC → Nat → Int32 → Int32 → Prop) (S : HC) (x0 : Nat) (x1 : Int32) (x2 : Int32) : Prop := lt_ (x2 + (1 : Int32)) fun z1 => K4 S x0 x1 z1
def LX0_founders_4 (ln : Nat → Nat) (post : Int32 → HC → Prop) : Nat → HC → Nat → Int32 → Int32 → Prop
  | 0 => fun _ _ _ _ => False
  | n4 + 1 => fun S x0 x1 x2 => lt_ (hI S x0 6) fun z2 => if z2 ≤ x2 then (post x1 S) else (dn_ (hR S x0 1) fun b3 => al_ (ln b3) x2 (hI S b3) fun z4 => if z4 = (-1 : Int32) then (lt_ (x1 + (1 : Int32)) fun z5 => BX0_founders_25 ln post (LX0_founders_4 ln post n4) S x0 z5 x2) else (BX0_founders_25 ln post (LX0_founders_4 ln post n4) S x0 x1 x2))
def wpX0_founders (ln : Nat → Nat) (S : HC) (a0 : Nat) (post : Int32 → HC → Prop) : Prop := ∃ n4, LX0_founders_4 ln post n4 S a0 (0 : Int32) (0 : Int32)
abbrev rmX0_founders : Room := { frames := 0, cells := 0, slots := 0, locals := 0 }
set_option maxHeartbeats 4000000 in
set_option maxRecDepth 100000 in
theorem ctX0_founders {l : Launch} {g : GX} {N : Nat} {ln : Nat → Nat} {S : HC} {a0 : Nat} {post : Int32 → HC → Prop} (hr_a0 : a0 < N) (hk_a0 : kd a0 = 0) (h : wpX0_founders ln S a0 post) : Met l yX0_founders (Cond.code yX0_founders prog_2_method_13_code 3 (Option.some Jvm.ClassFile.FieldType.int) :: gtbl) rmX0_founders (va_Pc [.ref (gz g + a0)] (AtP g N ln S)) (QI g N ln post) 0 0 (gF g) := by
  refine m_of (by decide) (Nat.le_of_ble_eq_true rfl) ?_
  intro p e s m below meth c ls F hr I hl
  have hl : lv_has ls 3 [(0, .ref (gz g + a0))] := hl
  unfold wpX0_founders at h
  have hl_4 : ∀ n4 : Nat, ∀ (S : HC) (H : Heap) (locs : List Loc) (ls : Array Slot) (x0 : Nat) (x1 : Int32) (x2 : Int32), x0 < N → kd x0 = 0 → LX0_founders_4 ln post n4 S x0 x1 x2 → Inv g N ln S s H locs → lv_has ls 3 [(0, .ref (gz g + x0)), (1, .int x1), (2, .int x2)] → W p l e rmX0_founders s m ([.ref (gz g + a0)] : List Value).toArray below meth c H locs 0 0 (MQ below (QI g N ln post) ([.ref (gz g + a0)] : List Value).toArray s 0 0 (gF g)) (F0 m 4 ls []) := by
    intro n4
    induction n4 with
    | zero =>
      intro S H locs ls x0 x1 x2 hr_x0 hk_x0 h I hl
      exact h.elim
    | succ n4 ih =>
      have hk4 := ih
      have hj_25 : ∀ (S : HC) (H : Heap) (locs : List Loc) (ls : Array Slot) (x0 : Nat) (x1 : Int32) (x2 : Int32), x0 < N → kd x0 = 0 → BX0_founders_25 ln post (LX0_founders_4 ln post n4) S x0 x1 x2 → Inv g N ln S s H locs → lv_has ls 3 [(0, .ref (gz g + x0)), (1, .int x1), (2, .int x2)] → W p l e rmX0_founders s m ([.ref (gz g + a0)] : List Value).toArray below meth c H locs 0 0 (MQ below (QI g N ln post) ([.ref (gz g + a0)] : List Value).toArray s 0 0 (gF g)) (F0 m 25 ls []) := by
        intro S H locs ls x0 x1 x2 hr_x0 hk_x0 h I hl
        unfold BX0_founders_25 at h
        obtain ⟨z1, e_z1, h⟩ := lt_x h
        refine lv_iinc (v := z1) (lv' := [(2, .int z1), (0, .ref (gz g + x0)), (1, .int x1)]) F.1 F.2.1 dX0_founders_25 hl (k := 2) rfl (by rw [e_z1]; rfl) (by decide) rfl (fun ls hl => ?_)
        refine lv_goto (tgt := 4) F.1 F.2.1 dX0_founders_28 (by decide) ?_
        exact hk4 S _ _ _ x0 x1 z1 hr_x0 hk_x0 h I (lv_sub hl [1, 2, 0] rfl)
      intro S H locs ls x0 x1 x2 hr_x0 hk_x0 h I hl
      rw [LX0_founders_4] at h
      refine lv_iload_n F.1 F.2.1 dX0_founders_4 rfl (lv_at hl 2 rfl) ?_
      refine lv_aload_n F.1 F.2.1 dX0_founders_5 rfl (lv_at hl 0 rfl) ?_
      refine r_getI F I hr_x0 hk_x0 fX0_30 rfl dX0_founders_6 h (fun z2 h => ?_)
      refine r_icmp_ge (tgt := 31) F dX0_founders_9 (by decide) h (fun h => ?_) (fun h => ?_)
      · refine lv_iload_n F.1 F.2.1 dX0_founders_31 rfl (lv_at hl 1 rfl) ?_
        exact r_ireturn F I ⟨hr.1, hr.2.1, trivial⟩ h dX0_founders_32
      · refine lv_aload_n F.1 F.2.1 dX0_founders_12 rfl (lv_at hl 0 rfl) ?_
        refine r_getN F I hr_x0 hk_x0 fX0_15 (f := 9) rfl (by decide) dX0_founders_13 h (fun b3 hr_b3 hk_b3 h => ?_)
        refine lv_iload_n F.1 F.2.1 dX0_founders_16 rfl (lv_at hl 2 rfl) ?_
        refine r_ald F I hr_b3 hk_b3 dX0_founders_17 h (fun z4 h => ?_)
        refine lv_iconst (v := -1) F.1 F.2.1 dX0_founders_18 (by decide) ?_
        refine r_icmp_ne (tgt := 25) F dX0_founders_19 (by decide) h (fun h => ?_) (fun h => ?_)
        · exact hj_25 S _ _ _ x0 x1 x2 hr_x0 hk_x0 h I (lv_sub hl [0, 1, 2] rfl)
        · obtain ⟨z5, e_z5, h⟩ := lt_x h
          refine lv_iinc (v := z5) (lv' := [(1, .int z5), (0, .ref (gz g + x0)), (2, .int x2)]) F.1 F.2.1 dX0_founders_22 hl (k := 1) rfl (by rw [e_z5]; rfl) (by decide) rfl (fun ls hl => ?_)
          exact hj_25 S _ _ _ x0 z5 x2 hr_x0 hk_x0 h I (lv_sub hl [1, 0, 2] rfl)
  refine lv_iconst (v := 0) F.1 F.2.1 dX0_founders_0 (by decide) ?_
  refine lv_istore_n (lv' := [(1, .int (0 : Int32)), (0, .ref (gz g + a0))]) F.1 F.2.1 dX0_founders_1 rfl hl (by decide) rfl (fun ls hl => ?_)
  refine lv_iconst (v := 0) F.1 F.2.1 dX0_founders_2 (by decide) ?_
  refine lv_istore_n (lv' := [(2, .int (0 : Int32)), (1, .int (0 : Int32)), (0, .ref (gz g + a0))]) F.1 F.2.1 dX0_founders_3 rfl hl (by decide) rfl (fun ls hl => ?_)
  obtain ⟨n4, h⟩ := h
  exact hl_4 n4 S _ _ _ a0 (0 : Int32) (0 : Int32) hr_a0 hk_a0 h I (lv_sub hl [2, 1, 0] rfl)
theorem dX0_isHeiress_0 : decode cX0_isHeiress 0 = .ok (.aload_n 0, 1) := by decide +kernel
theorem dX0_isHeiress_1 : decode cX0_isHeiress 1 = .ok (.iload_n 1, 1) := by decide +kernel
theorem dX0_isHeiress_2 : decode cX0_isHeiress 2 = .ok (.invokevirtual 52, 3) := by decide +kernel
theorem dX0_isHeiress_5 : decode cX0_isHeiress 5 = .ok (.ifCond .eq 13, 3) := by decide +kernel
theorem dX0_isHeiress_8 : decode cX0_isHeiress 8 = .ok (.aload_n 0, 1) := by decide +kernel
theorem dX0_isHeiress_9 : decode cX0_isHeiress 9 = .ok (.getfield 21, 3) := by decide +kernel
theorem dX0_isHeiress_12 : decode cX0_isHeiress 12 = .ok (.iload_n 1, 1) := by decide +kernel
theorem dX0_isHeiress_13 : decode cX0_isHeiress 13 = .ok (.iaload, 1) := by decide +kernel
theorem dX0_isHeiress_14 : decode cX0_isHeiress 14 = .ok (.iconst 1, 1) := by decide +kernel
theorem dX0_isHeiress_15 : decode cX0_isHeiress 15 = .ok (.if_icmp .eq 5, 3) := by decide +kernel
theorem dX0_isHeiress_18 : decode cX0_isHeiress 18 = .ok (.iconst 0, 1) := by decide +kernel
theorem dX0_isHeiress_19 : decode cX0_isHeiress 19 = .ok (.ireturn, 1) := by decide +kernel
theorem dX0_isHeiress_20 : decode cX0_isHeiress 20 = .ok (.aload_n 0, 1) := by decide +kernel
theorem dX0_isHeiress_21 : decode cX0_isHeiress 21 = .ok (.getfield 15, 3) := by decide +kernel
theorem dX0_isHeiress_24 : decode cX0_isHeiress 24 = .ok (.iload_n 1, 1) := by decide +kernel
theorem dX0_isHeiress_25 : decode cX0_isHeiress 25 = .ok (.iaload, 1) := by decide +kernel
theorem dX0_isHeiress_26 : decode cX0_isHeiress 26 = .ok (.iconst (-1), 1) := by decide +kernel
theorem dX0_isHeiress_27 : decode cX0_isHeiress 27 = .ok (.if_icmp .ne 5, 3) := by decide +kernel
theorem dX0_isHeiress_30 : decode cX0_isHeiress 30 = .ok (.iconst 1, 1) := by decide +kernel
theorem dX0_isHeiress_31 : decode cX0_isHeiress 31 = .ok (.ireturn, 1) := by decide +kernel
theorem dX0_isHeiress_32 : decode cX0_isHeiress 32 = .ok (.iconst 0, 1) := by decide +kernel
theorem dX0_isHeiress_33 : decode cX0_isHeiress 33 = .ok (.istore_n 2, 1) := by decide +kernel
theorem dX0_isHeiress_34 : decode cX0_isHeiress 34 = .ok (.iload_n 2, 1) := by decide +kernel
theorem dX0_isHeiress_35 : decode cX0_isHeiress 35 = .ok (.aload_n 0, 1) := by decide +kernel
theorem dX0_isHeiress_36 : decode cX0_isHeiress 36 = .ok (.getfield 30, 3) := by decide +kernel
theorem dX0_isHeiress_39 : decode cX0_isHeiress 39 = .ok (.if_icmp .ge 35, 3) := by decide +kernel
theorem dX0_isHeiress_42 : decode cX0_isHeiress 42 = .ok (.aload_n 0, 1) := by decide +kernel
theorem dX0_isHeiress_43 : decode cX0_isHeiress 43 = .ok (.getfield 21, 3) := by decide +kernel
theorem dX0_isHeiress_46 : decode cX0_isHeiress 46 = .ok (.iload_n 2, 1) := by decide +kernel
theorem dX0_isHeiress_47 : decode cX0_isHeiress 47 = .ok (.iaload, 1) := by decide +kernel
theorem dX0_isHeiress_48 : decode cX0_isHeiress 48 = .ok (.ifCond .ne 20, 3) := by decide +kernel
theorem dX0_isHeiress_51 : decode cX0_isHeiress 51 = .ok (.aload_n 0, 1) := by decide +kernel
theorem dX0_isHeiress_52 : decode cX0_isHeiress 52 = .ok (.getfield 15, 3) := by decide +kernel
theorem dX0_isHeiress_55 : decode cX0_isHeiress 55 = .ok (.iload_n 2, 1) := by decide +kernel
theorem dX0_isHeiress_56 : decode cX0_isHeiress 56 = .ok (.iaload, 1) := by decide +kernel
theorem dX0_isHeiress_57 : decode cX0_isHeiress 57 = .ok (.aload_n 0, 1) := by decide +kernel
theorem dX0_isHeiress_58 : decode cX0_isHeiress 58 = .ok (.getfield 15, 3) := by decide +kernel
theorem dX0_isHeiress_61 : decode cX0_isHeiress 61 = .ok (.iload_n 1, 1) := by decide +kernel
theorem dX0_isHeiress_62 : decode cX0_isHeiress 62 = .ok (.iaload, 1) := by decide +kernel
theorem dX0_isHeiress_63 : decode cX0_isHeiress 63 = .ok (.if_icmp .ne 5, 3) := by decide +kernel
theorem dX0_isHeiress_66 : decode cX0_isHeiress 66 = .ok (.iconst 0, 1) := by decide +kernel
theorem dX0_isHeiress_67 : decode cX0_isHeiress 67 = .ok (.ireturn, 1) := by decide +kernel
theorem dX0_isHeiress_68 : decode cX0_isHeiress 68 = .ok (.iinc 2 1, 3) := by decide +kernel
theorem dX0_isHeiress_71 : decode cX0_isHeiress 71 = .ok (.goto (-37), 3) := by decide +kernel
theorem dX0_isHeiress_74 : decode cX0_isHeiress 74 = .ok (.iconst 1, 1) := by decide +kernel
theorem dX0_isHeiress_75 : decode cX0_isHeiress 75 = .ok (.ireturn, 1) := by decide +kernel
def BX0_isHeiress_68 (ln : Nat → Nat) (post : Int32 → HC → Prop) (K34 : HC → Nat → Int32 → Int32 → Prop) (S : HC) (x0 : Nat) (x1 : Int32) (x2 : Int32) : Prop := lt_ (x2 + (1 : Int32)) fun z1 => K34 S x0 x1 z1
def LX0_isHeiress_34 (ln : Nat → Nat) (post : Int32 → HC → Prop) : Nat → HC → Nat → Int32 → Int32 → Prop
  | 0 => fun _ _ _ _ => False
  | n34 + 1 => fun S x0 x1 x2 => lt_ (hI S x0 6) fun z2 => if z2 ≤ x2 then (rb_ .boolean (1 : Int32) (post (1 : Int32) S)) else (dn_ (hR S x0 3) fun b3 => al_ (ln b3) x2 (hI S b3) fun z4 => if z4 = 0 then (dn_ (hR S x0 1) fun b5 => al_ (ln b5) x2 (hI S b5) fun z6 => dn_ (hR S x0 1) fun b7 => al_ (ln b7) x1 (hI S b7) fun z8 => if z6 = z8 then (rb_ .boolean (0 : Int32) (post (0 : Int32) S)) else (BX0_isHeiress_68 ln post (LX0_isHeiress_34 ln post n34) S x0 x1 x2)) else (BX0_isHeiress_68 ln post (LX0_isHeiress_34 ln post n34) S x0 x1 x2))
def BX0_isHeiress_18 (ln : Nat → Nat) (post : Int32 → HC → Prop) (S : HC)  : Prop := rb_ .boolean (0 : Int32) (post (0 : Int32) S)
def wpX0_isHeiress (ln : Nat → Nat) (S : HC) (a0 : Nat) (a1 : Int32) (post : Int32 → HC → Prop) : Prop := wpX0_has ln S a0 a1 fun z9 S => if z9 = 0 then (BX0_isHeiress_18 ln post S) else (dn_ (hR S a0 3) fun b10 => al_ (ln b10) a1 (hI S b10) fun z11 => if z11 = (1 : Int32) then (dn_ (hR S a0 1) fun b12 => al_ (ln b12) a1 (hI S b12) fun z13 => if z13 = (-1 : Int32) then (rb_ .boolean (1 : Int32) (post (1 : Int32) S)) else (∃ n34, LX0_isHeiress_34 ln post n34 S a0 a1 (0 : Int32))) else (BX0_isHeiress_18 ln post S))
abbrev rmX0_isHeiress : Room := { frames := 1, cells := 0, slots := 0, locals := 21 }
set_option maxHeartbeats 4000000 in
set_option maxRecDepth 100000 in
theorem ctX0_isHeiress {l : Launch} {g : GX} {N : Nat} {ln : Nat → Nat} {S : HC} {a0 : Nat} {a1 : Int32} {post : Int32 → HC → Prop} (hr_a0 : a0 < N) (hk_a0 : kd a0 = 0) (h : wpX0_isHeiress ln S a0 a1 post) : Met l yX0_isHeiress (Cond.code yX0_isHeiress prog_2_method_14_code 3 (Option.some Jvm.ClassFile.FieldType.boolean) :: gtbl) rmX0_isHeiress (va_Pc [.ref (gz g + a0), .int a1] (AtP g N ln S)) (QI g N ln post) 0 0 (gF g) := by
  refine m_of (by decide) (Nat.le_of_ble_eq_true rfl) ?_
  intro p e s m below meth c ls F hr I hl
  have hl : lv_has ls 3 [(0, .ref (gz g + a0)), (1, .int a1)] := hl
  unfold wpX0_isHeiress at h
  have hl_34 : ∀ n34 : Nat, ∀ (S : HC) (H : Heap) (locs : List Loc) (ls : Array Slot) (x0 : Nat) (x1 : Int32) (x2 : Int32), x0 < N → kd x0 = 0 → LX0_isHeiress_34 ln post n34 S x0 x1 x2 → Inv g N ln S s H locs → lv_has ls 3 [(0, .ref (gz g + x0)), (1, .int x1), (2, .int x2)] → W p l e rmX0_isHeiress s m ([.ref (gz g + a0), .int a1] : List Value).toArray below meth c H locs 0 0 (MQ below (QI g N ln post) ([.ref (gz g + a0), .int a1] : List Value).toArray s 0 0 (gF g)) (F0 m 34 ls []) := by
    intro n34
    induction n34 with
    | zero =>
      intro S H locs ls x0 x1 x2 hr_x0 hk_x0 h I hl
      exact h.elim
    | succ n34 ih =>
      have hk34 := ih
      have hj_68 : ∀ (S : HC) (H : Heap) (locs : List Loc) (ls : Array Slot) (x0 : Nat) (x1 : Int32) (x2 : Int32), x0 < N → kd x0 = 0 → BX0_isHeiress_68 ln post (LX0_isHeiress_34 ln post n34) S x0 x1 x2 → Inv g N ln S s H locs → lv_has ls 3 [(0, .ref (gz g + x0)), (1, .int x1), (2, .int x2)] → W p l e rmX0_isHeiress s m ([.ref (gz g + a0), .int a1] : List Value).toArray below meth c H locs 0 0 (MQ below (QI g N ln post) ([.ref (gz g + a0), .int a1] : List Value).toArray s 0 0 (gF g)) (F0 m 68 ls []) := by
        intro S H locs ls x0 x1 x2 hr_x0 hk_x0 h I hl
        unfold BX0_isHeiress_68 at h
        obtain ⟨z1, e_z1, h⟩ := lt_x h
        refine lv_iinc (v := z1) (lv' := [(2, .int z1), (0, .ref (gz g + x0)), (1, .int x1)]) F.1 F.2.1 dX0_isHeiress_68 hl (k := 2) rfl (by rw [e_z1]; rfl) (by decide) rfl (fun ls hl => ?_)
        refine lv_goto (tgt := 34) F.1 F.2.1 dX0_isHeiress_71 (by decide) ?_
        exact hk34 S _ _ _ x0 x1 z1 hr_x0 hk_x0 h I (lv_sub hl [1, 2, 0] rfl)
      intro S H locs ls x0 x1 x2 hr_x0 hk_x0 h I hl
      rw [LX0_isHeiress_34] at h
      refine lv_iload_n F.1 F.2.1 dX0_isHeiress_34 rfl (lv_at hl 2 rfl) ?_
      refine lv_aload_n F.1 F.2.1 dX0_isHeiress_35 rfl (lv_at hl 0 rfl) ?_
      refine r_getI F I hr_x0 hk_x0 fX0_30 rfl dX0_isHeiress_36 h (fun z2 h => ?_)
      refine r_icmp_ge (tgt := 74) F dX0_isHeiress_39 (by decide) h (fun h => ?_) (fun h => ?_)
      · refine lv_iconst (v := 1) F.1 F.2.1 dX0_isHeiress_74 (by decide) ?_
        exact r_zreturn F I ⟨hr.1, hr.2.1, trivial⟩ h dX0_isHeiress_75
      · refine lv_aload_n F.1 F.2.1 dX0_isHeiress_42 rfl (lv_at hl 0 rfl) ?_
        refine r_getN F I hr_x0 hk_x0 fX0_21 (f := 9) rfl (by decide) dX0_isHeiress_43 h (fun b3 hr_b3 hk_b3 h => ?_)
        refine lv_iload_n F.1 F.2.1 dX0_isHeiress_46 rfl (lv_at hl 2 rfl) ?_
        refine r_ald F I hr_b3 hk_b3 dX0_isHeiress_47 h (fun z4 h => ?_)
        refine r_if_ne (tgt := 68) F dX0_isHeiress_48 (by decide) h (fun h => ?_) (fun h => ?_)
        · exact hj_68 S _ _ _ x0 x1 x2 hr_x0 hk_x0 h I (lv_sub hl [0, 1, 2] rfl)
        · refine lv_aload_n F.1 F.2.1 dX0_isHeiress_51 rfl (lv_at hl 0 rfl) ?_
          refine r_getN F I hr_x0 hk_x0 fX0_15 (f := 9) rfl (by decide) dX0_isHeiress_52 h (fun b5 hr_b5 hk_b5 h => ?_)
          refine lv_iload_n F.1 F.2.1 dX0_isHeiress_55 rfl (lv_at hl 2 rfl) ?_
          refine r_ald F I hr_b5 hk_b5 dX0_isHeiress_56 h (fun z6 h => ?_)
          refine lv_aload_n F.1 F.2.1 dX0_isHeiress_57 rfl (lv_at hl 0 rfl) ?_
          refine r_getN F I hr_x0 hk_x0 fX0_15 (f := 9) rfl (by decide) dX0_isHeiress_58 h (fun b7 hr_b7 hk_b7 h => ?_)
          refine lv_iload_n F.1 F.2.1 dX0_isHeiress_61 rfl (lv_at hl 1 rfl) ?_
          refine r_ald F I hr_b7 hk_b7 dX0_isHeiress_62 h (fun z8 h => ?_)
          refine r_icmp_ne (tgt := 68) F dX0_isHeiress_63 (by decide) h (fun h => ?_) (fun h => ?_)
          · exact hj_68 S _ _ _ x0 x1 x2 hr_x0 hk_x0 h I (lv_sub hl [0, 1, 2] rfl)
          · refine lv_iconst (v := 0) F.1 F.2.1 dX0_isHeiress_66 (by decide) ?_
            exact r_zreturn F I ⟨hr.1, hr.2.1, trivial⟩ h dX0_isHeiress_67
  have hj_18 : ∀ (S : HC) (H : Heap) (locs : List Loc) (ls : Array Slot), BX0_isHeiress_18 ln post S  → Inv g N ln S s H locs → lv_has ls 3 [] → W p l e rmX0_isHeiress s m ([.ref (gz g + a0), .int a1] : List Value).toArray below meth c H locs 0 0 (MQ below (QI g N ln post) ([.ref (gz g + a0), .int a1] : List Value).toArray s 0 0 (gF g)) (F0 m 18 ls []) := by
    intro S H locs ls h I hl
    unfold BX0_isHeiress_18 at h
    refine lv_iconst (v := 0) F.1 F.2.1 dX0_isHeiress_18 (by decide) ?_
    exact r_zreturn F I ⟨hr.1, hr.2.1, trivial⟩ h dX0_isHeiress_19
  refine lv_aload_n F.1 F.2.1 dX0_isHeiress_0 rfl (lv_at hl 0 rfl) ?_
  refine lv_iload_n F.1 F.2.1 dX0_isHeiress_1 rfl (lv_at hl 1 rfl) ?_
  refine g_I I (run_V (As := [.int a1]) (rest := []) F I hr_a0 hk_a0 (by decide) kX0_52 (ctX0_has hr_a0 hk_a0 h) ⟨rfl, rfl⟩ ⟨Nat.le_of_ble_eq_true rfl, Nat.le_of_ble_eq_true rfl⟩ rfl hl.1 rfl (Nat.le_of_ble_eq_true rfl) ⟨Nat.le_of_ble_eq_true rfl, Nat.le_of_ble_eq_true rfl⟩ dX0_isHeiress_2) (fun z9 S H locs I h => ?_)
  refine r_if_eq (tgt := 18) F dX0_isHeiress_5 (by decide) h (fun h => ?_) (fun h => ?_)
  · exact hj_18 S _ _ _   h I (lv_sub hl [] rfl)
  · refine lv_aload_n F.1 F.2.1 dX0_isHeiress_8 rfl (lv_at hl 0 rfl) ?_
    refine r_getN F I hr_a0 hk_a0 fX0_21 (f := 9) rfl (by decide) dX0_isHeiress_9 h (fun b10 hr_b10 hk_b10 h => ?_)
    refine lv_iload_n F.1 F.2.1 dX0_isHeiress_12 rfl (lv_at hl 1 rfl) ?_
    refine r_ald F I hr_b10 hk_b10 dX0_isHeiress_13 h (fun z11 h => ?_)
    refine lv_iconst (v := 1) F.1 F.2.1 dX0_isHeiress_14 (by decide) ?_
    refine r_icmp_eq (tgt := 20) F dX0_isHeiress_15 (by decide) h (fun h => ?_) (fun h => ?_)
    · refine lv_aload_n F.1 F.2.1 dX0_isHeiress_20 rfl (lv_at hl 0 rfl) ?_
      refine r_getN F I hr_a0 hk_a0 fX0_15 (f := 9) rfl (by decide) dX0_isHeiress_21 h (fun b12 hr_b12 hk_b12 h => ?_)
      refine lv_iload_n F.1 F.2.1 dX0_isHeiress_24 rfl (lv_at hl 1 rfl) ?_
      refine r_ald F I hr_b12 hk_b12 dX0_isHeiress_25 h (fun z13 h => ?_)
      refine lv_iconst (v := -1) F.1 F.2.1 dX0_isHeiress_26 (by decide) ?_
      refine r_icmp_ne (tgt := 32) F dX0_isHeiress_27 (by decide) h (fun h => ?_) (fun h => ?_)
      · refine lv_iconst (v := 0) F.1 F.2.1 dX0_isHeiress_32 (by decide) ?_
        refine lv_istore_n (lv' := [(2, .int (0 : Int32)), (0, .ref (gz g + a0)), (1, .int a1)]) F.1 F.2.1 dX0_isHeiress_33 rfl hl (by decide) rfl (fun ls hl => ?_)
        obtain ⟨n34, h⟩ := h
        exact hl_34 n34 S _ _ _ a0 a1 (0 : Int32) hr_a0 hk_a0 h I (lv_sub hl [1, 2, 0] rfl)
      · refine lv_iconst (v := 1) F.1 F.2.1 dX0_isHeiress_30 (by decide) ?_
        exact r_zreturn F I ⟨hr.1, hr.2.1, trivial⟩ h dX0_isHeiress_31
    · exact hj_18 S _ _ _   h I (lv_sub hl [] rfl)
theorem dX0_heiresses_0 : decode cX0_heiresses 0 = .ok (.iconst 0, 1) := by decide +kernel
theorem dX0_heiresses_1 : decode cX0_heiresses 1 = .ok (.istore_n 1, 1) := by decide +kernel
theorem dX0_heiresses_2 : decode cX0_heiresses 2 = .ok (.iconst 0, 1) := by decide +kernel
theorem dX0_heiresses_3 : decode cX0_heiresses 3 = .ok (.istore_n 2, 1) := by decide +kernel
theorem dX0_heiresses_4 : decode cX0_heiresses 4 = .ok (.iload_n 2, 1) := by decide +kernel
theorem dX0_heiresses_5 : decode cX0_heiresses 5 = .ok (.aload_n 0, 1) := by decide +kernel
theorem dX0_heiresses_6 : decode cX0_heiresses 6 = .ok (.getfield 30, 3) := by decide +kernel
theorem dX0_heiresses_9 : decode cX0_heiresses 9 = .ok (.if_icmp .ge 23, 3) := by decide +kernel
theorem dX0_heiresses_12 : decode cX0_heiresses 12 = .ok (.aload_n 0, 1) := by decide +kernel
theorem dX0_heiresses_13 : decode cX0_heiresses 13 = .ok (.iload_n 2, 1) := by decide +kernel
theorem dX0_heiresses_14 : decode cX0_heiresses 14 = .ok (.invokevirtual 81, 3) := by decide +kernel
theorem dX0_heiresses_17 : decode cX0_heiresses 17 = .ok (.ifCond .eq 9, 3) := by decide +kernel
theorem dX0_heiresses_20 : decode cX0_heiresses 20 = .ok (.iload_n 1, 1) := by decide +kernel
theorem dX0_heiresses_21 : decode cX0_heiresses 21 = .ok (.iconst 1, 1) := by decide +kernel
theorem dX0_heiresses_22 : decode cX0_heiresses 22 = .ok (.iload_n 2, 1) := by decide +kernel
theorem dX0_heiresses_23 : decode cX0_heiresses 23 = .ok (.ishl, 1) := by decide +kernel
theorem dX0_heiresses_24 : decode cX0_heiresses 24 = .ok (.ior, 1) := by decide +kernel
theorem dX0_heiresses_25 : decode cX0_heiresses 25 = .ok (.istore_n 1, 1) := by decide +kernel
theorem dX0_heiresses_26 : decode cX0_heiresses 26 = .ok (.iinc 2 1, 3) := by decide +kernel
theorem dX0_heiresses_29 : decode cX0_heiresses 29 = .ok (.goto (-25), 3) := by decide +kernel
theorem dX0_heiresses_32 : decode cX0_heiresses 32 = .ok (.iload_n 1, 1) := by decide +kernel
theorem dX0_heiresses_33 : decode cX0_heiresses 33 = .ok (.ireturn, 1) := by decide +kernel
theorem kX0_81 : mthV RX0 81 0 yX0_isHeiress prog_2_method_14_code 3 (Option.some Jvm.ClassFile.FieldType.boolean) 1 := ⟨⟨⟨tw_384, tw_61, tw_357⟩, rfl, by decide +kernel⟩, tw_355, tw_356, rfl⟩
def BX0_heiresses_26 (ln : Nat → Nat) (post : Int32 → HC → Prop) (K4 : HC → Nat → Int32 → Int32 → Prop) (S : HC) (x0 : Nat) (x1 : Int32) (x2 : Int32) : Prop := lt_ (x2 + (1 : Int32)) fun z1 => K4 S x0 x1 z1
def LX0_heiresses_4 (ln : Nat → Nat) (post : Int32 → HC → Prop) : Nat → HC → Nat → Int32 → Int32 → Prop
  | 0 => fun _ _ _ _ => False
  | n4 + 1 => fun S x0 x1 x2 => lt_ (hI S x0 6) fun z2 => if z2 ≤ x2 then (post x1 S) else (wpX0_isHeiress ln S x0 x2 fun z3 S => if z3 = 0 then (BX0_heiresses_26 ln post (LX0_heiresses_4 ln post n4) S x0 x1 x2) else (lt_ ((1 : Int32) <<< (x2 &&& 31)) fun z4 => lt_ (x1 ||| z4) fun z5 => BX0_heiresses_26 ln post (LX0_heiresses_4 ln post n4) S x0 z5 x2))
def wpX0_heiresses (ln : Nat → Nat) (S : HC) (a0 : Nat) (post : Int32 → HC → Prop) : Prop := ∃ n4, LX0_heiresses_4 ln post n4 S a0 (0 : Int32) (0 : Int32)
abbrev rmX0_heiresses : Room := { frames := 2, cells := 0, slots := 0, locals := 43 }
set_option maxHeartbeats 4000000 in
set_option maxRecDepth 100000 in
theorem ctX0_heiresses {l : Launch} {g : GX} {N : Nat} {ln : Nat → Nat} {S : HC} {a0 : Nat} {post : Int32 → HC → Prop} (hr_a0 : a0 < N) (hk_a0 : kd a0 = 0) (h : wpX0_heiresses ln S a0 post) : Met l yX0_heiresses (Cond.code yX0_heiresses prog_2_method_15_code 3 (Option.some Jvm.ClassFile.FieldType.int) :: gtbl) rmX0_heiresses (va_Pc [.ref (gz g + a0)] (AtP g N ln S)) (QI g N ln post) 0 0 (gF g) := by
  refine m_of (by decide) (Nat.le_of_ble_eq_true rfl) ?_
  intro p e s m below meth c ls F hr I hl
  have hl : lv_has ls 3 [(0, .ref (gz g + a0))] := hl
  unfold wpX0_heiresses at h
  have hl_4 : ∀ n4 : Nat, ∀ (S : HC) (H : Heap) (locs : List Loc) (ls : Array Slot) (x0 : Nat) (x1 : Int32) (x2 : Int32), x0 < N → kd x0 = 0 → LX0_heiresses_4 ln post n4 S x0 x1 x2 → Inv g N ln S s H locs → lv_has ls 3 [(0, .ref (gz g + x0)), (1, .int x1), (2, .int x2)] → W p l e rmX0_heiresses s m ([.ref (gz g + a0)] : List Value).toArray below meth c H locs 0 0 (MQ below (QI g N ln post) ([.ref (gz g + a0)] : List Value).toArray s 0 0 (gF g)) (F0 m 4 ls []) := by
    intro n4
    induction n4 with
    | zero =>
      intro S H locs ls x0 x1 x2 hr_x0 hk_x0 h I hl
      exact h.elim
    | succ n4 ih =>
      have hk4 := ih
      have hj_26 : ∀ (S : HC) (H : Heap) (locs : List Loc) (ls : Array Slot) (x0 : Nat) (x1 : Int32) (x2 : Int32), x0 < N → kd x0 = 0 → BX0_heiresses_26 ln post (LX0_heiresses_4 ln post n4) S x0 x1 x2 → Inv g N ln S s H locs → lv_has ls 3 [(0, .ref (gz g + x0)), (1, .int x1), (2, .int x2)] → W p l e rmX0_heiresses s m ([.ref (gz g + a0)] : List Value).toArray below meth c H locs 0 0 (MQ below (QI g N ln post) ([.ref (gz g + a0)] : List Value).toArray s 0 0 (gF g)) (F0 m 26 ls []) := by
        intro S H locs ls x0 x1 x2 hr_x0 hk_x0 h I hl
        unfold BX0_heiresses_26 at h
        obtain ⟨z1, e_z1, h⟩ := lt_x h
        refine lv_iinc (v := z1) (lv' := [(2, .int z1), (0, .ref (gz g + x0)), (1, .int x1)]) F.1 F.2.1 dX0_heiresses_26 hl (k := 2) rfl (by rw [e_z1]; rfl) (by decide) rfl (fun ls hl => ?_)
        refine lv_goto (tgt := 4) F.1 F.2.1 dX0_heiresses_29 (by decide) ?_
        exact hk4 S _ _ _ x0 x1 z1 hr_x0 hk_x0 h I (lv_sub hl [1, 2, 0] rfl)
      intro S H locs ls x0 x1 x2 hr_x0 hk_x0 h I hl
      rw [LX0_heiresses_4] at h
      refine lv_iload_n F.1 F.2.1 dX0_heiresses_4 rfl (lv_at hl 2 rfl) ?_
      refine lv_aload_n F.1 F.2.1 dX0_heiresses_5 rfl (lv_at hl 0 rfl) ?_
      refine r_getI F I hr_x0 hk_x0 fX0_30 rfl dX0_heiresses_6 h (fun z2 h => ?_)
      refine r_icmp_ge (tgt := 32) F dX0_heiresses_9 (by decide) h (fun h => ?_) (fun h => ?_)
      · refine lv_iload_n F.1 F.2.1 dX0_heiresses_32 rfl (lv_at hl 1 rfl) ?_
        exact r_ireturn F I ⟨hr.1, hr.2.1, trivial⟩ h dX0_heiresses_33
      · refine lv_aload_n F.1 F.2.1 dX0_heiresses_12 rfl (lv_at hl 0 rfl) ?_
        refine lv_iload_n F.1 F.2.1 dX0_heiresses_13 rfl (lv_at hl 2 rfl) ?_
        refine g_I I (run_V (As := [.int x2]) (rest := []) F I hr_x0 hk_x0 (by decide) kX0_81 (ctX0_isHeiress hr_x0 hk_x0 h) ⟨rfl, rfl⟩ ⟨Nat.le_of_ble_eq_true rfl, Nat.le_of_ble_eq_true rfl⟩ rfl hl.1 rfl (Nat.le_of_ble_eq_true rfl) ⟨Nat.le_of_ble_eq_true rfl, Nat.le_of_ble_eq_true rfl⟩ dX0_heiresses_14) (fun z3 S H locs I h => ?_)
        refine r_if_eq (tgt := 26) F dX0_heiresses_17 (by decide) h (fun h => ?_) (fun h => ?_)
        · exact hj_26 S _ _ _ x0 x1 x2 hr_x0 hk_x0 h I (lv_sub hl [0, 1, 2] rfl)
        · refine lv_iload_n F.1 F.2.1 dX0_heiresses_20 rfl (lv_at hl 1 rfl) ?_
          refine lv_iconst (v := 1) F.1 F.2.1 dX0_heiresses_21 (by decide) ?_
          refine lv_iload_n F.1 F.2.1 dX0_heiresses_22 rfl (lv_at hl 2 rfl) ?_
          refine r_ishl F dX0_heiresses_23 h (fun z4 h => ?_)
          refine r_ior F dX0_heiresses_24 h (fun z5 h => ?_)
          refine lv_istore_n (lv' := [(1, .int z5), (0, .ref (gz g + x0)), (2, .int x2)]) F.1 F.2.1 dX0_heiresses_25 rfl hl (by decide) rfl (fun ls hl => ?_)
          exact hj_26 S _ _ _ x0 z5 x2 hr_x0 hk_x0 h I (lv_sub hl [1, 0, 2] rfl)
  refine lv_iconst (v := 0) F.1 F.2.1 dX0_heiresses_0 (by decide) ?_
  refine lv_istore_n (lv' := [(1, .int (0 : Int32)), (0, .ref (gz g + a0))]) F.1 F.2.1 dX0_heiresses_1 rfl hl (by decide) rfl (fun ls hl => ?_)
  refine lv_iconst (v := 0) F.1 F.2.1 dX0_heiresses_2 (by decide) ?_
  refine lv_istore_n (lv' := [(2, .int (0 : Int32)), (1, .int (0 : Int32)), (0, .ref (gz g + a0))]) F.1 F.2.1 dX0_heiresses_3 rfl hl (by decide) rfl (fun ls hl => ?_)
  obtain ⟨n4, h⟩ := h
  exact hl_4 n4 S _ _ _ a0 (0 : Int32) (0 : Int32) hr_a0 hk_a0 h I (lv_sub hl [2, 1, 0] rfl)
theorem dX0_bitOf_0 : decode cX0_bitOf 0 = .ok (.iload_n 0, 1) := by decide +kernel
theorem dX0_bitOf_1 : decode cX0_bitOf 1 = .ok (.iconst (-1), 1) := by decide +kernel
theorem dX0_bitOf_2 : decode cX0_bitOf 2 = .ok (.if_icmp .ne 7, 3) := by decide +kernel
theorem dX0_bitOf_5 : decode cX0_bitOf 5 = .ok (.iconst 0, 1) := by decide +kernel
theorem dX0_bitOf_6 : decode cX0_bitOf 6 = .ok (.goto 6, 3) := by decide +kernel
theorem dX0_bitOf_9 : decode cX0_bitOf 9 = .ok (.iconst 1, 1) := by decide +kernel
theorem dX0_bitOf_10 : decode cX0_bitOf 10 = .ok (.iload_n 0, 1) := by decide +kernel
theorem dX0_bitOf_11 : decode cX0_bitOf 11 = .ok (.ishl, 1) := by decide +kernel
theorem dX0_bitOf_12 : decode cX0_bitOf 12 = .ok (.ireturn, 1) := by decide +kernel
def wpX0_bitOf (ln : Nat → Nat) (S : HC) (a0 : Int32) (post : Int32 → HC → Prop) : Prop := if a0 = (-1 : Int32) then (post (0 : Int32) S) else (lt_ ((1 : Int32) <<< (a0 &&& 31)) fun z1 => post z1 S)
abbrev rmX0_bitOf : Room := { frames := 0, cells := 0, slots := 0, locals := 0 }
set_option maxHeartbeats 4000000 in
set_option maxRecDepth 100000 in
theorem ctX0_bitOf {l : Launch} {g : GX} {N : Nat} {ln : Nat → Nat} {S : HC} {a0 : Int32} {post : Int32 → HC → Prop} (h : wpX0_bitOf ln S a0 post) : Met l yX0_bitOf (Cond.code yX0_bitOf prog_2_method_17_code 1 (Option.some Jvm.ClassFile.FieldType.int) :: gtbl) rmX0_bitOf (va_Pc [.int a0] (AtP g N ln S)) (QI g N ln post) 0 0 (gF g) := by
  refine m_of (by decide) (Nat.le_of_ble_eq_true rfl) ?_
  intro p e s m below meth c ls F hr I hl
  have hl : lv_has ls 1 [(0, .int a0)] := hl
  unfold wpX0_bitOf at h
  refine lv_iload_n F.1 F.2.1 dX0_bitOf_0 rfl (lv_at hl 0 rfl) ?_
  refine lv_iconst (v := -1) F.1 F.2.1 dX0_bitOf_1 (by decide) ?_
  refine r_icmp_ne (tgt := 9) F dX0_bitOf_2 (by decide) h (fun h => ?_) (fun h => ?_)
  · refine lv_iconst (v := 1) F.1 F.2.1 dX0_bitOf_9 (by decide) ?_
    refine lv_iload_n F.1 F.2.1 dX0_bitOf_10 rfl (lv_at hl 0 rfl) ?_
    refine r_ishl F dX0_bitOf_11 h (fun z1 h => ?_)
    exact r_ireturn F I ⟨hr.1, hr.2.1, trivial⟩ h dX0_bitOf_12
  · refine lv_iconst (v := 0) F.1 F.2.1 dX0_bitOf_5 (by decide) ?_
    refine lv_goto (tgt := 12) F.1 F.2.1 dX0_bitOf_6 (by decide) ?_
    exact r_ireturn F I ⟨hr.1, hr.2.1, trivial⟩ h dX0_bitOf_12
theorem dX0_oldestFounder_0 : decode cX0_oldestFounder 0 = .ok (.iconst 1, 1) := by decide +kernel
theorem dX0_oldestFounder_1 : decode cX0_oldestFounder 1 = .ok (.iload_n 1, 1) := by decide +kernel
theorem dX0_oldestFounder_2 : decode cX0_oldestFounder 2 = .ok (.ishl, 1) := by decide +kernel
theorem dX0_oldestFounder_3 : decode cX0_oldestFounder 3 = .ok (.istore_n 3, 1) := by decide +kernel
theorem dX0_oldestFounder_4 : decode cX0_oldestFounder 4 = .ok (.iconst (-1), 1) := by decide +kernel
theorem dX0_oldestFounder_5 : decode cX0_oldestFounder 5 = .ok (.istore 4, 2) := by decide +kernel
theorem dX0_oldestFounder_7 : decode cX0_oldestFounder 7 = .ok (.iload_n 1, 1) := by decide +kernel
theorem dX0_oldestFounder_8 : decode cX0_oldestFounder 8 = .ok (.istore 5, 2) := by decide +kernel
theorem dX0_oldestFounder_10 : decode cX0_oldestFounder 10 = .ok (.iload 5, 2) := by decide +kernel
theorem dX0_oldestFounder_12 : decode cX0_oldestFounder 12 = .ok (.ifCond .lt 78, 3) := by decide +kernel
theorem dX0_oldestFounder_15 : decode cX0_oldestFounder 15 = .ok (.aload_n 0, 1) := by decide +kernel
theorem dX0_oldestFounder_16 : decode cX0_oldestFounder 16 = .ok (.iload 5, 2) := by decide +kernel
theorem dX0_oldestFounder_18 : decode cX0_oldestFounder 18 = .ok (.invokevirtual 52, 3) := by decide +kernel
theorem dX0_oldestFounder_21 : decode cX0_oldestFounder 21 = .ok (.ifCond .eq 63, 3) := by decide +kernel
theorem dX0_oldestFounder_24 : decode cX0_oldestFounder 24 = .ok (.iload_n 3, 1) := by decide +kernel
theorem dX0_oldestFounder_25 : decode cX0_oldestFounder 25 = .ok (.iload 5, 2) := by decide +kernel
theorem dX0_oldestFounder_27 : decode cX0_oldestFounder 27 = .ok (.ishr, 1) := by decide +kernel
theorem dX0_oldestFounder_28 : decode cX0_oldestFounder 28 = .ok (.iconst 1, 1) := by decide +kernel
theorem dX0_oldestFounder_29 : decode cX0_oldestFounder 29 = .ok (.iand, 1) := by decide +kernel
theorem dX0_oldestFounder_30 : decode cX0_oldestFounder 30 = .ok (.iconst 1, 1) := by decide +kernel
theorem dX0_oldestFounder_31 : decode cX0_oldestFounder 31 = .ok (.if_icmp .ne 53, 3) := by decide +kernel
theorem dX0_oldestFounder_34 : decode cX0_oldestFounder 34 = .ok (.aload_n 0, 1) := by decide +kernel
theorem dX0_oldestFounder_35 : decode cX0_oldestFounder 35 = .ok (.getfield 15, 3) := by decide +kernel
theorem dX0_oldestFounder_38 : decode cX0_oldestFounder 38 = .ok (.iload 5, 2) := by decide +kernel
theorem dX0_oldestFounder_40 : decode cX0_oldestFounder 40 = .ok (.iaload, 1) := by decide +kernel
theorem dX0_oldestFounder_41 : decode cX0_oldestFounder 41 = .ok (.iconst (-1), 1) := by decide +kernel
theorem dX0_oldestFounder_42 : decode cX0_oldestFounder 42 = .ok (.if_icmp .ne 18, 3) := by decide +kernel
theorem dX0_oldestFounder_45 : decode cX0_oldestFounder 45 = .ok (.aload_n 0, 1) := by decide +kernel
theorem dX0_oldestFounder_46 : decode cX0_oldestFounder 46 = .ok (.getfield 24, 3) := by decide +kernel
theorem dX0_oldestFounder_49 : decode cX0_oldestFounder 49 = .ok (.iload 5, 2) := by decide +kernel
theorem dX0_oldestFounder_51 : decode cX0_oldestFounder 51 = .ok (.iaload, 1) := by decide +kernel
theorem dX0_oldestFounder_52 : decode cX0_oldestFounder 52 = .ok (.iload_n 2, 1) := by decide +kernel
theorem dX0_oldestFounder_53 : decode cX0_oldestFounder 53 = .ok (.if_icmp .ne 7, 3) := by decide +kernel
theorem dX0_oldestFounder_56 : decode cX0_oldestFounder 56 = .ok (.iload 5, 2) := by decide +kernel
theorem dX0_oldestFounder_58 : decode cX0_oldestFounder 58 = .ok (.istore 4, 2) := by decide +kernel
theorem dX0_oldestFounder_60 : decode cX0_oldestFounder 60 = .ok (.iload_n 3, 1) := by decide +kernel
theorem dX0_oldestFounder_61 : decode cX0_oldestFounder 61 = .ok (.aload_n 0, 1) := by decide +kernel
theorem dX0_oldestFounder_62 : decode cX0_oldestFounder 62 = .ok (.getfield 15, 3) := by decide +kernel
theorem dX0_oldestFounder_65 : decode cX0_oldestFounder 65 = .ok (.iload 5, 2) := by decide +kernel
theorem dX0_oldestFounder_67 : decode cX0_oldestFounder 67 = .ok (.iaload, 1) := by decide +kernel
theorem dX0_oldestFounder_68 : decode cX0_oldestFounder 68 = .ok (.invokestatic 84, 3) := by decide +kernel
theorem dX0_oldestFounder_71 : decode cX0_oldestFounder 71 = .ok (.aload_n 0, 1) := by decide +kernel
theorem dX0_oldestFounder_72 : decode cX0_oldestFounder 72 = .ok (.getfield 18, 3) := by decide +kernel
theorem dX0_oldestFounder_75 : decode cX0_oldestFounder 75 = .ok (.iload 5, 2) := by decide +kernel
theorem dX0_oldestFounder_77 : decode cX0_oldestFounder 77 = .ok (.iaload, 1) := by decide +kernel
theorem dX0_oldestFounder_78 : decode cX0_oldestFounder 78 = .ok (.invokestatic 84, 3) := by decide +kernel
theorem dX0_oldestFounder_81 : decode cX0_oldestFounder 81 = .ok (.ior, 1) := by decide +kernel
theorem dX0_oldestFounder_82 : decode cX0_oldestFounder 82 = .ok (.ior, 1) := by decide +kernel
theorem dX0_oldestFounder_83 : decode cX0_oldestFounder 83 = .ok (.istore_n 3, 1) := by decide +kernel
theorem dX0_oldestFounder_84 : decode cX0_oldestFounder 84 = .ok (.iinc 5 (-1), 3) := by decide +kernel
theorem dX0_oldestFounder_87 : decode cX0_oldestFounder 87 = .ok (.goto (-77), 3) := by decide +kernel
theorem dX0_oldestFounder_90 : decode cX0_oldestFounder 90 = .ok (.iload 4, 2) := by decide +kernel
theorem dX0_oldestFounder_92 : decode cX0_oldestFounder 92 = .ok (.ireturn, 1) := by decide +kernel
theorem kX0_84 : mthS RX0 84 yX0_bitOf prog_2_method_17_code 1 (Option.some Jvm.ClassFile.FieldType.int) 1 := ⟨⟨⟨tw_531, tw_61, tw_533⟩, rfl, by decide +kernel⟩, tw_532⟩
def BX0_oldestFounder_84 (ln : Nat → Nat) (post : Int32 → HC → Prop) (K10 : HC → Nat → Int32 → Int32 → Int32 → Int32 → Prop) (S : HC) (x0 : Nat) (x2 : Int32) (x3 : Int32) (x4 : Int32) (x5 : Int32) : Prop := lt_ (x5 + (-1 : Int32)) fun z1 => K10 S x0 x2 x3 x4 z1
def BX0_oldestFounder_60 (ln : Nat → Nat) (post : Int32 → HC → Prop) (K10 : HC → Nat → Int32 → Int32 → Int32 → Int32 → Prop) (S : HC) (x0 : Nat) (x2 : Int32) (x3 : Int32) (x4 : Int32) (x5 : Int32) : Prop := dn_ (hR S x0 1) fun b2 => al_ (ln b2) x5 (hI S b2) fun z3 => wpX0_bitOf ln S z3 fun z4 S => dn_ (hR S x0 2) fun b5 => al_ (ln b5) x5 (hI S b5) fun z6 => wpX0_bitOf ln S z6 fun z7 S => lt_ (z4 ||| z7) fun z8 => lt_ (x3 ||| z8) fun z9 => BX0_oldestFounder_84 ln post K10 S x0 x2 z9 x4 x5
def LX0_oldestFounder_10 (ln : Nat → Nat) (post : Int32 → HC → Prop) : Nat → HC → Nat → Int32 → Int32 → Int32 → Int32 → Prop
  | 0 => fun _ _ _ _ _ _ => False
  | n10 + 1 => fun S x0 x2 x3 x4 x5 => if x5 < 0 then (post x4 S) else (wpX0_has ln S x0 x5 fun z10 S => if z10 = 0 then (BX0_oldestFounder_84 ln post (LX0_oldestFounder_10 ln post n10) S x0 x2 x3 x4 x5) else (lt_ (x3 >>> (x5 &&& 31)) fun z11 => lt_ (z11 &&& (1 : Int32)) fun z12 => if z12 = (1 : Int32) then (dn_ (hR S x0 1) fun b13 => al_ (ln b13) x5 (hI S b13) fun z14 => if z14 = (-1 : Int32) then (dn_ (hR S x0 4) fun b15 => al_ (ln b15) x5 (hI S b15) fun z16 => if z16 = x2 then (BX0_oldestFounder_60 ln post (LX0_oldestFounder_10 ln post n10) S x0 x2 x3 x5 x5) else (BX0_oldestFounder_60 ln post (LX0_oldestFounder_10 ln post n10) S x0 x2 x3 x4 x5)) else (BX0_oldestFounder_60 ln post (LX0_oldestFounder_10 ln post n10) S x0 x2 x3 x4 x5)) else (BX0_oldestFounder_84 ln post (LX0_oldestFounder_10 ln post n10) S x0 x2 x3 x4 x5)))
def wpX0_oldestFounder (ln : Nat → Nat) (S : HC) (a0 : Nat) (a1 : Int32) (a2 : Int32) (post : Int32 → HC → Prop) : Prop := lt_ ((1 : Int32) <<< (a1 &&& 31)) fun z17 => ∃ n10, LX0_oldestFounder_10 ln post n10 S a0 a2 z17 (-1 : Int32) a1
abbrev rmX0_oldestFounder : Room := { frames := 1, cells := 0, slots := 0, locals := 21 }
set_option maxHeartbeats 4000000 in
set_option maxRecDepth 100000 in
theorem ctX0_oldestFounder {l : Launch} {g : GX} {N : Nat} {ln : Nat → Nat} {S : HC} {a0 : Nat} {a1 : Int32} {a2 : Int32} {post : Int32 → HC → Prop} (hr_a0 : a0 < N) (hk_a0 : kd a0 = 0) (h : wpX0_oldestFounder ln S a0 a1 a2 post) : Met l yX0_oldestFounder (Cond.code yX0_oldestFounder prog_2_method_16_code 6 (Option.some Jvm.ClassFile.FieldType.int) :: gtbl) rmX0_oldestFounder (va_Pc [.ref (gz g + a0), .int a1, .int a2] (AtP g N ln S)) (QI g N ln post) 0 0 (gF g) := by
  refine m_of (by decide) (Nat.le_of_ble_eq_true rfl) ?_
  intro p e s m below meth c ls F hr I hl
  have hl : lv_has ls 6 [(0, .ref (gz g + a0)), (1, .int a1), (2, .int a2)] := hl
  unfold wpX0_oldestFounder at h
  have hl_10 : ∀ n10 : Nat, ∀ (S : HC) (H : Heap) (locs : List Loc) (ls : Array Slot) (x0 : Nat) (x2 : Int32) (x3 : Int32) (x4 : Int32) (x5 : Int32), x0 < N → kd x0 = 0 → LX0_oldestFounder_10 ln post n10 S x0 x2 x3 x4 x5 → Inv g N ln S s H locs → lv_has ls 6 [(0, .ref (gz g + x0)), (2, .int x2), (3, .int x3), (4, .int x4), (5, .int x5)] → W p l e rmX0_oldestFounder s m ([.ref (gz g + a0), .int a1, .int a2] : List Value).toArray below meth c H locs 0 0 (MQ below (QI g N ln post) ([.ref (gz g + a0), .int a1, .int a2] : List Value).toArray s 0 0 (gF g)) (F0 m 10 ls []) := by
    intro n10
    induction n10 with
    | zero =>
      intro S H locs ls x0 x2 x3 x4 x5 hr_x0 hk_x0 h I hl
      exact h.elim
    | succ n10 ih =>
      have hk10 := ih
      have hj_84 : ∀ (S : HC) (H : Heap) (locs : List Loc) (ls : Array Slot) (x0 : Nat) (x2 : Int32) (x3 : Int32) (x4 : Int32) (x5 : Int32), x0 < N → kd x0 = 0 → BX0_oldestFounder_84 ln post (LX0_oldestFounder_10 ln post n10) S x0 x2 x3 x4 x5 → Inv g N ln S s H locs → lv_has ls 6 [(0, .ref (gz g + x0)), (2, .int x2), (3, .int x3), (4, .int x4), (5, .int x5)] → W p l e rmX0_oldestFounder s m ([.ref (gz g + a0), .int a1, .int a2] : List Value).toArray below meth c H locs 0 0 (MQ below (QI g N ln post) ([.ref (gz g + a0), .int a1, .int a2] : List Value).toArray s 0 0 (gF g)) (F0 m 84 ls []) := by
        intro S H locs ls x0 x2 x3 x4 x5 hr_x0 hk_x0 h I hl
        unfold BX0_oldestFounder_84 at h
        obtain ⟨z1, e_z1, h⟩ := lt_x h
        refine lv_iinc (v := z1) (lv' := [(5, .int z1), (0, .ref (gz g + x0)), (2, .int x2), (3, .int x3), (4, .int x4)]) F.1 F.2.1 dX0_oldestFounder_84 hl (k := 4) rfl (by rw [e_z1]; rfl) (by decide) rfl (fun ls hl => ?_)
        refine lv_goto (tgt := 10) F.1 F.2.1 dX0_oldestFounder_87 (by decide) ?_
        exact hk10 S _ _ _ x0 x2 x3 x4 z1 hr_x0 hk_x0 h I (lv_sub hl [1, 2, 3, 4, 0] rfl)
      have hj_60 : ∀ (S : HC) (H : Heap) (locs : List Loc) (ls : Array Slot) (x0 : Nat) (x2 : Int32) (x3 : Int32) (x4 : Int32) (x5 : Int32), x0 < N → kd x0 = 0 → BX0_oldestFounder_60 ln post (LX0_oldestFounder_10 ln post n10) S x0 x2 x3 x4 x5 → Inv g N ln S s H locs → lv_has ls 6 [(0, .ref (gz g + x0)), (2, .int x2), (3, .int x3), (4, .int x4), (5, .int x5)] → W p l e rmX0_oldestFounder s m ([.ref (gz g + a0), .int a1, .int a2] : List Value).toArray below meth c H locs 0 0 (MQ below (QI g N ln post) ([.ref (gz g + a0), .int a1, .int a2] : List Value).toArray s 0 0 (gF g)) (F0 m 60 ls []) := by
        intro S H locs ls x0 x2 x3 x4 x5 hr_x0 hk_x0 h I hl
        unfold BX0_oldestFounder_60 at h
        refine lv_iload_n F.1 F.2.1 dX0_oldestFounder_60 rfl (lv_at hl 2 rfl) ?_
        refine lv_aload_n F.1 F.2.1 dX0_oldestFounder_61 rfl (lv_at hl 0 rfl) ?_
        refine r_getN F I hr_x0 hk_x0 fX0_15 (f := 9) rfl (by decide) dX0_oldestFounder_62 h (fun b2 hr_b2 hk_b2 h => ?_)
        refine lv_iload F.1 F.2.1 dX0_oldestFounder_65 (lv_at hl 4 rfl) ?_
        refine r_ald F I hr_b2 hk_b2 dX0_oldestFounder_67 h (fun z3 h => ?_)
        refine g_I I (run_S (As := [.int z3]) (rest := [.int x3]) F I kX0_84 (ctX0_bitOf h) ⟨rfl, rfl⟩ ⟨Nat.le_of_ble_eq_true rfl, Nat.le_of_ble_eq_true rfl⟩ rfl hl.1 rfl (Nat.le_of_ble_eq_true rfl) ⟨Nat.le_of_ble_eq_true rfl, Nat.le_of_ble_eq_true rfl⟩ dX0_oldestFounder_68) (fun z4 S H locs I h => ?_)
        refine lv_aload_n F.1 F.2.1 dX0_oldestFounder_71 rfl (lv_at hl 0 rfl) ?_
        refine r_getN F I hr_x0 hk_x0 fX0_18 (f := 9) rfl (by decide) dX0_oldestFounder_72 h (fun b5 hr_b5 hk_b5 h => ?_)
        refine lv_iload F.1 F.2.1 dX0_oldestFounder_75 (lv_at hl 4 rfl) ?_
        refine r_ald F I hr_b5 hk_b5 dX0_oldestFounder_77 h (fun z6 h => ?_)
        refine g_I I (run_S (As := [.int z6]) (rest := [.int z4, .int x3]) F I kX0_84 (ctX0_bitOf h) ⟨rfl, rfl⟩ ⟨Nat.le_of_ble_eq_true rfl, Nat.le_of_ble_eq_true rfl⟩ rfl hl.1 rfl (Nat.le_of_ble_eq_true rfl) ⟨Nat.le_of_ble_eq_true rfl, Nat.le_of_ble_eq_true rfl⟩ dX0_oldestFounder_78) (fun z7 S H locs I h => ?_)
        refine r_ior F dX0_oldestFounder_81 h (fun z8 h => ?_)
        refine r_ior F dX0_oldestFounder_82 h (fun z9 h => ?_)
        refine lv_istore_n (lv' := [(3, .int z9), (0, .ref (gz g + x0)), (2, .int x2), (4, .int x4), (5, .int x5)]) F.1 F.2.1 dX0_oldestFounder_83 rfl hl (by decide) rfl (fun ls hl => ?_)
        exact hj_84 S _ _ _ x0 x2 z9 x4 x5 hr_x0 hk_x0 h I (lv_sub hl [1, 2, 0, 3, 4] rfl)
      intro S H locs ls x0 x2 x3 x4 x5 hr_x0 hk_x0 h I hl
      rw [LX0_oldestFounder_10] at h
      refine lv_iload F.1 F.2.1 dX0_oldestFounder_10 (lv_at hl 4 rfl) ?_
      refine r_if_lt (tgt := 90) F dX0_oldestFounder_12 (by decide) h (fun h => ?_) (fun h => ?_)
      · refine lv_iload F.1 F.2.1 dX0_oldestFounder_90 (lv_at hl 3 rfl) ?_
        exact r_ireturn F I ⟨hr.1, hr.2.1, trivial⟩ h dX0_oldestFounder_92
      · refine lv_aload_n F.1 F.2.1 dX0_oldestFounder_15 rfl (lv_at hl 0 rfl) ?_
        refine lv_iload F.1 F.2.1 dX0_oldestFounder_16 (lv_at hl 4 rfl) ?_
        refine g_I I (run_V (As := [.int x5]) (rest := []) F I hr_x0 hk_x0 (by decide) kX0_52 (ctX0_has hr_x0 hk_x0 h) ⟨rfl, rfl⟩ ⟨Nat.le_of_ble_eq_true rfl, Nat.le_of_ble_eq_true rfl⟩ rfl hl.1 rfl (Nat.le_of_ble_eq_true rfl) ⟨Nat.le_of_ble_eq_true rfl, Nat.le_of_ble_eq_true rfl⟩ dX0_oldestFounder_18) (fun z10 S H locs I h => ?_)
        refine r_if_eq (tgt := 84) F dX0_oldestFounder_21 (by decide) h (fun h => ?_) (fun h => ?_)
        · exact hj_84 S _ _ _ x0 x2 x3 x4 x5 hr_x0 hk_x0 h I (lv_sub hl [0, 1, 2, 3, 4] rfl)
        · refine lv_iload_n F.1 F.2.1 dX0_oldestFounder_24 rfl (lv_at hl 2 rfl) ?_
          refine lv_iload F.1 F.2.1 dX0_oldestFounder_25 (lv_at hl 4 rfl) ?_
          refine r_ishr F dX0_oldestFounder_27 h (fun z11 h => ?_)
          refine lv_iconst (v := 1) F.1 F.2.1 dX0_oldestFounder_28 (by decide) ?_
          refine r_iand F dX0_oldestFounder_29 h (fun z12 h => ?_)
          refine lv_iconst (v := 1) F.1 F.2.1 dX0_oldestFounder_30 (by decide) ?_
          refine r_icmp_ne (tgt := 84) F dX0_oldestFounder_31 (by decide) h (fun h => ?_) (fun h => ?_)
          · exact hj_84 S _ _ _ x0 x2 x3 x4 x5 hr_x0 hk_x0 h I (lv_sub hl [0, 1, 2, 3, 4] rfl)
          · refine lv_aload_n F.1 F.2.1 dX0_oldestFounder_34 rfl (lv_at hl 0 rfl) ?_
            refine r_getN F I hr_x0 hk_x0 fX0_15 (f := 9) rfl (by decide) dX0_oldestFounder_35 h (fun b13 hr_b13 hk_b13 h => ?_)
            refine lv_iload F.1 F.2.1 dX0_oldestFounder_38 (lv_at hl 4 rfl) ?_
            refine r_ald F I hr_b13 hk_b13 dX0_oldestFounder_40 h (fun z14 h => ?_)
            refine lv_iconst (v := -1) F.1 F.2.1 dX0_oldestFounder_41 (by decide) ?_
            refine r_icmp_ne (tgt := 60) F dX0_oldestFounder_42 (by decide) h (fun h => ?_) (fun h => ?_)
            · exact hj_60 S _ _ _ x0 x2 x3 x4 x5 hr_x0 hk_x0 h I (lv_sub hl [0, 1, 2, 3, 4] rfl)
            · refine lv_aload_n F.1 F.2.1 dX0_oldestFounder_45 rfl (lv_at hl 0 rfl) ?_
              refine r_getN F I hr_x0 hk_x0 fX0_24 (f := 9) rfl (by decide) dX0_oldestFounder_46 h (fun b15 hr_b15 hk_b15 h => ?_)
              refine lv_iload F.1 F.2.1 dX0_oldestFounder_49 (lv_at hl 4 rfl) ?_
              refine r_ald F I hr_b15 hk_b15 dX0_oldestFounder_51 h (fun z16 h => ?_)
              refine lv_iload_n F.1 F.2.1 dX0_oldestFounder_52 rfl (lv_at hl 1 rfl) ?_
              refine r_icmp_ne (tgt := 60) F dX0_oldestFounder_53 (by decide) h (fun h => ?_) (fun h => ?_)
              · exact hj_60 S _ _ _ x0 x2 x3 x4 x5 hr_x0 hk_x0 h I (lv_sub hl [0, 1, 2, 3, 4] rfl)
              · refine lv_iload F.1 F.2.1 dX0_oldestFounder_56 (lv_at hl 4 rfl) ?_
                refine lv_istore (lv' := [(4, .int x5), (0, .ref (gz g + x0)), (2, .int x2), (3, .int x3), (5, .int x5)]) F.1 F.2.1 dX0_oldestFounder_58 hl (by decide) rfl (fun ls hl => ?_)
                exact hj_60 S _ _ _ x0 x2 x3 x5 x5 hr_x0 hk_x0 h I (lv_sub hl [1, 2, 3, 0, 4] rfl)
  refine lv_iconst (v := 1) F.1 F.2.1 dX0_oldestFounder_0 (by decide) ?_
  refine lv_iload_n F.1 F.2.1 dX0_oldestFounder_1 rfl (lv_at hl 1 rfl) ?_
  refine r_ishl F dX0_oldestFounder_2 h (fun z17 h => ?_)
  refine lv_istore_n (lv' := [(3, .int z17), (0, .ref (gz g + a0)), (1, .int a1), (2, .int a2)]) F.1 F.2.1 dX0_oldestFounder_3 rfl hl (by decide) rfl (fun ls hl => ?_)
  refine lv_iconst (v := -1) F.1 F.2.1 dX0_oldestFounder_4 (by decide) ?_
  refine lv_istore (lv' := [(4, .int (-1 : Int32)), (3, .int z17), (0, .ref (gz g + a0)), (1, .int a1), (2, .int a2)]) F.1 F.2.1 dX0_oldestFounder_5 hl (by decide) rfl (fun ls hl => ?_)
  refine lv_iload_n F.1 F.2.1 dX0_oldestFounder_7 rfl (lv_at hl 3 rfl) ?_
  refine lv_istore (lv' := [(5, .int a1), (4, .int (-1 : Int32)), (3, .int z17), (0, .ref (gz g + a0)), (1, .int a1), (2, .int a2)]) F.1 F.2.1 dX0_oldestFounder_8 hl (by decide) rfl (fun ls hl => ?_)
  obtain ⟨n10, h⟩ := h
  exact hl_10 n10 S _ _ _ a0 a2 z17 (-1 : Int32) a1 hr_a0 hk_a0 h I (lv_sub hl [3, 5, 2, 1, 0] rfl)
theorem dX0_lastLaw_0 : decode cX0_lastLaw 0 = .ok (.aload_n 0, 1) := by decide +kernel
theorem dX0_lastLaw_1 : decode cX0_lastLaw 1 = .ok (.getfield 49, 3) := by decide +kernel
theorem dX0_lastLaw_4 : decode cX0_lastLaw 4 = .ok (.bipush 14, 2) := by decide +kernel
theorem dX0_lastLaw_6 : decode cX0_lastLaw 6 = .ok (.invokestatic 87, 3) := by decide +kernel
theorem dX0_lastLaw_9 : decode cX0_lastLaw 9 = .ok (.iconst 1, 1) := by decide +kernel
theorem dX0_lastLaw_10 : decode cX0_lastLaw 10 = .ok (.isub, 1) := by decide +kernel
theorem dX0_lastLaw_11 : decode cX0_lastLaw 11 = .ok (.istore_n 2, 1) := by decide +kernel
theorem dX0_lastLaw_12 : decode cX0_lastLaw 12 = .ok (.iload_n 2, 1) := by decide +kernel
theorem dX0_lastLaw_13 : decode cX0_lastLaw 13 = .ok (.ifCond .lt 33, 3) := by decide +kernel
theorem dX0_lastLaw_16 : decode cX0_lastLaw 16 = .ok (.aload_n 0, 1) := by decide +kernel
theorem dX0_lastLaw_17 : decode cX0_lastLaw 17 = .ok (.getfield 45, 3) := by decide +kernel
theorem dX0_lastLaw_20 : decode cX0_lastLaw 20 = .ok (.iload_n 2, 1) := by decide +kernel
theorem dX0_lastLaw_21 : decode cX0_lastLaw 21 = .ok (.aaload, 1) := by decide +kernel
theorem dX0_lastLaw_22 : decode cX0_lastLaw 22 = .ok (.ifnull 18, 3) := by decide +kernel
theorem dX0_lastLaw_25 : decode cX0_lastLaw 25 = .ok (.aload_n 0, 1) := by decide +kernel
theorem dX0_lastLaw_26 : decode cX0_lastLaw 26 = .ok (.getfield 45, 3) := by decide +kernel
theorem dX0_lastLaw_29 : decode cX0_lastLaw 29 = .ok (.iload_n 2, 1) := by decide +kernel
theorem dX0_lastLaw_30 : decode cX0_lastLaw 30 = .ok (.aaload, 1) := by decide +kernel
theorem dX0_lastLaw_31 : decode cX0_lastLaw 31 = .ok (.getfield 92, 3) := by decide +kernel
theorem dX0_lastLaw_34 : decode cX0_lastLaw 34 = .ok (.iload_n 1, 1) := by decide +kernel
theorem dX0_lastLaw_35 : decode cX0_lastLaw 35 = .ok (.if_icmp .ne 5, 3) := by decide +kernel
theorem dX0_lastLaw_38 : decode cX0_lastLaw 38 = .ok (.iload_n 2, 1) := by decide +kernel
theorem dX0_lastLaw_39 : decode cX0_lastLaw 39 = .ok (.ireturn, 1) := by decide +kernel
theorem dX0_lastLaw_40 : decode cX0_lastLaw 40 = .ok (.iinc 2 (-1), 3) := by decide +kernel
theorem dX0_lastLaw_43 : decode cX0_lastLaw 43 = .ok (.goto (-31), 3) := by decide +kernel
theorem dX0_lastLaw_46 : decode cX0_lastLaw 46 = .ok (.iconst (-1), 1) := by decide +kernel
theorem dX0_lastLaw_47 : decode cX0_lastLaw 47 = .ok (.ireturn, 1) := by decide +kernel
theorem fX0_45 : fldOK RX0 45 0 10 (.array (.object "LionShield$Law")) true := ⟨_, _, _, tyX0, ⟨rfl, iX0, by decide, rfl, by decide⟩, tw_119, ⟨tyX0_ok, nmX0⟩, by decide +kernel, rfl, rfl⟩
theorem fX0_92 : fldOK RX0 92 1 0 .int true := ⟨_, _, _, tyX1, ⟨rfl, iX1, by decide, rfl, by decide⟩, tw_819, ⟨tyX1_ok, nmX1⟩, by decide +kernel, rfl, rfl⟩
theorem fX0_49 : fldOK RX0 49 0 11 .int false := ⟨_, _, _, tyX0, ⟨rfl, iX0, by decide, rfl, by decide⟩, tw_121, ⟨tyX0_ok, nmX0⟩, by decide +kernel, rfl, rfl⟩
def BX0_lastLaw_40 (ln : Nat → Nat) (post : Int32 → HC → Prop) (K12 : HC → Nat → Int32 → Int32 → Prop) (S : HC) (x0 : Nat) (x1 : Int32) (x2 : Int32) : Prop := lt_ (x2 + (-1 : Int32)) fun z1 => K12 S x0 x1 z1
def LX0_lastLaw_12 (ln : Nat → Nat) (post : Int32 → HC → Prop) : Nat → HC → Nat → Int32 → Int32 → Prop
  | 0 => fun _ _ _ _ => False
  | n12 + 1 => fun S x0 x1 x2 => if x2 < 0 then (post (-1 : Int32) S) else (dn_ (hR S x0 10) fun b2 => al_ (ln b2) x2 (hR S b2) fun o3 => cO_ o3 (BX0_lastLaw_40 ln post (LX0_lastLaw_12 ln post n12) S x0 x1 x2) fun b4 => dn_ (hR S x0 10) fun b5 => al_ (ln b5) x2 (hR S b5) fun o6 => dn_ o6 fun b7 => lt_ (hI S b7 0) fun z8 => if z8 = x1 then (post x2 S) else (BX0_lastLaw_40 ln post (LX0_lastLaw_12 ln post n12) S x0 x1 x2))
def wpX0_lastLaw (ln : Nat → Nat) (S : HC) (a0 : Nat) (a1 : Int32) (post : Int32 → HC → Prop) : Prop := lt_ (hI S a0 11) fun z9 => lt_ (if (14 : Int32) < z9 then (14 : Int32) else z9) fun z10 => lt_ (z10 - (1 : Int32)) fun z11 => ∃ n12, LX0_lastLaw_12 ln post n12 S a0 a1 z11
abbrev rmX0_lastLaw : Room := { frames := 1, cells := 0, slots := 0, locals := 21 }
set_option maxHeartbeats 4000000 in
set_option maxRecDepth 100000 in
theorem ctX0_lastLaw {l : Launch} {g : GX} {N : Nat} {ln : Nat → Nat} {S : HC} {a0 : Nat} {a1 : Int32} {post : Int32 → HC → Prop} (hr_a0 : a0 < N) (hk_a0 : kd a0 = 0) (h : wpX0_lastLaw ln S a0 a1 post) : Met l yX0_lastLaw (Cond.code yX0_lastLaw prog_2_method_18_code 3 (Option.some Jvm.ClassFile.FieldType.int) :: gtbl) rmX0_lastLaw (va_Pc [.ref (gz g + a0), .int a1] (AtP g N ln S)) (QI g N ln post) 0 0 (gF g) := by
  refine m_of (by decide) (Nat.le_of_ble_eq_true rfl) ?_
  intro p e s m below meth c ls F hr I hl
  have hl : lv_has ls 3 [(0, .ref (gz g + a0)), (1, .int a1)] := hl
  unfold wpX0_lastLaw at h
  have hl_12 : ∀ n12 : Nat, ∀ (S : HC) (H : Heap) (locs : List Loc) (ls : Array Slot) (x0 : Nat) (x1 : Int32) (x2 : Int32), x0 < N → kd x0 = 0 → LX0_lastLaw_12 ln post n12 S x0 x1 x2 → Inv g N ln S s H locs → lv_has ls 3 [(0, .ref (gz g + x0)), (1, .int x1), (2, .int x2)] → W p l e rmX0_lastLaw s m ([.ref (gz g + a0), .int a1] : List Value).toArray below meth c H locs 0 0 (MQ below (QI g N ln post) ([.ref (gz g + a0), .int a1] : List Value).toArray s 0 0 (gF g)) (F0 m 12 ls []) := by
    intro n12
    induction n12 with
    | zero =>
      intro S H locs ls x0 x1 x2 hr_x0 hk_x0 h I hl
      exact h.elim
    | succ n12 ih =>
      have hk12 := ih
      have hj_40 : ∀ (S : HC) (H : Heap) (locs : List Loc) (ls : Array Slot) (x0 : Nat) (x1 : Int32) (x2 : Int32), x0 < N → kd x0 = 0 → BX0_lastLaw_40 ln post (LX0_lastLaw_12 ln post n12) S x0 x1 x2 → Inv g N ln S s H locs → lv_has ls 3 [(0, .ref (gz g + x0)), (1, .int x1), (2, .int x2)] → W p l e rmX0_lastLaw s m ([.ref (gz g + a0), .int a1] : List Value).toArray below meth c H locs 0 0 (MQ below (QI g N ln post) ([.ref (gz g + a0), .int a1] : List Value).toArray s 0 0 (gF g)) (F0 m 40 ls []) := by
        intro S H locs ls x0 x1 x2 hr_x0 hk_x0 h I hl
        unfold BX0_lastLaw_40 at h
        obtain ⟨z1, e_z1, h⟩ := lt_x h
        refine lv_iinc (v := z1) (lv' := [(2, .int z1), (0, .ref (gz g + x0)), (1, .int x1)]) F.1 F.2.1 dX0_lastLaw_40 hl (k := 2) rfl (by rw [e_z1]; rfl) (by decide) rfl (fun ls hl => ?_)
        refine lv_goto (tgt := 12) F.1 F.2.1 dX0_lastLaw_43 (by decide) ?_
        exact hk12 S _ _ _ x0 x1 z1 hr_x0 hk_x0 h I (lv_sub hl [1, 2, 0] rfl)
      intro S H locs ls x0 x1 x2 hr_x0 hk_x0 h I hl
      rw [LX0_lastLaw_12] at h
      refine lv_iload_n F.1 F.2.1 dX0_lastLaw_12 rfl (lv_at hl 2 rfl) ?_
      refine r_if_lt (tgt := 46) F dX0_lastLaw_13 (by decide) h (fun h => ?_) (fun h => ?_)
      · refine lv_iconst (v := -1) F.1 F.2.1 dX0_lastLaw_46 (by decide) ?_
        exact r_ireturn F I ⟨hr.1, hr.2.1, trivial⟩ h dX0_lastLaw_47
      · refine lv_aload_n F.1 F.2.1 dX0_lastLaw_16 rfl (lv_at hl 0 rfl) ?_
        refine r_getN F I hr_x0 hk_x0 fX0_45 (f := 13) rfl (by decide) dX0_lastLaw_17 h (fun b2 hr_b2 hk_b2 h => ?_)
        refine lv_iload_n F.1 F.2.1 dX0_lastLaw_20 rfl (lv_at hl 2 rfl) ?_
        refine r_aldO F I hr_b2 hk_b2 (by decide) (f := 1) rfl dX0_lastLaw_21 h (fun o3 ho_o3 h => ?_)
        refine r_ifnull (tgt := 40) (g := g) F dX0_lastLaw_22 (by decide) h (fun q h => ?_) (fun b4 q h2 => ?_)
        · exact hj_40 S _ _ _ x0 x1 x2 hr_x0 hk_x0 h I (lv_sub hl [0, 1, 2] rfl)
        · obtain ⟨hr_b4, hk_b4⟩ := ho_o3 b4 q
          subst q
          clear h
          have h := h2
          clear h2
          refine lv_aload_n F.1 F.2.1 dX0_lastLaw_25 rfl (lv_at hl 0 rfl) ?_
          refine r_getN F I hr_x0 hk_x0 fX0_45 (f := 13) rfl (by decide) dX0_lastLaw_26 h (fun b5 hr_b5 hk_b5 h => ?_)
          refine lv_iload_n F.1 F.2.1 dX0_lastLaw_29 rfl (lv_at hl 2 rfl) ?_
          refine r_aldO F I hr_b5 hk_b5 (by decide) (f := 1) rfl dX0_lastLaw_30 h (fun o6 ho_o6 h => ?_)
          obtain ⟨b7, q, h⟩ := h
          obtain ⟨hr_b7, hk_b7⟩ := ho_o6 b7 q
          revert h
          revert hl
          subst q
          intro hl
          intro h
          refine r_getI F I hr_b7 hk_b7 fX0_92 rfl dX0_lastLaw_31 h (fun z8 h => ?_)
          refine lv_iload_n F.1 F.2.1 dX0_lastLaw_34 rfl (lv_at hl 1 rfl) ?_
          refine r_icmp_ne (tgt := 40) F dX0_lastLaw_35 (by decide) h (fun h => ?_) (fun h => ?_)
          · exact hj_40 S _ _ _ x0 x1 x2 hr_x0 hk_x0 h I (lv_sub hl [0, 1, 2] rfl)
          · refine lv_iload_n F.1 F.2.1 dX0_lastLaw_38 rfl (lv_at hl 2 rfl) ?_
            exact r_ireturn F I ⟨hr.1, hr.2.1, trivial⟩ h dX0_lastLaw_39
  refine lv_aload_n F.1 F.2.1 dX0_lastLaw_0 rfl (lv_at hl 0 rfl) ?_
  refine r_getI F I hr_a0 hk_a0 fX0_49 rfl dX0_lastLaw_1 h (fun z9 h => ?_)
  refine lv_bipush (v := 14) F.1 F.2.1 dX0_lastLaw_4 (by decide) ?_
  refine r_mmin F hl.1 tw_377 (Nat.le_of_ble_eq_true rfl) (Nat.le_of_ble_eq_true rfl) (Nat.zero_le _) (Nat.zero_le _) dX0_lastLaw_6 h (fun z10 h => ?_)
  refine lv_iconst (v := 1) F.1 F.2.1 dX0_lastLaw_9 (by decide) ?_
  refine r_isub F dX0_lastLaw_10 h (fun z11 h => ?_)
  refine lv_istore_n (lv' := [(2, .int z11), (0, .ref (gz g + a0)), (1, .int a1)]) F.1 F.2.1 dX0_lastLaw_11 rfl hl (by decide) rfl (fun ls hl => ?_)
  obtain ⟨n12, h⟩ := h
  exact hl_12 n12 S _ _ _ a0 a1 z11 hr_a0 hk_a0 h I (lv_sub hl [1, 2, 0] rfl)
theorem dX0_lawFor_0 : decode cX0_lawFor 0 = .ok (.aload_n 0, 1) := by decide +kernel
theorem dX0_lawFor_1 : decode cX0_lawFor 1 = .ok (.iload_n 1, 1) := by decide +kernel
theorem dX0_lawFor_2 : decode cX0_lawFor 2 = .ok (.invokevirtual 95, 3) := by decide +kernel
theorem dX0_lawFor_5 : decode cX0_lawFor 5 = .ok (.istore_n 2, 1) := by decide +kernel
theorem dX0_lawFor_6 : decode cX0_lawFor 6 = .ok (.iload_n 2, 1) := by decide +kernel
theorem dX0_lawFor_7 : decode cX0_lawFor 7 = .ok (.ifCond .ge 7, 3) := by decide +kernel
theorem dX0_lawFor_10 : decode cX0_lawFor 10 = .ok (.aconst_null, 1) := by decide +kernel
theorem dX0_lawFor_11 : decode cX0_lawFor 11 = .ok (.goto 9, 3) := by decide +kernel
theorem dX0_lawFor_14 : decode cX0_lawFor 14 = .ok (.aload_n 0, 1) := by decide +kernel
theorem dX0_lawFor_15 : decode cX0_lawFor 15 = .ok (.getfield 45, 3) := by decide +kernel
theorem dX0_lawFor_18 : decode cX0_lawFor 18 = .ok (.iload_n 2, 1) := by decide +kernel
theorem dX0_lawFor_19 : decode cX0_lawFor 19 = .ok (.aaload, 1) := by decide +kernel
theorem dX0_lawFor_20 : decode cX0_lawFor 20 = .ok (.areturn, 1) := by decide +kernel
theorem kX0_95 : mthV RX0 95 0 yX0_lastLaw prog_2_method_18_code 3 (Option.some Jvm.ClassFile.FieldType.int) 1 := ⟨⟨⟨tw_373, tw_61, tw_376⟩, rfl, by decide +kernel⟩, tw_374, tw_375, rfl⟩
def wpX0_lawFor (ln : Nat → Nat) (S : HC) (a0 : Nat) (a1 : Int32) (post : Option Nat → HC → Prop) : Prop := wpX0_lastLaw ln S a0 a1 fun z1 S => if 0 ≤ z1 then (dn_ (hR S a0 10) fun b2 => al_ (ln b2) z1 (hR S b2) fun o3 => post o3 S) else (post none S)
abbrev rmX0_lawFor : Room := { frames := 2, cells := 0, slots := 0, locals := 43 }
set_option maxHeartbeats 4000000 in
set_option maxRecDepth 100000 in
theorem ctX0_lawFor {l : Launch} {g : GX} {N : Nat} {ln : Nat → Nat} {S : HC} {a0 : Nat} {a1 : Int32} {post : Option Nat → HC → Prop} (hr_a0 : a0 < N) (hk_a0 : kd a0 = 0) (h : wpX0_lawFor ln S a0 a1 post) : Met l yX0_lawFor (Cond.code yX0_lawFor prog_2_method_19_code 3 (Option.some (Jvm.ClassFile.FieldType.object "LionShield$Law")) :: gtbl) rmX0_lawFor (va_Pc [.ref (gz g + a0), .int a1] (AtP g N ln S)) (QO g N ln 1 post) 0 0 (gF g) := by
  refine m_of (by decide) (Nat.le_of_ble_eq_true rfl) ?_
  intro p e s m below meth c ls F hr I hl
  have hl : lv_has ls 3 [(0, .ref (gz g + a0)), (1, .int a1)] := hl
  unfold wpX0_lawFor at h
  refine lv_aload_n F.1 F.2.1 dX0_lawFor_0 rfl (lv_at hl 0 rfl) ?_
  refine lv_iload_n F.1 F.2.1 dX0_lawFor_1 rfl (lv_at hl 1 rfl) ?_
  refine g_I I (run_V (As := [.int a1]) (rest := []) F I hr_a0 hk_a0 (by decide) kX0_95 (ctX0_lastLaw hr_a0 hk_a0 h) ⟨rfl, rfl⟩ ⟨Nat.le_of_ble_eq_true rfl, Nat.le_of_ble_eq_true rfl⟩ rfl hl.1 rfl (Nat.le_of_ble_eq_true rfl) ⟨Nat.le_of_ble_eq_true rfl, Nat.le_of_ble_eq_true rfl⟩ dX0_lawFor_2) (fun z1 S H locs I h => ?_)
  refine lv_istore_n (lv' := [(2, .int z1), (0, .ref (gz g + a0)), (1, .int a1)]) F.1 F.2.1 dX0_lawFor_5 rfl hl (by decide) rfl (fun ls hl => ?_)
  refine lv_iload_n F.1 F.2.1 dX0_lawFor_6 rfl (lv_at hl 0 rfl) ?_
  refine r_if_ge (tgt := 14) F dX0_lawFor_7 (by decide) h (fun h => ?_) (fun h => ?_)
  · refine lv_aload_n F.1 F.2.1 dX0_lawFor_14 rfl (lv_at hl 1 rfl) ?_
    refine r_getN F I hr_a0 hk_a0 fX0_45 (f := 13) rfl (by decide) dX0_lawFor_15 h (fun b2 hr_b2 hk_b2 h => ?_)
    refine lv_iload_n F.1 F.2.1 dX0_lawFor_18 rfl (lv_at hl 0 rfl) ?_
    refine r_aldO F I hr_b2 hk_b2 (by decide) (f := 1) rfl dX0_lawFor_19 h (fun o3 ho_o3 h => ?_)
    exact r_areturnO F I ⟨hr.1, hr.2.1, trivial⟩ ho_o3 h dX0_lawFor_20
  · refine lv_null F.1 F.2.1 dX0_lawFor_10 ?_
    refine lv_goto (tgt := 20) F.1 F.2.1 dX0_lawFor_11 (by decide) ?_
    exact r_areturnO (o := none) (f := 1) F I ⟨hr.1, hr.2.1, trivial⟩ (fun b q => by cases q) h dX0_lawFor_20
theorem dX0_become_0 : decode cX0_become 0 = .ok (.iconst 0, 1) := by decide +kernel
theorem dX0_become_1 : decode cX0_become 1 = .ok (.istore_n 2, 1) := by decide +kernel
theorem dX0_become_2 : decode cX0_become 2 = .ok (.iload_n 2, 1) := by decide +kernel
theorem dX0_become_3 : decode cX0_become 3 = .ok (.bipush 14, 2) := by decide +kernel
theorem dX0_become_5 : decode cX0_become 5 = .ok (.if_icmp .ge 81, 3) := by decide +kernel
theorem dX0_become_8 : decode cX0_become 8 = .ok (.aload_n 0, 1) := by decide +kernel
theorem dX0_become_9 : decode cX0_become 9 = .ok (.getfield 9, 3) := by decide +kernel
theorem dX0_become_12 : decode cX0_become 12 = .ok (.iload_n 2, 1) := by decide +kernel
theorem dX0_become_13 : decode cX0_become 13 = .ok (.aload_n 1, 1) := by decide +kernel
theorem dX0_become_14 : decode cX0_become 14 = .ok (.getfield 9, 3) := by decide +kernel
theorem dX0_become_17 : decode cX0_become 17 = .ok (.iload_n 2, 1) := by decide +kernel
theorem dX0_become_18 : decode cX0_become 18 = .ok (.iaload, 1) := by decide +kernel
theorem dX0_become_19 : decode cX0_become 19 = .ok (.iastore, 1) := by decide +kernel
theorem dX0_become_20 : decode cX0_become 20 = .ok (.aload_n 0, 1) := by decide +kernel
theorem dX0_become_21 : decode cX0_become 21 = .ok (.getfield 15, 3) := by decide +kernel
theorem dX0_become_24 : decode cX0_become 24 = .ok (.iload_n 2, 1) := by decide +kernel
theorem dX0_become_25 : decode cX0_become 25 = .ok (.aload_n 1, 1) := by decide +kernel
theorem dX0_become_26 : decode cX0_become 26 = .ok (.getfield 15, 3) := by decide +kernel
theorem dX0_become_29 : decode cX0_become 29 = .ok (.iload_n 2, 1) := by decide +kernel
theorem dX0_become_30 : decode cX0_become 30 = .ok (.iaload, 1) := by decide +kernel
theorem dX0_become_31 : decode cX0_become 31 = .ok (.iastore, 1) := by decide +kernel
theorem dX0_become_32 : decode cX0_become 32 = .ok (.aload_n 0, 1) := by decide +kernel
theorem dX0_become_33 : decode cX0_become 33 = .ok (.getfield 18, 3) := by decide +kernel
theorem dX0_become_36 : decode cX0_become 36 = .ok (.iload_n 2, 1) := by decide +kernel
theorem dX0_become_37 : decode cX0_become 37 = .ok (.aload_n 1, 1) := by decide +kernel
theorem dX0_become_38 : decode cX0_become 38 = .ok (.getfield 18, 3) := by decide +kernel
theorem dX0_become_41 : decode cX0_become 41 = .ok (.iload_n 2, 1) := by decide +kernel
theorem dX0_become_42 : decode cX0_become 42 = .ok (.iaload, 1) := by decide +kernel
theorem dX0_become_43 : decode cX0_become 43 = .ok (.iastore, 1) := by decide +kernel
theorem dX0_become_44 : decode cX0_become 44 = .ok (.aload_n 0, 1) := by decide +kernel
theorem dX0_become_45 : decode cX0_become 45 = .ok (.getfield 21, 3) := by decide +kernel
theorem dX0_become_48 : decode cX0_become 48 = .ok (.iload_n 2, 1) := by decide +kernel
theorem dX0_become_49 : decode cX0_become 49 = .ok (.aload_n 1, 1) := by decide +kernel
theorem dX0_become_50 : decode cX0_become 50 = .ok (.getfield 21, 3) := by decide +kernel
theorem dX0_become_53 : decode cX0_become 53 = .ok (.iload_n 2, 1) := by decide +kernel
theorem dX0_become_54 : decode cX0_become 54 = .ok (.iaload, 1) := by decide +kernel
theorem dX0_become_55 : decode cX0_become 55 = .ok (.iastore, 1) := by decide +kernel
theorem dX0_become_56 : decode cX0_become 56 = .ok (.aload_n 0, 1) := by decide +kernel
theorem dX0_become_57 : decode cX0_become 57 = .ok (.getfield 24, 3) := by decide +kernel
theorem dX0_become_60 : decode cX0_become 60 = .ok (.iload_n 2, 1) := by decide +kernel
theorem dX0_become_61 : decode cX0_become 61 = .ok (.aload_n 1, 1) := by decide +kernel
theorem dX0_become_62 : decode cX0_become 62 = .ok (.getfield 24, 3) := by decide +kernel
theorem dX0_become_65 : decode cX0_become 65 = .ok (.iload_n 2, 1) := by decide +kernel
theorem dX0_become_66 : decode cX0_become 66 = .ok (.iaload, 1) := by decide +kernel
theorem dX0_become_67 : decode cX0_become 67 = .ok (.iastore, 1) := by decide +kernel
theorem dX0_become_68 : decode cX0_become 68 = .ok (.aload_n 0, 1) := by decide +kernel
theorem dX0_become_69 : decode cX0_become 69 = .ok (.getfield 27, 3) := by decide +kernel
theorem dX0_become_72 : decode cX0_become 72 = .ok (.iload_n 2, 1) := by decide +kernel
theorem dX0_become_73 : decode cX0_become 73 = .ok (.aload_n 1, 1) := by decide +kernel
theorem dX0_become_74 : decode cX0_become 74 = .ok (.getfield 27, 3) := by decide +kernel
theorem dX0_become_77 : decode cX0_become 77 = .ok (.iload_n 2, 1) := by decide +kernel
theorem dX0_become_78 : decode cX0_become 78 = .ok (.iaload, 1) := by decide +kernel
theorem dX0_become_79 : decode cX0_become 79 = .ok (.iastore, 1) := by decide +kernel
theorem dX0_become_80 : decode cX0_become 80 = .ok (.iinc 2 1, 3) := by decide +kernel
theorem dX0_become_83 : decode cX0_become 83 = .ok (.goto (-81), 3) := by decide +kernel
theorem dX0_become_86 : decode cX0_become 86 = .ok (.aload_n 0, 1) := by decide +kernel
theorem dX0_become_87 : decode cX0_become 87 = .ok (.aload_n 1, 1) := by decide +kernel
theorem dX0_become_88 : decode cX0_become 88 = .ok (.getfield 30, 3) := by decide +kernel
theorem dX0_become_91 : decode cX0_become 91 = .ok (.putfield 30, 3) := by decide +kernel
theorem dX0_become_94 : decode cX0_become 94 = .ok (.aload_n 0, 1) := by decide +kernel
theorem dX0_become_95 : decode cX0_become 95 = .ok (.aload_n 1, 1) := by decide +kernel
theorem dX0_become_96 : decode cX0_become 96 = .ok (.getfield 34, 3) := by decide +kernel
theorem dX0_become_99 : decode cX0_become 99 = .ok (.putfield 34, 3) := by decide +kernel
theorem dX0_become_102 : decode cX0_become 102 = .ok (.aload_n 0, 1) := by decide +kernel
theorem dX0_become_103 : decode cX0_become 103 = .ok (.aload_n 1, 1) := by decide +kernel
theorem dX0_become_104 : decode cX0_become 104 = .ok (.getfield 37, 3) := by decide +kernel
theorem dX0_become_107 : decode cX0_become 107 = .ok (.putfield 37, 3) := by decide +kernel
theorem dX0_become_110 : decode cX0_become 110 = .ok (.aload_n 0, 1) := by decide +kernel
theorem dX0_become_111 : decode cX0_become 111 = .ok (.aload_n 1, 1) := by decide +kernel
theorem dX0_become_112 : decode cX0_become 112 = .ok (.getfield 40, 3) := by decide +kernel
theorem dX0_become_115 : decode cX0_become 115 = .ok (.putfield 40, 3) := by decide +kernel
theorem dX0_become_118 : decode cX0_become 118 = .ok (.iconst 0, 1) := by decide +kernel
theorem dX0_become_119 : decode cX0_become 119 = .ok (.istore_n 2, 1) := by decide +kernel
theorem dX0_become_120 : decode cX0_become 120 = .ok (.iload_n 2, 1) := by decide +kernel
theorem dX0_become_121 : decode cX0_become 121 = .ok (.bipush 14, 2) := by decide +kernel
theorem dX0_become_123 : decode cX0_become 123 = .ok (.if_icmp .ge 21, 3) := by decide +kernel
theorem dX0_become_126 : decode cX0_become 126 = .ok (.aload_n 0, 1) := by decide +kernel
theorem dX0_become_127 : decode cX0_become 127 = .ok (.getfield 45, 3) := by decide +kernel
theorem dX0_become_130 : decode cX0_become 130 = .ok (.iload_n 2, 1) := by decide +kernel
theorem dX0_become_131 : decode cX0_become 131 = .ok (.aload_n 1, 1) := by decide +kernel
theorem dX0_become_132 : decode cX0_become 132 = .ok (.getfield 45, 3) := by decide +kernel
theorem dX0_become_135 : decode cX0_become 135 = .ok (.iload_n 2, 1) := by decide +kernel
theorem dX0_become_136 : decode cX0_become 136 = .ok (.aaload, 1) := by decide +kernel
theorem dX0_become_137 : decode cX0_become 137 = .ok (.aastore, 1) := by decide +kernel
theorem dX0_become_138 : decode cX0_become 138 = .ok (.iinc 2 1, 3) := by decide +kernel
theorem dX0_become_141 : decode cX0_become 141 = .ok (.goto (-21), 3) := by decide +kernel
theorem dX0_become_144 : decode cX0_become 144 = .ok (.aload_n 0, 1) := by decide +kernel
theorem dX0_become_145 : decode cX0_become 145 = .ok (.aload_n 1, 1) := by decide +kernel
theorem dX0_become_146 : decode cX0_become 146 = .ok (.getfield 49, 3) := by decide +kernel
theorem dX0_become_149 : decode cX0_become 149 = .ok (.putfield 49, 3) := by decide +kernel
theorem dX0_become_152 : decode cX0_become 152 = .ok (.return_, 1) := by decide +kernel
def LX0_become_120 (ln : Nat → Nat) (post : HC → Prop) : Nat → HC → Nat → Nat → Int32 → Prop
  | 0 => fun _ _ _ _ => False
  | n120 + 1 => fun S x0 x1 x2 => if (14 : Int32) ≤ x2 then (lt_ (hI S x1 11) fun z1 => lt_ (sI S x0 11 z1) fun S => post S) else (dn_ (hR S x0 10) fun b2 => dn_ (hR S x1 10) fun b3 => al_ (ln b3) x2 (hR S b3) fun o4 => as_ (ln b2) x2 (fun j => sR S b2 j o4) fun S => lt_ (x2 + (1 : Int32)) fun z5 => (LX0_become_120 ln post n120) S x0 x1 z5)
def LX0_become_2 (ln : Nat → Nat) (post : HC → Prop) : Nat → HC → Nat → Nat → Int32 → Prop
  | 0 => fun _ _ _ _ => False
  | n2 + 1 => fun S x0 x1 x2 => if (14 : Int32) ≤ x2 then (lt_ (hI S x1 6) fun z6 => lt_ (sI S x0 6 z6) fun S => lt_ (hI S x1 7) fun z7 => lt_ (sI S x0 7 z7) fun S => lt_ (hI S x1 8) fun z8 => lt_ (sI S x0 8 z8) fun S => lt_ (hI S x1 9) fun z9 => lt_ (sI S x0 9 z9) fun S => ∃ n120, LX0_become_120 ln post n120 S x0 x1 (0 : Int32)) else (dn_ (hR S x0 0) fun b10 => dn_ (hR S x1 0) fun b11 => al_ (ln b11) x2 (hI S b11) fun z12 => as_ (ln b10) x2 (fun j => sI S b10 j z12) fun S => dn_ (hR S x0 1) fun b13 => dn_ (hR S x1 1) fun b14 => al_ (ln b14) x2 (hI S b14) fun z15 => as_ (ln b13) x2 (fun j => sI S b13 j z15) fun S => dn_ (hR S x0 2) fun b16 => dn_ (hR S x1 2) fun b17 => al_ (ln b17) x2 (hI S b17) fun z18 => as_ (ln b16) x2 (fun j => sI S b16 j z18) fun S => dn_ (hR S x0 3) fun b19 => dn_ (hR S x1 3) fun b20 => al_ (ln b20) x2 (hI S b20) fun z21 => as_ (ln b19) x2 (fun j => sI S b19 j z21) fun S => dn_ (hR S x0 4) fun b22 => dn_ (hR S x1 4) fun b23 => al_ (ln b23) x2 (hI S b23) fun z24 => as_ (ln b22) x2 (fun j => sI S b22 j z24) fun S => dn_ (hR S x0 5) fun b25 => dn_ (hR S x1 5) fun b26 => al_ (ln b26) x2 (hI S b26) fun z27 => as_ (ln b25) x2 (fun j => sI S b25 j z27) fun S => lt_ (x2 + (1 : Int32)) fun z28 => (LX0_become_2 ln post n2) S x0 x1 z28)
def wpX0_become (ln : Nat → Nat) (S : HC) (a0 : Nat) (a1 : Nat) (post : HC → Prop) : Prop := ∃ n2, LX0_become_2 ln post n2 S a0 a1 (0 : Int32)
abbrev rmX0_become : Room := { frames := 0, cells := 0, slots := 0, locals := 0 }
set_option maxHeartbeats 4000000 in
set_option maxRecDepth 100000 in
theorem ctX0_become {l : Launch} {g : GX} {N : Nat} {ln : Nat → Nat} {S : HC} {a0 : Nat} {a1 : Nat} {post : HC → Prop} (hr_a0 : a0 < N) (hk_a0 : kd a0 = 0) (hr_a1 : a1 < N) (hk_a1 : kd a1 = 0) (h : wpX0_become ln S a0 a1 post) : Met l yX0_become (Cond.code yX0_become prog_2_method_2_code 3 (Option.none : Option Jvm.ClassFile.FieldType) :: gtbl) rmX0_become (va_Pc [.ref (gz g + a0), .ref (gz g + a1)] (AtP g N ln S)) (QV g N ln post) 0 0 (gF g) := by
  refine m_of (by decide) (Nat.le_of_ble_eq_true rfl) ?_
  intro p e s m below meth c ls F hr I hl
  have hl : lv_has ls 3 [(0, .ref (gz g + a0)), (1, .ref (gz g + a1))] := hl
  unfold wpX0_become at h
  have hl_120 : ∀ n120 : Nat, ∀ (S : HC) (H : Heap) (locs : List Loc) (ls : Array Slot) (x0 : Nat) (x1 : Nat) (x2 : Int32), x0 < N → kd x0 = 0 → x1 < N → kd x1 = 0 → LX0_become_120 ln post n120 S x0 x1 x2 → Inv g N ln S s H locs → lv_has ls 3 [(0, .ref (gz g + x0)), (1, .ref (gz g + x1)), (2, .int x2)] → W p l e rmX0_become s m ([.ref (gz g + a0), .ref (gz g + a1)] : List Value).toArray below meth c H locs 0 0 (MQ below (QV g N ln post) ([.ref (gz g + a0), .ref (gz g + a1)] : List Value).toArray s 0 0 (gF g)) (F0 m 120 ls []) := by
    intro n120
    induction n120 with
    | zero =>
      intro S H locs ls x0 x1 x2 hr_x0 hk_x0 hr_x1 hk_x1 h I hl
      exact h.elim
    | succ n120 ih =>
      have hk120 := ih
      intro S H locs ls x0 x1 x2 hr_x0 hk_x0 hr_x1 hk_x1 h I hl
      rw [LX0_become_120] at h
      refine lv_iload_n F.1 F.2.1 dX0_become_120 rfl (lv_at hl 2 rfl) ?_
      refine lv_bipush (v := 14) F.1 F.2.1 dX0_become_121 (by decide) ?_
      refine r_icmp_ge (tgt := 144) F dX0_become_123 (by decide) h (fun h => ?_) (fun h => ?_)
      · refine lv_aload_n F.1 F.2.1 dX0_become_144 rfl (lv_at hl 0 rfl) ?_
        refine lv_aload_n F.1 F.2.1 dX0_become_145 rfl (lv_at hl 1 rfl) ?_
        refine r_getI F I hr_x1 hk_x1 fX0_49 rfl dX0_become_146 h (fun z1 h => ?_)
        refine r_putI F I hr_x0 hk_x0 fX0_49 rfl (Or.inl rfl) ⟨rfl, rfl⟩ dX0_become_149 h (fun S H locs I h => ?_)
        exact r_vreturn F I ⟨hr.1, hr.2.1, trivial⟩ h dX0_become_152
      · refine lv_aload_n F.1 F.2.1 dX0_become_126 rfl (lv_at hl 0 rfl) ?_
        refine r_getN F I hr_x0 hk_x0 fX0_45 (f := 13) rfl (by decide) dX0_become_127 h (fun b2 hr_b2 hk_b2 h => ?_)
        refine lv_iload_n F.1 F.2.1 dX0_become_130 rfl (lv_at hl 2 rfl) ?_
        refine lv_aload_n F.1 F.2.1 dX0_become_131 rfl (lv_at hl 1 rfl) ?_
        refine r_getN F I hr_x1 hk_x1 fX0_45 (f := 13) rfl (by decide) dX0_become_132 h (fun b3 hr_b3 hk_b3 h => ?_)
        refine lv_iload_n F.1 F.2.1 dX0_become_135 rfl (lv_at hl 2 rfl) ?_
        refine r_aldO F I hr_b3 hk_b3 (by decide) (f := 1) rfl dX0_become_136 h (fun o4 ho_o4 h => ?_)
        refine r_astO F I hr_b2 hk_b2 (by decide) (f := 1) rfl ho_o4 dX0_become_137 h (fun S H locs I h => ?_)
        obtain ⟨z5, e_z5, h⟩ := lt_x h
        refine lv_iinc (v := z5) (lv' := [(2, .int z5), (0, .ref (gz g + x0)), (1, .ref (gz g + x1))]) F.1 F.2.1 dX0_become_138 hl (k := 2) rfl (by rw [e_z5]; rfl) (by decide) rfl (fun ls hl => ?_)
        refine lv_goto (tgt := 120) F.1 F.2.1 dX0_become_141 (by decide) ?_
        exact hk120 S _ _ _ x0 x1 z5 hr_x0 hk_x0 hr_x1 hk_x1 h I (lv_sub hl [1, 2, 0] rfl)
  have hl_2 : ∀ n2 : Nat, ∀ (S : HC) (H : Heap) (locs : List Loc) (ls : Array Slot) (x0 : Nat) (x1 : Nat) (x2 : Int32), x0 < N → kd x0 = 0 → x1 < N → kd x1 = 0 → LX0_become_2 ln post n2 S x0 x1 x2 → Inv g N ln S s H locs → lv_has ls 3 [(0, .ref (gz g + x0)), (1, .ref (gz g + x1)), (2, .int x2)] → W p l e rmX0_become s m ([.ref (gz g + a0), .ref (gz g + a1)] : List Value).toArray below meth c H locs 0 0 (MQ below (QV g N ln post) ([.ref (gz g + a0), .ref (gz g + a1)] : List Value).toArray s 0 0 (gF g)) (F0 m 2 ls []) := by
    intro n2
    induction n2 with
    | zero =>
      intro S H locs ls x0 x1 x2 hr_x0 hk_x0 hr_x1 hk_x1 h I hl
      exact h.elim
    | succ n2 ih =>
      have hk2 := ih
      intro S H locs ls x0 x1 x2 hr_x0 hk_x0 hr_x1 hk_x1 h I hl
      rw [LX0_become_2] at h
      refine lv_iload_n F.1 F.2.1 dX0_become_2 rfl (lv_at hl 2 rfl) ?_
      refine lv_bipush (v := 14) F.1 F.2.1 dX0_become_3 (by decide) ?_
      refine r_icmp_ge (tgt := 86) F dX0_become_5 (by decide) h (fun h => ?_) (fun h => ?_)
      · refine lv_aload_n F.1 F.2.1 dX0_become_86 rfl (lv_at hl 0 rfl) ?_
        refine lv_aload_n F.1 F.2.1 dX0_become_87 rfl (lv_at hl 1 rfl) ?_
        refine r_getI F I hr_x1 hk_x1 fX0_30 rfl dX0_become_88 h (fun z6 h => ?_)
        refine r_putI F I hr_x0 hk_x0 fX0_30 rfl (Or.inl rfl) ⟨rfl, rfl⟩ dX0_become_91 h (fun S H locs I h => ?_)
        refine lv_aload_n F.1 F.2.1 dX0_become_94 rfl (lv_at hl 0 rfl) ?_
        refine lv_aload_n F.1 F.2.1 dX0_become_95 rfl (lv_at hl 1 rfl) ?_
        refine r_getI F I hr_x1 hk_x1 fX0_34 rfl dX0_become_96 h (fun z7 h => ?_)
        refine r_putI F I hr_x0 hk_x0 fX0_34 rfl (Or.inl rfl) ⟨rfl, rfl⟩ dX0_become_99 h (fun S H locs I h => ?_)
        refine lv_aload_n F.1 F.2.1 dX0_become_102 rfl (lv_at hl 0 rfl) ?_
        refine lv_aload_n F.1 F.2.1 dX0_become_103 rfl (lv_at hl 1 rfl) ?_
        refine r_getI F I hr_x1 hk_x1 fX0_37 rfl dX0_become_104 h (fun z8 h => ?_)
        refine r_putI F I hr_x0 hk_x0 fX0_37 rfl (Or.inl rfl) ⟨rfl, rfl⟩ dX0_become_107 h (fun S H locs I h => ?_)
        refine lv_aload_n F.1 F.2.1 dX0_become_110 rfl (lv_at hl 0 rfl) ?_
        refine lv_aload_n F.1 F.2.1 dX0_become_111 rfl (lv_at hl 1 rfl) ?_
        refine r_getI F I hr_x1 hk_x1 fX0_40 rfl dX0_become_112 h (fun z9 h => ?_)
        refine r_putI F I hr_x0 hk_x0 fX0_40 rfl (Or.inl rfl) ⟨rfl, rfl⟩ dX0_become_115 h (fun S H locs I h => ?_)
        refine lv_iconst (v := 0) F.1 F.2.1 dX0_become_118 (by decide) ?_
        refine lv_istore_n (lv' := [(2, .int (0 : Int32)), (0, .ref (gz g + x0)), (1, .ref (gz g + x1))]) F.1 F.2.1 dX0_become_119 rfl hl (by decide) rfl (fun ls hl => ?_)
        obtain ⟨n120, h⟩ := h
        exact hl_120 n120 S _ _ _ x0 x1 (0 : Int32) hr_x0 hk_x0 hr_x1 hk_x1 h I (lv_sub hl [1, 2, 0] rfl)
      · refine lv_aload_n F.1 F.2.1 dX0_become_8 rfl (lv_at hl 0 rfl) ?_
        refine r_getN F I hr_x0 hk_x0 fX0_9 (f := 9) rfl (by decide) dX0_become_9 h (fun b10 hr_b10 hk_b10 h => ?_)
        refine lv_iload_n F.1 F.2.1 dX0_become_12 rfl (lv_at hl 2 rfl) ?_
        refine lv_aload_n F.1 F.2.1 dX0_become_13 rfl (lv_at hl 1 rfl) ?_
        refine r_getN F I hr_x1 hk_x1 fX0_9 (f := 9) rfl (by decide) dX0_become_14 h (fun b11 hr_b11 hk_b11 h => ?_)
        refine lv_iload_n F.1 F.2.1 dX0_become_17 rfl (lv_at hl 2 rfl) ?_
        refine r_ald F I hr_b11 hk_b11 dX0_become_18 h (fun z12 h => ?_)
        refine r_ast F I hr_b10 hk_b10 dX0_become_19 h (fun S H locs I h => ?_)
        refine lv_aload_n F.1 F.2.1 dX0_become_20 rfl (lv_at hl 0 rfl) ?_
        refine r_getN F I hr_x0 hk_x0 fX0_15 (f := 9) rfl (by decide) dX0_become_21 h (fun b13 hr_b13 hk_b13 h => ?_)
        refine lv_iload_n F.1 F.2.1 dX0_become_24 rfl (lv_at hl 2 rfl) ?_
        refine lv_aload_n F.1 F.2.1 dX0_become_25 rfl (lv_at hl 1 rfl) ?_
        refine r_getN F I hr_x1 hk_x1 fX0_15 (f := 9) rfl (by decide) dX0_become_26 h (fun b14 hr_b14 hk_b14 h => ?_)
        refine lv_iload_n F.1 F.2.1 dX0_become_29 rfl (lv_at hl 2 rfl) ?_
        refine r_ald F I hr_b14 hk_b14 dX0_become_30 h (fun z15 h => ?_)
        refine r_ast F I hr_b13 hk_b13 dX0_become_31 h (fun S H locs I h => ?_)
        refine lv_aload_n F.1 F.2.1 dX0_become_32 rfl (lv_at hl 0 rfl) ?_
        refine r_getN F I hr_x0 hk_x0 fX0_18 (f := 9) rfl (by decide) dX0_become_33 h (fun b16 hr_b16 hk_b16 h => ?_)
        refine lv_iload_n F.1 F.2.1 dX0_become_36 rfl (lv_at hl 2 rfl) ?_
        refine lv_aload_n F.1 F.2.1 dX0_become_37 rfl (lv_at hl 1 rfl) ?_
        refine r_getN F I hr_x1 hk_x1 fX0_18 (f := 9) rfl (by decide) dX0_become_38 h (fun b17 hr_b17 hk_b17 h => ?_)
        refine lv_iload_n F.1 F.2.1 dX0_become_41 rfl (lv_at hl 2 rfl) ?_
        refine r_ald F I hr_b17 hk_b17 dX0_become_42 h (fun z18 h => ?_)
        refine r_ast F I hr_b16 hk_b16 dX0_become_43 h (fun S H locs I h => ?_)
        refine lv_aload_n F.1 F.2.1 dX0_become_44 rfl (lv_at hl 0 rfl) ?_
        refine r_getN F I hr_x0 hk_x0 fX0_21 (f := 9) rfl (by decide) dX0_become_45 h (fun b19 hr_b19 hk_b19 h => ?_)
        refine lv_iload_n F.1 F.2.1 dX0_become_48 rfl (lv_at hl 2 rfl) ?_
        refine lv_aload_n F.1 F.2.1 dX0_become_49 rfl (lv_at hl 1 rfl) ?_
        refine r_getN F I hr_x1 hk_x1 fX0_21 (f := 9) rfl (by decide) dX0_become_50 h (fun b20 hr_b20 hk_b20 h => ?_)
        refine lv_iload_n F.1 F.2.1 dX0_become_53 rfl (lv_at hl 2 rfl) ?_
        refine r_ald F I hr_b20 hk_b20 dX0_become_54 h (fun z21 h => ?_)
        refine r_ast F I hr_b19 hk_b19 dX0_become_55 h (fun S H locs I h => ?_)
        refine lv_aload_n F.1 F.2.1 dX0_become_56 rfl (lv_at hl 0 rfl) ?_
        refine r_getN F I hr_x0 hk_x0 fX0_24 (f := 9) rfl (by decide) dX0_become_57 h (fun b22 hr_b22 hk_b22 h => ?_)
        refine lv_iload_n F.1 F.2.1 dX0_become_60 rfl (lv_at hl 2 rfl) ?_
        refine lv_aload_n F.1 F.2.1 dX0_become_61 rfl (lv_at hl 1 rfl) ?_
        refine r_getN F I hr_x1 hk_x1 fX0_24 (f := 9) rfl (by decide) dX0_become_62 h (fun b23 hr_b23 hk_b23 h => ?_)
        refine lv_iload_n F.1 F.2.1 dX0_become_65 rfl (lv_at hl 2 rfl) ?_
        refine r_ald F I hr_b23 hk_b23 dX0_become_66 h (fun z24 h => ?_)
        refine r_ast F I hr_b22 hk_b22 dX0_become_67 h (fun S H locs I h => ?_)
        refine lv_aload_n F.1 F.2.1 dX0_become_68 rfl (lv_at hl 0 rfl) ?_
        refine r_getN F I hr_x0 hk_x0 fX0_27 (f := 9) rfl (by decide) dX0_become_69 h (fun b25 hr_b25 hk_b25 h => ?_)
        refine lv_iload_n F.1 F.2.1 dX0_become_72 rfl (lv_at hl 2 rfl) ?_
        refine lv_aload_n F.1 F.2.1 dX0_become_73 rfl (lv_at hl 1 rfl) ?_
        refine r_getN F I hr_x1 hk_x1 fX0_27 (f := 9) rfl (by decide) dX0_become_74 h (fun b26 hr_b26 hk_b26 h => ?_)
        refine lv_iload_n F.1 F.2.1 dX0_become_77 rfl (lv_at hl 2 rfl) ?_
        refine r_ald F I hr_b26 hk_b26 dX0_become_78 h (fun z27 h => ?_)
        refine r_ast F I hr_b25 hk_b25 dX0_become_79 h (fun S H locs I h => ?_)
        obtain ⟨z28, e_z28, h⟩ := lt_x h
        refine lv_iinc (v := z28) (lv' := [(2, .int z28), (0, .ref (gz g + x0)), (1, .ref (gz g + x1))]) F.1 F.2.1 dX0_become_80 hl (k := 2) rfl (by rw [e_z28]; rfl) (by decide) rfl (fun ls hl => ?_)
        refine lv_goto (tgt := 2) F.1 F.2.1 dX0_become_83 (by decide) ?_
        exact hk2 S _ _ _ x0 x1 z28 hr_x0 hk_x0 hr_x1 hk_x1 h I (lv_sub hl [1, 2, 0] rfl)
  refine lv_iconst (v := 0) F.1 F.2.1 dX0_become_0 (by decide) ?_
  refine lv_istore_n (lv' := [(2, .int (0 : Int32)), (0, .ref (gz g + a0)), (1, .ref (gz g + a1))]) F.1 F.2.1 dX0_become_1 rfl hl (by decide) rfl (fun ls hl => ?_)
  obtain ⟨n2, h⟩ := h
  exact hl_2 n2 S _ _ _ a0 a1 (0 : Int32) hr_a0 hk_a0 hr_a1 hk_a1 h I (lv_sub hl [1, 2, 0] rfl)
end
section
theorem dX1_leaf_0 : decode cX1_leaf 0 = .ok (.iload_n 0, 1) := by decide +kernel
theorem dX1_leaf_1 : decode cX1_leaf 1 = .ok (.tableswitch 33 10000 10002 #[27, 29, 31], 27) := by decide +kernel
theorem dX1_leaf_28 : decode cX1_leaf 28 = .ok (.iload_n 1, 1) := by decide +kernel
theorem dX1_leaf_29 : decode cX1_leaf 29 = .ok (.ireturn, 1) := by decide +kernel
theorem dX1_leaf_30 : decode cX1_leaf 30 = .ok (.iload_n 2, 1) := by decide +kernel
theorem dX1_leaf_31 : decode cX1_leaf 31 = .ok (.ireturn, 1) := by decide +kernel
theorem dX1_leaf_32 : decode cX1_leaf 32 = .ok (.iload_n 3, 1) := by decide +kernel
theorem dX1_leaf_33 : decode cX1_leaf 33 = .ok (.ireturn, 1) := by decide +kernel
theorem dX1_leaf_34 : decode cX1_leaf 34 = .ok (.iload_n 0, 1) := by decide +kernel
theorem dX1_leaf_35 : decode cX1_leaf 35 = .ok (.ireturn, 1) := by decide +kernel
def wpX1_leaf (ln : Nat → Nat) (S : HC) (a0 : Int32) (a1 : Int32) (a2 : Int32) (a3 : Int32) (post : Int32 → HC → Prop) : Prop := if a0 = (10000 : Int32) then (post a1 S) else if a0 = (10001 : Int32) then (post a2 S) else if a0 = (10002 : Int32) then (post a3 S) else post a0 S
abbrev rmX1_leaf : Room := { frames := 0, cells := 0, slots := 0, locals := 0 }
set_option maxHeartbeats 4000000 in
set_option maxRecDepth 100000 in
theorem ctX1_leaf {l : Launch} {g : GX} {N : Nat} {ln : Nat → Nat} {S : HC} {a0 : Int32} {a1 : Int32} {a2 : Int32} {a3 : Int32} {post : Int32 → HC → Prop} (h : wpX1_leaf ln S a0 a1 a2 a3 post) : Met l yX1_leaf (Cond.code yX1_leaf prog_3_method_3_code 4 (Option.some Jvm.ClassFile.FieldType.int) :: gtbl) rmX1_leaf (va_Pc [.int a0, .int a1, .int a2, .int a3] (AtP g N ln S)) (QI g N ln post) 0 0 (gF g) := by
  refine m_of (by decide) (Nat.le_of_ble_eq_true rfl) ?_
  intro p e s m below meth c ls F hr I hl
  have hl : lv_has ls 4 [(0, .int a0), (1, .int a1), (2, .int a2), (3, .int a3)] := hl
  unfold wpX1_leaf at h
  refine lv_iload_n F.1 F.2.1 dX1_leaf_0 rfl (lv_at hl 0 rfl) ?_
  by_cases c0 : a0 = (10000 : Int32)
  · rw [if_pos c0] at h
    refine lv_tableIn (off := 27) (tgt := 28) F.1 F.2.1 dX1_leaf_1 (by rw [c0]; decide) (by rw [c0]; decide) (by rw [c0]; rfl) (by decide) ?_
    refine lv_iload_n F.1 F.2.1 dX1_leaf_28 rfl (lv_at hl 1 rfl) ?_
    exact r_ireturn F I ⟨hr.1, hr.2.1, trivial⟩ h dX1_leaf_29
  · rw [if_neg c0] at h
    by_cases c1 : a0 = (10001 : Int32)
    · rw [if_pos c1] at h
      refine lv_tableIn (off := 29) (tgt := 30) F.1 F.2.1 dX1_leaf_1 (by rw [c1]; decide) (by rw [c1]; decide) (by rw [c1]; rfl) (by decide) ?_
      refine lv_iload_n F.1 F.2.1 dX1_leaf_30 rfl (lv_at hl 2 rfl) ?_
      exact r_ireturn F I ⟨hr.1, hr.2.1, trivial⟩ h dX1_leaf_31
    · rw [if_neg c1] at h
      by_cases c2 : a0 = (10002 : Int32)
      · rw [if_pos c2] at h
        refine lv_tableIn (off := 31) (tgt := 32) F.1 F.2.1 dX1_leaf_1 (by rw [c2]; decide) (by rw [c2]; decide) (by rw [c2]; rfl) (by decide) ?_
        refine lv_iload_n F.1 F.2.1 dX1_leaf_32 rfl (lv_at hl 3 rfl) ?_
        exact r_ireturn F I ⟨hr.1, hr.2.1, trivial⟩ h dX1_leaf_33
      · rw [if_neg c2] at h
        have e0 := lv_neT (a := 10000) c0 (by decide)
        have e1 := lv_neT (a := 10001) c1 (by decide)
        have e2 := lv_neT (a := 10002) c2 (by decide)
        refine lv_tableOut (tgt := 34) F.1 F.2.1 dX1_leaf_1 (by omega) (by decide) ?_
        refine lv_iload_n F.1 F.2.1 dX1_leaf_34 rfl (lv_at hl 0 rfl) ?_
        exact r_ireturn F I ⟨hr.1, hr.2.1, trivial⟩ h dX1_leaf_35
theorem dX1_work_0 : decode cX1_work 0 = .ok (.iload_n 0, 1) := by decide +kernel
theorem dX1_work_1 : decode cX1_work 1 = .ok (.lookupswitch 148 #[(38, 89), (42, 144), (43, 136), (45, 140), (60, 103), (61, 114), (62, 125), (124, 75)], 75) := by decide +kernel
theorem dX1_work_76 : decode cX1_work 76 = .ok (.iload_n 1, 1) := by decide +kernel
theorem dX1_work_77 : decode cX1_work 77 = .ok (.ifCond .ne 7, 3) := by decide +kernel
theorem dX1_work_80 : decode cX1_work 80 = .ok (.iload_n 2, 1) := by decide +kernel
theorem dX1_work_81 : decode cX1_work 81 = .ok (.ifCond .eq 7, 3) := by decide +kernel
theorem dX1_work_84 : decode cX1_work 84 = .ok (.iconst 1, 1) := by decide +kernel
theorem dX1_work_85 : decode cX1_work 85 = .ok (.goto 4, 3) := by decide +kernel
theorem dX1_work_88 : decode cX1_work 88 = .ok (.iconst 0, 1) := by decide +kernel
theorem dX1_work_89 : decode cX1_work 89 = .ok (.ireturn, 1) := by decide +kernel
theorem dX1_work_90 : decode cX1_work 90 = .ok (.iload_n 1, 1) := by decide +kernel
theorem dX1_work_91 : decode cX1_work 91 = .ok (.ifCond .eq 11, 3) := by decide +kernel
theorem dX1_work_94 : decode cX1_work 94 = .ok (.iload_n 2, 1) := by decide +kernel
theorem dX1_work_95 : decode cX1_work 95 = .ok (.ifCond .eq 7, 3) := by decide +kernel
theorem dX1_work_98 : decode cX1_work 98 = .ok (.iconst 1, 1) := by decide +kernel
theorem dX1_work_99 : decode cX1_work 99 = .ok (.goto 4, 3) := by decide +kernel
theorem dX1_work_102 : decode cX1_work 102 = .ok (.iconst 0, 1) := by decide +kernel
theorem dX1_work_103 : decode cX1_work 103 = .ok (.ireturn, 1) := by decide +kernel
theorem dX1_work_104 : decode cX1_work 104 = .ok (.iload_n 1, 1) := by decide +kernel
theorem dX1_work_105 : decode cX1_work 105 = .ok (.iload_n 2, 1) := by decide +kernel
theorem dX1_work_106 : decode cX1_work 106 = .ok (.if_icmp .ge 7, 3) := by decide +kernel
theorem dX1_work_109 : decode cX1_work 109 = .ok (.iconst 1, 1) := by decide +kernel
theorem dX1_work_110 : decode cX1_work 110 = .ok (.goto 4, 3) := by decide +kernel
theorem dX1_work_113 : decode cX1_work 113 = .ok (.iconst 0, 1) := by decide +kernel
theorem dX1_work_114 : decode cX1_work 114 = .ok (.ireturn, 1) := by decide +kernel
theorem dX1_work_115 : decode cX1_work 115 = .ok (.iload_n 1, 1) := by decide +kernel
theorem dX1_work_116 : decode cX1_work 116 = .ok (.iload_n 2, 1) := by decide +kernel
theorem dX1_work_117 : decode cX1_work 117 = .ok (.if_icmp .ne 7, 3) := by decide +kernel
theorem dX1_work_120 : decode cX1_work 120 = .ok (.iconst 1, 1) := by decide +kernel
theorem dX1_work_121 : decode cX1_work 121 = .ok (.goto 4, 3) := by decide +kernel
theorem dX1_work_124 : decode cX1_work 124 = .ok (.iconst 0, 1) := by decide +kernel
theorem dX1_work_125 : decode cX1_work 125 = .ok (.ireturn, 1) := by decide +kernel
theorem dX1_work_126 : decode cX1_work 126 = .ok (.iload_n 1, 1) := by decide +kernel
theorem dX1_work_127 : decode cX1_work 127 = .ok (.iload_n 2, 1) := by decide +kernel
theorem dX1_work_128 : decode cX1_work 128 = .ok (.if_icmp .le 7, 3) := by decide +kernel
theorem dX1_work_131 : decode cX1_work 131 = .ok (.iconst 1, 1) := by decide +kernel
theorem dX1_work_132 : decode cX1_work 132 = .ok (.goto 4, 3) := by decide +kernel
theorem dX1_work_135 : decode cX1_work 135 = .ok (.iconst 0, 1) := by decide +kernel
theorem dX1_work_136 : decode cX1_work 136 = .ok (.ireturn, 1) := by decide +kernel
theorem dX1_work_137 : decode cX1_work 137 = .ok (.iload_n 1, 1) := by decide +kernel
theorem dX1_work_138 : decode cX1_work 138 = .ok (.iload_n 2, 1) := by decide +kernel
theorem dX1_work_139 : decode cX1_work 139 = .ok (.iadd, 1) := by decide +kernel
theorem dX1_work_140 : decode cX1_work 140 = .ok (.ireturn, 1) := by decide +kernel
theorem dX1_work_141 : decode cX1_work 141 = .ok (.iload_n 1, 1) := by decide +kernel
theorem dX1_work_142 : decode cX1_work 142 = .ok (.iload_n 2, 1) := by decide +kernel
theorem dX1_work_143 : decode cX1_work 143 = .ok (.isub, 1) := by decide +kernel
theorem dX1_work_144 : decode cX1_work 144 = .ok (.ireturn, 1) := by decide +kernel
theorem dX1_work_145 : decode cX1_work 145 = .ok (.iload_n 1, 1) := by decide +kernel
theorem dX1_work_146 : decode cX1_work 146 = .ok (.iload_n 2, 1) := by decide +kernel
theorem dX1_work_147 : decode cX1_work 147 = .ok (.imul, 1) := by decide +kernel
theorem dX1_work_148 : decode cX1_work 148 = .ok (.ireturn, 1) := by decide +kernel
theorem dX1_work_149 : decode cX1_work 149 = .ok (.iload_n 2, 1) := by decide +kernel
theorem dX1_work_150 : decode cX1_work 150 = .ok (.ifCond .ne 7, 3) := by decide +kernel
theorem dX1_work_153 : decode cX1_work 153 = .ok (.iconst 0, 1) := by decide +kernel
theorem dX1_work_154 : decode cX1_work 154 = .ok (.goto 6, 3) := by decide +kernel
theorem dX1_work_157 : decode cX1_work 157 = .ok (.iload_n 1, 1) := by decide +kernel
theorem dX1_work_158 : decode cX1_work 158 = .ok (.iload_n 2, 1) := by decide +kernel
theorem dX1_work_159 : decode cX1_work 159 = .ok (.idiv, 1) := by decide +kernel
theorem dX1_work_160 : decode cX1_work 160 = .ok (.ireturn, 1) := by decide +kernel
def BX1_work_102 (ln : Nat → Nat) (post : Int32 → HC → Prop) (S : HC)  : Prop := post (0 : Int32) S
def BX1_work_84 (ln : Nat → Nat) (post : Int32 → HC → Prop) (S : HC)  : Prop := post (1 : Int32) S
def wpX1_work (ln : Nat → Nat) (S : HC) (a0 : Int32) (a1 : Int32) (a2 : Int32) (post : Int32 → HC → Prop) : Prop := if a0 = (38 : Int32) then (if a1 = 0 then (BX1_work_102 ln post S) else (if a2 = 0 then (BX1_work_102 ln post S) else (post (1 : Int32) S))) else if a0 = (42 : Int32) then (lt_ (a1 * a2) fun z2 => post z2 S) else if a0 = (43 : Int32) then (lt_ (a1 + a2) fun z3 => post z3 S) else if a0 = (45 : Int32) then (lt_ (a1 - a2) fun z4 => post z4 S) else if a0 = (60 : Int32) then (if a2 ≤ a1 then (post (0 : Int32) S) else (post (1 : Int32) S)) else if a0 = (61 : Int32) then (if a1 = a2 then (post (1 : Int32) S) else (post (0 : Int32) S)) else if a0 = (62 : Int32) then (if a1 ≤ a2 then (post (0 : Int32) S) else (post (1 : Int32) S)) else if a0 = (124 : Int32) then (if a1 = 0 then (if a2 = 0 then (post (0 : Int32) S) else (BX1_work_84 ln post S)) else (BX1_work_84 ln post S)) else if a2 = 0 then (post (0 : Int32) S) else (ne_ a2 <| lt_ (a1 / a2) fun z1 => post z1 S)
abbrev rmX1_work : Room := { frames := 0, cells := 0, slots := 0, locals := 0 }
set_option maxHeartbeats 4000000 in
set_option maxRecDepth 100000 in
theorem ctX1_work {l : Launch} {g : GX} {N : Nat} {ln : Nat → Nat} {S : HC} {a0 : Int32} {a1 : Int32} {a2 : Int32} {post : Int32 → HC → Prop} (h : wpX1_work ln S a0 a1 a2 post) : Met l yX1_work (Cond.code yX1_work prog_3_method_4_code 3 (Option.some Jvm.ClassFile.FieldType.int) :: gtbl) rmX1_work (va_Pc [.int a0, .int a1, .int a2] (AtP g N ln S)) (QI g N ln post) 0 0 (gF g) := by
  refine m_of (by decide) (Nat.le_of_ble_eq_true rfl) ?_
  intro p e s m below meth c ls F hr I hl
  have hl : lv_has ls 3 [(0, .int a0), (1, .int a1), (2, .int a2)] := hl
  unfold wpX1_work at h
  have hj_102 : ∀ (S : HC) (H : Heap) (locs : List Loc) (ls : Array Slot), BX1_work_102 ln post S  → Inv g N ln S s H locs → lv_has ls 3 [] → W p l e rmX1_work s m ([.int a0, .int a1, .int a2] : List Value).toArray below meth c H locs 0 0 (MQ below (QI g N ln post) ([.int a0, .int a1, .int a2] : List Value).toArray s 0 0 (gF g)) (F0 m 102 ls []) := by
    intro S H locs ls h I hl
    unfold BX1_work_102 at h
    refine lv_iconst (v := 0) F.1 F.2.1 dX1_work_102 (by decide) ?_
    exact r_ireturn F I ⟨hr.1, hr.2.1, trivial⟩ h dX1_work_103
  have hj_84 : ∀ (S : HC) (H : Heap) (locs : List Loc) (ls : Array Slot), BX1_work_84 ln post S  → Inv g N ln S s H locs → lv_has ls 3 [] → W p l e rmX1_work s m ([.int a0, .int a1, .int a2] : List Value).toArray below meth c H locs 0 0 (MQ below (QI g N ln post) ([.int a0, .int a1, .int a2] : List Value).toArray s 0 0 (gF g)) (F0 m 84 ls []) := by
    intro S H locs ls h I hl
    unfold BX1_work_84 at h
    refine lv_iconst (v := 1) F.1 F.2.1 dX1_work_84 (by decide) ?_
    refine lv_goto (tgt := 89) F.1 F.2.1 dX1_work_85 (by decide) ?_
    exact r_ireturn F I ⟨hr.1, hr.2.1, trivial⟩ h dX1_work_89
  refine lv_iload_n F.1 F.2.1 dX1_work_0 rfl (lv_at hl 0 rfl) ?_
  by_cases c0 : a0 = (38 : Int32)
  · rw [if_pos c0] at h
    refine lv_lookup (off := 89) (tgt := 90) F.1 F.2.1 dX1_work_1 (by decide) (by rw [c0]; rfl) (by decide) ?_
    refine lv_iload_n F.1 F.2.1 dX1_work_90 rfl (lv_at hl 1 rfl) ?_
    refine r_if_eq (tgt := 102) F dX1_work_91 (by decide) h (fun h => ?_) (fun h => ?_)
    · exact hj_102 S _ _ _   h I (lv_sub hl [] rfl)
    · refine lv_iload_n F.1 F.2.1 dX1_work_94 rfl (lv_at hl 2 rfl) ?_
      refine r_if_eq (tgt := 102) F dX1_work_95 (by decide) h (fun h => ?_) (fun h => ?_)
      · exact hj_102 S _ _ _   h I (lv_sub hl [] rfl)
      · refine lv_iconst (v := 1) F.1 F.2.1 dX1_work_98 (by decide) ?_
        refine lv_goto (tgt := 103) F.1 F.2.1 dX1_work_99 (by decide) ?_
        exact r_ireturn F I ⟨hr.1, hr.2.1, trivial⟩ h dX1_work_103
  · rw [if_neg c0] at h
    by_cases c1 : a0 = (42 : Int32)
    · rw [if_pos c1] at h
      refine lv_lookup (off := 144) (tgt := 145) F.1 F.2.1 dX1_work_1 (by decide) (by rw [c1]; rfl) (by decide) ?_
      refine lv_iload_n F.1 F.2.1 dX1_work_145 rfl (lv_at hl 1 rfl) ?_
      refine lv_iload_n F.1 F.2.1 dX1_work_146 rfl (lv_at hl 2 rfl) ?_
      refine r_imul F dX1_work_147 h (fun z2 h => ?_)
      exact r_ireturn F I ⟨hr.1, hr.2.1, trivial⟩ h dX1_work_148
    · rw [if_neg c1] at h
      by_cases c2 : a0 = (43 : Int32)
      · rw [if_pos c2] at h
        refine lv_lookup (off := 136) (tgt := 137) F.1 F.2.1 dX1_work_1 (by decide) (by rw [c2]; rfl) (by decide) ?_
        refine lv_iload_n F.1 F.2.1 dX1_work_137 rfl (lv_at hl 1 rfl) ?_
        refine lv_iload_n F.1 F.2.1 dX1_work_138 rfl (lv_at hl 2 rfl) ?_
        refine r_iadd F dX1_work_139 h (fun z3 h => ?_)
        exact r_ireturn F I ⟨hr.1, hr.2.1, trivial⟩ h dX1_work_140
      · rw [if_neg c2] at h
        by_cases c3 : a0 = (45 : Int32)
        · rw [if_pos c3] at h
          refine lv_lookup (off := 140) (tgt := 141) F.1 F.2.1 dX1_work_1 (by decide) (by rw [c3]; rfl) (by decide) ?_
          refine lv_iload_n F.1 F.2.1 dX1_work_141 rfl (lv_at hl 1 rfl) ?_
          refine lv_iload_n F.1 F.2.1 dX1_work_142 rfl (lv_at hl 2 rfl) ?_
          refine r_isub F dX1_work_143 h (fun z4 h => ?_)
          exact r_ireturn F I ⟨hr.1, hr.2.1, trivial⟩ h dX1_work_144
        · rw [if_neg c3] at h
          by_cases c4 : a0 = (60 : Int32)
          · rw [if_pos c4] at h
            refine lv_lookup (off := 103) (tgt := 104) F.1 F.2.1 dX1_work_1 (by decide) (by rw [c4]; rfl) (by decide) ?_
            refine lv_iload_n F.1 F.2.1 dX1_work_104 rfl (lv_at hl 1 rfl) ?_
            refine lv_iload_n F.1 F.2.1 dX1_work_105 rfl (lv_at hl 2 rfl) ?_
            refine r_icmp_ge (tgt := 113) F dX1_work_106 (by decide) h (fun h => ?_) (fun h => ?_)
            · refine lv_iconst (v := 0) F.1 F.2.1 dX1_work_113 (by decide) ?_
              exact r_ireturn F I ⟨hr.1, hr.2.1, trivial⟩ h dX1_work_114
            · refine lv_iconst (v := 1) F.1 F.2.1 dX1_work_109 (by decide) ?_
              refine lv_goto (tgt := 114) F.1 F.2.1 dX1_work_110 (by decide) ?_
              exact r_ireturn F I ⟨hr.1, hr.2.1, trivial⟩ h dX1_work_114
          · rw [if_neg c4] at h
            by_cases c5 : a0 = (61 : Int32)
            · rw [if_pos c5] at h
              refine lv_lookup (off := 114) (tgt := 115) F.1 F.2.1 dX1_work_1 (by decide) (by rw [c5]; rfl) (by decide) ?_
              refine lv_iload_n F.1 F.2.1 dX1_work_115 rfl (lv_at hl 1 rfl) ?_
              refine lv_iload_n F.1 F.2.1 dX1_work_116 rfl (lv_at hl 2 rfl) ?_
              refine r_icmp_ne (tgt := 124) F dX1_work_117 (by decide) h (fun h => ?_) (fun h => ?_)
              · refine lv_iconst (v := 0) F.1 F.2.1 dX1_work_124 (by decide) ?_
                exact r_ireturn F I ⟨hr.1, hr.2.1, trivial⟩ h dX1_work_125
              · refine lv_iconst (v := 1) F.1 F.2.1 dX1_work_120 (by decide) ?_
                refine lv_goto (tgt := 125) F.1 F.2.1 dX1_work_121 (by decide) ?_
                exact r_ireturn F I ⟨hr.1, hr.2.1, trivial⟩ h dX1_work_125
            · rw [if_neg c5] at h
              by_cases c6 : a0 = (62 : Int32)
              · rw [if_pos c6] at h
                refine lv_lookup (off := 125) (tgt := 126) F.1 F.2.1 dX1_work_1 (by decide) (by rw [c6]; rfl) (by decide) ?_
                refine lv_iload_n F.1 F.2.1 dX1_work_126 rfl (lv_at hl 1 rfl) ?_
                refine lv_iload_n F.1 F.2.1 dX1_work_127 rfl (lv_at hl 2 rfl) ?_
                refine r_icmp_le (tgt := 135) F dX1_work_128 (by decide) h (fun h => ?_) (fun h => ?_)
                · refine lv_iconst (v := 0) F.1 F.2.1 dX1_work_135 (by decide) ?_
                  exact r_ireturn F I ⟨hr.1, hr.2.1, trivial⟩ h dX1_work_136
                · refine lv_iconst (v := 1) F.1 F.2.1 dX1_work_131 (by decide) ?_
                  refine lv_goto (tgt := 136) F.1 F.2.1 dX1_work_132 (by decide) ?_
                  exact r_ireturn F I ⟨hr.1, hr.2.1, trivial⟩ h dX1_work_136
              · rw [if_neg c6] at h
                by_cases c7 : a0 = (124 : Int32)
                · rw [if_pos c7] at h
                  refine lv_lookup (off := 75) (tgt := 76) F.1 F.2.1 dX1_work_1 (by decide) (by rw [c7]; rfl) (by decide) ?_
                  refine lv_iload_n F.1 F.2.1 dX1_work_76 rfl (lv_at hl 1 rfl) ?_
                  refine r_if_ne (tgt := 84) F dX1_work_77 (by decide) h (fun h => ?_) (fun h => ?_)
                  · exact hj_84 S _ _ _   h I (lv_sub hl [] rfl)
                  · refine lv_iload_n F.1 F.2.1 dX1_work_80 rfl (lv_at hl 2 rfl) ?_
                    refine r_if_eq (tgt := 88) F dX1_work_81 (by decide) h (fun h => ?_) (fun h => ?_)
                    · refine lv_iconst (v := 0) F.1 F.2.1 dX1_work_88 (by decide) ?_
                      exact r_ireturn F I ⟨hr.1, hr.2.1, trivial⟩ h dX1_work_89
                    · exact hj_84 S _ _ _   h I (lv_sub hl [] rfl)
                · rw [if_neg c7] at h
                  refine lv_lookup (off := 148) (tgt := 149) F.1 F.2.1 dX1_work_1 (by decide) (by show Op.lookupswitch.offset [(38, 89), (42, 144), (43, 136), (45, 140), (60, 103), (61, 114), (62, 125), (124, 75)] (148) _ = _; rw [lv_osw c0 (by decide), lv_osw c1 (by decide), lv_osw c2 (by decide), lv_osw c3 (by decide), lv_osw c4 (by decide), lv_osw c5 (by decide), lv_osw c6 (by decide), lv_osw c7 (by decide)]; rfl) (by decide) ?_
                  refine lv_iload_n F.1 F.2.1 dX1_work_149 rfl (lv_at hl 2 rfl) ?_
                  refine r_if_ne (tgt := 157) F dX1_work_150 (by decide) h (fun h => ?_) (fun h => ?_)
                  · refine lv_iload_n F.1 F.2.1 dX1_work_157 rfl (lv_at hl 1 rfl) ?_
                    refine lv_iload_n F.1 F.2.1 dX1_work_158 rfl (lv_at hl 2 rfl) ?_
                    refine r_idiv F dX1_work_159 h (fun z1 h => ?_)
                    exact r_ireturn F I ⟨hr.1, hr.2.1, trivial⟩ h dX1_work_160
                  · refine lv_iconst (v := 0) F.1 F.2.1 dX1_work_153 (by decide) ?_
                    refine lv_goto (tgt := 160) F.1 F.2.1 dX1_work_154 (by decide) ?_
                    exact r_ireturn F I ⟨hr.1, hr.2.1, trivial⟩ h dX1_work_160
theorem dX1_give_0 : decode cX1_give 0 = .ok (.iconst 0, 1) := by decide +kernel
theorem dX1_give_1 : decode cX1_give 1 = .ok (.istore 5, 2) := by decide +kernel
theorem dX1_give_3 : decode cX1_give 3 = .ok (.iconst 0, 1) := by decide +kernel
theorem dX1_give_4 : decode cX1_give 4 = .ok (.istore 6, 2) := by decide +kernel
theorem dX1_give_6 : decode cX1_give 6 = .ok (.iload 6, 2) := by decide +kernel
theorem dX1_give_8 : decode cX1_give 8 = .ok (.aload_n 0, 1) := by decide +kernel
theorem dX1_give_9 : decode cX1_give 9 = .ok (.getfield 16, 3) := by decide +kernel
theorem dX1_give_12 : decode cX1_give 12 = .ok (.arraylength, 1) := by decide +kernel
theorem dX1_give_13 : decode cX1_give 13 = .ok (.if_icmp .ge 129, 3) := by decide +kernel
theorem dX1_give_16 : decode cX1_give 16 = .ok (.aload_n 0, 1) := by decide +kernel
theorem dX1_give_17 : decode cX1_give 17 = .ok (.getfield 16, 3) := by decide +kernel
theorem dX1_give_20 : decode cX1_give 20 = .ok (.iload 6, 2) := by decide +kernel
theorem dX1_give_22 : decode cX1_give 22 = .ok (.iaload, 1) := by decide +kernel
theorem dX1_give_23 : decode cX1_give 23 = .ok (.istore 7, 2) := by decide +kernel
theorem dX1_give_25 : decode cX1_give 25 = .ok (.iload 7, 2) := by decide +kernel
theorem dX1_give_27 : decode cX1_give 27 = .ok (.sipush 20000, 3) := by decide +kernel
theorem dX1_give_30 : decode cX1_give 30 = .ok (.if_icmp .ge 30, 3) := by decide +kernel
theorem dX1_give_33 : decode cX1_give 33 = .ok (.iload 5, 2) := by decide +kernel
theorem dX1_give_35 : decode cX1_give 35 = .ok (.aload 4, 2) := by decide +kernel
theorem dX1_give_37 : decode cX1_give 37 = .ok (.arraylength, 1) := by decide +kernel
theorem dX1_give_38 : decode cX1_give 38 = .ok (.if_icmp .ge 98, 3) := by decide +kernel
theorem dX1_give_41 : decode cX1_give 41 = .ok (.aload 4, 2) := by decide +kernel
theorem dX1_give_43 : decode cX1_give 43 = .ok (.iload 5, 2) := by decide +kernel
theorem dX1_give_45 : decode cX1_give 45 = .ok (.iload 7, 2) := by decide +kernel
theorem dX1_give_47 : decode cX1_give 47 = .ok (.iload_n 1, 1) := by decide +kernel
theorem dX1_give_48 : decode cX1_give 48 = .ok (.iload_n 2, 1) := by decide +kernel
theorem dX1_give_49 : decode cX1_give 49 = .ok (.iload_n 3, 1) := by decide +kernel
theorem dX1_give_50 : decode cX1_give 50 = .ok (.invokestatic 20, 3) := by decide +kernel
theorem dX1_give_53 : decode cX1_give 53 = .ok (.iastore, 1) := by decide +kernel
theorem dX1_give_54 : decode cX1_give 54 = .ok (.iinc 5 1, 3) := by decide +kernel
theorem dX1_give_57 : decode cX1_give 57 = .ok (.goto 79, 3) := by decide +kernel
theorem dX1_give_60 : decode cX1_give 60 = .ok (.iload 7, 2) := by decide +kernel
theorem dX1_give_62 : decode cX1_give 62 = .ok (.sipush 20033, 3) := by decide +kernel
theorem dX1_give_65 : decode cX1_give 65 = .ok (.if_icmp .ne 34, 3) := by decide +kernel
theorem dX1_give_68 : decode cX1_give 68 = .ok (.iload 5, 2) := by decide +kernel
theorem dX1_give_70 : decode cX1_give 70 = .ok (.iconst 1, 1) := by decide +kernel
theorem dX1_give_71 : decode cX1_give 71 = .ok (.if_icmp .lt 65, 3) := by decide +kernel
theorem dX1_give_74 : decode cX1_give 74 = .ok (.aload 4, 2) := by decide +kernel
theorem dX1_give_76 : decode cX1_give 76 = .ok (.iload 5, 2) := by decide +kernel
theorem dX1_give_78 : decode cX1_give 78 = .ok (.iconst 1, 1) := by decide +kernel
theorem dX1_give_79 : decode cX1_give 79 = .ok (.isub, 1) := by decide +kernel
theorem dX1_give_80 : decode cX1_give 80 = .ok (.aload 4, 2) := by decide +kernel
theorem dX1_give_82 : decode cX1_give 82 = .ok (.iload 5, 2) := by decide +kernel
theorem dX1_give_84 : decode cX1_give 84 = .ok (.iconst 1, 1) := by decide +kernel
theorem dX1_give_85 : decode cX1_give 85 = .ok (.isub, 1) := by decide +kernel
theorem dX1_give_86 : decode cX1_give 86 = .ok (.iaload, 1) := by decide +kernel
theorem dX1_give_87 : decode cX1_give 87 = .ok (.ifCond .ne 7, 3) := by decide +kernel
theorem dX1_give_90 : decode cX1_give 90 = .ok (.iconst 1, 1) := by decide +kernel
theorem dX1_give_91 : decode cX1_give 91 = .ok (.goto 4, 3) := by decide +kernel
theorem dX1_give_94 : decode cX1_give 94 = .ok (.iconst 0, 1) := by decide +kernel
theorem dX1_give_95 : decode cX1_give 95 = .ok (.iastore, 1) := by decide +kernel
theorem dX1_give_96 : decode cX1_give 96 = .ok (.goto 40, 3) := by decide +kernel
theorem dX1_give_99 : decode cX1_give 99 = .ok (.iload 5, 2) := by decide +kernel
theorem dX1_give_101 : decode cX1_give 101 = .ok (.iconst 2, 1) := by decide +kernel
theorem dX1_give_102 : decode cX1_give 102 = .ok (.if_icmp .lt 34, 3) := by decide +kernel
theorem dX1_give_105 : decode cX1_give 105 = .ok (.iinc 5 (-1), 3) := by decide +kernel
theorem dX1_give_108 : decode cX1_give 108 = .ok (.aload 4, 2) := by decide +kernel
theorem dX1_give_110 : decode cX1_give 110 = .ok (.iload 5, 2) := by decide +kernel
theorem dX1_give_112 : decode cX1_give 112 = .ok (.iconst 1, 1) := by decide +kernel
theorem dX1_give_113 : decode cX1_give 113 = .ok (.isub, 1) := by decide +kernel
theorem dX1_give_114 : decode cX1_give 114 = .ok (.iload 7, 2) := by decide +kernel
theorem dX1_give_116 : decode cX1_give 116 = .ok (.sipush 20000, 3) := by decide +kernel
theorem dX1_give_119 : decode cX1_give 119 = .ok (.isub, 1) := by decide +kernel
theorem dX1_give_120 : decode cX1_give 120 = .ok (.aload 4, 2) := by decide +kernel
theorem dX1_give_122 : decode cX1_give 122 = .ok (.iload 5, 2) := by decide +kernel
theorem dX1_give_124 : decode cX1_give 124 = .ok (.iconst 1, 1) := by decide +kernel
theorem dX1_give_125 : decode cX1_give 125 = .ok (.isub, 1) := by decide +kernel
theorem dX1_give_126 : decode cX1_give 126 = .ok (.iaload, 1) := by decide +kernel
theorem dX1_give_127 : decode cX1_give 127 = .ok (.aload 4, 2) := by decide +kernel
theorem dX1_give_129 : decode cX1_give 129 = .ok (.iload 5, 2) := by decide +kernel
theorem dX1_give_131 : decode cX1_give 131 = .ok (.iaload, 1) := by decide +kernel
theorem dX1_give_132 : decode cX1_give 132 = .ok (.invokestatic 24, 3) := by decide +kernel
theorem dX1_give_135 : decode cX1_give 135 = .ok (.iastore, 1) := by decide +kernel
theorem dX1_give_136 : decode cX1_give 136 = .ok (.iinc 6 1, 3) := by decide +kernel
theorem dX1_give_139 : decode cX1_give 139 = .ok (.goto (-133), 3) := by decide +kernel
theorem dX1_give_142 : decode cX1_give 142 = .ok (.aload 4, 2) := by decide +kernel
theorem dX1_give_144 : decode cX1_give 144 = .ok (.iconst 0, 1) := by decide +kernel
theorem dX1_give_145 : decode cX1_give 145 = .ok (.iaload, 1) := by decide +kernel
theorem dX1_give_146 : decode cX1_give 146 = .ok (.ireturn, 1) := by decide +kernel
theorem fX1_16 : fldOK RX1 16 1 2 (.array .int) true := ⟨_, _, _, tyX1, ⟨rfl, iX1, by decide, rfl, by decide⟩, tw_823, ⟨tyX1_ok, nmX1⟩, by decide +kernel, rfl, rfl⟩
theorem kX1_24 : mthS RX1 24 yX1_work prog_3_method_4_code 3 (Option.some Jvm.ClassFile.FieldType.int) 3 := ⟨⟨⟨tw_410, tw_69, tw_412⟩, rfl, by decide +kernel⟩, tw_411⟩
theorem kX1_20 : mthS RX1 20 yX1_leaf prog_3_method_3_code 4 (Option.some Jvm.ClassFile.FieldType.int) 4 := ⟨⟨⟨tw_407, tw_69, tw_409⟩, rfl, by decide +kernel⟩, tw_408⟩
def BX1_give_136 (ln : Nat → Nat) (post : Int32 → HC → Prop) (K6 : HC → Nat → Int32 → Int32 → Int32 → Nat → Int32 → Int32 → Prop) (S : HC) (x0 : Nat) (x1 : Int32) (x2 : Int32) (x3 : Int32) (x4 : Nat) (x5 : Int32) (x6 : Int32) : Prop := lt_ (x6 + (1 : Int32)) fun z1 => K6 S x0 x1 x2 x3 x4 x5 z1
def BX1_give_95 (ln : Nat → Nat) (post : Int32 → HC → Prop) (K6 : HC → Nat → Int32 → Int32 → Int32 → Nat → Int32 → Int32 → Prop) (S : HC) (x0 : Nat) (x1 : Int32) (x2 : Int32) (x3 : Int32) (x4 : Nat) (x5 : Int32) (x6 : Int32) (t0 : Nat) (t1 : Int32) (t2 : Int32) : Prop := as_ (ln t0) t1 (fun j => sI S t0 j t2) fun S => BX1_give_136 ln post K6 S x0 x1 x2 x3 x4 x5 x6
def LX1_give_6 (ln : Nat → Nat) (post : Int32 → HC → Prop) : Nat → HC → Nat → Int32 → Int32 → Int32 → Nat → Int32 → Int32 → Prop
  | 0 => fun _ _ _ _ _ _ _ _ => False
  | n6 + 1 => fun S x0 x1 x2 x3 x4 x5 x6 => dn_ (hR S x0 2) fun b2 => lt_ (nI (ln b2)) fun z3 => if z3 ≤ x6 then (al_ (ln x4) (0 : Int32) (hI S x4) fun z4 => post z4 S) else (dn_ (hR S x0 2) fun b5 => al_ (ln b5) x6 (hI S b5) fun z6 => if (20000 : Int32) ≤ z6 then (if z6 = (20033 : Int32) then (if x5 < (1 : Int32) then (BX1_give_136 ln post (LX1_give_6 ln post n6) S x0 x1 x2 x3 x4 x5 x6) else (lt_ (x5 - (1 : Int32)) fun z14 => lt_ (x5 - (1 : Int32)) fun z15 => al_ (ln x4) z15 (hI S x4) fun z16 => if z16 = 0 then (BX1_give_95 ln post (LX1_give_6 ln post n6) S x0 x1 x2 x3 x4 x5 x6 x4 z14 (1 : Int32)) else (BX1_give_95 ln post (LX1_give_6 ln post n6) S x0 x1 x2 x3 x4 x5 x6 x4 z14 (0 : Int32)))) else (if x5 < (2 : Int32) then (BX1_give_136 ln post (LX1_give_6 ln post n6) S x0 x1 x2 x3 x4 x5 x6) else (lt_ (x5 + (-1 : Int32)) fun z7 => lt_ (z7 - (1 : Int32)) fun z8 => lt_ (z6 - (20000 : Int32)) fun z9 => lt_ (z7 - (1 : Int32)) fun z10 => al_ (ln x4) z10 (hI S x4) fun z11 => al_ (ln x4) z7 (hI S x4) fun z12 => wpX1_work ln S z9 z11 z12 fun z13 S => as_ (ln x4) z8 (fun j => sI S x4 j z13) fun S => BX1_give_136 ln post (LX1_give_6 ln post n6) S x0 x1 x2 x3 x4 z7 x6))) else (lt_ (nI (ln x4)) fun z17 => if z17 ≤ x5 then (BX1_give_136 ln post (LX1_give_6 ln post n6) S x0 x1 x2 x3 x4 x5 x6) else (wpX1_leaf ln S z6 x1 x2 x3 fun z18 S => as_ (ln x4) x5 (fun j => sI S x4 j z18) fun S => lt_ (x5 + (1 : Int32)) fun z19 => BX1_give_136 ln post (LX1_give_6 ln post n6) S x0 x1 x2 x3 x4 z19 x6)))
def wpX1_give (ln : Nat → Nat) (S : HC) (a0 : Nat) (a1 : Int32) (a2 : Int32) (a3 : Int32) (a4 : Nat) (post : Int32 → HC → Prop) : Prop := ∃ n6, LX1_give_6 ln post n6 S a0 a1 a2 a3 a4 (0 : Int32) (0 : Int32)
abbrev rmX1_give : Room := { frames := 1, cells := 0, slots := 0, locals := 23 }
set_option maxHeartbeats 4000000 in
set_option maxRecDepth 100000 in
theorem ctX1_give {l : Launch} {g : GX} {N : Nat} {ln : Nat → Nat} {S : HC} {a0 : Nat} {a1 : Int32} {a2 : Int32} {a3 : Int32} {a4 : Nat} {post : Int32 → HC → Prop} (hr_a0 : a0 < N) (hk_a0 : kd a0 = 1) (hr_a4 : a4 < N) (hk_a4 : kd a4 = 9) (h : wpX1_give ln S a0 a1 a2 a3 a4 post) : Met l yX1_give (Cond.code yX1_give prog_3_method_2_code 8 (Option.some Jvm.ClassFile.FieldType.int) :: gtbl) rmX1_give (va_Pc [.ref (gz g + a0), .int a1, .int a2, .int a3, .ref (gz g + a4)] (AtP g N ln S)) (QI g N ln post) 0 0 (gF g) := by
  refine m_of (by decide) (Nat.le_of_ble_eq_true rfl) ?_
  intro p e s m below meth c ls F hr I hl
  have hl : lv_has ls 8 [(0, .ref (gz g + a0)), (1, .int a1), (2, .int a2), (3, .int a3), (4, .ref (gz g + a4))] := hl
  unfold wpX1_give at h
  have hl_6 : ∀ n6 : Nat, ∀ (S : HC) (H : Heap) (locs : List Loc) (ls : Array Slot) (x0 : Nat) (x1 : Int32) (x2 : Int32) (x3 : Int32) (x4 : Nat) (x5 : Int32) (x6 : Int32), x0 < N → kd x0 = 1 → x4 < N → kd x4 = 9 → LX1_give_6 ln post n6 S x0 x1 x2 x3 x4 x5 x6 → Inv g N ln S s H locs → lv_has ls 8 [(0, .ref (gz g + x0)), (1, .int x1), (2, .int x2), (3, .int x3), (4, .ref (gz g + x4)), (5, .int x5), (6, .int x6)] → W p l e rmX1_give s m ([.ref (gz g + a0), .int a1, .int a2, .int a3, .ref (gz g + a4)] : List Value).toArray below meth c H locs 0 0 (MQ below (QI g N ln post) ([.ref (gz g + a0), .int a1, .int a2, .int a3, .ref (gz g + a4)] : List Value).toArray s 0 0 (gF g)) (F0 m 6 ls []) := by
    intro n6
    induction n6 with
    | zero =>
      intro S H locs ls x0 x1 x2 x3 x4 x5 x6 hr_x0 hk_x0 hr_x4 hk_x4 h I hl
      exact h.elim
    | succ n6 ih =>
      have hk6 := ih
      have hj_136 : ∀ (S : HC) (H : Heap) (locs : List Loc) (ls : Array Slot) (x0 : Nat) (x1 : Int32) (x2 : Int32) (x3 : Int32) (x4 : Nat) (x5 : Int32) (x6 : Int32), x0 < N → kd x0 = 1 → x4 < N → kd x4 = 9 → BX1_give_136 ln post (LX1_give_6 ln post n6) S x0 x1 x2 x3 x4 x5 x6 → Inv g N ln S s H locs → lv_has ls 8 [(0, .ref (gz g + x0)), (1, .int x1), (2, .int x2), (3, .int x3), (4, .ref (gz g + x4)), (5, .int x5), (6, .int x6)] → W p l e rmX1_give s m ([.ref (gz g + a0), .int a1, .int a2, .int a3, .ref (gz g + a4)] : List Value).toArray below meth c H locs 0 0 (MQ below (QI g N ln post) ([.ref (gz g + a0), .int a1, .int a2, .int a3, .ref (gz g + a4)] : List Value).toArray s 0 0 (gF g)) (F0 m 136 ls []) := by
        intro S H locs ls x0 x1 x2 x3 x4 x5 x6 hr_x0 hk_x0 hr_x4 hk_x4 h I hl
        unfold BX1_give_136 at h
        obtain ⟨z1, e_z1, h⟩ := lt_x h
        refine lv_iinc (v := z1) (lv' := [(6, .int z1), (0, .ref (gz g + x0)), (1, .int x1), (2, .int x2), (3, .int x3), (4, .ref (gz g + x4)), (5, .int x5)]) F.1 F.2.1 dX1_give_136 hl (k := 6) rfl (by rw [e_z1]; rfl) (by decide) rfl (fun ls hl => ?_)
        refine lv_goto (tgt := 6) F.1 F.2.1 dX1_give_139 (by decide) ?_
        exact hk6 S _ _ _ x0 x1 x2 x3 x4 x5 z1 hr_x0 hk_x0 hr_x4 hk_x4 h I (lv_sub hl [1, 2, 3, 4, 5, 6, 0] rfl)
      have hj_95 : ∀ (S : HC) (H : Heap) (locs : List Loc) (ls : Array Slot) (x0 : Nat) (x1 : Int32) (x2 : Int32) (x3 : Int32) (x4 : Nat) (x5 : Int32) (x6 : Int32) (t0 : Nat) (t1 : Int32) (t2 : Int32), x0 < N → kd x0 = 1 → x4 < N → kd x4 = 9 → t0 < N → kd t0 = 9 → BX1_give_95 ln post (LX1_give_6 ln post n6) S x0 x1 x2 x3 x4 x5 x6 t0 t1 t2 → Inv g N ln S s H locs → lv_has ls 8 [(0, .ref (gz g + x0)), (1, .int x1), (2, .int x2), (3, .int x3), (4, .ref (gz g + x4)), (5, .int x5), (6, .int x6)] → W p l e rmX1_give s m ([.ref (gz g + a0), .int a1, .int a2, .int a3, .ref (gz g + a4)] : List Value).toArray below meth c H locs 0 0 (MQ below (QI g N ln post) ([.ref (gz g + a0), .int a1, .int a2, .int a3, .ref (gz g + a4)] : List Value).toArray s 0 0 (gF g)) (F0 m 95 ls [.int t2, .int t1, .ref (gz g + t0)]) := by
        intro S H locs ls x0 x1 x2 x3 x4 x5 x6 t0 t1 t2 hr_x0 hk_x0 hr_x4 hk_x4 hr_t0 hk_t0 h I hl
        unfold BX1_give_95 at h
        refine r_ast F I hr_t0 hk_t0 dX1_give_95 h (fun S H locs I h => ?_)
        refine lv_goto (tgt := 136) F.1 F.2.1 dX1_give_96 (by decide) ?_
        exact hj_136 S _ _ _ x0 x1 x2 x3 x4 x5 x6 hr_x0 hk_x0 hr_x4 hk_x4 h I (lv_sub hl [0, 1, 2, 3, 4, 5, 6] rfl)
      intro S H locs ls x0 x1 x2 x3 x4 x5 x6 hr_x0 hk_x0 hr_x4 hk_x4 h I hl
      rw [LX1_give_6] at h
      refine lv_iload F.1 F.2.1 dX1_give_6 (lv_at hl 6 rfl) ?_
      refine lv_aload_n F.1 F.2.1 dX1_give_8 rfl (lv_at hl 0 rfl) ?_
      refine r_getN F I hr_x0 hk_x0 fX1_16 (f := 9) rfl (by decide) dX1_give_9 h (fun b2 hr_b2 hk_b2 h => ?_)
      refine r_alen F I hr_b2 hk_b2 dX1_give_12 h (fun z3 h => ?_)
      refine r_icmp_ge (tgt := 142) F dX1_give_13 (by decide) h (fun h => ?_) (fun h => ?_)
      · refine lv_aload F.1 F.2.1 dX1_give_142 (lv_at hl 4 rfl) ?_
        refine lv_iconst (v := 0) F.1 F.2.1 dX1_give_144 (by decide) ?_
        refine r_ald F I hr_x4 hk_x4 dX1_give_145 h (fun z4 h => ?_)
        exact r_ireturn F I ⟨hr.1, hr.2.1, trivial⟩ h dX1_give_146
      · refine lv_aload_n F.1 F.2.1 dX1_give_16 rfl (lv_at hl 0 rfl) ?_
        refine r_getN F I hr_x0 hk_x0 fX1_16 (f := 9) rfl (by decide) dX1_give_17 h (fun b5 hr_b5 hk_b5 h => ?_)
        refine lv_iload F.1 F.2.1 dX1_give_20 (lv_at hl 6 rfl) ?_
        refine r_ald F I hr_b5 hk_b5 dX1_give_22 h (fun z6 h => ?_)
        refine lv_istore (lv' := [(7, .int z6), (0, .ref (gz g + x0)), (1, .int x1), (2, .int x2), (3, .int x3), (4, .ref (gz g + x4)), (5, .int x5), (6, .int x6)]) F.1 F.2.1 dX1_give_23 hl (by decide) rfl (fun ls hl => ?_)
        refine lv_iload F.1 F.2.1 dX1_give_25 (lv_at hl 0 rfl) ?_
        refine lv_sipush (v := 20000) F.1 F.2.1 dX1_give_27 (by decide) ?_
        refine r_icmp_ge (tgt := 60) F dX1_give_30 (by decide) h (fun h => ?_) (fun h => ?_)
        · refine lv_iload F.1 F.2.1 dX1_give_60 (lv_at hl 0 rfl) ?_
          refine lv_sipush (v := 20033) F.1 F.2.1 dX1_give_62 (by decide) ?_
          refine r_icmp_ne (tgt := 99) F dX1_give_65 (by decide) h (fun h => ?_) (fun h => ?_)
          · refine lv_iload F.1 F.2.1 dX1_give_99 (lv_at hl 6 rfl) ?_
            refine lv_iconst (v := 2) F.1 F.2.1 dX1_give_101 (by decide) ?_
            refine r_icmp_lt (tgt := 136) F dX1_give_102 (by decide) h (fun h => ?_) (fun h => ?_)
            · exact hj_136 S _ _ _ x0 x1 x2 x3 x4 x5 x6 hr_x0 hk_x0 hr_x4 hk_x4 h I (lv_sub hl [1, 2, 3, 4, 5, 6, 7] rfl)
            · obtain ⟨z7, e_z7, h⟩ := lt_x h
              refine lv_iinc (v := z7) (lv' := [(5, .int z7), (7, .int z6), (0, .ref (gz g + x0)), (1, .int x1), (2, .int x2), (3, .int x3), (4, .ref (gz g + x4)), (6, .int x6)]) F.1 F.2.1 dX1_give_105 hl (k := 6) rfl (by rw [e_z7]; rfl) (by decide) rfl (fun ls hl => ?_)
              refine lv_aload F.1 F.2.1 dX1_give_108 (lv_at hl 6 rfl) ?_
              refine lv_iload F.1 F.2.1 dX1_give_110 (lv_at hl 0 rfl) ?_
              refine lv_iconst (v := 1) F.1 F.2.1 dX1_give_112 (by decide) ?_
              refine r_isub F dX1_give_113 h (fun z8 h => ?_)
              refine lv_iload F.1 F.2.1 dX1_give_114 (lv_at hl 1 rfl) ?_
              refine lv_sipush (v := 20000) F.1 F.2.1 dX1_give_116 (by decide) ?_
              refine r_isub F dX1_give_119 h (fun z9 h => ?_)
              refine lv_aload F.1 F.2.1 dX1_give_120 (lv_at hl 6 rfl) ?_
              refine lv_iload F.1 F.2.1 dX1_give_122 (lv_at hl 0 rfl) ?_
              refine lv_iconst (v := 1) F.1 F.2.1 dX1_give_124 (by decide) ?_
              refine r_isub F dX1_give_125 h (fun z10 h => ?_)
              refine r_ald F I hr_x4 hk_x4 dX1_give_126 h (fun z11 h => ?_)
              refine lv_aload F.1 F.2.1 dX1_give_127 (lv_at hl 6 rfl) ?_
              refine lv_iload F.1 F.2.1 dX1_give_129 (lv_at hl 0 rfl) ?_
              refine r_ald F I hr_x4 hk_x4 dX1_give_131 h (fun z12 h => ?_)
              refine g_I I (run_S (As := [.int z9, .int z11, .int z12]) (rest := [.int z8, .ref (gz g + x4)]) F I kX1_24 (ctX1_work h) ⟨rfl, rfl⟩ ⟨Nat.le_of_ble_eq_true rfl, Nat.le_of_ble_eq_true rfl⟩ rfl hl.1 rfl (Nat.le_of_ble_eq_true rfl) ⟨Nat.le_of_ble_eq_true rfl, Nat.le_of_ble_eq_true rfl⟩ dX1_give_132) (fun z13 S H locs I h => ?_)
              refine r_ast F I hr_x4 hk_x4 dX1_give_135 h (fun S H locs I h => ?_)
              exact hj_136 S _ _ _ x0 x1 x2 x3 x4 z7 x6 hr_x0 hk_x0 hr_x4 hk_x4 h I (lv_sub hl [2, 3, 4, 5, 6, 0, 7] rfl)
          · refine lv_iload F.1 F.2.1 dX1_give_68 (lv_at hl 6 rfl) ?_
            refine lv_iconst (v := 1) F.1 F.2.1 dX1_give_70 (by decide) ?_
            refine r_icmp_lt (tgt := 136) F dX1_give_71 (by decide) h (fun h => ?_) (fun h => ?_)
            · exact hj_136 S _ _ _ x0 x1 x2 x3 x4 x5 x6 hr_x0 hk_x0 hr_x4 hk_x4 h I (lv_sub hl [1, 2, 3, 4, 5, 6, 7] rfl)
            · refine lv_aload F.1 F.2.1 dX1_give_74 (lv_at hl 5 rfl) ?_
              refine lv_iload F.1 F.2.1 dX1_give_76 (lv_at hl 6 rfl) ?_
              refine lv_iconst (v := 1) F.1 F.2.1 dX1_give_78 (by decide) ?_
              refine r_isub F dX1_give_79 h (fun z14 h => ?_)
              refine lv_aload F.1 F.2.1 dX1_give_80 (lv_at hl 5 rfl) ?_
              refine lv_iload F.1 F.2.1 dX1_give_82 (lv_at hl 6 rfl) ?_
              refine lv_iconst (v := 1) F.1 F.2.1 dX1_give_84 (by decide) ?_
              refine r_isub F dX1_give_85 h (fun z15 h => ?_)
              refine r_ald F I hr_x4 hk_x4 dX1_give_86 h (fun z16 h => ?_)
              refine r_if_ne (tgt := 94) F dX1_give_87 (by decide) h (fun h => ?_) (fun h => ?_)
              · refine lv_iconst (v := 0) F.1 F.2.1 dX1_give_94 (by decide) ?_
                exact hj_95 S _ _ _ x0 x1 x2 x3 x4 x5 x6 x4 z14 (0 : Int32) hr_x0 hk_x0 hr_x4 hk_x4 hr_x4 hk_x4 h I (lv_sub hl [1, 2, 3, 4, 5, 6, 7] rfl)
              · refine lv_iconst (v := 1) F.1 F.2.1 dX1_give_90 (by decide) ?_
                refine lv_goto (tgt := 95) F.1 F.2.1 dX1_give_91 (by decide) ?_
                exact hj_95 S _ _ _ x0 x1 x2 x3 x4 x5 x6 x4 z14 (1 : Int32) hr_x0 hk_x0 hr_x4 hk_x4 hr_x4 hk_x4 h I (lv_sub hl [1, 2, 3, 4, 5, 6, 7] rfl)
        · refine lv_iload F.1 F.2.1 dX1_give_33 (lv_at hl 6 rfl) ?_
          refine lv_aload F.1 F.2.1 dX1_give_35 (lv_at hl 5 rfl) ?_
          refine r_alen F I hr_x4 hk_x4 dX1_give_37 h (fun z17 h => ?_)
          refine r_icmp_ge (tgt := 136) F dX1_give_38 (by decide) h (fun h => ?_) (fun h => ?_)
          · exact hj_136 S _ _ _ x0 x1 x2 x3 x4 x5 x6 hr_x0 hk_x0 hr_x4 hk_x4 h I (lv_sub hl [1, 2, 3, 4, 5, 6, 7] rfl)
          · refine lv_aload F.1 F.2.1 dX1_give_41 (lv_at hl 5 rfl) ?_
            refine lv_iload F.1 F.2.1 dX1_give_43 (lv_at hl 6 rfl) ?_
            refine lv_iload F.1 F.2.1 dX1_give_45 (lv_at hl 0 rfl) ?_
            refine lv_iload_n F.1 F.2.1 dX1_give_47 rfl (lv_at hl 2 rfl) ?_
            refine lv_iload_n F.1 F.2.1 dX1_give_48 rfl (lv_at hl 3 rfl) ?_
            refine lv_iload_n F.1 F.2.1 dX1_give_49 rfl (lv_at hl 4 rfl) ?_
            refine g_I I (run_S (As := [.int z6, .int x1, .int x2, .int x3]) (rest := [.int x5, .ref (gz g + x4)]) F I kX1_20 (ctX1_leaf h) ⟨rfl, rfl⟩ ⟨Nat.le_of_ble_eq_true rfl, Nat.le_of_ble_eq_true rfl⟩ rfl hl.1 rfl (Nat.le_of_ble_eq_true rfl) ⟨Nat.le_of_ble_eq_true rfl, Nat.le_of_ble_eq_true rfl⟩ dX1_give_50) (fun z18 S H locs I h => ?_)
            refine r_ast F I hr_x4 hk_x4 dX1_give_53 h (fun S H locs I h => ?_)
            obtain ⟨z19, e_z19, h⟩ := lt_x h
            refine lv_iinc (v := z19) (lv' := [(5, .int z19), (7, .int z6), (0, .ref (gz g + x0)), (1, .int x1), (2, .int x2), (3, .int x3), (4, .ref (gz g + x4)), (6, .int x6)]) F.1 F.2.1 dX1_give_54 hl (k := 6) rfl (by rw [e_z19]; rfl) (by decide) rfl (fun ls hl => ?_)
            refine lv_goto (tgt := 136) F.1 F.2.1 dX1_give_57 (by decide) ?_
            exact hj_136 S _ _ _ x0 x1 x2 x3 x4 z19 x6 hr_x0 hk_x0 hr_x4 hk_x4 h I (lv_sub hl [2, 3, 4, 5, 6, 0, 7] rfl)
  refine lv_iconst (v := 0) F.1 F.2.1 dX1_give_0 (by decide) ?_
  refine lv_istore (lv' := [(5, .int (0 : Int32)), (0, .ref (gz g + a0)), (1, .int a1), (2, .int a2), (3, .int a3), (4, .ref (gz g + a4))]) F.1 F.2.1 dX1_give_1 hl (by decide) rfl (fun ls hl => ?_)
  refine lv_iconst (v := 0) F.1 F.2.1 dX1_give_3 (by decide) ?_
  refine lv_istore (lv' := [(6, .int (0 : Int32)), (5, .int (0 : Int32)), (0, .ref (gz g + a0)), (1, .int a1), (2, .int a2), (3, .int a3), (4, .ref (gz g + a4))]) F.1 F.2.1 dX1_give_4 hl (by decide) rfl (fun ls hl => ?_)
  obtain ⟨n6, h⟩ := h
  exact hl_6 n6 S _ _ _ a0 a1 a2 a3 a4 (0 : Int32) (0 : Int32) hr_a0 hk_a0 hr_a4 hk_a4 h I (lv_sub hl [2, 3, 4, 5, 6, 1, 0] rfl)
theorem dX3_beginAs_0 : decode cX3_beginAs 0 = .ok (.aload_n 0, 1) := by decide +kernel
theorem dX3_beginAs_1 : decode cX3_beginAs 1 = .ok (.iload_n 1, 1) := by decide +kernel
theorem dX3_beginAs_2 : decode cX3_beginAs 2 = .ok (.putfield 9, 3) := by decide +kernel
theorem dX3_beginAs_5 : decode cX3_beginAs 5 = .ok (.aload_n 0, 1) := by decide +kernel
theorem dX3_beginAs_6 : decode cX3_beginAs 6 = .ok (.iload_n 2, 1) := by decide +kernel
theorem dX3_beginAs_7 : decode cX3_beginAs 7 = .ok (.putfield 15, 3) := by decide +kernel
theorem dX3_beginAs_10 : decode cX3_beginAs 10 = .ok (.iconst 0, 1) := by decide +kernel
theorem dX3_beginAs_11 : decode cX3_beginAs 11 = .ok (.istore_n 3, 1) := by decide +kernel
theorem dX3_beginAs_12 : decode cX3_beginAs 12 = .ok (.iload_n 3, 1) := by decide +kernel
theorem dX3_beginAs_13 : decode cX3_beginAs 13 = .ok (.bipush 24, 2) := by decide +kernel
theorem dX3_beginAs_15 : decode cX3_beginAs 15 = .ok (.if_icmp .ge 16, 3) := by decide +kernel
theorem dX3_beginAs_18 : decode cX3_beginAs 18 = .ok (.aload_n 0, 1) := by decide +kernel
theorem dX3_beginAs_19 : decode cX3_beginAs 19 = .ok (.getfield 18, 3) := by decide +kernel
theorem dX3_beginAs_22 : decode cX3_beginAs 22 = .ok (.iload_n 3, 1) := by decide +kernel
theorem dX3_beginAs_23 : decode cX3_beginAs 23 = .ok (.iconst 0, 1) := by decide +kernel
theorem dX3_beginAs_24 : decode cX3_beginAs 24 = .ok (.iastore, 1) := by decide +kernel
theorem dX3_beginAs_25 : decode cX3_beginAs 25 = .ok (.iinc 3 1, 3) := by decide +kernel
theorem dX3_beginAs_28 : decode cX3_beginAs 28 = .ok (.goto (-16), 3) := by decide +kernel
theorem dX3_beginAs_31 : decode cX3_beginAs 31 = .ok (.return_, 1) := by decide +kernel
theorem fX3_18 : fldOK RX3 18 3 2 (.array .int) true := ⟨_, _, _, tyX3, ⟨rfl, iX3, by decide, rfl, by decide⟩, tw_247, ⟨tyX3_ok, nmX3⟩, by decide +kernel, rfl, rfl⟩
theorem fX3_9 : fldOK RX3 9 3 0 .int false := ⟨_, _, _, tyX3, ⟨rfl, iX3, by decide, rfl, by decide⟩, tw_243, ⟨tyX3_ok, nmX3⟩, by decide +kernel, rfl, rfl⟩
theorem fX3_15 : fldOK RX3 15 3 1 .int false := ⟨_, _, _, tyX3, ⟨rfl, iX3, by decide, rfl, by decide⟩, tw_245, ⟨tyX3_ok, nmX3⟩, by decide +kernel, rfl, rfl⟩
def LX3_beginAs_12 (ln : Nat → Nat) (post : HC → Prop) : Nat → HC → Nat → Int32 → Prop
  | 0 => fun _ _ _ => False
  | n12 + 1 => fun S x0 x3 => if (24 : Int32) ≤ x3 then (post S) else (dn_ (hR S x0 2) fun b1 => as_ (ln b1) x3 (fun j => sI S b1 j (0 : Int32)) fun S => lt_ (x3 + (1 : Int32)) fun z2 => (LX3_beginAs_12 ln post n12) S x0 z2)
def wpX3_beginAs (ln : Nat → Nat) (S : HC) (a0 : Nat) (a1 : Int32) (a2 : Int32) (post : HC → Prop) : Prop := lt_ (sI S a0 0 a1) fun S => lt_ (sI S a0 1 a2) fun S => ∃ n12, LX3_beginAs_12 ln post n12 S a0 (0 : Int32)
abbrev rmX3_beginAs : Room := { frames := 0, cells := 0, slots := 0, locals := 0 }
set_option maxHeartbeats 4000000 in
set_option maxRecDepth 100000 in
theorem ctX3_beginAs {l : Launch} {g : GX} {N : Nat} {ln : Nat → Nat} {S : HC} {a0 : Nat} {a1 : Int32} {a2 : Int32} {post : HC → Prop} (hr_a0 : a0 < N) (hk_a0 : kd a0 = 3) (h : wpX3_beginAs ln S a0 a1 a2 post) : Met l yX3_beginAs (Cond.code yX3_beginAs prog_5_method_2_code 4 (Option.none : Option Jvm.ClassFile.FieldType) :: gtbl) rmX3_beginAs (va_Pc [.ref (gz g + a0), .int a1, .int a2] (AtP g N ln S)) (QV g N ln post) 0 0 (gF g) := by
  refine m_of (by decide) (Nat.le_of_ble_eq_true rfl) ?_
  intro p e s m below meth c ls F hr I hl
  have hl : lv_has ls 4 [(0, .ref (gz g + a0)), (1, .int a1), (2, .int a2)] := hl
  unfold wpX3_beginAs at h
  have hl_12 : ∀ n12 : Nat, ∀ (S : HC) (H : Heap) (locs : List Loc) (ls : Array Slot) (x0 : Nat) (x3 : Int32), x0 < N → kd x0 = 3 → LX3_beginAs_12 ln post n12 S x0 x3 → Inv g N ln S s H locs → lv_has ls 4 [(0, .ref (gz g + x0)), (3, .int x3)] → W p l e rmX3_beginAs s m ([.ref (gz g + a0), .int a1, .int a2] : List Value).toArray below meth c H locs 0 0 (MQ below (QV g N ln post) ([.ref (gz g + a0), .int a1, .int a2] : List Value).toArray s 0 0 (gF g)) (F0 m 12 ls []) := by
    intro n12
    induction n12 with
    | zero =>
      intro S H locs ls x0 x3 hr_x0 hk_x0 h I hl
      exact h.elim
    | succ n12 ih =>
      have hk12 := ih
      intro S H locs ls x0 x3 hr_x0 hk_x0 h I hl
      rw [LX3_beginAs_12] at h
      refine lv_iload_n F.1 F.2.1 dX3_beginAs_12 rfl (lv_at hl 1 rfl) ?_
      refine lv_bipush (v := 24) F.1 F.2.1 dX3_beginAs_13 (by decide) ?_
      refine r_icmp_ge (tgt := 31) F dX3_beginAs_15 (by decide) h (fun h => ?_) (fun h => ?_)
      · exact r_vreturn F I ⟨hr.1, hr.2.1, trivial⟩ h dX3_beginAs_31
      · refine lv_aload_n F.1 F.2.1 dX3_beginAs_18 rfl (lv_at hl 0 rfl) ?_
        refine r_getN F I hr_x0 hk_x0 fX3_18 (f := 9) rfl (by decide) dX3_beginAs_19 h (fun b1 hr_b1 hk_b1 h => ?_)
        refine lv_iload_n F.1 F.2.1 dX3_beginAs_22 rfl (lv_at hl 1 rfl) ?_
        refine lv_iconst (v := 0) F.1 F.2.1 dX3_beginAs_23 (by decide) ?_
        refine r_ast F I hr_b1 hk_b1 dX3_beginAs_24 h (fun S H locs I h => ?_)
        obtain ⟨z2, e_z2, h⟩ := lt_x h
        refine lv_iinc (v := z2) (lv' := [(3, .int z2), (0, .ref (gz g + x0))]) F.1 F.2.1 dX3_beginAs_25 hl (k := 1) rfl (by rw [e_z2]; rfl) (by decide) rfl (fun ls hl => ?_)
        refine lv_goto (tgt := 12) F.1 F.2.1 dX3_beginAs_28 (by decide) ?_
        exact hk12 S _ _ _ x0 z2 hr_x0 hk_x0 h I (lv_sub hl [1, 0] rfl)
  refine lv_aload_n F.1 F.2.1 dX3_beginAs_0 rfl (lv_at hl 0 rfl) ?_
  refine lv_iload_n F.1 F.2.1 dX3_beginAs_1 rfl (lv_at hl 1 rfl) ?_
  refine r_putI F I hr_a0 hk_a0 fX3_9 rfl (Or.inl rfl) ⟨rfl, rfl⟩ dX3_beginAs_2 h (fun S H locs I h => ?_)
  refine lv_aload_n F.1 F.2.1 dX3_beginAs_5 rfl (lv_at hl 0 rfl) ?_
  refine lv_iload_n F.1 F.2.1 dX3_beginAs_6 rfl (lv_at hl 2 rfl) ?_
  refine r_putI F I hr_a0 hk_a0 fX3_15 rfl (Or.inl rfl) ⟨rfl, rfl⟩ dX3_beginAs_7 h (fun S H locs I h => ?_)
  refine lv_iconst (v := 0) F.1 F.2.1 dX3_beginAs_10 (by decide) ?_
  refine lv_istore_n (lv' := [(3, .int (0 : Int32)), (0, .ref (gz g + a0)), (1, .int a1), (2, .int a2)]) F.1 F.2.1 dX3_beginAs_11 rfl hl (by decide) rfl (fun ls hl => ?_)
  obtain ⟨n12, h⟩ := h
  exact hl_12 n12 S _ _ _ a0 (0 : Int32) hr_a0 hk_a0 h I (lv_sub hl [1, 0] rfl)
theorem dX3_become_0 : decode cX3_become 0 = .ok (.aload_n 0, 1) := by decide +kernel
theorem dX3_become_1 : decode cX3_become 1 = .ok (.aload_n 1, 1) := by decide +kernel
theorem dX3_become_2 : decode cX3_become 2 = .ok (.getfield 9, 3) := by decide +kernel
theorem dX3_become_5 : decode cX3_become 5 = .ok (.putfield 9, 3) := by decide +kernel
theorem dX3_become_8 : decode cX3_become 8 = .ok (.aload_n 0, 1) := by decide +kernel
theorem dX3_become_9 : decode cX3_become 9 = .ok (.aload_n 1, 1) := by decide +kernel
theorem dX3_become_10 : decode cX3_become 10 = .ok (.getfield 15, 3) := by decide +kernel
theorem dX3_become_13 : decode cX3_become 13 = .ok (.putfield 15, 3) := by decide +kernel
theorem dX3_become_16 : decode cX3_become 16 = .ok (.iconst 0, 1) := by decide +kernel
theorem dX3_become_17 : decode cX3_become 17 = .ok (.istore_n 2, 1) := by decide +kernel
theorem dX3_become_18 : decode cX3_become 18 = .ok (.iload_n 2, 1) := by decide +kernel
theorem dX3_become_19 : decode cX3_become 19 = .ok (.bipush 24, 2) := by decide +kernel
theorem dX3_become_21 : decode cX3_become 21 = .ok (.if_icmp .ge 21, 3) := by decide +kernel
theorem dX3_become_24 : decode cX3_become 24 = .ok (.aload_n 0, 1) := by decide +kernel
theorem dX3_become_25 : decode cX3_become 25 = .ok (.getfield 18, 3) := by decide +kernel
theorem dX3_become_28 : decode cX3_become 28 = .ok (.iload_n 2, 1) := by decide +kernel
theorem dX3_become_29 : decode cX3_become 29 = .ok (.aload_n 1, 1) := by decide +kernel
theorem dX3_become_30 : decode cX3_become 30 = .ok (.getfield 18, 3) := by decide +kernel
theorem dX3_become_33 : decode cX3_become 33 = .ok (.iload_n 2, 1) := by decide +kernel
theorem dX3_become_34 : decode cX3_become 34 = .ok (.iaload, 1) := by decide +kernel
theorem dX3_become_35 : decode cX3_become 35 = .ok (.iastore, 1) := by decide +kernel
theorem dX3_become_36 : decode cX3_become 36 = .ok (.iinc 2 1, 3) := by decide +kernel
theorem dX3_become_39 : decode cX3_become 39 = .ok (.goto (-21), 3) := by decide +kernel
theorem dX3_become_42 : decode cX3_become 42 = .ok (.return_, 1) := by decide +kernel
def LX3_become_18 (ln : Nat → Nat) (post : HC → Prop) : Nat → HC → Nat → Nat → Int32 → Prop
  | 0 => fun _ _ _ _ => False
  | n18 + 1 => fun S x0 x1 x2 => if (24 : Int32) ≤ x2 then (post S) else (dn_ (hR S x0 2) fun b1 => dn_ (hR S x1 2) fun b2 => al_ (ln b2) x2 (hI S b2) fun z3 => as_ (ln b1) x2 (fun j => sI S b1 j z3) fun S => lt_ (x2 + (1 : Int32)) fun z4 => (LX3_become_18 ln post n18) S x0 x1 z4)
def wpX3_become (ln : Nat → Nat) (S : HC) (a0 : Nat) (a1 : Nat) (post : HC → Prop) : Prop := lt_ (hI S a1 0) fun z5 => lt_ (sI S a0 0 z5) fun S => lt_ (hI S a1 1) fun z6 => lt_ (sI S a0 1 z6) fun S => ∃ n18, LX3_become_18 ln post n18 S a0 a1 (0 : Int32)
abbrev rmX3_become : Room := { frames := 0, cells := 0, slots := 0, locals := 0 }
set_option maxHeartbeats 4000000 in
set_option maxRecDepth 100000 in
theorem ctX3_become {l : Launch} {g : GX} {N : Nat} {ln : Nat → Nat} {S : HC} {a0 : Nat} {a1 : Nat} {post : HC → Prop} (hr_a0 : a0 < N) (hk_a0 : kd a0 = 3) (hr_a1 : a1 < N) (hk_a1 : kd a1 = 3) (h : wpX3_become ln S a0 a1 post) : Met l yX3_become (Cond.code yX3_become prog_5_method_3_code 3 (Option.none : Option Jvm.ClassFile.FieldType) :: gtbl) rmX3_become (va_Pc [.ref (gz g + a0), .ref (gz g + a1)] (AtP g N ln S)) (QV g N ln post) 0 0 (gF g) := by
  refine m_of (by decide) (Nat.le_of_ble_eq_true rfl) ?_
  intro p e s m below meth c ls F hr I hl
  have hl : lv_has ls 3 [(0, .ref (gz g + a0)), (1, .ref (gz g + a1))] := hl
  unfold wpX3_become at h
  have hl_18 : ∀ n18 : Nat, ∀ (S : HC) (H : Heap) (locs : List Loc) (ls : Array Slot) (x0 : Nat) (x1 : Nat) (x2 : Int32), x0 < N → kd x0 = 3 → x1 < N → kd x1 = 3 → LX3_become_18 ln post n18 S x0 x1 x2 → Inv g N ln S s H locs → lv_has ls 3 [(0, .ref (gz g + x0)), (1, .ref (gz g + x1)), (2, .int x2)] → W p l e rmX3_become s m ([.ref (gz g + a0), .ref (gz g + a1)] : List Value).toArray below meth c H locs 0 0 (MQ below (QV g N ln post) ([.ref (gz g + a0), .ref (gz g + a1)] : List Value).toArray s 0 0 (gF g)) (F0 m 18 ls []) := by
    intro n18
    induction n18 with
    | zero =>
      intro S H locs ls x0 x1 x2 hr_x0 hk_x0 hr_x1 hk_x1 h I hl
      exact h.elim
    | succ n18 ih =>
      have hk18 := ih
      intro S H locs ls x0 x1 x2 hr_x0 hk_x0 hr_x1 hk_x1 h I hl
      rw [LX3_become_18] at h
      refine lv_iload_n F.1 F.2.1 dX3_become_18 rfl (lv_at hl 2 rfl) ?_
      refine lv_bipush (v := 24) F.1 F.2.1 dX3_become_19 (by decide) ?_
      refine r_icmp_ge (tgt := 42) F dX3_become_21 (by decide) h (fun h => ?_) (fun h => ?_)
      · exact r_vreturn F I ⟨hr.1, hr.2.1, trivial⟩ h dX3_become_42
      · refine lv_aload_n F.1 F.2.1 dX3_become_24 rfl (lv_at hl 0 rfl) ?_
        refine r_getN F I hr_x0 hk_x0 fX3_18 (f := 9) rfl (by decide) dX3_become_25 h (fun b1 hr_b1 hk_b1 h => ?_)
        refine lv_iload_n F.1 F.2.1 dX3_become_28 rfl (lv_at hl 2 rfl) ?_
        refine lv_aload_n F.1 F.2.1 dX3_become_29 rfl (lv_at hl 1 rfl) ?_
        refine r_getN F I hr_x1 hk_x1 fX3_18 (f := 9) rfl (by decide) dX3_become_30 h (fun b2 hr_b2 hk_b2 h => ?_)
        refine lv_iload_n F.1 F.2.1 dX3_become_33 rfl (lv_at hl 2 rfl) ?_
        refine r_ald F I hr_b2 hk_b2 dX3_become_34 h (fun z3 h => ?_)
        refine r_ast F I hr_b1 hk_b1 dX3_become_35 h (fun S H locs I h => ?_)
        obtain ⟨z4, e_z4, h⟩ := lt_x h
        refine lv_iinc (v := z4) (lv' := [(2, .int z4), (0, .ref (gz g + x0)), (1, .ref (gz g + x1))]) F.1 F.2.1 dX3_become_36 hl (k := 2) rfl (by rw [e_z4]; rfl) (by decide) rfl (fun ls hl => ?_)
        refine lv_goto (tgt := 18) F.1 F.2.1 dX3_become_39 (by decide) ?_
        exact hk18 S _ _ _ x0 x1 z4 hr_x0 hk_x0 hr_x1 hk_x1 h I (lv_sub hl [1, 2, 0] rfl)
  refine lv_aload_n F.1 F.2.1 dX3_become_0 rfl (lv_at hl 0 rfl) ?_
  refine lv_aload_n F.1 F.2.1 dX3_become_1 rfl (lv_at hl 1 rfl) ?_
  refine r_getI F I hr_a1 hk_a1 fX3_9 rfl dX3_become_2 h (fun z5 h => ?_)
  refine r_putI F I hr_a0 hk_a0 fX3_9 rfl (Or.inl rfl) ⟨rfl, rfl⟩ dX3_become_5 h (fun S H locs I h => ?_)
  refine lv_aload_n F.1 F.2.1 dX3_become_8 rfl (lv_at hl 0 rfl) ?_
  refine lv_aload_n F.1 F.2.1 dX3_become_9 rfl (lv_at hl 1 rfl) ?_
  refine r_getI F I hr_a1 hk_a1 fX3_15 rfl dX3_become_10 h (fun z6 h => ?_)
  refine r_putI F I hr_a0 hk_a0 fX3_15 rfl (Or.inl rfl) ⟨rfl, rfl⟩ dX3_become_13 h (fun S H locs I h => ?_)
  refine lv_iconst (v := 0) F.1 F.2.1 dX3_become_16 (by decide) ?_
  refine lv_istore_n (lv' := [(2, .int (0 : Int32)), (0, .ref (gz g + a0)), (1, .ref (gz g + a1))]) F.1 F.2.1 dX3_become_17 rfl hl (by decide) rfl (fun ls hl => ?_)
  obtain ⟨n18, h⟩ := h
  exact hl_18 n18 S _ _ _ a0 a1 (0 : Int32) hr_a0 hk_a0 hr_a1 hk_a1 h I (lv_sub hl [1, 2, 0] rfl)
theorem dX3_isMissing_0 : decode cX3_isMissing 0 = .ok (.aload_n 0, 1) := by decide +kernel
theorem dX3_isMissing_1 : decode cX3_isMissing 1 = .ok (.getfield 9, 3) := by decide +kernel
theorem dX3_isMissing_4 : decode cX3_isMissing 4 = .ok (.iconst (-1), 1) := by decide +kernel
theorem dX3_isMissing_5 : decode cX3_isMissing 5 = .ok (.if_icmp .ne 7, 3) := by decide +kernel
theorem dX3_isMissing_8 : decode cX3_isMissing 8 = .ok (.iconst 1, 1) := by decide +kernel
theorem dX3_isMissing_9 : decode cX3_isMissing 9 = .ok (.goto 4, 3) := by decide +kernel
theorem dX3_isMissing_12 : decode cX3_isMissing 12 = .ok (.iconst 0, 1) := by decide +kernel
theorem dX3_isMissing_13 : decode cX3_isMissing 13 = .ok (.ireturn, 1) := by decide +kernel
def wpX3_isMissing (ln : Nat → Nat) (S : HC) (a0 : Nat) (post : Int32 → HC → Prop) : Prop := lt_ (hI S a0 0) fun z1 => if z1 = (-1 : Int32) then (rb_ .boolean (1 : Int32) (post (1 : Int32) S)) else (rb_ .boolean (0 : Int32) (post (0 : Int32) S))
abbrev rmX3_isMissing : Room := { frames := 0, cells := 0, slots := 0, locals := 0 }
set_option maxHeartbeats 4000000 in
set_option maxRecDepth 100000 in
theorem ctX3_isMissing {l : Launch} {g : GX} {N : Nat} {ln : Nat → Nat} {S : HC} {a0 : Nat} {post : Int32 → HC → Prop} (hr_a0 : a0 < N) (hk_a0 : kd a0 = 3) (h : wpX3_isMissing ln S a0 post) : Met l yX3_isMissing (Cond.code yX3_isMissing prog_5_method_4_code 1 (Option.some Jvm.ClassFile.FieldType.boolean) :: gtbl) rmX3_isMissing (va_Pc [.ref (gz g + a0)] (AtP g N ln S)) (QI g N ln post) 0 0 (gF g) := by
  refine m_of (by decide) (Nat.le_of_ble_eq_true rfl) ?_
  intro p e s m below meth c ls F hr I hl
  have hl : lv_has ls 1 [(0, .ref (gz g + a0))] := hl
  unfold wpX3_isMissing at h
  refine lv_aload_n F.1 F.2.1 dX3_isMissing_0 rfl (lv_at hl 0 rfl) ?_
  refine r_getI F I hr_a0 hk_a0 fX3_9 rfl dX3_isMissing_1 h (fun z1 h => ?_)
  refine lv_iconst (v := -1) F.1 F.2.1 dX3_isMissing_4 (by decide) ?_
  refine r_icmp_ne (tgt := 12) F dX3_isMissing_5 (by decide) h (fun h => ?_) (fun h => ?_)
  · refine lv_iconst (v := 0) F.1 F.2.1 dX3_isMissing_12 (by decide) ?_
    exact r_zreturn F I ⟨hr.1, hr.2.1, trivial⟩ h dX3_isMissing_13
  · refine lv_iconst (v := 1) F.1 F.2.1 dX3_isMissing_8 (by decide) ?_
    refine lv_goto (tgt := 13) F.1 F.2.1 dX3_isMissing_9 (by decide) ?_
    exact r_zreturn F I ⟨hr.1, hr.2.1, trivial⟩ h dX3_isMissing_13
theorem dX3_hasPlace_0 : decode cX3_hasPlace 0 = .ok (.iload_n 1, 1) := by decide +kernel
theorem dX3_hasPlace_1 : decode cX3_hasPlace 1 = .ok (.ifCond .lt 21, 3) := by decide +kernel
theorem dX3_hasPlace_4 : decode cX3_hasPlace 4 = .ok (.iload_n 1, 1) := by decide +kernel
theorem dX3_hasPlace_5 : decode cX3_hasPlace 5 = .ok (.aload_n 0, 1) := by decide +kernel
theorem dX3_hasPlace_6 : decode cX3_hasPlace 6 = .ok (.getfield 15, 3) := by decide +kernel
theorem dX3_hasPlace_9 : decode cX3_hasPlace 9 = .ok (.if_icmp .ge 13, 3) := by decide +kernel
theorem dX3_hasPlace_12 : decode cX3_hasPlace 12 = .ok (.iload_n 1, 1) := by decide +kernel
theorem dX3_hasPlace_13 : decode cX3_hasPlace 13 = .ok (.bipush 24, 2) := by decide +kernel
theorem dX3_hasPlace_15 : decode cX3_hasPlace 15 = .ok (.if_icmp .ge 7, 3) := by decide +kernel
theorem dX3_hasPlace_18 : decode cX3_hasPlace 18 = .ok (.iconst 1, 1) := by decide +kernel
theorem dX3_hasPlace_19 : decode cX3_hasPlace 19 = .ok (.goto 4, 3) := by decide +kernel
theorem dX3_hasPlace_22 : decode cX3_hasPlace 22 = .ok (.iconst 0, 1) := by decide +kernel
theorem dX3_hasPlace_23 : decode cX3_hasPlace 23 = .ok (.ireturn, 1) := by decide +kernel
def BX3_hasPlace_22 (ln : Nat → Nat) (post : Int32 → HC → Prop) (S : HC)  : Prop := rb_ .boolean (0 : Int32) (post (0 : Int32) S)
def wpX3_hasPlace (ln : Nat → Nat) (S : HC) (a0 : Nat) (a1 : Int32) (post : Int32 → HC → Prop) : Prop := if a1 < 0 then (BX3_hasPlace_22 ln post S) else (lt_ (hI S a0 1) fun z1 => if z1 ≤ a1 then (BX3_hasPlace_22 ln post S) else (if (24 : Int32) ≤ a1 then (BX3_hasPlace_22 ln post S) else (rb_ .boolean (1 : Int32) (post (1 : Int32) S))))
abbrev rmX3_hasPlace : Room := { frames := 0, cells := 0, slots := 0, locals := 0 }
set_option maxHeartbeats 4000000 in
set_option maxRecDepth 100000 in
theorem ctX3_hasPlace {l : Launch} {g : GX} {N : Nat} {ln : Nat → Nat} {S : HC} {a0 : Nat} {a1 : Int32} {post : Int32 → HC → Prop} (hr_a0 : a0 < N) (hk_a0 : kd a0 = 3) (h : wpX3_hasPlace ln S a0 a1 post) : Met l yX3_hasPlace (Cond.code yX3_hasPlace prog_5_method_5_code 2 (Option.some Jvm.ClassFile.FieldType.boolean) :: gtbl) rmX3_hasPlace (va_Pc [.ref (gz g + a0), .int a1] (AtP g N ln S)) (QI g N ln post) 0 0 (gF g) := by
  refine m_of (by decide) (Nat.le_of_ble_eq_true rfl) ?_
  intro p e s m below meth c ls F hr I hl
  have hl : lv_has ls 2 [(0, .ref (gz g + a0)), (1, .int a1)] := hl
  unfold wpX3_hasPlace at h
  have hj_22 : ∀ (S : HC) (H : Heap) (locs : List Loc) (ls : Array Slot), BX3_hasPlace_22 ln post S  → Inv g N ln S s H locs → lv_has ls 2 [] → W p l e rmX3_hasPlace s m ([.ref (gz g + a0), .int a1] : List Value).toArray below meth c H locs 0 0 (MQ below (QI g N ln post) ([.ref (gz g + a0), .int a1] : List Value).toArray s 0 0 (gF g)) (F0 m 22 ls []) := by
    intro S H locs ls h I hl
    unfold BX3_hasPlace_22 at h
    refine lv_iconst (v := 0) F.1 F.2.1 dX3_hasPlace_22 (by decide) ?_
    exact r_zreturn F I ⟨hr.1, hr.2.1, trivial⟩ h dX3_hasPlace_23
  refine lv_iload_n F.1 F.2.1 dX3_hasPlace_0 rfl (lv_at hl 1 rfl) ?_
  refine r_if_lt (tgt := 22) F dX3_hasPlace_1 (by decide) h (fun h => ?_) (fun h => ?_)
  · exact hj_22 S _ _ _   h I (lv_sub hl [] rfl)
  · refine lv_iload_n F.1 F.2.1 dX3_hasPlace_4 rfl (lv_at hl 1 rfl) ?_
    refine lv_aload_n F.1 F.2.1 dX3_hasPlace_5 rfl (lv_at hl 0 rfl) ?_
    refine r_getI F I hr_a0 hk_a0 fX3_15 rfl dX3_hasPlace_6 h (fun z1 h => ?_)
    refine r_icmp_ge (tgt := 22) F dX3_hasPlace_9 (by decide) h (fun h => ?_) (fun h => ?_)
    · exact hj_22 S _ _ _   h I (lv_sub hl [] rfl)
    · refine lv_iload_n F.1 F.2.1 dX3_hasPlace_12 rfl (lv_at hl 1 rfl) ?_
      refine lv_bipush (v := 24) F.1 F.2.1 dX3_hasPlace_13 (by decide) ?_
      refine r_icmp_ge (tgt := 22) F dX3_hasPlace_15 (by decide) h (fun h => ?_) (fun h => ?_)
      · exact hj_22 S _ _ _   h I (lv_sub hl [] rfl)
      · refine lv_iconst (v := 1) F.1 F.2.1 dX3_hasPlace_18 (by decide) ?_
        refine lv_goto (tgt := 23) F.1 F.2.1 dX3_hasPlace_19 (by decide) ?_
        exact r_zreturn F I ⟨hr.1, hr.2.1, trivial⟩ h dX3_hasPlace_23
theorem dX3_hasSpan_0 : decode cX3_hasSpan 0 = .ok (.iload_n 1, 1) := by decide +kernel
theorem dX3_hasSpan_1 : decode cX3_hasSpan 1 = .ok (.ifCond .lt 29, 3) := by decide +kernel
theorem dX3_hasSpan_4 : decode cX3_hasSpan 4 = .ok (.iload_n 2, 1) := by decide +kernel
theorem dX3_hasSpan_5 : decode cX3_hasSpan 5 = .ok (.ifCond .lt 25, 3) := by decide +kernel
theorem dX3_hasSpan_8 : decode cX3_hasSpan 8 = .ok (.iload_n 2, 1) := by decide +kernel
theorem dX3_hasSpan_9 : decode cX3_hasSpan 9 = .ok (.aload_n 0, 1) := by decide +kernel
theorem dX3_hasSpan_10 : decode cX3_hasSpan 10 = .ok (.getfield 15, 3) := by decide +kernel
theorem dX3_hasSpan_13 : decode cX3_hasSpan 13 = .ok (.if_icmp .gt 17, 3) := by decide +kernel
theorem dX3_hasSpan_16 : decode cX3_hasSpan 16 = .ok (.iload_n 1, 1) := by decide +kernel
theorem dX3_hasSpan_17 : decode cX3_hasSpan 17 = .ok (.aload_n 0, 1) := by decide +kernel
theorem dX3_hasSpan_18 : decode cX3_hasSpan 18 = .ok (.getfield 15, 3) := by decide +kernel
theorem dX3_hasSpan_21 : decode cX3_hasSpan 21 = .ok (.iload_n 2, 1) := by decide +kernel
theorem dX3_hasSpan_22 : decode cX3_hasSpan 22 = .ok (.isub, 1) := by decide +kernel
theorem dX3_hasSpan_23 : decode cX3_hasSpan 23 = .ok (.if_icmp .gt 7, 3) := by decide +kernel
theorem dX3_hasSpan_26 : decode cX3_hasSpan 26 = .ok (.iconst 1, 1) := by decide +kernel
theorem dX3_hasSpan_27 : decode cX3_hasSpan 27 = .ok (.goto 4, 3) := by decide +kernel
theorem dX3_hasSpan_30 : decode cX3_hasSpan 30 = .ok (.iconst 0, 1) := by decide +kernel
theorem dX3_hasSpan_31 : decode cX3_hasSpan 31 = .ok (.ireturn, 1) := by decide +kernel
def BX3_hasSpan_30 (ln : Nat → Nat) (post : Int32 → HC → Prop) (S : HC)  : Prop := rb_ .boolean (0 : Int32) (post (0 : Int32) S)
def wpX3_hasSpan (ln : Nat → Nat) (S : HC) (a0 : Nat) (a1 : Int32) (a2 : Int32) (post : Int32 → HC → Prop) : Prop := if a1 < 0 then (BX3_hasSpan_30 ln post S) else (if a2 < 0 then (BX3_hasSpan_30 ln post S) else (lt_ (hI S a0 1) fun z1 => if z1 < a2 then (BX3_hasSpan_30 ln post S) else (lt_ (hI S a0 1) fun z2 => lt_ (z2 - a2) fun z3 => if z3 < a1 then (BX3_hasSpan_30 ln post S) else (rb_ .boolean (1 : Int32) (post (1 : Int32) S)))))
abbrev rmX3_hasSpan : Room := { frames := 0, cells := 0, slots := 0, locals := 0 }
set_option maxHeartbeats 4000000 in
set_option maxRecDepth 100000 in
theorem ctX3_hasSpan {l : Launch} {g : GX} {N : Nat} {ln : Nat → Nat} {S : HC} {a0 : Nat} {a1 : Int32} {a2 : Int32} {post : Int32 → HC → Prop} (hr_a0 : a0 < N) (hk_a0 : kd a0 = 3) (h : wpX3_hasSpan ln S a0 a1 a2 post) : Met l yX3_hasSpan (Cond.code yX3_hasSpan prog_5_method_6_code 3 (Option.some Jvm.ClassFile.FieldType.boolean) :: gtbl) rmX3_hasSpan (va_Pc [.ref (gz g + a0), .int a1, .int a2] (AtP g N ln S)) (QI g N ln post) 0 0 (gF g) := by
  refine m_of (by decide) (Nat.le_of_ble_eq_true rfl) ?_
  intro p e s m below meth c ls F hr I hl
  have hl : lv_has ls 3 [(0, .ref (gz g + a0)), (1, .int a1), (2, .int a2)] := hl
  unfold wpX3_hasSpan at h
  have hj_30 : ∀ (S : HC) (H : Heap) (locs : List Loc) (ls : Array Slot), BX3_hasSpan_30 ln post S  → Inv g N ln S s H locs → lv_has ls 3 [] → W p l e rmX3_hasSpan s m ([.ref (gz g + a0), .int a1, .int a2] : List Value).toArray below meth c H locs 0 0 (MQ below (QI g N ln post) ([.ref (gz g + a0), .int a1, .int a2] : List Value).toArray s 0 0 (gF g)) (F0 m 30 ls []) := by
    intro S H locs ls h I hl
    unfold BX3_hasSpan_30 at h
    refine lv_iconst (v := 0) F.1 F.2.1 dX3_hasSpan_30 (by decide) ?_
    exact r_zreturn F I ⟨hr.1, hr.2.1, trivial⟩ h dX3_hasSpan_31
  refine lv_iload_n F.1 F.2.1 dX3_hasSpan_0 rfl (lv_at hl 1 rfl) ?_
  refine r_if_lt (tgt := 30) F dX3_hasSpan_1 (by decide) h (fun h => ?_) (fun h => ?_)
  · exact hj_30 S _ _ _   h I (lv_sub hl [] rfl)
  · refine lv_iload_n F.1 F.2.1 dX3_hasSpan_4 rfl (lv_at hl 2 rfl) ?_
    refine r_if_lt (tgt := 30) F dX3_hasSpan_5 (by decide) h (fun h => ?_) (fun h => ?_)
    · exact hj_30 S _ _ _   h I (lv_sub hl [] rfl)
    · refine lv_iload_n F.1 F.2.1 dX3_hasSpan_8 rfl (lv_at hl 2 rfl) ?_
      refine lv_aload_n F.1 F.2.1 dX3_hasSpan_9 rfl (lv_at hl 0 rfl) ?_
      refine r_getI F I hr_a0 hk_a0 fX3_15 rfl dX3_hasSpan_10 h (fun z1 h => ?_)
      refine r_icmp_gt (tgt := 30) F dX3_hasSpan_13 (by decide) h (fun h => ?_) (fun h => ?_)
      · exact hj_30 S _ _ _   h I (lv_sub hl [] rfl)
      · refine lv_iload_n F.1 F.2.1 dX3_hasSpan_16 rfl (lv_at hl 1 rfl) ?_
        refine lv_aload_n F.1 F.2.1 dX3_hasSpan_17 rfl (lv_at hl 0 rfl) ?_
        refine r_getI F I hr_a0 hk_a0 fX3_15 rfl dX3_hasSpan_18 h (fun z2 h => ?_)
        refine lv_iload_n F.1 F.2.1 dX3_hasSpan_21 rfl (lv_at hl 2 rfl) ?_
        refine r_isub F dX3_hasSpan_22 h (fun z3 h => ?_)
        refine r_icmp_gt (tgt := 30) F dX3_hasSpan_23 (by decide) h (fun h => ?_) (fun h => ?_)
        · exact hj_30 S _ _ _   h I (lv_sub hl [] rfl)
        · refine lv_iconst (v := 1) F.1 F.2.1 dX3_hasSpan_26 (by decide) ?_
          refine lv_goto (tgt := 31) F.1 F.2.1 dX3_hasSpan_27 (by decide) ?_
          exact r_zreturn F I ⟨hr.1, hr.2.1, trivial⟩ h dX3_hasSpan_31
theorem dX3_isNumber_0 : decode cX3_isNumber 0 = .ok (.aload_n 0, 1) := by decide +kernel
theorem dX3_isNumber_1 : decode cX3_isNumber 1 = .ok (.iload_n 1, 1) := by decide +kernel
theorem dX3_isNumber_2 : decode cX3_isNumber 2 = .ok (.invokevirtual 22, 3) := by decide +kernel
theorem dX3_isNumber_5 : decode cX3_isNumber 5 = .ok (.ifCond .eq 18, 3) := by decide +kernel
theorem dX3_isNumber_8 : decode cX3_isNumber 8 = .ok (.aload_n 0, 1) := by decide +kernel
theorem dX3_isNumber_9 : decode cX3_isNumber 9 = .ok (.getfield 18, 3) := by decide +kernel
theorem dX3_isNumber_12 : decode cX3_isNumber 12 = .ok (.iload_n 1, 1) := by decide +kernel
theorem dX3_isNumber_13 : decode cX3_isNumber 13 = .ok (.iaload, 1) := by decide +kernel
theorem dX3_isNumber_14 : decode cX3_isNumber 14 = .ok (.ldc 26, 2) := by decide +kernel
theorem dX3_isNumber_16 : decode cX3_isNumber 16 = .ok (.if_icmp .eq 7, 3) := by decide +kernel
theorem dX3_isNumber_19 : decode cX3_isNumber 19 = .ok (.iconst 1, 1) := by decide +kernel
theorem dX3_isNumber_20 : decode cX3_isNumber 20 = .ok (.goto 4, 3) := by decide +kernel
theorem dX3_isNumber_23 : decode cX3_isNumber 23 = .ok (.iconst 0, 1) := by decide +kernel
theorem dX3_isNumber_24 : decode cX3_isNumber 24 = .ok (.ireturn, 1) := by decide +kernel
theorem kX3_22 : mthV RX3 22 3 yX3_hasPlace prog_5_method_5_code 2 (Option.some Jvm.ClassFile.FieldType.boolean) 1 := ⟨⟨⟨tw_602, tw_65, tw_605⟩, rfl, by decide +kernel⟩, tw_603, tw_604, rfl⟩
def BX3_isNumber_23 (ln : Nat → Nat) (post : Int32 → HC → Prop) (S : HC)  : Prop := rb_ .boolean (0 : Int32) (post (0 : Int32) S)
def wpX3_isNumber (ln : Nat → Nat) (S : HC) (a0 : Nat) (a1 : Int32) (post : Int32 → HC → Prop) : Prop := wpX3_hasPlace ln S a0 a1 fun z1 S => if z1 = 0 then (BX3_isNumber_23 ln post S) else (dn_ (hR S a0 2) fun b2 => al_ (ln b2) a1 (hI S b2) fun z3 => if z3 = (-1000000005 : Int32) then (BX3_isNumber_23 ln post S) else (rb_ .boolean (1 : Int32) (post (1 : Int32) S)))
abbrev rmX3_isNumber : Room := { frames := 1, cells := 0, slots := 0, locals := 21 }
set_option maxHeartbeats 4000000 in
set_option maxRecDepth 100000 in
theorem ctX3_isNumber {l : Launch} {g : GX} {N : Nat} {ln : Nat → Nat} {S : HC} {a0 : Nat} {a1 : Int32} {post : Int32 → HC → Prop} (hr_a0 : a0 < N) (hk_a0 : kd a0 = 3) (h : wpX3_isNumber ln S a0 a1 post) : Met l yX3_isNumber (Cond.code yX3_isNumber prog_5_method_7_code 2 (Option.some Jvm.ClassFile.FieldType.boolean) :: gtbl) rmX3_isNumber (va_Pc [.ref (gz g + a0), .int a1] (AtP g N ln S)) (QI g N ln post) 0 0 (gF g) := by
  refine m_of (by decide) (Nat.le_of_ble_eq_true rfl) ?_
  intro p e s m below meth c ls F hr I hl
  have hl : lv_has ls 2 [(0, .ref (gz g + a0)), (1, .int a1)] := hl
  unfold wpX3_isNumber at h
  have hj_23 : ∀ (S : HC) (H : Heap) (locs : List Loc) (ls : Array Slot), BX3_isNumber_23 ln post S  → Inv g N ln S s H locs → lv_has ls 2 [] → W p l e rmX3_isNumber s m ([.ref (gz g + a0), .int a1] : List Value).toArray below meth c H locs 0 0 (MQ below (QI g N ln post) ([.ref (gz g + a0), .int a1] : List Value).toArray s 0 0 (gF g)) (F0 m 23 ls []) := by
    intro S H locs ls h I hl
    unfold BX3_isNumber_23 at h
    refine lv_iconst (v := 0) F.1 F.2.1 dX3_isNumber_23 (by decide) ?_
    exact r_zreturn F I ⟨hr.1, hr.2.1, trivial⟩ h dX3_isNumber_24
  refine lv_aload_n F.1 F.2.1 dX3_isNumber_0 rfl (lv_at hl 0 rfl) ?_
  refine lv_iload_n F.1 F.2.1 dX3_isNumber_1 rfl (lv_at hl 1 rfl) ?_
  refine g_I I (run_V (As := [.int a1]) (rest := []) F I hr_a0 hk_a0 (by decide) kX3_22 (ctX3_hasPlace hr_a0 hk_a0 h) ⟨rfl, rfl⟩ ⟨Nat.le_of_ble_eq_true rfl, Nat.le_of_ble_eq_true rfl⟩ rfl hl.1 rfl (Nat.le_of_ble_eq_true rfl) ⟨Nat.le_of_ble_eq_true rfl, Nat.le_of_ble_eq_true rfl⟩ dX3_isNumber_2) (fun z1 S H locs I h => ?_)
  refine r_if_eq (tgt := 23) F dX3_isNumber_5 (by decide) h (fun h => ?_) (fun h => ?_)
  · exact hj_23 S _ _ _   h I (lv_sub hl [] rfl)
  · refine lv_aload_n F.1 F.2.1 dX3_isNumber_8 rfl (lv_at hl 0 rfl) ?_
    refine r_getN F I hr_a0 hk_a0 fX3_18 (f := 9) rfl (by decide) dX3_isNumber_9 h (fun b2 hr_b2 hk_b2 h => ?_)
    refine lv_iload_n F.1 F.2.1 dX3_isNumber_12 rfl (lv_at hl 1 rfl) ?_
    refine r_ald F I hr_b2 hk_b2 dX3_isNumber_13 h (fun z3 h => ?_)
    refine lv_ldc F.1 F.2.1 F.2.2.2.1 (F.2.2.2.2 _ tw_606) dX3_isNumber_14 ?_
    refine r_icmp_eq (tgt := 23) F dX3_isNumber_16 (by decide) h (fun h => ?_) (fun h => ?_)
    · exact hj_23 S _ _ _   h I (lv_sub hl [] rfl)
    · refine lv_iconst (v := 1) F.1 F.2.1 dX3_isNumber_19 (by decide) ?_
      refine lv_goto (tgt := 24) F.1 F.2.1 dX3_isNumber_20 (by decide) ?_
      exact r_zreturn F I ⟨hr.1, hr.2.1, trivial⟩ h dX3_isNumber_24
theorem dX6_take_0 : decode cX6_take 0 = .ok (.bipush 24, 2) := by decide +kernel
theorem dX6_take_2 : decode cX6_take 2 = .ok (.istore_n 2, 1) := by decide +kernel
theorem dX6_take_3 : decode cX6_take 3 = .ok (.iload_n 2, 1) := by decide +kernel
theorem dX6_take_4 : decode cX6_take 4 = .ok (.ifCond .lt 51, 3) := by decide +kernel
theorem dX6_take_7 : decode cX6_take 7 = .ok (.aload_n 0, 1) := by decide +kernel
theorem dX6_take_8 : decode cX6_take 8 = .ok (.getfield 15, 3) := by decide +kernel
theorem dX6_take_11 : decode cX6_take 11 = .ok (.ifCond .lt 38, 3) := by decide +kernel
theorem dX6_take_14 : decode cX6_take 14 = .ok (.aload_n 0, 1) := by decide +kernel
theorem dX6_take_15 : decode cX6_take 15 = .ok (.getfield 15, 3) := by decide +kernel
theorem dX6_take_18 : decode cX6_take 18 = .ok (.bipush 96, 2) := by decide +kernel
theorem dX6_take_20 : decode cX6_take 20 = .ok (.if_icmp .ge 29, 3) := by decide +kernel
theorem dX6_take_23 : decode cX6_take 23 = .ok (.aload_n 0, 1) := by decide +kernel
theorem dX6_take_24 : decode cX6_take 24 = .ok (.getfield 9, 3) := by decide +kernel
theorem dX6_take_27 : decode cX6_take 27 = .ok (.aload_n 0, 1) := by decide +kernel
theorem dX6_take_28 : decode cX6_take 28 = .ok (.getfield 15, 3) := by decide +kernel
theorem dX6_take_31 : decode cX6_take 31 = .ok (.iload_n 1, 1) := by decide +kernel
theorem dX6_take_32 : decode cX6_take 32 = .ok (.iload_n 2, 1) := by decide +kernel
theorem dX6_take_33 : decode cX6_take 33 = .ok (.iushr, 1) := by decide +kernel
theorem dX6_take_34 : decode cX6_take 34 = .ok (.sipush 255, 3) := by decide +kernel
theorem dX6_take_37 : decode cX6_take 37 = .ok (.iand, 1) := by decide +kernel
theorem dX6_take_38 : decode cX6_take 38 = .ok (.iastore, 1) := by decide +kernel
theorem dX6_take_39 : decode cX6_take 39 = .ok (.aload_n 0, 1) := by decide +kernel
theorem dX6_take_40 : decode cX6_take 40 = .ok (.dup, 1) := by decide +kernel
theorem dX6_take_41 : decode cX6_take 41 = .ok (.getfield 15, 3) := by decide +kernel
theorem dX6_take_44 : decode cX6_take 44 = .ok (.iconst 1, 1) := by decide +kernel
theorem dX6_take_45 : decode cX6_take 45 = .ok (.iadd, 1) := by decide +kernel
theorem dX6_take_46 : decode cX6_take 46 = .ok (.putfield 15, 3) := by decide +kernel
theorem dX6_take_49 : decode cX6_take 49 = .ok (.iinc 2 (-8), 3) := by decide +kernel
theorem dX6_take_52 : decode cX6_take 52 = .ok (.goto (-49), 3) := by decide +kernel
theorem dX6_take_55 : decode cX6_take 55 = .ok (.return_, 1) := by decide +kernel
theorem fX6_15 : fldOK RX6 15 6 1 .int false := ⟨_, _, _, tyX6, ⟨rfl, iX6, by decide, rfl, by decide⟩, tw_190, ⟨tyX6_ok, nmX6⟩, by decide +kernel, rfl, rfl⟩
theorem fX6_9 : fldOK RX6 9 6 0 (.array .int) true := ⟨_, _, _, tyX6, ⟨rfl, iX6, by decide, rfl, by decide⟩, tw_189, ⟨tyX6_ok, nmX6⟩, by decide +kernel, rfl, rfl⟩
def BX6_take_49 (ln : Nat → Nat) (post : HC → Prop) (K3 : HC → Nat → Int32 → Int32 → Prop) (S : HC) (x0 : Nat) (x1 : Int32) (x2 : Int32) : Prop := lt_ (x2 + (-8 : Int32)) fun z1 => K3 S x0 x1 z1
def LX6_take_3 (ln : Nat → Nat) (post : HC → Prop) : Nat → HC → Nat → Int32 → Int32 → Prop
  | 0 => fun _ _ _ _ => False
  | n3 + 1 => fun S x0 x1 x2 => if x2 < 0 then (post S) else (lt_ (hI S x0 1) fun z2 => if z2 < 0 then (BX6_take_49 ln post (LX6_take_3 ln post n3) S x0 x1 x2) else (lt_ (hI S x0 1) fun z3 => if (96 : Int32) ≤ z3 then (BX6_take_49 ln post (LX6_take_3 ln post n3) S x0 x1 x2) else (dn_ (hR S x0 0) fun b4 => lt_ (hI S x0 1) fun z5 => lt_ ((x1.toUInt32 >>> (x2.toUInt32 &&& Int32.toUInt32 31)).toInt32) fun z6 => lt_ (z6 &&& (255 : Int32)) fun z7 => as_ (ln b4) z5 (fun j => sI S b4 j z7) fun S => lt_ (hI S x0 1) fun z8 => lt_ (z8 + (1 : Int32)) fun z9 => lt_ (sI S x0 1 z9) fun S => BX6_take_49 ln post (LX6_take_3 ln post n3) S x0 x1 x2)))
def wpX6_take (ln : Nat → Nat) (S : HC) (a0 : Nat) (a1 : Int32) (post : HC → Prop) : Prop := ∃ n3, LX6_take_3 ln post n3 S a0 a1 (24 : Int32)
abbrev rmX6_take : Room := { frames := 0, cells := 0, slots := 0, locals := 0 }
set_option maxHeartbeats 4000000 in
set_option maxRecDepth 100000 in
theorem ctX6_take {l : Launch} {g : GX} {N : Nat} {ln : Nat → Nat} {S : HC} {a0 : Nat} {a1 : Int32} {post : HC → Prop} (hr_a0 : a0 < N) (hk_a0 : kd a0 = 6) (h : wpX6_take ln S a0 a1 post) : Met l yX6_take (Cond.code yX6_take prog_8_method_2_code 3 (Option.none : Option Jvm.ClassFile.FieldType) :: gtbl) rmX6_take (va_Pc [.ref (gz g + a0), .int a1] (AtP g N ln S)) (QV g N ln post) 0 0 (gF g) := by
  refine m_of (by decide) (Nat.le_of_ble_eq_true rfl) ?_
  intro p e s m below meth c ls F hr I hl
  have hl : lv_has ls 3 [(0, .ref (gz g + a0)), (1, .int a1)] := hl
  unfold wpX6_take at h
  have hl_3 : ∀ n3 : Nat, ∀ (S : HC) (H : Heap) (locs : List Loc) (ls : Array Slot) (x0 : Nat) (x1 : Int32) (x2 : Int32), x0 < N → kd x0 = 6 → LX6_take_3 ln post n3 S x0 x1 x2 → Inv g N ln S s H locs → lv_has ls 3 [(0, .ref (gz g + x0)), (1, .int x1), (2, .int x2)] → W p l e rmX6_take s m ([.ref (gz g + a0), .int a1] : List Value).toArray below meth c H locs 0 0 (MQ below (QV g N ln post) ([.ref (gz g + a0), .int a1] : List Value).toArray s 0 0 (gF g)) (F0 m 3 ls []) := by
    intro n3
    induction n3 with
    | zero =>
      intro S H locs ls x0 x1 x2 hr_x0 hk_x0 h I hl
      exact h.elim
    | succ n3 ih =>
      have hk3 := ih
      have hj_49 : ∀ (S : HC) (H : Heap) (locs : List Loc) (ls : Array Slot) (x0 : Nat) (x1 : Int32) (x2 : Int32), x0 < N → kd x0 = 6 → BX6_take_49 ln post (LX6_take_3 ln post n3) S x0 x1 x2 → Inv g N ln S s H locs → lv_has ls 3 [(0, .ref (gz g + x0)), (1, .int x1), (2, .int x2)] → W p l e rmX6_take s m ([.ref (gz g + a0), .int a1] : List Value).toArray below meth c H locs 0 0 (MQ below (QV g N ln post) ([.ref (gz g + a0), .int a1] : List Value).toArray s 0 0 (gF g)) (F0 m 49 ls []) := by
        intro S H locs ls x0 x1 x2 hr_x0 hk_x0 h I hl
        unfold BX6_take_49 at h
        obtain ⟨z1, e_z1, h⟩ := lt_x h
        refine lv_iinc (v := z1) (lv' := [(2, .int z1), (0, .ref (gz g + x0)), (1, .int x1)]) F.1 F.2.1 dX6_take_49 hl (k := 2) rfl (by rw [e_z1]; rfl) (by decide) rfl (fun ls hl => ?_)
        refine lv_goto (tgt := 3) F.1 F.2.1 dX6_take_52 (by decide) ?_
        exact hk3 S _ _ _ x0 x1 z1 hr_x0 hk_x0 h I (lv_sub hl [1, 2, 0] rfl)
      intro S H locs ls x0 x1 x2 hr_x0 hk_x0 h I hl
      rw [LX6_take_3] at h
      refine lv_iload_n F.1 F.2.1 dX6_take_3 rfl (lv_at hl 2 rfl) ?_
      refine r_if_lt (tgt := 55) F dX6_take_4 (by decide) h (fun h => ?_) (fun h => ?_)
      · exact r_vreturn F I ⟨hr.1, hr.2.1, trivial⟩ h dX6_take_55
      · refine lv_aload_n F.1 F.2.1 dX6_take_7 rfl (lv_at hl 0 rfl) ?_
        refine r_getI F I hr_x0 hk_x0 fX6_15 rfl dX6_take_8 h (fun z2 h => ?_)
        refine r_if_lt (tgt := 49) F dX6_take_11 (by decide) h (fun h => ?_) (fun h => ?_)
        · exact hj_49 S _ _ _ x0 x1 x2 hr_x0 hk_x0 h I (lv_sub hl [0, 1, 2] rfl)
        · refine lv_aload_n F.1 F.2.1 dX6_take_14 rfl (lv_at hl 0 rfl) ?_
          refine r_getI F I hr_x0 hk_x0 fX6_15 rfl dX6_take_15 h (fun z3 h => ?_)
          refine lv_bipush (v := 96) F.1 F.2.1 dX6_take_18 (by decide) ?_
          refine r_icmp_ge (tgt := 49) F dX6_take_20 (by decide) h (fun h => ?_) (fun h => ?_)
          · exact hj_49 S _ _ _ x0 x1 x2 hr_x0 hk_x0 h I (lv_sub hl [0, 1, 2] rfl)
          · refine lv_aload_n F.1 F.2.1 dX6_take_23 rfl (lv_at hl 0 rfl) ?_
            refine r_getN F I hr_x0 hk_x0 fX6_9 (f := 9) rfl (by decide) dX6_take_24 h (fun b4 hr_b4 hk_b4 h => ?_)
            refine lv_aload_n F.1 F.2.1 dX6_take_27 rfl (lv_at hl 0 rfl) ?_
            refine r_getI F I hr_x0 hk_x0 fX6_15 rfl dX6_take_28 h (fun z5 h => ?_)
            refine lv_iload_n F.1 F.2.1 dX6_take_31 rfl (lv_at hl 1 rfl) ?_
            refine lv_iload_n F.1 F.2.1 dX6_take_32 rfl (lv_at hl 2 rfl) ?_
            refine r_iushr F dX6_take_33 h (fun z6 h => ?_)
            refine lv_sipush (v := 255) F.1 F.2.1 dX6_take_34 (by decide) ?_
            refine r_iand F dX6_take_37 h (fun z7 h => ?_)
            refine r_ast F I hr_b4 hk_b4 dX6_take_38 h (fun S H locs I h => ?_)
            refine lv_aload_n F.1 F.2.1 dX6_take_39 rfl (lv_at hl 0 rfl) ?_
            refine lv_dup F.1 F.2.1 dX6_take_40 rfl ?_
            refine r_getI F I hr_x0 hk_x0 fX6_15 rfl dX6_take_41 h (fun z8 h => ?_)
            refine lv_iconst (v := 1) F.1 F.2.1 dX6_take_44 (by decide) ?_
            refine r_iadd F dX6_take_45 h (fun z9 h => ?_)
            refine r_putI F I hr_x0 hk_x0 fX6_15 rfl (Or.inl rfl) ⟨rfl, rfl⟩ dX6_take_46 h (fun S H locs I h => ?_)
            exact hj_49 S _ _ _ x0 x1 x2 hr_x0 hk_x0 h I (lv_sub hl [0, 1, 2] rfl)
  refine lv_bipush (v := 24) F.1 F.2.1 dX6_take_0 (by decide) ?_
  refine lv_istore_n (lv' := [(2, .int (24 : Int32)), (0, .ref (gz g + a0)), (1, .int a1)]) F.1 F.2.1 dX6_take_2 rfl hl (by decide) rfl (fun ls hl => ?_)
  obtain ⟨n3, h⟩ := h
  exact hl_3 n3 S _ _ _ a0 a1 (24 : Int32) hr_a0 hk_a0 h I (lv_sub hl [1, 2, 0] rfl)
theorem dX6_at_0 : decode cX6_at 0 = .ok (.iload_n 1, 1) := by decide +kernel
theorem dX6_at_1 : decode cX6_at 1 = .ok (.ifCond .lt 26, 3) := by decide +kernel
theorem dX6_at_4 : decode cX6_at 4 = .ok (.iload_n 1, 1) := by decide +kernel
theorem dX6_at_5 : decode cX6_at 5 = .ok (.aload_n 0, 1) := by decide +kernel
theorem dX6_at_6 : decode cX6_at 6 = .ok (.getfield 15, 3) := by decide +kernel
theorem dX6_at_9 : decode cX6_at 9 = .ok (.if_icmp .ge 18, 3) := by decide +kernel
theorem dX6_at_12 : decode cX6_at 12 = .ok (.iload_n 1, 1) := by decide +kernel
theorem dX6_at_13 : decode cX6_at 13 = .ok (.bipush 96, 2) := by decide +kernel
theorem dX6_at_15 : decode cX6_at 15 = .ok (.if_icmp .ge 12, 3) := by decide +kernel
theorem dX6_at_18 : decode cX6_at 18 = .ok (.aload_n 0, 1) := by decide +kernel
theorem dX6_at_19 : decode cX6_at 19 = .ok (.getfield 9, 3) := by decide +kernel
theorem dX6_at_22 : decode cX6_at 22 = .ok (.iload_n 1, 1) := by decide +kernel
theorem dX6_at_23 : decode cX6_at 23 = .ok (.iaload, 1) := by decide +kernel
theorem dX6_at_24 : decode cX6_at 24 = .ok (.goto 4, 3) := by decide +kernel
theorem dX6_at_27 : decode cX6_at 27 = .ok (.iconst (-1), 1) := by decide +kernel
theorem dX6_at_28 : decode cX6_at 28 = .ok (.ireturn, 1) := by decide +kernel
def BX6_at_27 (ln : Nat → Nat) (post : Int32 → HC → Prop) (S : HC)  : Prop := post (-1 : Int32) S
def wpX6_at (ln : Nat → Nat) (S : HC) (a0 : Nat) (a1 : Int32) (post : Int32 → HC → Prop) : Prop := if a1 < 0 then (BX6_at_27 ln post S) else (lt_ (hI S a0 1) fun z1 => if z1 ≤ a1 then (BX6_at_27 ln post S) else (if (96 : Int32) ≤ a1 then (BX6_at_27 ln post S) else (dn_ (hR S a0 0) fun b2 => al_ (ln b2) a1 (hI S b2) fun z3 => post z3 S)))
abbrev rmX6_at : Room := { frames := 0, cells := 0, slots := 0, locals := 0 }
set_option maxHeartbeats 4000000 in
set_option maxRecDepth 100000 in
theorem ctX6_at {l : Launch} {g : GX} {N : Nat} {ln : Nat → Nat} {S : HC} {a0 : Nat} {a1 : Int32} {post : Int32 → HC → Prop} (hr_a0 : a0 < N) (hk_a0 : kd a0 = 6) (h : wpX6_at ln S a0 a1 post) : Met l yX6_at (Cond.code yX6_at prog_8_method_3_code 2 (Option.some Jvm.ClassFile.FieldType.int) :: gtbl) rmX6_at (va_Pc [.ref (gz g + a0), .int a1] (AtP g N ln S)) (QI g N ln post) 0 0 (gF g) := by
  refine m_of (by decide) (Nat.le_of_ble_eq_true rfl) ?_
  intro p e s m below meth c ls F hr I hl
  have hl : lv_has ls 2 [(0, .ref (gz g + a0)), (1, .int a1)] := hl
  unfold wpX6_at at h
  have hj_27 : ∀ (S : HC) (H : Heap) (locs : List Loc) (ls : Array Slot), BX6_at_27 ln post S  → Inv g N ln S s H locs → lv_has ls 2 [] → W p l e rmX6_at s m ([.ref (gz g + a0), .int a1] : List Value).toArray below meth c H locs 0 0 (MQ below (QI g N ln post) ([.ref (gz g + a0), .int a1] : List Value).toArray s 0 0 (gF g)) (F0 m 27 ls []) := by
    intro S H locs ls h I hl
    unfold BX6_at_27 at h
    refine lv_iconst (v := -1) F.1 F.2.1 dX6_at_27 (by decide) ?_
    exact r_ireturn F I ⟨hr.1, hr.2.1, trivial⟩ h dX6_at_28
  refine lv_iload_n F.1 F.2.1 dX6_at_0 rfl (lv_at hl 1 rfl) ?_
  refine r_if_lt (tgt := 27) F dX6_at_1 (by decide) h (fun h => ?_) (fun h => ?_)
  · exact hj_27 S _ _ _   h I (lv_sub hl [] rfl)
  · refine lv_iload_n F.1 F.2.1 dX6_at_4 rfl (lv_at hl 1 rfl) ?_
    refine lv_aload_n F.1 F.2.1 dX6_at_5 rfl (lv_at hl 0 rfl) ?_
    refine r_getI F I hr_a0 hk_a0 fX6_15 rfl dX6_at_6 h (fun z1 h => ?_)
    refine r_icmp_ge (tgt := 27) F dX6_at_9 (by decide) h (fun h => ?_) (fun h => ?_)
    · exact hj_27 S _ _ _   h I (lv_sub hl [] rfl)
    · refine lv_iload_n F.1 F.2.1 dX6_at_12 rfl (lv_at hl 1 rfl) ?_
      refine lv_bipush (v := 96) F.1 F.2.1 dX6_at_13 (by decide) ?_
      refine r_icmp_ge (tgt := 27) F dX6_at_15 (by decide) h (fun h => ?_) (fun h => ?_)
      · exact hj_27 S _ _ _   h I (lv_sub hl [] rfl)
      · refine lv_aload_n F.1 F.2.1 dX6_at_18 rfl (lv_at hl 0 rfl) ?_
        refine r_getN F I hr_a0 hk_a0 fX6_9 (f := 9) rfl (by decide) dX6_at_19 h (fun b2 hr_b2 hk_b2 h => ?_)
        refine lv_iload_n F.1 F.2.1 dX6_at_22 rfl (lv_at hl 1 rfl) ?_
        refine r_ald F I hr_b2 hk_b2 dX6_at_23 h (fun z3 h => ?_)
        refine lv_goto (tgt := 28) F.1 F.2.1 dX6_at_24 (by decide) ?_
        exact r_ireturn F I ⟨hr.1, hr.2.1, trivial⟩ h dX6_at_28
theorem dJ6_bitCount_0f7a4_0 : decode cJ6_bitCount_0f7a4 0 = .ok (.iload_n 0, 1) := by decide +kernel
theorem dJ6_bitCount_0f7a4_1 : decode cJ6_bitCount_0f7a4 1 = .ok (.iload_n 0, 1) := by decide +kernel
theorem dJ6_bitCount_0f7a4_2 : decode cJ6_bitCount_0f7a4 2 = .ok (.iconst 1, 1) := by decide +kernel
theorem dJ6_bitCount_0f7a4_3 : decode cJ6_bitCount_0f7a4 3 = .ok (.iushr, 1) := by decide +kernel
theorem dJ6_bitCount_0f7a4_4 : decode cJ6_bitCount_0f7a4 4 = .ok (.ldc_w 265, 3) := by decide +kernel
theorem dJ6_bitCount_0f7a4_7 : decode cJ6_bitCount_0f7a4 7 = .ok (.iand, 1) := by decide +kernel
theorem dJ6_bitCount_0f7a4_8 : decode cJ6_bitCount_0f7a4 8 = .ok (.isub, 1) := by decide +kernel
theorem dJ6_bitCount_0f7a4_9 : decode cJ6_bitCount_0f7a4 9 = .ok (.istore_n 0, 1) := by decide +kernel
theorem dJ6_bitCount_0f7a4_10 : decode cJ6_bitCount_0f7a4 10 = .ok (.iload_n 0, 1) := by decide +kernel
theorem dJ6_bitCount_0f7a4_11 : decode cJ6_bitCount_0f7a4 11 = .ok (.ldc_w 266, 3) := by decide +kernel
theorem dJ6_bitCount_0f7a4_14 : decode cJ6_bitCount_0f7a4 14 = .ok (.iand, 1) := by decide +kernel
theorem dJ6_bitCount_0f7a4_15 : decode cJ6_bitCount_0f7a4 15 = .ok (.iload_n 0, 1) := by decide +kernel
theorem dJ6_bitCount_0f7a4_16 : decode cJ6_bitCount_0f7a4 16 = .ok (.iconst 2, 1) := by decide +kernel
theorem dJ6_bitCount_0f7a4_17 : decode cJ6_bitCount_0f7a4 17 = .ok (.iushr, 1) := by decide +kernel
theorem dJ6_bitCount_0f7a4_18 : decode cJ6_bitCount_0f7a4 18 = .ok (.ldc_w 266, 3) := by decide +kernel
theorem dJ6_bitCount_0f7a4_21 : decode cJ6_bitCount_0f7a4 21 = .ok (.iand, 1) := by decide +kernel
theorem dJ6_bitCount_0f7a4_22 : decode cJ6_bitCount_0f7a4 22 = .ok (.iadd, 1) := by decide +kernel
theorem dJ6_bitCount_0f7a4_23 : decode cJ6_bitCount_0f7a4 23 = .ok (.istore_n 0, 1) := by decide +kernel
theorem dJ6_bitCount_0f7a4_24 : decode cJ6_bitCount_0f7a4 24 = .ok (.iload_n 0, 1) := by decide +kernel
theorem dJ6_bitCount_0f7a4_25 : decode cJ6_bitCount_0f7a4 25 = .ok (.iload_n 0, 1) := by decide +kernel
theorem dJ6_bitCount_0f7a4_26 : decode cJ6_bitCount_0f7a4 26 = .ok (.iconst 4, 1) := by decide +kernel
theorem dJ6_bitCount_0f7a4_27 : decode cJ6_bitCount_0f7a4 27 = .ok (.iushr, 1) := by decide +kernel
theorem dJ6_bitCount_0f7a4_28 : decode cJ6_bitCount_0f7a4 28 = .ok (.iadd, 1) := by decide +kernel
theorem dJ6_bitCount_0f7a4_29 : decode cJ6_bitCount_0f7a4 29 = .ok (.ldc_w 267, 3) := by decide +kernel
theorem dJ6_bitCount_0f7a4_32 : decode cJ6_bitCount_0f7a4 32 = .ok (.iand, 1) := by decide +kernel
theorem dJ6_bitCount_0f7a4_33 : decode cJ6_bitCount_0f7a4 33 = .ok (.istore_n 0, 1) := by decide +kernel
theorem dJ6_bitCount_0f7a4_34 : decode cJ6_bitCount_0f7a4 34 = .ok (.iload_n 0, 1) := by decide +kernel
theorem dJ6_bitCount_0f7a4_35 : decode cJ6_bitCount_0f7a4 35 = .ok (.iload_n 0, 1) := by decide +kernel
theorem dJ6_bitCount_0f7a4_36 : decode cJ6_bitCount_0f7a4 36 = .ok (.bipush 8, 2) := by decide +kernel
theorem dJ6_bitCount_0f7a4_38 : decode cJ6_bitCount_0f7a4 38 = .ok (.iushr, 1) := by decide +kernel
theorem dJ6_bitCount_0f7a4_39 : decode cJ6_bitCount_0f7a4 39 = .ok (.iadd, 1) := by decide +kernel
theorem dJ6_bitCount_0f7a4_40 : decode cJ6_bitCount_0f7a4 40 = .ok (.istore_n 0, 1) := by decide +kernel
theorem dJ6_bitCount_0f7a4_41 : decode cJ6_bitCount_0f7a4 41 = .ok (.iload_n 0, 1) := by decide +kernel
theorem dJ6_bitCount_0f7a4_42 : decode cJ6_bitCount_0f7a4 42 = .ok (.iload_n 0, 1) := by decide +kernel
theorem dJ6_bitCount_0f7a4_43 : decode cJ6_bitCount_0f7a4 43 = .ok (.bipush 16, 2) := by decide +kernel
theorem dJ6_bitCount_0f7a4_45 : decode cJ6_bitCount_0f7a4 45 = .ok (.iushr, 1) := by decide +kernel
theorem dJ6_bitCount_0f7a4_46 : decode cJ6_bitCount_0f7a4 46 = .ok (.iadd, 1) := by decide +kernel
theorem dJ6_bitCount_0f7a4_47 : decode cJ6_bitCount_0f7a4 47 = .ok (.istore_n 0, 1) := by decide +kernel
theorem dJ6_bitCount_0f7a4_48 : decode cJ6_bitCount_0f7a4 48 = .ok (.iload_n 0, 1) := by decide +kernel
theorem dJ6_bitCount_0f7a4_49 : decode cJ6_bitCount_0f7a4 49 = .ok (.bipush 63, 2) := by decide +kernel
theorem dJ6_bitCount_0f7a4_51 : decode cJ6_bitCount_0f7a4 51 = .ok (.iand, 1) := by decide +kernel
theorem dJ6_bitCount_0f7a4_52 : decode cJ6_bitCount_0f7a4 52 = .ok (.ireturn, 1) := by decide +kernel
def wpJ6_bitCount_0f7a4 (ln : Nat → Nat) (S : HC) (a0 : Int32) (post : Int32 → HC → Prop) : Prop := lt_ ((a0.toUInt32 >>> ((1 : Int32).toUInt32 &&& Int32.toUInt32 31)).toInt32) fun z1 => lt_ (z1 &&& (1431655765 : Int32)) fun z2 => lt_ (a0 - z2) fun z3 => lt_ (z3 &&& (858993459 : Int32)) fun z4 => lt_ ((z3.toUInt32 >>> ((2 : Int32).toUInt32 &&& Int32.toUInt32 31)).toInt32) fun z5 => lt_ (z5 &&& (858993459 : Int32)) fun z6 => lt_ (z4 + z6) fun z7 => lt_ ((z7.toUInt32 >>> ((4 : Int32).toUInt32 &&& Int32.toUInt32 31)).toInt32) fun z8 => lt_ (z7 + z8) fun z9 => lt_ (z9 &&& (252645135 : Int32)) fun z10 => lt_ ((z10.toUInt32 >>> ((8 : Int32).toUInt32 &&& Int32.toUInt32 31)).toInt32) fun z11 => lt_ (z10 + z11) fun z12 => lt_ ((z12.toUInt32 >>> ((16 : Int32).toUInt32 &&& Int32.toUInt32 31)).toInt32) fun z13 => lt_ (z12 + z13) fun z14 => lt_ (z14 &&& (63 : Int32)) fun z15 => post z15 S
abbrev rmJ6_bitCount_0f7a4 : Room := { frames := 0, cells := 0, slots := 0, locals := 0 }
set_option maxHeartbeats 4000000 in
set_option maxRecDepth 100000 in
theorem ctJ6_bitCount_0f7a4 {l : Launch} {g : GX} {N : Nat} {ln : Nat → Nat} {S : HC} {a0 : Int32} {post : Int32 → HC → Prop} (h : wpJ6_bitCount_0f7a4 ln S a0 post) : Met l yJ6_bitCount_0f7a4 (Cond.code yJ6_bitCount_0f7a4 prog_12_method_49_code 1 (Option.some Jvm.ClassFile.FieldType.int) :: gtbl) rmJ6_bitCount_0f7a4 (va_Pc [.int a0] (AtP g N ln S)) (QI g N ln post) 0 0 (gF g) := by
  refine m_of (by decide) (Nat.le_of_ble_eq_true rfl) ?_
  intro p e s m below meth c ls F hr I hl
  have hl : lv_has ls 1 [(0, .int a0)] := hl
  unfold wpJ6_bitCount_0f7a4 at h
  refine lv_iload_n F.1 F.2.1 dJ6_bitCount_0f7a4_0 rfl (lv_at hl 0 rfl) ?_
  refine lv_iload_n F.1 F.2.1 dJ6_bitCount_0f7a4_1 rfl (lv_at hl 0 rfl) ?_
  refine lv_iconst (v := 1) F.1 F.2.1 dJ6_bitCount_0f7a4_2 (by decide) ?_
  refine r_iushr F dJ6_bitCount_0f7a4_3 h (fun z1 h => ?_)
  refine lv_ldcw F.1 F.2.1 F.2.2.2.1 (F.2.2.2.2 _ tw_579) dJ6_bitCount_0f7a4_4 ?_
  refine r_iand F dJ6_bitCount_0f7a4_7 h (fun z2 h => ?_)
  refine r_isub F dJ6_bitCount_0f7a4_8 h (fun z3 h => ?_)
  refine lv_istore_n (lv' := [(0, .int z3)]) F.1 F.2.1 dJ6_bitCount_0f7a4_9 rfl hl (by decide) rfl (fun ls hl => ?_)
  refine lv_iload_n F.1 F.2.1 dJ6_bitCount_0f7a4_10 rfl (lv_at hl 0 rfl) ?_
  refine lv_ldcw F.1 F.2.1 F.2.2.2.1 (F.2.2.2.2 _ tw_580) dJ6_bitCount_0f7a4_11 ?_
  refine r_iand F dJ6_bitCount_0f7a4_14 h (fun z4 h => ?_)
  refine lv_iload_n F.1 F.2.1 dJ6_bitCount_0f7a4_15 rfl (lv_at hl 0 rfl) ?_
  refine lv_iconst (v := 2) F.1 F.2.1 dJ6_bitCount_0f7a4_16 (by decide) ?_
  refine r_iushr F dJ6_bitCount_0f7a4_17 h (fun z5 h => ?_)
  refine lv_ldcw F.1 F.2.1 F.2.2.2.1 (F.2.2.2.2 _ tw_580) dJ6_bitCount_0f7a4_18 ?_
  refine r_iand F dJ6_bitCount_0f7a4_21 h (fun z6 h => ?_)
  refine r_iadd F dJ6_bitCount_0f7a4_22 h (fun z7 h => ?_)
  refine lv_istore_n (lv' := [(0, .int z7)]) F.1 F.2.1 dJ6_bitCount_0f7a4_23 rfl hl (by decide) rfl (fun ls hl => ?_)
  refine lv_iload_n F.1 F.2.1 dJ6_bitCount_0f7a4_24 rfl (lv_at hl 0 rfl) ?_
  refine lv_iload_n F.1 F.2.1 dJ6_bitCount_0f7a4_25 rfl (lv_at hl 0 rfl) ?_
  refine lv_iconst (v := 4) F.1 F.2.1 dJ6_bitCount_0f7a4_26 (by decide) ?_
  refine r_iushr F dJ6_bitCount_0f7a4_27 h (fun z8 h => ?_)
  refine r_iadd F dJ6_bitCount_0f7a4_28 h (fun z9 h => ?_)
  refine lv_ldcw F.1 F.2.1 F.2.2.2.1 (F.2.2.2.2 _ tw_581) dJ6_bitCount_0f7a4_29 ?_
  refine r_iand F dJ6_bitCount_0f7a4_32 h (fun z10 h => ?_)
  refine lv_istore_n (lv' := [(0, .int z10)]) F.1 F.2.1 dJ6_bitCount_0f7a4_33 rfl hl (by decide) rfl (fun ls hl => ?_)
  refine lv_iload_n F.1 F.2.1 dJ6_bitCount_0f7a4_34 rfl (lv_at hl 0 rfl) ?_
  refine lv_iload_n F.1 F.2.1 dJ6_bitCount_0f7a4_35 rfl (lv_at hl 0 rfl) ?_
  refine lv_bipush (v := 8) F.1 F.2.1 dJ6_bitCount_0f7a4_36 (by decide) ?_
  refine r_iushr F dJ6_bitCount_0f7a4_38 h (fun z11 h => ?_)
  refine r_iadd F dJ6_bitCount_0f7a4_39 h (fun z12 h => ?_)
  refine lv_istore_n (lv' := [(0, .int z12)]) F.1 F.2.1 dJ6_bitCount_0f7a4_40 rfl hl (by decide) rfl (fun ls hl => ?_)
  refine lv_iload_n F.1 F.2.1 dJ6_bitCount_0f7a4_41 rfl (lv_at hl 0 rfl) ?_
  refine lv_iload_n F.1 F.2.1 dJ6_bitCount_0f7a4_42 rfl (lv_at hl 0 rfl) ?_
  refine lv_bipush (v := 16) F.1 F.2.1 dJ6_bitCount_0f7a4_43 (by decide) ?_
  refine r_iushr F dJ6_bitCount_0f7a4_45 h (fun z13 h => ?_)
  refine r_iadd F dJ6_bitCount_0f7a4_46 h (fun z14 h => ?_)
  refine lv_istore_n (lv' := [(0, .int z14)]) F.1 F.2.1 dJ6_bitCount_0f7a4_47 rfl hl (by decide) rfl (fun ls hl => ?_)
  refine lv_iload_n F.1 F.2.1 dJ6_bitCount_0f7a4_48 rfl (lv_at hl 0 rfl) ?_
  refine lv_bipush (v := 63) F.1 F.2.1 dJ6_bitCount_0f7a4_49 (by decide) ?_
  refine r_iand F dJ6_bitCount_0f7a4_51 h (fun z15 h => ?_)
  exact r_ireturn F I ⟨hr.1, hr.2.1, trivial⟩ h dJ6_bitCount_0f7a4_52
end
section
/-! texts that stand below: rows -/
def mthT (own : String) (idx : Nat) (y : MethodName) (bytes : ByteArray) (mL : Nat) (ret : Option FieldType) (n : Nat) : Prop := mthOK own idx y.cls y bytes mL ret n ∧ Cond.instanceMethod y ∈ gtbl ∧ Cond.selects RJ0 y y ∈ gtbl
section RS
variable {p : Program} {l : Launch} {e : Env} {R : Room} {s : State} {m : MethodId} {args : Array Value} {below : List Frame} {meth : Method} {c : Code} {H : Heap} {locs : List Loc} {cells slots : Nat} {Q : State → Prop}
variable {cc : ByteArray} {pc nL : Nat} {ls : Array Slot} {rest : List Value} {own : String}
variable {g : GX} {N : Nat} {ln : Nat → Nat} {S : HC}
variable {y : MethodName} {bytes : ByteArray} {mL idx n ci mc ms : Nat} {ret : Option FieldType} {rm : Room} {Qc : Array Value → State → Outcome → State → Prop} {As st : List Value}
theorem Inv.str (I : Inv g N ln S s H locs) : vk_S 6 strL strB (gK g) (gV g) (gF g) s s.heap := I.2.2.1.2.1.2.1
theorem r_sval (F : CallFix p m c cc nL s args gtbl own) (I : Inv g N ln S s H locs) {i : Nat} (hi : i < 6) (hw : Cond.fieldLink own idx RJ0 "value" "[B" ∈ gtbl) (hdg : decode cc pc = .ok (.getfield idx, 3)) (kk : W p l e R s m args below meth c H locs cells slots Q (F0 m (pc + 3) ls (.ref (gV g i) :: rest))) : W p l e R s m args below meth c H locs cells slots Q (F0 m pc ls (.ref (gK g i) :: rest)) :=
  vk_getf F.1 F.2.1 (I.str.1 i hi).2.2.1 I.S F.2.2.2.1 (F.2.2.2.2 _ hw) (fun _ h => h) hdg kk
theorem r_scod (F : CallFix p m c cc nL s args gtbl own) (I : Inv g N ln S s H locs) {i : Nat} (hi : i < 6) (hw : Cond.fieldLink own idx RJ0 "coder" "B" ∈ gtbl) (hdg : decode cc pc = .ok (.getfield idx, 3)) (kk : W p l e R s m args below meth c H locs cells slots Q (F0 m (pc + 3) ls (.int 0 :: rest))) : W p l e R s m args below meth c H locs cells slots Q (F0 m pc ls (.ref (gK g i) :: rest)) :=
  vk_getf F.1 F.2.1 (I.str.1 i hi).2.1 I.S F.2.2.2.1 (F.2.2.2.2 _ hw) (fun _ h => h) hdg kk
theorem r_sbyt (F : CallFix p m c cc nL s args gtbl own) (I : Inv g N ln S s H locs) {i : Nat} (hi : i < 6) (hdg : decode cc pc = .ok (.baload, 1)) {j : Int32} {K : Int32 → Prop} (h : al_ (strL.getD i 0) j (fun j => (strB.getD i []).getD j 0) K) (kk : ∀ v, K v → W p l e R s m args below meth c H locs cells slots Q (F0 m (pc + 1) ls (.int v :: rest))) : W p l e R s m args below meth c H locs cells slots Q (F0 m pc ls (.int j :: .ref (gV g i) :: rest)) :=
  va_tb F.1 F.2.1 (I.str.1 i hi).2.2.2 I.S h.1 rfl hdg (kk _ h.2)
theorem r_slen (F : CallFix p m c cc nL s args gtbl own) (I : Inv g N ln S s H locs) {i : Nat} (hi : i < 6) (hdg : decode cc pc = .ok (.arraylength, 1)) {K : Int32 → Prop} (h : lt_ (nI (strL.getD i 0)) K) (kk : ∀ v, K v → W p l e R s m args below meth c H locs cells slots Q (F0 m (pc + 1) ls (.int v :: rest))) : W p l e R s m args below meth c H locs cells slots Q (F0 m pc ls (.ref (gV g i) :: rest)) :=
  va_tlen F.1 F.2.1 (I.str.1 i hi).2.2.2 I.S rfl hdg (kk _ h)
theorem run_T (F : CallFix p m c cc nL s args gtbl own) (I : Inv g N ln S s H locs) {i : Nat} (hi : i < 6) (k : mthT own idx y bytes mL ret n) (hM : Met l y (Cond.code y bytes mL ret :: gtbl) rm (va_Pc (.ref (gK g i) :: As) (AtP g N ln S)) Qc mc ms (gF g)) (hrm : rm.cells = mc ∧ rm.slots = ms) (hR : rm.frames + 1 ≤ R.frames ∧ 8 + (mL + 11) + rm.locals ≤ R.locals) (hn : As.length = n) (hsz : ls.size = nL) (hst : st = As.reverse ++ .ref (gK g i) :: rest) (hroom : (rest.map fun v => v.category).sum ≤ 8) (hcs : cells + mc ≤ R.cells ∧ slots + ms ≤ R.slots) (hdg : decode cc pc = .ok (.invokevirtual idx, 3)) :
    va_Run p l e R s m args below meth c H locs cells slots mc ms (F0 m pc ls st) rest (Qc (Value.ref (gK g i) :: As).toArray) (gF g) := by
  obtain ⟨⟨⟨k1, k2, k3⟩, -, k5⟩, k6, k7⟩ := k
  have hts := F.2.2.2.2
  exact va_runV (C := RJ0) F hM ⟨callB_of n hts (good_in k3) rfl hrm.1 hrm.2 (hts _ k2) (hts _ k1) k5 hR, hts _ k6, hts _ k7⟩ ⟨AtP.blind, vk_recv I.str hi I.S, fun U hU hW => ⟨rfl, I.atP hU hW⟩⟩ rfl hn hsz hst (lv_room hroom) hdg hcs
end RS
theorem dJ3_checkIndex_8e157_0 : decode cJ3_checkIndex_8e157 0 = .ok (.iload_n 0, 1) := by decide +kernel
theorem dJ3_checkIndex_8e157_1 : decode cJ3_checkIndex_8e157 1 = .ok (.ifCond .lt 8, 3) := by decide +kernel
theorem dJ3_checkIndex_8e157_4 : decode cJ3_checkIndex_8e157 4 = .ok (.iload_n 0, 1) := by decide +kernel
theorem dJ3_checkIndex_8e157_5 : decode cJ3_checkIndex_8e157 5 = .ok (.iload_n 1, 1) := by decide +kernel
theorem dJ3_checkIndex_8e157_6 : decode cJ3_checkIndex_8e157 6 = .ok (.if_icmp .lt 10, 3) := by decide +kernel
theorem dJ3_checkIndex_8e157_9 : decode cJ3_checkIndex_8e157 9 = .ok (.aload_n 2, 1) := by decide +kernel
theorem dJ3_checkIndex_8e157_10 : decode cJ3_checkIndex_8e157 10 = .ok (.iload_n 0, 1) := by decide +kernel
theorem dJ3_checkIndex_8e157_11 : decode cJ3_checkIndex_8e157 11 = .ok (.iload_n 1, 1) := by decide +kernel
theorem dJ3_checkIndex_8e157_12 : decode cJ3_checkIndex_8e157 12 = .ok (.invokestatic 95, 3) := by decide +kernel
theorem dJ3_checkIndex_8e157_15 : decode cJ3_checkIndex_8e157 15 = .ok (.athrow, 1) := by decide +kernel
theorem dJ3_checkIndex_8e157_16 : decode cJ3_checkIndex_8e157 16 = .ok (.iload_n 0, 1) := by decide +kernel
theorem dJ3_checkIndex_8e157_17 : decode cJ3_checkIndex_8e157 17 = .ok (.ireturn, 1) := by decide +kernel
theorem dJ0_checkIndex_df160_0 : decode cJ0_checkIndex_df160 0 = .ok (.iload_n 0, 1) := by decide +kernel
theorem dJ0_checkIndex_df160_1 : decode cJ0_checkIndex_df160 1 = .ok (.iload_n 1, 1) := by decide +kernel
theorem dJ0_checkIndex_df160_2 : decode cJ0_checkIndex_df160 2 = .ok (.getstatic 1053, 3) := by decide +kernel
theorem dJ0_checkIndex_df160_5 : decode cJ0_checkIndex_df160 5 = .ok (.invokestatic 1059, 3) := by decide +kernel
theorem dJ0_checkIndex_df160_8 : decode cJ0_checkIndex_df160 8 = .ok (.pop, 1) := by decide +kernel
theorem dJ0_checkIndex_df160_9 : decode cJ0_checkIndex_df160 9 = .ok (.return_, 1) := by decide +kernel
def wpJ3_checkIndex (S : HC) (a0 a1 : Int32) (post : Int32 → HC → Prop) : Prop := if a0 < 0 then False else if a0 < a1 then post a0 S else False
abbrev rmJ3_checkIndex : Room := { frames := 0, cells := 0, slots := 0, locals := 0 }
theorem ctJ3_checkIndex {l : Launch} {g : GX} {N : Nat} {ln : Nat → Nat} {S : HC} {a0 a1 : Int32} {post : Int32 → HC → Prop} (v : Value) (hv : v = .null ∨ ∃ t, v = .ref t) (h : wpJ3_checkIndex S a0 a1 post) : Met l yJ3_checkIndex_8e157 (Cond.code yJ3_checkIndex_8e157 prog_18_method_11_code 3 (Option.some Jvm.ClassFile.FieldType.int) :: gtbl) rmJ3_checkIndex (va_Pc [.int a0, .int a1, v] (AtP g N ln S)) (QI g N ln post) 0 0 (gF g) := by
  have hc : v.category = 1 := by rcases hv with rfl | ⟨t, rfl⟩ <;> rfl
  refine m_of (by decide) ?_ ?_
  · rcases hv with rfl | ⟨t, rfl⟩ <;> exact Nat.le_of_ble_eq_true rfl
  intro p e s m below meth c ls F hr I hl
  have hl : lv_has ls 3 [(0, .int a0), (1, .int a1)] := by
    rcases hv with rfl | ⟨t, rfl⟩ <;> exact lv_sub hl [0, 1] rfl
  unfold wpJ3_checkIndex at h
  refine lv_iload_n F.1 F.2.1 dJ3_checkIndex_8e157_0 rfl (lv_at hl 0 rfl) ?_
  refine r_if_lt (tgt := 9) F dJ3_checkIndex_8e157_1 (by decide) h (fun h => h.elim) (fun h => ?_)
  refine lv_iload_n F.1 F.2.1 dJ3_checkIndex_8e157_4 rfl (lv_at hl 0 rfl) ?_
  refine lv_iload_n F.1 F.2.1 dJ3_checkIndex_8e157_5 rfl (lv_at hl 1 rfl) ?_
  refine r_icmp_lt (tgt := 16) F dJ3_checkIndex_8e157_6 (by decide) h (fun h => ?_) (fun h => h.elim)
  refine lv_iload_n F.1 F.2.1 dJ3_checkIndex_8e157_16 rfl (lv_at hl 0 rfl) ?_
  exact r_ireturn F I ⟨hr.1, hr.2.1, trivial⟩ h dJ3_checkIndex_8e157_17
theorem kJ0_1059 : mthS RJ0 1059 yJ3_checkIndex_8e157 prog_18_method_11_code 3 (Option.some Jvm.ClassFile.FieldType.int) 3 := ⟨⟨⟨tw_686, tw_73, tw_688⟩, rfl, by decide +kernel⟩, tw_687⟩
def wpJ0_checkIndex_df160 (ln : Nat → Nat) (S : HC) (a0 a1 : Int32) (post : HC → Prop) : Prop := wpJ3_checkIndex S a0 a1 fun _ S => post S
abbrev rmJ0_checkIndex_df160 : Room := { frames := 1, cells := 0, slots := 0, locals := 22 }
theorem ctJ0_checkIndex_df160 {l : Launch} {g : GX} {N : Nat} {ln : Nat → Nat} {S : HC} {a0 a1 : Int32} {post : HC → Prop} (h : wpJ0_checkIndex_df160 ln S a0 a1 post) : Met l yJ0_checkIndex_df160 (Cond.code yJ0_checkIndex_df160 prog_14_method_155_code 2 (Option.none : Option Jvm.ClassFile.FieldType) :: gtbl) rmJ0_checkIndex_df160 (va_Pc [.int a0, .int a1] (AtP g N ln S)) (QV g N ln post) 0 0 (gF g) := by
  refine m_of (by decide) (Nat.le_of_ble_eq_true rfl) ?_
  intro p e s m below meth c ls F hr I hl
  have hl : lv_has ls 2 [(0, .int a0), (1, .int a1)] := hl
  unfold wpJ0_checkIndex_df160 at h
  have key : ∀ v : Value, (v = .null ∨ ∃ t, v = .ref t) → va_Z "jdk/internal/util/Preconditions" "SIOOBE_FORMATTER" "Ljava/util/function/BiFunction;" v (gF g) s s.heap → W p l e rmJ0_checkIndex_df160 s m ([.int a0, .int a1] : List Value).toArray below meth c s.heap [] 0 0 (MQ below (QV g N ln post) ([.int a0, .int a1] : List Value).toArray s 0 0 (gF g)) (F0 m 0 ls []) := by
    intro v hv hz
    refine lv_iload_n F.1 F.2.1 dJ0_checkIndex_df160_0 rfl (lv_at hl 0 rfl) ?_
    refine lv_iload_n F.1 F.2.1 dJ0_checkIndex_df160_1 rfl (lv_at hl 1 rfl) ?_
    refine va_gets F.1 F.2.1 hz I.S F.2.2.2.1 (F.2.2.2.2 _ tw_684) (fun _ h => h) dJ0_checkIndex_df160_2 ?_
    refine g_I I (run_S (As := [.int a0, .int a1, v]) (rest := []) F I kJ0_1059 (ctJ3_checkIndex v hv h) ⟨rfl, rfl⟩ ⟨Nat.le_of_ble_eq_true rfl, Nat.le_of_ble_eq_true rfl⟩ rfl hl.1 rfl (Nat.le_of_ble_eq_true rfl) ⟨Nat.le_of_ble_eq_true rfl, Nat.le_of_ble_eq_true rfl⟩ dJ0_checkIndex_df160_5) (fun z S H locs I h => ?_)
    refine lv_pop F.1 F.2.1 dJ0_checkIndex_df160_8 rfl ?_
    exact r_vreturn F I ⟨hr.1, hr.2.1, trivial⟩ h dJ0_checkIndex_df160_9
  rcases I.2.2.1.2.1.2.2.2 with hz | ⟨t, hz⟩
  · exact key .null (Or.inl rfl) hz
  · exact key (.ref t) (Or.inr ⟨t, rfl⟩) hz
theorem dJ0_coder_7d493_0 : decode cJ0_coder_7d493 0 = .ok (.getstatic 38, 3) := by decide +kernel
theorem dJ0_coder_7d493_3 : decode cJ0_coder_7d493 3 = .ok (.ifCond .eq 10, 3) := by decide +kernel
theorem dJ0_coder_7d493_6 : decode cJ0_coder_7d493 6 = .ok (.aload_n 0, 1) := by decide +kernel
theorem dJ0_coder_7d493_7 : decode cJ0_coder_7d493 7 = .ok (.getfield 15, 3) := by decide +kernel
theorem dJ0_coder_7d493_10 : decode cJ0_coder_7d493 10 = .ok (.goto 4, 3) := by decide +kernel
theorem dJ0_coder_7d493_13 : decode cJ0_coder_7d493 13 = .ok (.iconst 1, 1) := by decide +kernel
theorem dJ0_coder_7d493_14 : decode cJ0_coder_7d493 14 = .ok (.ireturn, 1) := by decide +kernel
def wpJ0_coder_7d493 (ln : Nat → Nat) (S : HC) (a0 : Nat) (post : Int32 → HC → Prop) : Prop := if (1 : Int32) = 0 then (rb_ .byte (1 : Int32) (post (1 : Int32) S)) else (rb_ .byte (0 : Int32) (post (0 : Int32) S))
abbrev rmJ0_coder_7d493 : Room := { frames := 0, cells := 0, slots := 0, locals := 0 }
set_option maxHeartbeats 4000000 in
set_option maxRecDepth 100000 in
theorem ctJ0_coder_7d493 {l : Launch} {g : GX} {N : Nat} {ln : Nat → Nat} {S : HC} {a0 : Nat} {post : Int32 → HC → Prop} (hs_a0 : a0 < 6) (h : wpJ0_coder_7d493 ln S a0 post) : Met l yJ0_coder_7d493 (Cond.code yJ0_coder_7d493 prog_14_method_152_code 1 (Option.some Jvm.ClassFile.FieldType.byte) :: gtbl) rmJ0_coder_7d493 (va_Pc [.ref (gK g a0)] (AtP g N ln S)) (QI g N ln post) 0 0 (gF g) := by
  refine m_of (by decide) (Nat.le_of_ble_eq_true rfl) ?_
  intro p e s m below meth c ls F hr I hl
  have hl : lv_has ls 1 [(0, .ref (gK g a0))] := hl
  unfold wpJ0_coder_7d493 at h
  refine va_gets F.1 F.2.1 I.2.2.1.2.1.2.2.1 I.S F.2.2.2.1 (F.2.2.2.2 _ tw_668) (fun _ h => h) dJ0_coder_7d493_0 ?_
  refine r_if_eq (tgt := 13) F dJ0_coder_7d493_3 (by decide) h (fun h => ?_) (fun h => ?_)
  · refine lv_iconst (v := 1) F.1 F.2.1 dJ0_coder_7d493_13 (by decide) ?_
    exact r_zreturn F I ⟨hr.1, hr.2.1, trivial⟩ h dJ0_coder_7d493_14
  · refine lv_aload_n F.1 F.2.1 dJ0_coder_7d493_6 rfl (lv_at hl 0 rfl) ?_
    refine r_scod F I hs_a0 tw_1396 dJ0_coder_7d493_7 ?_
    refine lv_goto (tgt := 14) F.1 F.2.1 dJ0_coder_7d493_10 (by decide) ?_
    exact r_zreturn F I ⟨hr.1, hr.2.1, trivial⟩ h dJ0_coder_7d493_14
theorem dJ0_isLatin1_aae02_0 : decode cJ0_isLatin1_aae02 0 = .ok (.getstatic 38, 3) := by decide +kernel
theorem dJ0_isLatin1_aae02_3 : decode cJ0_isLatin1_aae02 3 = .ok (.ifCond .eq 14, 3) := by decide +kernel
theorem dJ0_isLatin1_aae02_6 : decode cJ0_isLatin1_aae02 6 = .ok (.aload_n 0, 1) := by decide +kernel
theorem dJ0_isLatin1_aae02_7 : decode cJ0_isLatin1_aae02 7 = .ok (.getfield 15, 3) := by decide +kernel
theorem dJ0_isLatin1_aae02_10 : decode cJ0_isLatin1_aae02 10 = .ok (.ifCond .ne 7, 3) := by decide +kernel
theorem dJ0_isLatin1_aae02_13 : decode cJ0_isLatin1_aae02 13 = .ok (.iconst 1, 1) := by decide +kernel
theorem dJ0_isLatin1_aae02_14 : decode cJ0_isLatin1_aae02 14 = .ok (.goto 4, 3) := by decide +kernel
theorem dJ0_isLatin1_aae02_17 : decode cJ0_isLatin1_aae02 17 = .ok (.iconst 0, 1) := by decide +kernel
theorem dJ0_isLatin1_aae02_18 : decode cJ0_isLatin1_aae02 18 = .ok (.ireturn, 1) := by decide +kernel
def BJ0_isLatin1_aae02_17 (ln : Nat → Nat) (post : Int32 → HC → Prop) (S : HC)  : Prop := rb_ .boolean (0 : Int32) (post (0 : Int32) S)
def wpJ0_isLatin1_aae02 (ln : Nat → Nat) (S : HC) (a0 : Nat) (post : Int32 → HC → Prop) : Prop := if (1 : Int32) = 0 then (BJ0_isLatin1_aae02_17 ln post S) else (if (0 : Int32) = 0 then (rb_ .boolean (1 : Int32) (post (1 : Int32) S)) else (BJ0_isLatin1_aae02_17 ln post S))
abbrev rmJ0_isLatin1_aae02 : Room := { frames := 0, cells := 0, slots := 0, locals := 0 }
set_option maxHeartbeats 4000000 in
set_option maxRecDepth 100000 in
theorem ctJ0_isLatin1_aae02 {l : Launch} {g : GX} {N : Nat} {ln : Nat → Nat} {S : HC} {a0 : Nat} {post : Int32 → HC → Prop} (hs_a0 : a0 < 6) (h : wpJ0_isLatin1_aae02 ln S a0 post) : Met l yJ0_isLatin1_aae02 (Cond.code yJ0_isLatin1_aae02 prog_14_method_154_code 1 (Option.some Jvm.ClassFile.FieldType.boolean) :: gtbl) rmJ0_isLatin1_aae02 (va_Pc [.ref (gK g a0)] (AtP g N ln S)) (QI g N ln post) 0 0 (gF g) := by
  refine m_of (by decide) (Nat.le_of_ble_eq_true rfl) ?_
  intro p e s m below meth c ls F hr I hl
  have hl : lv_has ls 1 [(0, .ref (gK g a0))] := hl
  unfold wpJ0_isLatin1_aae02 at h
  have hj_17 : ∀ (S : HC) (H : Heap) (locs : List Loc) (ls : Array Slot), BJ0_isLatin1_aae02_17 ln post S  → Inv g N ln S s H locs → lv_has ls 1 [] → W p l e rmJ0_isLatin1_aae02 s m ([.ref (gK g a0)] : List Value).toArray below meth c H locs 0 0 (MQ below (QI g N ln post) ([.ref (gK g a0)] : List Value).toArray s 0 0 (gF g)) (F0 m 17 ls []) := by
    intro S H locs ls h I hl
    unfold BJ0_isLatin1_aae02_17 at h
    refine lv_iconst (v := 0) F.1 F.2.1 dJ0_isLatin1_aae02_17 (by decide) ?_
    exact r_zreturn F I ⟨hr.1, hr.2.1, trivial⟩ h dJ0_isLatin1_aae02_18
  refine va_gets F.1 F.2.1 I.2.2.1.2.1.2.2.1 I.S F.2.2.2.1 (F.2.2.2.2 _ tw_668) (fun _ h => h) dJ0_isLatin1_aae02_0 ?_
  refine r_if_eq (tgt := 17) F dJ0_isLatin1_aae02_3 (by decide) h (fun h => ?_) (fun h => ?_)
  · exact hj_17 S _ _ _   h I (lv_sub hl [] rfl)
  · refine lv_aload_n F.1 F.2.1 dJ0_isLatin1_aae02_6 rfl (lv_at hl 0 rfl) ?_
    refine r_scod F I hs_a0 tw_1396 dJ0_isLatin1_aae02_7 ?_
    refine r_if_ne (tgt := 17) F dJ0_isLatin1_aae02_10 (by decide) h (fun h => ?_) (fun h => ?_)
    · exact hj_17 S _ _ _   h I (lv_sub hl [] rfl)
    · refine lv_iconst (v := 1) F.1 F.2.1 dJ0_isLatin1_aae02_13 (by decide) ?_
      refine lv_goto (tgt := 18) F.1 F.2.1 dJ0_isLatin1_aae02_14 (by decide) ?_
      exact r_zreturn F I ⟨hr.1, hr.2.1, trivial⟩ h dJ0_isLatin1_aae02_18
theorem dJ0_length_8abf5_0 : decode cJ0_length_8abf5 0 = .ok (.aload_n 0, 1) := by decide +kernel
theorem dJ0_length_8abf5_1 : decode cJ0_length_8abf5 1 = .ok (.getfield 9, 3) := by decide +kernel
theorem dJ0_length_8abf5_4 : decode cJ0_length_8abf5 4 = .ok (.arraylength, 1) := by decide +kernel
theorem dJ0_length_8abf5_5 : decode cJ0_length_8abf5 5 = .ok (.aload_n 0, 1) := by decide +kernel
theorem dJ0_length_8abf5_6 : decode cJ0_length_8abf5 6 = .ok (.invokevirtual 335, 3) := by decide +kernel
theorem dJ0_length_8abf5_9 : decode cJ0_length_8abf5 9 = .ok (.ishr, 1) := by decide +kernel
theorem dJ0_length_8abf5_10 : decode cJ0_length_8abf5 10 = .ok (.ireturn, 1) := by decide +kernel
theorem kJ0_335 : mthT RJ0 335 yJ0_coder_7d493 prog_14_method_152_code 1 (Option.some Jvm.ClassFile.FieldType.byte) 0 := ⟨⟨⟨tw_664, tw_71, tw_667⟩, rfl, by decide +kernel⟩, tw_665, tw_666⟩
def wpJ0_length_8abf5 (ln : Nat → Nat) (S : HC) (a0 : Nat) (post : Int32 → HC → Prop) : Prop := lt_ (nI (strL.getD a0 0)) fun z1 => wpJ0_coder_7d493 ln S a0 fun z2 S => lt_ (z1 >>> (z2 &&& 31)) fun z3 => post z3 S
abbrev rmJ0_length_8abf5 : Room := { frames := 1, cells := 0, slots := 0, locals := 20 }
set_option maxHeartbeats 4000000 in
set_option maxRecDepth 100000 in
theorem ctJ0_length_8abf5 {l : Launch} {g : GX} {N : Nat} {ln : Nat → Nat} {S : HC} {a0 : Nat} {post : Int32 → HC → Prop} (hs_a0 : a0 < 6) (h : wpJ0_length_8abf5 ln S a0 post) : Met l yJ0_length_8abf5 (Cond.code yJ0_length_8abf5 prog_14_method_54_code 1 (Option.some Jvm.ClassFile.FieldType.int) :: gtbl) rmJ0_length_8abf5 (va_Pc [.ref (gK g a0)] (AtP g N ln S)) (QI g N ln post) 0 0 (gF g) := by
  refine m_of (by decide) (Nat.le_of_ble_eq_true rfl) ?_
  intro p e s m below meth c ls F hr I hl
  have hl : lv_has ls 1 [(0, .ref (gK g a0))] := hl
  unfold wpJ0_length_8abf5 at h
  refine lv_aload_n F.1 F.2.1 dJ0_length_8abf5_0 rfl (lv_at hl 0 rfl) ?_
  refine r_sval F I hs_a0 tw_1395 dJ0_length_8abf5_1 ?_
  refine r_slen F I hs_a0 dJ0_length_8abf5_4 h (fun z1 h => ?_)
  refine lv_aload_n F.1 F.2.1 dJ0_length_8abf5_5 rfl (lv_at hl 0 rfl) ?_
  refine g_I I (run_T (As := []) (rest := [.int z1]) F I hs_a0 kJ0_335 (ctJ0_coder_7d493 hs_a0 h) ⟨rfl, rfl⟩ ⟨Nat.le_of_ble_eq_true rfl, Nat.le_of_ble_eq_true rfl⟩ rfl hl.1 rfl (Nat.le_of_ble_eq_true rfl) ⟨Nat.le_of_ble_eq_true rfl, Nat.le_of_ble_eq_true rfl⟩ dJ0_length_8abf5_6) (fun z2 S H locs I h => ?_)
  refine r_ishr F dJ0_length_8abf5_9 h (fun z3 h => ?_)
  exact r_ireturn F I ⟨hr.1, hr.2.1, trivial⟩ h dJ0_length_8abf5_10
theorem dJ1_charAt_3b067_0 : decode cJ1_charAt_3b067 0 = .ok (.iload_n 1, 1) := by decide +kernel
theorem dJ1_charAt_3b067_1 : decode cJ1_charAt_3b067 1 = .ok (.aload_n 0, 1) := by decide +kernel
theorem dJ1_charAt_3b067_2 : decode cJ1_charAt_3b067 2 = .ok (.arraylength, 1) := by decide +kernel
theorem dJ1_charAt_3b067_3 : decode cJ1_charAt_3b067 3 = .ok (.invokestatic 9, 3) := by decide +kernel
theorem dJ1_charAt_3b067_6 : decode cJ1_charAt_3b067 6 = .ok (.aload_n 0, 1) := by decide +kernel
theorem dJ1_charAt_3b067_7 : decode cJ1_charAt_3b067 7 = .ok (.iload_n 1, 1) := by decide +kernel
theorem dJ1_charAt_3b067_8 : decode cJ1_charAt_3b067 8 = .ok (.baload, 1) := by decide +kernel
theorem dJ1_charAt_3b067_9 : decode cJ1_charAt_3b067 9 = .ok (.sipush 255, 3) := by decide +kernel
theorem dJ1_charAt_3b067_12 : decode cJ1_charAt_3b067 12 = .ok (.iand, 1) := by decide +kernel
theorem dJ1_charAt_3b067_13 : decode cJ1_charAt_3b067 13 = .ok (.i2c, 1) := by decide +kernel
theorem dJ1_charAt_3b067_14 : decode cJ1_charAt_3b067 14 = .ok (.ireturn, 1) := by decide +kernel
theorem kJ1_9 : mthS RJ1 9 yJ0_checkIndex_df160 prog_14_method_155_code 2 (Option.none : Option Jvm.ClassFile.FieldType) 2 := ⟨⟨⟨tw_681, tw_71, tw_683⟩, rfl, by decide +kernel⟩, tw_682⟩
def wpJ1_charAt_3b067 (ln : Nat → Nat) (S : HC) (a0 : Nat) (a1 : Int32) (post : Int32 → HC → Prop) : Prop := lt_ (nI (strL.getD a0 0)) fun z1 => wpJ0_checkIndex_df160 ln S a1 z1 fun S => al_ (strL.getD a0 0) a1 (fun j => (strB.getD a0 []).getD j 0) fun z2 => lt_ (z2 &&& (255 : Int32)) fun z3 => lt_ ((z3.toUInt32 % 65536).toInt32) fun z4 => rb_ .char z4 (post z4 S)
abbrev rmJ1_charAt_3b067 : Room := { frames := 2, cells := 0, slots := 0, locals := 43 }
set_option maxHeartbeats 4000000 in
set_option maxRecDepth 100000 in
theorem ctJ1_charAt_3b067 {l : Launch} {g : GX} {N : Nat} {ln : Nat → Nat} {S : HC} {a0 : Nat} {a1 : Int32} {post : Int32 → HC → Prop} (hs_a0 : a0 < 6) (h : wpJ1_charAt_3b067 ln S a0 a1 post) : Met l yJ1_charAt_3b067 (Cond.code yJ1_charAt_3b067 prog_15_method_2_code 2 (Option.some Jvm.ClassFile.FieldType.char) :: gtbl) rmJ1_charAt_3b067 (va_Pc [.ref (gV g a0), .int a1] (AtP g N ln S)) (QI g N ln post) 0 0 (gF g) := by
  refine m_of (by decide) (Nat.le_of_ble_eq_true rfl) ?_
  intro p e s m below meth c ls F hr I hl
  have hl : lv_has ls 2 [(0, .ref (gV g a0)), (1, .int a1)] := hl
  unfold wpJ1_charAt_3b067 at h
  refine lv_iload_n F.1 F.2.1 dJ1_charAt_3b067_0 rfl (lv_at hl 1 rfl) ?_
  refine lv_aload_n F.1 F.2.1 dJ1_charAt_3b067_1 rfl (lv_at hl 0 rfl) ?_
  refine r_slen F I hs_a0 dJ1_charAt_3b067_2 h (fun z1 h => ?_)
  refine g_V I (run_S (As := [.int a1, .int z1]) (rest := []) F I kJ1_9 (ctJ0_checkIndex_df160 h) ⟨rfl, rfl⟩ ⟨Nat.le_of_ble_eq_true rfl, Nat.le_of_ble_eq_true rfl⟩ rfl hl.1 rfl (Nat.le_of_ble_eq_true rfl) ⟨Nat.le_of_ble_eq_true rfl, Nat.le_of_ble_eq_true rfl⟩ dJ1_charAt_3b067_3) (fun S H locs I h => ?_)
  refine lv_aload_n F.1 F.2.1 dJ1_charAt_3b067_6 rfl (lv_at hl 0 rfl) ?_
  refine lv_iload_n F.1 F.2.1 dJ1_charAt_3b067_7 rfl (lv_at hl 1 rfl) ?_
  refine r_sbyt F I hs_a0 dJ1_charAt_3b067_8 h (fun z2 h => ?_)
  refine lv_sipush (v := 255) F.1 F.2.1 dJ1_charAt_3b067_9 (by decide) ?_
  refine r_iand F dJ1_charAt_3b067_12 h (fun z3 h => ?_)
  refine r_i2c F dJ1_charAt_3b067_13 h (fun z4 h => ?_)
  exact r_zreturn F I ⟨hr.1, hr.2.1, trivial⟩ h dJ1_charAt_3b067_14
theorem dJ0_charAt_5068e_0 : decode cJ0_charAt_5068e 0 = .ok (.aload_n 0, 1) := by decide +kernel
theorem dJ0_charAt_5068e_1 : decode cJ0_charAt_5068e 1 = .ok (.invokevirtual 492, 3) := by decide +kernel
theorem dJ0_charAt_5068e_4 : decode cJ0_charAt_5068e 4 = .ok (.ifCond .eq 12, 3) := by decide +kernel
theorem dJ0_charAt_5068e_7 : decode cJ0_charAt_5068e 7 = .ok (.aload_n 0, 1) := by decide +kernel
theorem dJ0_charAt_5068e_8 : decode cJ0_charAt_5068e 8 = .ok (.getfield 9, 3) := by decide +kernel
theorem dJ0_charAt_5068e_11 : decode cJ0_charAt_5068e 11 = .ok (.iload_n 1, 1) := by decide +kernel
theorem dJ0_charAt_5068e_12 : decode cJ0_charAt_5068e 12 = .ok (.invokestatic 495, 3) := by decide +kernel
theorem dJ0_charAt_5068e_15 : decode cJ0_charAt_5068e 15 = .ok (.ireturn, 1) := by decide +kernel
theorem dJ0_charAt_5068e_16 : decode cJ0_charAt_5068e 16 = .ok (.aload_n 0, 1) := by decide +kernel
theorem dJ0_charAt_5068e_17 : decode cJ0_charAt_5068e 17 = .ok (.getfield 9, 3) := by decide +kernel
theorem dJ0_charAt_5068e_20 : decode cJ0_charAt_5068e 20 = .ok (.iload_n 1, 1) := by decide +kernel
theorem dJ0_charAt_5068e_21 : decode cJ0_charAt_5068e 21 = .ok (.invokestatic 498, 3) := by decide +kernel
theorem dJ0_charAt_5068e_24 : decode cJ0_charAt_5068e 24 = .ok (.ireturn, 1) := by decide +kernel
theorem kJ0_492 : mthT RJ0 492 yJ0_isLatin1_aae02 prog_14_method_154_code 1 (Option.some Jvm.ClassFile.FieldType.boolean) 0 := ⟨⟨⟨tw_674, tw_71, tw_677⟩, rfl, by decide +kernel⟩, tw_675, tw_676⟩
theorem kJ0_495 : mthS RJ0 495 yJ1_charAt_3b067 prog_15_method_2_code 2 (Option.some Jvm.ClassFile.FieldType.char) 2 := ⟨⟨⟨tw_678, tw_72, tw_680⟩, rfl, by decide +kernel⟩, tw_679⟩
def wpJ0_charAt_5068e (ln : Nat → Nat) (S : HC) (a0 : Nat) (a1 : Int32) (post : Int32 → HC → Prop) : Prop := wpJ0_isLatin1_aae02 ln S a0 fun z1 S => if z1 = 0 then (False) else (wpJ1_charAt_3b067 ln S a0 a1 fun z2 S => rb_ .char z2 (post z2 S))
abbrev rmJ0_charAt_5068e : Room := { frames := 3, cells := 0, slots := 0, locals := 64 }
set_option maxHeartbeats 4000000 in
set_option maxRecDepth 100000 in
theorem ctJ0_charAt_5068e {l : Launch} {g : GX} {N : Nat} {ln : Nat → Nat} {S : HC} {a0 : Nat} {a1 : Int32} {post : Int32 → HC → Prop} (hs_a0 : a0 < 6) (h : wpJ0_charAt_5068e ln S a0 a1 post) : Met l yJ0_charAt_5068e (Cond.code yJ0_charAt_5068e prog_14_method_56_code 2 (Option.some Jvm.ClassFile.FieldType.char) :: gtbl) rmJ0_charAt_5068e (va_Pc [.ref (gK g a0), .int a1] (AtP g N ln S)) (QI g N ln post) 0 0 (gF g) := by
  refine m_of (by decide) (Nat.le_of_ble_eq_true rfl) ?_
  intro p e s m below meth c ls F hr I hl
  have hl : lv_has ls 2 [(0, .ref (gK g a0)), (1, .int a1)] := hl
  unfold wpJ0_charAt_5068e at h
  refine lv_aload_n F.1 F.2.1 dJ0_charAt_5068e_0 rfl (lv_at hl 0 rfl) ?_
  refine g_I I (run_T (As := []) (rest := []) F I hs_a0 kJ0_492 (ctJ0_isLatin1_aae02 hs_a0 h) ⟨rfl, rfl⟩ ⟨Nat.le_of_ble_eq_true rfl, Nat.le_of_ble_eq_true rfl⟩ rfl hl.1 rfl (Nat.le_of_ble_eq_true rfl) ⟨Nat.le_of_ble_eq_true rfl, Nat.le_of_ble_eq_true rfl⟩ dJ0_charAt_5068e_1) (fun z1 S H locs I h => ?_)
  refine r_if_eq (tgt := 16) F dJ0_charAt_5068e_4 (by decide) h (fun h => ?_) (fun h => ?_)
  · exact h.elim
  · refine lv_aload_n F.1 F.2.1 dJ0_charAt_5068e_7 rfl (lv_at hl 0 rfl) ?_
    refine r_sval F I hs_a0 tw_1395 dJ0_charAt_5068e_8 ?_
    refine lv_iload_n F.1 F.2.1 dJ0_charAt_5068e_11 rfl (lv_at hl 1 rfl) ?_
    refine g_I I (run_S (As := [.ref (gV g a0), .int a1]) (rest := []) F I kJ0_495 (ctJ1_charAt_3b067 hs_a0 h) ⟨rfl, rfl⟩ ⟨Nat.le_of_ble_eq_true rfl, Nat.le_of_ble_eq_true rfl⟩ rfl hl.1 rfl (Nat.le_of_ble_eq_true rfl) ⟨Nat.le_of_ble_eq_true rfl, Nat.le_of_ble_eq_true rfl⟩ dJ0_charAt_5068e_12) (fun z2 S H locs I h => ?_)
    exact r_zreturn F I ⟨hr.1, hr.2.1, trivial⟩ h dJ0_charAt_5068e_15
theorem dJ1_canEncode_9a6ad_0 : decode cJ1_canEncode_9a6ad 0 = .ok (.iload_n 0, 1) := by decide +kernel
theorem dJ1_canEncode_9a6ad_1 : decode cJ1_canEncode_9a6ad 1 = .ok (.ifCond .lt 14, 3) := by decide +kernel
theorem dJ1_canEncode_9a6ad_4 : decode cJ1_canEncode_9a6ad 4 = .ok (.iload_n 0, 1) := by decide +kernel
theorem dJ1_canEncode_9a6ad_5 : decode cJ1_canEncode_9a6ad 5 = .ok (.sipush 255, 3) := by decide +kernel
theorem dJ1_canEncode_9a6ad_8 : decode cJ1_canEncode_9a6ad 8 = .ok (.if_icmp .gt 7, 3) := by decide +kernel
theorem dJ1_canEncode_9a6ad_11 : decode cJ1_canEncode_9a6ad 11 = .ok (.iconst 1, 1) := by decide +kernel
theorem dJ1_canEncode_9a6ad_12 : decode cJ1_canEncode_9a6ad 12 = .ok (.goto 4, 3) := by decide +kernel
theorem dJ1_canEncode_9a6ad_15 : decode cJ1_canEncode_9a6ad 15 = .ok (.iconst 0, 1) := by decide +kernel
theorem dJ1_canEncode_9a6ad_16 : decode cJ1_canEncode_9a6ad 16 = .ok (.ireturn, 1) := by decide +kernel
def BJ1_canEncode_9a6ad_15 (ln : Nat → Nat) (post : Int32 → HC → Prop) (S : HC)  : Prop := rb_ .boolean (0 : Int32) (post (0 : Int32) S)
def wpJ1_canEncode_9a6ad (ln : Nat → Nat) (S : HC) (a0 : Int32) (post : Int32 → HC → Prop) : Prop := if a0 < 0 then (BJ1_canEncode_9a6ad_15 ln post S) else (if (255 : Int32) < a0 then (BJ1_canEncode_9a6ad_15 ln post S) else (rb_ .boolean (1 : Int32) (post (1 : Int32) S)))
abbrev rmJ1_canEncode_9a6ad : Room := { frames := 0, cells := 0, slots := 0, locals := 0 }
set_option maxHeartbeats 4000000 in
set_option maxRecDepth 100000 in
theorem ctJ1_canEncode_9a6ad {l : Launch} {g : GX} {N : Nat} {ln : Nat → Nat} {S : HC} {a0 : Int32} {post : Int32 → HC → Prop} (h : wpJ1_canEncode_9a6ad ln S a0 post) : Met l yJ1_canEncode_9a6ad (Cond.code yJ1_canEncode_9a6ad prog_15_method_4_code 1 (Option.some Jvm.ClassFile.FieldType.boolean) :: gtbl) rmJ1_canEncode_9a6ad (va_Pc [.int a0] (AtP g N ln S)) (QI g N ln post) 0 0 (gF g) := by
  refine m_of (by decide) (Nat.le_of_ble_eq_true rfl) ?_
  intro p e s m below meth c ls F hr I hl
  have hl : lv_has ls 1 [(0, .int a0)] := hl
  unfold wpJ1_canEncode_9a6ad at h
  have hj_15 : ∀ (S : HC) (H : Heap) (locs : List Loc) (ls : Array Slot), BJ1_canEncode_9a6ad_15 ln post S  → Inv g N ln S s H locs → lv_has ls 1 [] → W p l e rmJ1_canEncode_9a6ad s m ([.int a0] : List Value).toArray below meth c H locs 0 0 (MQ below (QI g N ln post) ([.int a0] : List Value).toArray s 0 0 (gF g)) (F0 m 15 ls []) := by
    intro S H locs ls h I hl
    unfold BJ1_canEncode_9a6ad_15 at h
    refine lv_iconst (v := 0) F.1 F.2.1 dJ1_canEncode_9a6ad_15 (by decide) ?_
    exact r_zreturn F I ⟨hr.1, hr.2.1, trivial⟩ h dJ1_canEncode_9a6ad_16
  refine lv_iload_n F.1 F.2.1 dJ1_canEncode_9a6ad_0 rfl (lv_at hl 0 rfl) ?_
  refine r_if_lt (tgt := 15) F dJ1_canEncode_9a6ad_1 (by decide) h (fun h => ?_) (fun h => ?_)
  · exact hj_15 S _ _ _   h I (lv_sub hl [] rfl)
  · refine lv_iload_n F.1 F.2.1 dJ1_canEncode_9a6ad_4 rfl (lv_at hl 0 rfl) ?_
    refine lv_sipush (v := 255) F.1 F.2.1 dJ1_canEncode_9a6ad_5 (by decide) ?_
    refine r_icmp_gt (tgt := 15) F dJ1_canEncode_9a6ad_8 (by decide) h (fun h => ?_) (fun h => ?_)
    · exact hj_15 S _ _ _   h I (lv_sub hl [] rfl)
    · refine lv_iconst (v := 1) F.1 F.2.1 dJ1_canEncode_9a6ad_11 (by decide) ?_
      refine lv_goto (tgt := 16) F.1 F.2.1 dJ1_canEncode_9a6ad_12 (by decide) ?_
      exact r_zreturn F I ⟨hr.1, hr.2.1, trivial⟩ h dJ1_canEncode_9a6ad_16
theorem dJ1_indexOfChar_4cfef_0 : decode cJ1_indexOfChar_4cfef 0 = .ok (.iload_n 1, 1) := by decide +kernel
theorem dJ1_indexOfChar_4cfef_1 : decode cJ1_indexOfChar_4cfef 1 = .ok (.i2b, 1) := by decide +kernel
theorem dJ1_indexOfChar_4cfef_2 : decode cJ1_indexOfChar_4cfef 2 = .ok (.istore 4, 2) := by decide +kernel
theorem dJ1_indexOfChar_4cfef_4 : decode cJ1_indexOfChar_4cfef 4 = .ok (.iload_n 2, 1) := by decide +kernel
theorem dJ1_indexOfChar_4cfef_5 : decode cJ1_indexOfChar_4cfef 5 = .ok (.istore 5, 2) := by decide +kernel
theorem dJ1_indexOfChar_4cfef_7 : decode cJ1_indexOfChar_4cfef 7 = .ok (.iload 5, 2) := by decide +kernel
theorem dJ1_indexOfChar_4cfef_9 : decode cJ1_indexOfChar_4cfef 9 = .ok (.iload_n 3, 1) := by decide +kernel
theorem dJ1_indexOfChar_4cfef_10 : decode cJ1_indexOfChar_4cfef 10 = .ok (.if_icmp .ge 21, 3) := by decide +kernel
theorem dJ1_indexOfChar_4cfef_13 : decode cJ1_indexOfChar_4cfef 13 = .ok (.aload_n 0, 1) := by decide +kernel
theorem dJ1_indexOfChar_4cfef_14 : decode cJ1_indexOfChar_4cfef 14 = .ok (.iload 5, 2) := by decide +kernel
theorem dJ1_indexOfChar_4cfef_16 : decode cJ1_indexOfChar_4cfef 16 = .ok (.baload, 1) := by decide +kernel
theorem dJ1_indexOfChar_4cfef_17 : decode cJ1_indexOfChar_4cfef 17 = .ok (.iload 4, 2) := by decide +kernel
theorem dJ1_indexOfChar_4cfef_19 : decode cJ1_indexOfChar_4cfef 19 = .ok (.if_icmp .ne 6, 3) := by decide +kernel
theorem dJ1_indexOfChar_4cfef_22 : decode cJ1_indexOfChar_4cfef 22 = .ok (.iload 5, 2) := by decide +kernel
theorem dJ1_indexOfChar_4cfef_24 : decode cJ1_indexOfChar_4cfef 24 = .ok (.ireturn, 1) := by decide +kernel
theorem dJ1_indexOfChar_4cfef_25 : decode cJ1_indexOfChar_4cfef 25 = .ok (.iinc 5 1, 3) := by decide +kernel
theorem dJ1_indexOfChar_4cfef_28 : decode cJ1_indexOfChar_4cfef 28 = .ok (.goto (-21), 3) := by decide +kernel
theorem dJ1_indexOfChar_4cfef_31 : decode cJ1_indexOfChar_4cfef 31 = .ok (.iconst (-1), 1) := by decide +kernel
theorem dJ1_indexOfChar_4cfef_32 : decode cJ1_indexOfChar_4cfef 32 = .ok (.ireturn, 1) := by decide +kernel
def LJ1_indexOfChar_4cfef_7 (ln : Nat → Nat) (post : Int32 → HC → Prop) : Nat → HC → Nat → Int32 → Int32 → Int32 → Prop
  | 0 => fun _ _ _ _ _ => False
  | n7 + 1 => fun S x0 x3 x4 x5 => if x3 ≤ x5 then (post (-1 : Int32) S) else (al_ (strL.getD x0 0) x5 (fun j => (strB.getD x0 []).getD j 0) fun z1 => if z1 = x4 then (post x5 S) else (lt_ (x5 + (1 : Int32)) fun z2 => (LJ1_indexOfChar_4cfef_7 ln post n7) S x0 x3 x4 z2))
def wpJ1_indexOfChar_4cfef (ln : Nat → Nat) (S : HC) (a0 : Nat) (a1 : Int32) (a2 : Int32) (a3 : Int32) (post : Int32 → HC → Prop) : Prop := lt_ (a1.toInt8.toInt32) fun z3 => ∃ n7, LJ1_indexOfChar_4cfef_7 ln post n7 S a0 a3 z3 a2
abbrev rmJ1_indexOfChar_4cfef : Room := { frames := 0, cells := 0, slots := 0, locals := 0 }
set_option maxHeartbeats 4000000 in
set_option maxRecDepth 100000 in
theorem ctJ1_indexOfChar_4cfef {l : Launch} {g : GX} {N : Nat} {ln : Nat → Nat} {S : HC} {a0 : Nat} {a1 : Int32} {a2 : Int32} {a3 : Int32} {post : Int32 → HC → Prop} (hs_a0 : a0 < 6) (h : wpJ1_indexOfChar_4cfef ln S a0 a1 a2 a3 post) : Met l yJ1_indexOfChar_4cfef (Cond.code yJ1_indexOfChar_4cfef prog_15_method_23_code 6 (Option.some Jvm.ClassFile.FieldType.int) :: gtbl) rmJ1_indexOfChar_4cfef (va_Pc [.ref (gV g a0), .int a1, .int a2, .int a3] (AtP g N ln S)) (QI g N ln post) 0 0 (gF g) := by
  refine m_of (by decide) (Nat.le_of_ble_eq_true rfl) ?_
  intro p e s m below meth c ls F hr I hl
  have hl : lv_has ls 6 [(0, .ref (gV g a0)), (1, .int a1), (2, .int a2), (3, .int a3)] := hl
  unfold wpJ1_indexOfChar_4cfef at h
  have hl_7 : ∀ n7 : Nat, ∀ (S : HC) (H : Heap) (locs : List Loc) (ls : Array Slot) (x0 : Nat) (x3 : Int32) (x4 : Int32) (x5 : Int32), x0 < 6 → LJ1_indexOfChar_4cfef_7 ln post n7 S x0 x3 x4 x5 → Inv g N ln S s H locs → lv_has ls 6 [(0, .ref (gV g x0)), (3, .int x3), (4, .int x4), (5, .int x5)] → W p l e rmJ1_indexOfChar_4cfef s m ([.ref (gV g a0), .int a1, .int a2, .int a3] : List Value).toArray below meth c H locs 0 0 (MQ below (QI g N ln post) ([.ref (gV g a0), .int a1, .int a2, .int a3] : List Value).toArray s 0 0 (gF g)) (F0 m 7 ls []) := by
    intro n7
    induction n7 with
    | zero =>
      intro S H locs ls x0 x3 x4 x5 hs_x0 h I hl
      exact h.elim
    | succ n7 ih =>
      have hk7 := ih
      intro S H locs ls x0 x3 x4 x5 hs_x0 h I hl
      rw [LJ1_indexOfChar_4cfef_7] at h
      refine lv_iload F.1 F.2.1 dJ1_indexOfChar_4cfef_7 (lv_at hl 3 rfl) ?_
      refine lv_iload_n F.1 F.2.1 dJ1_indexOfChar_4cfef_9 rfl (lv_at hl 1 rfl) ?_
      refine r_icmp_ge (tgt := 31) F dJ1_indexOfChar_4cfef_10 (by decide) h (fun h => ?_) (fun h => ?_)
      · refine lv_iconst (v := -1) F.1 F.2.1 dJ1_indexOfChar_4cfef_31 (by decide) ?_
        exact r_ireturn F I ⟨hr.1, hr.2.1, trivial⟩ h dJ1_indexOfChar_4cfef_32
      · refine lv_aload_n F.1 F.2.1 dJ1_indexOfChar_4cfef_13 rfl (lv_at hl 0 rfl) ?_
        refine lv_iload F.1 F.2.1 dJ1_indexOfChar_4cfef_14 (lv_at hl 3 rfl) ?_
        refine r_sbyt F I hs_x0 dJ1_indexOfChar_4cfef_16 h (fun z1 h => ?_)
        refine lv_iload F.1 F.2.1 dJ1_indexOfChar_4cfef_17 (lv_at hl 2 rfl) ?_
        refine r_icmp_ne (tgt := 25) F dJ1_indexOfChar_4cfef_19 (by decide) h (fun h => ?_) (fun h => ?_)
        · obtain ⟨z2, e_z2, h⟩ := lt_x h
          refine lv_iinc (v := z2) (lv' := [(5, .int z2), (0, .ref (gV g x0)), (3, .int x3), (4, .int x4)]) F.1 F.2.1 dJ1_indexOfChar_4cfef_25 hl (k := 3) rfl (by rw [e_z2]; rfl) (by decide) rfl (fun ls hl => ?_)
          refine lv_goto (tgt := 7) F.1 F.2.1 dJ1_indexOfChar_4cfef_28 (by decide) ?_
          exact hk7 S _ _ _ x0 x3 x4 z2 hs_x0 h I (lv_sub hl [1, 2, 3, 0] rfl)
        · refine lv_iload F.1 F.2.1 dJ1_indexOfChar_4cfef_22 (lv_at hl 3 rfl) ?_
          exact r_ireturn F I ⟨hr.1, hr.2.1, trivial⟩ h dJ1_indexOfChar_4cfef_24
  refine lv_iload_n F.1 F.2.1 dJ1_indexOfChar_4cfef_0 rfl (lv_at hl 1 rfl) ?_
  refine r_i2b F dJ1_indexOfChar_4cfef_1 h (fun z3 h => ?_)
  refine lv_istore (lv' := [(4, .int z3), (0, .ref (gV g a0)), (1, .int a1), (2, .int a2), (3, .int a3)]) F.1 F.2.1 dJ1_indexOfChar_4cfef_2 hl (by decide) rfl (fun ls hl => ?_)
  refine lv_iload_n F.1 F.2.1 dJ1_indexOfChar_4cfef_4 rfl (lv_at hl 3 rfl) ?_
  refine lv_istore (lv' := [(5, .int a2), (4, .int z3), (0, .ref (gV g a0)), (1, .int a1), (2, .int a2), (3, .int a3)]) F.1 F.2.1 dJ1_indexOfChar_4cfef_5 hl (by decide) rfl (fun ls hl => ?_)
  obtain ⟨n7, h⟩ := h
  exact hl_7 n7 S _ _ _ a0 a3 z3 a2 hs_a0 h I (lv_sub hl [2, 5, 1, 0] rfl)
theorem dJ1_indexOf_4cfef_0 : decode cJ1_indexOf_4cfef 0 = .ok (.iload_n 1, 1) := by decide +kernel
theorem dJ1_indexOf_4cfef_1 : decode cJ1_indexOf_4cfef 1 = .ok (.invokestatic 88, 3) := by decide +kernel
theorem dJ1_indexOf_4cfef_4 : decode cJ1_indexOf_4cfef 4 = .ok (.ifCond .ne 5, 3) := by decide +kernel
theorem dJ1_indexOf_4cfef_7 : decode cJ1_indexOf_4cfef 7 = .ok (.iconst (-1), 1) := by decide +kernel
theorem dJ1_indexOf_4cfef_8 : decode cJ1_indexOf_4cfef 8 = .ok (.ireturn, 1) := by decide +kernel
theorem dJ1_indexOf_4cfef_9 : decode cJ1_indexOf_4cfef 9 = .ok (.iload_n 2, 1) := by decide +kernel
theorem dJ1_indexOf_4cfef_10 : decode cJ1_indexOf_4cfef 10 = .ok (.iconst 0, 1) := by decide +kernel
theorem dJ1_indexOf_4cfef_11 : decode cJ1_indexOf_4cfef 11 = .ok (.invokestatic 92, 3) := by decide +kernel
theorem dJ1_indexOf_4cfef_14 : decode cJ1_indexOf_4cfef 14 = .ok (.istore_n 2, 1) := by decide +kernel
theorem dJ1_indexOf_4cfef_15 : decode cJ1_indexOf_4cfef 15 = .ok (.iload_n 3, 1) := by decide +kernel
theorem dJ1_indexOf_4cfef_16 : decode cJ1_indexOf_4cfef 16 = .ok (.aload_n 0, 1) := by decide +kernel
theorem dJ1_indexOf_4cfef_17 : decode cJ1_indexOf_4cfef 17 = .ok (.arraylength, 1) := by decide +kernel
theorem dJ1_indexOf_4cfef_18 : decode cJ1_indexOf_4cfef 18 = .ok (.invokestatic 38, 3) := by decide +kernel
theorem dJ1_indexOf_4cfef_21 : decode cJ1_indexOf_4cfef 21 = .ok (.istore_n 3, 1) := by decide +kernel
theorem dJ1_indexOf_4cfef_22 : decode cJ1_indexOf_4cfef 22 = .ok (.iload_n 2, 1) := by decide +kernel
theorem dJ1_indexOf_4cfef_23 : decode cJ1_indexOf_4cfef 23 = .ok (.iload_n 3, 1) := by decide +kernel
theorem dJ1_indexOf_4cfef_24 : decode cJ1_indexOf_4cfef 24 = .ok (.if_icmp .lt 5, 3) := by decide +kernel
theorem dJ1_indexOf_4cfef_27 : decode cJ1_indexOf_4cfef 27 = .ok (.iconst (-1), 1) := by decide +kernel
theorem dJ1_indexOf_4cfef_28 : decode cJ1_indexOf_4cfef 28 = .ok (.ireturn, 1) := by decide +kernel
theorem dJ1_indexOf_4cfef_29 : decode cJ1_indexOf_4cfef 29 = .ok (.aload_n 0, 1) := by decide +kernel
theorem dJ1_indexOf_4cfef_30 : decode cJ1_indexOf_4cfef 30 = .ok (.iload_n 1, 1) := by decide +kernel
theorem dJ1_indexOf_4cfef_31 : decode cJ1_indexOf_4cfef 31 = .ok (.iload_n 2, 1) := by decide +kernel
theorem dJ1_indexOf_4cfef_32 : decode cJ1_indexOf_4cfef 32 = .ok (.iload_n 3, 1) := by decide +kernel
theorem dJ1_indexOf_4cfef_33 : decode cJ1_indexOf_4cfef 33 = .ok (.invokestatic 95, 3) := by decide +kernel
theorem dJ1_indexOf_4cfef_36 : decode cJ1_indexOf_4cfef 36 = .ok (.ireturn, 1) := by decide +kernel
theorem kJ1_88 : mthS RJ1 88 yJ1_canEncode_9a6ad prog_15_method_4_code 1 (Option.some Jvm.ClassFile.FieldType.boolean) 1 := ⟨⟨⟨tw_761, tw_72, tw_763⟩, rfl, by decide +kernel⟩, tw_762⟩
theorem kJ1_95 : mthS RJ1 95 yJ1_indexOfChar_4cfef prog_15_method_23_code 6 (Option.some Jvm.ClassFile.FieldType.int) 4 := ⟨⟨⟨tw_766, tw_72, tw_768⟩, rfl, by decide +kernel⟩, tw_767⟩
def wpJ1_indexOf_4cfef (ln : Nat → Nat) (S : HC) (a0 : Nat) (a1 : Int32) (a2 : Int32) (a3 : Int32) (post : Int32 → HC → Prop) : Prop := wpJ1_canEncode_9a6ad ln S a1 fun z1 S => if z1 = 0 then (post (-1 : Int32) S) else (lt_ (if a2 < (0 : Int32) then (0 : Int32) else a2) fun z2 => lt_ (nI (strL.getD a0 0)) fun z3 => lt_ (if z3 < a3 then z3 else a3) fun z4 => if z2 < z4 then (wpJ1_indexOfChar_4cfef ln S a0 a1 z2 z4 fun z5 S => post z5 S) else (post (-1 : Int32) S))
abbrev rmJ1_indexOf_4cfef : Room := { frames := 1, cells := 0, slots := 0, locals := 25 }
set_option maxHeartbeats 4000000 in
set_option maxRecDepth 100000 in
theorem ctJ1_indexOf_4cfef {l : Launch} {g : GX} {N : Nat} {ln : Nat → Nat} {S : HC} {a0 : Nat} {a1 : Int32} {a2 : Int32} {a3 : Int32} {post : Int32 → HC → Prop} (hs_a0 : a0 < 6) (h : wpJ1_indexOf_4cfef ln S a0 a1 a2 a3 post) : Met l yJ1_indexOf_4cfef (Cond.code yJ1_indexOf_4cfef prog_15_method_22_code 4 (Option.some Jvm.ClassFile.FieldType.int) :: gtbl) rmJ1_indexOf_4cfef (va_Pc [.ref (gV g a0), .int a1, .int a2, .int a3] (AtP g N ln S)) (QI g N ln post) 0 0 (gF g) := by
  refine m_of (by decide) (Nat.le_of_ble_eq_true rfl) ?_
  intro p e s m below meth c ls F hr I hl
  have hl : lv_has ls 4 [(0, .ref (gV g a0)), (1, .int a1), (2, .int a2), (3, .int a3)] := hl
  unfold wpJ1_indexOf_4cfef at h
  refine lv_iload_n F.1 F.2.1 dJ1_indexOf_4cfef_0 rfl (lv_at hl 1 rfl) ?_
  refine g_I I (run_S (As := [.int a1]) (rest := []) F I kJ1_88 (ctJ1_canEncode_9a6ad h) ⟨rfl, rfl⟩ ⟨Nat.le_of_ble_eq_true rfl, Nat.le_of_ble_eq_true rfl⟩ rfl hl.1 rfl (Nat.le_of_ble_eq_true rfl) ⟨Nat.le_of_ble_eq_true rfl, Nat.le_of_ble_eq_true rfl⟩ dJ1_indexOf_4cfef_1) (fun z1 S H locs I h => ?_)
  refine r_if_ne (tgt := 9) F dJ1_indexOf_4cfef_4 (by decide) h (fun h => ?_) (fun h => ?_)
  · refine lv_iload_n F.1 F.2.1 dJ1_indexOf_4cfef_9 rfl (lv_at hl 2 rfl) ?_
    refine lv_iconst (v := 0) F.1 F.2.1 dJ1_indexOf_4cfef_10 (by decide) ?_
    refine r_mmax F hl.1 tw_764 (Nat.le_of_ble_eq_true rfl) (Nat.le_of_ble_eq_true rfl) (Nat.zero_le _) (Nat.zero_le _) dJ1_indexOf_4cfef_11 h (fun z2 h => ?_)
    refine lv_istore_n (lv' := [(2, .int z2), (0, .ref (gV g a0)), (1, .int a1), (3, .int a3)]) F.1 F.2.1 dJ1_indexOf_4cfef_14 rfl hl (by decide) rfl (fun ls hl => ?_)
    refine lv_iload_n F.1 F.2.1 dJ1_indexOf_4cfef_15 rfl (lv_at hl 3 rfl) ?_
    refine lv_aload_n F.1 F.2.1 dJ1_indexOf_4cfef_16 rfl (lv_at hl 1 rfl) ?_
    refine r_slen F I hs_a0 dJ1_indexOf_4cfef_17 h (fun z3 h => ?_)
    refine r_mmin F hl.1 tw_765 (Nat.le_of_ble_eq_true rfl) (Nat.le_of_ble_eq_true rfl) (Nat.zero_le _) (Nat.zero_le _) dJ1_indexOf_4cfef_18 h (fun z4 h => ?_)
    refine lv_istore_n (lv' := [(3, .int z4), (2, .int z2), (0, .ref (gV g a0)), (1, .int a1)]) F.1 F.2.1 dJ1_indexOf_4cfef_21 rfl hl (by decide) rfl (fun ls hl => ?_)
    refine lv_iload_n F.1 F.2.1 dJ1_indexOf_4cfef_22 rfl (lv_at hl 1 rfl) ?_
    refine lv_iload_n F.1 F.2.1 dJ1_indexOf_4cfef_23 rfl (lv_at hl 0 rfl) ?_
    refine r_icmp_lt (tgt := 29) F dJ1_indexOf_4cfef_24 (by decide) h (fun h => ?_) (fun h => ?_)
    · refine lv_aload_n F.1 F.2.1 dJ1_indexOf_4cfef_29 rfl (lv_at hl 2 rfl) ?_
      refine lv_iload_n F.1 F.2.1 dJ1_indexOf_4cfef_30 rfl (lv_at hl 3 rfl) ?_
      refine lv_iload_n F.1 F.2.1 dJ1_indexOf_4cfef_31 rfl (lv_at hl 1 rfl) ?_
      refine lv_iload_n F.1 F.2.1 dJ1_indexOf_4cfef_32 rfl (lv_at hl 0 rfl) ?_
      refine g_I I (run_S (As := [.ref (gV g a0), .int a1, .int z2, .int z4]) (rest := []) F I kJ1_95 (ctJ1_indexOfChar_4cfef hs_a0 h) ⟨rfl, rfl⟩ ⟨Nat.le_of_ble_eq_true rfl, Nat.le_of_ble_eq_true rfl⟩ rfl hl.1 rfl (Nat.le_of_ble_eq_true rfl) ⟨Nat.le_of_ble_eq_true rfl, Nat.le_of_ble_eq_true rfl⟩ dJ1_indexOf_4cfef_33) (fun z5 S H locs I h => ?_)
      exact r_ireturn F I ⟨hr.1, hr.2.1, trivial⟩ h dJ1_indexOf_4cfef_36
    · refine lv_iconst (v := -1) F.1 F.2.1 dJ1_indexOf_4cfef_27 (by decide) ?_
      exact r_ireturn F I ⟨hr.1, hr.2.1, trivial⟩ h dJ1_indexOf_4cfef_28
  · refine lv_iconst (v := -1) F.1 F.2.1 dJ1_indexOf_4cfef_7 (by decide) ?_
    exact r_ireturn F I ⟨hr.1, hr.2.1, trivial⟩ h dJ1_indexOf_4cfef_8
theorem dJ0_indexOf_7cf53_0 : decode cJ0_indexOf_7cf53 0 = .ok (.aload_n 0, 1) := by decide +kernel
theorem dJ0_indexOf_7cf53_1 : decode cJ0_indexOf_7cf53 1 = .ok (.invokevirtual 492, 3) := by decide +kernel
theorem dJ0_indexOf_7cf53_4 : decode cJ0_indexOf_7cf53 4 = .ok (.ifCond .eq 19, 3) := by decide +kernel
theorem dJ0_indexOf_7cf53_7 : decode cJ0_indexOf_7cf53 7 = .ok (.aload_n 0, 1) := by decide +kernel
theorem dJ0_indexOf_7cf53_8 : decode cJ0_indexOf_7cf53 8 = .ok (.getfield 9, 3) := by decide +kernel
theorem dJ0_indexOf_7cf53_11 : decode cJ0_indexOf_7cf53 11 = .ok (.iload_n 1, 1) := by decide +kernel
theorem dJ0_indexOf_7cf53_12 : decode cJ0_indexOf_7cf53 12 = .ok (.iload_n 2, 1) := by decide +kernel
theorem dJ0_indexOf_7cf53_13 : decode cJ0_indexOf_7cf53 13 = .ok (.aload_n 0, 1) := by decide +kernel
theorem dJ0_indexOf_7cf53_14 : decode cJ0_indexOf_7cf53 14 = .ok (.invokevirtual 505, 3) := by decide +kernel
theorem dJ0_indexOf_7cf53_17 : decode cJ0_indexOf_7cf53 17 = .ok (.invokestatic 637, 3) := by decide +kernel
theorem dJ0_indexOf_7cf53_20 : decode cJ0_indexOf_7cf53 20 = .ok (.goto 16, 3) := by decide +kernel
theorem dJ0_indexOf_7cf53_23 : decode cJ0_indexOf_7cf53 23 = .ok (.aload_n 0, 1) := by decide +kernel
theorem dJ0_indexOf_7cf53_24 : decode cJ0_indexOf_7cf53 24 = .ok (.getfield 9, 3) := by decide +kernel
theorem dJ0_indexOf_7cf53_27 : decode cJ0_indexOf_7cf53 27 = .ok (.iload_n 1, 1) := by decide +kernel
theorem dJ0_indexOf_7cf53_28 : decode cJ0_indexOf_7cf53 28 = .ok (.iload_n 2, 1) := by decide +kernel
theorem dJ0_indexOf_7cf53_29 : decode cJ0_indexOf_7cf53 29 = .ok (.aload_n 0, 1) := by decide +kernel
theorem dJ0_indexOf_7cf53_30 : decode cJ0_indexOf_7cf53 30 = .ok (.invokevirtual 505, 3) := by decide +kernel
theorem dJ0_indexOf_7cf53_33 : decode cJ0_indexOf_7cf53 33 = .ok (.invokestatic 640, 3) := by decide +kernel
theorem dJ0_indexOf_7cf53_36 : decode cJ0_indexOf_7cf53 36 = .ok (.ireturn, 1) := by decide +kernel
theorem kJ0_505 : mthT RJ0 505 yJ0_length_8abf5 prog_14_method_54_code 1 (Option.some Jvm.ClassFile.FieldType.int) 0 := ⟨⟨⟨tw_757, tw_71, tw_663⟩, rfl, by decide +kernel⟩, tw_661, tw_662⟩
theorem kJ0_637 : mthS RJ0 637 yJ1_indexOf_4cfef prog_15_method_22_code 4 (Option.some Jvm.ClassFile.FieldType.int) 4 := ⟨⟨⟨tw_758, tw_72, tw_760⟩, rfl, by decide +kernel⟩, tw_759⟩
def wpJ0_indexOf_7cf53 (ln : Nat → Nat) (S : HC) (a0 : Nat) (a1 : Int32) (a2 : Int32) (post : Int32 → HC → Prop) : Prop := wpJ0_isLatin1_aae02 ln S a0 fun z1 S => if z1 = 0 then (False) else (wpJ0_length_8abf5 ln S a0 fun z2 S => wpJ1_indexOf_4cfef ln S a0 a1 a2 z2 fun z3 S => post z3 S)
abbrev rmJ0_indexOf_7cf53 : Room := { frames := 2, cells := 0, slots := 0, locals := 48 }
set_option maxHeartbeats 4000000 in
set_option maxRecDepth 100000 in
theorem ctJ0_indexOf_7cf53 {l : Launch} {g : GX} {N : Nat} {ln : Nat → Nat} {S : HC} {a0 : Nat} {a1 : Int32} {a2 : Int32} {post : Int32 → HC → Prop} (hs_a0 : a0 < 6) (h : wpJ0_indexOf_7cf53 ln S a0 a1 a2 post) : Met l yJ0_indexOf_7cf53 (Cond.code yJ0_indexOf_7cf53 prog_14_method_80_code 3 (Option.some Jvm.ClassFile.FieldType.int) :: gtbl) rmJ0_indexOf_7cf53 (va_Pc [.ref (gK g a0), .int a1, .int a2] (AtP g N ln S)) (QI g N ln post) 0 0 (gF g) := by
  refine m_of (by decide) (Nat.le_of_ble_eq_true rfl) ?_
  intro p e s m below meth c ls F hr I hl
  have hl : lv_has ls 3 [(0, .ref (gK g a0)), (1, .int a1), (2, .int a2)] := hl
  unfold wpJ0_indexOf_7cf53 at h
  refine lv_aload_n F.1 F.2.1 dJ0_indexOf_7cf53_0 rfl (lv_at hl 0 rfl) ?_
  refine g_I I (run_T (As := []) (rest := []) F I hs_a0 kJ0_492 (ctJ0_isLatin1_aae02 hs_a0 h) ⟨rfl, rfl⟩ ⟨Nat.le_of_ble_eq_true rfl, Nat.le_of_ble_eq_true rfl⟩ rfl hl.1 rfl (Nat.le_of_ble_eq_true rfl) ⟨Nat.le_of_ble_eq_true rfl, Nat.le_of_ble_eq_true rfl⟩ dJ0_indexOf_7cf53_1) (fun z1 S H locs I h => ?_)
  refine r_if_eq (tgt := 23) F dJ0_indexOf_7cf53_4 (by decide) h (fun h => ?_) (fun h => ?_)
  · exact h.elim
  · refine lv_aload_n F.1 F.2.1 dJ0_indexOf_7cf53_7 rfl (lv_at hl 0 rfl) ?_
    refine r_sval F I hs_a0 tw_1395 dJ0_indexOf_7cf53_8 ?_
    refine lv_iload_n F.1 F.2.1 dJ0_indexOf_7cf53_11 rfl (lv_at hl 1 rfl) ?_
    refine lv_iload_n F.1 F.2.1 dJ0_indexOf_7cf53_12 rfl (lv_at hl 2 rfl) ?_
    refine lv_aload_n F.1 F.2.1 dJ0_indexOf_7cf53_13 rfl (lv_at hl 0 rfl) ?_
    refine g_I I (run_T (As := []) (rest := [.int a2, .int a1, .ref (gV g a0)]) F I hs_a0 kJ0_505 (ctJ0_length_8abf5 hs_a0 h) ⟨rfl, rfl⟩ ⟨Nat.le_of_ble_eq_true rfl, Nat.le_of_ble_eq_true rfl⟩ rfl hl.1 rfl (Nat.le_of_ble_eq_true rfl) ⟨Nat.le_of_ble_eq_true rfl, Nat.le_of_ble_eq_true rfl⟩ dJ0_indexOf_7cf53_14) (fun z2 S H locs I h => ?_)
    refine g_I I (run_S (As := [.ref (gV g a0), .int a1, .int a2, .int z2]) (rest := []) F I kJ0_637 (ctJ1_indexOf_4cfef hs_a0 h) ⟨rfl, rfl⟩ ⟨Nat.le_of_ble_eq_true rfl, Nat.le_of_ble_eq_true rfl⟩ rfl hl.1 rfl (Nat.le_of_ble_eq_true rfl) ⟨Nat.le_of_ble_eq_true rfl, Nat.le_of_ble_eq_true rfl⟩ dJ0_indexOf_7cf53_17) (fun z3 S H locs I h => ?_)
    refine lv_goto (tgt := 36) F.1 F.2.1 dJ0_indexOf_7cf53_20 (by decide) ?_
    exact r_ireturn F I ⟨hr.1, hr.2.1, trivial⟩ h dJ0_indexOf_7cf53_36
theorem dJ0_indexOf_0f7a4_0 : decode cJ0_indexOf_0f7a4 0 = .ok (.aload_n 0, 1) := by decide +kernel
theorem dJ0_indexOf_0f7a4_1 : decode cJ0_indexOf_0f7a4 1 = .ok (.iload_n 1, 1) := by decide +kernel
theorem dJ0_indexOf_0f7a4_2 : decode cJ0_indexOf_0f7a4 2 = .ok (.iconst 0, 1) := by decide +kernel
theorem dJ0_indexOf_0f7a4_3 : decode cJ0_indexOf_0f7a4 3 = .ok (.invokevirtual 633, 3) := by decide +kernel
theorem dJ0_indexOf_0f7a4_6 : decode cJ0_indexOf_0f7a4 6 = .ok (.ireturn, 1) := by decide +kernel
theorem kJ0_633 : mthT RJ0 633 yJ0_indexOf_7cf53 prog_14_method_80_code 3 (Option.some Jvm.ClassFile.FieldType.int) 2 := ⟨⟨⟨tw_753, tw_71, tw_756⟩, rfl, by decide +kernel⟩, tw_754, tw_755⟩
def wpJ0_indexOf_0f7a4 (ln : Nat → Nat) (S : HC) (a0 : Nat) (a1 : Int32) (post : Int32 → HC → Prop) : Prop := wpJ0_indexOf_7cf53 ln S a0 a1 (0 : Int32) fun z1 S => post z1 S
abbrev rmJ0_indexOf_0f7a4 : Room := { frames := 3, cells := 0, slots := 0, locals := 70 }
set_option maxHeartbeats 4000000 in
set_option maxRecDepth 100000 in
theorem ctJ0_indexOf_0f7a4 {l : Launch} {g : GX} {N : Nat} {ln : Nat → Nat} {S : HC} {a0 : Nat} {a1 : Int32} {post : Int32 → HC → Prop} (hs_a0 : a0 < 6) (h : wpJ0_indexOf_0f7a4 ln S a0 a1 post) : Met l yJ0_indexOf_0f7a4 (Cond.code yJ0_indexOf_0f7a4 prog_14_method_79_code 2 (Option.some Jvm.ClassFile.FieldType.int) :: gtbl) rmJ0_indexOf_0f7a4 (va_Pc [.ref (gK g a0), .int a1] (AtP g N ln S)) (QI g N ln post) 0 0 (gF g) := by
  refine m_of (by decide) (Nat.le_of_ble_eq_true rfl) ?_
  intro p e s m below meth c ls F hr I hl
  have hl : lv_has ls 2 [(0, .ref (gK g a0)), (1, .int a1)] := hl
  unfold wpJ0_indexOf_0f7a4 at h
  refine lv_aload_n F.1 F.2.1 dJ0_indexOf_0f7a4_0 rfl (lv_at hl 0 rfl) ?_
  refine lv_iload_n F.1 F.2.1 dJ0_indexOf_0f7a4_1 rfl (lv_at hl 1 rfl) ?_
  refine lv_iconst (v := 0) F.1 F.2.1 dJ0_indexOf_0f7a4_2 (by decide) ?_
  refine g_I I (run_T (As := [.int a1, .int (0 : Int32)]) (rest := []) F I hs_a0 kJ0_633 (ctJ0_indexOf_7cf53 hs_a0 h) ⟨rfl, rfl⟩ ⟨Nat.le_of_ble_eq_true rfl, Nat.le_of_ble_eq_true rfl⟩ rfl hl.1 rfl (Nat.le_of_ble_eq_true rfl) ⟨Nat.le_of_ble_eq_true rfl, Nat.le_of_ble_eq_true rfl⟩ dJ0_indexOf_0f7a4_3) (fun z1 S H locs I h => ?_)
  exact r_ireturn F I ⟨hr.1, hr.2.1, trivial⟩ h dJ0_indexOf_0f7a4_6
end
section
theorem dX2_sortOf_0 : decode cX2_sortOf 0 = .ok (.iload_n 0, 1) := by decide +kernel
theorem dX2_sortOf_1 : decode cX2_sortOf 1 = .ok (.ifCond .ge 5, 3) := by decide +kernel
theorem dX2_sortOf_4 : decode cX2_sortOf 4 = .ok (.iconst 0, 1) := by decide +kernel
theorem dX2_sortOf_5 : decode cX2_sortOf 5 = .ok (.ireturn, 1) := by decide +kernel
theorem dX2_sortOf_6 : decode cX2_sortOf 6 = .ok (.iload_n 0, 1) := by decide +kernel
theorem dX2_sortOf_7 : decode cX2_sortOf 7 = .ok (.bipush 97, 2) := by decide +kernel
theorem dX2_sortOf_9 : decode cX2_sortOf 9 = .ok (.if_icmp .lt 11, 3) := by decide +kernel
theorem dX2_sortOf_12 : decode cX2_sortOf 12 = .ok (.iload_n 0, 1) := by decide +kernel
theorem dX2_sortOf_13 : decode cX2_sortOf 13 = .ok (.bipush 122, 2) := by decide +kernel
theorem dX2_sortOf_15 : decode cX2_sortOf 15 = .ok (.if_icmp .gt 5, 3) := by decide +kernel
theorem dX2_sortOf_18 : decode cX2_sortOf 18 = .ok (.iconst 1, 1) := by decide +kernel
theorem dX2_sortOf_19 : decode cX2_sortOf 19 = .ok (.ireturn, 1) := by decide +kernel
theorem dX2_sortOf_20 : decode cX2_sortOf 20 = .ok (.iload_n 0, 1) := by decide +kernel
theorem dX2_sortOf_21 : decode cX2_sortOf 21 = .ok (.bipush 48, 2) := by decide +kernel
theorem dX2_sortOf_23 : decode cX2_sortOf 23 = .ok (.if_icmp .lt 13, 3) := by decide +kernel
theorem dX2_sortOf_26 : decode cX2_sortOf 26 = .ok (.iload_n 0, 1) := by decide +kernel
theorem dX2_sortOf_27 : decode cX2_sortOf 27 = .ok (.bipush 57, 2) := by decide +kernel
theorem dX2_sortOf_29 : decode cX2_sortOf 29 = .ok (.if_icmp .gt 7, 3) := by decide +kernel
theorem dX2_sortOf_32 : decode cX2_sortOf 32 = .ok (.iconst 2, 1) := by decide +kernel
theorem dX2_sortOf_33 : decode cX2_sortOf 33 = .ok (.goto 4, 3) := by decide +kernel
theorem dX2_sortOf_36 : decode cX2_sortOf 36 = .ok (.iconst 3, 1) := by decide +kernel
theorem dX2_sortOf_37 : decode cX2_sortOf 37 = .ok (.ireturn, 1) := by decide +kernel
def BX2_sortOf_36 (ln : Nat → Nat) (post : Int32 → HC → Prop) (S : HC)  : Prop := post (3 : Int32) S
def BX2_sortOf_20 (ln : Nat → Nat) (post : Int32 → HC → Prop) (S : HC) (x0 : Int32) : Prop := if x0 < (48 : Int32) then (BX2_sortOf_36 ln post S) else (if (57 : Int32) < x0 then (BX2_sortOf_36 ln post S) else (post (2 : Int32) S))
def wpX2_sortOf (ln : Nat → Nat) (S : HC) (a0 : Int32) (post : Int32 → HC → Prop) : Prop := if 0 ≤ a0 then (if a0 < (97 : Int32) then (BX2_sortOf_20 ln post S a0) else (if (122 : Int32) < a0 then (BX2_sortOf_20 ln post S a0) else (post (1 : Int32) S))) else (post (0 : Int32) S)
abbrev rmX2_sortOf : Room := { frames := 0, cells := 0, slots := 0, locals := 0 }
set_option maxHeartbeats 4000000 in
set_option maxRecDepth 100000 in
theorem ctX2_sortOf {l : Launch} {g : GX} {N : Nat} {ln : Nat → Nat} {S : HC} {a0 : Int32} {post : Int32 → HC → Prop} (h : wpX2_sortOf ln S a0 post) : Met l yX2_sortOf (Cond.code yX2_sortOf prog_4_method_6_code 1 (Option.some Jvm.ClassFile.FieldType.int) :: gtbl) rmX2_sortOf (va_Pc [.int a0] (AtP g N ln S)) (QI g N ln post) 0 0 (gF g) := by
  refine m_of (by decide) (Nat.le_of_ble_eq_true rfl) ?_
  intro p e s m below meth c ls F hr I hl
  have hl : lv_has ls 1 [(0, .int a0)] := hl
  unfold wpX2_sortOf at h
  have hj_36 : ∀ (S : HC) (H : Heap) (locs : List Loc) (ls : Array Slot), BX2_sortOf_36 ln post S  → Inv g N ln S s H locs → lv_has ls 1 [] → W p l e rmX2_sortOf s m ([.int a0] : List Value).toArray below meth c H locs 0 0 (MQ below (QI g N ln post) ([.int a0] : List Value).toArray s 0 0 (gF g)) (F0 m 36 ls []) := by
    intro S H locs ls h I hl
    unfold BX2_sortOf_36 at h
    refine lv_iconst (v := 3) F.1 F.2.1 dX2_sortOf_36 (by decide) ?_
    exact r_ireturn F I ⟨hr.1, hr.2.1, trivial⟩ h dX2_sortOf_37
  have hj_20 : ∀ (S : HC) (H : Heap) (locs : List Loc) (ls : Array Slot) (x0 : Int32), BX2_sortOf_20 ln post S x0 → Inv g N ln S s H locs → lv_has ls 1 [(0, .int x0)] → W p l e rmX2_sortOf s m ([.int a0] : List Value).toArray below meth c H locs 0 0 (MQ below (QI g N ln post) ([.int a0] : List Value).toArray s 0 0 (gF g)) (F0 m 20 ls []) := by
    intro S H locs ls x0 h I hl
    unfold BX2_sortOf_20 at h
    refine lv_iload_n F.1 F.2.1 dX2_sortOf_20 rfl (lv_at hl 0 rfl) ?_
    refine lv_bipush (v := 48) F.1 F.2.1 dX2_sortOf_21 (by decide) ?_
    refine r_icmp_lt (tgt := 36) F dX2_sortOf_23 (by decide) h (fun h => ?_) (fun h => ?_)
    · exact hj_36 S _ _ _   h I (lv_sub hl [] rfl)
    · refine lv_iload_n F.1 F.2.1 dX2_sortOf_26 rfl (lv_at hl 0 rfl) ?_
      refine lv_bipush (v := 57) F.1 F.2.1 dX2_sortOf_27 (by decide) ?_
      refine r_icmp_gt (tgt := 36) F dX2_sortOf_29 (by decide) h (fun h => ?_) (fun h => ?_)
      · exact hj_36 S _ _ _   h I (lv_sub hl [] rfl)
      · refine lv_iconst (v := 2) F.1 F.2.1 dX2_sortOf_32 (by decide) ?_
        refine lv_goto (tgt := 37) F.1 F.2.1 dX2_sortOf_33 (by decide) ?_
        exact r_ireturn F I ⟨hr.1, hr.2.1, trivial⟩ h dX2_sortOf_37
  refine lv_iload_n F.1 F.2.1 dX2_sortOf_0 rfl (lv_at hl 0 rfl) ?_
  refine r_if_ge (tgt := 6) F dX2_sortOf_1 (by decide) h (fun h => ?_) (fun h => ?_)
  · refine lv_iload_n F.1 F.2.1 dX2_sortOf_6 rfl (lv_at hl 0 rfl) ?_
    refine lv_bipush (v := 97) F.1 F.2.1 dX2_sortOf_7 (by decide) ?_
    refine r_icmp_lt (tgt := 20) F dX2_sortOf_9 (by decide) h (fun h => ?_) (fun h => ?_)
    · exact hj_20 S _ _ _ a0  h I (lv_sub hl [0] rfl)
    · refine lv_iload_n F.1 F.2.1 dX2_sortOf_12 rfl (lv_at hl 0 rfl) ?_
      refine lv_bipush (v := 122) F.1 F.2.1 dX2_sortOf_13 (by decide) ?_
      refine r_icmp_gt (tgt := 20) F dX2_sortOf_15 (by decide) h (fun h => ?_) (fun h => ?_)
      · exact hj_20 S _ _ _ a0  h I (lv_sub hl [0] rfl)
      · refine lv_iconst (v := 1) F.1 F.2.1 dX2_sortOf_18 (by decide) ?_
        exact r_ireturn F I ⟨hr.1, hr.2.1, trivial⟩ h dX2_sortOf_19
  · refine lv_iconst (v := 0) F.1 F.2.1 dX2_sortOf_4 (by decide) ?_
    exact r_ireturn F I ⟨hr.1, hr.2.1, trivial⟩ h dX2_sortOf_5
theorem dX2_fail_0 : decode cX2_fail 0 = .ok (.aload_n 0, 1) := by decide +kernel
theorem dX2_fail_1 : decode cX2_fail 1 = .ok (.getfield 47, 3) := by decide +kernel
theorem dX2_fail_4 : decode cX2_fail 4 = .ok (.ifCond .ge 11, 3) := by decide +kernel
theorem dX2_fail_7 : decode cX2_fail 7 = .ok (.aload_n 0, 1) := by decide +kernel
theorem dX2_fail_8 : decode cX2_fail 8 = .ok (.aload_n 0, 1) := by decide +kernel
theorem dX2_fail_9 : decode cX2_fail 9 = .ok (.getfield 22, 3) := by decide +kernel
theorem dX2_fail_12 : decode cX2_fail 12 = .ok (.putfield 47, 3) := by decide +kernel
theorem dX2_fail_15 : decode cX2_fail 15 = .ok (.return_, 1) := by decide +kernel
theorem fX2_47 : fldOK RX2 47 2 10 .int false := ⟨_, _, _, tyX2, ⟨rfl, iX2, by decide, rfl, by decide⟩, tw_209, ⟨tyX2_ok, nmX2⟩, by decide +kernel, rfl, rfl⟩
theorem fX2_22 : fldOK RX2 22 2 2 .int false := ⟨_, _, _, tyX2, ⟨rfl, iX2, by decide, rfl, by decide⟩, tw_201, ⟨tyX2_ok, nmX2⟩, by decide +kernel, rfl, rfl⟩
def wpX2_fail (ln : Nat → Nat) (S : HC) (a0 : Nat) (post : HC → Prop) : Prop := lt_ (hI S a0 10) fun z1 => if 0 ≤ z1 then (post S) else (lt_ (hI S a0 2) fun z2 => lt_ (sI S a0 10 z2) fun S => post S)
abbrev rmX2_fail : Room := { frames := 0, cells := 0, slots := 0, locals := 0 }
set_option maxHeartbeats 4000000 in
set_option maxRecDepth 100000 in
theorem ctX2_fail {l : Launch} {g : GX} {N : Nat} {ln : Nat → Nat} {S : HC} {a0 : Nat} {post : HC → Prop} (hr_a0 : a0 < N) (hk_a0 : kd a0 = 2) (h : wpX2_fail ln S a0 post) : Met l yX2_fail (Cond.code yX2_fail prog_4_method_4_code 1 (Option.none : Option Jvm.ClassFile.FieldType) :: gtbl) rmX2_fail (va_Pc [.ref (gz g + a0)] (AtP g N ln S)) (QV g N ln post) 0 0 (gF g) := by
  refine m_of (by decide) (Nat.le_of_ble_eq_true rfl) ?_
  intro p e s m below meth c ls F hr I hl
  have hl : lv_has ls 1 [(0, .ref (gz g + a0))] := hl
  unfold wpX2_fail at h
  refine lv_aload_n F.1 F.2.1 dX2_fail_0 rfl (lv_at hl 0 rfl) ?_
  refine r_getI F I hr_a0 hk_a0 fX2_47 rfl dX2_fail_1 h (fun z1 h => ?_)
  refine r_if_ge (tgt := 15) F dX2_fail_4 (by decide) h (fun h => ?_) (fun h => ?_)
  · exact r_vreturn F I ⟨hr.1, hr.2.1, trivial⟩ h dX2_fail_15
  · refine lv_aload_n F.1 F.2.1 dX2_fail_7 rfl (lv_at hl 0 rfl) ?_
    refine lv_aload_n F.1 F.2.1 dX2_fail_8 rfl (lv_at hl 0 rfl) ?_
    refine r_getI F I hr_a0 hk_a0 fX2_22 rfl dX2_fail_9 h (fun z2 h => ?_)
    refine r_putI F I hr_a0 hk_a0 fX2_47 rfl (Or.inl rfl) ⟨rfl, rfl⟩ dX2_fail_12 h (fun S H locs I h => ?_)
    exact r_vreturn F I ⟨hr.1, hr.2.1, trivial⟩ h dX2_fail_15
theorem dX2_write_0 : decode cX2_write 0 = .ok (.aload_n 0, 1) := by decide +kernel
theorem dX2_write_1 : decode cX2_write 1 = .ok (.getfield 35, 3) := by decide +kernel
theorem dX2_write_4 : decode cX2_write 4 = .ok (.ifCond .lt 32, 3) := by decide +kernel
theorem dX2_write_7 : decode cX2_write 7 = .ok (.aload_n 0, 1) := by decide +kernel
theorem dX2_write_8 : decode cX2_write 8 = .ok (.getfield 35, 3) := by decide +kernel
theorem dX2_write_11 : decode cX2_write 11 = .ok (.bipush 96, 2) := by decide +kernel
theorem dX2_write_13 : decode cX2_write 13 = .ok (.if_icmp .ge 23, 3) := by decide +kernel
theorem dX2_write_16 : decode cX2_write 16 = .ok (.aload_n 0, 1) := by decide +kernel
theorem dX2_write_17 : decode cX2_write 17 = .ok (.getfield 31, 3) := by decide +kernel
theorem dX2_write_20 : decode cX2_write 20 = .ok (.aload_n 0, 1) := by decide +kernel
theorem dX2_write_21 : decode cX2_write 21 = .ok (.getfield 35, 3) := by decide +kernel
theorem dX2_write_24 : decode cX2_write 24 = .ok (.iload_n 1, 1) := by decide +kernel
theorem dX2_write_25 : decode cX2_write 25 = .ok (.iastore, 1) := by decide +kernel
theorem dX2_write_26 : decode cX2_write 26 = .ok (.aload_n 0, 1) := by decide +kernel
theorem dX2_write_27 : decode cX2_write 27 = .ok (.dup, 1) := by decide +kernel
theorem dX2_write_28 : decode cX2_write 28 = .ok (.getfield 35, 3) := by decide +kernel
theorem dX2_write_31 : decode cX2_write 31 = .ok (.iconst 1, 1) := by decide +kernel
theorem dX2_write_32 : decode cX2_write 32 = .ok (.iadd, 1) := by decide +kernel
theorem dX2_write_33 : decode cX2_write 33 = .ok (.putfield 35, 3) := by decide +kernel
theorem dX2_write_36 : decode cX2_write 36 = .ok (.return_, 1) := by decide +kernel
theorem fX2_35 : fldOK RX2 35 2 6 .int false := ⟨_, _, _, tyX2, ⟨rfl, iX2, by decide, rfl, by decide⟩, tw_205, ⟨tyX2_ok, nmX2⟩, by decide +kernel, rfl, rfl⟩
theorem fX2_31 : fldOK RX2 31 2 5 (.array .int) true := ⟨_, _, _, tyX2, ⟨rfl, iX2, by decide, rfl, by decide⟩, tw_204, ⟨tyX2_ok, nmX2⟩, by decide +kernel, rfl, rfl⟩
def wpX2_write (ln : Nat → Nat) (S : HC) (a0 : Nat) (a1 : Int32) (post : HC → Prop) : Prop := lt_ (hI S a0 6) fun z1 => if z1 < 0 then (post S) else (lt_ (hI S a0 6) fun z2 => if (96 : Int32) ≤ z2 then (post S) else (dn_ (hR S a0 5) fun b3 => lt_ (hI S a0 6) fun z4 => as_ (ln b3) z4 (fun j => sI S b3 j a1) fun S => lt_ (hI S a0 6) fun z5 => lt_ (z5 + (1 : Int32)) fun z6 => lt_ (sI S a0 6 z6) fun S => post S))
abbrev rmX2_write : Room := { frames := 0, cells := 0, slots := 0, locals := 0 }
set_option maxHeartbeats 4000000 in
set_option maxRecDepth 100000 in
theorem ctX2_write {l : Launch} {g : GX} {N : Nat} {ln : Nat → Nat} {S : HC} {a0 : Nat} {a1 : Int32} {post : HC → Prop} (hr_a0 : a0 < N) (hk_a0 : kd a0 = 2) (h : wpX2_write ln S a0 a1 post) : Met l yX2_write (Cond.code yX2_write prog_4_method_17_code 2 (Option.none : Option Jvm.ClassFile.FieldType) :: gtbl) rmX2_write (va_Pc [.ref (gz g + a0), .int a1] (AtP g N ln S)) (QV g N ln post) 0 0 (gF g) := by
  refine m_of (by decide) (Nat.le_of_ble_eq_true rfl) ?_
  intro p e s m below meth c ls F hr I hl
  have hl : lv_has ls 2 [(0, .ref (gz g + a0)), (1, .int a1)] := hl
  unfold wpX2_write at h
  refine lv_aload_n F.1 F.2.1 dX2_write_0 rfl (lv_at hl 0 rfl) ?_
  refine r_getI F I hr_a0 hk_a0 fX2_35 rfl dX2_write_1 h (fun z1 h => ?_)
  refine r_if_lt (tgt := 36) F dX2_write_4 (by decide) h (fun h => ?_) (fun h => ?_)
  · exact r_vreturn F I ⟨hr.1, hr.2.1, trivial⟩ h dX2_write_36
  · refine lv_aload_n F.1 F.2.1 dX2_write_7 rfl (lv_at hl 0 rfl) ?_
    refine r_getI F I hr_a0 hk_a0 fX2_35 rfl dX2_write_8 h (fun z2 h => ?_)
    refine lv_bipush (v := 96) F.1 F.2.1 dX2_write_11 (by decide) ?_
    refine r_icmp_ge (tgt := 36) F dX2_write_13 (by decide) h (fun h => ?_) (fun h => ?_)
    · exact r_vreturn F I ⟨hr.1, hr.2.1, trivial⟩ h dX2_write_36
    · refine lv_aload_n F.1 F.2.1 dX2_write_16 rfl (lv_at hl 0 rfl) ?_
      refine r_getN F I hr_a0 hk_a0 fX2_31 (f := 9) rfl (by decide) dX2_write_17 h (fun b3 hr_b3 hk_b3 h => ?_)
      refine lv_aload_n F.1 F.2.1 dX2_write_20 rfl (lv_at hl 0 rfl) ?_
      refine r_getI F I hr_a0 hk_a0 fX2_35 rfl dX2_write_21 h (fun z4 h => ?_)
      refine lv_iload_n F.1 F.2.1 dX2_write_24 rfl (lv_at hl 1 rfl) ?_
      refine r_ast F I hr_b3 hk_b3 dX2_write_25 h (fun S H locs I h => ?_)
      refine lv_aload_n F.1 F.2.1 dX2_write_26 rfl (lv_at hl 0 rfl) ?_
      refine lv_dup F.1 F.2.1 dX2_write_27 rfl ?_
      refine r_getI F I hr_a0 hk_a0 fX2_35 rfl dX2_write_28 h (fun z5 h => ?_)
      refine lv_iconst (v := 1) F.1 F.2.1 dX2_write_31 (by decide) ?_
      refine r_iadd F dX2_write_32 h (fun z6 h => ?_)
      refine r_putI F I hr_a0 hk_a0 fX2_35 rfl (Or.inl rfl) ⟨rfl, rfl⟩ dX2_write_33 h (fun S H locs I h => ?_)
      exact r_vreturn F I ⟨hr.1, hr.2.1, trivial⟩ h dX2_write_36
theorem dX2_advance_0 : decode cX2_advance 0 = .ok (.aload_n 0, 1) := by decide +kernel
theorem dX2_advance_1 : decode cX2_advance 1 = .ok (.getfield 18, 3) := by decide +kernel
theorem dX2_advance_4 : decode cX2_advance 4 = .ok (.iconst 1, 1) := by decide +kernel
theorem dX2_advance_5 : decode cX2_advance 5 = .ok (.if_icmp .eq 11, 3) := by decide +kernel
theorem dX2_advance_8 : decode cX2_advance 8 = .ok (.aload_n 0, 1) := by decide +kernel
theorem dX2_advance_9 : decode cX2_advance 9 = .ok (.getfield 18, 3) := by decide +kernel
theorem dX2_advance_12 : decode cX2_advance 12 = .ok (.iconst 2, 1) := by decide +kernel
theorem dX2_advance_13 : decode cX2_advance 13 = .ok (.if_icmp .ne 7, 3) := by decide +kernel
theorem dX2_advance_16 : decode cX2_advance 16 = .ok (.iconst 1, 1) := by decide +kernel
theorem dX2_advance_17 : decode cX2_advance 17 = .ok (.goto 4, 3) := by decide +kernel
theorem dX2_advance_20 : decode cX2_advance 20 = .ok (.iconst 0, 1) := by decide +kernel
theorem dX2_advance_21 : decode cX2_advance 21 = .ok (.istore_n 1, 1) := by decide +kernel
theorem dX2_advance_22 : decode cX2_advance 22 = .ok (.aload_n 0, 1) := by decide +kernel
theorem dX2_advance_23 : decode cX2_advance 23 = .ok (.aload_n 0, 1) := by decide +kernel
theorem dX2_advance_24 : decode cX2_advance 24 = .ok (.getfield 25, 3) := by decide +kernel
theorem dX2_advance_27 : decode cX2_advance 27 = .ok (.putfield 22, 3) := by decide +kernel
theorem dX2_advance_30 : decode cX2_advance 30 = .ok (.aload_n 0, 1) := by decide +kernel
theorem dX2_advance_31 : decode cX2_advance 31 = .ok (.getfield 22, 3) := by decide +kernel
theorem dX2_advance_34 : decode cX2_advance 34 = .ok (.aload_n 0, 1) := by decide +kernel
theorem dX2_advance_35 : decode cX2_advance 35 = .ok (.getfield 12, 3) := by decide +kernel
theorem dX2_advance_38 : decode cX2_advance 38 = .ok (.getfield 69, 3) := by decide +kernel
theorem dX2_advance_41 : decode cX2_advance 41 = .ok (.if_icmp .ge 32, 3) := by decide +kernel
theorem dX2_advance_44 : decode cX2_advance 44 = .ok (.aload_n 0, 1) := by decide +kernel
theorem dX2_advance_45 : decode cX2_advance 45 = .ok (.getfield 12, 3) := by decide +kernel
theorem dX2_advance_48 : decode cX2_advance 48 = .ok (.aload_n 0, 1) := by decide +kernel
theorem dX2_advance_49 : decode cX2_advance 49 = .ok (.getfield 22, 3) := by decide +kernel
theorem dX2_advance_52 : decode cX2_advance 52 = .ok (.invokevirtual 72, 3) := by decide +kernel
theorem dX2_advance_55 : decode cX2_advance 55 = .ok (.bipush 32, 2) := by decide +kernel
theorem dX2_advance_57 : decode cX2_advance 57 = .ok (.if_icmp .ne 16, 3) := by decide +kernel
theorem dX2_advance_60 : decode cX2_advance 60 = .ok (.aload_n 0, 1) := by decide +kernel
theorem dX2_advance_61 : decode cX2_advance 61 = .ok (.dup, 1) := by decide +kernel
theorem dX2_advance_62 : decode cX2_advance 62 = .ok (.getfield 22, 3) := by decide +kernel
theorem dX2_advance_65 : decode cX2_advance 65 = .ok (.iconst 1, 1) := by decide +kernel
theorem dX2_advance_66 : decode cX2_advance 66 = .ok (.iadd, 1) := by decide +kernel
theorem dX2_advance_67 : decode cX2_advance 67 = .ok (.putfield 22, 3) := by decide +kernel
theorem dX2_advance_70 : decode cX2_advance 70 = .ok (.goto (-40), 3) := by decide +kernel
theorem dX2_advance_73 : decode cX2_advance 73 = .ok (.aload_n 0, 1) := by decide +kernel
theorem dX2_advance_74 : decode cX2_advance 74 = .ok (.getfield 22, 3) := by decide +kernel
theorem dX2_advance_77 : decode cX2_advance 77 = .ok (.aload_n 0, 1) := by decide +kernel
theorem dX2_advance_78 : decode cX2_advance 78 = .ok (.getfield 25, 3) := by decide +kernel
theorem dX2_advance_81 : decode cX2_advance 81 = .ok (.if_icmp .le 7, 3) := by decide +kernel
theorem dX2_advance_84 : decode cX2_advance 84 = .ok (.iconst 1, 1) := by decide +kernel
theorem dX2_advance_85 : decode cX2_advance 85 = .ok (.goto 4, 3) := by decide +kernel
theorem dX2_advance_88 : decode cX2_advance 88 = .ok (.iconst 0, 1) := by decide +kernel
theorem dX2_advance_89 : decode cX2_advance 89 = .ok (.istore_n 2, 1) := by decide +kernel
theorem dX2_advance_90 : decode cX2_advance 90 = .ok (.aload_n 0, 1) := by decide +kernel
theorem dX2_advance_91 : decode cX2_advance 91 = .ok (.aload_n 0, 1) := by decide +kernel
theorem dX2_advance_92 : decode cX2_advance 92 = .ok (.getfield 12, 3) := by decide +kernel
theorem dX2_advance_95 : decode cX2_advance 95 = .ok (.aload_n 0, 1) := by decide +kernel
theorem dX2_advance_96 : decode cX2_advance 96 = .ok (.getfield 22, 3) := by decide +kernel
theorem dX2_advance_99 : decode cX2_advance 99 = .ok (.invokevirtual 72, 3) := by decide +kernel
theorem dX2_advance_102 : decode cX2_advance 102 = .ok (.invokestatic 76, 3) := by decide +kernel
theorem dX2_advance_105 : decode cX2_advance 105 = .ok (.putfield 18, 3) := by decide +kernel
theorem dX2_advance_108 : decode cX2_advance 108 = .ok (.aload_n 0, 1) := by decide +kernel
theorem dX2_advance_109 : decode cX2_advance 109 = .ok (.aload_n 0, 1) := by decide +kernel
theorem dX2_advance_110 : decode cX2_advance 110 = .ok (.getfield 22, 3) := by decide +kernel
theorem dX2_advance_113 : decode cX2_advance 113 = .ok (.putfield 25, 3) := by decide +kernel
theorem dX2_advance_116 : decode cX2_advance 116 = .ok (.aload_n 0, 1) := by decide +kernel
theorem dX2_advance_117 : decode cX2_advance 117 = .ok (.getfield 18, 3) := by decide +kernel
theorem dX2_advance_120 : decode cX2_advance 120 = .ok (.iconst 3, 1) := by decide +kernel
theorem dX2_advance_121 : decode cX2_advance 121 = .ok (.if_icmp .ne 16, 3) := by decide +kernel
theorem dX2_advance_124 : decode cX2_advance 124 = .ok (.aload_n 0, 1) := by decide +kernel
theorem dX2_advance_125 : decode cX2_advance 125 = .ok (.aload_n 0, 1) := by decide +kernel
theorem dX2_advance_126 : decode cX2_advance 126 = .ok (.getfield 22, 3) := by decide +kernel
theorem dX2_advance_129 : decode cX2_advance 129 = .ok (.iconst 1, 1) := by decide +kernel
theorem dX2_advance_130 : decode cX2_advance 130 = .ok (.iadd, 1) := by decide +kernel
theorem dX2_advance_131 : decode cX2_advance 131 = .ok (.putfield 25, 3) := by decide +kernel
theorem dX2_advance_134 : decode cX2_advance 134 = .ok (.goto 71, 3) := by decide +kernel
theorem dX2_advance_137 : decode cX2_advance 137 = .ok (.aload_n 0, 1) := by decide +kernel
theorem dX2_advance_138 : decode cX2_advance 138 = .ok (.getfield 18, 3) := by decide +kernel
theorem dX2_advance_141 : decode cX2_advance 141 = .ok (.ifCond .eq 64, 3) := by decide +kernel
theorem dX2_advance_144 : decode cX2_advance 144 = .ok (.aload_n 0, 1) := by decide +kernel
theorem dX2_advance_145 : decode cX2_advance 145 = .ok (.getfield 25, 3) := by decide +kernel
theorem dX2_advance_148 : decode cX2_advance 148 = .ok (.aload_n 0, 1) := by decide +kernel
theorem dX2_advance_149 : decode cX2_advance 149 = .ok (.getfield 12, 3) := by decide +kernel
theorem dX2_advance_152 : decode cX2_advance 152 = .ok (.getfield 69, 3) := by decide +kernel
theorem dX2_advance_155 : decode cX2_advance 155 = .ok (.if_icmp .ge 37, 3) := by decide +kernel
theorem dX2_advance_158 : decode cX2_advance 158 = .ok (.aload_n 0, 1) := by decide +kernel
theorem dX2_advance_159 : decode cX2_advance 159 = .ok (.getfield 12, 3) := by decide +kernel
theorem dX2_advance_162 : decode cX2_advance 162 = .ok (.aload_n 0, 1) := by decide +kernel
theorem dX2_advance_163 : decode cX2_advance 163 = .ok (.getfield 25, 3) := by decide +kernel
theorem dX2_advance_166 : decode cX2_advance 166 = .ok (.invokevirtual 72, 3) := by decide +kernel
theorem dX2_advance_169 : decode cX2_advance 169 = .ok (.invokestatic 76, 3) := by decide +kernel
theorem dX2_advance_172 : decode cX2_advance 172 = .ok (.aload_n 0, 1) := by decide +kernel
theorem dX2_advance_173 : decode cX2_advance 173 = .ok (.getfield 18, 3) := by decide +kernel
theorem dX2_advance_176 : decode cX2_advance 176 = .ok (.if_icmp .ne 16, 3) := by decide +kernel
theorem dX2_advance_179 : decode cX2_advance 179 = .ok (.aload_n 0, 1) := by decide +kernel
theorem dX2_advance_180 : decode cX2_advance 180 = .ok (.dup, 1) := by decide +kernel
theorem dX2_advance_181 : decode cX2_advance 181 = .ok (.getfield 25, 3) := by decide +kernel
theorem dX2_advance_184 : decode cX2_advance 184 = .ok (.iconst 1, 1) := by decide +kernel
theorem dX2_advance_185 : decode cX2_advance 185 = .ok (.iadd, 1) := by decide +kernel
theorem dX2_advance_186 : decode cX2_advance 186 = .ok (.putfield 25, 3) := by decide +kernel
theorem dX2_advance_189 : decode cX2_advance 189 = .ok (.goto (-45), 3) := by decide +kernel
theorem dX2_advance_192 : decode cX2_advance 192 = .ok (.iload_n 1, 1) := by decide +kernel
theorem dX2_advance_193 : decode cX2_advance 193 = .ok (.ifCond .eq 12, 3) := by decide +kernel
theorem dX2_advance_196 : decode cX2_advance 196 = .ok (.iload_n 2, 1) := by decide +kernel
theorem dX2_advance_197 : decode cX2_advance 197 = .ok (.ifCond .ne 8, 3) := by decide +kernel
theorem dX2_advance_200 : decode cX2_advance 200 = .ok (.aload_n 0, 1) := by decide +kernel
theorem dX2_advance_201 : decode cX2_advance 201 = .ok (.iconst 4, 1) := by decide +kernel
theorem dX2_advance_202 : decode cX2_advance 202 = .ok (.putfield 18, 3) := by decide +kernel
theorem dX2_advance_205 : decode cX2_advance 205 = .ok (.return_, 1) := by decide +kernel
theorem fX2_18 : fldOK RX2 18 2 1 .int false := ⟨_, _, _, tyX2, ⟨rfl, iX2, by decide, rfl, by decide⟩, tw_200, ⟨tyX2_ok, nmX2⟩, by decide +kernel, rfl, rfl⟩
theorem fX2_25 : fldOK RX2 25 2 3 .int false := ⟨_, _, _, tyX2, ⟨rfl, iX2, by decide, rfl, by decide⟩, tw_202, ⟨tyX2_ok, nmX2⟩, by decide +kernel, rfl, rfl⟩
theorem fX2_12 : fldOK RX2 12 2 0 (.object "LionShield$Tape") true := ⟨_, _, _, tyX2, ⟨rfl, iX2, by decide, rfl, by decide⟩, tw_198, ⟨tyX2_ok, nmX2⟩, by decide +kernel, rfl, rfl⟩
theorem fX2_69 : fldOK RX2 69 6 1 .int false := ⟨_, _, _, tyX6, ⟨rfl, iX6, by decide, rfl, by decide⟩, tw_191, ⟨tyX6_ok, nmX6⟩, by decide +kernel, rfl, rfl⟩
theorem kX2_72 : mthV RX2 72 6 yX6_at prog_8_method_3_code 2 (Option.some Jvm.ClassFile.FieldType.int) 1 := ⟨⟨⟨tw_644, tw_64, tw_647⟩, rfl, by decide +kernel⟩, tw_645, tw_646, rfl⟩
theorem kX2_76 : mthS RX2 76 yX2_sortOf prog_4_method_6_code 1 (Option.some Jvm.ClassFile.FieldType.int) 1 := ⟨⟨⟨tw_648, tw_63, tw_650⟩, rfl, by decide +kernel⟩, tw_649⟩
def BX2_advance_192 (ln : Nat → Nat) (post : HC → Prop) (S : HC) (x0 : Nat) (x1 : Int32) (x2 : Int32) : Prop := if x1 = 0 then (post S) else (if x2 = 0 then (lt_ (sI S x0 1 (4 : Int32)) fun S => post S) else (post S))
def LX2_advance_144 (ln : Nat → Nat) (post : HC → Prop) : Nat → HC → Nat → Int32 → Int32 → Prop
  | 0 => fun _ _ _ _ => False
  | n144 + 1 => fun S x0 x1 x2 => lt_ (hI S x0 3) fun z1 => dn_ (hR S x0 0) fun b2 => lt_ (hI S b2 1) fun z3 => if z3 ≤ z1 then (BX2_advance_192 ln post S x0 x1 x2) else (dn_ (hR S x0 0) fun b4 => lt_ (hI S x0 3) fun z5 => wpX6_at ln S b4 z5 fun z6 S => wpX2_sortOf ln S z6 fun z7 S => lt_ (hI S x0 1) fun z8 => if z7 = z8 then (lt_ (hI S x0 3) fun z9 => lt_ (z9 + (1 : Int32)) fun z10 => lt_ (sI S x0 3 z10) fun S => (LX2_advance_144 ln post n144) S x0 x1 x2) else (BX2_advance_192 ln post S x0 x1 x2))
def BX2_advance_89 (ln : Nat → Nat) (post : HC → Prop) (S : HC) (x0 : Nat) (x1 : Int32) (t0 : Int32) : Prop := dn_ (hR S x0 0) fun b11 => lt_ (hI S x0 2) fun z12 => wpX6_at ln S b11 z12 fun z13 S => wpX2_sortOf ln S z13 fun z14 S => lt_ (sI S x0 1 z14) fun S => lt_ (hI S x0 2) fun z15 => lt_ (sI S x0 3 z15) fun S => lt_ (hI S x0 1) fun z16 => if z16 = (3 : Int32) then (lt_ (hI S x0 2) fun z18 => lt_ (z18 + (1 : Int32)) fun z19 => lt_ (sI S x0 3 z19) fun S => post S) else (lt_ (hI S x0 1) fun z17 => if z17 = 0 then (post S) else (∃ n144, LX2_advance_144 ln post n144 S x0 x1 t0))
def BX2_advance_73 (ln : Nat → Nat) (post : HC → Prop) (S : HC) (x0 : Nat) (x1 : Int32) : Prop := lt_ (hI S x0 2) fun z20 => lt_ (hI S x0 3) fun z21 => if z20 ≤ z21 then (BX2_advance_89 ln post S x0 x1 (0 : Int32)) else (BX2_advance_89 ln post S x0 x1 (1 : Int32))
def LX2_advance_30 (ln : Nat → Nat) (post : HC → Prop) : Nat → HC → Nat → Int32 → Prop
  | 0 => fun _ _ _ => False
  | n30 + 1 => fun S x0 x1 => lt_ (hI S x0 2) fun z22 => dn_ (hR S x0 0) fun b23 => lt_ (hI S b23 1) fun z24 => if z24 ≤ z22 then (BX2_advance_73 ln post S x0 x1) else (dn_ (hR S x0 0) fun b25 => lt_ (hI S x0 2) fun z26 => wpX6_at ln S b25 z26 fun z27 S => if z27 = (32 : Int32) then (lt_ (hI S x0 2) fun z28 => lt_ (z28 + (1 : Int32)) fun z29 => lt_ (sI S x0 2 z29) fun S => (LX2_advance_30 ln post n30) S x0 x1) else (BX2_advance_73 ln post S x0 x1))
def BX2_advance_21 (ln : Nat → Nat) (post : HC → Prop) (S : HC) (x0 : Nat) (t0 : Int32) : Prop := lt_ (hI S x0 3) fun z30 => lt_ (sI S x0 2 z30) fun S => ∃ n30, LX2_advance_30 ln post n30 S x0 t0
def BX2_advance_16 (ln : Nat → Nat) (post : HC → Prop) (S : HC) (x0 : Nat) : Prop := BX2_advance_21 ln post S x0 (1 : Int32)
def wpX2_advance (ln : Nat → Nat) (S : HC) (a0 : Nat) (post : HC → Prop) : Prop := lt_ (hI S a0 1) fun z31 => if z31 = (1 : Int32) then (BX2_advance_16 ln post S a0) else (lt_ (hI S a0 1) fun z32 => if z32 = (2 : Int32) then (BX2_advance_16 ln post S a0) else (BX2_advance_21 ln post S a0 (0 : Int32)))
abbrev rmX2_advance : Room := { frames := 1, cells := 0, slots := 0, locals := 21 }
set_option maxHeartbeats 4000000 in
set_option maxRecDepth 100000 in
theorem ctX2_advance {l : Launch} {g : GX} {N : Nat} {ln : Nat → Nat} {S : HC} {a0 : Nat} {post : HC → Prop} (hr_a0 : a0 < N) (hk_a0 : kd a0 = 2) (h : wpX2_advance ln S a0 post) : Met l yX2_advance (Cond.code yX2_advance prog_4_method_5_code 3 (Option.none : Option Jvm.ClassFile.FieldType) :: gtbl) rmX2_advance (va_Pc [.ref (gz g + a0)] (AtP g N ln S)) (QV g N ln post) 0 0 (gF g) := by
  refine m_of (by decide) (Nat.le_of_ble_eq_true rfl) ?_
  intro p e s m below meth c ls F hr I hl
  have hl : lv_has ls 3 [(0, .ref (gz g + a0))] := hl
  unfold wpX2_advance at h
  have hj_192 : ∀ (S : HC) (H : Heap) (locs : List Loc) (ls : Array Slot) (x0 : Nat) (x1 : Int32) (x2 : Int32), x0 < N → kd x0 = 2 → BX2_advance_192 ln post S x0 x1 x2 → Inv g N ln S s H locs → lv_has ls 3 [(0, .ref (gz g + x0)), (1, .int x1), (2, .int x2)] → W p l e rmX2_advance s m ([.ref (gz g + a0)] : List Value).toArray below meth c H locs 0 0 (MQ below (QV g N ln post) ([.ref (gz g + a0)] : List Value).toArray s 0 0 (gF g)) (F0 m 192 ls []) := by
    intro S H locs ls x0 x1 x2 hr_x0 hk_x0 h I hl
    unfold BX2_advance_192 at h
    refine lv_iload_n F.1 F.2.1 dX2_advance_192 rfl (lv_at hl 1 rfl) ?_
    refine r_if_eq (tgt := 205) F dX2_advance_193 (by decide) h (fun h => ?_) (fun h => ?_)
    · exact r_vreturn F I ⟨hr.1, hr.2.1, trivial⟩ h dX2_advance_205
    · refine lv_iload_n F.1 F.2.1 dX2_advance_196 rfl (lv_at hl 2 rfl) ?_
      refine r_if_ne (tgt := 205) F dX2_advance_197 (by decide) h (fun h => ?_) (fun h => ?_)
      · exact r_vreturn F I ⟨hr.1, hr.2.1, trivial⟩ h dX2_advance_205
      · refine lv_aload_n F.1 F.2.1 dX2_advance_200 rfl (lv_at hl 0 rfl) ?_
        refine lv_iconst (v := 4) F.1 F.2.1 dX2_advance_201 (by decide) ?_
        refine r_putI F I hr_x0 hk_x0 fX2_18 rfl (Or.inl rfl) ⟨rfl, rfl⟩ dX2_advance_202 h (fun S H locs I h => ?_)
        exact r_vreturn F I ⟨hr.1, hr.2.1, trivial⟩ h dX2_advance_205
  have hl_144 : ∀ n144 : Nat, ∀ (S : HC) (H : Heap) (locs : List Loc) (ls : Array Slot) (x0 : Nat) (x1 : Int32) (x2 : Int32), x0 < N → kd x0 = 2 → LX2_advance_144 ln post n144 S x0 x1 x2 → Inv g N ln S s H locs → lv_has ls 3 [(0, .ref (gz g + x0)), (1, .int x1), (2, .int x2)] → W p l e rmX2_advance s m ([.ref (gz g + a0)] : List Value).toArray below meth c H locs 0 0 (MQ below (QV g N ln post) ([.ref (gz g + a0)] : List Value).toArray s 0 0 (gF g)) (F0 m 144 ls []) := by
    intro n144
    induction n144 with
    | zero =>
      intro S H locs ls x0 x1 x2 hr_x0 hk_x0 h I hl
      exact h.elim
    | succ n144 ih =>
      have hk144 := ih
      intro S H locs ls x0 x1 x2 hr_x0 hk_x0 h I hl
      rw [LX2_advance_144] at h
      refine lv_aload_n F.1 F.2.1 dX2_advance_144 rfl (lv_at hl 0 rfl) ?_
      refine r_getI F I hr_x0 hk_x0 fX2_25 rfl dX2_advance_145 h (fun z1 h => ?_)
      refine lv_aload_n F.1 F.2.1 dX2_advance_148 rfl (lv_at hl 0 rfl) ?_
      refine r_getN F I hr_x0 hk_x0 fX2_12 (f := 6) rfl (by decide) dX2_advance_149 h (fun b2 hr_b2 hk_b2 h => ?_)
      refine r_getI F I hr_b2 hk_b2 fX2_69 rfl dX2_advance_152 h (fun z3 h => ?_)
      refine r_icmp_ge (tgt := 192) F dX2_advance_155 (by decide) h (fun h => ?_) (fun h => ?_)
      · exact hj_192 S _ _ _ x0 x1 x2 hr_x0 hk_x0 h I (lv_sub hl [0, 1, 2] rfl)
      · refine lv_aload_n F.1 F.2.1 dX2_advance_158 rfl (lv_at hl 0 rfl) ?_
        refine r_getN F I hr_x0 hk_x0 fX2_12 (f := 6) rfl (by decide) dX2_advance_159 h (fun b4 hr_b4 hk_b4 h => ?_)
        refine lv_aload_n F.1 F.2.1 dX2_advance_162 rfl (lv_at hl 0 rfl) ?_
        refine r_getI F I hr_x0 hk_x0 fX2_25 rfl dX2_advance_163 h (fun z5 h => ?_)
        refine g_I I (run_V (As := [.int z5]) (rest := []) F I hr_b4 hk_b4 (by decide) kX2_72 (ctX6_at hr_b4 hk_b4 h) ⟨rfl, rfl⟩ ⟨Nat.le_of_ble_eq_true rfl, Nat.le_of_ble_eq_true rfl⟩ rfl hl.1 rfl (Nat.le_of_ble_eq_true rfl) ⟨Nat.le_of_ble_eq_true rfl, Nat.le_of_ble_eq_true rfl⟩ dX2_advance_166) (fun z6 S H locs I h => ?_)
        refine g_I I (run_S (As := [.int z6]) (rest := []) F I kX2_76 (ctX2_sortOf h) ⟨rfl, rfl⟩ ⟨Nat.le_of_ble_eq_true rfl, Nat.le_of_ble_eq_true rfl⟩ rfl hl.1 rfl (Nat.le_of_ble_eq_true rfl) ⟨Nat.le_of_ble_eq_true rfl, Nat.le_of_ble_eq_true rfl⟩ dX2_advance_169) (fun z7 S H locs I h => ?_)
        refine lv_aload_n F.1 F.2.1 dX2_advance_172 rfl (lv_at hl 0 rfl) ?_
        refine r_getI F I hr_x0 hk_x0 fX2_18 rfl dX2_advance_173 h (fun z8 h => ?_)
        refine r_icmp_ne (tgt := 192) F dX2_advance_176 (by decide) h (fun h => ?_) (fun h => ?_)
        · exact hj_192 S _ _ _ x0 x1 x2 hr_x0 hk_x0 h I (lv_sub hl [0, 1, 2] rfl)
        · refine lv_aload_n F.1 F.2.1 dX2_advance_179 rfl (lv_at hl 0 rfl) ?_
          refine lv_dup F.1 F.2.1 dX2_advance_180 rfl ?_
          refine r_getI F I hr_x0 hk_x0 fX2_25 rfl dX2_advance_181 h (fun z9 h => ?_)
          refine lv_iconst (v := 1) F.1 F.2.1 dX2_advance_184 (by decide) ?_
          refine r_iadd F dX2_advance_185 h (fun z10 h => ?_)
          refine r_putI F I hr_x0 hk_x0 fX2_25 rfl (Or.inl rfl) ⟨rfl, rfl⟩ dX2_advance_186 h (fun S H locs I h => ?_)
          refine lv_goto (tgt := 144) F.1 F.2.1 dX2_advance_189 (by decide) ?_
          exact hk144 S _ _ _ x0 x1 x2 hr_x0 hk_x0 h I (lv_sub hl [0, 1, 2] rfl)
  have hj_89 : ∀ (S : HC) (H : Heap) (locs : List Loc) (ls : Array Slot) (x0 : Nat) (x1 : Int32) (t0 : Int32), x0 < N → kd x0 = 2 → BX2_advance_89 ln post S x0 x1 t0 → Inv g N ln S s H locs → lv_has ls 3 [(0, .ref (gz g + x0)), (1, .int x1)] → W p l e rmX2_advance s m ([.ref (gz g + a0)] : List Value).toArray below meth c H locs 0 0 (MQ below (QV g N ln post) ([.ref (gz g + a0)] : List Value).toArray s 0 0 (gF g)) (F0 m 89 ls [.int t0]) := by
    intro S H locs ls x0 x1 t0 hr_x0 hk_x0 h I hl
    unfold BX2_advance_89 at h
    refine lv_istore_n (lv' := [(2, .int t0), (0, .ref (gz g + x0)), (1, .int x1)]) F.1 F.2.1 dX2_advance_89 rfl hl (by decide) rfl (fun ls hl => ?_)
    refine lv_aload_n F.1 F.2.1 dX2_advance_90 rfl (lv_at hl 1 rfl) ?_
    refine lv_aload_n F.1 F.2.1 dX2_advance_91 rfl (lv_at hl 1 rfl) ?_
    refine r_getN F I hr_x0 hk_x0 fX2_12 (f := 6) rfl (by decide) dX2_advance_92 h (fun b11 hr_b11 hk_b11 h => ?_)
    refine lv_aload_n F.1 F.2.1 dX2_advance_95 rfl (lv_at hl 1 rfl) ?_
    refine r_getI F I hr_x0 hk_x0 fX2_22 rfl dX2_advance_96 h (fun z12 h => ?_)
    refine g_I I (run_V (As := [.int z12]) (rest := [.ref (gz g + x0)]) F I hr_b11 hk_b11 (by decide) kX2_72 (ctX6_at hr_b11 hk_b11 h) ⟨rfl, rfl⟩ ⟨Nat.le_of_ble_eq_true rfl, Nat.le_of_ble_eq_true rfl⟩ rfl hl.1 rfl (Nat.le_of_ble_eq_true rfl) ⟨Nat.le_of_ble_eq_true rfl, Nat.le_of_ble_eq_true rfl⟩ dX2_advance_99) (fun z13 S H locs I h => ?_)
    refine g_I I (run_S (As := [.int z13]) (rest := [.ref (gz g + x0)]) F I kX2_76 (ctX2_sortOf h) ⟨rfl, rfl⟩ ⟨Nat.le_of_ble_eq_true rfl, Nat.le_of_ble_eq_true rfl⟩ rfl hl.1 rfl (Nat.le_of_ble_eq_true rfl) ⟨Nat.le_of_ble_eq_true rfl, Nat.le_of_ble_eq_true rfl⟩ dX2_advance_102) (fun z14 S H locs I h => ?_)
    refine r_putI F I hr_x0 hk_x0 fX2_18 rfl (Or.inl rfl) ⟨rfl, rfl⟩ dX2_advance_105 h (fun S H locs I h => ?_)
    refine lv_aload_n F.1 F.2.1 dX2_advance_108 rfl (lv_at hl 1 rfl) ?_
    refine lv_aload_n F.1 F.2.1 dX2_advance_109 rfl (lv_at hl 1 rfl) ?_
    refine r_getI F I hr_x0 hk_x0 fX2_22 rfl dX2_advance_110 h (fun z15 h => ?_)
    refine r_putI F I hr_x0 hk_x0 fX2_25 rfl (Or.inl rfl) ⟨rfl, rfl⟩ dX2_advance_113 h (fun S H locs I h => ?_)
    refine lv_aload_n F.1 F.2.1 dX2_advance_116 rfl (lv_at hl 1 rfl) ?_
    refine r_getI F I hr_x0 hk_x0 fX2_18 rfl dX2_advance_117 h (fun z16 h => ?_)
    refine lv_iconst (v := 3) F.1 F.2.1 dX2_advance_120 (by decide) ?_
    refine r_icmp_ne (tgt := 137) F dX2_advance_121 (by decide) h (fun h => ?_) (fun h => ?_)
    · refine lv_aload_n F.1 F.2.1 dX2_advance_137 rfl (lv_at hl 1 rfl) ?_
      refine r_getI F I hr_x0 hk_x0 fX2_18 rfl dX2_advance_138 h (fun z17 h => ?_)
      refine r_if_eq (tgt := 205) F dX2_advance_141 (by decide) h (fun h => ?_) (fun h => ?_)
      · exact r_vreturn F I ⟨hr.1, hr.2.1, trivial⟩ h dX2_advance_205
      · obtain ⟨n144, h⟩ := h
        exact hl_144 n144 S _ _ _ x0 x1 t0 hr_x0 hk_x0 h I (lv_sub hl [1, 2, 0] rfl)
    · refine lv_aload_n F.1 F.2.1 dX2_advance_124 rfl (lv_at hl 1 rfl) ?_
      refine lv_aload_n F.1 F.2.1 dX2_advance_125 rfl (lv_at hl 1 rfl) ?_
      refine r_getI F I hr_x0 hk_x0 fX2_22 rfl dX2_advance_126 h (fun z18 h => ?_)
      refine lv_iconst (v := 1) F.1 F.2.1 dX2_advance_129 (by decide) ?_
      refine r_iadd F dX2_advance_130 h (fun z19 h => ?_)
      refine r_putI F I hr_x0 hk_x0 fX2_25 rfl (Or.inl rfl) ⟨rfl, rfl⟩ dX2_advance_131 h (fun S H locs I h => ?_)
      refine lv_goto (tgt := 205) F.1 F.2.1 dX2_advance_134 (by decide) ?_
      exact r_vreturn F I ⟨hr.1, hr.2.1, trivial⟩ h dX2_advance_205
  have hj_73 : ∀ (S : HC) (H : Heap) (locs : List Loc) (ls : Array Slot) (x0 : Nat) (x1 : Int32), x0 < N → kd x0 = 2 → BX2_advance_73 ln post S x0 x1 → Inv g N ln S s H locs → lv_has ls 3 [(0, .ref (gz g + x0)), (1, .int x1)] → W p l e rmX2_advance s m ([.ref (gz g + a0)] : List Value).toArray below meth c H locs 0 0 (MQ below (QV g N ln post) ([.ref (gz g + a0)] : List Value).toArray s 0 0 (gF g)) (F0 m 73 ls []) := by
    intro S H locs ls x0 x1 hr_x0 hk_x0 h I hl
    unfold BX2_advance_73 at h
    refine lv_aload_n F.1 F.2.1 dX2_advance_73 rfl (lv_at hl 0 rfl) ?_
    refine r_getI F I hr_x0 hk_x0 fX2_22 rfl dX2_advance_74 h (fun z20 h => ?_)
    refine lv_aload_n F.1 F.2.1 dX2_advance_77 rfl (lv_at hl 0 rfl) ?_
    refine r_getI F I hr_x0 hk_x0 fX2_25 rfl dX2_advance_78 h (fun z21 h => ?_)
    refine r_icmp_le (tgt := 88) F dX2_advance_81 (by decide) h (fun h => ?_) (fun h => ?_)
    · refine lv_iconst (v := 0) F.1 F.2.1 dX2_advance_88 (by decide) ?_
      exact hj_89 S _ _ _ x0 x1 (0 : Int32) hr_x0 hk_x0 h I (lv_sub hl [0, 1] rfl)
    · refine lv_iconst (v := 1) F.1 F.2.1 dX2_advance_84 (by decide) ?_
      refine lv_goto (tgt := 89) F.1 F.2.1 dX2_advance_85 (by decide) ?_
      exact hj_89 S _ _ _ x0 x1 (1 : Int32) hr_x0 hk_x0 h I (lv_sub hl [0, 1] rfl)
  have hl_30 : ∀ n30 : Nat, ∀ (S : HC) (H : Heap) (locs : List Loc) (ls : Array Slot) (x0 : Nat) (x1 : Int32), x0 < N → kd x0 = 2 → LX2_advance_30 ln post n30 S x0 x1 → Inv g N ln S s H locs → lv_has ls 3 [(0, .ref (gz g + x0)), (1, .int x1)] → W p l e rmX2_advance s m ([.ref (gz g + a0)] : List Value).toArray below meth c H locs 0 0 (MQ below (QV g N ln post) ([.ref (gz g + a0)] : List Value).toArray s 0 0 (gF g)) (F0 m 30 ls []) := by
    intro n30
    induction n30 with
    | zero =>
      intro S H locs ls x0 x1 hr_x0 hk_x0 h I hl
      exact h.elim
    | succ n30 ih =>
      have hk30 := ih
      intro S H locs ls x0 x1 hr_x0 hk_x0 h I hl
      rw [LX2_advance_30] at h
      refine lv_aload_n F.1 F.2.1 dX2_advance_30 rfl (lv_at hl 0 rfl) ?_
      refine r_getI F I hr_x0 hk_x0 fX2_22 rfl dX2_advance_31 h (fun z22 h => ?_)
      refine lv_aload_n F.1 F.2.1 dX2_advance_34 rfl (lv_at hl 0 rfl) ?_
      refine r_getN F I hr_x0 hk_x0 fX2_12 (f := 6) rfl (by decide) dX2_advance_35 h (fun b23 hr_b23 hk_b23 h => ?_)
      refine r_getI F I hr_b23 hk_b23 fX2_69 rfl dX2_advance_38 h (fun z24 h => ?_)
      refine r_icmp_ge (tgt := 73) F dX2_advance_41 (by decide) h (fun h => ?_) (fun h => ?_)
      · exact hj_73 S _ _ _ x0 x1 hr_x0 hk_x0 h I (lv_sub hl [0, 1] rfl)
      · refine lv_aload_n F.1 F.2.1 dX2_advance_44 rfl (lv_at hl 0 rfl) ?_
        refine r_getN F I hr_x0 hk_x0 fX2_12 (f := 6) rfl (by decide) dX2_advance_45 h (fun b25 hr_b25 hk_b25 h => ?_)
        refine lv_aload_n F.1 F.2.1 dX2_advance_48 rfl (lv_at hl 0 rfl) ?_
        refine r_getI F I hr_x0 hk_x0 fX2_22 rfl dX2_advance_49 h (fun z26 h => ?_)
        refine g_I I (run_V (As := [.int z26]) (rest := []) F I hr_b25 hk_b25 (by decide) kX2_72 (ctX6_at hr_b25 hk_b25 h) ⟨rfl, rfl⟩ ⟨Nat.le_of_ble_eq_true rfl, Nat.le_of_ble_eq_true rfl⟩ rfl hl.1 rfl (Nat.le_of_ble_eq_true rfl) ⟨Nat.le_of_ble_eq_true rfl, Nat.le_of_ble_eq_true rfl⟩ dX2_advance_52) (fun z27 S H locs I h => ?_)
        refine lv_bipush (v := 32) F.1 F.2.1 dX2_advance_55 (by decide) ?_
        refine r_icmp_ne (tgt := 73) F dX2_advance_57 (by decide) h (fun h => ?_) (fun h => ?_)
        · exact hj_73 S _ _ _ x0 x1 hr_x0 hk_x0 h I (lv_sub hl [0, 1] rfl)
        · refine lv_aload_n F.1 F.2.1 dX2_advance_60 rfl (lv_at hl 0 rfl) ?_
          refine lv_dup F.1 F.2.1 dX2_advance_61 rfl ?_
          refine r_getI F I hr_x0 hk_x0 fX2_22 rfl dX2_advance_62 h (fun z28 h => ?_)
          refine lv_iconst (v := 1) F.1 F.2.1 dX2_advance_65 (by decide) ?_
          refine r_iadd F dX2_advance_66 h (fun z29 h => ?_)
          refine r_putI F I hr_x0 hk_x0 fX2_22 rfl (Or.inl rfl) ⟨rfl, rfl⟩ dX2_advance_67 h (fun S H locs I h => ?_)
          refine lv_goto (tgt := 30) F.1 F.2.1 dX2_advance_70 (by decide) ?_
          exact hk30 S _ _ _ x0 x1 hr_x0 hk_x0 h I (lv_sub hl [0, 1] rfl)
  have hj_21 : ∀ (S : HC) (H : Heap) (locs : List Loc) (ls : Array Slot) (x0 : Nat) (t0 : Int32), x0 < N → kd x0 = 2 → BX2_advance_21 ln post S x0 t0 → Inv g N ln S s H locs → lv_has ls 3 [(0, .ref (gz g + x0))] → W p l e rmX2_advance s m ([.ref (gz g + a0)] : List Value).toArray below meth c H locs 0 0 (MQ below (QV g N ln post) ([.ref (gz g + a0)] : List Value).toArray s 0 0 (gF g)) (F0 m 21 ls [.int t0]) := by
    intro S H locs ls x0 t0 hr_x0 hk_x0 h I hl
    unfold BX2_advance_21 at h
    refine lv_istore_n (lv' := [(1, .int t0), (0, .ref (gz g + x0))]) F.1 F.2.1 dX2_advance_21 rfl hl (by decide) rfl (fun ls hl => ?_)
    refine lv_aload_n F.1 F.2.1 dX2_advance_22 rfl (lv_at hl 1 rfl) ?_
    refine lv_aload_n F.1 F.2.1 dX2_advance_23 rfl (lv_at hl 1 rfl) ?_
    refine r_getI F I hr_x0 hk_x0 fX2_25 rfl dX2_advance_24 h (fun z30 h => ?_)
    refine r_putI F I hr_x0 hk_x0 fX2_22 rfl (Or.inl rfl) ⟨rfl, rfl⟩ dX2_advance_27 h (fun S H locs I h => ?_)
    obtain ⟨n30, h⟩ := h
    exact hl_30 n30 S _ _ _ x0 t0 hr_x0 hk_x0 h I (lv_sub hl [1, 0] rfl)
  have hj_16 : ∀ (S : HC) (H : Heap) (locs : List Loc) (ls : Array Slot) (x0 : Nat), x0 < N → kd x0 = 2 → BX2_advance_16 ln post S x0 → Inv g N ln S s H locs → lv_has ls 3 [(0, .ref (gz g + x0))] → W p l e rmX2_advance s m ([.ref (gz g + a0)] : List Value).toArray below meth c H locs 0 0 (MQ below (QV g N ln post) ([.ref (gz g + a0)] : List Value).toArray s 0 0 (gF g)) (F0 m 16 ls []) := by
    intro S H locs ls x0 hr_x0 hk_x0 h I hl
    unfold BX2_advance_16 at h
    refine lv_iconst (v := 1) F.1 F.2.1 dX2_advance_16 (by decide) ?_
    refine lv_goto (tgt := 21) F.1 F.2.1 dX2_advance_17 (by decide) ?_
    exact hj_21 S _ _ _ x0 (1 : Int32) hr_x0 hk_x0 h I (lv_sub hl [0] rfl)
  refine lv_aload_n F.1 F.2.1 dX2_advance_0 rfl (lv_at hl 0 rfl) ?_
  refine r_getI F I hr_a0 hk_a0 fX2_18 rfl dX2_advance_1 h (fun z31 h => ?_)
  refine lv_iconst (v := 1) F.1 F.2.1 dX2_advance_4 (by decide) ?_
  refine r_icmp_eq (tgt := 16) F dX2_advance_5 (by decide) h (fun h => ?_) (fun h => ?_)
  · exact hj_16 S _ _ _ a0 hr_a0 hk_a0 h I (lv_sub hl [0] rfl)
  · refine lv_aload_n F.1 F.2.1 dX2_advance_8 rfl (lv_at hl 0 rfl) ?_
    refine r_getI F I hr_a0 hk_a0 fX2_18 rfl dX2_advance_9 h (fun z32 h => ?_)
    refine lv_iconst (v := 2) F.1 F.2.1 dX2_advance_12 (by decide) ?_
    refine r_icmp_ne (tgt := 20) F dX2_advance_13 (by decide) h (fun h => ?_) (fun h => ?_)
    · refine lv_iconst (v := 0) F.1 F.2.1 dX2_advance_20 (by decide) ?_
      exact hj_21 S _ _ _ a0 (0 : Int32) hr_a0 hk_a0 h I (lv_sub hl [0] rfl)
    · exact hj_16 S _ _ _ a0 hr_a0 hk_a0 h I (lv_sub hl [0] rfl)
theorem dX2_isSign_0 : decode cX2_isSign 0 = .ok (.aload_n 0, 1) := by decide +kernel
theorem dX2_isSign_1 : decode cX2_isSign 1 = .ok (.getfield 18, 3) := by decide +kernel
theorem dX2_isSign_4 : decode cX2_isSign 4 = .ok (.iconst 3, 1) := by decide +kernel
theorem dX2_isSign_5 : decode cX2_isSign 5 = .ok (.if_icmp .ne 22, 3) := by decide +kernel
theorem dX2_isSign_8 : decode cX2_isSign 8 = .ok (.aload_n 0, 1) := by decide +kernel
theorem dX2_isSign_9 : decode cX2_isSign 9 = .ok (.getfield 12, 3) := by decide +kernel
theorem dX2_isSign_12 : decode cX2_isSign 12 = .ok (.aload_n 0, 1) := by decide +kernel
theorem dX2_isSign_13 : decode cX2_isSign 13 = .ok (.getfield 22, 3) := by decide +kernel
theorem dX2_isSign_16 : decode cX2_isSign 16 = .ok (.invokevirtual 72, 3) := by decide +kernel
theorem dX2_isSign_19 : decode cX2_isSign 19 = .ok (.iload_n 1, 1) := by decide +kernel
theorem dX2_isSign_20 : decode cX2_isSign 20 = .ok (.if_icmp .ne 7, 3) := by decide +kernel
theorem dX2_isSign_23 : decode cX2_isSign 23 = .ok (.iconst 1, 1) := by decide +kernel
theorem dX2_isSign_24 : decode cX2_isSign 24 = .ok (.goto 4, 3) := by decide +kernel
theorem dX2_isSign_27 : decode cX2_isSign 27 = .ok (.iconst 0, 1) := by decide +kernel
theorem dX2_isSign_28 : decode cX2_isSign 28 = .ok (.ireturn, 1) := by decide +kernel
def BX2_isSign_27 (ln : Nat → Nat) (post : Int32 → HC → Prop) (S : HC)  : Prop := rb_ .boolean (0 : Int32) (post (0 : Int32) S)
def wpX2_isSign (ln : Nat → Nat) (S : HC) (a0 : Nat) (a1 : Int32) (post : Int32 → HC → Prop) : Prop := lt_ (hI S a0 1) fun z1 => if z1 = (3 : Int32) then (dn_ (hR S a0 0) fun b2 => lt_ (hI S a0 2) fun z3 => wpX6_at ln S b2 z3 fun z4 S => if z4 = a1 then (rb_ .boolean (1 : Int32) (post (1 : Int32) S)) else (BX2_isSign_27 ln post S)) else (BX2_isSign_27 ln post S)
abbrev rmX2_isSign : Room := { frames := 1, cells := 0, slots := 0, locals := 21 }
set_option maxHeartbeats 4000000 in
set_option maxRecDepth 100000 in
theorem ctX2_isSign {l : Launch} {g : GX} {N : Nat} {ln : Nat → Nat} {S : HC} {a0 : Nat} {a1 : Int32} {post : Int32 → HC → Prop} (hr_a0 : a0 < N) (hk_a0 : kd a0 = 2) (h : wpX2_isSign ln S a0 a1 post) : Met l yX2_isSign (Cond.code yX2_isSign prog_4_method_9_code 2 (Option.some Jvm.ClassFile.FieldType.boolean) :: gtbl) rmX2_isSign (va_Pc [.ref (gz g + a0), .int a1] (AtP g N ln S)) (QI g N ln post) 0 0 (gF g) := by
  refine m_of (by decide) (Nat.le_of_ble_eq_true rfl) ?_
  intro p e s m below meth c ls F hr I hl
  have hl : lv_has ls 2 [(0, .ref (gz g + a0)), (1, .int a1)] := hl
  unfold wpX2_isSign at h
  have hj_27 : ∀ (S : HC) (H : Heap) (locs : List Loc) (ls : Array Slot), BX2_isSign_27 ln post S  → Inv g N ln S s H locs → lv_has ls 2 [] → W p l e rmX2_isSign s m ([.ref (gz g + a0), .int a1] : List Value).toArray below meth c H locs 0 0 (MQ below (QI g N ln post) ([.ref (gz g + a0), .int a1] : List Value).toArray s 0 0 (gF g)) (F0 m 27 ls []) := by
    intro S H locs ls h I hl
    unfold BX2_isSign_27 at h
    refine lv_iconst (v := 0) F.1 F.2.1 dX2_isSign_27 (by decide) ?_
    exact r_zreturn F I ⟨hr.1, hr.2.1, trivial⟩ h dX2_isSign_28
  refine lv_aload_n F.1 F.2.1 dX2_isSign_0 rfl (lv_at hl 0 rfl) ?_
  refine r_getI F I hr_a0 hk_a0 fX2_18 rfl dX2_isSign_1 h (fun z1 h => ?_)
  refine lv_iconst (v := 3) F.1 F.2.1 dX2_isSign_4 (by decide) ?_
  refine r_icmp_ne (tgt := 27) F dX2_isSign_5 (by decide) h (fun h => ?_) (fun h => ?_)
  · exact hj_27 S _ _ _   h I (lv_sub hl [] rfl)
  · refine lv_aload_n F.1 F.2.1 dX2_isSign_8 rfl (lv_at hl 0 rfl) ?_
    refine r_getN F I hr_a0 hk_a0 fX2_12 (f := 6) rfl (by decide) dX2_isSign_9 h (fun b2 hr_b2 hk_b2 h => ?_)
    refine lv_aload_n F.1 F.2.1 dX2_isSign_12 rfl (lv_at hl 0 rfl) ?_
    refine r_getI F I hr_a0 hk_a0 fX2_22 rfl dX2_isSign_13 h (fun z3 h => ?_)
    refine g_I I (run_V (As := [.int z3]) (rest := []) F I hr_b2 hk_b2 (by decide) kX2_72 (ctX6_at hr_b2 hk_b2 h) ⟨rfl, rfl⟩ ⟨Nat.le_of_ble_eq_true rfl, Nat.le_of_ble_eq_true rfl⟩ rfl hl.1 rfl (Nat.le_of_ble_eq_true rfl) ⟨Nat.le_of_ble_eq_true rfl, Nat.le_of_ble_eq_true rfl⟩ dX2_isSign_16) (fun z4 S H locs I h => ?_)
    refine lv_iload_n F.1 F.2.1 dX2_isSign_19 rfl (lv_at hl 1 rfl) ?_
    refine r_icmp_ne (tgt := 27) F dX2_isSign_20 (by decide) h (fun h => ?_) (fun h => ?_)
    · exact hj_27 S _ _ _   h I (lv_sub hl [] rfl)
    · refine lv_iconst (v := 1) F.1 F.2.1 dX2_isSign_23 (by decide) ?_
      refine lv_goto (tgt := 28) F.1 F.2.1 dX2_isSign_24 (by decide) ?_
      exact r_zreturn F I ⟨hr.1, hr.2.1, trivial⟩ h dX2_isSign_28
theorem dX2_levelHere_0 : decode cX2_levelHere 0 = .ok (.aload_n 0, 1) := by decide +kernel
theorem dX2_levelHere_1 : decode cX2_levelHere 1 = .ok (.getfield 18, 3) := by decide +kernel
theorem dX2_levelHere_4 : decode cX2_levelHere 4 = .ok (.iconst 3, 1) := by decide +kernel
theorem dX2_levelHere_5 : decode cX2_levelHere 5 = .ok (.if_icmp .eq 5, 3) := by decide +kernel
theorem dX2_levelHere_8 : decode cX2_levelHere 8 = .ok (.iconst (-1), 1) := by decide +kernel
theorem dX2_levelHere_9 : decode cX2_levelHere 9 = .ok (.ireturn, 1) := by decide +kernel
theorem dX2_levelHere_10 : decode cX2_levelHere 10 = .ok (.aload_n 0, 1) := by decide +kernel
theorem dX2_levelHere_11 : decode cX2_levelHere 11 = .ok (.getfield 12, 3) := by decide +kernel
theorem dX2_levelHere_14 : decode cX2_levelHere 14 = .ok (.aload_n 0, 1) := by decide +kernel
theorem dX2_levelHere_15 : decode cX2_levelHere 15 = .ok (.getfield 22, 3) := by decide +kernel
theorem dX2_levelHere_18 : decode cX2_levelHere 18 = .ok (.invokevirtual 72, 3) := by decide +kernel
theorem dX2_levelHere_21 : decode cX2_levelHere 21 = .ok (.lookupswitch 93 #[(38, 85), (42, 91), (43, 89), (45, 89), (47, 91), (60, 87), (61, 87), (62, 87), (124, 83)], 83) := by decide +kernel
theorem dX2_levelHere_104 : decode cX2_levelHere 104 = .ok (.iconst 0, 1) := by decide +kernel
theorem dX2_levelHere_105 : decode cX2_levelHere 105 = .ok (.ireturn, 1) := by decide +kernel
theorem dX2_levelHere_106 : decode cX2_levelHere 106 = .ok (.iconst 1, 1) := by decide +kernel
theorem dX2_levelHere_107 : decode cX2_levelHere 107 = .ok (.ireturn, 1) := by decide +kernel
theorem dX2_levelHere_108 : decode cX2_levelHere 108 = .ok (.iconst 2, 1) := by decide +kernel
theorem dX2_levelHere_109 : decode cX2_levelHere 109 = .ok (.ireturn, 1) := by decide +kernel
theorem dX2_levelHere_110 : decode cX2_levelHere 110 = .ok (.iconst 3, 1) := by decide +kernel
theorem dX2_levelHere_111 : decode cX2_levelHere 111 = .ok (.ireturn, 1) := by decide +kernel
theorem dX2_levelHere_112 : decode cX2_levelHere 112 = .ok (.iconst 4, 1) := by decide +kernel
theorem dX2_levelHere_113 : decode cX2_levelHere 113 = .ok (.ireturn, 1) := by decide +kernel
theorem dX2_levelHere_114 : decode cX2_levelHere 114 = .ok (.iconst (-1), 1) := by decide +kernel
theorem dX2_levelHere_115 : decode cX2_levelHere 115 = .ok (.ireturn, 1) := by decide +kernel
def BX2_levelHere_112 (ln : Nat → Nat) (post : Int32 → HC → Prop) (S : HC)  : Prop := post (4 : Int32) S
def BX2_levelHere_110 (ln : Nat → Nat) (post : Int32 → HC → Prop) (S : HC)  : Prop := post (3 : Int32) S
def BX2_levelHere_108 (ln : Nat → Nat) (post : Int32 → HC → Prop) (S : HC)  : Prop := post (2 : Int32) S
def wpX2_levelHere (ln : Nat → Nat) (S : HC) (a0 : Nat) (post : Int32 → HC → Prop) : Prop := lt_ (hI S a0 1) fun z1 => if z1 = (3 : Int32) then (dn_ (hR S a0 0) fun b2 => lt_ (hI S a0 2) fun z3 => wpX6_at ln S b2 z3 fun z4 S => if z4 = (38 : Int32) then (post (1 : Int32) S) else if z4 = (42 : Int32) then (BX2_levelHere_112 ln post S) else if z4 = (43 : Int32) then (BX2_levelHere_110 ln post S) else if z4 = (45 : Int32) then (BX2_levelHere_110 ln post S) else if z4 = (47 : Int32) then (BX2_levelHere_112 ln post S) else if z4 = (60 : Int32) then (BX2_levelHere_108 ln post S) else if z4 = (61 : Int32) then (BX2_levelHere_108 ln post S) else if z4 = (62 : Int32) then (BX2_levelHere_108 ln post S) else if z4 = (124 : Int32) then (post (0 : Int32) S) else post (-1 : Int32) S) else (post (-1 : Int32) S)
abbrev rmX2_levelHere : Room := { frames := 1, cells := 0, slots := 0, locals := 21 }
set_option maxHeartbeats 4000000 in
set_option maxRecDepth 100000 in
theorem ctX2_levelHere {l : Launch} {g : GX} {N : Nat} {ln : Nat → Nat} {S : HC} {a0 : Nat} {post : Int32 → HC → Prop} (hr_a0 : a0 < N) (hk_a0 : kd a0 = 2) (h : wpX2_levelHere ln S a0 post) : Met l yX2_levelHere (Cond.code yX2_levelHere prog_4_method_10_code 1 (Option.some Jvm.ClassFile.FieldType.int) :: gtbl) rmX2_levelHere (va_Pc [.ref (gz g + a0)] (AtP g N ln S)) (QI g N ln post) 0 0 (gF g) := by
  refine m_of (by decide) (Nat.le_of_ble_eq_true rfl) ?_
  intro p e s m below meth c ls F hr I hl
  have hl : lv_has ls 1 [(0, .ref (gz g + a0))] := hl
  unfold wpX2_levelHere at h
  have hj_112 : ∀ (S : HC) (H : Heap) (locs : List Loc) (ls : Array Slot), BX2_levelHere_112 ln post S  → Inv g N ln S s H locs → lv_has ls 1 [] → W p l e rmX2_levelHere s m ([.ref (gz g + a0)] : List Value).toArray below meth c H locs 0 0 (MQ below (QI g N ln post) ([.ref (gz g + a0)] : List Value).toArray s 0 0 (gF g)) (F0 m 112 ls []) := by
    intro S H locs ls h I hl
    unfold BX2_levelHere_112 at h
    refine lv_iconst (v := 4) F.1 F.2.1 dX2_levelHere_112 (by decide) ?_
    exact r_ireturn F I ⟨hr.1, hr.2.1, trivial⟩ h dX2_levelHere_113
  have hj_110 : ∀ (S : HC) (H : Heap) (locs : List Loc) (ls : Array Slot), BX2_levelHere_110 ln post S  → Inv g N ln S s H locs → lv_has ls 1 [] → W p l e rmX2_levelHere s m ([.ref (gz g + a0)] : List Value).toArray below meth c H locs 0 0 (MQ below (QI g N ln post) ([.ref (gz g + a0)] : List Value).toArray s 0 0 (gF g)) (F0 m 110 ls []) := by
    intro S H locs ls h I hl
    unfold BX2_levelHere_110 at h
    refine lv_iconst (v := 3) F.1 F.2.1 dX2_levelHere_110 (by decide) ?_
    exact r_ireturn F I ⟨hr.1, hr.2.1, trivial⟩ h dX2_levelHere_111
  have hj_108 : ∀ (S : HC) (H : Heap) (locs : List Loc) (ls : Array Slot), BX2_levelHere_108 ln post S  → Inv g N ln S s H locs → lv_has ls 1 [] → W p l e rmX2_levelHere s m ([.ref (gz g + a0)] : List Value).toArray below meth c H locs 0 0 (MQ below (QI g N ln post) ([.ref (gz g + a0)] : List Value).toArray s 0 0 (gF g)) (F0 m 108 ls []) := by
    intro S H locs ls h I hl
    unfold BX2_levelHere_108 at h
    refine lv_iconst (v := 2) F.1 F.2.1 dX2_levelHere_108 (by decide) ?_
    exact r_ireturn F I ⟨hr.1, hr.2.1, trivial⟩ h dX2_levelHere_109
  refine lv_aload_n F.1 F.2.1 dX2_levelHere_0 rfl (lv_at hl 0 rfl) ?_
  refine r_getI F I hr_a0 hk_a0 fX2_18 rfl dX2_levelHere_1 h (fun z1 h => ?_)
  refine lv_iconst (v := 3) F.1 F.2.1 dX2_levelHere_4 (by decide) ?_
  refine r_icmp_eq (tgt := 10) F dX2_levelHere_5 (by decide) h (fun h => ?_) (fun h => ?_)
  · refine lv_aload_n F.1 F.2.1 dX2_levelHere_10 rfl (lv_at hl 0 rfl) ?_
    refine r_getN F I hr_a0 hk_a0 fX2_12 (f := 6) rfl (by decide) dX2_levelHere_11 h (fun b2 hr_b2 hk_b2 h => ?_)
    refine lv_aload_n F.1 F.2.1 dX2_levelHere_14 rfl (lv_at hl 0 rfl) ?_
    refine r_getI F I hr_a0 hk_a0 fX2_22 rfl dX2_levelHere_15 h (fun z3 h => ?_)
    refine g_I I (run_V (As := [.int z3]) (rest := []) F I hr_b2 hk_b2 (by decide) kX2_72 (ctX6_at hr_b2 hk_b2 h) ⟨rfl, rfl⟩ ⟨Nat.le_of_ble_eq_true rfl, Nat.le_of_ble_eq_true rfl⟩ rfl hl.1 rfl (Nat.le_of_ble_eq_true rfl) ⟨Nat.le_of_ble_eq_true rfl, Nat.le_of_ble_eq_true rfl⟩ dX2_levelHere_18) (fun z4 S H locs I h => ?_)
    by_cases c0 : z4 = (38 : Int32)
    · rw [if_pos c0] at h
      refine lv_lookup (off := 85) (tgt := 106) F.1 F.2.1 dX2_levelHere_21 (by decide) (by rw [c0]; rfl) (by decide) ?_
      refine lv_iconst (v := 1) F.1 F.2.1 dX2_levelHere_106 (by decide) ?_
      exact r_ireturn F I ⟨hr.1, hr.2.1, trivial⟩ h dX2_levelHere_107
    · rw [if_neg c0] at h
      by_cases c1 : z4 = (42 : Int32)
      · rw [if_pos c1] at h
        refine lv_lookup (off := 91) (tgt := 112) F.1 F.2.1 dX2_levelHere_21 (by decide) (by rw [c1]; rfl) (by decide) ?_
        exact hj_112 S _ _ _   h I (lv_sub hl [] rfl)
      · rw [if_neg c1] at h
        by_cases c2 : z4 = (43 : Int32)
        · rw [if_pos c2] at h
          refine lv_lookup (off := 89) (tgt := 110) F.1 F.2.1 dX2_levelHere_21 (by decide) (by rw [c2]; rfl) (by decide) ?_
          exact hj_110 S _ _ _   h I (lv_sub hl [] rfl)
        · rw [if_neg c2] at h
          by_cases c3 : z4 = (45 : Int32)
          · rw [if_pos c3] at h
            refine lv_lookup (off := 89) (tgt := 110) F.1 F.2.1 dX2_levelHere_21 (by decide) (by rw [c3]; rfl) (by decide) ?_
            exact hj_110 S _ _ _   h I (lv_sub hl [] rfl)
          · rw [if_neg c3] at h
            by_cases c4 : z4 = (47 : Int32)
            · rw [if_pos c4] at h
              refine lv_lookup (off := 91) (tgt := 112) F.1 F.2.1 dX2_levelHere_21 (by decide) (by rw [c4]; rfl) (by decide) ?_
              exact hj_112 S _ _ _   h I (lv_sub hl [] rfl)
            · rw [if_neg c4] at h
              by_cases c5 : z4 = (60 : Int32)
              · rw [if_pos c5] at h
                refine lv_lookup (off := 87) (tgt := 108) F.1 F.2.1 dX2_levelHere_21 (by decide) (by rw [c5]; rfl) (by decide) ?_
                exact hj_108 S _ _ _   h I (lv_sub hl [] rfl)
              · rw [if_neg c5] at h
                by_cases c6 : z4 = (61 : Int32)
                · rw [if_pos c6] at h
                  refine lv_lookup (off := 87) (tgt := 108) F.1 F.2.1 dX2_levelHere_21 (by decide) (by rw [c6]; rfl) (by decide) ?_
                  exact hj_108 S _ _ _   h I (lv_sub hl [] rfl)
                · rw [if_neg c6] at h
                  by_cases c7 : z4 = (62 : Int32)
                  · rw [if_pos c7] at h
                    refine lv_lookup (off := 87) (tgt := 108) F.1 F.2.1 dX2_levelHere_21 (by decide) (by rw [c7]; rfl) (by decide) ?_
                    exact hj_108 S _ _ _   h I (lv_sub hl [] rfl)
                  · rw [if_neg c7] at h
                    by_cases c8 : z4 = (124 : Int32)
                    · rw [if_pos c8] at h
                      refine lv_lookup (off := 83) (tgt := 104) F.1 F.2.1 dX2_levelHere_21 (by decide) (by rw [c8]; rfl) (by decide) ?_
                      refine lv_iconst (v := 0) F.1 F.2.1 dX2_levelHere_104 (by decide) ?_
                      exact r_ireturn F I ⟨hr.1, hr.2.1, trivial⟩ h dX2_levelHere_105
                    · rw [if_neg c8] at h
                      refine lv_lookup (off := 93) (tgt := 114) F.1 F.2.1 dX2_levelHere_21 (by decide) (by show Op.lookupswitch.offset [(38, 85), (42, 91), (43, 89), (45, 89), (47, 91), (60, 87), (61, 87), (62, 87), (124, 83)] (93) _ = _; rw [lv_osw c0 (by decide), lv_osw c1 (by decide), lv_osw c2 (by decide), lv_osw c3 (by decide), lv_osw c4 (by decide), lv_osw c5 (by decide), lv_osw c6 (by decide), lv_osw c7 (by decide), lv_osw c8 (by decide)]; rfl) (by decide) ?_
                      refine lv_iconst (v := -1) F.1 F.2.1 dX2_levelHere_114 (by decide) ?_
                      exact r_ireturn F I ⟨hr.1, hr.2.1, trivial⟩ h dX2_levelHere_115
  · refine lv_iconst (v := -1) F.1 F.2.1 dX2_levelHere_8 (by decide) ?_
    exact r_ireturn F I ⟨hr.1, hr.2.1, trivial⟩ h dX2_levelHere_9
theorem dX2_readClosing_0 : decode cX2_readClosing 0 = .ok (.aload_n 0, 1) := by decide +kernel
theorem dX2_readClosing_1 : decode cX2_readClosing 1 = .ok (.getfield 47, 3) := by decide +kernel
theorem dX2_readClosing_4 : decode cX2_readClosing 4 = .ok (.ifCond .ge 19, 3) := by decide +kernel
theorem dX2_readClosing_7 : decode cX2_readClosing 7 = .ok (.aload_n 0, 1) := by decide +kernel
theorem dX2_readClosing_8 : decode cX2_readClosing 8 = .ok (.bipush 41, 2) := by decide +kernel
theorem dX2_readClosing_10 : decode cX2_readClosing 10 = .ok (.invokevirtual 106, 3) := by decide +kernel
theorem dX2_readClosing_13 : decode cX2_readClosing 13 = .ok (.ifCond .eq 10, 3) := by decide +kernel
theorem dX2_readClosing_16 : decode cX2_readClosing 16 = .ok (.aload_n 0, 1) := by decide +kernel
theorem dX2_readClosing_17 : decode cX2_readClosing 17 = .ok (.invokevirtual 50, 3) := by decide +kernel
theorem dX2_readClosing_20 : decode cX2_readClosing 20 = .ok (.goto 7, 3) := by decide +kernel
theorem dX2_readClosing_23 : decode cX2_readClosing 23 = .ok (.aload_n 0, 1) := by decide +kernel
theorem dX2_readClosing_24 : decode cX2_readClosing 24 = .ok (.invokevirtual 57, 3) := by decide +kernel
theorem dX2_readClosing_27 : decode cX2_readClosing 27 = .ok (.return_, 1) := by decide +kernel
theorem kX2_57 : mthV RX2 57 2 yX2_fail prog_4_method_4_code 1 (Option.none : Option Jvm.ClassFile.FieldType) 0 := ⟨⟨⟨tw_710, tw_63, tw_713⟩, rfl, by decide +kernel⟩, tw_712, tw_11, rfl⟩
theorem kX2_106 : mthV RX2 106 2 yX2_isSign prog_4_method_9_code 2 (Option.some Jvm.ClassFile.FieldType.boolean) 1 := ⟨⟨⟨tw_722, tw_63, tw_725⟩, rfl, by decide +kernel⟩, tw_724, tw_14, rfl⟩
theorem kX2_50 : mthV RX2 50 2 yX2_advance prog_4_method_5_code 3 (Option.none : Option Jvm.ClassFile.FieldType) 0 := ⟨⟨⟨tw_640, tw_63, tw_643⟩, rfl, by decide +kernel⟩, tw_642, tw_8, rfl⟩
def BX2_readClosing_23 (ln : Nat → Nat) (post : HC → Prop) (S : HC) (x0 : Nat) : Prop := wpX2_fail ln S x0 fun S => post S
def wpX2_readClosing (ln : Nat → Nat) (S : HC) (a0 : Nat) (post : HC → Prop) : Prop := lt_ (hI S a0 10) fun z1 => if 0 ≤ z1 then (BX2_readClosing_23 ln post S a0) else (wpX2_isSign ln S a0 (41 : Int32) fun z2 S => if z2 = 0 then (BX2_readClosing_23 ln post S a0) else (wpX2_advance ln S a0 fun S => post S))
abbrev rmX2_readClosing : Room := { frames := 2, cells := 0, slots := 0, locals := 43 }
set_option maxHeartbeats 4000000 in
set_option maxRecDepth 100000 in
theorem ctX2_readClosing {l : Launch} {g : GX} {N : Nat} {ln : Nat → Nat} {S : HC} {a0 : Nat} {post : HC → Prop} (hr_a0 : a0 < N) (hk_a0 : kd a0 = 2) (h : wpX2_readClosing ln S a0 post) : Met l yX2_readClosing (Cond.code yX2_readClosing prog_4_method_13_code 1 (Option.none : Option Jvm.ClassFile.FieldType) :: gtbl) rmX2_readClosing (va_Pc [.ref (gz g + a0)] (AtP g N ln S)) (QV g N ln post) 0 0 (gF g) := by
  refine m_of (by decide) (Nat.le_of_ble_eq_true rfl) ?_
  intro p e s m below meth c ls F hr I hl
  have hl : lv_has ls 1 [(0, .ref (gz g + a0))] := hl
  unfold wpX2_readClosing at h
  have hj_23 : ∀ (S : HC) (H : Heap) (locs : List Loc) (ls : Array Slot) (x0 : Nat), x0 < N → kd x0 = 2 → BX2_readClosing_23 ln post S x0 → Inv g N ln S s H locs → lv_has ls 1 [(0, .ref (gz g + x0))] → W p l e rmX2_readClosing s m ([.ref (gz g + a0)] : List Value).toArray below meth c H locs 0 0 (MQ below (QV g N ln post) ([.ref (gz g + a0)] : List Value).toArray s 0 0 (gF g)) (F0 m 23 ls []) := by
    intro S H locs ls x0 hr_x0 hk_x0 h I hl
    unfold BX2_readClosing_23 at h
    refine lv_aload_n F.1 F.2.1 dX2_readClosing_23 rfl (lv_at hl 0 rfl) ?_
    refine g_V I (run_V (As := []) (rest := []) F I hr_x0 hk_x0 (by decide) kX2_57 (ctX2_fail hr_x0 hk_x0 h) ⟨rfl, rfl⟩ ⟨Nat.le_of_ble_eq_true rfl, Nat.le_of_ble_eq_true rfl⟩ rfl hl.1 rfl (Nat.le_of_ble_eq_true rfl) ⟨Nat.le_of_ble_eq_true rfl, Nat.le_of_ble_eq_true rfl⟩ dX2_readClosing_24) (fun S H locs I h => ?_)
    exact r_vreturn F I ⟨hr.1, hr.2.1, trivial⟩ h dX2_readClosing_27
  refine lv_aload_n F.1 F.2.1 dX2_readClosing_0 rfl (lv_at hl 0 rfl) ?_
  refine r_getI F I hr_a0 hk_a0 fX2_47 rfl dX2_readClosing_1 h (fun z1 h => ?_)
  refine r_if_ge (tgt := 23) F dX2_readClosing_4 (by decide) h (fun h => ?_) (fun h => ?_)
  · exact hj_23 S _ _ _ a0 hr_a0 hk_a0 h I (lv_sub hl [0] rfl)
  · refine lv_aload_n F.1 F.2.1 dX2_readClosing_7 rfl (lv_at hl 0 rfl) ?_
    refine lv_bipush (v := 41) F.1 F.2.1 dX2_readClosing_8 (by decide) ?_
    refine g_I I (run_V (As := [.int (41 : Int32)]) (rest := []) F I hr_a0 hk_a0 (by decide) kX2_106 (ctX2_isSign hr_a0 hk_a0 h) ⟨rfl, rfl⟩ ⟨Nat.le_of_ble_eq_true rfl, Nat.le_of_ble_eq_true rfl⟩ rfl hl.1 rfl (Nat.le_of_ble_eq_true rfl) ⟨Nat.le_of_ble_eq_true rfl, Nat.le_of_ble_eq_true rfl⟩ dX2_readClosing_10) (fun z2 S H locs I h => ?_)
    refine r_if_eq (tgt := 23) F dX2_readClosing_13 (by decide) h (fun h => ?_) (fun h => ?_)
    · exact hj_23 S _ _ _ a0 hr_a0 hk_a0 h I (lv_sub hl [0] rfl)
    · refine lv_aload_n F.1 F.2.1 dX2_readClosing_16 rfl (lv_at hl 0 rfl) ?_
      refine g_V I (run_V (As := []) (rest := []) F I hr_a0 hk_a0 (by decide) kX2_50 (ctX2_advance hr_a0 hk_a0 h) ⟨rfl, rfl⟩ ⟨Nat.le_of_ble_eq_true rfl, Nat.le_of_ble_eq_true rfl⟩ rfl hl.1 rfl (Nat.le_of_ble_eq_true rfl) ⟨Nat.le_of_ble_eq_true rfl, Nat.le_of_ble_eq_true rfl⟩ dX2_readClosing_17) (fun S H locs I h => ?_)
      refine lv_goto (tgt := 27) F.1 F.2.1 dX2_readClosing_20 (by decide) ?_
      exact r_vreturn F I ⟨hr.1, hr.2.1, trivial⟩ h dX2_readClosing_27
theorem dX2_numberHere_0 : decode cX2_numberHere 0 = .ok (.aload_n 0, 1) := by decide +kernel
theorem dX2_numberHere_1 : decode cX2_numberHere 1 = .ok (.getfield 25, 3) := by decide +kernel
theorem dX2_numberHere_4 : decode cX2_numberHere 4 = .ok (.aload_n 0, 1) := by decide +kernel
theorem dX2_numberHere_5 : decode cX2_numberHere 5 = .ok (.getfield 22, 3) := by decide +kernel
theorem dX2_numberHere_8 : decode cX2_numberHere 8 = .ok (.isub, 1) := by decide +kernel
theorem dX2_numberHere_9 : decode cX2_numberHere 9 = .ok (.iconst 4, 1) := by decide +kernel
theorem dX2_numberHere_10 : decode cX2_numberHere 10 = .ok (.if_icmp .le 5, 3) := by decide +kernel
theorem dX2_numberHere_13 : decode cX2_numberHere 13 = .ok (.iconst (-1), 1) := by decide +kernel
theorem dX2_numberHere_14 : decode cX2_numberHere 14 = .ok (.ireturn, 1) := by decide +kernel
theorem dX2_numberHere_15 : decode cX2_numberHere 15 = .ok (.iconst 0, 1) := by decide +kernel
theorem dX2_numberHere_16 : decode cX2_numberHere 16 = .ok (.istore_n 1, 1) := by decide +kernel
theorem dX2_numberHere_17 : decode cX2_numberHere 17 = .ok (.aload_n 0, 1) := by decide +kernel
theorem dX2_numberHere_18 : decode cX2_numberHere 18 = .ok (.getfield 22, 3) := by decide +kernel
theorem dX2_numberHere_21 : decode cX2_numberHere 21 = .ok (.istore_n 2, 1) := by decide +kernel
theorem dX2_numberHere_22 : decode cX2_numberHere 22 = .ok (.iload_n 2, 1) := by decide +kernel
theorem dX2_numberHere_23 : decode cX2_numberHere 23 = .ok (.aload_n 0, 1) := by decide +kernel
theorem dX2_numberHere_24 : decode cX2_numberHere 24 = .ok (.getfield 25, 3) := by decide +kernel
theorem dX2_numberHere_27 : decode cX2_numberHere 27 = .ok (.if_icmp .ge 26, 3) := by decide +kernel
theorem dX2_numberHere_30 : decode cX2_numberHere 30 = .ok (.bipush 10, 2) := by decide +kernel
theorem dX2_numberHere_32 : decode cX2_numberHere 32 = .ok (.iload_n 1, 1) := by decide +kernel
theorem dX2_numberHere_33 : decode cX2_numberHere 33 = .ok (.imul, 1) := by decide +kernel
theorem dX2_numberHere_34 : decode cX2_numberHere 34 = .ok (.aload_n 0, 1) := by decide +kernel
theorem dX2_numberHere_35 : decode cX2_numberHere 35 = .ok (.getfield 12, 3) := by decide +kernel
theorem dX2_numberHere_38 : decode cX2_numberHere 38 = .ok (.iload_n 2, 1) := by decide +kernel
theorem dX2_numberHere_39 : decode cX2_numberHere 39 = .ok (.invokevirtual 72, 3) := by decide +kernel
theorem dX2_numberHere_42 : decode cX2_numberHere 42 = .ok (.iadd, 1) := by decide +kernel
theorem dX2_numberHere_43 : decode cX2_numberHere 43 = .ok (.bipush 48, 2) := by decide +kernel
theorem dX2_numberHere_45 : decode cX2_numberHere 45 = .ok (.isub, 1) := by decide +kernel
theorem dX2_numberHere_46 : decode cX2_numberHere 46 = .ok (.istore_n 1, 1) := by decide +kernel
theorem dX2_numberHere_47 : decode cX2_numberHere 47 = .ok (.iinc 2 1, 3) := by decide +kernel
theorem dX2_numberHere_50 : decode cX2_numberHere 50 = .ok (.goto (-28), 3) := by decide +kernel
theorem dX2_numberHere_53 : decode cX2_numberHere 53 = .ok (.iload_n 1, 1) := by decide +kernel
theorem dX2_numberHere_54 : decode cX2_numberHere 54 = .ok (.ireturn, 1) := by decide +kernel
def LX2_numberHere_22 (ln : Nat → Nat) (post : Int32 → HC → Prop) : Nat → HC → Nat → Int32 → Int32 → Prop
  | 0 => fun _ _ _ _ => False
  | n22 + 1 => fun S x0 x1 x2 => lt_ (hI S x0 3) fun z1 => if z1 ≤ x2 then (post x1 S) else (lt_ ((10 : Int32) * x1) fun z2 => dn_ (hR S x0 0) fun b3 => wpX6_at ln S b3 x2 fun z4 S => lt_ (z2 + z4) fun z5 => lt_ (z5 - (48 : Int32)) fun z6 => lt_ (x2 + (1 : Int32)) fun z7 => (LX2_numberHere_22 ln post n22) S x0 z6 z7)
def wpX2_numberHere (ln : Nat → Nat) (S : HC) (a0 : Nat) (post : Int32 → HC → Prop) : Prop := lt_ (hI S a0 3) fun z8 => lt_ (hI S a0 2) fun z9 => lt_ (z8 - z9) fun z10 => if z10 ≤ (4 : Int32) then (lt_ (hI S a0 2) fun z11 => ∃ n22, LX2_numberHere_22 ln post n22 S a0 (0 : Int32) z11) else (post (-1 : Int32) S)
abbrev rmX2_numberHere : Room := { frames := 1, cells := 0, slots := 0, locals := 21 }
set_option maxHeartbeats 4000000 in
set_option maxRecDepth 100000 in
theorem ctX2_numberHere {l : Launch} {g : GX} {N : Nat} {ln : Nat → Nat} {S : HC} {a0 : Nat} {post : Int32 → HC → Prop} (hr_a0 : a0 < N) (hk_a0 : kd a0 = 2) (h : wpX2_numberHere ln S a0 post) : Met l yX2_numberHere (Cond.code yX2_numberHere prog_4_method_15_code 3 (Option.some Jvm.ClassFile.FieldType.int) :: gtbl) rmX2_numberHere (va_Pc [.ref (gz g + a0)] (AtP g N ln S)) (QI g N ln post) 0 0 (gF g) := by
  refine m_of (by decide) (Nat.le_of_ble_eq_true rfl) ?_
  intro p e s m below meth c ls F hr I hl
  have hl : lv_has ls 3 [(0, .ref (gz g + a0))] := hl
  unfold wpX2_numberHere at h
  have hl_22 : ∀ n22 : Nat, ∀ (S : HC) (H : Heap) (locs : List Loc) (ls : Array Slot) (x0 : Nat) (x1 : Int32) (x2 : Int32), x0 < N → kd x0 = 2 → LX2_numberHere_22 ln post n22 S x0 x1 x2 → Inv g N ln S s H locs → lv_has ls 3 [(0, .ref (gz g + x0)), (1, .int x1), (2, .int x2)] → W p l e rmX2_numberHere s m ([.ref (gz g + a0)] : List Value).toArray below meth c H locs 0 0 (MQ below (QI g N ln post) ([.ref (gz g + a0)] : List Value).toArray s 0 0 (gF g)) (F0 m 22 ls []) := by
    intro n22
    induction n22 with
    | zero =>
      intro S H locs ls x0 x1 x2 hr_x0 hk_x0 h I hl
      exact h.elim
    | succ n22 ih =>
      have hk22 := ih
      intro S H locs ls x0 x1 x2 hr_x0 hk_x0 h I hl
      rw [LX2_numberHere_22] at h
      refine lv_iload_n F.1 F.2.1 dX2_numberHere_22 rfl (lv_at hl 2 rfl) ?_
      refine lv_aload_n F.1 F.2.1 dX2_numberHere_23 rfl (lv_at hl 0 rfl) ?_
      refine r_getI F I hr_x0 hk_x0 fX2_25 rfl dX2_numberHere_24 h (fun z1 h => ?_)
      refine r_icmp_ge (tgt := 53) F dX2_numberHere_27 (by decide) h (fun h => ?_) (fun h => ?_)
      · refine lv_iload_n F.1 F.2.1 dX2_numberHere_53 rfl (lv_at hl 1 rfl) ?_
        exact r_ireturn F I ⟨hr.1, hr.2.1, trivial⟩ h dX2_numberHere_54
      · refine lv_bipush (v := 10) F.1 F.2.1 dX2_numberHere_30 (by decide) ?_
        refine lv_iload_n F.1 F.2.1 dX2_numberHere_32 rfl (lv_at hl 1 rfl) ?_
        refine r_imul F dX2_numberHere_33 h (fun z2 h => ?_)
        refine lv_aload_n F.1 F.2.1 dX2_numberHere_34 rfl (lv_at hl 0 rfl) ?_
        refine r_getN F I hr_x0 hk_x0 fX2_12 (f := 6) rfl (by decide) dX2_numberHere_35 h (fun b3 hr_b3 hk_b3 h => ?_)
        refine lv_iload_n F.1 F.2.1 dX2_numberHere_38 rfl (lv_at hl 2 rfl) ?_
        refine g_I I (run_V (As := [.int x2]) (rest := [.int z2]) F I hr_b3 hk_b3 (by decide) kX2_72 (ctX6_at hr_b3 hk_b3 h) ⟨rfl, rfl⟩ ⟨Nat.le_of_ble_eq_true rfl, Nat.le_of_ble_eq_true rfl⟩ rfl hl.1 rfl (Nat.le_of_ble_eq_true rfl) ⟨Nat.le_of_ble_eq_true rfl, Nat.le_of_ble_eq_true rfl⟩ dX2_numberHere_39) (fun z4 S H locs I h => ?_)
        refine r_iadd F dX2_numberHere_42 h (fun z5 h => ?_)
        refine lv_bipush (v := 48) F.1 F.2.1 dX2_numberHere_43 (by decide) ?_
        refine r_isub F dX2_numberHere_45 h (fun z6 h => ?_)
        refine lv_istore_n (lv' := [(1, .int z6), (0, .ref (gz g + x0)), (2, .int x2)]) F.1 F.2.1 dX2_numberHere_46 rfl hl (by decide) rfl (fun ls hl => ?_)
        obtain ⟨z7, e_z7, h⟩ := lt_x h
        refine lv_iinc (v := z7) (lv' := [(2, .int z7), (1, .int z6), (0, .ref (gz g + x0))]) F.1 F.2.1 dX2_numberHere_47 hl (k := 2) rfl (by rw [e_z7]; rfl) (by decide) rfl (fun ls hl => ?_)
        refine lv_goto (tgt := 22) F.1 F.2.1 dX2_numberHere_50 (by decide) ?_
        exact hk22 S _ _ _ x0 z6 z7 hr_x0 hk_x0 h I (lv_sub hl [2, 1, 0] rfl)
  refine lv_aload_n F.1 F.2.1 dX2_numberHere_0 rfl (lv_at hl 0 rfl) ?_
  refine r_getI F I hr_a0 hk_a0 fX2_25 rfl dX2_numberHere_1 h (fun z8 h => ?_)
  refine lv_aload_n F.1 F.2.1 dX2_numberHere_4 rfl (lv_at hl 0 rfl) ?_
  refine r_getI F I hr_a0 hk_a0 fX2_22 rfl dX2_numberHere_5 h (fun z9 h => ?_)
  refine r_isub F dX2_numberHere_8 h (fun z10 h => ?_)
  refine lv_iconst (v := 4) F.1 F.2.1 dX2_numberHere_9 (by decide) ?_
  refine r_icmp_le (tgt := 15) F dX2_numberHere_10 (by decide) h (fun h => ?_) (fun h => ?_)
  · refine lv_iconst (v := 0) F.1 F.2.1 dX2_numberHere_15 (by decide) ?_
    refine lv_istore_n (lv' := [(1, .int (0 : Int32)), (0, .ref (gz g + a0))]) F.1 F.2.1 dX2_numberHere_16 rfl hl (by decide) rfl (fun ls hl => ?_)
    refine lv_aload_n F.1 F.2.1 dX2_numberHere_17 rfl (lv_at hl 1 rfl) ?_
    refine r_getI F I hr_a0 hk_a0 fX2_22 rfl dX2_numberHere_18 h (fun z11 h => ?_)
    refine lv_istore_n (lv' := [(2, .int z11), (1, .int (0 : Int32)), (0, .ref (gz g + a0))]) F.1 F.2.1 dX2_numberHere_21 rfl hl (by decide) rfl (fun ls hl => ?_)
    obtain ⟨n22, h⟩ := h
    exact hl_22 n22 S _ _ _ a0 (0 : Int32) z11 hr_a0 hk_a0 h I (lv_sub hl [2, 1, 0] rfl)
  · refine lv_iconst (v := -1) F.1 F.2.1 dX2_numberHere_13 (by decide) ?_
    exact r_ireturn F I ⟨hr.1, hr.2.1, trivial⟩ h dX2_numberHere_14
theorem dX2_nameHere_0 : decode cX2_nameHere 0 = .ok (.aload_n 0, 1) := by decide +kernel
theorem dX2_nameHere_1 : decode cX2_nameHere 1 = .ok (.getfield 18, 3) := by decide +kernel
theorem dX2_nameHere_4 : decode cX2_nameHere 4 = .ok (.iconst 1, 1) := by decide +kernel
theorem dX2_nameHere_5 : decode cX2_nameHere 5 = .ok (.if_icmp .ne 16, 3) := by decide +kernel
theorem dX2_nameHere_8 : decode cX2_nameHere 8 = .ok (.aload_n 0, 1) := by decide +kernel
theorem dX2_nameHere_9 : decode cX2_nameHere 9 = .ok (.getfield 25, 3) := by decide +kernel
theorem dX2_nameHere_12 : decode cX2_nameHere 12 = .ok (.aload_n 0, 1) := by decide +kernel
theorem dX2_nameHere_13 : decode cX2_nameHere 13 = .ok (.getfield 22, 3) := by decide +kernel
theorem dX2_nameHere_16 : decode cX2_nameHere 16 = .ok (.isub, 1) := by decide +kernel
theorem dX2_nameHere_17 : decode cX2_nameHere 17 = .ok (.iconst 1, 1) := by decide +kernel
theorem dX2_nameHere_18 : decode cX2_nameHere 18 = .ok (.if_icmp .eq 5, 3) := by decide +kernel
theorem dX2_nameHere_21 : decode cX2_nameHere 21 = .ok (.iconst (-1), 1) := by decide +kernel
theorem dX2_nameHere_22 : decode cX2_nameHere 22 = .ok (.ireturn, 1) := by decide +kernel
theorem dX2_nameHere_23 : decode cX2_nameHere 23 = .ok (.aload_n 0, 1) := by decide +kernel
theorem dX2_nameHere_24 : decode cX2_nameHere 24 = .ok (.getfield 28, 3) := by decide +kernel
theorem dX2_nameHere_27 : decode cX2_nameHere 27 = .ok (.ifCond .ne 8, 3) := by decide +kernel
theorem dX2_nameHere_30 : decode cX2_nameHere 30 = .ok (.ldc 122, 2) := by decide +kernel
theorem dX2_nameHere_32 : decode cX2_nameHere 32 = .ok (.goto 18, 3) := by decide +kernel
theorem dX2_nameHere_35 : decode cX2_nameHere 35 = .ok (.aload_n 0, 1) := by decide +kernel
theorem dX2_nameHere_36 : decode cX2_nameHere 36 = .ok (.getfield 28, 3) := by decide +kernel
theorem dX2_nameHere_39 : decode cX2_nameHere 39 = .ok (.iconst 1, 1) := by decide +kernel
theorem dX2_nameHere_40 : decode cX2_nameHere 40 = .ok (.if_icmp .ne 8, 3) := by decide +kernel
theorem dX2_nameHere_43 : decode cX2_nameHere 43 = .ok (.ldc 124, 2) := by decide +kernel
theorem dX2_nameHere_45 : decode cX2_nameHere 45 = .ok (.goto 5, 3) := by decide +kernel
theorem dX2_nameHere_48 : decode cX2_nameHere 48 = .ok (.ldc 126, 2) := by decide +kernel
theorem dX2_nameHere_50 : decode cX2_nameHere 50 = .ok (.astore_n 1, 1) := by decide +kernel
theorem dX2_nameHere_51 : decode cX2_nameHere 51 = .ok (.aload_n 1, 1) := by decide +kernel
theorem dX2_nameHere_52 : decode cX2_nameHere 52 = .ok (.aload_n 0, 1) := by decide +kernel
theorem dX2_nameHere_53 : decode cX2_nameHere 53 = .ok (.getfield 12, 3) := by decide +kernel
theorem dX2_nameHere_56 : decode cX2_nameHere 56 = .ok (.aload_n 0, 1) := by decide +kernel
theorem dX2_nameHere_57 : decode cX2_nameHere 57 = .ok (.getfield 22, 3) := by decide +kernel
theorem dX2_nameHere_60 : decode cX2_nameHere 60 = .ok (.invokevirtual 72, 3) := by decide +kernel
theorem dX2_nameHere_63 : decode cX2_nameHere 63 = .ok (.i2c, 1) := by decide +kernel
theorem dX2_nameHere_64 : decode cX2_nameHere 64 = .ok (.invokevirtual 128, 3) := by decide +kernel
theorem dX2_nameHere_67 : decode cX2_nameHere 67 = .ok (.istore_n 2, 1) := by decide +kernel
theorem dX2_nameHere_68 : decode cX2_nameHere 68 = .ok (.iload_n 2, 1) := by decide +kernel
theorem dX2_nameHere_69 : decode cX2_nameHere 69 = .ok (.ifCond .ge 7, 3) := by decide +kernel
theorem dX2_nameHere_72 : decode cX2_nameHere 72 = .ok (.iconst (-1), 1) := by decide +kernel
theorem dX2_nameHere_73 : decode cX2_nameHere 73 = .ok (.goto 8, 3) := by decide +kernel
theorem dX2_nameHere_76 : decode cX2_nameHere 76 = .ok (.sipush 10000, 3) := by decide +kernel
theorem dX2_nameHere_79 : decode cX2_nameHere 79 = .ok (.iload_n 2, 1) := by decide +kernel
theorem dX2_nameHere_80 : decode cX2_nameHere 80 = .ok (.iadd, 1) := by decide +kernel
theorem dX2_nameHere_81 : decode cX2_nameHere 81 = .ok (.ireturn, 1) := by decide +kernel
theorem kX2_128 : mthT RX2 128 yJ0_indexOf_0f7a4 prog_14_method_79_code 2 (Option.some Jvm.ClassFile.FieldType.int) 1 := ⟨⟨⟨tw_749, tw_71, tw_752⟩, rfl, by decide +kernel⟩, tw_750, tw_751⟩
theorem fX2_28 : fldOK RX2 28 2 4 .int false := ⟨_, _, _, tyX2, ⟨rfl, iX2, by decide, rfl, by decide⟩, tw_203, ⟨tyX2_ok, nmX2⟩, by decide +kernel, rfl, rfl⟩
def BX2_nameHere_50 (ln : Nat → Nat) (post : Int32 → HC → Prop) (S : HC) (x0 : Nat) (t0 : Nat) : Prop := dn_ (hR S x0 0) fun b1 => lt_ (hI S x0 2) fun z2 => wpX6_at ln S b1 z2 fun z3 S => lt_ ((z3.toUInt32 % 65536).toInt32) fun z4 => wpJ0_indexOf_0f7a4 ln S t0 z4 fun z5 S => if 0 ≤ z5 then (lt_ ((10000 : Int32) + z5) fun z6 => post z6 S) else (post (-1 : Int32) S)
def BX2_nameHere_21 (ln : Nat → Nat) (post : Int32 → HC → Prop) (S : HC)  : Prop := post (-1 : Int32) S
def wpX2_nameHere (ln : Nat → Nat) (S : HC) (a0 : Nat) (post : Int32 → HC → Prop) : Prop := lt_ (hI S a0 1) fun z7 => if z7 = (1 : Int32) then (lt_ (hI S a0 3) fun z8 => lt_ (hI S a0 2) fun z9 => lt_ (z8 - z9) fun z10 => if z10 = (1 : Int32) then (lt_ (hI S a0 4) fun z11 => if z11 = 0 then (BX2_nameHere_50 ln post S a0 3) else (lt_ (hI S a0 4) fun z12 => if z12 = (1 : Int32) then (BX2_nameHere_50 ln post S a0 4) else (BX2_nameHere_50 ln post S a0 5))) else (BX2_nameHere_21 ln post S)) else (BX2_nameHere_21 ln post S)
abbrev rmX2_nameHere : Room := { frames := 4, cells := 0, slots := 0, locals := 91 }
set_option maxHeartbeats 4000000 in
set_option maxRecDepth 100000 in
theorem ctX2_nameHere {l : Launch} {g : GX} {N : Nat} {ln : Nat → Nat} {S : HC} {a0 : Nat} {post : Int32 → HC → Prop} (hr_a0 : a0 < N) (hk_a0 : kd a0 = 2) (h : wpX2_nameHere ln S a0 post) : Met l yX2_nameHere (Cond.code yX2_nameHere prog_4_method_16_code 3 (Option.some Jvm.ClassFile.FieldType.int) :: gtbl) rmX2_nameHere (va_Pc [.ref (gz g + a0)] (AtP g N ln S)) (QI g N ln post) 0 0 (gF g) := by
  refine m_of (by decide) (Nat.le_of_ble_eq_true rfl) ?_
  intro p e s m below meth c ls F hr I hl
  have hl : lv_has ls 3 [(0, .ref (gz g + a0))] := hl
  unfold wpX2_nameHere at h
  have hj_50 : ∀ (S : HC) (H : Heap) (locs : List Loc) (ls : Array Slot) (x0 : Nat) (t0 : Nat), x0 < N → kd x0 = 2 → t0 < 6 → BX2_nameHere_50 ln post S x0 t0 → Inv g N ln S s H locs → lv_has ls 3 [(0, .ref (gz g + x0))] → W p l e rmX2_nameHere s m ([.ref (gz g + a0)] : List Value).toArray below meth c H locs 0 0 (MQ below (QI g N ln post) ([.ref (gz g + a0)] : List Value).toArray s 0 0 (gF g)) (F0 m 50 ls [.ref (gK g t0)]) := by
    intro S H locs ls x0 t0 hr_x0 hk_x0 hs_t0 h I hl
    unfold BX2_nameHere_50 at h
    refine lv_astore_n (lv' := [(1, .ref (gK g t0)), (0, .ref (gz g + x0))]) F.1 F.2.1 dX2_nameHere_50 rfl hl (by decide) rfl (fun ls hl => ?_)
    refine lv_aload_n F.1 F.2.1 dX2_nameHere_51 rfl (lv_at hl 0 rfl) ?_
    refine lv_aload_n F.1 F.2.1 dX2_nameHere_52 rfl (lv_at hl 1 rfl) ?_
    refine r_getN F I hr_x0 hk_x0 fX2_12 (f := 6) rfl (by decide) dX2_nameHere_53 h (fun b1 hr_b1 hk_b1 h => ?_)
    refine lv_aload_n F.1 F.2.1 dX2_nameHere_56 rfl (lv_at hl 1 rfl) ?_
    refine r_getI F I hr_x0 hk_x0 fX2_22 rfl dX2_nameHere_57 h (fun z2 h => ?_)
    refine g_I I (run_V (As := [.int z2]) (rest := [.ref (gK g t0)]) F I hr_b1 hk_b1 (by decide) kX2_72 (ctX6_at hr_b1 hk_b1 h) ⟨rfl, rfl⟩ ⟨Nat.le_of_ble_eq_true rfl, Nat.le_of_ble_eq_true rfl⟩ rfl hl.1 rfl (Nat.le_of_ble_eq_true rfl) ⟨Nat.le_of_ble_eq_true rfl, Nat.le_of_ble_eq_true rfl⟩ dX2_nameHere_60) (fun z3 S H locs I h => ?_)
    refine r_i2c F dX2_nameHere_63 h (fun z4 h => ?_)
    refine g_I I (run_T (As := [.int z4]) (rest := []) F I hs_t0 kX2_128 (ctJ0_indexOf_0f7a4 hs_t0 h) ⟨rfl, rfl⟩ ⟨Nat.le_of_ble_eq_true rfl, Nat.le_of_ble_eq_true rfl⟩ rfl hl.1 rfl (Nat.le_of_ble_eq_true rfl) ⟨Nat.le_of_ble_eq_true rfl, Nat.le_of_ble_eq_true rfl⟩ dX2_nameHere_64) (fun z5 S H locs I h => ?_)
    refine lv_istore_n (lv' := [(2, .int z5), (1, .ref (gK g t0)), (0, .ref (gz g + x0))]) F.1 F.2.1 dX2_nameHere_67 rfl hl (by decide) rfl (fun ls hl => ?_)
    refine lv_iload_n F.1 F.2.1 dX2_nameHere_68 rfl (lv_at hl 0 rfl) ?_
    refine r_if_ge (tgt := 76) F dX2_nameHere_69 (by decide) h (fun h => ?_) (fun h => ?_)
    · refine lv_sipush (v := 10000) F.1 F.2.1 dX2_nameHere_76 (by decide) ?_
      refine lv_iload_n F.1 F.2.1 dX2_nameHere_79 rfl (lv_at hl 0 rfl) ?_
      refine r_iadd F dX2_nameHere_80 h (fun z6 h => ?_)
      exact r_ireturn F I ⟨hr.1, hr.2.1, trivial⟩ h dX2_nameHere_81
    · refine lv_iconst (v := -1) F.1 F.2.1 dX2_nameHere_72 (by decide) ?_
      refine lv_goto (tgt := 81) F.1 F.2.1 dX2_nameHere_73 (by decide) ?_
      exact r_ireturn F I ⟨hr.1, hr.2.1, trivial⟩ h dX2_nameHere_81
  have hj_21 : ∀ (S : HC) (H : Heap) (locs : List Loc) (ls : Array Slot), BX2_nameHere_21 ln post S  → Inv g N ln S s H locs → lv_has ls 3 [] → W p l e rmX2_nameHere s m ([.ref (gz g + a0)] : List Value).toArray below meth c H locs 0 0 (MQ below (QI g N ln post) ([.ref (gz g + a0)] : List Value).toArray s 0 0 (gF g)) (F0 m 21 ls []) := by
    intro S H locs ls h I hl
    unfold BX2_nameHere_21 at h
    refine lv_iconst (v := -1) F.1 F.2.1 dX2_nameHere_21 (by decide) ?_
    exact r_ireturn F I ⟨hr.1, hr.2.1, trivial⟩ h dX2_nameHere_22
  refine lv_aload_n F.1 F.2.1 dX2_nameHere_0 rfl (lv_at hl 0 rfl) ?_
  refine r_getI F I hr_a0 hk_a0 fX2_18 rfl dX2_nameHere_1 h (fun z7 h => ?_)
  refine lv_iconst (v := 1) F.1 F.2.1 dX2_nameHere_4 (by decide) ?_
  refine r_icmp_ne (tgt := 21) F dX2_nameHere_5 (by decide) h (fun h => ?_) (fun h => ?_)
  · exact hj_21 S _ _ _   h I (lv_sub hl [] rfl)
  · refine lv_aload_n F.1 F.2.1 dX2_nameHere_8 rfl (lv_at hl 0 rfl) ?_
    refine r_getI F I hr_a0 hk_a0 fX2_25 rfl dX2_nameHere_9 h (fun z8 h => ?_)
    refine lv_aload_n F.1 F.2.1 dX2_nameHere_12 rfl (lv_at hl 0 rfl) ?_
    refine r_getI F I hr_a0 hk_a0 fX2_22 rfl dX2_nameHere_13 h (fun z9 h => ?_)
    refine r_isub F dX2_nameHere_16 h (fun z10 h => ?_)
    refine lv_iconst (v := 1) F.1 F.2.1 dX2_nameHere_17 (by decide) ?_
    refine r_icmp_eq (tgt := 23) F dX2_nameHere_18 (by decide) h (fun h => ?_) (fun h => ?_)
    · refine lv_aload_n F.1 F.2.1 dX2_nameHere_23 rfl (lv_at hl 0 rfl) ?_
      refine r_getI F I hr_a0 hk_a0 fX2_28 rfl dX2_nameHere_24 h (fun z11 h => ?_)
      refine r_if_ne (tgt := 35) F dX2_nameHere_27 (by decide) h (fun h => ?_) (fun h => ?_)
      · refine lv_aload_n F.1 F.2.1 dX2_nameHere_35 rfl (lv_at hl 0 rfl) ?_
        refine r_getI F I hr_a0 hk_a0 fX2_28 rfl dX2_nameHere_36 h (fun z12 h => ?_)
        refine lv_iconst (v := 1) F.1 F.2.1 dX2_nameHere_39 (by decide) ?_
        refine r_icmp_ne (tgt := 48) F dX2_nameHere_40 (by decide) h (fun h => ?_) (fun h => ?_)
        · have hs_5 : (5 : Nat) < 6 := by decide
          refine va_ldcS F.1 F.2.1 F.2.2.2.1 (I.2.2.1.1.2.2 5 hs_5) dX2_nameHere_48 ?_
          exact hj_50 S _ _ _ a0 5 hr_a0 hk_a0 hs_5 h I (lv_sub hl [0] rfl)
        · have hs_4 : (4 : Nat) < 6 := by decide
          refine va_ldcS F.1 F.2.1 F.2.2.2.1 (I.2.2.1.1.2.2 4 hs_4) dX2_nameHere_43 ?_
          refine lv_goto (tgt := 50) F.1 F.2.1 dX2_nameHere_45 (by decide) ?_
          exact hj_50 S _ _ _ a0 4 hr_a0 hk_a0 hs_4 h I (lv_sub hl [0] rfl)
      · have hs_3 : (3 : Nat) < 6 := by decide
        refine va_ldcS F.1 F.2.1 F.2.2.2.1 (I.2.2.1.1.2.2 3 hs_3) dX2_nameHere_30 ?_
        refine lv_goto (tgt := 50) F.1 F.2.1 dX2_nameHere_32 (by decide) ?_
        exact hj_50 S _ _ _ a0 3 hr_a0 hk_a0 hs_3 h I (lv_sub hl [0] rfl)
    · exact hj_21 S _ _ _   h I (lv_sub hl [] rfl)
theorem dX2_readLeaf_0 : decode cX2_readLeaf 0 = .ok (.aload_n 0, 1) := by decide +kernel
theorem dX2_readLeaf_1 : decode cX2_readLeaf 1 = .ok (.getfield 18, 3) := by decide +kernel
theorem dX2_readLeaf_4 : decode cX2_readLeaf 4 = .ok (.iconst 2, 1) := by decide +kernel
theorem dX2_readLeaf_5 : decode cX2_readLeaf 5 = .ok (.if_icmp .ne 10, 3) := by decide +kernel
theorem dX2_readLeaf_8 : decode cX2_readLeaf 8 = .ok (.aload_n 0, 1) := by decide +kernel
theorem dX2_readLeaf_9 : decode cX2_readLeaf 9 = .ok (.invokevirtual 116, 3) := by decide +kernel
theorem dX2_readLeaf_12 : decode cX2_readLeaf 12 = .ok (.goto 7, 3) := by decide +kernel
theorem dX2_readLeaf_15 : decode cX2_readLeaf 15 = .ok (.aload_n 0, 1) := by decide +kernel
theorem dX2_readLeaf_16 : decode cX2_readLeaf 16 = .ok (.invokevirtual 119, 3) := by decide +kernel
theorem dX2_readLeaf_19 : decode cX2_readLeaf 19 = .ok (.istore_n 1, 1) := by decide +kernel
theorem dX2_readLeaf_20 : decode cX2_readLeaf 20 = .ok (.iload_n 1, 1) := by decide +kernel
theorem dX2_readLeaf_21 : decode cX2_readLeaf 21 = .ok (.ifCond .ge 8, 3) := by decide +kernel
theorem dX2_readLeaf_24 : decode cX2_readLeaf 24 = .ok (.aload_n 0, 1) := by decide +kernel
theorem dX2_readLeaf_25 : decode cX2_readLeaf 25 = .ok (.invokevirtual 57, 3) := by decide +kernel
theorem dX2_readLeaf_28 : decode cX2_readLeaf 28 = .ok (.return_, 1) := by decide +kernel
theorem dX2_readLeaf_29 : decode cX2_readLeaf 29 = .ok (.aload_n 0, 1) := by decide +kernel
theorem dX2_readLeaf_30 : decode cX2_readLeaf 30 = .ok (.iload_n 1, 1) := by decide +kernel
theorem dX2_readLeaf_31 : decode cX2_readLeaf 31 = .ok (.invokevirtual 103, 3) := by decide +kernel
theorem dX2_readLeaf_34 : decode cX2_readLeaf 34 = .ok (.aload_n 0, 1) := by decide +kernel
theorem dX2_readLeaf_35 : decode cX2_readLeaf 35 = .ok (.dup, 1) := by decide +kernel
theorem dX2_readLeaf_36 : decode cX2_readLeaf 36 = .ok (.getfield 38, 3) := by decide +kernel
theorem dX2_readLeaf_39 : decode cX2_readLeaf 39 = .ok (.iconst 1, 1) := by decide +kernel
theorem dX2_readLeaf_40 : decode cX2_readLeaf 40 = .ok (.iadd, 1) := by decide +kernel
theorem dX2_readLeaf_41 : decode cX2_readLeaf 41 = .ok (.putfield 38, 3) := by decide +kernel
theorem dX2_readLeaf_44 : decode cX2_readLeaf 44 = .ok (.aload_n 0, 1) := by decide +kernel
theorem dX2_readLeaf_45 : decode cX2_readLeaf 45 = .ok (.invokevirtual 50, 3) := by decide +kernel
theorem dX2_readLeaf_48 : decode cX2_readLeaf 48 = .ok (.return_, 1) := by decide +kernel
theorem kX2_103 : mthV RX2 103 2 yX2_write prog_4_method_17_code 2 (Option.none : Option Jvm.ClassFile.FieldType) 1 := ⟨⟨⟨tw_726, tw_63, tw_729⟩, rfl, by decide +kernel⟩, tw_728, tw_15, rfl⟩
theorem fX2_38 : fldOK RX2 38 2 7 .int false := ⟨_, _, _, tyX2, ⟨rfl, iX2, by decide, rfl, by decide⟩, tw_206, ⟨tyX2_ok, nmX2⟩, by decide +kernel, rfl, rfl⟩
theorem kX2_119 : mthV RX2 119 2 yX2_nameHere prog_4_method_16_code 3 (Option.some Jvm.ClassFile.FieldType.int) 0 := ⟨⟨⟨tw_742, tw_63, tw_745⟩, rfl, by decide +kernel⟩, tw_744, tw_19, rfl⟩
theorem kX2_116 : mthV RX2 116 2 yX2_numberHere prog_4_method_15_code 3 (Option.some Jvm.ClassFile.FieldType.int) 0 := ⟨⟨⟨tw_738, tw_63, tw_741⟩, rfl, by decide +kernel⟩, tw_740, tw_18, rfl⟩
def BX2_readLeaf_19 (ln : Nat → Nat) (post : HC → Prop) (S : HC) (x0 : Nat) (t0 : Int32) : Prop := if 0 ≤ t0 then (wpX2_write ln S x0 t0 fun S => lt_ (hI S x0 7) fun z1 => lt_ (z1 + (1 : Int32)) fun z2 => lt_ (sI S x0 7 z2) fun S => wpX2_advance ln S x0 fun S => post S) else (wpX2_fail ln S x0 fun S => post S)
def wpX2_readLeaf (ln : Nat → Nat) (S : HC) (a0 : Nat) (post : HC → Prop) : Prop := lt_ (hI S a0 1) fun z3 => if z3 = (2 : Int32) then (wpX2_numberHere ln S a0 fun z5 S => BX2_readLeaf_19 ln post S a0 z5) else (wpX2_nameHere ln S a0 fun z4 S => BX2_readLeaf_19 ln post S a0 z4)
abbrev rmX2_readLeaf : Room := { frames := 5, cells := 0, slots := 0, locals := 113 }
set_option maxHeartbeats 4000000 in
set_option maxRecDepth 100000 in
theorem ctX2_readLeaf {l : Launch} {g : GX} {N : Nat} {ln : Nat → Nat} {S : HC} {a0 : Nat} {post : HC → Prop} (hr_a0 : a0 < N) (hk_a0 : kd a0 = 2) (h : wpX2_readLeaf ln S a0 post) : Met l yX2_readLeaf (Cond.code yX2_readLeaf prog_4_method_14_code 2 (Option.none : Option Jvm.ClassFile.FieldType) :: gtbl) rmX2_readLeaf (va_Pc [.ref (gz g + a0)] (AtP g N ln S)) (QV g N ln post) 0 0 (gF g) := by
  refine m_of (by decide) (Nat.le_of_ble_eq_true rfl) ?_
  intro p e s m below meth c ls F hr I hl
  have hl : lv_has ls 2 [(0, .ref (gz g + a0))] := hl
  unfold wpX2_readLeaf at h
  have hj_19 : ∀ (S : HC) (H : Heap) (locs : List Loc) (ls : Array Slot) (x0 : Nat) (t0 : Int32), x0 < N → kd x0 = 2 → BX2_readLeaf_19 ln post S x0 t0 → Inv g N ln S s H locs → lv_has ls 2 [(0, .ref (gz g + x0))] → W p l e rmX2_readLeaf s m ([.ref (gz g + a0)] : List Value).toArray below meth c H locs 0 0 (MQ below (QV g N ln post) ([.ref (gz g + a0)] : List Value).toArray s 0 0 (gF g)) (F0 m 19 ls [.int t0]) := by
    intro S H locs ls x0 t0 hr_x0 hk_x0 h I hl
    unfold BX2_readLeaf_19 at h
    refine lv_istore_n (lv' := [(1, .int t0), (0, .ref (gz g + x0))]) F.1 F.2.1 dX2_readLeaf_19 rfl hl (by decide) rfl (fun ls hl => ?_)
    refine lv_iload_n F.1 F.2.1 dX2_readLeaf_20 rfl (lv_at hl 0 rfl) ?_
    refine r_if_ge (tgt := 29) F dX2_readLeaf_21 (by decide) h (fun h => ?_) (fun h => ?_)
    · refine lv_aload_n F.1 F.2.1 dX2_readLeaf_29 rfl (lv_at hl 1 rfl) ?_
      refine lv_iload_n F.1 F.2.1 dX2_readLeaf_30 rfl (lv_at hl 0 rfl) ?_
      refine g_V I (run_V (As := [.int t0]) (rest := []) F I hr_x0 hk_x0 (by decide) kX2_103 (ctX2_write hr_x0 hk_x0 h) ⟨rfl, rfl⟩ ⟨Nat.le_of_ble_eq_true rfl, Nat.le_of_ble_eq_true rfl⟩ rfl hl.1 rfl (Nat.le_of_ble_eq_true rfl) ⟨Nat.le_of_ble_eq_true rfl, Nat.le_of_ble_eq_true rfl⟩ dX2_readLeaf_31) (fun S H locs I h => ?_)
      refine lv_aload_n F.1 F.2.1 dX2_readLeaf_34 rfl (lv_at hl 1 rfl) ?_
      refine lv_dup F.1 F.2.1 dX2_readLeaf_35 rfl ?_
      refine r_getI F I hr_x0 hk_x0 fX2_38 rfl dX2_readLeaf_36 h (fun z1 h => ?_)
      refine lv_iconst (v := 1) F.1 F.2.1 dX2_readLeaf_39 (by decide) ?_
      refine r_iadd F dX2_readLeaf_40 h (fun z2 h => ?_)
      refine r_putI F I hr_x0 hk_x0 fX2_38 rfl (Or.inl rfl) ⟨rfl, rfl⟩ dX2_readLeaf_41 h (fun S H locs I h => ?_)
      refine lv_aload_n F.1 F.2.1 dX2_readLeaf_44 rfl (lv_at hl 1 rfl) ?_
      refine g_V I (run_V (As := []) (rest := []) F I hr_x0 hk_x0 (by decide) kX2_50 (ctX2_advance hr_x0 hk_x0 h) ⟨rfl, rfl⟩ ⟨Nat.le_of_ble_eq_true rfl, Nat.le_of_ble_eq_true rfl⟩ rfl hl.1 rfl (Nat.le_of_ble_eq_true rfl) ⟨Nat.le_of_ble_eq_true rfl, Nat.le_of_ble_eq_true rfl⟩ dX2_readLeaf_45) (fun S H locs I h => ?_)
      exact r_vreturn F I ⟨hr.1, hr.2.1, trivial⟩ h dX2_readLeaf_48
    · refine lv_aload_n F.1 F.2.1 dX2_readLeaf_24 rfl (lv_at hl 1 rfl) ?_
      refine g_V I (run_V (As := []) (rest := []) F I hr_x0 hk_x0 (by decide) kX2_57 (ctX2_fail hr_x0 hk_x0 h) ⟨rfl, rfl⟩ ⟨Nat.le_of_ble_eq_true rfl, Nat.le_of_ble_eq_true rfl⟩ rfl hl.1 rfl (Nat.le_of_ble_eq_true rfl) ⟨Nat.le_of_ble_eq_true rfl, Nat.le_of_ble_eq_true rfl⟩ dX2_readLeaf_25) (fun S H locs I h => ?_)
      exact r_vreturn F I ⟨hr.1, hr.2.1, trivial⟩ h dX2_readLeaf_28
  refine lv_aload_n F.1 F.2.1 dX2_readLeaf_0 rfl (lv_at hl 0 rfl) ?_
  refine r_getI F I hr_a0 hk_a0 fX2_18 rfl dX2_readLeaf_1 h (fun z3 h => ?_)
  refine lv_iconst (v := 2) F.1 F.2.1 dX2_readLeaf_4 (by decide) ?_
  refine r_icmp_ne (tgt := 15) F dX2_readLeaf_5 (by decide) h (fun h => ?_) (fun h => ?_)
  · refine lv_aload_n F.1 F.2.1 dX2_readLeaf_15 rfl (lv_at hl 0 rfl) ?_
    refine g_I I (run_V (As := []) (rest := []) F I hr_a0 hk_a0 (by decide) kX2_119 (ctX2_nameHere hr_a0 hk_a0 h) ⟨rfl, rfl⟩ ⟨Nat.le_of_ble_eq_true rfl, Nat.le_of_ble_eq_true rfl⟩ rfl hl.1 rfl (Nat.le_of_ble_eq_true rfl) ⟨Nat.le_of_ble_eq_true rfl, Nat.le_of_ble_eq_true rfl⟩ dX2_readLeaf_16) (fun z4 S H locs I h => ?_)
    exact hj_19 S _ _ _ a0 z4 hr_a0 hk_a0 h I (lv_sub hl [0] rfl)
  · refine lv_aload_n F.1 F.2.1 dX2_readLeaf_8 rfl (lv_at hl 0 rfl) ?_
    refine g_I I (run_V (As := []) (rest := []) F I hr_a0 hk_a0 (by decide) kX2_116 (ctX2_numberHere hr_a0 hk_a0 h) ⟨rfl, rfl⟩ ⟨Nat.le_of_ble_eq_true rfl, Nat.le_of_ble_eq_true rfl⟩ rfl hl.1 rfl (Nat.le_of_ble_eq_true rfl) ⟨Nat.le_of_ble_eq_true rfl, Nat.le_of_ble_eq_true rfl⟩ dX2_readLeaf_9) (fun z5 S H locs I h => ?_)
    refine lv_goto (tgt := 19) F.1 F.2.1 dX2_readLeaf_12 (by decide) ?_
    exact hj_19 S _ _ _ a0 z5 hr_a0 hk_a0 h I (lv_sub hl [0] rfl)
theorem dX2_isWord_0 : decode cX2_isWord 0 = .ok (.aload_n 0, 1) := by decide +kernel
theorem dX2_isWord_1 : decode cX2_isWord 1 = .ok (.getfield 18, 3) := by decide +kernel
theorem dX2_isWord_4 : decode cX2_isWord 4 = .ok (.iconst 1, 1) := by decide +kernel
theorem dX2_isWord_5 : decode cX2_isWord 5 = .ok (.if_icmp .ne 19, 3) := by decide +kernel
theorem dX2_isWord_8 : decode cX2_isWord 8 = .ok (.aload_n 0, 1) := by decide +kernel
theorem dX2_isWord_9 : decode cX2_isWord 9 = .ok (.getfield 25, 3) := by decide +kernel
theorem dX2_isWord_12 : decode cX2_isWord 12 = .ok (.aload_n 0, 1) := by decide +kernel
theorem dX2_isWord_13 : decode cX2_isWord 13 = .ok (.getfield 22, 3) := by decide +kernel
theorem dX2_isWord_16 : decode cX2_isWord 16 = .ok (.isub, 1) := by decide +kernel
theorem dX2_isWord_17 : decode cX2_isWord 17 = .ok (.aload_n 1, 1) := by decide +kernel
theorem dX2_isWord_18 : decode cX2_isWord 18 = .ok (.invokevirtual 89, 3) := by decide +kernel
theorem dX2_isWord_21 : decode cX2_isWord 21 = .ok (.if_icmp .eq 5, 3) := by decide +kernel
theorem dX2_isWord_24 : decode cX2_isWord 24 = .ok (.iconst 0, 1) := by decide +kernel
theorem dX2_isWord_25 : decode cX2_isWord 25 = .ok (.ireturn, 1) := by decide +kernel
theorem dX2_isWord_26 : decode cX2_isWord 26 = .ok (.iconst 0, 1) := by decide +kernel
theorem dX2_isWord_27 : decode cX2_isWord 27 = .ok (.istore_n 2, 1) := by decide +kernel
theorem dX2_isWord_28 : decode cX2_isWord 28 = .ok (.iload_n 2, 1) := by decide +kernel
theorem dX2_isWord_29 : decode cX2_isWord 29 = .ok (.aload_n 1, 1) := by decide +kernel
theorem dX2_isWord_30 : decode cX2_isWord 30 = .ok (.invokevirtual 89, 3) := by decide +kernel
theorem dX2_isWord_33 : decode cX2_isWord 33 = .ok (.if_icmp .ge 32, 3) := by decide +kernel
theorem dX2_isWord_36 : decode cX2_isWord 36 = .ok (.aload_n 0, 1) := by decide +kernel
theorem dX2_isWord_37 : decode cX2_isWord 37 = .ok (.getfield 12, 3) := by decide +kernel
theorem dX2_isWord_40 : decode cX2_isWord 40 = .ok (.aload_n 0, 1) := by decide +kernel
theorem dX2_isWord_41 : decode cX2_isWord 41 = .ok (.getfield 22, 3) := by decide +kernel
theorem dX2_isWord_44 : decode cX2_isWord 44 = .ok (.iload_n 2, 1) := by decide +kernel
theorem dX2_isWord_45 : decode cX2_isWord 45 = .ok (.iadd, 1) := by decide +kernel
theorem dX2_isWord_46 : decode cX2_isWord 46 = .ok (.invokevirtual 72, 3) := by decide +kernel
theorem dX2_isWord_49 : decode cX2_isWord 49 = .ok (.aload_n 1, 1) := by decide +kernel
theorem dX2_isWord_50 : decode cX2_isWord 50 = .ok (.iload_n 2, 1) := by decide +kernel
theorem dX2_isWord_51 : decode cX2_isWord 51 = .ok (.invokevirtual 93, 3) := by decide +kernel
theorem dX2_isWord_54 : decode cX2_isWord 54 = .ok (.if_icmp .eq 5, 3) := by decide +kernel
theorem dX2_isWord_57 : decode cX2_isWord 57 = .ok (.iconst 0, 1) := by decide +kernel
theorem dX2_isWord_58 : decode cX2_isWord 58 = .ok (.ireturn, 1) := by decide +kernel
theorem dX2_isWord_59 : decode cX2_isWord 59 = .ok (.iinc 2 1, 3) := by decide +kernel
theorem dX2_isWord_62 : decode cX2_isWord 62 = .ok (.goto (-34), 3) := by decide +kernel
theorem dX2_isWord_65 : decode cX2_isWord 65 = .ok (.iconst 1, 1) := by decide +kernel
theorem dX2_isWord_66 : decode cX2_isWord 66 = .ok (.ireturn, 1) := by decide +kernel
theorem kX2_89 : mthT RX2 89 yJ0_length_8abf5 prog_14_method_54_code 1 (Option.some Jvm.ClassFile.FieldType.int) 0 := ⟨⟨⟨tw_660, tw_71, tw_663⟩, rfl, by decide +kernel⟩, tw_661, tw_662⟩
theorem kX2_93 : mthT RX2 93 yJ0_charAt_5068e prog_14_method_56_code 2 (Option.some Jvm.ClassFile.FieldType.char) 1 := ⟨⟨⟨tw_670, tw_71, tw_673⟩, rfl, by decide +kernel⟩, tw_671, tw_672⟩
def LX2_isWord_28 (ln : Nat → Nat) (post : Int32 → HC → Prop) : Nat → HC → Nat → Nat → Int32 → Prop
  | 0 => fun _ _ _ _ => False
  | n28 + 1 => fun S x0 x1 x2 => wpJ0_length_8abf5 ln S x1 fun z1 S => if z1 ≤ x2 then (rb_ .boolean (1 : Int32) (post (1 : Int32) S)) else (dn_ (hR S x0 0) fun b2 => lt_ (hI S x0 2) fun z3 => lt_ (z3 + x2) fun z4 => wpX6_at ln S b2 z4 fun z5 S => wpJ0_charAt_5068e ln S x1 x2 fun z6 S => if z5 = z6 then (lt_ (x2 + (1 : Int32)) fun z7 => (LX2_isWord_28 ln post n28) S x0 x1 z7) else (rb_ .boolean (0 : Int32) (post (0 : Int32) S)))
def BX2_isWord_24 (ln : Nat → Nat) (post : Int32 → HC → Prop) (S : HC)  : Prop := rb_ .boolean (0 : Int32) (post (0 : Int32) S)
def wpX2_isWord (ln : Nat → Nat) (S : HC) (a0 : Nat) (a1 : Nat) (post : Int32 → HC → Prop) : Prop := lt_ (hI S a0 1) fun z8 => if z8 = (1 : Int32) then (lt_ (hI S a0 3) fun z9 => lt_ (hI S a0 2) fun z10 => lt_ (z9 - z10) fun z11 => wpJ0_length_8abf5 ln S a1 fun z12 S => if z11 = z12 then (∃ n28, LX2_isWord_28 ln post n28 S a0 a1 (0 : Int32)) else (BX2_isWord_24 ln post S)) else (BX2_isWord_24 ln post S)
abbrev rmX2_isWord : Room := { frames := 4, cells := 0, slots := 0, locals := 85 }
set_option maxHeartbeats 4000000 in
set_option maxRecDepth 100000 in
theorem ctX2_isWord {l : Launch} {g : GX} {N : Nat} {ln : Nat → Nat} {S : HC} {a0 : Nat} {a1 : Nat} {post : Int32 → HC → Prop} (hr_a0 : a0 < N) (hk_a0 : kd a0 = 2) (hs_a1 : a1 < 6) (h : wpX2_isWord ln S a0 a1 post) : Met l yX2_isWord (Cond.code yX2_isWord prog_4_method_8_code 3 (Option.some Jvm.ClassFile.FieldType.boolean) :: gtbl) rmX2_isWord (va_Pc [.ref (gz g + a0), .ref (gK g a1)] (AtP g N ln S)) (QI g N ln post) 0 0 (gF g) := by
  refine m_of (by decide) (Nat.le_of_ble_eq_true rfl) ?_
  intro p e s m below meth c ls F hr I hl
  have hl : lv_has ls 3 [(0, .ref (gz g + a0)), (1, .ref (gK g a1))] := hl
  unfold wpX2_isWord at h
  have hl_28 : ∀ n28 : Nat, ∀ (S : HC) (H : Heap) (locs : List Loc) (ls : Array Slot) (x0 : Nat) (x1 : Nat) (x2 : Int32), x0 < N → kd x0 = 2 → x1 < 6 → LX2_isWord_28 ln post n28 S x0 x1 x2 → Inv g N ln S s H locs → lv_has ls 3 [(0, .ref (gz g + x0)), (1, .ref (gK g x1)), (2, .int x2)] → W p l e rmX2_isWord s m ([.ref (gz g + a0), .ref (gK g a1)] : List Value).toArray below meth c H locs 0 0 (MQ below (QI g N ln post) ([.ref (gz g + a0), .ref (gK g a1)] : List Value).toArray s 0 0 (gF g)) (F0 m 28 ls []) := by
    intro n28
    induction n28 with
    | zero =>
      intro S H locs ls x0 x1 x2 hr_x0 hk_x0 hs_x1 h I hl
      exact h.elim
    | succ n28 ih =>
      have hk28 := ih
      intro S H locs ls x0 x1 x2 hr_x0 hk_x0 hs_x1 h I hl
      rw [LX2_isWord_28] at h
      refine lv_iload_n F.1 F.2.1 dX2_isWord_28 rfl (lv_at hl 2 rfl) ?_
      refine lv_aload_n F.1 F.2.1 dX2_isWord_29 rfl (lv_at hl 1 rfl) ?_
      refine g_I I (run_T (As := []) (rest := [.int x2]) F I hs_x1 kX2_89 (ctJ0_length_8abf5 hs_x1 h) ⟨rfl, rfl⟩ ⟨Nat.le_of_ble_eq_true rfl, Nat.le_of_ble_eq_true rfl⟩ rfl hl.1 rfl (Nat.le_of_ble_eq_true rfl) ⟨Nat.le_of_ble_eq_true rfl, Nat.le_of_ble_eq_true rfl⟩ dX2_isWord_30) (fun z1 S H locs I h => ?_)
      refine r_icmp_ge (tgt := 65) F dX2_isWord_33 (by decide) h (fun h => ?_) (fun h => ?_)
      · refine lv_iconst (v := 1) F.1 F.2.1 dX2_isWord_65 (by decide) ?_
        exact r_zreturn F I ⟨hr.1, hr.2.1, trivial⟩ h dX2_isWord_66
      · refine lv_aload_n F.1 F.2.1 dX2_isWord_36 rfl (lv_at hl 0 rfl) ?_
        refine r_getN F I hr_x0 hk_x0 fX2_12 (f := 6) rfl (by decide) dX2_isWord_37 h (fun b2 hr_b2 hk_b2 h => ?_)
        refine lv_aload_n F.1 F.2.1 dX2_isWord_40 rfl (lv_at hl 0 rfl) ?_
        refine r_getI F I hr_x0 hk_x0 fX2_22 rfl dX2_isWord_41 h (fun z3 h => ?_)
        refine lv_iload_n F.1 F.2.1 dX2_isWord_44 rfl (lv_at hl 2 rfl) ?_
        refine r_iadd F dX2_isWord_45 h (fun z4 h => ?_)
        refine g_I I (run_V (As := [.int z4]) (rest := []) F I hr_b2 hk_b2 (by decide) kX2_72 (ctX6_at hr_b2 hk_b2 h) ⟨rfl, rfl⟩ ⟨Nat.le_of_ble_eq_true rfl, Nat.le_of_ble_eq_true rfl⟩ rfl hl.1 rfl (Nat.le_of_ble_eq_true rfl) ⟨Nat.le_of_ble_eq_true rfl, Nat.le_of_ble_eq_true rfl⟩ dX2_isWord_46) (fun z5 S H locs I h => ?_)
        refine lv_aload_n F.1 F.2.1 dX2_isWord_49 rfl (lv_at hl 1 rfl) ?_
        refine lv_iload_n F.1 F.2.1 dX2_isWord_50 rfl (lv_at hl 2 rfl) ?_
        refine g_I I (run_T (As := [.int x2]) (rest := [.int z5]) F I hs_x1 kX2_93 (ctJ0_charAt_5068e hs_x1 h) ⟨rfl, rfl⟩ ⟨Nat.le_of_ble_eq_true rfl, Nat.le_of_ble_eq_true rfl⟩ rfl hl.1 rfl (Nat.le_of_ble_eq_true rfl) ⟨Nat.le_of_ble_eq_true rfl, Nat.le_of_ble_eq_true rfl⟩ dX2_isWord_51) (fun z6 S H locs I h => ?_)
        refine r_icmp_eq (tgt := 59) F dX2_isWord_54 (by decide) h (fun h => ?_) (fun h => ?_)
        · obtain ⟨z7, e_z7, h⟩ := lt_x h
          refine lv_iinc (v := z7) (lv' := [(2, .int z7), (0, .ref (gz g + x0)), (1, .ref (gK g x1))]) F.1 F.2.1 dX2_isWord_59 hl (k := 2) rfl (by rw [e_z7]; rfl) (by decide) rfl (fun ls hl => ?_)
          refine lv_goto (tgt := 28) F.1 F.2.1 dX2_isWord_62 (by decide) ?_
          exact hk28 S _ _ _ x0 x1 z7 hr_x0 hk_x0 hs_x1 h I (lv_sub hl [1, 2, 0] rfl)
        · refine lv_iconst (v := 0) F.1 F.2.1 dX2_isWord_57 (by decide) ?_
          exact r_zreturn F I ⟨hr.1, hr.2.1, trivial⟩ h dX2_isWord_58
  have hj_24 : ∀ (S : HC) (H : Heap) (locs : List Loc) (ls : Array Slot), BX2_isWord_24 ln post S  → Inv g N ln S s H locs → lv_has ls 3 [] → W p l e rmX2_isWord s m ([.ref (gz g + a0), .ref (gK g a1)] : List Value).toArray below meth c H locs 0 0 (MQ below (QI g N ln post) ([.ref (gz g + a0), .ref (gK g a1)] : List Value).toArray s 0 0 (gF g)) (F0 m 24 ls []) := by
    intro S H locs ls h I hl
    unfold BX2_isWord_24 at h
    refine lv_iconst (v := 0) F.1 F.2.1 dX2_isWord_24 (by decide) ?_
    exact r_zreturn F I ⟨hr.1, hr.2.1, trivial⟩ h dX2_isWord_25
  refine lv_aload_n F.1 F.2.1 dX2_isWord_0 rfl (lv_at hl 0 rfl) ?_
  refine r_getI F I hr_a0 hk_a0 fX2_18 rfl dX2_isWord_1 h (fun z8 h => ?_)
  refine lv_iconst (v := 1) F.1 F.2.1 dX2_isWord_4 (by decide) ?_
  refine r_icmp_ne (tgt := 24) F dX2_isWord_5 (by decide) h (fun h => ?_) (fun h => ?_)
  · exact hj_24 S _ _ _   h I (lv_sub hl [] rfl)
  · refine lv_aload_n F.1 F.2.1 dX2_isWord_8 rfl (lv_at hl 0 rfl) ?_
    refine r_getI F I hr_a0 hk_a0 fX2_25 rfl dX2_isWord_9 h (fun z9 h => ?_)
    refine lv_aload_n F.1 F.2.1 dX2_isWord_12 rfl (lv_at hl 0 rfl) ?_
    refine r_getI F I hr_a0 hk_a0 fX2_22 rfl dX2_isWord_13 h (fun z10 h => ?_)
    refine r_isub F dX2_isWord_16 h (fun z11 h => ?_)
    refine lv_aload_n F.1 F.2.1 dX2_isWord_17 rfl (lv_at hl 1 rfl) ?_
    refine g_I I (run_T (As := []) (rest := [.int z11]) F I hs_a1 kX2_89 (ctJ0_length_8abf5 hs_a1 h) ⟨rfl, rfl⟩ ⟨Nat.le_of_ble_eq_true rfl, Nat.le_of_ble_eq_true rfl⟩ rfl hl.1 rfl (Nat.le_of_ble_eq_true rfl) ⟨Nat.le_of_ble_eq_true rfl, Nat.le_of_ble_eq_true rfl⟩ dX2_isWord_18) (fun z12 S H locs I h => ?_)
    refine r_icmp_eq (tgt := 26) F dX2_isWord_21 (by decide) h (fun h => ?_) (fun h => ?_)
    · refine lv_iconst (v := 0) F.1 F.2.1 dX2_isWord_26 (by decide) ?_
      refine lv_istore_n (lv' := [(2, .int (0 : Int32)), (0, .ref (gz g + a0)), (1, .ref (gK g a1))]) F.1 F.2.1 dX2_isWord_27 rfl hl (by decide) rfl (fun ls hl => ?_)
      obtain ⟨n28, h⟩ := h
      exact hl_28 n28 S _ _ _ a0 a1 (0 : Int32) hr_a0 hk_a0 hs_a1 h I (lv_sub hl [1, 2, 0] rfl)
    · exact hj_24 S _ _ _   h I (lv_sub hl [] rfl)
theorem dX2_keyHere_0 : decode cX2_keyHere 0 = .ok (.aload_n 0, 1) := by decide +kernel
theorem dX2_keyHere_1 : decode cX2_keyHere 1 = .ok (.ldc 79, 2) := by decide +kernel
theorem dX2_keyHere_3 : decode cX2_keyHere 3 = .ok (.invokevirtual 81, 3) := by decide +kernel
theorem dX2_keyHere_6 : decode cX2_keyHere 6 = .ok (.ifCond .eq 5, 3) := by decide +kernel
theorem dX2_keyHere_9 : decode cX2_keyHere 9 = .ok (.iconst 0, 1) := by decide +kernel
theorem dX2_keyHere_10 : decode cX2_keyHere 10 = .ok (.ireturn, 1) := by decide +kernel
theorem dX2_keyHere_11 : decode cX2_keyHere 11 = .ok (.aload_n 0, 1) := by decide +kernel
theorem dX2_keyHere_12 : decode cX2_keyHere 12 = .ok (.ldc 85, 2) := by decide +kernel
theorem dX2_keyHere_14 : decode cX2_keyHere 14 = .ok (.invokevirtual 81, 3) := by decide +kernel
theorem dX2_keyHere_17 : decode cX2_keyHere 17 = .ok (.ifCond .eq 5, 3) := by decide +kernel
theorem dX2_keyHere_20 : decode cX2_keyHere 20 = .ok (.iconst 1, 1) := by decide +kernel
theorem dX2_keyHere_21 : decode cX2_keyHere 21 = .ok (.ireturn, 1) := by decide +kernel
theorem dX2_keyHere_22 : decode cX2_keyHere 22 = .ok (.aload_n 0, 1) := by decide +kernel
theorem dX2_keyHere_23 : decode cX2_keyHere 23 = .ok (.ldc 87, 2) := by decide +kernel
theorem dX2_keyHere_25 : decode cX2_keyHere 25 = .ok (.invokevirtual 81, 3) := by decide +kernel
theorem dX2_keyHere_28 : decode cX2_keyHere 28 = .ok (.ifCond .eq 7, 3) := by decide +kernel
theorem dX2_keyHere_31 : decode cX2_keyHere 31 = .ok (.iconst 2, 1) := by decide +kernel
theorem dX2_keyHere_32 : decode cX2_keyHere 32 = .ok (.goto 4, 3) := by decide +kernel
theorem dX2_keyHere_35 : decode cX2_keyHere 35 = .ok (.iconst (-1), 1) := by decide +kernel
theorem dX2_keyHere_36 : decode cX2_keyHere 36 = .ok (.ireturn, 1) := by decide +kernel
theorem kX2_81 : mthV RX2 81 2 yX2_isWord prog_4_method_8_code 3 (Option.some Jvm.ClassFile.FieldType.boolean) 1 := ⟨⟨⟨tw_656, tw_63, tw_659⟩, rfl, by decide +kernel⟩, tw_658, tw_10, rfl⟩
def wpX2_keyHere (ln : Nat → Nat) (S : HC) (a0 : Nat) (post : Int32 → HC → Prop) : Prop := wpX2_isWord ln S a0 0 fun z1 S => if z1 = 0 then (wpX2_isWord ln S a0 1 fun z2 S => if z2 = 0 then (wpX2_isWord ln S a0 2 fun z3 S => if z3 = 0 then (post (-1 : Int32) S) else (post (2 : Int32) S)) else (post (1 : Int32) S)) else (post (0 : Int32) S)
abbrev rmX2_keyHere : Room := { frames := 5, cells := 0, slots := 0, locals := 107 }
set_option maxHeartbeats 4000000 in
set_option maxRecDepth 100000 in
theorem ctX2_keyHere {l : Launch} {g : GX} {N : Nat} {ln : Nat → Nat} {S : HC} {a0 : Nat} {post : Int32 → HC → Prop} (hr_a0 : a0 < N) (hk_a0 : kd a0 = 2) (h : wpX2_keyHere ln S a0 post) : Met l yX2_keyHere (Cond.code yX2_keyHere prog_4_method_7_code 1 (Option.some Jvm.ClassFile.FieldType.int) :: gtbl) rmX2_keyHere (va_Pc [.ref (gz g + a0)] (AtP g N ln S)) (QI g N ln post) 0 0 (gF g) := by
  refine m_of (by decide) (Nat.le_of_ble_eq_true rfl) ?_
  intro p e s m below meth c ls F hr I hl
  have hl : lv_has ls 1 [(0, .ref (gz g + a0))] := hl
  unfold wpX2_keyHere at h
  refine lv_aload_n F.1 F.2.1 dX2_keyHere_0 rfl (lv_at hl 0 rfl) ?_
  have hs_0 : (0 : Nat) < 6 := by decide
  refine va_ldcS F.1 F.2.1 F.2.2.2.1 (I.2.2.1.1.2.2 0 hs_0) dX2_keyHere_1 ?_
  refine g_I I (run_V (As := [.ref (gK g 0)]) (rest := []) F I hr_a0 hk_a0 (by decide) kX2_81 (ctX2_isWord hr_a0 hk_a0 hs_0 h) ⟨rfl, rfl⟩ ⟨Nat.le_of_ble_eq_true rfl, Nat.le_of_ble_eq_true rfl⟩ rfl hl.1 rfl (Nat.le_of_ble_eq_true rfl) ⟨Nat.le_of_ble_eq_true rfl, Nat.le_of_ble_eq_true rfl⟩ dX2_keyHere_3) (fun z1 S H locs I h => ?_)
  refine r_if_eq (tgt := 11) F dX2_keyHere_6 (by decide) h (fun h => ?_) (fun h => ?_)
  · refine lv_aload_n F.1 F.2.1 dX2_keyHere_11 rfl (lv_at hl 0 rfl) ?_
    have hs_1 : (1 : Nat) < 6 := by decide
    refine va_ldcS F.1 F.2.1 F.2.2.2.1 (I.2.2.1.1.2.2 1 hs_1) dX2_keyHere_12 ?_
    refine g_I I (run_V (As := [.ref (gK g 1)]) (rest := []) F I hr_a0 hk_a0 (by decide) kX2_81 (ctX2_isWord hr_a0 hk_a0 hs_1 h) ⟨rfl, rfl⟩ ⟨Nat.le_of_ble_eq_true rfl, Nat.le_of_ble_eq_true rfl⟩ rfl hl.1 rfl (Nat.le_of_ble_eq_true rfl) ⟨Nat.le_of_ble_eq_true rfl, Nat.le_of_ble_eq_true rfl⟩ dX2_keyHere_14) (fun z2 S H locs I h => ?_)
    refine r_if_eq (tgt := 22) F dX2_keyHere_17 (by decide) h (fun h => ?_) (fun h => ?_)
    · refine lv_aload_n F.1 F.2.1 dX2_keyHere_22 rfl (lv_at hl 0 rfl) ?_
      have hs_2 : (2 : Nat) < 6 := by decide
      refine va_ldcS F.1 F.2.1 F.2.2.2.1 (I.2.2.1.1.2.2 2 hs_2) dX2_keyHere_23 ?_
      refine g_I I (run_V (As := [.ref (gK g 2)]) (rest := []) F I hr_a0 hk_a0 (by decide) kX2_81 (ctX2_isWord hr_a0 hk_a0 hs_2 h) ⟨rfl, rfl⟩ ⟨Nat.le_of_ble_eq_true rfl, Nat.le_of_ble_eq_true rfl⟩ rfl hl.1 rfl (Nat.le_of_ble_eq_true rfl) ⟨Nat.le_of_ble_eq_true rfl, Nat.le_of_ble_eq_true rfl⟩ dX2_keyHere_25) (fun z3 S H locs I h => ?_)
      refine r_if_eq (tgt := 35) F dX2_keyHere_28 (by decide) h (fun h => ?_) (fun h => ?_)
      · refine lv_iconst (v := -1) F.1 F.2.1 dX2_keyHere_35 (by decide) ?_
        exact r_ireturn F I ⟨hr.1, hr.2.1, trivial⟩ h dX2_keyHere_36
      · refine lv_iconst (v := 2) F.1 F.2.1 dX2_keyHere_31 (by decide) ?_
        refine lv_goto (tgt := 36) F.1 F.2.1 dX2_keyHere_32 (by decide) ?_
        exact r_ireturn F I ⟨hr.1, hr.2.1, trivial⟩ h dX2_keyHere_36
    · refine lv_iconst (v := 1) F.1 F.2.1 dX2_keyHere_20 (by decide) ?_
      exact r_ireturn F I ⟨hr.1, hr.2.1, trivial⟩ h dX2_keyHere_21
  · refine lv_iconst (v := 0) F.1 F.2.1 dX2_keyHere_9 (by decide) ?_
    exact r_ireturn F I ⟨hr.1, hr.2.1, trivial⟩ h dX2_keyHere_10
abbrev rmR (d : Nat) : Room := { frames := d + 20, cells := 0, slots := 0, locals := d * 30 + 200 }
theorem dX2_readLevel_0 : decode cX2_readLevel 0 = .ok (.iload_n 1, 1) := by decide +kernel
theorem dX2_readLevel_1 : decode cX2_readLevel 1 = .ok (.iconst 5, 1) := by decide +kernel
theorem dX2_readLevel_2 : decode cX2_readLevel 2 = .ok (.if_icmp .lt 8, 3) := by decide +kernel
theorem dX2_readLevel_5 : decode cX2_readLevel 5 = .ok (.aload_n 0, 1) := by decide +kernel
theorem dX2_readLevel_6 : decode cX2_readLevel 6 = .ok (.invokevirtual 97, 3) := by decide +kernel
theorem dX2_readLevel_9 : decode cX2_readLevel 9 = .ok (.return_, 1) := by decide +kernel
theorem dX2_readLevel_10 : decode cX2_readLevel 10 = .ok (.aload_n 0, 1) := by decide +kernel
theorem dX2_readLevel_11 : decode cX2_readLevel 11 = .ok (.iload_n 1, 1) := by decide +kernel
theorem dX2_readLevel_12 : decode cX2_readLevel 12 = .ok (.iconst 1, 1) := by decide +kernel
theorem dX2_readLevel_13 : decode cX2_readLevel 13 = .ok (.iadd, 1) := by decide +kernel
theorem dX2_readLevel_14 : decode cX2_readLevel 14 = .ok (.invokevirtual 60, 3) := by decide +kernel
theorem dX2_readLevel_17 : decode cX2_readLevel 17 = .ok (.iload_n 1, 1) := by decide +kernel
theorem dX2_readLevel_18 : decode cX2_readLevel 18 = .ok (.iconst 2, 1) := by decide +kernel
theorem dX2_readLevel_19 : decode cX2_readLevel 19 = .ok (.if_icmp .ne 7, 3) := by decide +kernel
theorem dX2_readLevel_22 : decode cX2_readLevel 22 = .ok (.iconst 1, 1) := by decide +kernel
theorem dX2_readLevel_23 : decode cX2_readLevel 23 = .ok (.goto 5, 3) := by decide +kernel
theorem dX2_readLevel_26 : decode cX2_readLevel 26 = .ok (.bipush 96, 2) := by decide +kernel
theorem dX2_readLevel_28 : decode cX2_readLevel 28 = .ok (.istore_n 2, 1) := by decide +kernel
theorem dX2_readLevel_29 : decode cX2_readLevel 29 = .ok (.iconst 0, 1) := by decide +kernel
theorem dX2_readLevel_30 : decode cX2_readLevel 30 = .ok (.istore_n 3, 1) := by decide +kernel
theorem dX2_readLevel_31 : decode cX2_readLevel 31 = .ok (.iload_n 3, 1) := by decide +kernel
theorem dX2_readLevel_32 : decode cX2_readLevel 32 = .ok (.iload_n 2, 1) := by decide +kernel
theorem dX2_readLevel_33 : decode cX2_readLevel 33 = .ok (.if_icmp .ge 58, 3) := by decide +kernel
theorem dX2_readLevel_36 : decode cX2_readLevel 36 = .ok (.aload_n 0, 1) := by decide +kernel
theorem dX2_readLevel_37 : decode cX2_readLevel 37 = .ok (.getfield 47, 3) := by decide +kernel
theorem dX2_readLevel_40 : decode cX2_readLevel 40 = .ok (.ifCond .ge 51, 3) := by decide +kernel
theorem dX2_readLevel_43 : decode cX2_readLevel 43 = .ok (.aload_n 0, 1) := by decide +kernel
theorem dX2_readLevel_44 : decode cX2_readLevel 44 = .ok (.invokevirtual 100, 3) := by decide +kernel
theorem dX2_readLevel_47 : decode cX2_readLevel 47 = .ok (.iload_n 1, 1) := by decide +kernel
theorem dX2_readLevel_48 : decode cX2_readLevel 48 = .ok (.if_icmp .ne 43, 3) := by decide +kernel
theorem dX2_readLevel_51 : decode cX2_readLevel 51 = .ok (.aload_n 0, 1) := by decide +kernel
theorem dX2_readLevel_52 : decode cX2_readLevel 52 = .ok (.getfield 12, 3) := by decide +kernel
theorem dX2_readLevel_55 : decode cX2_readLevel 55 = .ok (.aload_n 0, 1) := by decide +kernel
theorem dX2_readLevel_56 : decode cX2_readLevel 56 = .ok (.getfield 22, 3) := by decide +kernel
theorem dX2_readLevel_59 : decode cX2_readLevel 59 = .ok (.invokevirtual 72, 3) := by decide +kernel
theorem dX2_readLevel_62 : decode cX2_readLevel 62 = .ok (.istore 4, 2) := by decide +kernel
theorem dX2_readLevel_64 : decode cX2_readLevel 64 = .ok (.aload_n 0, 1) := by decide +kernel
theorem dX2_readLevel_65 : decode cX2_readLevel 65 = .ok (.invokevirtual 50, 3) := by decide +kernel
theorem dX2_readLevel_68 : decode cX2_readLevel 68 = .ok (.aload_n 0, 1) := by decide +kernel
theorem dX2_readLevel_69 : decode cX2_readLevel 69 = .ok (.iload_n 1, 1) := by decide +kernel
theorem dX2_readLevel_70 : decode cX2_readLevel 70 = .ok (.iconst 1, 1) := by decide +kernel
theorem dX2_readLevel_71 : decode cX2_readLevel 71 = .ok (.iadd, 1) := by decide +kernel
theorem dX2_readLevel_72 : decode cX2_readLevel 72 = .ok (.invokevirtual 60, 3) := by decide +kernel
theorem dX2_readLevel_75 : decode cX2_readLevel 75 = .ok (.aload_n 0, 1) := by decide +kernel
theorem dX2_readLevel_76 : decode cX2_readLevel 76 = .ok (.sipush 20000, 3) := by decide +kernel
theorem dX2_readLevel_79 : decode cX2_readLevel 79 = .ok (.iload 4, 2) := by decide +kernel
theorem dX2_readLevel_81 : decode cX2_readLevel 81 = .ok (.iadd, 1) := by decide +kernel
theorem dX2_readLevel_82 : decode cX2_readLevel 82 = .ok (.invokevirtual 103, 3) := by decide +kernel
theorem dX2_readLevel_85 : decode cX2_readLevel 85 = .ok (.iinc 3 1, 3) := by decide +kernel
theorem dX2_readLevel_88 : decode cX2_readLevel 88 = .ok (.goto (-57), 3) := by decide +kernel
theorem dX2_readLevel_91 : decode cX2_readLevel 91 = .ok (.return_, 1) := by decide +kernel
theorem kX2_100 : mthV RX2 100 2 yX2_levelHere prog_4_method_10_code 1 (Option.some Jvm.ClassFile.FieldType.int) 0 := ⟨⟨⟨tw_804, tw_63, tw_807⟩, rfl, by decide +kernel⟩, tw_806, tw_20, rfl⟩
theorem kX2_60 : mthV RX2 60 2 yX2_readLevel prog_4_method_11_code 5 (Option.none : Option Jvm.ClassFile.FieldType) 1 := ⟨⟨⟨tw_714, tw_63, tw_717⟩, rfl, by decide +kernel⟩, tw_716, tw_12, rfl⟩
theorem kX2_97 : mthV RX2 97 2 yX2_readPiece prog_4_method_12_code 1 (Option.none : Option Jvm.ClassFile.FieldType) 0 := ⟨⟨⟨tw_718, tw_63, tw_721⟩, rfl, by decide +kernel⟩, tw_720, tw_13, rfl⟩
def LX2_readLevel_31 (ln : Nat → Nat) (RL : HC → Nat → Int32 → (HC → Prop) → Prop) (RP : HC → Nat → (HC → Prop) → Prop) (post : HC → Prop) : Nat → HC → Nat → Int32 → Int32 → Int32 → Prop
  | 0 => fun _ _ _ _ _ => False
  | n31 + 1 => fun S x0 x1 x2 x3 => if x2 ≤ x3 then (post S) else (lt_ (hI S x0 10) fun z1 => if 0 ≤ z1 then (post S) else (wpX2_levelHere ln S x0 fun z2 S => if z2 = x1 then (dn_ (hR S x0 0) fun b3 => lt_ (hI S x0 2) fun z4 => wpX6_at ln S b3 z4 fun z5 S => wpX2_advance ln S x0 fun S => lt_ (x1 + (1 : Int32)) fun z6 => RL S x0 z6 fun S => lt_ ((20000 : Int32) + z5) fun z7 => wpX2_write ln S x0 z7 fun S => lt_ (x3 + (1 : Int32)) fun z8 => (LX2_readLevel_31 ln RL RP post n31) S x0 x1 x2 z8) else (post S)))
def BX2_readLevel_28 (ln : Nat → Nat) (RL : HC → Nat → Int32 → (HC → Prop) → Prop) (RP : HC → Nat → (HC → Prop) → Prop) (post : HC → Prop) (S : HC) (x0 : Nat) (x1 : Int32) (t0 : Int32) : Prop := ∃ n31, LX2_readLevel_31 ln RL RP post n31 S x0 x1 t0 (0 : Int32)
def bdX2_readLevel (ln : Nat → Nat) (RL : HC → Nat → Int32 → (HC → Prop) → Prop) (RP : HC → Nat → (HC → Prop) → Prop) (S : HC) (a0 : Nat) (a1 : Int32) (post : HC → Prop) : Prop := if a1 < (5 : Int32) then (lt_ (a1 + (1 : Int32)) fun z9 => RL S a0 z9 fun S => if a1 = (2 : Int32) then (BX2_readLevel_28 ln RL RP post S a0 a1 (1 : Int32)) else (BX2_readLevel_28 ln RL RP post S a0 a1 (96 : Int32))) else (RP S a0 fun S => post S)
set_option maxHeartbeats 4000000 in
set_option maxRecDepth 100000 in
theorem stX2_readLevel {l : Launch} {g : GX} {N : Nat} {ln : Nat → Nat} {d : Nat} {RL : HC → Nat → Int32 → (HC → Prop) → Prop} {RP : HC → Nat → (HC → Prop) → Prop} (ihRL : ∀ (S : HC) (a0 : Nat) (a1 : Int32) (post : HC → Prop), a0 < N → kd a0 = 2 → RL S a0 a1 post → Met l yX2_readLevel (Cond.code yX2_readLevel prog_4_method_11_code 5 (Option.none : Option Jvm.ClassFile.FieldType) :: gtbl) (rmR d) (va_Pc [.ref (gz g + a0), .int a1] (AtP g N ln S)) (QV g N ln post) 0 0 (gF g)) (ihRP : ∀ (S : HC) (a0 : Nat) (post : HC → Prop), a0 < N → kd a0 = 2 → RP S a0 post → Met l yX2_readPiece (Cond.code yX2_readPiece prog_4_method_12_code 1 (Option.none : Option Jvm.ClassFile.FieldType) :: gtbl) (rmR d) (va_Pc [.ref (gz g + a0)] (AtP g N ln S)) (QV g N ln post) 0 0 (gF g)) {S : HC} {a0 : Nat} {a1 : Int32} {post : HC → Prop} (hr_a0 : a0 < N) (hk_a0 : kd a0 = 2) (h : bdX2_readLevel ln RL RP S a0 a1 post) : Met l yX2_readLevel (Cond.code yX2_readLevel prog_4_method_11_code 5 (Option.none : Option Jvm.ClassFile.FieldType) :: gtbl) (rmR (d + 1)) (va_Pc [.ref (gz g + a0), .int a1] (AtP g N ln S)) (QV g N ln post) 0 0 (gF g) := by
  refine m_of (by decide) (Nat.le_of_ble_eq_true rfl) ?_
  intro p e s m below meth c ls F hr I hl
  have hl : lv_has ls 5 [(0, .ref (gz g + a0)), (1, .int a1)] := hl
  unfold bdX2_readLevel at h
  have hl_31 : ∀ n31 : Nat, ∀ (S : HC) (H : Heap) (locs : List Loc) (ls : Array Slot) (x0 : Nat) (x1 : Int32) (x2 : Int32) (x3 : Int32), x0 < N → kd x0 = 2 → LX2_readLevel_31 ln RL RP post n31 S x0 x1 x2 x3 → Inv g N ln S s H locs → lv_has ls 5 [(0, .ref (gz g + x0)), (1, .int x1), (2, .int x2), (3, .int x3)] → W p l e (rmR (d + 1)) s m ([.ref (gz g + a0), .int a1] : List Value).toArray below meth c H locs 0 0 (MQ below (QV g N ln post) ([.ref (gz g + a0), .int a1] : List Value).toArray s 0 0 (gF g)) (F0 m 31 ls []) := by
    intro n31
    induction n31 with
    | zero =>
      intro S H locs ls x0 x1 x2 x3 hr_x0 hk_x0 h I hl
      exact h.elim
    | succ n31 ih =>
      have hk31 := ih
      intro S H locs ls x0 x1 x2 x3 hr_x0 hk_x0 h I hl
      rw [LX2_readLevel_31] at h
      refine lv_iload_n F.1 F.2.1 dX2_readLevel_31 rfl (lv_at hl 3 rfl) ?_
      refine lv_iload_n F.1 F.2.1 dX2_readLevel_32 rfl (lv_at hl 2 rfl) ?_
      refine r_icmp_ge (tgt := 91) F dX2_readLevel_33 (by decide) h (fun h => ?_) (fun h => ?_)
      · exact r_vreturn F I ⟨hr.1, hr.2.1, trivial⟩ h dX2_readLevel_91
      · refine lv_aload_n F.1 F.2.1 dX2_readLevel_36 rfl (lv_at hl 0 rfl) ?_
        refine r_getI F I hr_x0 hk_x0 fX2_47 rfl dX2_readLevel_37 h (fun z1 h => ?_)
        refine r_if_ge (tgt := 91) F dX2_readLevel_40 (by decide) h (fun h => ?_) (fun h => ?_)
        · exact r_vreturn F I ⟨hr.1, hr.2.1, trivial⟩ h dX2_readLevel_91
        · refine lv_aload_n F.1 F.2.1 dX2_readLevel_43 rfl (lv_at hl 0 rfl) ?_
          refine g_I I (run_V (As := []) (rest := []) F I hr_x0 hk_x0 (by decide) kX2_100 (ctX2_levelHere hr_x0 hk_x0 h) ⟨rfl, rfl⟩ ⟨(by show 1 + 1 ≤ d + 1 + 20; omega), (by show 8 + (1 + 11) + 21 ≤ (d + 1) * 30 + 200; omega)⟩ rfl hl.1 rfl (Nat.le_of_ble_eq_true rfl) ⟨Nat.zero_le _, Nat.zero_le _⟩ dX2_readLevel_44) (fun z2 S H locs I h => ?_)
          refine lv_iload_n F.1 F.2.1 dX2_readLevel_47 rfl (lv_at hl 1 rfl) ?_
          refine r_icmp_ne (tgt := 91) F dX2_readLevel_48 (by decide) h (fun h => ?_) (fun h => ?_)
          · exact r_vreturn F I ⟨hr.1, hr.2.1, trivial⟩ h dX2_readLevel_91
          · refine lv_aload_n F.1 F.2.1 dX2_readLevel_51 rfl (lv_at hl 0 rfl) ?_
            refine r_getN F I hr_x0 hk_x0 fX2_12 (f := 6) rfl (by decide) dX2_readLevel_52 h (fun b3 hr_b3 hk_b3 h => ?_)
            refine lv_aload_n F.1 F.2.1 dX2_readLevel_55 rfl (lv_at hl 0 rfl) ?_
            refine r_getI F I hr_x0 hk_x0 fX2_22 rfl dX2_readLevel_56 h (fun z4 h => ?_)
            refine g_I I (run_V (As := [.int z4]) (rest := []) F I hr_b3 hk_b3 (by decide) kX2_72 (ctX6_at hr_b3 hk_b3 h) ⟨rfl, rfl⟩ ⟨(by show 0 + 1 ≤ d + 1 + 20; omega), (by show 8 + (2 + 11) + 0 ≤ (d + 1) * 30 + 200; omega)⟩ rfl hl.1 rfl (Nat.le_of_ble_eq_true rfl) ⟨Nat.zero_le _, Nat.zero_le _⟩ dX2_readLevel_59) (fun z5 S H locs I h => ?_)
            refine lv_istore (lv' := [(4, .int z5), (0, .ref (gz g + x0)), (1, .int x1), (2, .int x2), (3, .int x3)]) F.1 F.2.1 dX2_readLevel_62 hl (by decide) rfl (fun ls hl => ?_)
            refine lv_aload_n F.1 F.2.1 dX2_readLevel_64 rfl (lv_at hl 1 rfl) ?_
            refine g_V I (run_V (As := []) (rest := []) F I hr_x0 hk_x0 (by decide) kX2_50 (ctX2_advance hr_x0 hk_x0 h) ⟨rfl, rfl⟩ ⟨(by show 1 + 1 ≤ d + 1 + 20; omega), (by show 8 + (3 + 11) + 21 ≤ (d + 1) * 30 + 200; omega)⟩ rfl hl.1 rfl (Nat.le_of_ble_eq_true rfl) ⟨Nat.zero_le _, Nat.zero_le _⟩ dX2_readLevel_65) (fun S H locs I h => ?_)
            refine lv_aload_n F.1 F.2.1 dX2_readLevel_68 rfl (lv_at hl 1 rfl) ?_
            refine lv_iload_n F.1 F.2.1 dX2_readLevel_69 rfl (lv_at hl 2 rfl) ?_
            refine lv_iconst (v := 1) F.1 F.2.1 dX2_readLevel_70 (by decide) ?_
            refine r_iadd F dX2_readLevel_71 h (fun z6 h => ?_)
            refine g_V I (run_V (As := [.int z6]) (rest := []) F I hr_x0 hk_x0 (by decide) kX2_60 (ihRL S x0 z6 _ hr_x0 hk_x0 h) ⟨rfl, rfl⟩ ⟨(by show d + 20 + 1 ≤ d + 1 + 20; omega), (by show 8 + (5 + 11) + (d * 30 + 200) ≤ (d + 1) * 30 + 200; omega)⟩ rfl hl.1 rfl (Nat.le_of_ble_eq_true rfl) ⟨Nat.zero_le _, Nat.zero_le _⟩ dX2_readLevel_72) (fun S H locs I h => ?_)
            refine lv_aload_n F.1 F.2.1 dX2_readLevel_75 rfl (lv_at hl 1 rfl) ?_
            refine lv_sipush (v := 20000) F.1 F.2.1 dX2_readLevel_76 (by decide) ?_
            refine lv_iload F.1 F.2.1 dX2_readLevel_79 (lv_at hl 0 rfl) ?_
            refine r_iadd F dX2_readLevel_81 h (fun z7 h => ?_)
            refine g_V I (run_V (As := [.int z7]) (rest := []) F I hr_x0 hk_x0 (by decide) kX2_103 (ctX2_write hr_x0 hk_x0 h) ⟨rfl, rfl⟩ ⟨(by show 0 + 1 ≤ d + 1 + 20; omega), (by show 8 + (2 + 11) + 0 ≤ (d + 1) * 30 + 200; omega)⟩ rfl hl.1 rfl (Nat.le_of_ble_eq_true rfl) ⟨Nat.zero_le _, Nat.zero_le _⟩ dX2_readLevel_82) (fun S H locs I h => ?_)
            obtain ⟨z8, e_z8, h⟩ := lt_x h
            refine lv_iinc (v := z8) (lv' := [(3, .int z8), (4, .int z5), (0, .ref (gz g + x0)), (1, .int x1), (2, .int x2)]) F.1 F.2.1 dX2_readLevel_85 hl (k := 4) rfl (by rw [e_z8]; rfl) (by decide) rfl (fun ls hl => ?_)
            refine lv_goto (tgt := 31) F.1 F.2.1 dX2_readLevel_88 (by decide) ?_
            exact hk31 S _ _ _ x0 x1 x2 z8 hr_x0 hk_x0 h I (lv_sub hl [2, 3, 4, 0] rfl)
  have hj_28 : ∀ (S : HC) (H : Heap) (locs : List Loc) (ls : Array Slot) (x0 : Nat) (x1 : Int32) (t0 : Int32), x0 < N → kd x0 = 2 → BX2_readLevel_28 ln RL RP post S x0 x1 t0 → Inv g N ln S s H locs → lv_has ls 5 [(0, .ref (gz g + x0)), (1, .int x1)] → W p l e (rmR (d + 1)) s m ([.ref (gz g + a0), .int a1] : List Value).toArray below meth c H locs 0 0 (MQ below (QV g N ln post) ([.ref (gz g + a0), .int a1] : List Value).toArray s 0 0 (gF g)) (F0 m 28 ls [.int t0]) := by
    intro S H locs ls x0 x1 t0 hr_x0 hk_x0 h I hl
    unfold BX2_readLevel_28 at h
    refine lv_istore_n (lv' := [(2, .int t0), (0, .ref (gz g + x0)), (1, .int x1)]) F.1 F.2.1 dX2_readLevel_28 rfl hl (by decide) rfl (fun ls hl => ?_)
    refine lv_iconst (v := 0) F.1 F.2.1 dX2_readLevel_29 (by decide) ?_
    refine lv_istore_n (lv' := [(3, .int (0 : Int32)), (2, .int t0), (0, .ref (gz g + x0)), (1, .int x1)]) F.1 F.2.1 dX2_readLevel_30 rfl hl (by decide) rfl (fun ls hl => ?_)
    obtain ⟨n31, h⟩ := h
    exact hl_31 n31 S _ _ _ x0 x1 t0 (0 : Int32) hr_x0 hk_x0 h I (lv_sub hl [2, 3, 1, 0] rfl)
  refine lv_iload_n F.1 F.2.1 dX2_readLevel_0 rfl (lv_at hl 1 rfl) ?_
  refine lv_iconst (v := 5) F.1 F.2.1 dX2_readLevel_1 (by decide) ?_
  refine r_icmp_lt (tgt := 10) F dX2_readLevel_2 (by decide) h (fun h => ?_) (fun h => ?_)
  · refine lv_aload_n F.1 F.2.1 dX2_readLevel_10 rfl (lv_at hl 0 rfl) ?_
    refine lv_iload_n F.1 F.2.1 dX2_readLevel_11 rfl (lv_at hl 1 rfl) ?_
    refine lv_iconst (v := 1) F.1 F.2.1 dX2_readLevel_12 (by decide) ?_
    refine r_iadd F dX2_readLevel_13 h (fun z9 h => ?_)
    refine g_V I (run_V (As := [.int z9]) (rest := []) F I hr_a0 hk_a0 (by decide) kX2_60 (ihRL S a0 z9 _ hr_a0 hk_a0 h) ⟨rfl, rfl⟩ ⟨(by show d + 20 + 1 ≤ d + 1 + 20; omega), (by show 8 + (5 + 11) + (d * 30 + 200) ≤ (d + 1) * 30 + 200; omega)⟩ rfl hl.1 rfl (Nat.le_of_ble_eq_true rfl) ⟨Nat.zero_le _, Nat.zero_le _⟩ dX2_readLevel_14) (fun S H locs I h => ?_)
    refine lv_iload_n F.1 F.2.1 dX2_readLevel_17 rfl (lv_at hl 1 rfl) ?_
    refine lv_iconst (v := 2) F.1 F.2.1 dX2_readLevel_18 (by decide) ?_
    refine r_icmp_ne (tgt := 26) F dX2_readLevel_19 (by decide) h (fun h => ?_) (fun h => ?_)
    · refine lv_bipush (v := 96) F.1 F.2.1 dX2_readLevel_26 (by decide) ?_
      exact hj_28 S _ _ _ a0 a1 (96 : Int32) hr_a0 hk_a0 h I (lv_sub hl [0, 1] rfl)
    · refine lv_iconst (v := 1) F.1 F.2.1 dX2_readLevel_22 (by decide) ?_
      refine lv_goto (tgt := 28) F.1 F.2.1 dX2_readLevel_23 (by decide) ?_
      exact hj_28 S _ _ _ a0 a1 (1 : Int32) hr_a0 hk_a0 h I (lv_sub hl [0, 1] rfl)
  · refine lv_aload_n F.1 F.2.1 dX2_readLevel_5 rfl (lv_at hl 0 rfl) ?_
    refine g_V I (run_V (As := []) (rest := []) F I hr_a0 hk_a0 (by decide) kX2_97 (ihRP S a0 _ hr_a0 hk_a0 h) ⟨rfl, rfl⟩ ⟨(by show d + 20 + 1 ≤ d + 1 + 20; omega), (by show 8 + (1 + 11) + (d * 30 + 200) ≤ (d + 1) * 30 + 200; omega)⟩ rfl hl.1 rfl (Nat.le_of_ble_eq_true rfl) ⟨Nat.zero_le _, Nat.zero_le _⟩ dX2_readLevel_6) (fun S H locs I h => ?_)
    exact r_vreturn F I ⟨hr.1, hr.2.1, trivial⟩ h dX2_readLevel_9
theorem dX2_readPiece_0 : decode cX2_readPiece 0 = .ok (.aload_n 0, 1) := by decide +kernel
theorem dX2_readPiece_1 : decode cX2_readPiece 1 = .ok (.getfield 47, 3) := by decide +kernel
theorem dX2_readPiece_4 : decode cX2_readPiece 4 = .ok (.ifCond .lt 4, 3) := by decide +kernel
theorem dX2_readPiece_7 : decode cX2_readPiece 7 = .ok (.return_, 1) := by decide +kernel
theorem dX2_readPiece_8 : decode cX2_readPiece 8 = .ok (.aload_n 0, 1) := by decide +kernel
theorem dX2_readPiece_9 : decode cX2_readPiece 9 = .ok (.bipush 33, 2) := by decide +kernel
theorem dX2_readPiece_11 : decode cX2_readPiece 11 = .ok (.invokevirtual 106, 3) := by decide +kernel
theorem dX2_readPiece_14 : decode cX2_readPiece 14 = .ok (.ifCond .eq 50, 3) := by decide +kernel
theorem dX2_readPiece_17 : decode cX2_readPiece 17 = .ok (.aload_n 0, 1) := by decide +kernel
theorem dX2_readPiece_18 : decode cX2_readPiece 18 = .ok (.getfield 44, 3) := by decide +kernel
theorem dX2_readPiece_21 : decode cX2_readPiece 21 = .ok (.bipush 8, 2) := by decide +kernel
theorem dX2_readPiece_23 : decode cX2_readPiece 23 = .ok (.if_icmp .ge 41, 3) := by decide +kernel
theorem dX2_readPiece_26 : decode cX2_readPiece 26 = .ok (.aload_n 0, 1) := by decide +kernel
theorem dX2_readPiece_27 : decode cX2_readPiece 27 = .ok (.dup, 1) := by decide +kernel
theorem dX2_readPiece_28 : decode cX2_readPiece 28 = .ok (.getfield 44, 3) := by decide +kernel
theorem dX2_readPiece_31 : decode cX2_readPiece 31 = .ok (.iconst 1, 1) := by decide +kernel
theorem dX2_readPiece_32 : decode cX2_readPiece 32 = .ok (.iadd, 1) := by decide +kernel
theorem dX2_readPiece_33 : decode cX2_readPiece 33 = .ok (.putfield 44, 3) := by decide +kernel
theorem dX2_readPiece_36 : decode cX2_readPiece 36 = .ok (.aload_n 0, 1) := by decide +kernel
theorem dX2_readPiece_37 : decode cX2_readPiece 37 = .ok (.invokevirtual 50, 3) := by decide +kernel
theorem dX2_readPiece_40 : decode cX2_readPiece 40 = .ok (.aload_n 0, 1) := by decide +kernel
theorem dX2_readPiece_41 : decode cX2_readPiece 41 = .ok (.invokevirtual 97, 3) := by decide +kernel
theorem dX2_readPiece_44 : decode cX2_readPiece 44 = .ok (.aload_n 0, 1) := by decide +kernel
theorem dX2_readPiece_45 : decode cX2_readPiece 45 = .ok (.dup, 1) := by decide +kernel
theorem dX2_readPiece_46 : decode cX2_readPiece 46 = .ok (.getfield 44, 3) := by decide +kernel
theorem dX2_readPiece_49 : decode cX2_readPiece 49 = .ok (.iconst 1, 1) := by decide +kernel
theorem dX2_readPiece_50 : decode cX2_readPiece 50 = .ok (.isub, 1) := by decide +kernel
theorem dX2_readPiece_51 : decode cX2_readPiece 51 = .ok (.putfield 44, 3) := by decide +kernel
theorem dX2_readPiece_54 : decode cX2_readPiece 54 = .ok (.aload_n 0, 1) := by decide +kernel
theorem dX2_readPiece_55 : decode cX2_readPiece 55 = .ok (.sipush 20033, 3) := by decide +kernel
theorem dX2_readPiece_58 : decode cX2_readPiece 58 = .ok (.invokevirtual 103, 3) := by decide +kernel
theorem dX2_readPiece_61 : decode cX2_readPiece 61 = .ok (.goto 61, 3) := by decide +kernel
theorem dX2_readPiece_64 : decode cX2_readPiece 64 = .ok (.aload_n 0, 1) := by decide +kernel
theorem dX2_readPiece_65 : decode cX2_readPiece 65 = .ok (.bipush 40, 2) := by decide +kernel
theorem dX2_readPiece_67 : decode cX2_readPiece 67 = .ok (.invokevirtual 106, 3) := by decide +kernel
theorem dX2_readPiece_70 : decode cX2_readPiece 70 = .ok (.ifCond .eq 48, 3) := by decide +kernel
theorem dX2_readPiece_73 : decode cX2_readPiece 73 = .ok (.aload_n 0, 1) := by decide +kernel
theorem dX2_readPiece_74 : decode cX2_readPiece 74 = .ok (.getfield 41, 3) := by decide +kernel
theorem dX2_readPiece_77 : decode cX2_readPiece 77 = .ok (.bipush 8, 2) := by decide +kernel
theorem dX2_readPiece_79 : decode cX2_readPiece 79 = .ok (.if_icmp .ge 39, 3) := by decide +kernel
theorem dX2_readPiece_82 : decode cX2_readPiece 82 = .ok (.aload_n 0, 1) := by decide +kernel
theorem dX2_readPiece_83 : decode cX2_readPiece 83 = .ok (.dup, 1) := by decide +kernel
theorem dX2_readPiece_84 : decode cX2_readPiece 84 = .ok (.getfield 41, 3) := by decide +kernel
theorem dX2_readPiece_87 : decode cX2_readPiece 87 = .ok (.iconst 1, 1) := by decide +kernel
theorem dX2_readPiece_88 : decode cX2_readPiece 88 = .ok (.iadd, 1) := by decide +kernel
theorem dX2_readPiece_89 : decode cX2_readPiece 89 = .ok (.putfield 41, 3) := by decide +kernel
theorem dX2_readPiece_92 : decode cX2_readPiece 92 = .ok (.aload_n 0, 1) := by decide +kernel
theorem dX2_readPiece_93 : decode cX2_readPiece 93 = .ok (.invokevirtual 50, 3) := by decide +kernel
theorem dX2_readPiece_96 : decode cX2_readPiece 96 = .ok (.aload_n 0, 1) := by decide +kernel
theorem dX2_readPiece_97 : decode cX2_readPiece 97 = .ok (.iconst 0, 1) := by decide +kernel
theorem dX2_readPiece_98 : decode cX2_readPiece 98 = .ok (.invokevirtual 60, 3) := by decide +kernel
theorem dX2_readPiece_101 : decode cX2_readPiece 101 = .ok (.aload_n 0, 1) := by decide +kernel
theorem dX2_readPiece_102 : decode cX2_readPiece 102 = .ok (.dup, 1) := by decide +kernel
theorem dX2_readPiece_103 : decode cX2_readPiece 103 = .ok (.getfield 41, 3) := by decide +kernel
theorem dX2_readPiece_106 : decode cX2_readPiece 106 = .ok (.iconst 1, 1) := by decide +kernel
theorem dX2_readPiece_107 : decode cX2_readPiece 107 = .ok (.isub, 1) := by decide +kernel
theorem dX2_readPiece_108 : decode cX2_readPiece 108 = .ok (.putfield 41, 3) := by decide +kernel
theorem dX2_readPiece_111 : decode cX2_readPiece 111 = .ok (.aload_n 0, 1) := by decide +kernel
theorem dX2_readPiece_112 : decode cX2_readPiece 112 = .ok (.invokevirtual 110, 3) := by decide +kernel
theorem dX2_readPiece_115 : decode cX2_readPiece 115 = .ok (.goto 7, 3) := by decide +kernel
theorem dX2_readPiece_118 : decode cX2_readPiece 118 = .ok (.aload_n 0, 1) := by decide +kernel
theorem dX2_readPiece_119 : decode cX2_readPiece 119 = .ok (.invokevirtual 113, 3) := by decide +kernel
theorem dX2_readPiece_122 : decode cX2_readPiece 122 = .ok (.return_, 1) := by decide +kernel
theorem kX2_113 : mthV RX2 113 2 yX2_readLeaf prog_4_method_14_code 2 (Option.none : Option Jvm.ClassFile.FieldType) 0 := ⟨⟨⟨tw_734, tw_63, tw_737⟩, rfl, by decide +kernel⟩, tw_736, tw_17, rfl⟩
theorem fX2_41 : fldOK RX2 41 2 8 .int false := ⟨_, _, _, tyX2, ⟨rfl, iX2, by decide, rfl, by decide⟩, tw_207, ⟨tyX2_ok, nmX2⟩, by decide +kernel, rfl, rfl⟩
theorem kX2_110 : mthV RX2 110 2 yX2_readClosing prog_4_method_13_code 1 (Option.none : Option Jvm.ClassFile.FieldType) 0 := ⟨⟨⟨tw_730, tw_63, tw_733⟩, rfl, by decide +kernel⟩, tw_732, tw_16, rfl⟩
theorem fX2_44 : fldOK RX2 44 2 9 .int false := ⟨_, _, _, tyX2, ⟨rfl, iX2, by decide, rfl, by decide⟩, tw_208, ⟨tyX2_ok, nmX2⟩, by decide +kernel, rfl, rfl⟩
def BX2_readPiece_118 (ln : Nat → Nat) (RL : HC → Nat → Int32 → (HC → Prop) → Prop) (RP : HC → Nat → (HC → Prop) → Prop) (post : HC → Prop) (S : HC) (x0 : Nat) : Prop := wpX2_readLeaf ln S x0 fun S => post S
def BX2_readPiece_64 (ln : Nat → Nat) (RL : HC → Nat → Int32 → (HC → Prop) → Prop) (RP : HC → Nat → (HC → Prop) → Prop) (post : HC → Prop) (S : HC) (x0 : Nat) : Prop := wpX2_isSign ln S x0 (40 : Int32) fun z1 S => if z1 = 0 then (BX2_readPiece_118 ln RL RP post S x0) else (lt_ (hI S x0 8) fun z2 => if (8 : Int32) ≤ z2 then (BX2_readPiece_118 ln RL RP post S x0) else (lt_ (hI S x0 8) fun z3 => lt_ (z3 + (1 : Int32)) fun z4 => lt_ (sI S x0 8 z4) fun S => wpX2_advance ln S x0 fun S => RL S x0 (0 : Int32) fun S => lt_ (hI S x0 8) fun z5 => lt_ (z5 - (1 : Int32)) fun z6 => lt_ (sI S x0 8 z6) fun S => wpX2_readClosing ln S x0 fun S => post S))
def bdX2_readPiece (ln : Nat → Nat) (RL : HC → Nat → Int32 → (HC → Prop) → Prop) (RP : HC → Nat → (HC → Prop) → Prop) (S : HC) (a0 : Nat) (post : HC → Prop) : Prop := lt_ (hI S a0 10) fun z7 => if z7 < 0 then (wpX2_isSign ln S a0 (33 : Int32) fun z8 S => if z8 = 0 then (BX2_readPiece_64 ln RL RP post S a0) else (lt_ (hI S a0 9) fun z9 => if (8 : Int32) ≤ z9 then (BX2_readPiece_64 ln RL RP post S a0) else (lt_ (hI S a0 9) fun z10 => lt_ (z10 + (1 : Int32)) fun z11 => lt_ (sI S a0 9 z11) fun S => wpX2_advance ln S a0 fun S => RP S a0 fun S => lt_ (hI S a0 9) fun z12 => lt_ (z12 - (1 : Int32)) fun z13 => lt_ (sI S a0 9 z13) fun S => wpX2_write ln S a0 (20033 : Int32) fun S => post S))) else (post S)
set_option maxHeartbeats 4000000 in
set_option maxRecDepth 100000 in
theorem stX2_readPiece {l : Launch} {g : GX} {N : Nat} {ln : Nat → Nat} {d : Nat} {RL : HC → Nat → Int32 → (HC → Prop) → Prop} {RP : HC → Nat → (HC → Prop) → Prop} (ihRL : ∀ (S : HC) (a0 : Nat) (a1 : Int32) (post : HC → Prop), a0 < N → kd a0 = 2 → RL S a0 a1 post → Met l yX2_readLevel (Cond.code yX2_readLevel prog_4_method_11_code 5 (Option.none : Option Jvm.ClassFile.FieldType) :: gtbl) (rmR d) (va_Pc [.ref (gz g + a0), .int a1] (AtP g N ln S)) (QV g N ln post) 0 0 (gF g)) (ihRP : ∀ (S : HC) (a0 : Nat) (post : HC → Prop), a0 < N → kd a0 = 2 → RP S a0 post → Met l yX2_readPiece (Cond.code yX2_readPiece prog_4_method_12_code 1 (Option.none : Option Jvm.ClassFile.FieldType) :: gtbl) (rmR d) (va_Pc [.ref (gz g + a0)] (AtP g N ln S)) (QV g N ln post) 0 0 (gF g)) {S : HC} {a0 : Nat} {post : HC → Prop} (hr_a0 : a0 < N) (hk_a0 : kd a0 = 2) (h : bdX2_readPiece ln RL RP S a0 post) : Met l yX2_readPiece (Cond.code yX2_readPiece prog_4_method_12_code 1 (Option.none : Option Jvm.ClassFile.FieldType) :: gtbl) (rmR (d + 1)) (va_Pc [.ref (gz g + a0)] (AtP g N ln S)) (QV g N ln post) 0 0 (gF g) := by
  refine m_of (by decide) (Nat.le_of_ble_eq_true rfl) ?_
  intro p e s m below meth c ls F hr I hl
  have hl : lv_has ls 1 [(0, .ref (gz g + a0))] := hl
  unfold bdX2_readPiece at h
  have hj_118 : ∀ (S : HC) (H : Heap) (locs : List Loc) (ls : Array Slot) (x0 : Nat), x0 < N → kd x0 = 2 → BX2_readPiece_118 ln RL RP post S x0 → Inv g N ln S s H locs → lv_has ls 1 [(0, .ref (gz g + x0))] → W p l e (rmR (d + 1)) s m ([.ref (gz g + a0)] : List Value).toArray below meth c H locs 0 0 (MQ below (QV g N ln post) ([.ref (gz g + a0)] : List Value).toArray s 0 0 (gF g)) (F0 m 118 ls []) := by
    intro S H locs ls x0 hr_x0 hk_x0 h I hl
    unfold BX2_readPiece_118 at h
    refine lv_aload_n F.1 F.2.1 dX2_readPiece_118 rfl (lv_at hl 0 rfl) ?_
    refine g_V I (run_V (As := []) (rest := []) F I hr_x0 hk_x0 (by decide) kX2_113 (ctX2_readLeaf hr_x0 hk_x0 h) ⟨rfl, rfl⟩ ⟨(by show 5 + 1 ≤ d + 1 + 20; omega), (by show 8 + (2 + 11) + 113 ≤ (d + 1) * 30 + 200; omega)⟩ rfl hl.1 rfl (Nat.le_of_ble_eq_true rfl) ⟨Nat.zero_le _, Nat.zero_le _⟩ dX2_readPiece_119) (fun S H locs I h => ?_)
    exact r_vreturn F I ⟨hr.1, hr.2.1, trivial⟩ h dX2_readPiece_122
  have hj_64 : ∀ (S : HC) (H : Heap) (locs : List Loc) (ls : Array Slot) (x0 : Nat), x0 < N → kd x0 = 2 → BX2_readPiece_64 ln RL RP post S x0 → Inv g N ln S s H locs → lv_has ls 1 [(0, .ref (gz g + x0))] → W p l e (rmR (d + 1)) s m ([.ref (gz g + a0)] : List Value).toArray below meth c H locs 0 0 (MQ below (QV g N ln post) ([.ref (gz g + a0)] : List Value).toArray s 0 0 (gF g)) (F0 m 64 ls []) := by
    intro S H locs ls x0 hr_x0 hk_x0 h I hl
    unfold BX2_readPiece_64 at h
    refine lv_aload_n F.1 F.2.1 dX2_readPiece_64 rfl (lv_at hl 0 rfl) ?_
    refine lv_bipush (v := 40) F.1 F.2.1 dX2_readPiece_65 (by decide) ?_
    refine g_I I (run_V (As := [.int (40 : Int32)]) (rest := []) F I hr_x0 hk_x0 (by decide) kX2_106 (ctX2_isSign hr_x0 hk_x0 h) ⟨rfl, rfl⟩ ⟨(by show 1 + 1 ≤ d + 1 + 20; omega), (by show 8 + (2 + 11) + 21 ≤ (d + 1) * 30 + 200; omega)⟩ rfl hl.1 rfl (Nat.le_of_ble_eq_true rfl) ⟨Nat.zero_le _, Nat.zero_le _⟩ dX2_readPiece_67) (fun z1 S H locs I h => ?_)
    refine r_if_eq (tgt := 118) F dX2_readPiece_70 (by decide) h (fun h => ?_) (fun h => ?_)
    · exact hj_118 S _ _ _ x0 hr_x0 hk_x0 h I (lv_sub hl [0] rfl)
    · refine lv_aload_n F.1 F.2.1 dX2_readPiece_73 rfl (lv_at hl 0 rfl) ?_
      refine r_getI F I hr_x0 hk_x0 fX2_41 rfl dX2_readPiece_74 h (fun z2 h => ?_)
      refine lv_bipush (v := 8) F.1 F.2.1 dX2_readPiece_77 (by decide) ?_
      refine r_icmp_ge (tgt := 118) F dX2_readPiece_79 (by decide) h (fun h => ?_) (fun h => ?_)
      · exact hj_118 S _ _ _ x0 hr_x0 hk_x0 h I (lv_sub hl [0] rfl)
      · refine lv_aload_n F.1 F.2.1 dX2_readPiece_82 rfl (lv_at hl 0 rfl) ?_
        refine lv_dup F.1 F.2.1 dX2_readPiece_83 rfl ?_
        refine r_getI F I hr_x0 hk_x0 fX2_41 rfl dX2_readPiece_84 h (fun z3 h => ?_)
        refine lv_iconst (v := 1) F.1 F.2.1 dX2_readPiece_87 (by decide) ?_
        refine r_iadd F dX2_readPiece_88 h (fun z4 h => ?_)
        refine r_putI F I hr_x0 hk_x0 fX2_41 rfl (Or.inl rfl) ⟨rfl, rfl⟩ dX2_readPiece_89 h (fun S H locs I h => ?_)
        refine lv_aload_n F.1 F.2.1 dX2_readPiece_92 rfl (lv_at hl 0 rfl) ?_
        refine g_V I (run_V (As := []) (rest := []) F I hr_x0 hk_x0 (by decide) kX2_50 (ctX2_advance hr_x0 hk_x0 h) ⟨rfl, rfl⟩ ⟨(by show 1 + 1 ≤ d + 1 + 20; omega), (by show 8 + (3 + 11) + 21 ≤ (d + 1) * 30 + 200; omega)⟩ rfl hl.1 rfl (Nat.le_of_ble_eq_true rfl) ⟨Nat.zero_le _, Nat.zero_le _⟩ dX2_readPiece_93) (fun S H locs I h => ?_)
        refine lv_aload_n F.1 F.2.1 dX2_readPiece_96 rfl (lv_at hl 0 rfl) ?_
        refine lv_iconst (v := 0) F.1 F.2.1 dX2_readPiece_97 (by decide) ?_
        refine g_V I (run_V (As := [.int (0 : Int32)]) (rest := []) F I hr_x0 hk_x0 (by decide) kX2_60 (ihRL S x0 (0 : Int32) _ hr_x0 hk_x0 h) ⟨rfl, rfl⟩ ⟨(by show d + 20 + 1 ≤ d + 1 + 20; omega), (by show 8 + (5 + 11) + (d * 30 + 200) ≤ (d + 1) * 30 + 200; omega)⟩ rfl hl.1 rfl (Nat.le_of_ble_eq_true rfl) ⟨Nat.zero_le _, Nat.zero_le _⟩ dX2_readPiece_98) (fun S H locs I h => ?_)
        refine lv_aload_n F.1 F.2.1 dX2_readPiece_101 rfl (lv_at hl 0 rfl) ?_
        refine lv_dup F.1 F.2.1 dX2_readPiece_102 rfl ?_
        refine r_getI F I hr_x0 hk_x0 fX2_41 rfl dX2_readPiece_103 h (fun z5 h => ?_)
        refine lv_iconst (v := 1) F.1 F.2.1 dX2_readPiece_106 (by decide) ?_
        refine r_isub F dX2_readPiece_107 h (fun z6 h => ?_)
        refine r_putI F I hr_x0 hk_x0 fX2_41 rfl (Or.inl rfl) ⟨rfl, rfl⟩ dX2_readPiece_108 h (fun S H locs I h => ?_)
        refine lv_aload_n F.1 F.2.1 dX2_readPiece_111 rfl (lv_at hl 0 rfl) ?_
        refine g_V I (run_V (As := []) (rest := []) F I hr_x0 hk_x0 (by decide) kX2_110 (ctX2_readClosing hr_x0 hk_x0 h) ⟨rfl, rfl⟩ ⟨(by show 2 + 1 ≤ d + 1 + 20; omega), (by show 8 + (1 + 11) + 43 ≤ (d + 1) * 30 + 200; omega)⟩ rfl hl.1 rfl (Nat.le_of_ble_eq_true rfl) ⟨Nat.zero_le _, Nat.zero_le _⟩ dX2_readPiece_112) (fun S H locs I h => ?_)
        refine lv_goto (tgt := 122) F.1 F.2.1 dX2_readPiece_115 (by decide) ?_
        exact r_vreturn F I ⟨hr.1, hr.2.1, trivial⟩ h dX2_readPiece_122
  refine lv_aload_n F.1 F.2.1 dX2_readPiece_0 rfl (lv_at hl 0 rfl) ?_
  refine r_getI F I hr_a0 hk_a0 fX2_47 rfl dX2_readPiece_1 h (fun z7 h => ?_)
  refine r_if_lt (tgt := 8) F dX2_readPiece_4 (by decide) h (fun h => ?_) (fun h => ?_)
  · refine lv_aload_n F.1 F.2.1 dX2_readPiece_8 rfl (lv_at hl 0 rfl) ?_
    refine lv_bipush (v := 33) F.1 F.2.1 dX2_readPiece_9 (by decide) ?_
    refine g_I I (run_V (As := [.int (33 : Int32)]) (rest := []) F I hr_a0 hk_a0 (by decide) kX2_106 (ctX2_isSign hr_a0 hk_a0 h) ⟨rfl, rfl⟩ ⟨(by show 1 + 1 ≤ d + 1 + 20; omega), (by show 8 + (2 + 11) + 21 ≤ (d + 1) * 30 + 200; omega)⟩ rfl hl.1 rfl (Nat.le_of_ble_eq_true rfl) ⟨Nat.zero_le _, Nat.zero_le _⟩ dX2_readPiece_11) (fun z8 S H locs I h => ?_)
    refine r_if_eq (tgt := 64) F dX2_readPiece_14 (by decide) h (fun h => ?_) (fun h => ?_)
    · exact hj_64 S _ _ _ a0 hr_a0 hk_a0 h I (lv_sub hl [0] rfl)
    · refine lv_aload_n F.1 F.2.1 dX2_readPiece_17 rfl (lv_at hl 0 rfl) ?_
      refine r_getI F I hr_a0 hk_a0 fX2_44 rfl dX2_readPiece_18 h (fun z9 h => ?_)
      refine lv_bipush (v := 8) F.1 F.2.1 dX2_readPiece_21 (by decide) ?_
      refine r_icmp_ge (tgt := 64) F dX2_readPiece_23 (by decide) h (fun h => ?_) (fun h => ?_)
      · exact hj_64 S _ _ _ a0 hr_a0 hk_a0 h I (lv_sub hl [0] rfl)
      · refine lv_aload_n F.1 F.2.1 dX2_readPiece_26 rfl (lv_at hl 0 rfl) ?_
        refine lv_dup F.1 F.2.1 dX2_readPiece_27 rfl ?_
        refine r_getI F I hr_a0 hk_a0 fX2_44 rfl dX2_readPiece_28 h (fun z10 h => ?_)
        refine lv_iconst (v := 1) F.1 F.2.1 dX2_readPiece_31 (by decide) ?_
        refine r_iadd F dX2_readPiece_32 h (fun z11 h => ?_)
        refine r_putI F I hr_a0 hk_a0 fX2_44 rfl (Or.inl rfl) ⟨rfl, rfl⟩ dX2_readPiece_33 h (fun S H locs I h => ?_)
        refine lv_aload_n F.1 F.2.1 dX2_readPiece_36 rfl (lv_at hl 0 rfl) ?_
        refine g_V I (run_V (As := []) (rest := []) F I hr_a0 hk_a0 (by decide) kX2_50 (ctX2_advance hr_a0 hk_a0 h) ⟨rfl, rfl⟩ ⟨(by show 1 + 1 ≤ d + 1 + 20; omega), (by show 8 + (3 + 11) + 21 ≤ (d + 1) * 30 + 200; omega)⟩ rfl hl.1 rfl (Nat.le_of_ble_eq_true rfl) ⟨Nat.zero_le _, Nat.zero_le _⟩ dX2_readPiece_37) (fun S H locs I h => ?_)
        refine lv_aload_n F.1 F.2.1 dX2_readPiece_40 rfl (lv_at hl 0 rfl) ?_
        refine g_V I (run_V (As := []) (rest := []) F I hr_a0 hk_a0 (by decide) kX2_97 (ihRP S a0 _ hr_a0 hk_a0 h) ⟨rfl, rfl⟩ ⟨(by show d + 20 + 1 ≤ d + 1 + 20; omega), (by show 8 + (1 + 11) + (d * 30 + 200) ≤ (d + 1) * 30 + 200; omega)⟩ rfl hl.1 rfl (Nat.le_of_ble_eq_true rfl) ⟨Nat.zero_le _, Nat.zero_le _⟩ dX2_readPiece_41) (fun S H locs I h => ?_)
        refine lv_aload_n F.1 F.2.1 dX2_readPiece_44 rfl (lv_at hl 0 rfl) ?_
        refine lv_dup F.1 F.2.1 dX2_readPiece_45 rfl ?_
        refine r_getI F I hr_a0 hk_a0 fX2_44 rfl dX2_readPiece_46 h (fun z12 h => ?_)
        refine lv_iconst (v := 1) F.1 F.2.1 dX2_readPiece_49 (by decide) ?_
        refine r_isub F dX2_readPiece_50 h (fun z13 h => ?_)
        refine r_putI F I hr_a0 hk_a0 fX2_44 rfl (Or.inl rfl) ⟨rfl, rfl⟩ dX2_readPiece_51 h (fun S H locs I h => ?_)
        refine lv_aload_n F.1 F.2.1 dX2_readPiece_54 rfl (lv_at hl 0 rfl) ?_
        refine lv_sipush (v := 20033) F.1 F.2.1 dX2_readPiece_55 (by decide) ?_
        refine g_V I (run_V (As := [.int (20033 : Int32)]) (rest := []) F I hr_a0 hk_a0 (by decide) kX2_103 (ctX2_write hr_a0 hk_a0 h) ⟨rfl, rfl⟩ ⟨(by show 0 + 1 ≤ d + 1 + 20; omega), (by show 8 + (2 + 11) + 0 ≤ (d + 1) * 30 + 200; omega)⟩ rfl hl.1 rfl (Nat.le_of_ble_eq_true rfl) ⟨Nat.zero_le _, Nat.zero_le _⟩ dX2_readPiece_58) (fun S H locs I h => ?_)
        refine lv_goto (tgt := 122) F.1 F.2.1 dX2_readPiece_61 (by decide) ?_
        exact r_vreturn F I ⟨hr.1, hr.2.1, trivial⟩ h dX2_readPiece_122
  · exact r_vreturn F I ⟨hr.1, hr.2.1, trivial⟩ h dX2_readPiece_7
def wpRec (ln : Nat → Nat) : Nat → (HC → Nat → Int32 → (HC → Prop) → Prop) × (HC → Nat → (HC → Prop) → Prop)
  | 0 => (fun _ _ _ _ => False, fun _ _ _ => False)
  | d + 1 => (fun S a0 a1 post => bdX2_readLevel ln (wpRec ln d).1 (wpRec ln d).2 S a0 a1 post, fun S a0 post => bdX2_readPiece ln (wpRec ln d).1 (wpRec ln d).2 S a0 post)
theorem ctRec {l : Launch} {g : GX} {N : Nat} {ln : Nat → Nat} : ∀ d : Nat, (∀ (S : HC) (a0 : Nat) (a1 : Int32) (post : HC → Prop), a0 < N → kd a0 = 2 → (wpRec ln d).1 S a0 a1 post → Met l yX2_readLevel (Cond.code yX2_readLevel prog_4_method_11_code 5 (Option.none : Option Jvm.ClassFile.FieldType) :: gtbl) (rmR d) (va_Pc [.ref (gz g + a0), .int a1] (AtP g N ln S)) (QV g N ln post) 0 0 (gF g)) ∧ (∀ (S : HC) (a0 : Nat) (post : HC → Prop), a0 < N → kd a0 = 2 → (wpRec ln d).2 S a0 post → Met l yX2_readPiece (Cond.code yX2_readPiece prog_4_method_12_code 1 (Option.none : Option Jvm.ClassFile.FieldType) :: gtbl) (rmR d) (va_Pc [.ref (gz g + a0)] (AtP g N ln S)) (QV g N ln post) 0 0 (gF g)) := by
  intro d
  induction d with
  | zero => exact ⟨fun _ _ _ _ _ _ h => h.elim, fun _ _ _ _ _ h => h.elim⟩
  | succ d ih => exact ⟨fun S a0 a1 post hr hk h => stX2_readLevel ih.1 ih.2 hr hk h, fun S a0 post hr hk h => stX2_readPiece ih.1 ih.2 hr hk h⟩
theorem dX2_readTape_0 : decode cX2_readTape 0 = .ok (.aload_n 0, 1) := by decide +kernel
theorem dX2_readTape_1 : decode cX2_readTape 1 = .ok (.iconst 0, 1) := by decide +kernel
theorem dX2_readTape_2 : decode cX2_readTape 2 = .ok (.putfield 18, 3) := by decide +kernel
theorem dX2_readTape_5 : decode cX2_readTape 5 = .ok (.aload_n 0, 1) := by decide +kernel
theorem dX2_readTape_6 : decode cX2_readTape 6 = .ok (.iconst 0, 1) := by decide +kernel
theorem dX2_readTape_7 : decode cX2_readTape 7 = .ok (.putfield 22, 3) := by decide +kernel
theorem dX2_readTape_10 : decode cX2_readTape 10 = .ok (.aload_n 0, 1) := by decide +kernel
theorem dX2_readTape_11 : decode cX2_readTape 11 = .ok (.iconst 0, 1) := by decide +kernel
theorem dX2_readTape_12 : decode cX2_readTape 12 = .ok (.putfield 25, 3) := by decide +kernel
theorem dX2_readTape_15 : decode cX2_readTape 15 = .ok (.aload_n 0, 1) := by decide +kernel
theorem dX2_readTape_16 : decode cX2_readTape 16 = .ok (.iconst 0, 1) := by decide +kernel
theorem dX2_readTape_17 : decode cX2_readTape 17 = .ok (.putfield 35, 3) := by decide +kernel
theorem dX2_readTape_20 : decode cX2_readTape 20 = .ok (.aload_n 0, 1) := by decide +kernel
theorem dX2_readTape_21 : decode cX2_readTape 21 = .ok (.iconst 0, 1) := by decide +kernel
theorem dX2_readTape_22 : decode cX2_readTape 22 = .ok (.putfield 38, 3) := by decide +kernel
theorem dX2_readTape_25 : decode cX2_readTape 25 = .ok (.aload_n 0, 1) := by decide +kernel
theorem dX2_readTape_26 : decode cX2_readTape 26 = .ok (.iconst 0, 1) := by decide +kernel
theorem dX2_readTape_27 : decode cX2_readTape 27 = .ok (.putfield 41, 3) := by decide +kernel
theorem dX2_readTape_30 : decode cX2_readTape 30 = .ok (.aload_n 0, 1) := by decide +kernel
theorem dX2_readTape_31 : decode cX2_readTape 31 = .ok (.iconst 0, 1) := by decide +kernel
theorem dX2_readTape_32 : decode cX2_readTape 32 = .ok (.putfield 44, 3) := by decide +kernel
theorem dX2_readTape_35 : decode cX2_readTape 35 = .ok (.aload_n 0, 1) := by decide +kernel
theorem dX2_readTape_36 : decode cX2_readTape 36 = .ok (.iconst (-1), 1) := by decide +kernel
theorem dX2_readTape_37 : decode cX2_readTape 37 = .ok (.putfield 47, 3) := by decide +kernel
theorem dX2_readTape_40 : decode cX2_readTape 40 = .ok (.aload_n 0, 1) := by decide +kernel
theorem dX2_readTape_41 : decode cX2_readTape 41 = .ok (.invokevirtual 50, 3) := by decide +kernel
theorem dX2_readTape_44 : decode cX2_readTape 44 = .ok (.aload_n 0, 1) := by decide +kernel
theorem dX2_readTape_45 : decode cX2_readTape 45 = .ok (.aload_n 0, 1) := by decide +kernel
theorem dX2_readTape_46 : decode cX2_readTape 46 = .ok (.invokevirtual 53, 3) := by decide +kernel
theorem dX2_readTape_49 : decode cX2_readTape 49 = .ok (.putfield 28, 3) := by decide +kernel
theorem dX2_readTape_52 : decode cX2_readTape 52 = .ok (.aload_n 0, 1) := by decide +kernel
theorem dX2_readTape_53 : decode cX2_readTape 53 = .ok (.getfield 28, 3) := by decide +kernel
theorem dX2_readTape_56 : decode cX2_readTape 56 = .ok (.ifCond .ge 8, 3) := by decide +kernel
theorem dX2_readTape_59 : decode cX2_readTape 59 = .ok (.aload_n 0, 1) := by decide +kernel
theorem dX2_readTape_60 : decode cX2_readTape 60 = .ok (.invokevirtual 57, 3) := by decide +kernel
theorem dX2_readTape_63 : decode cX2_readTape 63 = .ok (.return_, 1) := by decide +kernel
theorem dX2_readTape_64 : decode cX2_readTape 64 = .ok (.aload_n 0, 1) := by decide +kernel
theorem dX2_readTape_65 : decode cX2_readTape 65 = .ok (.invokevirtual 50, 3) := by decide +kernel
theorem dX2_readTape_68 : decode cX2_readTape 68 = .ok (.aload_n 0, 1) := by decide +kernel
theorem dX2_readTape_69 : decode cX2_readTape 69 = .ok (.iconst 0, 1) := by decide +kernel
theorem dX2_readTape_70 : decode cX2_readTape 70 = .ok (.invokevirtual 60, 3) := by decide +kernel
theorem dX2_readTape_73 : decode cX2_readTape 73 = .ok (.aload_n 0, 1) := by decide +kernel
theorem dX2_readTape_74 : decode cX2_readTape 74 = .ok (.getfield 18, 3) := by decide +kernel
theorem dX2_readTape_77 : decode cX2_readTape 77 = .ok (.ifCond .eq 7, 3) := by decide +kernel
theorem dX2_readTape_80 : decode cX2_readTape 80 = .ok (.aload_n 0, 1) := by decide +kernel
theorem dX2_readTape_81 : decode cX2_readTape 81 = .ok (.invokevirtual 57, 3) := by decide +kernel
theorem dX2_readTape_84 : decode cX2_readTape 84 = .ok (.return_, 1) := by decide +kernel
theorem kX2_53 : mthV RX2 53 2 yX2_keyHere prog_4_method_7_code 1 (Option.some Jvm.ClassFile.FieldType.int) 0 := ⟨⟨⟨tw_651, tw_63, tw_654⟩, rfl, by decide +kernel⟩, tw_653, tw_9, rfl⟩
def wpX2_readTape (ln : Nat → Nat) (S : HC) (a0 : Nat) (post : HC → Prop) : Prop := lt_ (sI S a0 1 (0 : Int32)) fun S => lt_ (sI S a0 2 (0 : Int32)) fun S => lt_ (sI S a0 3 (0 : Int32)) fun S => lt_ (sI S a0 6 (0 : Int32)) fun S => lt_ (sI S a0 7 (0 : Int32)) fun S => lt_ (sI S a0 8 (0 : Int32)) fun S => lt_ (sI S a0 9 (0 : Int32)) fun S => lt_ (sI S a0 10 (-1 : Int32)) fun S => wpX2_advance ln S a0 fun S => wpX2_keyHere ln S a0 fun z1 S => lt_ (sI S a0 4 z1) fun S => lt_ (hI S a0 4) fun z2 => if 0 ≤ z2 then (wpX2_advance ln S a0 fun S => (wpRec ln 80).1 S a0 (0 : Int32) fun S => lt_ (hI S a0 1) fun z3 => if z3 = 0 then (post S) else (wpX2_fail ln S a0 fun S => post S)) else (wpX2_fail ln S a0 fun S => post S)
abbrev rmX2_readTape : Room := { frames := 101, cells := 0, slots := 0, locals := 2624 }
set_option maxHeartbeats 4000000 in
set_option maxRecDepth 100000 in
theorem ctX2_readTape {l : Launch} {g : GX} {N : Nat} {ln : Nat → Nat} {S : HC} {a0 : Nat} {post : HC → Prop} (hr_a0 : a0 < N) (hk_a0 : kd a0 = 2) (h : wpX2_readTape ln S a0 post) : Met l yX2_readTape (Cond.code yX2_readTape prog_4_method_2_code 1 (Option.none : Option Jvm.ClassFile.FieldType) :: gtbl) rmX2_readTape (va_Pc [.ref (gz g + a0)] (AtP g N ln S)) (QV g N ln post) 0 0 (gF g) := by
  refine m_of (by decide) (Nat.le_of_ble_eq_true rfl) ?_
  intro p e s m below meth c ls F hr I hl
  have hl : lv_has ls 1 [(0, .ref (gz g + a0))] := hl
  unfold wpX2_readTape at h
  refine lv_aload_n F.1 F.2.1 dX2_readTape_0 rfl (lv_at hl 0 rfl) ?_
  refine lv_iconst (v := 0) F.1 F.2.1 dX2_readTape_1 (by decide) ?_
  refine r_putI F I hr_a0 hk_a0 fX2_18 rfl (Or.inl rfl) ⟨rfl, rfl⟩ dX2_readTape_2 h (fun S H locs I h => ?_)
  refine lv_aload_n F.1 F.2.1 dX2_readTape_5 rfl (lv_at hl 0 rfl) ?_
  refine lv_iconst (v := 0) F.1 F.2.1 dX2_readTape_6 (by decide) ?_
  refine r_putI F I hr_a0 hk_a0 fX2_22 rfl (Or.inl rfl) ⟨rfl, rfl⟩ dX2_readTape_7 h (fun S H locs I h => ?_)
  refine lv_aload_n F.1 F.2.1 dX2_readTape_10 rfl (lv_at hl 0 rfl) ?_
  refine lv_iconst (v := 0) F.1 F.2.1 dX2_readTape_11 (by decide) ?_
  refine r_putI F I hr_a0 hk_a0 fX2_25 rfl (Or.inl rfl) ⟨rfl, rfl⟩ dX2_readTape_12 h (fun S H locs I h => ?_)
  refine lv_aload_n F.1 F.2.1 dX2_readTape_15 rfl (lv_at hl 0 rfl) ?_
  refine lv_iconst (v := 0) F.1 F.2.1 dX2_readTape_16 (by decide) ?_
  refine r_putI F I hr_a0 hk_a0 fX2_35 rfl (Or.inl rfl) ⟨rfl, rfl⟩ dX2_readTape_17 h (fun S H locs I h => ?_)
  refine lv_aload_n F.1 F.2.1 dX2_readTape_20 rfl (lv_at hl 0 rfl) ?_
  refine lv_iconst (v := 0) F.1 F.2.1 dX2_readTape_21 (by decide) ?_
  refine r_putI F I hr_a0 hk_a0 fX2_38 rfl (Or.inl rfl) ⟨rfl, rfl⟩ dX2_readTape_22 h (fun S H locs I h => ?_)
  refine lv_aload_n F.1 F.2.1 dX2_readTape_25 rfl (lv_at hl 0 rfl) ?_
  refine lv_iconst (v := 0) F.1 F.2.1 dX2_readTape_26 (by decide) ?_
  refine r_putI F I hr_a0 hk_a0 fX2_41 rfl (Or.inl rfl) ⟨rfl, rfl⟩ dX2_readTape_27 h (fun S H locs I h => ?_)
  refine lv_aload_n F.1 F.2.1 dX2_readTape_30 rfl (lv_at hl 0 rfl) ?_
  refine lv_iconst (v := 0) F.1 F.2.1 dX2_readTape_31 (by decide) ?_
  refine r_putI F I hr_a0 hk_a0 fX2_44 rfl (Or.inl rfl) ⟨rfl, rfl⟩ dX2_readTape_32 h (fun S H locs I h => ?_)
  refine lv_aload_n F.1 F.2.1 dX2_readTape_35 rfl (lv_at hl 0 rfl) ?_
  refine lv_iconst (v := -1) F.1 F.2.1 dX2_readTape_36 (by decide) ?_
  refine r_putI F I hr_a0 hk_a0 fX2_47 rfl (Or.inl rfl) ⟨rfl, rfl⟩ dX2_readTape_37 h (fun S H locs I h => ?_)
  refine lv_aload_n F.1 F.2.1 dX2_readTape_40 rfl (lv_at hl 0 rfl) ?_
  refine g_V I (run_V (As := []) (rest := []) F I hr_a0 hk_a0 (by decide) kX2_50 (ctX2_advance hr_a0 hk_a0 h) ⟨rfl, rfl⟩ ⟨Nat.le_of_ble_eq_true rfl, Nat.le_of_ble_eq_true rfl⟩ rfl hl.1 rfl (Nat.le_of_ble_eq_true rfl) ⟨Nat.le_of_ble_eq_true rfl, Nat.le_of_ble_eq_true rfl⟩ dX2_readTape_41) (fun S H locs I h => ?_)
  refine lv_aload_n F.1 F.2.1 dX2_readTape_44 rfl (lv_at hl 0 rfl) ?_
  refine lv_aload_n F.1 F.2.1 dX2_readTape_45 rfl (lv_at hl 0 rfl) ?_
  refine g_I I (run_V (As := []) (rest := [.ref (gz g + a0)]) F I hr_a0 hk_a0 (by decide) kX2_53 (ctX2_keyHere hr_a0 hk_a0 h) ⟨rfl, rfl⟩ ⟨Nat.le_of_ble_eq_true rfl, Nat.le_of_ble_eq_true rfl⟩ rfl hl.1 rfl (Nat.le_of_ble_eq_true rfl) ⟨Nat.le_of_ble_eq_true rfl, Nat.le_of_ble_eq_true rfl⟩ dX2_readTape_46) (fun z1 S H locs I h => ?_)
  refine r_putI F I hr_a0 hk_a0 fX2_28 rfl (Or.inl rfl) ⟨rfl, rfl⟩ dX2_readTape_49 h (fun S H locs I h => ?_)
  refine lv_aload_n F.1 F.2.1 dX2_readTape_52 rfl (lv_at hl 0 rfl) ?_
  refine r_getI F I hr_a0 hk_a0 fX2_28 rfl dX2_readTape_53 h (fun z2 h => ?_)
  refine r_if_ge (tgt := 64) F dX2_readTape_56 (by decide) h (fun h => ?_) (fun h => ?_)
  · refine lv_aload_n F.1 F.2.1 dX2_readTape_64 rfl (lv_at hl 0 rfl) ?_
    refine g_V I (run_V (As := []) (rest := []) F I hr_a0 hk_a0 (by decide) kX2_50 (ctX2_advance hr_a0 hk_a0 h) ⟨rfl, rfl⟩ ⟨Nat.le_of_ble_eq_true rfl, Nat.le_of_ble_eq_true rfl⟩ rfl hl.1 rfl (Nat.le_of_ble_eq_true rfl) ⟨Nat.le_of_ble_eq_true rfl, Nat.le_of_ble_eq_true rfl⟩ dX2_readTape_65) (fun S H locs I h => ?_)
    refine lv_aload_n F.1 F.2.1 dX2_readTape_68 rfl (lv_at hl 0 rfl) ?_
    refine lv_iconst (v := 0) F.1 F.2.1 dX2_readTape_69 (by decide) ?_
    refine g_V I (run_V (As := [.int (0 : Int32)]) (rest := []) F I hr_a0 hk_a0 (by decide) kX2_60 ((ctRec 80).1 _ _ _ _ hr_a0 hk_a0 h) ⟨rfl, rfl⟩ ⟨Nat.le_of_ble_eq_true rfl, Nat.le_of_ble_eq_true rfl⟩ rfl hl.1 rfl (Nat.le_of_ble_eq_true rfl) ⟨Nat.le_of_ble_eq_true rfl, Nat.le_of_ble_eq_true rfl⟩ dX2_readTape_70) (fun S H locs I h => ?_)
    refine lv_aload_n F.1 F.2.1 dX2_readTape_73 rfl (lv_at hl 0 rfl) ?_
    refine r_getI F I hr_a0 hk_a0 fX2_18 rfl dX2_readTape_74 h (fun z3 h => ?_)
    refine r_if_eq (tgt := 84) F dX2_readTape_77 (by decide) h (fun h => ?_) (fun h => ?_)
    · exact r_vreturn F I ⟨hr.1, hr.2.1, trivial⟩ h dX2_readTape_84
    · refine lv_aload_n F.1 F.2.1 dX2_readTape_80 rfl (lv_at hl 0 rfl) ?_
      refine g_V I (run_V (As := []) (rest := []) F I hr_a0 hk_a0 (by decide) kX2_57 (ctX2_fail hr_a0 hk_a0 h) ⟨rfl, rfl⟩ ⟨Nat.le_of_ble_eq_true rfl, Nat.le_of_ble_eq_true rfl⟩ rfl hl.1 rfl (Nat.le_of_ble_eq_true rfl) ⟨Nat.le_of_ble_eq_true rfl, Nat.le_of_ble_eq_true rfl⟩ dX2_readTape_81) (fun S H locs I h => ?_)
      exact r_vreturn F I ⟨hr.1, hr.2.1, trivial⟩ h dX2_readTape_84
  · refine lv_aload_n F.1 F.2.1 dX2_readTape_59 rfl (lv_at hl 0 rfl) ?_
    refine g_V I (run_V (As := []) (rest := []) F I hr_a0 hk_a0 (by decide) kX2_57 (ctX2_fail hr_a0 hk_a0 h) ⟨rfl, rfl⟩ ⟨Nat.le_of_ble_eq_true rfl, Nat.le_of_ble_eq_true rfl⟩ rfl hl.1 rfl (Nat.le_of_ble_eq_true rfl) ⟨Nat.le_of_ble_eq_true rfl, Nat.le_of_ble_eq_true rfl⟩ dX2_readTape_60) (fun S H locs I h => ?_)
    exact r_vreturn F I ⟨hr.1, hr.2.1, trivial⟩ h dX2_readTape_63
theorem dX2_lawRead_0 : decode cX2_lawRead 0 = .ok (.aload_n 0, 1) := by decide +kernel
theorem dX2_lawRead_1 : decode cX2_lawRead 1 = .ok (.getfield 35, 3) := by decide +kernel
theorem dX2_lawRead_4 : decode cX2_lawRead 4 = .ok (.newarray .int, 2) := by decide +kernel
theorem dX2_lawRead_6 : decode cX2_lawRead 6 = .ok (.astore_n 1, 1) := by decide +kernel
theorem dX2_lawRead_7 : decode cX2_lawRead 7 = .ok (.iconst 0, 1) := by decide +kernel
theorem dX2_lawRead_8 : decode cX2_lawRead 8 = .ok (.istore_n 2, 1) := by decide +kernel
theorem dX2_lawRead_9 : decode cX2_lawRead 9 = .ok (.iload_n 2, 1) := by decide +kernel
theorem dX2_lawRead_10 : decode cX2_lawRead 10 = .ok (.aload_n 0, 1) := by decide +kernel
theorem dX2_lawRead_11 : decode cX2_lawRead 11 = .ok (.getfield 35, 3) := by decide +kernel
theorem dX2_lawRead_14 : decode cX2_lawRead 14 = .ok (.if_icmp .ge 24, 3) := by decide +kernel
theorem dX2_lawRead_17 : decode cX2_lawRead 17 = .ok (.iload_n 2, 1) := by decide +kernel
theorem dX2_lawRead_18 : decode cX2_lawRead 18 = .ok (.bipush 96, 2) := by decide +kernel
theorem dX2_lawRead_20 : decode cX2_lawRead 20 = .ok (.if_icmp .ge 18, 3) := by decide +kernel
theorem dX2_lawRead_23 : decode cX2_lawRead 23 = .ok (.aload_n 1, 1) := by decide +kernel
theorem dX2_lawRead_24 : decode cX2_lawRead 24 = .ok (.iload_n 2, 1) := by decide +kernel
theorem dX2_lawRead_25 : decode cX2_lawRead 25 = .ok (.aload_n 0, 1) := by decide +kernel
theorem dX2_lawRead_26 : decode cX2_lawRead 26 = .ok (.getfield 31, 3) := by decide +kernel
theorem dX2_lawRead_29 : decode cX2_lawRead 29 = .ok (.iload_n 2, 1) := by decide +kernel
theorem dX2_lawRead_30 : decode cX2_lawRead 30 = .ok (.iaload, 1) := by decide +kernel
theorem dX2_lawRead_31 : decode cX2_lawRead 31 = .ok (.iastore, 1) := by decide +kernel
theorem dX2_lawRead_32 : decode cX2_lawRead 32 = .ok (.iinc 2 1, 3) := by decide +kernel
theorem dX2_lawRead_35 : decode cX2_lawRead 35 = .ok (.goto (-26), 3) := by decide +kernel
theorem dX2_lawRead_38 : decode cX2_lawRead 38 = .ok (.new 64, 3) := by decide +kernel
theorem dX2_lawRead_41 : decode cX2_lawRead 41 = .ok (.dup, 1) := by decide +kernel
theorem dX2_lawRead_42 : decode cX2_lawRead 42 = .ok (.aload_n 0, 1) := by decide +kernel
theorem dX2_lawRead_43 : decode cX2_lawRead 43 = .ok (.getfield 28, 3) := by decide +kernel
theorem dX2_lawRead_46 : decode cX2_lawRead 46 = .ok (.aload_n 0, 1) := by decide +kernel
theorem dX2_lawRead_47 : decode cX2_lawRead 47 = .ok (.getfield 38, 3) := by decide +kernel
theorem dX2_lawRead_50 : decode cX2_lawRead 50 = .ok (.aload_n 1, 1) := by decide +kernel
theorem dX2_lawRead_51 : decode cX2_lawRead 51 = .ok (.invokespecial 66, 3) := by decide +kernel
theorem dX2_lawRead_54 : decode cX2_lawRead 54 = .ok (.areturn, 1) := by decide +kernel
theorem nX2_64 : clsOK RX2 64 1 3 := ⟨_, _, tyX1, ⟨rfl, iX1, rfl, by decide⟩, tyX1_ok, by decide, tw_812, tw_813, tw_69⟩
theorem kX2_66 : mthI RX2 66 yX1_init prog_3_method_1_code 4 3 := ⟨⟨⟨tw_814, tw_69, tw_816⟩, rfl, by decide +kernel⟩, tw_815, rfl⟩
def BX2_lawRead_38 (post : Nat → Nat → (Nat → Nat) → HC → Prop) (M : Nat) (ln : Nat → Nat) (S : HC) (x0 : Nat) (x1 : Nat) : Prop := nw_ M 1 ln S fun N1 ln S => lt_ (hI S x0 4) fun z2 => lt_ (hI S x0 7) fun z3 => wpX1_init ln S M z2 z3 x1 fun S => post M N1 ln S
def LX2_lawRead_9 (post : Nat → Nat → (Nat → Nat) → HC → Prop) : Nat → Nat → (Nat → Nat) → HC → Nat → Nat → Int32 → Prop
  | 0 => fun _ _ _ _ _ _ => False
  | n9 + 1 => fun M ln S x0 x1 x2 => lt_ (hI S x0 6) fun z4 => if z4 ≤ x2 then (BX2_lawRead_38 post M ln S x0 x1) else (if (96 : Int32) ≤ x2 then (BX2_lawRead_38 post M ln S x0 x1) else (dn_ (hR S x0 5) fun b5 => al_ (ln b5) x2 (hI S b5) fun z6 => as_ (ln x1) x2 (fun j => sI S x1 j z6) fun S => lt_ (x2 + (1 : Int32)) fun z7 => (LX2_lawRead_9 post n9) M ln S x0 x1 z7))
def wpX2_lawRead (N : Nat) (ln : Nat → Nat) (S : HC) (a0 : Nat) (post : Nat → Nat → (Nat → Nat) → HC → Prop) : Prop := lt_ (hI S a0 6) fun z8 => na_ N 9 z8 96 ln S fun N9 ln S => ∃ n9, LX2_lawRead_9 post n9 N9 ln S a0 N (0 : Int32)
abbrev rmX2_lawRead : Room := { frames := 2, cells := 2, slots := 99, locals := 43 }
set_option maxHeartbeats 4000000 in
set_option maxRecDepth 100000 in
theorem ctX2_lawRead {l : Launch} {g : GX} {N : Nat} {ln : Nat → Nat} {S : HC} {a0 : Nat} {post : Nat → Nat → (Nat → Nat) → HC → Prop} (hr_a0 : a0 < N) (hk_a0 : kd a0 = 2) (h : wpX2_lawRead N ln S a0 post) : Met l yX2_lawRead (Cond.code yX2_lawRead prog_4_method_3_code 3 (Option.some (Jvm.ClassFile.FieldType.object "LionShield$Law")) :: gtbl) rmX2_lawRead (va_Pc [.ref (gz g + a0)] (AtP g N ln S)) (QXN g N 1 post) 2 99 (gF g) := by
  refine m_of (by decide) (Nat.le_of_ble_eq_true rfl) ?_
  intro p e s m below meth c ls F hr I hl
  have hl : lv_has ls 3 [(0, .ref (gz g + a0))] := hl
  unfold wpX2_lawRead at h
  have hN := Nat.le_refl N
  have hj_38 : ∀ (M : Nat) (ln : Nat → Nat) (S : HC) (H : Heap) (locs : List Loc) (ls : Array Slot) (x0 : Nat) (x1 : Nat), N ≤ M → x0 < M → kd x0 = 2 → x1 < M → kd x1 = 9 → BX2_lawRead_38 post M ln S x0 x1 → Inv g M ln S s H locs → lv_has ls 3 [(0, .ref (gz g + x0)), (1, .ref (gz g + x1))] → W p l e rmX2_lawRead s m ([.ref (gz g + a0)] : List Value).toArray below meth c H locs 1 96 (MQ below (QXN g N 1 post) ([.ref (gz g + a0)] : List Value).toArray s 2 99 (gF g)) (F0 m 38 ls []) := by
    intro M ln S H locs ls x0 x1 hN hr_x0 hk_x0 hr_x1 hk_x1 h I hl
    unfold BX2_lawRead_38 at h
    refine r_new F I nX2_64 h ⟨Nat.le_of_ble_eq_true rfl, Nat.le_of_ble_eq_true rfl⟩ dX2_lawRead_38 (fun N1 ln S H hr_M hk_M I h => ?_)
    have hr_x0 := Nat.lt_of_lt_of_le hr_x0 (Nat.le_of_lt hr_M)
    have hr_x1 := Nat.lt_of_lt_of_le hr_x1 (Nat.le_of_lt hr_M)
    have hN := Nat.le_trans hN (Nat.le_of_lt hr_M)
    refine lv_dup F.1 F.2.1 dX2_lawRead_41 rfl ?_
    refine lv_aload_n F.1 F.2.1 dX2_lawRead_42 rfl (lv_at hl 0 rfl) ?_
    refine r_getI F I hr_x0 hk_x0 fX2_28 rfl dX2_lawRead_43 h (fun z2 h => ?_)
    refine lv_aload_n F.1 F.2.1 dX2_lawRead_46 rfl (lv_at hl 0 rfl) ?_
    refine r_getI F I hr_x0 hk_x0 fX2_38 rfl dX2_lawRead_47 h (fun z3 h => ?_)
    refine lv_aload_n F.1 F.2.1 dX2_lawRead_50 rfl (lv_at hl 1 rfl) ?_
    refine g_V I (run_I (As := [.int z2, .int z3, .ref (gz g + x1)]) (rest := [.ref (gz g + M)]) F I kX2_66 (ctX1_init hr_M hk_M hr_x1 hk_x1 h) ⟨rfl, rfl⟩ ⟨Nat.le_of_ble_eq_true rfl, Nat.le_of_ble_eq_true rfl⟩ rfl hl.1 rfl (Nat.le_of_ble_eq_true rfl) ⟨Nat.le_of_ble_eq_true rfl, Nat.le_of_ble_eq_true rfl⟩ dX2_lawRead_51) (fun S H locs I h => ?_)
    refine W.widen (k := 2) (n := 99) (Nat.le_of_ble_eq_true rfl) (Nat.le_of_ble_eq_true rfl) ?_
    exact r_areturnX F I ⟨hr.1, hr.2.1, trivial⟩ hN hr_M hk_M h dX2_lawRead_54
  have hl_9 : ∀ n9 : Nat, ∀ (M : Nat) (ln : Nat → Nat) (S : HC) (H : Heap) (locs : List Loc) (ls : Array Slot) (x0 : Nat) (x1 : Nat) (x2 : Int32), N ≤ M → x0 < M → kd x0 = 2 → x1 < M → kd x1 = 9 → LX2_lawRead_9 post n9 M ln S x0 x1 x2 → Inv g M ln S s H locs → lv_has ls 3 [(0, .ref (gz g + x0)), (1, .ref (gz g + x1)), (2, .int x2)] → W p l e rmX2_lawRead s m ([.ref (gz g + a0)] : List Value).toArray below meth c H locs 1 96 (MQ below (QXN g N 1 post) ([.ref (gz g + a0)] : List Value).toArray s 2 99 (gF g)) (F0 m 9 ls []) := by
    intro n9
    induction n9 with
    | zero =>
      intro M ln S H locs ls x0 x1 x2 hN hr_x0 hk_x0 hr_x1 hk_x1 h I hl
      exact h.elim
    | succ n9 ih =>
      have hk9 := ih
      intro M ln S H locs ls x0 x1 x2 hN hr_x0 hk_x0 hr_x1 hk_x1 h I hl
      rw [LX2_lawRead_9] at h
      refine lv_iload_n F.1 F.2.1 dX2_lawRead_9 rfl (lv_at hl 2 rfl) ?_
      refine lv_aload_n F.1 F.2.1 dX2_lawRead_10 rfl (lv_at hl 0 rfl) ?_
      refine r_getI F I hr_x0 hk_x0 fX2_35 rfl dX2_lawRead_11 h (fun z4 h => ?_)
      refine r_icmp_ge (tgt := 38) F dX2_lawRead_14 (by decide) h (fun h => ?_) (fun h => ?_)
      · exact hj_38 M ln S _ _ _ x0 x1 hN hr_x0 hk_x0 hr_x1 hk_x1 h I (lv_sub hl [0, 1] rfl)
      · refine lv_iload_n F.1 F.2.1 dX2_lawRead_17 rfl (lv_at hl 2 rfl) ?_
        refine lv_bipush (v := 96) F.1 F.2.1 dX2_lawRead_18 (by decide) ?_
        refine r_icmp_ge (tgt := 38) F dX2_lawRead_20 (by decide) h (fun h => ?_) (fun h => ?_)
        · exact hj_38 M ln S _ _ _ x0 x1 hN hr_x0 hk_x0 hr_x1 hk_x1 h I (lv_sub hl [0, 1] rfl)
        · refine lv_aload_n F.1 F.2.1 dX2_lawRead_23 rfl (lv_at hl 1 rfl) ?_
          refine lv_iload_n F.1 F.2.1 dX2_lawRead_24 rfl (lv_at hl 2 rfl) ?_
          refine lv_aload_n F.1 F.2.1 dX2_lawRead_25 rfl (lv_at hl 0 rfl) ?_
          refine r_getN F I hr_x0 hk_x0 fX2_31 (f := 9) rfl (by decide) dX2_lawRead_26 h (fun b5 hr_b5 hk_b5 h => ?_)
          refine lv_iload_n F.1 F.2.1 dX2_lawRead_29 rfl (lv_at hl 2 rfl) ?_
          refine r_ald F I hr_b5 hk_b5 dX2_lawRead_30 h (fun z6 h => ?_)
          refine r_ast F I hr_x1 hk_x1 dX2_lawRead_31 h (fun S H locs I h => ?_)
          obtain ⟨z7, e_z7, h⟩ := lt_x h
          refine lv_iinc (v := z7) (lv' := [(2, .int z7), (0, .ref (gz g + x0)), (1, .ref (gz g + x1))]) F.1 F.2.1 dX2_lawRead_32 hl (k := 2) rfl (by rw [e_z7]; rfl) (by decide) rfl (fun ls hl => ?_)
          refine lv_goto (tgt := 9) F.1 F.2.1 dX2_lawRead_35 (by decide) ?_
          exact hk9 M ln S _ _ _ x0 x1 z7 hN hr_x0 hk_x0 hr_x1 hk_x1 h I (lv_sub hl [1, 2, 0] rfl)
  refine lv_aload_n F.1 F.2.1 dX2_lawRead_0 rfl (lv_at hl 0 rfl) ?_
  refine r_getI F I hr_a0 hk_a0 fX2_35 rfl dX2_lawRead_1 h (fun z8 h => ?_)
  refine r_newa (B := 96) F I h tw_148 ⟨Nat.le_of_ble_eq_true rfl, Nat.le_of_ble_eq_true rfl⟩ (Nat.le_of_ble_eq_true rfl) dX2_lawRead_4 (fun N9 ln S H hr_N hk_N I h => ?_)
  have hr_a0 := Nat.lt_of_lt_of_le hr_a0 (Nat.le_of_lt hr_N)
  have hN := Nat.le_trans hN (Nat.le_of_lt hr_N)
  refine lv_astore_n (lv' := [(1, .ref (gz g + N)), (0, .ref (gz g + a0))]) F.1 F.2.1 dX2_lawRead_6 rfl hl (by decide) rfl (fun ls hl => ?_)
  refine lv_iconst (v := 0) F.1 F.2.1 dX2_lawRead_7 (by decide) ?_
  refine lv_istore_n (lv' := [(2, .int (0 : Int32)), (1, .ref (gz g + N)), (0, .ref (gz g + a0))]) F.1 F.2.1 dX2_lawRead_8 rfl hl (by decide) rfl (fun ls hl => ?_)
  obtain ⟨n9, h⟩ := h
  exact hl_9 n9 N9 ln S _ _ _ a0 N (0 : Int32) hN hr_a0 hk_a0 hr_N hk_N h I (lv_sub hl [2, 1, 0] rfl)
theorem dX7_text_0 : decode cX7_text 0 = .ok (.aload_n 0, 1) := by decide +kernel
theorem dX7_text_1 : decode cX7_text 1 = .ok (.getfield 36, 3) := by decide +kernel
theorem dX7_text_4 : decode cX7_text 4 = .ok (.invokevirtual 233, 3) := by decide +kernel
theorem dX7_text_7 : decode cX7_text 7 = .ok (.aload_n 0, 1) := by decide +kernel
theorem dX7_text_8 : decode cX7_text 8 = .ok (.getfield 36, 3) := by decide +kernel
theorem dX7_text_11 : decode cX7_text 11 = .ok (.getfield 221, 3) := by decide +kernel
theorem dX7_text_14 : decode cX7_text 14 = .ok (.iconst 0, 1) := by decide +kernel
theorem dX7_text_15 : decode cX7_text 15 = .ok (.putfield 225, 3) := by decide +kernel
theorem dX7_text_18 : decode cX7_text 18 = .ok (.aload_n 0, 1) := by decide +kernel
theorem dX7_text_19 : decode cX7_text 19 = .ok (.getfield 36, 3) := by decide +kernel
theorem dX7_text_22 : decode cX7_text 22 = .ok (.getfield 236, 3) := by decide +kernel
theorem dX7_text_25 : decode cX7_text 25 = .ok (.ifCond .lt 14, 3) := by decide +kernel
theorem dX7_text_28 : decode cX7_text 28 = .ok (.bipush (-100), 2) := by decide +kernel
theorem dX7_text_30 : decode cX7_text 30 = .ok (.aload_n 0, 1) := by decide +kernel
theorem dX7_text_31 : decode cX7_text 31 = .ok (.getfield 36, 3) := by decide +kernel
theorem dX7_text_34 : decode cX7_text 34 = .ok (.getfield 236, 3) := by decide +kernel
theorem dX7_text_37 : decode cX7_text 37 = .ok (.isub, 1) := by decide +kernel
theorem dX7_text_38 : decode cX7_text 38 = .ok (.ireturn, 1) := by decide +kernel
theorem dX7_text_39 : decode cX7_text 39 = .ok (.aload_n 0, 1) := by decide +kernel
theorem dX7_text_40 : decode cX7_text 40 = .ok (.getfield 10, 3) := by decide +kernel
theorem dX7_text_43 : decode cX7_text 43 = .ok (.getfield 239, 3) := by decide +kernel
theorem dX7_text_46 : decode cX7_text 46 = .ok (.ifCond .lt 15, 3) := by decide +kernel
theorem dX7_text_49 : decode cX7_text 49 = .ok (.aload_n 0, 1) := by decide +kernel
theorem dX7_text_50 : decode cX7_text 50 = .ok (.getfield 10, 3) := by decide +kernel
theorem dX7_text_53 : decode cX7_text 53 = .ok (.getfield 239, 3) := by decide +kernel
theorem dX7_text_56 : decode cX7_text 56 = .ok (.bipush 14, 2) := by decide +kernel
theorem dX7_text_58 : decode cX7_text 58 = .ok (.if_icmp .lt 6, 3) := by decide +kernel
theorem dX7_text_61 : decode cX7_text 61 = .ok (.ldc 81, 2) := by decide +kernel
theorem dX7_text_63 : decode cX7_text 63 = .ok (.ireturn, 1) := by decide +kernel
theorem dX7_text_64 : decode cX7_text 64 = .ok (.aload_n 0, 1) := by decide +kernel
theorem dX7_text_65 : decode cX7_text 65 = .ok (.getfield 10, 3) := by decide +kernel
theorem dX7_text_68 : decode cX7_text 68 = .ok (.getfield 239, 3) := by decide +kernel
theorem dX7_text_71 : decode cX7_text 71 = .ok (.istore_n 1, 1) := by decide +kernel
theorem dX7_text_72 : decode cX7_text 72 = .ok (.aload_n 0, 1) := by decide +kernel
theorem dX7_text_73 : decode cX7_text 73 = .ok (.getfield 10, 3) := by decide +kernel
theorem dX7_text_76 : decode cX7_text 76 = .ok (.getfield 242, 3) := by decide +kernel
theorem dX7_text_79 : decode cX7_text 79 = .ok (.iload_n 1, 1) := by decide +kernel
theorem dX7_text_80 : decode cX7_text 80 = .ok (.aload_n 0, 1) := by decide +kernel
theorem dX7_text_81 : decode cX7_text 81 = .ok (.getfield 36, 3) := by decide +kernel
theorem dX7_text_84 : decode cX7_text 84 = .ok (.invokevirtual 246, 3) := by decide +kernel
theorem dX7_text_87 : decode cX7_text 87 = .ok (.aastore, 1) := by decide +kernel
theorem dX7_text_88 : decode cX7_text 88 = .ok (.aload_n 0, 1) := by decide +kernel
theorem dX7_text_89 : decode cX7_text 89 = .ok (.getfield 10, 3) := by decide +kernel
theorem dX7_text_92 : decode cX7_text 92 = .ok (.iload_n 1, 1) := by decide +kernel
theorem dX7_text_93 : decode cX7_text 93 = .ok (.iconst 1, 1) := by decide +kernel
theorem dX7_text_94 : decode cX7_text 94 = .ok (.iadd, 1) := by decide +kernel
theorem dX7_text_95 : decode cX7_text 95 = .ok (.putfield 239, 3) := by decide +kernel
theorem dX7_text_98 : decode cX7_text 98 = .ok (.iload_n 1, 1) := by decide +kernel
theorem dX7_text_99 : decode cX7_text 99 = .ok (.ireturn, 1) := by decide +kernel
theorem fX7_36 : fldOK RX7 36 7 5 (.object "LionShield$Reader") true := ⟨_, _, _, tyX7, ⟨rfl, iX7, by decide, rfl, by decide⟩, tw_290, ⟨tyX7_ok, nmX7⟩, by decide +kernel, rfl, rfl⟩
theorem kX7_233 : mthV RX7 233 2 yX2_readTape prog_4_method_2_code 1 (Option.none : Option Jvm.ClassFile.FieldType) 0 := ⟨⟨⟨tw_636, tw_63, tw_639⟩, rfl, by decide +kernel⟩, tw_637, tw_638, rfl⟩
theorem fX7_221 : fldOK RX7 221 2 0 (.object "LionShield$Tape") true := ⟨_, _, _, tyX2, ⟨rfl, iX2, by decide, rfl, by decide⟩, tw_199, ⟨tyX2_ok, nmX2⟩, by decide +kernel, rfl, rfl⟩
theorem fX7_225 : fldOK RX7 225 6 1 .int false := ⟨_, _, _, tyX6, ⟨rfl, iX6, by decide, rfl, by decide⟩, tw_192, ⟨tyX6_ok, nmX6⟩, by decide +kernel, rfl, rfl⟩
theorem fX7_236 : fldOK RX7 236 2 10 .int false := ⟨_, _, _, tyX2, ⟨rfl, iX2, by decide, rfl, by decide⟩, tw_210, ⟨tyX2_ok, nmX2⟩, by decide +kernel, rfl, rfl⟩
theorem fX7_10 : fldOK RX7 10 7 0 (.object "LionShield$Land") true := ⟨_, _, _, tyX7, ⟨rfl, iX7, by decide, rfl, by decide⟩, tw_285, ⟨tyX7_ok, nmX7⟩, by decide +kernel, rfl, rfl⟩
theorem fX7_239 : fldOK RX7 239 0 11 .int false := ⟨_, _, _, tyX0, ⟨rfl, iX0, by decide, rfl, by decide⟩, tw_122, ⟨tyX0_ok, nmX0⟩, by decide +kernel, rfl, rfl⟩
theorem fX7_242 : fldOK RX7 242 0 10 (.array (.object "LionShield$Law")) true := ⟨_, _, _, tyX0, ⟨rfl, iX0, by decide, rfl, by decide⟩, tw_120, ⟨tyX0_ok, nmX0⟩, by decide +kernel, rfl, rfl⟩
theorem kX7_246 : mthV RX7 246 2 yX2_lawRead prog_4_method_3_code 3 (Option.some (Jvm.ClassFile.FieldType.object "LionShield$Law")) 0 := ⟨⟨⟨tw_808, tw_63, tw_811⟩, rfl, by decide +kernel⟩, tw_809, tw_810, rfl⟩
def BX7_text_61 (post : Int32 → Nat → (Nat → Nat) → HC → Prop) (M : Nat) (ln : Nat → Nat) (S : HC)  : Prop := post (-1000000003 : Int32) M ln S
def wpX7_text (N : Nat) (ln : Nat → Nat) (S : HC) (a0 : Nat) (post : Int32 → Nat → (Nat → Nat) → HC → Prop) : Prop := dn_ (hR S a0 5) fun b1 => wpX2_readTape ln S b1 fun S => dn_ (hR S a0 5) fun b2 => dn_ (hR S b2 0) fun b3 => lt_ (sI S b3 1 (0 : Int32)) fun S => dn_ (hR S a0 5) fun b4 => lt_ (hI S b4 10) fun z5 => if z5 < 0 then (dn_ (hR S a0 0) fun b6 => lt_ (hI S b6 11) fun z7 => if z7 < 0 then (BX7_text_61 post N ln S) else (dn_ (hR S a0 0) fun b8 => lt_ (hI S b8 11) fun z9 => if z9 < (14 : Int32) then (dn_ (hR S a0 0) fun b10 => lt_ (hI S b10 11) fun z11 => dn_ (hR S a0 0) fun b12 => dn_ (hR S b12 10) fun b13 => dn_ (hR S a0 5) fun b14 => wpX2_lawRead N ln S b14 fun b16 N15 ln S => as_ (ln b13) z11 (fun j => sR S b13 j (some b16)) fun S => dn_ (hR S a0 0) fun b17 => lt_ (z11 + (1 : Int32)) fun z18 => lt_ (sI S b17 11 z18) fun S => post z11 N15 ln S) else (BX7_text_61 post N ln S))) else (dn_ (hR S a0 5) fun b19 => lt_ (hI S b19 10) fun z20 => lt_ ((-100 : Int32) - z20) fun z21 => post z21 N ln S)
abbrev rmX7_text : Room := { frames := 102, cells := 2, slots := 99, locals := 2644 }
set_option maxHeartbeats 4000000 in
set_option maxRecDepth 100000 in
theorem ctX7_text {l : Launch} {g : GX} {N : Nat} {ln : Nat → Nat} {S : HC} {a0 : Nat} {post : Int32 → Nat → (Nat → Nat) → HC → Prop} (hr_a0 : a0 < N) (hk_a0 : kd a0 = 7) (h : wpX7_text N ln S a0 post) : Met l yX7_text (Cond.code yX7_text prog_1_method_26_code 2 (Option.some Jvm.ClassFile.FieldType.int) :: gtbl) rmX7_text (va_Pc [.ref (gz g + a0)] (AtP g N ln S)) (QXI g N post) 2 99 (gF g) := by
  refine m_of (by decide) (Nat.le_of_ble_eq_true rfl) ?_
  intro p e s m below meth c ls F hr I hl
  have hl : lv_has ls 2 [(0, .ref (gz g + a0))] := hl
  unfold wpX7_text at h
  have hN := Nat.le_refl N
  have hj_61 : ∀ (M : Nat) (ln : Nat → Nat) (S : HC) (H : Heap) (locs : List Loc) (ls : Array Slot), N ≤ M → BX7_text_61 post M ln S  → Inv g M ln S s H locs → lv_has ls 2 [] → W p l e rmX7_text s m ([.ref (gz g + a0)] : List Value).toArray below meth c H locs 0 0 (MQ below (QXI g N post) ([.ref (gz g + a0)] : List Value).toArray s 2 99 (gF g)) (F0 m 61 ls []) := by
    intro M ln S H locs ls hN h I hl
    unfold BX7_text_61 at h
    refine lv_ldc F.1 F.2.1 F.2.2.2.1 (F.2.2.2.2 _ tw_342) dX7_text_61 ?_
    refine W.widen (k := 2) (n := 99) (Nat.le_of_ble_eq_true rfl) (Nat.le_of_ble_eq_true rfl) ?_
    exact r_ireturnX F I ⟨hr.1, hr.2.1, trivial⟩ hN h dX7_text_63
  refine lv_aload_n F.1 F.2.1 dX7_text_0 rfl (lv_at hl 0 rfl) ?_
  refine r_getN F I hr_a0 hk_a0 fX7_36 (f := 2) rfl (by decide) dX7_text_1 h (fun b1 hr_b1 hk_b1 h => ?_)
  refine g_V I (run_V (As := []) (rest := []) F I hr_b1 hk_b1 (by decide) kX7_233 (ctX2_readTape hr_b1 hk_b1 h) ⟨rfl, rfl⟩ ⟨Nat.le_of_ble_eq_true rfl, Nat.le_of_ble_eq_true rfl⟩ rfl hl.1 rfl (Nat.le_of_ble_eq_true rfl) ⟨Nat.le_of_ble_eq_true rfl, Nat.le_of_ble_eq_true rfl⟩ dX7_text_4) (fun S H locs I h => ?_)
  refine lv_aload_n F.1 F.2.1 dX7_text_7 rfl (lv_at hl 0 rfl) ?_
  refine r_getN F I hr_a0 hk_a0 fX7_36 (f := 2) rfl (by decide) dX7_text_8 h (fun b2 hr_b2 hk_b2 h => ?_)
  refine r_getN F I hr_b2 hk_b2 fX7_221 (f := 6) rfl (by decide) dX7_text_11 h (fun b3 hr_b3 hk_b3 h => ?_)
  refine lv_iconst (v := 0) F.1 F.2.1 dX7_text_14 (by decide) ?_
  refine r_putI F I hr_b3 hk_b3 fX7_225 rfl (Or.inl rfl) ⟨rfl, rfl⟩ dX7_text_15 h (fun S H locs I h => ?_)
  refine lv_aload_n F.1 F.2.1 dX7_text_18 rfl (lv_at hl 0 rfl) ?_
  refine r_getN F I hr_a0 hk_a0 fX7_36 (f := 2) rfl (by decide) dX7_text_19 h (fun b4 hr_b4 hk_b4 h => ?_)
  refine r_getI F I hr_b4 hk_b4 fX7_236 rfl dX7_text_22 h (fun z5 h => ?_)
  refine r_if_lt (tgt := 39) F dX7_text_25 (by decide) h (fun h => ?_) (fun h => ?_)
  · refine lv_aload_n F.1 F.2.1 dX7_text_39 rfl (lv_at hl 0 rfl) ?_
    refine r_getN F I hr_a0 hk_a0 fX7_10 (f := 0) rfl (by decide) dX7_text_40 h (fun b6 hr_b6 hk_b6 h => ?_)
    refine r_getI F I hr_b6 hk_b6 fX7_239 rfl dX7_text_43 h (fun z7 h => ?_)
    refine r_if_lt (tgt := 61) F dX7_text_46 (by decide) h (fun h => ?_) (fun h => ?_)
    · exact hj_61 N ln S _ _ _  hN  h I (lv_sub hl [] rfl)
    · refine lv_aload_n F.1 F.2.1 dX7_text_49 rfl (lv_at hl 0 rfl) ?_
      refine r_getN F I hr_a0 hk_a0 fX7_10 (f := 0) rfl (by decide) dX7_text_50 h (fun b8 hr_b8 hk_b8 h => ?_)
      refine r_getI F I hr_b8 hk_b8 fX7_239 rfl dX7_text_53 h (fun z9 h => ?_)
      refine lv_bipush (v := 14) F.1 F.2.1 dX7_text_56 (by decide) ?_
      refine r_icmp_lt (tgt := 64) F dX7_text_58 (by decide) h (fun h => ?_) (fun h => ?_)
      · refine lv_aload_n F.1 F.2.1 dX7_text_64 rfl (lv_at hl 0 rfl) ?_
        refine r_getN F I hr_a0 hk_a0 fX7_10 (f := 0) rfl (by decide) dX7_text_65 h (fun b10 hr_b10 hk_b10 h => ?_)
        refine r_getI F I hr_b10 hk_b10 fX7_239 rfl dX7_text_68 h (fun z11 h => ?_)
        refine lv_istore_n (lv' := [(1, .int z11), (0, .ref (gz g + a0))]) F.1 F.2.1 dX7_text_71 rfl hl (by decide) rfl (fun ls hl => ?_)
        refine lv_aload_n F.1 F.2.1 dX7_text_72 rfl (lv_at hl 1 rfl) ?_
        refine r_getN F I hr_a0 hk_a0 fX7_10 (f := 0) rfl (by decide) dX7_text_73 h (fun b12 hr_b12 hk_b12 h => ?_)
        refine r_getN F I hr_b12 hk_b12 fX7_242 (f := 13) rfl (by decide) dX7_text_76 h (fun b13 hr_b13 hk_b13 h => ?_)
        refine lv_iload_n F.1 F.2.1 dX7_text_79 rfl (lv_at hl 0 rfl) ?_
        refine lv_aload_n F.1 F.2.1 dX7_text_80 rfl (lv_at hl 1 rfl) ?_
        refine r_getN F I hr_a0 hk_a0 fX7_36 (f := 2) rfl (by decide) dX7_text_81 h (fun b14 hr_b14 hk_b14 h => ?_)
        refine g_XN I (run_V (As := []) (rest := [.int z11, .ref (gz g + b13)]) F I hr_b14 hk_b14 (by decide) kX7_246 (ctX2_lawRead hr_b14 hk_b14 h) ⟨rfl, rfl⟩ ⟨Nat.le_of_ble_eq_true rfl, Nat.le_of_ble_eq_true rfl⟩ rfl hl.1 rfl (Nat.le_of_ble_eq_true rfl) ⟨Nat.le_of_ble_eq_true rfl, Nat.le_of_ble_eq_true rfl⟩ dX7_text_84) (fun b16 N15 ln S H locs hr_b16 hk_b16 hNN I h => ?_)
        have hr_a0 := Nat.lt_of_lt_of_le hr_a0 hNN
        have hr_b13 := Nat.lt_of_lt_of_le hr_b13 hNN
        have hN := Nat.le_trans hN hNN
        refine r_astN F I hr_b13 hk_b13 (by decide) (f := 1) rfl hr_b16 hk_b16 dX7_text_87 h (fun S H locs I h => ?_)
        refine lv_aload_n F.1 F.2.1 dX7_text_88 rfl (lv_at hl 1 rfl) ?_
        refine r_getN F I hr_a0 hk_a0 fX7_10 (f := 0) rfl (by decide) dX7_text_89 h (fun b17 hr_b17 hk_b17 h => ?_)
        refine lv_iload_n F.1 F.2.1 dX7_text_92 rfl (lv_at hl 0 rfl) ?_
        refine lv_iconst (v := 1) F.1 F.2.1 dX7_text_93 (by decide) ?_
        refine r_iadd F dX7_text_94 h (fun z18 h => ?_)
        refine r_putI F I hr_b17 hk_b17 fX7_239 rfl (Or.inl rfl) ⟨rfl, rfl⟩ dX7_text_95 h (fun S H locs I h => ?_)
        refine lv_iload_n F.1 F.2.1 dX7_text_98 rfl (lv_at hl 0 rfl) ?_
        refine W.widen (k := 2) (n := 99) (Nat.le_of_ble_eq_true rfl) (Nat.le_of_ble_eq_true rfl) ?_
        exact r_ireturnX F I ⟨hr.1, hr.2.1, trivial⟩ hN h dX7_text_99
      · exact hj_61 N ln S _ _ _  hN  h I (lv_sub hl [] rfl)
  · refine lv_bipush (v := -100) F.1 F.2.1 dX7_text_28 (by decide) ?_
    refine lv_aload_n F.1 F.2.1 dX7_text_30 rfl (lv_at hl 0 rfl) ?_
    refine r_getN F I hr_a0 hk_a0 fX7_36 (f := 2) rfl (by decide) dX7_text_31 h (fun b19 hr_b19 hk_b19 h => ?_)
    refine r_getI F I hr_b19 hk_b19 fX7_236 rfl dX7_text_34 h (fun z20 h => ?_)
    refine r_isub F dX7_text_37 h (fun z21 h => ?_)
    refine W.widen (k := 2) (n := 99) (Nat.le_of_ble_eq_true rfl) (Nat.le_of_ble_eq_true rfl) ?_
    exact r_ireturnX F I ⟨hr.1, hr.2.1, trivial⟩ hN h dX7_text_38
end
