-- ===== PART A: goes FIRST, ahead of the names: the tables' words, and 'selects' of the private methods out of them =====
/-- a private method of a class that the tables say can be made, by its rows of tables_1 -/
def lw_okq (q : MethodName × Nat) : Prop := (q.1.cls ≠ "java/lang/invoke/MethodHandle" ∧ q.1.cls ≠ "java/lang/invoke/VarHandle") ∧ Cond.instantiable q.1.cls q.2 ∈ tables_1 ∧ Cond.privateMethod q.1 ∈ tables_1 ∧ Cond.instanceMethod q.1 ∈ tables_1
theorem lw_p0 : lw_okq (⟨"ShapeSearch", "binding", "(II)I"⟩, 8) := ⟨⟨by decide +kernel, by decide +kernel⟩, List.mem_of_getElem? (i := 21) (by decide +kernel), List.mem_of_getElem? (i := 286) (by decide +kernel), List.mem_of_getElem? (i := 287) (by decide +kernel)⟩
theorem lw_p1 : lw_okq (⟨"ShapeSearch$Matcher", "pair", "(II)Z"⟩, 3) := ⟨⟨by decide +kernel, by decide +kernel⟩, List.mem_of_getElem? (i := 85) (by decide +kernel), List.mem_of_getElem? (i := 305) (by decide +kernel), List.mem_of_getElem? (i := 306) (by decide +kernel)⟩
theorem lw_p2 : lw_okq (⟨"ShapeSearch$Matcher", "settle", "(J)Z"⟩, 3) := ⟨⟨by decide +kernel, by decide +kernel⟩, List.mem_of_getElem? (i := 85) (by decide +kernel), List.mem_of_getElem? (i := 309) (by decide +kernel), List.mem_of_getElem? (i := 310) (by decide +kernel)⟩
theorem lw_p3 : lw_okq (⟨"ShapeSearch$Matcher", "agrees", "(IIJ)Z"⟩, 3) := ⟨⟨by decide +kernel, by decide +kernel⟩, List.mem_of_getElem? (i := 85) (by decide +kernel), List.mem_of_getElem? (i := 313) (by decide +kernel), List.mem_of_getElem? (i := 314) (by decide +kernel)⟩
theorem lw_p4 : lw_okq (⟨"ShapeSearch$Terms", "seek", "(IIIII)I"⟩, 7) := ⟨⟨by decide +kernel, by decide +kernel⟩, List.mem_of_getElem? (i := 29) (by decide +kernel), List.mem_of_getElem? (i := 333) (by decide +kernel), List.mem_of_getElem? (i := 334) (by decide +kernel)⟩
theorem lw_p5 : lw_okq (⟨"ShapeSearch$Matcher", "image", "(I)I"⟩, 3) := ⟨⟨by decide +kernel, by decide +kernel⟩, List.mem_of_getElem? (i := 85) (by decide +kernel), List.mem_of_getElem? (i := 337) (by decide +kernel), List.mem_of_getElem? (i := 338) (by decide +kernel)⟩
theorem lw_p6 : lw_okq (⟨"ShapeSearch", "areTerms", "(IIIII)Z"⟩, 8) := ⟨⟨by decide +kernel, by decide +kernel⟩, List.mem_of_getElem? (i := 21) (by decide +kernel), List.mem_of_getElem? (i := 391) (by decide +kernel), List.mem_of_getElem? (i := 392) (by decide +kernel)⟩
theorem lw_p7 : lw_okq (⟨"java/lang/Throwable", "fillInStackTrace", "(I)Ljava/lang/Throwable;"⟩, 6) := ⟨⟨by decide +kernel, by decide +kernel⟩, List.mem_of_getElem? (i := 434) (by decide +kernel), List.mem_of_getElem? (i := 432) (by decide +kernel), List.mem_of_getElem? (i := 433) (by decide +kernel)⟩
theorem lw_p8 : lw_okq (⟨"ShapeSearch", "holeStandsIn", "(IIIII)Z"⟩, 8) := ⟨⟨by decide +kernel, by decide +kernel⟩, List.mem_of_getElem? (i := 21) (by decide +kernel), List.mem_of_getElem? (i := 525) (by decide +kernel), List.mem_of_getElem? (i := 526) (by decide +kernel)⟩
theorem lw_p9 : lw_okq (⟨"ShapeSearch$Finder", "forgetSeen", "()V"⟩, 7) := ⟨⟨by decide +kernel, by decide +kernel⟩, List.mem_of_getElem? (i := 101) (by decide +kernel), List.mem_of_getElem? (i := 552) (by decide +kernel), List.mem_of_getElem? (i := 553) (by decide +kernel)⟩
theorem lw_p10 : lw_okq (⟨"ShapeSearch$Finder", "firstIn", "(I)I"⟩, 7) := ⟨⟨by decide +kernel, by decide +kernel⟩, List.mem_of_getElem? (i := 101) (by decide +kernel), List.mem_of_getElem? (i := 557) (by decide +kernel), List.mem_of_getElem? (i := 558) (by decide +kernel)⟩
theorem lw_p11 : lw_okq (⟨"ShapeSearch$Hits", "put", "(IIII)V"⟩, 6) := ⟨⟨by decide +kernel, by decide +kernel⟩, List.mem_of_getElem? (i := 179) (by decide +kernel), List.mem_of_getElem? (i := 585) (by decide +kernel), List.mem_of_getElem? (i := 586) (by decide +kernel)⟩
theorem lw_p12 : lw_okq (⟨"ShapeSearch", "checkGoal", "(I)V"⟩, 8) := ⟨⟨by decide +kernel, by decide +kernel⟩, List.mem_of_getElem? (i := 21) (by decide +kernel), List.mem_of_getElem? (i := 596) (by decide +kernel), List.mem_of_getElem? (i := 597) (by decide +kernel)⟩
theorem lw_p13 : lw_okq (⟨"ShapeSearch$Statements", "withinPremises", "(ILShapeSearch$Terms;)J"⟩, 5) := ⟨⟨by decide +kernel, by decide +kernel⟩, List.mem_of_getElem? (i := 63) (by decide +kernel), List.mem_of_getElem? (i := 613) (by decide +kernel), List.mem_of_getElem? (i := 614) (by decide +kernel)⟩
theorem lw_p14 : lw_okq (⟨"ShapeSearch$Matcher", "placeWithoutImage", "(I)I"⟩, 3) := ⟨⟨by decide +kernel, by decide +kernel⟩, List.mem_of_getElem? (i := 85) (by decide +kernel), List.mem_of_getElem? (i := 661) (by decide +kernel), List.mem_of_getElem? (i := 662) (by decide +kernel)⟩
theorem lw_p15 : lw_okq (⟨"ShapeSearch$Matcher", "putImage", "(II)Z"⟩, 3) := ⟨⟨by decide +kernel, by decide +kernel⟩, List.mem_of_getElem? (i := 85) (by decide +kernel), List.mem_of_getElem? (i := 665) (by decide +kernel), List.mem_of_getElem? (i := 666) (by decide +kernel)⟩
def lw_privs_1 : List (MethodName × Nat) := [(⟨"ShapeSearch", "binding", "(II)I"⟩, 8), (⟨"ShapeSearch$Matcher", "pair", "(II)Z"⟩, 3), (⟨"ShapeSearch$Matcher", "settle", "(J)Z"⟩, 3), (⟨"ShapeSearch$Matcher", "agrees", "(IIJ)Z"⟩, 3), (⟨"ShapeSearch$Terms", "seek", "(IIIII)I"⟩, 7), (⟨"ShapeSearch$Matcher", "image", "(I)I"⟩, 3), (⟨"ShapeSearch", "areTerms", "(IIIII)Z"⟩, 8), (⟨"java/lang/Throwable", "fillInStackTrace", "(I)Ljava/lang/Throwable;"⟩, 6), (⟨"ShapeSearch", "holeStandsIn", "(IIIII)Z"⟩, 8), (⟨"ShapeSearch$Finder", "forgetSeen", "()V"⟩, 7), (⟨"ShapeSearch$Finder", "firstIn", "(I)I"⟩, 7), (⟨"ShapeSearch$Hits", "put", "(IIII)V"⟩, 6), (⟨"ShapeSearch", "checkGoal", "(I)V"⟩, 8), (⟨"ShapeSearch$Statements", "withinPremises", "(ILShapeSearch$Terms;)J"⟩, 5), (⟨"ShapeSearch$Matcher", "placeWithoutImage", "(I)I"⟩, 3), (⟨"ShapeSearch$Matcher", "putImage", "(II)Z"⟩, 3)]
theorem lw_r1 : ∀ q ∈ lw_privs_1, lw_okq q := List.forall_mem_cons.mpr ⟨lw_p0, List.forall_mem_cons.mpr ⟨lw_p1, List.forall_mem_cons.mpr ⟨lw_p2, List.forall_mem_cons.mpr ⟨lw_p3, List.forall_mem_cons.mpr ⟨lw_p4, List.forall_mem_cons.mpr ⟨lw_p5, List.forall_mem_cons.mpr ⟨lw_p6, List.forall_mem_cons.mpr ⟨lw_p7, List.forall_mem_cons.mpr ⟨lw_p8, List.forall_mem_cons.mpr ⟨lw_p9, List.forall_mem_cons.mpr ⟨lw_p10, List.forall_mem_cons.mpr ⟨lw_p11, List.forall_mem_cons.mpr ⟨lw_p12, List.forall_mem_cons.mpr ⟨lw_p13, List.forall_mem_cons.mpr ⟨lw_p14, List.forall_mem_cons.mpr ⟨lw_p15, fun _ h => absurd h List.not_mem_nil⟩⟩⟩⟩⟩⟩⟩⟩⟩⟩⟩⟩⟩⟩⟩⟩
theorem lw_p16 : lw_okq (⟨"ShapeSearch$Search", "enter", "(II)Z"⟩, 14) := ⟨⟨by decide +kernel, by decide +kernel⟩, List.mem_of_getElem? (i := 130) (by decide +kernel), List.mem_of_getElem? (i := 702) (by decide +kernel), List.mem_of_getElem? (i := 703) (by decide +kernel)⟩
theorem lw_p17 : lw_okq (⟨"ShapeSearch$Search", "looks", "()Z"⟩, 14) := ⟨⟨by decide +kernel, by decide +kernel⟩, List.mem_of_getElem? (i := 130) (by decide +kernel), List.mem_of_getElem? (i := 707) (by decide +kernel), List.mem_of_getElem? (i := 708) (by decide +kernel)⟩
theorem lw_p18 : lw_okq (⟨"ShapeSearch$Search", "giveUp", "()V"⟩, 14) := ⟨⟨by decide +kernel, by decide +kernel⟩, List.mem_of_getElem? (i := 130) (by decide +kernel), List.mem_of_getElem? (i := 712) (by decide +kernel), List.mem_of_getElem? (i := 713) (by decide +kernel)⟩
theorem lw_p19 : lw_okq (⟨"ShapeSearch$Search", "succeed", "(I)V"⟩, 14) := ⟨⟨by decide +kernel, by decide +kernel⟩, List.mem_of_getElem? (i := 130) (by decide +kernel), List.mem_of_getElem? (i := 729) (by decide +kernel), List.mem_of_getElem? (i := 730) (by decide +kernel)⟩
theorem lw_p20 : lw_okq (⟨"ShapeSearch$Search", "enterNewGoal", "(I)V"⟩, 14) := ⟨⟨by decide +kernel, by decide +kernel⟩, List.mem_of_getElem? (i := 130) (by decide +kernel), List.mem_of_getElem? (i := 733) (by decide +kernel), List.mem_of_getElem? (i := 734) (by decide +kernel)⟩
theorem lw_p21 : lw_okq (⟨"ShapeSearchModel", "isTerm", "(I)Z"⟩, 41) := ⟨⟨by decide +kernel, by decide +kernel⟩, List.mem_of_getElem? (i := 781) (by decide +kernel), List.mem_of_getElem? (i := 920) (by decide +kernel), List.mem_of_getElem? (i := 921) (by decide +kernel)⟩
theorem lw_p22 : lw_okq (⟨"ShapeSearchModel", "refuses", "(I)Z"⟩, 41) := ⟨⟨by decide +kernel, by decide +kernel⟩, List.mem_of_getElem? (i := 781) (by decide +kernel), List.mem_of_getElem? (i := 924) (by decide +kernel), List.mem_of_getElem? (i := 925) (by decide +kernel)⟩
theorem lw_p23 : lw_okq (⟨"ShapeSearchModel", "make", "(IIIIII)I"⟩, 41) := ⟨⟨by decide +kernel, by decide +kernel⟩, List.mem_of_getElem? (i := 781) (by decide +kernel), List.mem_of_getElem? (i := 928) (by decide +kernel), List.mem_of_getElem? (i := 929) (by decide +kernel)⟩
theorem lw_p24 : lw_okq (⟨"ShapeSearchModel", "tell", "(I)V"⟩, 41) := ⟨⟨by decide +kernel, by decide +kernel⟩, List.mem_of_getElem? (i := 781) (by decide +kernel), List.mem_of_getElem? (i := 935) (by decide +kernel), List.mem_of_getElem? (i := 936) (by decide +kernel)⟩
theorem lw_p25 : lw_okq (⟨"ShapeSearchModel", "part", "(II)I"⟩, 41) := ⟨⟨by decide +kernel, by decide +kernel⟩, List.mem_of_getElem? (i := 781) (by decide +kernel), List.mem_of_getElem? (i := 939) (by decide +kernel), List.mem_of_getElem? (i := 940) (by decide +kernel)⟩
theorem lw_p26 : lw_okq (⟨"ShapeSearchModel", "made", "(II)I"⟩, 41) := ⟨⟨by decide +kernel, by decide +kernel⟩, List.mem_of_getElem? (i := 781) (by decide +kernel), List.mem_of_getElem? (i := 944) (by decide +kernel), List.mem_of_getElem? (i := 945) (by decide +kernel)⟩
theorem lw_p27 : lw_okq (⟨"ShapeSearchModel", "firstMatch", "(II)I"⟩, 41) := ⟨⟨by decide +kernel, by decide +kernel⟩, List.mem_of_getElem? (i := 781) (by decide +kernel), List.mem_of_getElem? (i := 968) (by decide +kernel), List.mem_of_getElem? (i := 969) (by decide +kernel)⟩
theorem lw_p28 : lw_okq (⟨"ShapeSearchModel", "matches", "(IIZ)Z"⟩, 41) := ⟨⟨by decide +kernel, by decide +kernel⟩, List.mem_of_getElem? (i := 781) (by decide +kernel), List.mem_of_getElem? (i := 972) (by decide +kernel), List.mem_of_getElem? (i := 973) (by decide +kernel)⟩
theorem lw_p29 : lw_okq (⟨"ShapeSearchModel", "premise", "(II)I"⟩, 41) := ⟨⟨by decide +kernel, by decide +kernel⟩, List.mem_of_getElem? (i := 781) (by decide +kernel), List.mem_of_getElem? (i := 976) (by decide +kernel), List.mem_of_getElem? (i := 977) (by decide +kernel)⟩
theorem lw_p30 : lw_okq (⟨"ShapeSearchModel", "hit", "(III)V"⟩, 41) := ⟨⟨by decide +kernel, by decide +kernel⟩, List.mem_of_getElem? (i := 781) (by decide +kernel), List.mem_of_getElem? (i := 980) (by decide +kernel), List.mem_of_getElem? (i := 981) (by decide +kernel)⟩
theorem lw_p31 : lw_okq (⟨"ShapeSearchModel", "wrongGoal", "(I)I"⟩, 41) := ⟨⟨by decide +kernel, by decide +kernel⟩, List.mem_of_getElem? (i := 781) (by decide +kernel), List.mem_of_getElem? (i := 988) (by decide +kernel), List.mem_of_getElem? (i := 989) (by decide +kernel)⟩
def lw_privs_2 : List (MethodName × Nat) := [(⟨"ShapeSearch$Search", "enter", "(II)Z"⟩, 14), (⟨"ShapeSearch$Search", "looks", "()Z"⟩, 14), (⟨"ShapeSearch$Search", "giveUp", "()V"⟩, 14), (⟨"ShapeSearch$Search", "succeed", "(I)V"⟩, 14), (⟨"ShapeSearch$Search", "enterNewGoal", "(I)V"⟩, 14), (⟨"ShapeSearchModel", "isTerm", "(I)Z"⟩, 41), (⟨"ShapeSearchModel", "refuses", "(I)Z"⟩, 41), (⟨"ShapeSearchModel", "make", "(IIIIII)I"⟩, 41), (⟨"ShapeSearchModel", "tell", "(I)V"⟩, 41), (⟨"ShapeSearchModel", "part", "(II)I"⟩, 41), (⟨"ShapeSearchModel", "made", "(II)I"⟩, 41), (⟨"ShapeSearchModel", "firstMatch", "(II)I"⟩, 41), (⟨"ShapeSearchModel", "matches", "(IIZ)Z"⟩, 41), (⟨"ShapeSearchModel", "premise", "(II)I"⟩, 41), (⟨"ShapeSearchModel", "hit", "(III)V"⟩, 41), (⟨"ShapeSearchModel", "wrongGoal", "(I)I"⟩, 41)]
theorem lw_r2 : ∀ q ∈ lw_privs_2, lw_okq q := List.forall_mem_cons.mpr ⟨lw_p16, List.forall_mem_cons.mpr ⟨lw_p17, List.forall_mem_cons.mpr ⟨lw_p18, List.forall_mem_cons.mpr ⟨lw_p19, List.forall_mem_cons.mpr ⟨lw_p20, List.forall_mem_cons.mpr ⟨lw_p21, List.forall_mem_cons.mpr ⟨lw_p22, List.forall_mem_cons.mpr ⟨lw_p23, List.forall_mem_cons.mpr ⟨lw_p24, List.forall_mem_cons.mpr ⟨lw_p25, List.forall_mem_cons.mpr ⟨lw_p26, List.forall_mem_cons.mpr ⟨lw_p27, List.forall_mem_cons.mpr ⟨lw_p28, List.forall_mem_cons.mpr ⟨lw_p29, List.forall_mem_cons.mpr ⟨lw_p30, List.forall_mem_cons.mpr ⟨lw_p31, fun _ h => absurd h List.not_mem_nil⟩⟩⟩⟩⟩⟩⟩⟩⟩⟩⟩⟩⟩⟩⟩⟩
theorem lw_p32 : lw_okq (⟨"ShapeSearchModel", "open", "(I)I"⟩, 41) := ⟨⟨by decide +kernel, by decide +kernel⟩, List.mem_of_getElem? (i := 781) (by decide +kernel), List.mem_of_getElem? (i := 992) (by decide +kernel), List.mem_of_getElem? (i := 993) (by decide +kernel)⟩
theorem lw_p33 : lw_okq (⟨"ShapeSearchModel", "namesOf", "(I)I"⟩, 41) := ⟨⟨by decide +kernel, by decide +kernel⟩, List.mem_of_getElem? (i := 781) (by decide +kernel), List.mem_of_getElem? (i := 1003) (by decide +kernel), List.mem_of_getElem? (i := 1004) (by decide +kernel)⟩
theorem lw_p34 : lw_okq (⟨"ShapeSearchModel", "put", "(II)I"⟩, 41) := ⟨⟨by decide +kernel, by decide +kernel⟩, List.mem_of_getElem? (i := 781) (by decide +kernel), List.mem_of_getElem? (i := 1015) (by decide +kernel), List.mem_of_getElem? (i := 1016) (by decide +kernel)⟩
theorem lw_p35 : lw_okq (⟨"ShapeSearchModel", "become", "(II)I"⟩, 41) := ⟨⟨by decide +kernel, by decide +kernel⟩, List.mem_of_getElem? (i := 781) (by decide +kernel), List.mem_of_getElem? (i := 1019) (by decide +kernel), List.mem_of_getElem? (i := 1020) (by decide +kernel)⟩
theorem lw_p36 : lw_okq (⟨"ShapeSearchModel", "become0", "(I)I"⟩, 41) := ⟨⟨by decide +kernel, by decide +kernel⟩, List.mem_of_getElem? (i := 781) (by decide +kernel), List.mem_of_getElem? (i := 1023) (by decide +kernel), List.mem_of_getElem? (i := 1024) (by decide +kernel)⟩
theorem lw_p37 : lw_okq (⟨"ShapeSearchModel", "areTwins", "(II)Z"⟩, 41) := ⟨⟨by decide +kernel, by decide +kernel⟩, List.mem_of_getElem? (i := 781) (by decide +kernel), List.mem_of_getElem? (i := 1031) (by decide +kernel), List.mem_of_getElem? (i := 1032) (by decide +kernel)⟩
theorem lw_p38 : lw_okq (⟨"ShapeSearchModel", "areAlike", "(II)Z"⟩, 41) := ⟨⟨by decide +kernel, by decide +kernel⟩, List.mem_of_getElem? (i := 781) (by decide +kernel), List.mem_of_getElem? (i := 1035) (by decide +kernel), List.mem_of_getElem? (i := 1036) (by decide +kernel)⟩
theorem lw_p39 : lw_okq (⟨"ShapeSearchModel", "inOrder", "()V"⟩, 41) := ⟨⟨by decide +kernel, by decide +kernel⟩, List.mem_of_getElem? (i := 781) (by decide +kernel), List.mem_of_getElem? (i := 1043) (by decide +kernel), List.mem_of_getElem? (i := 1044) (by decide +kernel)⟩
theorem lw_p40 : lw_okq (⟨"ShapeSearchModel", "look", "(III)V"⟩, 41) := ⟨⟨by decide +kernel, by decide +kernel⟩, List.mem_of_getElem? (i := 781) (by decide +kernel), List.mem_of_getElem? (i := 1047) (by decide +kernel), List.mem_of_getElem? (i := 1048) (by decide +kernel)⟩
theorem lw_p41 : lw_okq (⟨"ShapeSearchModel", "shrink", "(I)V"⟩, 41) := ⟨⟨by decide +kernel, by decide +kernel⟩, List.mem_of_getElem? (i := 781) (by decide +kernel), List.mem_of_getElem? (i := 1051) (by decide +kernel), List.mem_of_getElem? (i := 1052) (by decide +kernel)⟩
theorem lw_p42 : lw_okq (⟨"ShapeSearchModel", "head", "(I)I"⟩, 41) := ⟨⟨by decide +kernel, by decide +kernel⟩, List.mem_of_getElem? (i := 781) (by decide +kernel), List.mem_of_getElem? (i := 1055) (by decide +kernel), List.mem_of_getElem? (i := 1056) (by decide +kernel)⟩
theorem lw_p43 : lw_okq (⟨"ShapeSearchModel", "takes", "(I)Z"⟩, 41) := ⟨⟨by decide +kernel, by decide +kernel⟩, List.mem_of_getElem? (i := 781) (by decide +kernel), List.mem_of_getElem? (i := 1059) (by decide +kernel), List.mem_of_getElem? (i := 1060) (by decide +kernel)⟩
def lw_privs_3 : List (MethodName × Nat) := [(⟨"ShapeSearchModel", "open", "(I)I"⟩, 41), (⟨"ShapeSearchModel", "namesOf", "(I)I"⟩, 41), (⟨"ShapeSearchModel", "put", "(II)I"⟩, 41), (⟨"ShapeSearchModel", "become", "(II)I"⟩, 41), (⟨"ShapeSearchModel", "become0", "(I)I"⟩, 41), (⟨"ShapeSearchModel", "areTwins", "(II)Z"⟩, 41), (⟨"ShapeSearchModel", "areAlike", "(II)Z"⟩, 41), (⟨"ShapeSearchModel", "inOrder", "()V"⟩, 41), (⟨"ShapeSearchModel", "look", "(III)V"⟩, 41), (⟨"ShapeSearchModel", "shrink", "(I)V"⟩, 41), (⟨"ShapeSearchModel", "head", "(I)I"⟩, 41), (⟨"ShapeSearchModel", "takes", "(I)Z"⟩, 41)]
theorem lw_r3 : ∀ q ∈ lw_privs_3, lw_okq q := List.forall_mem_cons.mpr ⟨lw_p32, List.forall_mem_cons.mpr ⟨lw_p33, List.forall_mem_cons.mpr ⟨lw_p34, List.forall_mem_cons.mpr ⟨lw_p35, List.forall_mem_cons.mpr ⟨lw_p36, List.forall_mem_cons.mpr ⟨lw_p37, List.forall_mem_cons.mpr ⟨lw_p38, List.forall_mem_cons.mpr ⟨lw_p39, List.forall_mem_cons.mpr ⟨lw_p40, List.forall_mem_cons.mpr ⟨lw_p41, List.forall_mem_cons.mpr ⟨lw_p42, List.forall_mem_cons.mpr ⟨lw_p43, fun _ h => absurd h List.not_mem_nil⟩⟩⟩⟩⟩⟩⟩⟩⟩⟩⟩⟩
def lw_privs : List (MethodName × Nat) := lw_privs_1 ++ (lw_privs_2 ++ (lw_privs_3))
def lw_tbl : List Cond := k2_sels lw_privs ++ tables_1
theorem lw_privs_ok : ∀ q ∈ lw_privs, lw_okq q := by
  show ∀ q ∈ lw_privs_1 ++ (lw_privs_2 ++ (lw_privs_3)), lw_okq q
  exact List.forall_mem_append.mpr ⟨lw_r1, List.forall_mem_append.mpr ⟨lw_r2, lw_r3⟩⟩
/-- the words that every contract takes with it: those of the tables that are good in every state of the run -/
def BG : List Cond := lw_tbl.filter goodWord
theorem in_1 {w : Cond} (h : w ∈ tables_1_1) : w ∈ lw_tbl := List.mem_append_right _ (List.mem_append_left _ h)
theorem in_2 {w : Cond} (h : w ∈ tables_1_2) : w ∈ lw_tbl := List.mem_append_right _ (List.mem_append_right _ (List.mem_append_left _ h))
theorem in_3 {w : Cond} (h : w ∈ tables_1_3) : w ∈ lw_tbl := List.mem_append_right _ (List.mem_append_right _ (List.mem_append_right _ (List.mem_append_left _ h)))
theorem in_4 {w : Cond} (h : w ∈ tables_1_4) : w ∈ lw_tbl := List.mem_append_right _ (List.mem_append_right _ (List.mem_append_right _ (List.mem_append_right _ (List.mem_append_left _ h))))
theorem in_5 {w : Cond} (h : w ∈ tables_1_5) : w ∈ lw_tbl := List.mem_append_right _ (List.mem_append_right _ (List.mem_append_right _ (List.mem_append_right _ (List.mem_append_right _ (h)))))
abbrev RR_X : String := "ShapeSearch"
def FF_X : u_T := fun k => match k with
  | 0 => ("ShapeSearch", "terms", "LShapeSearch$Terms;", true)
  | 1 => ("ShapeSearch", "arities", "[I", true)
  | 2 => ("ShapeSearch", "namesUsed", "I", false)
  | 3 => ("ShapeSearch", "statements", "LShapeSearch$Statements;", true)
  | 4 => ("ShapeSearch", "matcher", "LShapeSearch$Matcher;", true)
  | 5 => ("ShapeSearch", "finder", "LShapeSearch$Finder;", true)
  | 6 => ("ShapeSearch", "search", "LShapeSearch$Search;", true)
  | _ => ("ShapeSearch", "hits", "LShapeSearch$Hits;", true)
def TT_X : Nat → FieldType := fun k => match k with
  | 0 => .object "ShapeSearch$Terms"
  | 1 => .array .int
  | 2 => .int
  | 3 => .object "ShapeSearch$Statements"
  | 4 => .object "ShapeSearch$Matcher"
  | 5 => .object "ShapeSearch$Finder"
  | 6 => .object "ShapeSearch$Search"
  | _ => .object "ShapeSearch$Hits"
theorem nok_X : ∀ a, a < 8 → ∀ b, b < 8 → a ≠ b → (FF_X a).2.1 ≠ (FF_X b).2.1 := by decide +kernel
theorem tok_X : ∀ k, k < 8 → parseFieldDescriptor (FF_X k).2.2.1 = some (TT_X k) := by decide +kernel
abbrev RR_T : String := "ShapeSearch$Terms"
def FF_T : u_T := fun k => match k with
  | 0 => ("ShapeSearch$Terms", "heads", "[I", false)
  | 1 => ("ShapeSearch$Terms", "places", "[I", false)
  | 2 => ("ShapeSearch$Terms", "olders", "[I", false)
  | 3 => ("ShapeSearch$Terms", "sizes", "[I", false)
  | 4 => ("ShapeSearch$Terms", "withins", "[J", false)
  | 5 => ("ShapeSearch$Terms", "newest", "[I", true)
  | _ => ("ShapeSearch$Terms", "count", "I", false)
def TT_T : Nat → FieldType := fun k => match k with
  | 0 => .array .int
  | 1 => .array .int
  | 2 => .array .int
  | 3 => .array .int
  | 4 => .array .long
  | 5 => .array .int
  | _ => .int
theorem nok_T : ∀ a, a < 7 → ∀ b, b < 7 → a ≠ b → (FF_T a).2.1 ≠ (FF_T b).2.1 := by decide +kernel
theorem tok_T : ∀ k, k < 7 → parseFieldDescriptor (FF_T k).2.2.1 = some (TT_T k) := by decide +kernel
abbrev RR_S : String := "ShapeSearch$Statements"
def FF_S : u_T := fun k => match k with
  | 0 => ("ShapeSearch$Statements", "premises", "[I", true)
  | 1 => ("ShapeSearch$Statements", "premiseCounts", "[I", true)
  | 2 => ("ShapeSearch$Statements", "conclusions", "[I", true)
  | 3 => ("ShapeSearch$Statements", "order", "[I", true)
  | _ => ("ShapeSearch$Statements", "count", "I", false)
def TT_S : Nat → FieldType := fun k => match k with
  | 0 => .array .int
  | 1 => .array .int
  | 2 => .array .int
  | 3 => .array .int
  | _ => .int
theorem nok_S : ∀ a, a < 5 → ∀ b, b < 5 → a ≠ b → (FF_S a).2.1 ≠ (FF_S b).2.1 := by decide +kernel
theorem tok_S : ∀ k, k < 5 → parseFieldDescriptor (FF_S k).2.2.1 = some (TT_S k) := by decide +kernel
abbrev RR_M : String := "ShapeSearch$Matcher"
def FF_M : u_T := fun k => match k with
  | 0 => ("ShapeSearch$Matcher", "terms", "LShapeSearch$Terms;", true)
  | 1 => ("ShapeSearch$Matcher", "images", "[I", true)
  | _ => ("ShapeSearch$Matcher", "path", "[I", true)
def TT_M : Nat → FieldType := fun k => match k with
  | 0 => .object "ShapeSearch$Terms"
  | 1 => .array .int
  | _ => .array .int
theorem nok_M : ∀ a, a < 3 → ∀ b, b < 3 → a ≠ b → (FF_M a).2.1 ≠ (FF_M b).2.1 := by decide +kernel
theorem tok_M : ∀ k, k < 3 → parseFieldDescriptor (FF_M k).2.2.1 = some (TT_M k) := by decide +kernel
abbrev RR_F : String := "ShapeSearch$Finder"
def FF_F : u_T := fun k => match k with
  | 0 => ("ShapeSearch$Finder", "terms", "LShapeSearch$Terms;", true)
  | 1 => ("ShapeSearch$Finder", "matcher", "LShapeSearch$Matcher;", true)
  | 2 => ("ShapeSearch$Finder", "seen", "[Z", true)
  | 3 => ("ShapeSearch$Finder", "waiting", "[I", true)
  | 4 => ("ShapeSearch$Finder", "shape", "I", false)
  | 5 => ("ShapeSearch$Finder", "match", "I", false)
  | _ => ("ShapeSearch$Finder", "premise", "I", false)
def TT_F : Nat → FieldType := fun k => match k with
  | 0 => .object "ShapeSearch$Terms"
  | 1 => .object "ShapeSearch$Matcher"
  | 2 => .array .boolean
  | 3 => .array .int
  | 4 => .int
  | 5 => .int
  | _ => .int
theorem nok_F : ∀ a, a < 7 → ∀ b, b < 7 → a ≠ b → (FF_F a).2.1 ≠ (FF_F b).2.1 := by decide +kernel
theorem tok_F : ∀ k, k < 7 → parseFieldDescriptor (FF_F k).2.2.1 = some (TT_F k) := by decide +kernel
abbrev RR_E : String := "ShapeSearch$Search"
def FF_E : u_T := fun k => match k with
  | 0 => ("ShapeSearch$Search", "terms", "LShapeSearch$Terms;", true)
  | 1 => ("ShapeSearch$Search", "statements", "LShapeSearch$Statements;", true)
  | 2 => ("ShapeSearch$Search", "matcher", "LShapeSearch$Matcher;", true)
  | 3 => ("ShapeSearch$Search", "goals", "[I", true)
  | 4 => ("ShapeSearch$Search", "marks", "[I", true)
  | 5 => ("ShapeSearch$Search", "looked", "[I", true)
  | 6 => ("ShapeSearch$Search", "underway", "[I", true)
  | 7 => ("ShapeSearch$Search", "met", "[I", true)
  | 8 => ("ShapeSearch$Search", "takenHere", "[I", true)
  | 9 => ("ShapeSearch$Search", "level", "I", false)
  | 10 => ("ShapeSearch$Search", "steps", "I", false)
  | 11 => ("ShapeSearch$Search", "tries", "I", false)
  | 12 => ("ShapeSearch$Search", "taken", "I", false)
  | _ => ("ShapeSearch$Search", "first", "I", false)
def TT_E : Nat → FieldType := fun k => match k with
  | 0 => .object "ShapeSearch$Terms"
  | 1 => .object "ShapeSearch$Statements"
  | 2 => .object "ShapeSearch$Matcher"
  | 3 => .array .int
  | 4 => .array .int
  | 5 => .array .int
  | 6 => .array .int
  | 7 => .array .int
  | 8 => .array .int
  | 9 => .int
  | 10 => .int
  | 11 => .int
  | 12 => .int
  | _ => .int
theorem nok_E : ∀ a, a < 14 → ∀ b, b < 14 → a ≠ b → (FF_E a).2.1 ≠ (FF_E b).2.1 := by decide +kernel
theorem tok_E : ∀ k, k < 14 → parseFieldDescriptor (FF_E k).2.2.1 = some (TT_E k) := by decide +kernel
abbrev RR_H : String := "ShapeSearch$Hits"
def FF_H : u_T := fun k => match k with
  | 0 => ("ShapeSearch$Hits", "statementRow", "[I", true)
  | 1 => ("ShapeSearch$Hits", "firstRow", "[I", true)
  | 2 => ("ShapeSearch$Hits", "secondRow", "[I", true)
  | 3 => ("ShapeSearch$Hits", "kind", "I", false)
  | 4 => ("ShapeSearch$Hits", "subject", "I", false)
  | _ => ("ShapeSearch$Hits", "count", "I", false)
def TT_H : Nat → FieldType := fun k => match k with
  | 0 => .array .int
  | 1 => .array .int
  | 2 => .array .int
  | 3 => .int
  | 4 => .int
  | _ => .int
theorem nok_H : ∀ a, a < 6 → ∀ b, b < 6 → a ≠ b → (FF_H a).2.1 ≠ (FF_H b).2.1 := by decide +kernel
theorem tok_H : ∀ k, k < 6 → parseFieldDescriptor (FF_H k).2.2.1 = some (TT_H k) := by decide +kernel
abbrev RR_Q : String := "ShapeSearchModel"
def FF_Q : u_T := fun k => match k with
  | 0 => ("ShapeSearchModel", "thrown", "I", false)
  | 1 => ("ShapeSearchModel", "kinds", "[I", true)
  | 2 => ("ShapeSearchModel", "which", "[I", true)
  | 3 => ("ShapeSearchModel", "firsts", "[I", true)
  | 4 => ("ShapeSearchModel", "seconds", "[I", true)
  | 5 => ("ShapeSearchModel", "thirds", "[I", true)
  | 6 => ("ShapeSearchModel", "nexts", "[I", true)
  | 7 => ("ShapeSearchModel", "heads", "[I", true)
  | 8 => ("ShapeSearchModel", "all", "I", false)
  | 9 => ("ShapeSearchModel", "names", "[I", true)
  | 10 => ("ShapeSearchModel", "variables", "[I", true)
  | 11 => ("ShapeSearchModel", "holes", "[I", true)
  | 12 => ("ShapeSearchModel", "sizes", "[I", true)
  | 13 => ("ShapeSearchModel", "places", "[I", true)
  | 14 => ("ShapeSearchModel", "conclusions", "[I", true)
  | 15 => ("ShapeSearchModel", "premises", "[I", true)
  | 16 => ("ShapeSearchModel", "counts", "[I", true)
  | 17 => ("ShapeSearchModel", "statements", "I", false)
  | 18 => ("ShapeSearchModel", "hitKind", "I", false)
  | 19 => ("ShapeSearchModel", "hits", "I", false)
  | 20 => ("ShapeSearchModel", "hitOf", "[I", true)
  | 21 => ("ShapeSearchModel", "hitOne", "[I", true)
  | 22 => ("ShapeSearchModel", "hitTwo", "[I", true)
  | 23 => ("ShapeSearchModel", "hitTerms", "[I", true)
  | 24 => ("ShapeSearchModel", "image", "[I", true)
  | 25 => ("ShapeSearchModel", "bound", "[I", true)
  | 26 => ("ShapeSearchModel", "waits", "[I", true)
  | 27 => ("ShapeSearchModel", "waitsFor", "[I", true)
  | 28 => ("ShapeSearchModel", "seen", "[Z", true)
  | 29 => ("ShapeSearchModel", "goals", "[I", true)
  | 30 => ("ShapeSearchModel", "steps", "[I", true)
  | 31 => ("ShapeSearchModel", "looked", "[I", true)
  | 32 => ("ShapeSearchModel", "under", "[I", true)
  | 33 => ("ShapeSearchModel", "taken", "[I", true)
  | 34 => ("ShapeSearchModel", "news", "[I", true)
  | 35 => ("ShapeSearchModel", "order", "[I", true)
  | 36 => ("ShapeSearchModel", "tries", "I", false)
  | 37 => ("ShapeSearchModel", "takenAll", "I", false)
  | 38 => ("ShapeSearchModel", "takenFirst", "I", false)
  | 39 => ("ShapeSearchModel", "there", "[I", true)
  | _ => ("ShapeSearchModel", "back", "[I", true)
def TT_Q : Nat → FieldType := fun k => match k with
  | 0 => .int
  | 1 => .array .int
  | 2 => .array .int
  | 3 => .array .int
  | 4 => .array .int
  | 5 => .array .int
  | 6 => .array .int
  | 7 => .array .int
  | 8 => .int
  | 9 => .array .int
  | 10 => .array .int
  | 11 => .array .int
  | 12 => .array .int
  | 13 => .array .int
  | 14 => .array .int
  | 15 => .array .int
  | 16 => .array .int
  | 17 => .int
  | 18 => .int
  | 19 => .int
  | 20 => .array .int
  | 21 => .array .int
  | 22 => .array .int
  | 23 => .array .int
  | 24 => .array .int
  | 25 => .array .int
  | 26 => .array .int
  | 27 => .array .int
  | 28 => .array .boolean
  | 29 => .array .int
  | 30 => .array .int
  | 31 => .array .int
  | 32 => .array .int
  | 33 => .array .int
  | 34 => .array .int
  | 35 => .array .int
  | 36 => .int
  | 37 => .int
  | 38 => .int
  | 39 => .array .int
  | _ => .array .int
theorem nok_Q : ∀ a, a < 41 → ∀ b, b < 41 → a ≠ b → (FF_Q a).2.1 ≠ (FF_Q b).2.1 := by decide +kernel
theorem tok_Q : ∀ k, k < 41 → parseFieldDescriptor (FF_Q k).2.2.1 = some (TT_Q k) := by decide +kernel
abbrev vwCl : List vw_C := [(RR_X, FF_X, 8), (RR_T, FF_T, 7), (RR_S, FF_S, 5), (RR_M, FF_M, 3), (RR_F, FF_F, 7), (RR_E, FF_E, 14), (RR_H, FF_H, 6), (RR_Q, FF_Q, 41)]
theorem k1_211 : Cond.laysFinal "ShapeSearch" "ShapeSearch" "terms" "LShapeSearch$Terms;" ∈ BG := List.mem_filter.mpr ⟨in_1 (List.mem_of_getElem? (i := 211) rfl), rfl⟩
theorem k1_213 : Cond.laysFinal "ShapeSearch" "ShapeSearch" "arities" "[I" ∈ BG := List.mem_filter.mpr ⟨in_1 (List.mem_of_getElem? (i := 213) rfl), rfl⟩
theorem k1_215 : Cond.lays "ShapeSearch" "ShapeSearch" "namesUsed" "I" ∈ BG := List.mem_filter.mpr ⟨in_1 (List.mem_of_getElem? (i := 215) rfl), rfl⟩
theorem k1_217 : Cond.laysFinal "ShapeSearch" "ShapeSearch" "statements" "LShapeSearch$Statements;" ∈ BG := List.mem_filter.mpr ⟨in_1 (List.mem_of_getElem? (i := 217) rfl), rfl⟩
theorem k1_219 : Cond.laysFinal "ShapeSearch" "ShapeSearch" "matcher" "LShapeSearch$Matcher;" ∈ BG := List.mem_filter.mpr ⟨in_1 (List.mem_of_getElem? (i := 219) rfl), rfl⟩
theorem k1_221 : Cond.laysFinal "ShapeSearch" "ShapeSearch" "finder" "LShapeSearch$Finder;" ∈ BG := List.mem_filter.mpr ⟨in_1 (List.mem_of_getElem? (i := 221) rfl), rfl⟩
theorem k1_223 : Cond.laysFinal "ShapeSearch" "ShapeSearch" "search" "LShapeSearch$Search;" ∈ BG := List.mem_filter.mpr ⟨in_1 (List.mem_of_getElem? (i := 223) rfl), rfl⟩
theorem k1_225 : Cond.laysFinal "ShapeSearch" "ShapeSearch" "hits" "LShapeSearch$Hits;" ∈ BG := List.mem_filter.mpr ⟨in_1 (List.mem_of_getElem? (i := 225) rfl), rfl⟩
theorem kin_X : ∀ w ∈ u_ws RR_X FF_X 8, w ∈ BG := by
  rw [show u_ws RR_X FF_X 8 = [.laysFinal "ShapeSearch" "ShapeSearch" "terms" "LShapeSearch$Terms;", .laysFinal "ShapeSearch" "ShapeSearch" "arities" "[I", .lays "ShapeSearch" "ShapeSearch" "namesUsed" "I", .laysFinal "ShapeSearch" "ShapeSearch" "statements" "LShapeSearch$Statements;", .laysFinal "ShapeSearch" "ShapeSearch" "matcher" "LShapeSearch$Matcher;", .laysFinal "ShapeSearch" "ShapeSearch" "finder" "LShapeSearch$Finder;", .laysFinal "ShapeSearch" "ShapeSearch" "search" "LShapeSearch$Search;", .laysFinal "ShapeSearch" "ShapeSearch" "hits" "LShapeSearch$Hits;"] from rfl]
  exact List.forall_mem_cons.mpr ⟨k1_211, List.forall_mem_cons.mpr ⟨k1_213, List.forall_mem_cons.mpr ⟨k1_215, List.forall_mem_cons.mpr ⟨k1_217, List.forall_mem_cons.mpr ⟨k1_219, List.forall_mem_cons.mpr ⟨k1_221, List.forall_mem_cons.mpr ⟨k1_223, List.forall_mem_cons.mpr ⟨k1_225, fun _ h => absurd h List.not_mem_nil⟩⟩⟩⟩⟩⟩⟩⟩
theorem k1_44 : Cond.lays "ShapeSearch$Terms" "ShapeSearch$Terms" "heads" "[I" ∈ BG := List.mem_filter.mpr ⟨in_1 (List.mem_of_getElem? (i := 44) rfl), rfl⟩
theorem k1_46 : Cond.lays "ShapeSearch$Terms" "ShapeSearch$Terms" "places" "[I" ∈ BG := List.mem_filter.mpr ⟨in_1 (List.mem_of_getElem? (i := 46) rfl), rfl⟩
theorem k1_48 : Cond.lays "ShapeSearch$Terms" "ShapeSearch$Terms" "olders" "[I" ∈ BG := List.mem_filter.mpr ⟨in_1 (List.mem_of_getElem? (i := 48) rfl), rfl⟩
theorem k1_50 : Cond.lays "ShapeSearch$Terms" "ShapeSearch$Terms" "sizes" "[I" ∈ BG := List.mem_filter.mpr ⟨in_1 (List.mem_of_getElem? (i := 50) rfl), rfl⟩
theorem k1_52 : Cond.lays "ShapeSearch$Terms" "ShapeSearch$Terms" "withins" "[J" ∈ BG := List.mem_filter.mpr ⟨in_1 (List.mem_of_getElem? (i := 52) rfl), rfl⟩
theorem k1_54 : Cond.laysFinal "ShapeSearch$Terms" "ShapeSearch$Terms" "newest" "[I" ∈ BG := List.mem_filter.mpr ⟨in_1 (List.mem_of_getElem? (i := 54) rfl), rfl⟩
theorem k1_56 : Cond.lays "ShapeSearch$Terms" "ShapeSearch$Terms" "count" "I" ∈ BG := List.mem_filter.mpr ⟨in_1 (List.mem_of_getElem? (i := 56) rfl), rfl⟩
theorem kin_T : ∀ w ∈ u_ws RR_T FF_T 7, w ∈ BG := by
  rw [show u_ws RR_T FF_T 7 = [.lays "ShapeSearch$Terms" "ShapeSearch$Terms" "heads" "[I", .lays "ShapeSearch$Terms" "ShapeSearch$Terms" "places" "[I", .lays "ShapeSearch$Terms" "ShapeSearch$Terms" "olders" "[I", .lays "ShapeSearch$Terms" "ShapeSearch$Terms" "sizes" "[I", .lays "ShapeSearch$Terms" "ShapeSearch$Terms" "withins" "[J", .laysFinal "ShapeSearch$Terms" "ShapeSearch$Terms" "newest" "[I", .lays "ShapeSearch$Terms" "ShapeSearch$Terms" "count" "I"] from rfl]
  exact List.forall_mem_cons.mpr ⟨k1_44, List.forall_mem_cons.mpr ⟨k1_46, List.forall_mem_cons.mpr ⟨k1_48, List.forall_mem_cons.mpr ⟨k1_50, List.forall_mem_cons.mpr ⟨k1_52, List.forall_mem_cons.mpr ⟨k1_54, List.forall_mem_cons.mpr ⟨k1_56, fun _ h => absurd h List.not_mem_nil⟩⟩⟩⟩⟩⟩⟩
theorem k1_73 : Cond.laysFinal "ShapeSearch$Statements" "ShapeSearch$Statements" "premises" "[I" ∈ BG := List.mem_filter.mpr ⟨in_1 (List.mem_of_getElem? (i := 73) rfl), rfl⟩
theorem k1_75 : Cond.laysFinal "ShapeSearch$Statements" "ShapeSearch$Statements" "premiseCounts" "[I" ∈ BG := List.mem_filter.mpr ⟨in_1 (List.mem_of_getElem? (i := 75) rfl), rfl⟩
theorem k1_77 : Cond.laysFinal "ShapeSearch$Statements" "ShapeSearch$Statements" "conclusions" "[I" ∈ BG := List.mem_filter.mpr ⟨in_1 (List.mem_of_getElem? (i := 77) rfl), rfl⟩
theorem k1_79 : Cond.laysFinal "ShapeSearch$Statements" "ShapeSearch$Statements" "order" "[I" ∈ BG := List.mem_filter.mpr ⟨in_1 (List.mem_of_getElem? (i := 79) rfl), rfl⟩
theorem k1_81 : Cond.lays "ShapeSearch$Statements" "ShapeSearch$Statements" "count" "I" ∈ BG := List.mem_filter.mpr ⟨in_1 (List.mem_of_getElem? (i := 81) rfl), rfl⟩
theorem kin_S : ∀ w ∈ u_ws RR_S FF_S 5, w ∈ BG := by
  rw [show u_ws RR_S FF_S 5 = [.laysFinal "ShapeSearch$Statements" "ShapeSearch$Statements" "premises" "[I", .laysFinal "ShapeSearch$Statements" "ShapeSearch$Statements" "premiseCounts" "[I", .laysFinal "ShapeSearch$Statements" "ShapeSearch$Statements" "conclusions" "[I", .laysFinal "ShapeSearch$Statements" "ShapeSearch$Statements" "order" "[I", .lays "ShapeSearch$Statements" "ShapeSearch$Statements" "count" "I"] from rfl]
  exact List.forall_mem_cons.mpr ⟨k1_73, List.forall_mem_cons.mpr ⟨k1_75, List.forall_mem_cons.mpr ⟨k1_77, List.forall_mem_cons.mpr ⟨k1_79, List.forall_mem_cons.mpr ⟨k1_81, fun _ h => absurd h List.not_mem_nil⟩⟩⟩⟩⟩
theorem k1_93 : Cond.laysFinal "ShapeSearch$Matcher" "ShapeSearch$Matcher" "terms" "LShapeSearch$Terms;" ∈ BG := List.mem_filter.mpr ⟨in_1 (List.mem_of_getElem? (i := 93) rfl), rfl⟩
theorem k1_95 : Cond.laysFinal "ShapeSearch$Matcher" "ShapeSearch$Matcher" "images" "[I" ∈ BG := List.mem_filter.mpr ⟨in_1 (List.mem_of_getElem? (i := 95) rfl), rfl⟩
theorem k1_97 : Cond.laysFinal "ShapeSearch$Matcher" "ShapeSearch$Matcher" "path" "[I" ∈ BG := List.mem_filter.mpr ⟨in_1 (List.mem_of_getElem? (i := 97) rfl), rfl⟩
theorem kin_M : ∀ w ∈ u_ws RR_M FF_M 3, w ∈ BG := by
  rw [show u_ws RR_M FF_M 3 = [.laysFinal "ShapeSearch$Matcher" "ShapeSearch$Matcher" "terms" "LShapeSearch$Terms;", .laysFinal "ShapeSearch$Matcher" "ShapeSearch$Matcher" "images" "[I", .laysFinal "ShapeSearch$Matcher" "ShapeSearch$Matcher" "path" "[I"] from rfl]
  exact List.forall_mem_cons.mpr ⟨k1_93, List.forall_mem_cons.mpr ⟨k1_95, List.forall_mem_cons.mpr ⟨k1_97, fun _ h => absurd h List.not_mem_nil⟩⟩⟩
theorem k1_113 : Cond.laysFinal "ShapeSearch$Finder" "ShapeSearch$Finder" "terms" "LShapeSearch$Terms;" ∈ BG := List.mem_filter.mpr ⟨in_1 (List.mem_of_getElem? (i := 113) rfl), rfl⟩
theorem k1_115 : Cond.laysFinal "ShapeSearch$Finder" "ShapeSearch$Finder" "matcher" "LShapeSearch$Matcher;" ∈ BG := List.mem_filter.mpr ⟨in_1 (List.mem_of_getElem? (i := 115) rfl), rfl⟩
theorem k1_117 : Cond.laysFinal "ShapeSearch$Finder" "ShapeSearch$Finder" "seen" "[Z" ∈ BG := List.mem_filter.mpr ⟨in_1 (List.mem_of_getElem? (i := 117) rfl), rfl⟩
theorem k1_119 : Cond.laysFinal "ShapeSearch$Finder" "ShapeSearch$Finder" "waiting" "[I" ∈ BG := List.mem_filter.mpr ⟨in_1 (List.mem_of_getElem? (i := 119) rfl), rfl⟩
theorem k1_121 : Cond.lays "ShapeSearch$Finder" "ShapeSearch$Finder" "shape" "I" ∈ BG := List.mem_filter.mpr ⟨in_1 (List.mem_of_getElem? (i := 121) rfl), rfl⟩
theorem k1_123 : Cond.lays "ShapeSearch$Finder" "ShapeSearch$Finder" "match" "I" ∈ BG := List.mem_filter.mpr ⟨in_1 (List.mem_of_getElem? (i := 123) rfl), rfl⟩
theorem k1_125 : Cond.lays "ShapeSearch$Finder" "ShapeSearch$Finder" "premise" "I" ∈ BG := List.mem_filter.mpr ⟨in_1 (List.mem_of_getElem? (i := 125) rfl), rfl⟩
theorem kin_F : ∀ w ∈ u_ws RR_F FF_F 7, w ∈ BG := by
  rw [show u_ws RR_F FF_F 7 = [.laysFinal "ShapeSearch$Finder" "ShapeSearch$Finder" "terms" "LShapeSearch$Terms;", .laysFinal "ShapeSearch$Finder" "ShapeSearch$Finder" "matcher" "LShapeSearch$Matcher;", .laysFinal "ShapeSearch$Finder" "ShapeSearch$Finder" "seen" "[Z", .laysFinal "ShapeSearch$Finder" "ShapeSearch$Finder" "waiting" "[I", .lays "ShapeSearch$Finder" "ShapeSearch$Finder" "shape" "I", .lays "ShapeSearch$Finder" "ShapeSearch$Finder" "match" "I", .lays "ShapeSearch$Finder" "ShapeSearch$Finder" "premise" "I"] from rfl]
  exact List.forall_mem_cons.mpr ⟨k1_113, List.forall_mem_cons.mpr ⟨k1_115, List.forall_mem_cons.mpr ⟨k1_117, List.forall_mem_cons.mpr ⟨k1_119, List.forall_mem_cons.mpr ⟨k1_121, List.forall_mem_cons.mpr ⟨k1_123, List.forall_mem_cons.mpr ⟨k1_125, fun _ h => absurd h List.not_mem_nil⟩⟩⟩⟩⟩⟩⟩
theorem k1_149 : Cond.laysFinal "ShapeSearch$Search" "ShapeSearch$Search" "terms" "LShapeSearch$Terms;" ∈ BG := List.mem_filter.mpr ⟨in_1 (List.mem_of_getElem? (i := 149) rfl), rfl⟩
theorem k1_151 : Cond.laysFinal "ShapeSearch$Search" "ShapeSearch$Search" "statements" "LShapeSearch$Statements;" ∈ BG := List.mem_filter.mpr ⟨in_1 (List.mem_of_getElem? (i := 151) rfl), rfl⟩
theorem k1_153 : Cond.laysFinal "ShapeSearch$Search" "ShapeSearch$Search" "matcher" "LShapeSearch$Matcher;" ∈ BG := List.mem_filter.mpr ⟨in_1 (List.mem_of_getElem? (i := 153) rfl), rfl⟩
theorem k1_155 : Cond.laysFinal "ShapeSearch$Search" "ShapeSearch$Search" "goals" "[I" ∈ BG := List.mem_filter.mpr ⟨in_1 (List.mem_of_getElem? (i := 155) rfl), rfl⟩
theorem k1_157 : Cond.laysFinal "ShapeSearch$Search" "ShapeSearch$Search" "marks" "[I" ∈ BG := List.mem_filter.mpr ⟨in_1 (List.mem_of_getElem? (i := 157) rfl), rfl⟩
theorem k1_159 : Cond.laysFinal "ShapeSearch$Search" "ShapeSearch$Search" "looked" "[I" ∈ BG := List.mem_filter.mpr ⟨in_1 (List.mem_of_getElem? (i := 159) rfl), rfl⟩
theorem k1_161 : Cond.laysFinal "ShapeSearch$Search" "ShapeSearch$Search" "underway" "[I" ∈ BG := List.mem_filter.mpr ⟨in_1 (List.mem_of_getElem? (i := 161) rfl), rfl⟩
theorem k1_163 : Cond.laysFinal "ShapeSearch$Search" "ShapeSearch$Search" "met" "[I" ∈ BG := List.mem_filter.mpr ⟨in_1 (List.mem_of_getElem? (i := 163) rfl), rfl⟩
theorem k1_165 : Cond.laysFinal "ShapeSearch$Search" "ShapeSearch$Search" "takenHere" "[I" ∈ BG := List.mem_filter.mpr ⟨in_1 (List.mem_of_getElem? (i := 165) rfl), rfl⟩
theorem k1_167 : Cond.lays "ShapeSearch$Search" "ShapeSearch$Search" "level" "I" ∈ BG := List.mem_filter.mpr ⟨in_1 (List.mem_of_getElem? (i := 167) rfl), rfl⟩
theorem k1_169 : Cond.lays "ShapeSearch$Search" "ShapeSearch$Search" "steps" "I" ∈ BG := List.mem_filter.mpr ⟨in_1 (List.mem_of_getElem? (i := 169) rfl), rfl⟩
theorem k1_171 : Cond.lays "ShapeSearch$Search" "ShapeSearch$Search" "tries" "I" ∈ BG := List.mem_filter.mpr ⟨in_1 (List.mem_of_getElem? (i := 171) rfl), rfl⟩
theorem k1_173 : Cond.lays "ShapeSearch$Search" "ShapeSearch$Search" "taken" "I" ∈ BG := List.mem_filter.mpr ⟨in_1 (List.mem_of_getElem? (i := 173) rfl), rfl⟩
theorem k1_175 : Cond.lays "ShapeSearch$Search" "ShapeSearch$Search" "first" "I" ∈ BG := List.mem_filter.mpr ⟨in_1 (List.mem_of_getElem? (i := 175) rfl), rfl⟩
theorem kin_E : ∀ w ∈ u_ws RR_E FF_E 14, w ∈ BG := by
  rw [show u_ws RR_E FF_E 14 = [.laysFinal "ShapeSearch$Search" "ShapeSearch$Search" "terms" "LShapeSearch$Terms;", .laysFinal "ShapeSearch$Search" "ShapeSearch$Search" "statements" "LShapeSearch$Statements;", .laysFinal "ShapeSearch$Search" "ShapeSearch$Search" "matcher" "LShapeSearch$Matcher;", .laysFinal "ShapeSearch$Search" "ShapeSearch$Search" "goals" "[I", .laysFinal "ShapeSearch$Search" "ShapeSearch$Search" "marks" "[I", .laysFinal "ShapeSearch$Search" "ShapeSearch$Search" "looked" "[I", .laysFinal "ShapeSearch$Search" "ShapeSearch$Search" "underway" "[I", .laysFinal "ShapeSearch$Search" "ShapeSearch$Search" "met" "[I", .laysFinal "ShapeSearch$Search" "ShapeSearch$Search" "takenHere" "[I", .lays "ShapeSearch$Search" "ShapeSearch$Search" "level" "I", .lays "ShapeSearch$Search" "ShapeSearch$Search" "steps" "I", .lays "ShapeSearch$Search" "ShapeSearch$Search" "tries" "I", .lays "ShapeSearch$Search" "ShapeSearch$Search" "taken" "I", .lays "ShapeSearch$Search" "ShapeSearch$Search" "first" "I"] from rfl]
  exact List.forall_mem_cons.mpr ⟨k1_149, List.forall_mem_cons.mpr ⟨k1_151, List.forall_mem_cons.mpr ⟨k1_153, List.forall_mem_cons.mpr ⟨k1_155, List.forall_mem_cons.mpr ⟨k1_157, List.forall_mem_cons.mpr ⟨k1_159, List.forall_mem_cons.mpr ⟨k1_161, List.forall_mem_cons.mpr ⟨k1_163, List.forall_mem_cons.mpr ⟨k1_165, List.forall_mem_cons.mpr ⟨k1_167, List.forall_mem_cons.mpr ⟨k1_169, List.forall_mem_cons.mpr ⟨k1_171, List.forall_mem_cons.mpr ⟨k1_173, List.forall_mem_cons.mpr ⟨k1_175, fun _ h => absurd h List.not_mem_nil⟩⟩⟩⟩⟩⟩⟩⟩⟩⟩⟩⟩⟩⟩
theorem k1_190 : Cond.laysFinal "ShapeSearch$Hits" "ShapeSearch$Hits" "statementRow" "[I" ∈ BG := List.mem_filter.mpr ⟨in_1 (List.mem_of_getElem? (i := 190) rfl), rfl⟩
theorem k1_192 : Cond.laysFinal "ShapeSearch$Hits" "ShapeSearch$Hits" "firstRow" "[I" ∈ BG := List.mem_filter.mpr ⟨in_1 (List.mem_of_getElem? (i := 192) rfl), rfl⟩
theorem k1_194 : Cond.laysFinal "ShapeSearch$Hits" "ShapeSearch$Hits" "secondRow" "[I" ∈ BG := List.mem_filter.mpr ⟨in_1 (List.mem_of_getElem? (i := 194) rfl), rfl⟩
theorem k1_196 : Cond.lays "ShapeSearch$Hits" "ShapeSearch$Hits" "kind" "I" ∈ BG := List.mem_filter.mpr ⟨in_1 (List.mem_of_getElem? (i := 196) rfl), rfl⟩
theorem k1_198 : Cond.lays "ShapeSearch$Hits" "ShapeSearch$Hits" "subject" "I" ∈ BG := List.mem_filter.mpr ⟨in_1 (List.mem_of_getElem? (i := 198) rfl), rfl⟩
theorem k1_200 : Cond.lays "ShapeSearch$Hits" "ShapeSearch$Hits" "count" "I" ∈ BG := List.mem_filter.mpr ⟨in_1 (List.mem_of_getElem? (i := 200) rfl), rfl⟩
theorem kin_H : ∀ w ∈ u_ws RR_H FF_H 6, w ∈ BG := by
  rw [show u_ws RR_H FF_H 6 = [.laysFinal "ShapeSearch$Hits" "ShapeSearch$Hits" "statementRow" "[I", .laysFinal "ShapeSearch$Hits" "ShapeSearch$Hits" "firstRow" "[I", .laysFinal "ShapeSearch$Hits" "ShapeSearch$Hits" "secondRow" "[I", .lays "ShapeSearch$Hits" "ShapeSearch$Hits" "kind" "I", .lays "ShapeSearch$Hits" "ShapeSearch$Hits" "subject" "I", .lays "ShapeSearch$Hits" "ShapeSearch$Hits" "count" "I"] from rfl]
  exact List.forall_mem_cons.mpr ⟨k1_190, List.forall_mem_cons.mpr ⟨k1_192, List.forall_mem_cons.mpr ⟨k1_194, List.forall_mem_cons.mpr ⟨k1_196, List.forall_mem_cons.mpr ⟨k1_198, List.forall_mem_cons.mpr ⟨k1_200, fun _ h => absurd h List.not_mem_nil⟩⟩⟩⟩⟩⟩
theorem k4_108 : Cond.lays "ShapeSearchModel" "ShapeSearchModel" "thrown" "I" ∈ BG := List.mem_filter.mpr ⟨in_4 (List.mem_of_getElem? (i := 108) rfl), rfl⟩
theorem k4_110 : Cond.laysFinal "ShapeSearchModel" "ShapeSearchModel" "kinds" "[I" ∈ BG := List.mem_filter.mpr ⟨in_4 (List.mem_of_getElem? (i := 110) rfl), rfl⟩
theorem k4_112 : Cond.laysFinal "ShapeSearchModel" "ShapeSearchModel" "which" "[I" ∈ BG := List.mem_filter.mpr ⟨in_4 (List.mem_of_getElem? (i := 112) rfl), rfl⟩
theorem k4_114 : Cond.laysFinal "ShapeSearchModel" "ShapeSearchModel" "firsts" "[I" ∈ BG := List.mem_filter.mpr ⟨in_4 (List.mem_of_getElem? (i := 114) rfl), rfl⟩
theorem k4_116 : Cond.laysFinal "ShapeSearchModel" "ShapeSearchModel" "seconds" "[I" ∈ BG := List.mem_filter.mpr ⟨in_4 (List.mem_of_getElem? (i := 116) rfl), rfl⟩
theorem k4_118 : Cond.laysFinal "ShapeSearchModel" "ShapeSearchModel" "thirds" "[I" ∈ BG := List.mem_filter.mpr ⟨in_4 (List.mem_of_getElem? (i := 118) rfl), rfl⟩
theorem k4_120 : Cond.laysFinal "ShapeSearchModel" "ShapeSearchModel" "nexts" "[I" ∈ BG := List.mem_filter.mpr ⟨in_4 (List.mem_of_getElem? (i := 120) rfl), rfl⟩
theorem k4_122 : Cond.laysFinal "ShapeSearchModel" "ShapeSearchModel" "heads" "[I" ∈ BG := List.mem_filter.mpr ⟨in_4 (List.mem_of_getElem? (i := 122) rfl), rfl⟩
theorem k4_124 : Cond.lays "ShapeSearchModel" "ShapeSearchModel" "all" "I" ∈ BG := List.mem_filter.mpr ⟨in_4 (List.mem_of_getElem? (i := 124) rfl), rfl⟩
theorem k4_126 : Cond.laysFinal "ShapeSearchModel" "ShapeSearchModel" "names" "[I" ∈ BG := List.mem_filter.mpr ⟨in_4 (List.mem_of_getElem? (i := 126) rfl), rfl⟩
theorem k4_128 : Cond.laysFinal "ShapeSearchModel" "ShapeSearchModel" "variables" "[I" ∈ BG := List.mem_filter.mpr ⟨in_4 (List.mem_of_getElem? (i := 128) rfl), rfl⟩
theorem k4_130 : Cond.laysFinal "ShapeSearchModel" "ShapeSearchModel" "holes" "[I" ∈ BG := List.mem_filter.mpr ⟨in_4 (List.mem_of_getElem? (i := 130) rfl), rfl⟩
theorem k4_132 : Cond.laysFinal "ShapeSearchModel" "ShapeSearchModel" "sizes" "[I" ∈ BG := List.mem_filter.mpr ⟨in_4 (List.mem_of_getElem? (i := 132) rfl), rfl⟩
theorem k4_134 : Cond.laysFinal "ShapeSearchModel" "ShapeSearchModel" "places" "[I" ∈ BG := List.mem_filter.mpr ⟨in_4 (List.mem_of_getElem? (i := 134) rfl), rfl⟩
theorem k4_136 : Cond.laysFinal "ShapeSearchModel" "ShapeSearchModel" "conclusions" "[I" ∈ BG := List.mem_filter.mpr ⟨in_4 (List.mem_of_getElem? (i := 136) rfl), rfl⟩
theorem k4_138 : Cond.laysFinal "ShapeSearchModel" "ShapeSearchModel" "premises" "[I" ∈ BG := List.mem_filter.mpr ⟨in_4 (List.mem_of_getElem? (i := 138) rfl), rfl⟩
theorem k4_140 : Cond.laysFinal "ShapeSearchModel" "ShapeSearchModel" "counts" "[I" ∈ BG := List.mem_filter.mpr ⟨in_4 (List.mem_of_getElem? (i := 140) rfl), rfl⟩
theorem k4_142 : Cond.lays "ShapeSearchModel" "ShapeSearchModel" "statements" "I" ∈ BG := List.mem_filter.mpr ⟨in_4 (List.mem_of_getElem? (i := 142) rfl), rfl⟩
theorem k4_144 : Cond.lays "ShapeSearchModel" "ShapeSearchModel" "hitKind" "I" ∈ BG := List.mem_filter.mpr ⟨in_4 (List.mem_of_getElem? (i := 144) rfl), rfl⟩
theorem k4_146 : Cond.lays "ShapeSearchModel" "ShapeSearchModel" "hits" "I" ∈ BG := List.mem_filter.mpr ⟨in_4 (List.mem_of_getElem? (i := 146) rfl), rfl⟩
theorem k4_148 : Cond.laysFinal "ShapeSearchModel" "ShapeSearchModel" "hitOf" "[I" ∈ BG := List.mem_filter.mpr ⟨in_4 (List.mem_of_getElem? (i := 148) rfl), rfl⟩
theorem k4_150 : Cond.laysFinal "ShapeSearchModel" "ShapeSearchModel" "hitOne" "[I" ∈ BG := List.mem_filter.mpr ⟨in_4 (List.mem_of_getElem? (i := 150) rfl), rfl⟩
theorem k4_152 : Cond.laysFinal "ShapeSearchModel" "ShapeSearchModel" "hitTwo" "[I" ∈ BG := List.mem_filter.mpr ⟨in_4 (List.mem_of_getElem? (i := 152) rfl), rfl⟩
theorem k4_154 : Cond.laysFinal "ShapeSearchModel" "ShapeSearchModel" "hitTerms" "[I" ∈ BG := List.mem_filter.mpr ⟨in_4 (List.mem_of_getElem? (i := 154) rfl), rfl⟩
theorem k4_156 : Cond.laysFinal "ShapeSearchModel" "ShapeSearchModel" "image" "[I" ∈ BG := List.mem_filter.mpr ⟨in_4 (List.mem_of_getElem? (i := 156) rfl), rfl⟩
theorem k4_158 : Cond.laysFinal "ShapeSearchModel" "ShapeSearchModel" "bound" "[I" ∈ BG := List.mem_filter.mpr ⟨in_4 (List.mem_of_getElem? (i := 158) rfl), rfl⟩
theorem k4_160 : Cond.laysFinal "ShapeSearchModel" "ShapeSearchModel" "waits" "[I" ∈ BG := List.mem_filter.mpr ⟨in_4 (List.mem_of_getElem? (i := 160) rfl), rfl⟩
theorem k4_162 : Cond.laysFinal "ShapeSearchModel" "ShapeSearchModel" "waitsFor" "[I" ∈ BG := List.mem_filter.mpr ⟨in_4 (List.mem_of_getElem? (i := 162) rfl), rfl⟩
theorem k4_164 : Cond.laysFinal "ShapeSearchModel" "ShapeSearchModel" "seen" "[Z" ∈ BG := List.mem_filter.mpr ⟨in_4 (List.mem_of_getElem? (i := 164) rfl), rfl⟩
theorem k4_166 : Cond.laysFinal "ShapeSearchModel" "ShapeSearchModel" "goals" "[I" ∈ BG := List.mem_filter.mpr ⟨in_4 (List.mem_of_getElem? (i := 166) rfl), rfl⟩
theorem k4_168 : Cond.laysFinal "ShapeSearchModel" "ShapeSearchModel" "steps" "[I" ∈ BG := List.mem_filter.mpr ⟨in_4 (List.mem_of_getElem? (i := 168) rfl), rfl⟩
theorem k4_170 : Cond.laysFinal "ShapeSearchModel" "ShapeSearchModel" "looked" "[I" ∈ BG := List.mem_filter.mpr ⟨in_4 (List.mem_of_getElem? (i := 170) rfl), rfl⟩
theorem k4_172 : Cond.laysFinal "ShapeSearchModel" "ShapeSearchModel" "under" "[I" ∈ BG := List.mem_filter.mpr ⟨in_4 (List.mem_of_getElem? (i := 172) rfl), rfl⟩
theorem k4_174 : Cond.laysFinal "ShapeSearchModel" "ShapeSearchModel" "taken" "[I" ∈ BG := List.mem_filter.mpr ⟨in_4 (List.mem_of_getElem? (i := 174) rfl), rfl⟩
theorem k4_176 : Cond.laysFinal "ShapeSearchModel" "ShapeSearchModel" "news" "[I" ∈ BG := List.mem_filter.mpr ⟨in_4 (List.mem_of_getElem? (i := 176) rfl), rfl⟩
theorem k4_178 : Cond.laysFinal "ShapeSearchModel" "ShapeSearchModel" "order" "[I" ∈ BG := List.mem_filter.mpr ⟨in_4 (List.mem_of_getElem? (i := 178) rfl), rfl⟩
theorem k4_180 : Cond.lays "ShapeSearchModel" "ShapeSearchModel" "tries" "I" ∈ BG := List.mem_filter.mpr ⟨in_4 (List.mem_of_getElem? (i := 180) rfl), rfl⟩
theorem k4_182 : Cond.lays "ShapeSearchModel" "ShapeSearchModel" "takenAll" "I" ∈ BG := List.mem_filter.mpr ⟨in_4 (List.mem_of_getElem? (i := 182) rfl), rfl⟩
theorem k4_184 : Cond.lays "ShapeSearchModel" "ShapeSearchModel" "takenFirst" "I" ∈ BG := List.mem_filter.mpr ⟨in_4 (List.mem_of_getElem? (i := 184) rfl), rfl⟩
theorem k4_186 : Cond.laysFinal "ShapeSearchModel" "ShapeSearchModel" "there" "[I" ∈ BG := List.mem_filter.mpr ⟨in_4 (List.mem_of_getElem? (i := 186) rfl), rfl⟩
theorem k4_188 : Cond.laysFinal "ShapeSearchModel" "ShapeSearchModel" "back" "[I" ∈ BG := List.mem_filter.mpr ⟨in_4 (List.mem_of_getElem? (i := 188) rfl), rfl⟩
theorem kin_Q : ∀ w ∈ u_ws RR_Q FF_Q 41, w ∈ BG := by
  rw [show u_ws RR_Q FF_Q 41 = [.lays "ShapeSearchModel" "ShapeSearchModel" "thrown" "I", .laysFinal "ShapeSearchModel" "ShapeSearchModel" "kinds" "[I", .laysFinal "ShapeSearchModel" "ShapeSearchModel" "which" "[I", .laysFinal "ShapeSearchModel" "ShapeSearchModel" "firsts" "[I", .laysFinal "ShapeSearchModel" "ShapeSearchModel" "seconds" "[I", .laysFinal "ShapeSearchModel" "ShapeSearchModel" "thirds" "[I", .laysFinal "ShapeSearchModel" "ShapeSearchModel" "nexts" "[I", .laysFinal "ShapeSearchModel" "ShapeSearchModel" "heads" "[I", .lays "ShapeSearchModel" "ShapeSearchModel" "all" "I", .laysFinal "ShapeSearchModel" "ShapeSearchModel" "names" "[I", .laysFinal "ShapeSearchModel" "ShapeSearchModel" "variables" "[I", .laysFinal "ShapeSearchModel" "ShapeSearchModel" "holes" "[I", .laysFinal "ShapeSearchModel" "ShapeSearchModel" "sizes" "[I", .laysFinal "ShapeSearchModel" "ShapeSearchModel" "places" "[I", .laysFinal "ShapeSearchModel" "ShapeSearchModel" "conclusions" "[I", .laysFinal "ShapeSearchModel" "ShapeSearchModel" "premises" "[I", .laysFinal "ShapeSearchModel" "ShapeSearchModel" "counts" "[I", .lays "ShapeSearchModel" "ShapeSearchModel" "statements" "I", .lays "ShapeSearchModel" "ShapeSearchModel" "hitKind" "I", .lays "ShapeSearchModel" "ShapeSearchModel" "hits" "I", .laysFinal "ShapeSearchModel" "ShapeSearchModel" "hitOf" "[I", .laysFinal "ShapeSearchModel" "ShapeSearchModel" "hitOne" "[I", .laysFinal "ShapeSearchModel" "ShapeSearchModel" "hitTwo" "[I", .laysFinal "ShapeSearchModel" "ShapeSearchModel" "hitTerms" "[I", .laysFinal "ShapeSearchModel" "ShapeSearchModel" "image" "[I", .laysFinal "ShapeSearchModel" "ShapeSearchModel" "bound" "[I", .laysFinal "ShapeSearchModel" "ShapeSearchModel" "waits" "[I", .laysFinal "ShapeSearchModel" "ShapeSearchModel" "waitsFor" "[I", .laysFinal "ShapeSearchModel" "ShapeSearchModel" "seen" "[Z", .laysFinal "ShapeSearchModel" "ShapeSearchModel" "goals" "[I", .laysFinal "ShapeSearchModel" "ShapeSearchModel" "steps" "[I", .laysFinal "ShapeSearchModel" "ShapeSearchModel" "looked" "[I", .laysFinal "ShapeSearchModel" "ShapeSearchModel" "under" "[I", .laysFinal "ShapeSearchModel" "ShapeSearchModel" "taken" "[I", .laysFinal "ShapeSearchModel" "ShapeSearchModel" "news" "[I", .laysFinal "ShapeSearchModel" "ShapeSearchModel" "order" "[I", .lays "ShapeSearchModel" "ShapeSearchModel" "tries" "I", .lays "ShapeSearchModel" "ShapeSearchModel" "takenAll" "I", .lays "ShapeSearchModel" "ShapeSearchModel" "takenFirst" "I", .laysFinal "ShapeSearchModel" "ShapeSearchModel" "there" "[I", .laysFinal "ShapeSearchModel" "ShapeSearchModel" "back" "[I"] from rfl]
  exact List.forall_mem_cons.mpr ⟨k4_108, List.forall_mem_cons.mpr ⟨k4_110, List.forall_mem_cons.mpr ⟨k4_112, List.forall_mem_cons.mpr ⟨k4_114, List.forall_mem_cons.mpr ⟨k4_116, List.forall_mem_cons.mpr ⟨k4_118, List.forall_mem_cons.mpr ⟨k4_120, List.forall_mem_cons.mpr ⟨k4_122, List.forall_mem_cons.mpr ⟨k4_124, List.forall_mem_cons.mpr ⟨k4_126, List.forall_mem_cons.mpr ⟨k4_128, List.forall_mem_cons.mpr ⟨k4_130, List.forall_mem_cons.mpr ⟨k4_132, List.forall_mem_cons.mpr ⟨k4_134, List.forall_mem_cons.mpr ⟨k4_136, List.forall_mem_cons.mpr ⟨k4_138, List.forall_mem_cons.mpr ⟨k4_140, List.forall_mem_cons.mpr ⟨k4_142, List.forall_mem_cons.mpr ⟨k4_144, List.forall_mem_cons.mpr ⟨k4_146, List.forall_mem_cons.mpr ⟨k4_148, List.forall_mem_cons.mpr ⟨k4_150, List.forall_mem_cons.mpr ⟨k4_152, List.forall_mem_cons.mpr ⟨k4_154, List.forall_mem_cons.mpr ⟨k4_156, List.forall_mem_cons.mpr ⟨k4_158, List.forall_mem_cons.mpr ⟨k4_160, List.forall_mem_cons.mpr ⟨k4_162, List.forall_mem_cons.mpr ⟨k4_164, List.forall_mem_cons.mpr ⟨k4_166, List.forall_mem_cons.mpr ⟨k4_168, List.forall_mem_cons.mpr ⟨k4_170, List.forall_mem_cons.mpr ⟨k4_172, List.forall_mem_cons.mpr ⟨k4_174, List.forall_mem_cons.mpr ⟨k4_176, List.forall_mem_cons.mpr ⟨k4_178, List.forall_mem_cons.mpr ⟨k4_180, List.forall_mem_cons.mpr ⟨k4_182, List.forall_mem_cons.mpr ⟨k4_184, List.forall_mem_cons.mpr ⟨k4_186, List.forall_mem_cons.mpr ⟨k4_188, fun _ h => absurd h List.not_mem_nil⟩⟩⟩⟩⟩⟩⟩⟩⟩⟩⟩⟩⟩⟩⟩⟩⟩⟩⟩⟩⟩⟩⟩⟩⟩⟩⟩⟩⟩⟩⟩⟩⟩⟩⟩⟩⟩⟩⟩⟩⟩
theorem ks_X_binding : Cond.selects "ShapeSearch" ⟨"ShapeSearch", "binding", "(II)I"⟩ ⟨"ShapeSearch", "binding", "(II)I"⟩ ∈ BG := List.mem_filter.mpr ⟨List.mem_append_left _ (List.mem_of_getElem? (i := 0) rfl), rfl⟩
theorem ks_M_pair : Cond.selects "ShapeSearch$Matcher" ⟨"ShapeSearch$Matcher", "pair", "(II)Z"⟩ ⟨"ShapeSearch$Matcher", "pair", "(II)Z"⟩ ∈ BG := List.mem_filter.mpr ⟨List.mem_append_left _ (List.mem_of_getElem? (i := 1) rfl), rfl⟩
theorem ks_M_settle : Cond.selects "ShapeSearch$Matcher" ⟨"ShapeSearch$Matcher", "settle", "(J)Z"⟩ ⟨"ShapeSearch$Matcher", "settle", "(J)Z"⟩ ∈ BG := List.mem_filter.mpr ⟨List.mem_append_left _ (List.mem_of_getElem? (i := 2) rfl), rfl⟩
theorem ks_M_agrees : Cond.selects "ShapeSearch$Matcher" ⟨"ShapeSearch$Matcher", "agrees", "(IIJ)Z"⟩ ⟨"ShapeSearch$Matcher", "agrees", "(IIJ)Z"⟩ ∈ BG := List.mem_filter.mpr ⟨List.mem_append_left _ (List.mem_of_getElem? (i := 3) rfl), rfl⟩
theorem ks_T_seek : Cond.selects "ShapeSearch$Terms" ⟨"ShapeSearch$Terms", "seek", "(IIIII)I"⟩ ⟨"ShapeSearch$Terms", "seek", "(IIIII)I"⟩ ∈ BG := List.mem_filter.mpr ⟨List.mem_append_left _ (List.mem_of_getElem? (i := 4) rfl), rfl⟩
theorem ks_M_image : Cond.selects "ShapeSearch$Matcher" ⟨"ShapeSearch$Matcher", "image", "(I)I"⟩ ⟨"ShapeSearch$Matcher", "image", "(I)I"⟩ ∈ BG := List.mem_filter.mpr ⟨List.mem_append_left _ (List.mem_of_getElem? (i := 5) rfl), rfl⟩
theorem ks_X_areTerms : Cond.selects "ShapeSearch" ⟨"ShapeSearch", "areTerms", "(IIIII)Z"⟩ ⟨"ShapeSearch", "areTerms", "(IIIII)Z"⟩ ∈ BG := List.mem_filter.mpr ⟨List.mem_append_left _ (List.mem_of_getElem? (i := 6) rfl), rfl⟩
theorem ks_X_holeStandsIn : Cond.selects "ShapeSearch" ⟨"ShapeSearch", "holeStandsIn", "(IIIII)Z"⟩ ⟨"ShapeSearch", "holeStandsIn", "(IIIII)Z"⟩ ∈ BG := List.mem_filter.mpr ⟨List.mem_append_left _ (List.mem_of_getElem? (i := 8) rfl), rfl⟩
theorem ks_F_forgetSeen : Cond.selects "ShapeSearch$Finder" ⟨"ShapeSearch$Finder", "forgetSeen", "()V"⟩ ⟨"ShapeSearch$Finder", "forgetSeen", "()V"⟩ ∈ BG := List.mem_filter.mpr ⟨List.mem_append_left _ (List.mem_of_getElem? (i := 9) rfl), rfl⟩
theorem ks_F_firstIn : Cond.selects "ShapeSearch$Finder" ⟨"ShapeSearch$Finder", "firstIn", "(I)I"⟩ ⟨"ShapeSearch$Finder", "firstIn", "(I)I"⟩ ∈ BG := List.mem_filter.mpr ⟨List.mem_append_left _ (List.mem_of_getElem? (i := 10) rfl), rfl⟩
theorem ks_H_put : Cond.selects "ShapeSearch$Hits" ⟨"ShapeSearch$Hits", "put", "(IIII)V"⟩ ⟨"ShapeSearch$Hits", "put", "(IIII)V"⟩ ∈ BG := List.mem_filter.mpr ⟨List.mem_append_left _ (List.mem_of_getElem? (i := 11) rfl), rfl⟩
theorem ks_X_checkGoal : Cond.selects "ShapeSearch" ⟨"ShapeSearch", "checkGoal", "(I)V"⟩ ⟨"ShapeSearch", "checkGoal", "(I)V"⟩ ∈ BG := List.mem_filter.mpr ⟨List.mem_append_left _ (List.mem_of_getElem? (i := 12) rfl), rfl⟩
theorem ks_S_withinPremises : Cond.selects "ShapeSearch$Statements" ⟨"ShapeSearch$Statements", "withinPremises", "(ILShapeSearch$Terms;)J"⟩ ⟨"ShapeSearch$Statements", "withinPremises", "(ILShapeSearch$Terms;)J"⟩ ∈ BG := List.mem_filter.mpr ⟨List.mem_append_left _ (List.mem_of_getElem? (i := 13) rfl), rfl⟩
theorem ks_M_placeWithoutImage : Cond.selects "ShapeSearch$Matcher" ⟨"ShapeSearch$Matcher", "placeWithoutImage", "(I)I"⟩ ⟨"ShapeSearch$Matcher", "placeWithoutImage", "(I)I"⟩ ∈ BG := List.mem_filter.mpr ⟨List.mem_append_left _ (List.mem_of_getElem? (i := 14) rfl), rfl⟩
theorem ks_M_putImage : Cond.selects "ShapeSearch$Matcher" ⟨"ShapeSearch$Matcher", "putImage", "(II)Z"⟩ ⟨"ShapeSearch$Matcher", "putImage", "(II)Z"⟩ ∈ BG := List.mem_filter.mpr ⟨List.mem_append_left _ (List.mem_of_getElem? (i := 15) rfl), rfl⟩
theorem ks_E_enter : Cond.selects "ShapeSearch$Search" ⟨"ShapeSearch$Search", "enter", "(II)Z"⟩ ⟨"ShapeSearch$Search", "enter", "(II)Z"⟩ ∈ BG := List.mem_filter.mpr ⟨List.mem_append_left _ (List.mem_of_getElem? (i := 16) rfl), rfl⟩
theorem ks_E_looks : Cond.selects "ShapeSearch$Search" ⟨"ShapeSearch$Search", "looks", "()Z"⟩ ⟨"ShapeSearch$Search", "looks", "()Z"⟩ ∈ BG := List.mem_filter.mpr ⟨List.mem_append_left _ (List.mem_of_getElem? (i := 17) rfl), rfl⟩
theorem ks_E_giveUp : Cond.selects "ShapeSearch$Search" ⟨"ShapeSearch$Search", "giveUp", "()V"⟩ ⟨"ShapeSearch$Search", "giveUp", "()V"⟩ ∈ BG := List.mem_filter.mpr ⟨List.mem_append_left _ (List.mem_of_getElem? (i := 18) rfl), rfl⟩
theorem ks_E_succeed : Cond.selects "ShapeSearch$Search" ⟨"ShapeSearch$Search", "succeed", "(I)V"⟩ ⟨"ShapeSearch$Search", "succeed", "(I)V"⟩ ∈ BG := List.mem_filter.mpr ⟨List.mem_append_left _ (List.mem_of_getElem? (i := 19) rfl), rfl⟩
theorem ks_E_enterNewGoal : Cond.selects "ShapeSearch$Search" ⟨"ShapeSearch$Search", "enterNewGoal", "(I)V"⟩ ⟨"ShapeSearch$Search", "enterNewGoal", "(I)V"⟩ ∈ BG := List.mem_filter.mpr ⟨List.mem_append_left _ (List.mem_of_getElem? (i := 20) rfl), rfl⟩
theorem ks_Q_isTerm : Cond.selects "ShapeSearchModel" ⟨"ShapeSearchModel", "isTerm", "(I)Z"⟩ ⟨"ShapeSearchModel", "isTerm", "(I)Z"⟩ ∈ BG := List.mem_filter.mpr ⟨List.mem_append_left _ (List.mem_of_getElem? (i := 21) rfl), rfl⟩
theorem ks_Q_refuses : Cond.selects "ShapeSearchModel" ⟨"ShapeSearchModel", "refuses", "(I)Z"⟩ ⟨"ShapeSearchModel", "refuses", "(I)Z"⟩ ∈ BG := List.mem_filter.mpr ⟨List.mem_append_left _ (List.mem_of_getElem? (i := 22) rfl), rfl⟩
theorem ks_Q_make : Cond.selects "ShapeSearchModel" ⟨"ShapeSearchModel", "make", "(IIIIII)I"⟩ ⟨"ShapeSearchModel", "make", "(IIIIII)I"⟩ ∈ BG := List.mem_filter.mpr ⟨List.mem_append_left _ (List.mem_of_getElem? (i := 23) rfl), rfl⟩
theorem ks_Q_tell : Cond.selects "ShapeSearchModel" ⟨"ShapeSearchModel", "tell", "(I)V"⟩ ⟨"ShapeSearchModel", "tell", "(I)V"⟩ ∈ BG := List.mem_filter.mpr ⟨List.mem_append_left _ (List.mem_of_getElem? (i := 24) rfl), rfl⟩
theorem ks_Q_part : Cond.selects "ShapeSearchModel" ⟨"ShapeSearchModel", "part", "(II)I"⟩ ⟨"ShapeSearchModel", "part", "(II)I"⟩ ∈ BG := List.mem_filter.mpr ⟨List.mem_append_left _ (List.mem_of_getElem? (i := 25) rfl), rfl⟩
theorem ks_Q_made : Cond.selects "ShapeSearchModel" ⟨"ShapeSearchModel", "made", "(II)I"⟩ ⟨"ShapeSearchModel", "made", "(II)I"⟩ ∈ BG := List.mem_filter.mpr ⟨List.mem_append_left _ (List.mem_of_getElem? (i := 26) rfl), rfl⟩
theorem ks_Q_firstMatch : Cond.selects "ShapeSearchModel" ⟨"ShapeSearchModel", "firstMatch", "(II)I"⟩ ⟨"ShapeSearchModel", "firstMatch", "(II)I"⟩ ∈ BG := List.mem_filter.mpr ⟨List.mem_append_left _ (List.mem_of_getElem? (i := 27) rfl), rfl⟩
theorem ks_Q_matches : Cond.selects "ShapeSearchModel" ⟨"ShapeSearchModel", "matches", "(IIZ)Z"⟩ ⟨"ShapeSearchModel", "matches", "(IIZ)Z"⟩ ∈ BG := List.mem_filter.mpr ⟨List.mem_append_left _ (List.mem_of_getElem? (i := 28) rfl), rfl⟩
theorem ks_Q_premise : Cond.selects "ShapeSearchModel" ⟨"ShapeSearchModel", "premise", "(II)I"⟩ ⟨"ShapeSearchModel", "premise", "(II)I"⟩ ∈ BG := List.mem_filter.mpr ⟨List.mem_append_left _ (List.mem_of_getElem? (i := 29) rfl), rfl⟩
theorem ks_Q_hit_III : Cond.selects "ShapeSearchModel" ⟨"ShapeSearchModel", "hit", "(III)V"⟩ ⟨"ShapeSearchModel", "hit", "(III)V"⟩ ∈ BG := List.mem_filter.mpr ⟨List.mem_append_left _ (List.mem_of_getElem? (i := 30) rfl), rfl⟩
theorem ks_Q_wrongGoal : Cond.selects "ShapeSearchModel" ⟨"ShapeSearchModel", "wrongGoal", "(I)I"⟩ ⟨"ShapeSearchModel", "wrongGoal", "(I)I"⟩ ∈ BG := List.mem_filter.mpr ⟨List.mem_append_left _ (List.mem_of_getElem? (i := 31) rfl), rfl⟩
theorem ks_Q_open : Cond.selects "ShapeSearchModel" ⟨"ShapeSearchModel", "open", "(I)I"⟩ ⟨"ShapeSearchModel", "open", "(I)I"⟩ ∈ BG := List.mem_filter.mpr ⟨List.mem_append_left _ (List.mem_of_getElem? (i := 32) rfl), rfl⟩
theorem ks_Q_namesOf : Cond.selects "ShapeSearchModel" ⟨"ShapeSearchModel", "namesOf", "(I)I"⟩ ⟨"ShapeSearchModel", "namesOf", "(I)I"⟩ ∈ BG := List.mem_filter.mpr ⟨List.mem_append_left _ (List.mem_of_getElem? (i := 33) rfl), rfl⟩
theorem ks_Q_put : Cond.selects "ShapeSearchModel" ⟨"ShapeSearchModel", "put", "(II)I"⟩ ⟨"ShapeSearchModel", "put", "(II)I"⟩ ∈ BG := List.mem_filter.mpr ⟨List.mem_append_left _ (List.mem_of_getElem? (i := 34) rfl), rfl⟩
theorem ks_Q_become : Cond.selects "ShapeSearchModel" ⟨"ShapeSearchModel", "become", "(II)I"⟩ ⟨"ShapeSearchModel", "become", "(II)I"⟩ ∈ BG := List.mem_filter.mpr ⟨List.mem_append_left _ (List.mem_of_getElem? (i := 35) rfl), rfl⟩
theorem ks_Q_become0 : Cond.selects "ShapeSearchModel" ⟨"ShapeSearchModel", "become0", "(I)I"⟩ ⟨"ShapeSearchModel", "become0", "(I)I"⟩ ∈ BG := List.mem_filter.mpr ⟨List.mem_append_left _ (List.mem_of_getElem? (i := 36) rfl), rfl⟩
theorem ks_Q_areTwins : Cond.selects "ShapeSearchModel" ⟨"ShapeSearchModel", "areTwins", "(II)Z"⟩ ⟨"ShapeSearchModel", "areTwins", "(II)Z"⟩ ∈ BG := List.mem_filter.mpr ⟨List.mem_append_left _ (List.mem_of_getElem? (i := 37) rfl), rfl⟩
theorem ks_Q_areAlike : Cond.selects "ShapeSearchModel" ⟨"ShapeSearchModel", "areAlike", "(II)Z"⟩ ⟨"ShapeSearchModel", "areAlike", "(II)Z"⟩ ∈ BG := List.mem_filter.mpr ⟨List.mem_append_left _ (List.mem_of_getElem? (i := 38) rfl), rfl⟩
theorem ks_Q_inOrder : Cond.selects "ShapeSearchModel" ⟨"ShapeSearchModel", "inOrder", "()V"⟩ ⟨"ShapeSearchModel", "inOrder", "()V"⟩ ∈ BG := List.mem_filter.mpr ⟨List.mem_append_left _ (List.mem_of_getElem? (i := 39) rfl), rfl⟩
theorem ks_Q_look : Cond.selects "ShapeSearchModel" ⟨"ShapeSearchModel", "look", "(III)V"⟩ ⟨"ShapeSearchModel", "look", "(III)V"⟩ ∈ BG := List.mem_filter.mpr ⟨List.mem_append_left _ (List.mem_of_getElem? (i := 40) rfl), rfl⟩
theorem ks_Q_shrink : Cond.selects "ShapeSearchModel" ⟨"ShapeSearchModel", "shrink", "(I)V"⟩ ⟨"ShapeSearchModel", "shrink", "(I)V"⟩ ∈ BG := List.mem_filter.mpr ⟨List.mem_append_left _ (List.mem_of_getElem? (i := 41) rfl), rfl⟩
theorem ks_Q_head : Cond.selects "ShapeSearchModel" ⟨"ShapeSearchModel", "head", "(I)I"⟩ ⟨"ShapeSearchModel", "head", "(I)I"⟩ ∈ BG := List.mem_filter.mpr ⟨List.mem_append_left _ (List.mem_of_getElem? (i := 42) rfl), rfl⟩
theorem ks_Q_takes : Cond.selects "ShapeSearchModel" ⟨"ShapeSearchModel", "takes", "(I)Z"⟩ ⟨"ShapeSearchModel", "takes", "(I)Z"⟩ ∈ BG := List.mem_filter.mpr ⟨List.mem_append_left _ (List.mem_of_getElem? (i := 43) rfl), rfl⟩
