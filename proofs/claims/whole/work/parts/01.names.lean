-- ===== PART A: goes FIRST, ahead of the names: the tables' words, and 'selects' of the private methods out of them =====
/-- a private method of a class that the tables say can be made, by its rows of tables_1 -/
def lw_okq (q : MethodName × Nat) : Prop := (q.1.cls ≠ "java/lang/invoke/MethodHandle" ∧ q.1.cls ≠ "java/lang/invoke/VarHandle") ∧ Cond.instantiable q.1.cls q.2 ∈ tables_1 ∧ Cond.privateMethod q.1 ∈ tables_1 ∧ Cond.instanceMethod q.1 ∈ tables_1
theorem lw_p0 : lw_okq (⟨"GuideWalksLast$Land", "survey", "()V"⟩, 6) := ⟨⟨by decide +kernel, by decide +kernel⟩, List.mem_of_getElem? (i := 188) (by decide +kernel), List.mem_of_getElem? (i := 422) (by decide +kernel), List.mem_of_getElem? (i := 423) (by decide +kernel)⟩
theorem lw_p1 : lw_okq (⟨"GuideWalksLast$Land", "across", "(III)I"⟩, 6) := ⟨⟨by decide +kernel, by decide +kernel⟩, List.mem_of_getElem? (i := 188) (by decide +kernel), List.mem_of_getElem? (i := 426) (by decide +kernel), List.mem_of_getElem? (i := 427) (by decide +kernel)⟩
theorem lw_p2 : lw_okq (⟨"GuideWalksLast$Fee", "addTo", "(II)V"⟩, 6) := ⟨⟨by decide +kernel, by decide +kernel⟩, List.mem_of_getElem? (i := 120) (by decide +kernel), List.mem_of_getElem? (i := 476) (by decide +kernel), List.mem_of_getElem? (i := 477) (by decide +kernel)⟩
theorem lw_p3 : lw_okq (⟨"GuideWalksLast", "isOver", "()Z"⟩, 19) := ⟨⟨by decide +kernel, by decide +kernel⟩, List.mem_of_getElem? (i := 28) (by decide +kernel), List.mem_of_getElem? (i := 528) (by decide +kernel), List.mem_of_getElem? (i := 529) (by decide +kernel)⟩
theorem lw_p4 : lw_okq (⟨"GuideWalksLast", "walkFault", "()I"⟩, 19) := ⟨⟨by decide +kernel, by decide +kernel⟩, List.mem_of_getElem? (i := 28) (by decide +kernel), List.mem_of_getElem? (i := 603) (by decide +kernel), List.mem_of_getElem? (i := 604) (by decide +kernel)⟩
theorem lw_p5 : lw_okq (⟨"GuideWalksLast", "fate", "(I)I"⟩, 19) := ⟨⟨by decide +kernel, by decide +kernel⟩, List.mem_of_getElem? (i := 28) (by decide +kernel), List.mem_of_getElem? (i := 614) (by decide +kernel), List.mem_of_getElem? (i := 615) (by decide +kernel)⟩
theorem lw_p6 : lw_okq (⟨"GuideWalksLast$Land", "widen", "(I)Z"⟩, 6) := ⟨⟨by decide +kernel, by decide +kernel⟩, List.mem_of_getElem? (i := 188) (by decide +kernel), List.mem_of_getElem? (i := 627) (by decide +kernel), List.mem_of_getElem? (i := 628) (by decide +kernel)⟩
theorem lw_p7 : lw_okq (⟨"GuideWalksLast$Spread", "find", "(II)V"⟩, 3) := ⟨⟨by decide +kernel, by decide +kernel⟩, List.mem_of_getElem? (i := 152) (by decide +kernel), List.mem_of_getElem? (i := 652) (by decide +kernel), List.mem_of_getElem? (i := 653) (by decide +kernel)⟩
theorem lw_p8 : lw_okq (⟨"GuideWalksLast$Spread", "depthOf", "(I)I"⟩, 3) := ⟨⟨by decide +kernel, by decide +kernel⟩, List.mem_of_getElem? (i := 152) (by decide +kernel), List.mem_of_getElem? (i := 656) (by decide +kernel), List.mem_of_getElem? (i := 657) (by decide +kernel)⟩
theorem lw_p9 : lw_okq (⟨"GuideWalksLast", "tellCells", "(J)I"⟩, 19) := ⟨⟨by decide +kernel, by decide +kernel⟩, List.mem_of_getElem? (i := 28) (by decide +kernel), List.mem_of_getElem? (i := 667) (by decide +kernel), List.mem_of_getElem? (i := 668) (by decide +kernel)⟩
theorem lw_p10 : lw_okq (⟨"GuideWalksLast$Guide", "swapLayers", "()V"⟩, 12) := ⟨⟨by decide +kernel, by decide +kernel⟩, List.mem_of_getElem? (i := 216) (by decide +kernel), List.mem_of_getElem? (i := 691) (by decide +kernel), List.mem_of_getElem? (i := 692) (by decide +kernel)⟩
theorem lw_p11 : lw_okq (⟨"GuideWalksLast$Guide", "decide", "(III)V"⟩, 12) := ⟨⟨by decide +kernel, by decide +kernel⟩, List.mem_of_getElem? (i := 216) (by decide +kernel), List.mem_of_getElem? (i := 706) (by decide +kernel), List.mem_of_getElem? (i := 707) (by decide +kernel)⟩
theorem lw_p12 : lw_okq (⟨"GuideWalksLast$Guide", "lay", "(IIJJ)V"⟩, 12) := ⟨⟨by decide +kernel, by decide +kernel⟩, List.mem_of_getElem? (i := 216) (by decide +kernel), List.mem_of_getElem? (i := 722) (by decide +kernel), List.mem_of_getElem? (i := 723) (by decide +kernel)⟩
theorem lw_p13 : lw_okq (⟨"GuideWalksLast$Guide", "byItself", "([JII)J"⟩, 12) := ⟨⟨by decide +kernel, by decide +kernel⟩, List.mem_of_getElem? (i := 216) (by decide +kernel), List.mem_of_getElem? (i := 727) (by decide +kernel), List.mem_of_getElem? (i := 728) (by decide +kernel)⟩
theorem lw_p14 : lw_okq (⟨"GuideWalksLast", "bestChance", "(II)J"⟩, 19) := ⟨⟨by decide +kernel, by decide +kernel⟩, List.mem_of_getElem? (i := 28) (by decide +kernel), List.mem_of_getElem? (i := 757) (by decide +kernel), List.mem_of_getElem? (i := 758) (by decide +kernel)⟩
theorem lw_p15 : lw_okq (⟨"GuideWalksLast", "turnsWithWeight", "()I"⟩, 19) := ⟨⟨by decide +kernel, by decide +kernel⟩, List.mem_of_getElem? (i := 28) (by decide +kernel), List.mem_of_getElem? (i := 778) (by decide +kernel), List.mem_of_getElem? (i := 779) (by decide +kernel)⟩
def lw_privs_1 : List (MethodName × Nat) := [(⟨"GuideWalksLast$Land", "survey", "()V"⟩, 6), (⟨"GuideWalksLast$Land", "across", "(III)I"⟩, 6), (⟨"GuideWalksLast$Fee", "addTo", "(II)V"⟩, 6), (⟨"GuideWalksLast", "isOver", "()Z"⟩, 19), (⟨"GuideWalksLast", "walkFault", "()I"⟩, 19), (⟨"GuideWalksLast", "fate", "(I)I"⟩, 19), (⟨"GuideWalksLast$Land", "widen", "(I)Z"⟩, 6), (⟨"GuideWalksLast$Spread", "find", "(II)V"⟩, 3), (⟨"GuideWalksLast$Spread", "depthOf", "(I)I"⟩, 3), (⟨"GuideWalksLast", "tellCells", "(J)I"⟩, 19), (⟨"GuideWalksLast$Guide", "swapLayers", "()V"⟩, 12), (⟨"GuideWalksLast$Guide", "decide", "(III)V"⟩, 12), (⟨"GuideWalksLast$Guide", "lay", "(IIJJ)V"⟩, 12), (⟨"GuideWalksLast$Guide", "byItself", "([JII)J"⟩, 12), (⟨"GuideWalksLast", "bestChance", "(II)J"⟩, 19), (⟨"GuideWalksLast", "turnsWithWeight", "()I"⟩, 19)]
theorem lw_r1 : ∀ q ∈ lw_privs_1, lw_okq q := List.forall_mem_cons.mpr ⟨lw_p0, List.forall_mem_cons.mpr ⟨lw_p1, List.forall_mem_cons.mpr ⟨lw_p2, List.forall_mem_cons.mpr ⟨lw_p3, List.forall_mem_cons.mpr ⟨lw_p4, List.forall_mem_cons.mpr ⟨lw_p5, List.forall_mem_cons.mpr ⟨lw_p6, List.forall_mem_cons.mpr ⟨lw_p7, List.forall_mem_cons.mpr ⟨lw_p8, List.forall_mem_cons.mpr ⟨lw_p9, List.forall_mem_cons.mpr ⟨lw_p10, List.forall_mem_cons.mpr ⟨lw_p11, List.forall_mem_cons.mpr ⟨lw_p12, List.forall_mem_cons.mpr ⟨lw_p13, List.forall_mem_cons.mpr ⟨lw_p14, List.forall_mem_cons.mpr ⟨lw_p15, fun _ h => absurd h List.not_mem_nil⟩⟩⟩⟩⟩⟩⟩⟩⟩⟩⟩⟩⟩⟩⟩⟩
theorem lw_p16 : lw_okq (⟨"GuideWalksLast", "greedyChance", "(LGuideWalksLast$Fee;I)J"⟩, 19) := ⟨⟨by decide +kernel, by decide +kernel⟩, List.mem_of_getElem? (i := 28) (by decide +kernel), List.mem_of_getElem? (i := 804) (by decide +kernel), List.mem_of_getElem? (i := 805) (by decide +kernel)⟩
theorem lw_p17 : lw_okq (⟨"GuideWalksLast$Prints", "cellAt", "(I)I"⟩, 8) := ⟨⟨by decide +kernel, by decide +kernel⟩, List.mem_of_getElem? (i := 289) (by decide +kernel), List.mem_of_getElem? (i := 885) (by decide +kernel), List.mem_of_getElem? (i := 886) (by decide +kernel)⟩
theorem lw_p18 : lw_okq (⟨"GuideWalksLast$Prints", "isStepOn", "(II)Z"⟩, 8) := ⟨⟨by decide +kernel, by decide +kernel⟩, List.mem_of_getElem? (i := 289) (by decide +kernel), List.mem_of_getElem? (i := 889) (by decide +kernel), List.mem_of_getElem? (i := 890) (by decide +kernel)⟩
theorem lw_p19 : lw_okq (⟨"GuideWalksLast$Prints", "traceOn", "(III)V"⟩, 8) := ⟨⟨by decide +kernel, by decide +kernel⟩, List.mem_of_getElem? (i := 289) (by decide +kernel), List.mem_of_getElem? (i := 908) (by decide +kernel), List.mem_of_getElem? (i := 909) (by decide +kernel)⟩
theorem lw_p20 : lw_okq (⟨"GuideWalksLast$Prints", "placeBehind", "(III)I"⟩, 8) := ⟨⟨by decide +kernel, by decide +kernel⟩, List.mem_of_getElem? (i := 289) (by decide +kernel), List.mem_of_getElem? (i := 912) (by decide +kernel), List.mem_of_getElem? (i := 913) (by decide +kernel)⟩
theorem lw_p21 : lw_okq (⟨"GuideWalksLast$Prints", "falseCalls", "(III)I"⟩, 8) := ⟨⟨by decide +kernel, by decide +kernel⟩, List.mem_of_getElem? (i := 289) (by decide +kernel), List.mem_of_getElem? (i := 919) (by decide +kernel), List.mem_of_getElem? (i := 920) (by decide +kernel)⟩
theorem lw_p22 : lw_okq (⟨"GuideWalksLast$Prints", "isFalse", "(II)Z"⟩, 8) := ⟨⟨by decide +kernel, by decide +kernel⟩, List.mem_of_getElem? (i := 289) (by decide +kernel), List.mem_of_getElem? (i := 923) (by decide +kernel), List.mem_of_getElem? (i := 924) (by decide +kernel)⟩
theorem lw_p23 : lw_okq (⟨"GuideWalksLast$Prints", "leastTurn", "(II)I"⟩, 8) := ⟨⟨by decide +kernel, by decide +kernel⟩, List.mem_of_getElem? (i := 289) (by decide +kernel), List.mem_of_getElem? (i := 937) (by decide +kernel), List.mem_of_getElem? (i := 938) (by decide +kernel)⟩
theorem lw_p24 : lw_okq (⟨"GuideWalksLast$Market", "mostBy", "(II)I"⟩, 4) := ⟨⟨by decide +kernel, by decide +kernel⟩, List.mem_of_getElem? (i := 169) (by decide +kernel), List.mem_of_getElem? (i := 971) (by decide +kernel), List.mem_of_getElem? (i := 972) (by decide +kernel)⟩
theorem lw_p25 : lw_okq (⟨"GuideWalksLast$Market", "leastGuide", "(I)I"⟩, 4) := ⟨⟨by decide +kernel, by decide +kernel⟩, List.mem_of_getElem? (i := 169) (by decide +kernel), List.mem_of_getElem? (i := 983) (by decide +kernel), List.mem_of_getElem? (i := 984) (by decide +kernel)⟩
theorem lw_p26 : lw_okq (⟨"java/lang/Throwable", "fillInStackTrace", "(I)Ljava/lang/Throwable;"⟩, 6) := ⟨⟨by decide +kernel, by decide +kernel⟩, List.mem_of_getElem? (i := 1053) (by decide +kernel), List.mem_of_getElem? (i := 1051) (by decide +kernel), List.mem_of_getElem? (i := 1052) (by decide +kernel)⟩
theorem lw_p27 : lw_okq (⟨"GuideWalksLastModel", "clearsTracks", "()I"⟩, 54) := ⟨⟨by decide +kernel, by decide +kernel⟩, List.mem_of_getElem? (i := 1086) (by decide +kernel), List.mem_of_getElem? (i := 1092) (by decide +kernel), List.mem_of_getElem? (i := 1093) (by decide +kernel)⟩
theorem lw_p28 : lw_okq (⟨"GuideWalksLastModel", "begins", "(I)I"⟩, 54) := ⟨⟨by decide +kernel, by decide +kernel⟩, List.mem_of_getElem? (i := 1086) (by decide +kernel), List.mem_of_getElem? (i := 1277) (by decide +kernel), List.mem_of_getElem? (i := 1278) (by decide +kernel)⟩
theorem lw_p29 : lw_okq (⟨"GuideWalksLastModel", "takes", "(I)Z"⟩, 54) := ⟨⟨by decide +kernel, by decide +kernel⟩, List.mem_of_getElem? (i := 1086) (by decide +kernel), List.mem_of_getElem? (i := 1334) (by decide +kernel), List.mem_of_getElem? (i := 1335) (by decide +kernel)⟩
theorem lw_p30 : lw_okq (⟨"GuideWalksLastModel", "begins", "(II)V"⟩, 54) := ⟨⟨by decide +kernel, by decide +kernel⟩, List.mem_of_getElem? (i := 1086) (by decide +kernel), List.mem_of_getElem? (i := 1338) (by decide +kernel), List.mem_of_getElem? (i := 1339) (by decide +kernel)⟩
theorem lw_p31 : lw_okq (⟨"GuideWalksLastModel", "readsThing", "(I)Z"⟩, 54) := ⟨⟨by decide +kernel, by decide +kernel⟩, List.mem_of_getElem? (i := 1086) (by decide +kernel), List.mem_of_getElem? (i := 1347) (by decide +kernel), List.mem_of_getElem? (i := 1348) (by decide +kernel)⟩
def lw_privs_2 : List (MethodName × Nat) := [(⟨"GuideWalksLast", "greedyChance", "(LGuideWalksLast$Fee;I)J"⟩, 19), (⟨"GuideWalksLast$Prints", "cellAt", "(I)I"⟩, 8), (⟨"GuideWalksLast$Prints", "isStepOn", "(II)Z"⟩, 8), (⟨"GuideWalksLast$Prints", "traceOn", "(III)V"⟩, 8), (⟨"GuideWalksLast$Prints", "placeBehind", "(III)I"⟩, 8), (⟨"GuideWalksLast$Prints", "falseCalls", "(III)I"⟩, 8), (⟨"GuideWalksLast$Prints", "isFalse", "(II)Z"⟩, 8), (⟨"GuideWalksLast$Prints", "leastTurn", "(II)I"⟩, 8), (⟨"GuideWalksLast$Market", "mostBy", "(II)I"⟩, 4), (⟨"GuideWalksLast$Market", "leastGuide", "(I)I"⟩, 4), (⟨"java/lang/Throwable", "fillInStackTrace", "(I)Ljava/lang/Throwable;"⟩, 6), (⟨"GuideWalksLastModel", "clearsTracks", "()I"⟩, 54), (⟨"GuideWalksLastModel", "begins", "(I)I"⟩, 54), (⟨"GuideWalksLastModel", "takes", "(I)Z"⟩, 54), (⟨"GuideWalksLastModel", "begins", "(II)V"⟩, 54), (⟨"GuideWalksLastModel", "readsThing", "(I)Z"⟩, 54)]
theorem lw_r2 : ∀ q ∈ lw_privs_2, lw_okq q := List.forall_mem_cons.mpr ⟨lw_p16, List.forall_mem_cons.mpr ⟨lw_p17, List.forall_mem_cons.mpr ⟨lw_p18, List.forall_mem_cons.mpr ⟨lw_p19, List.forall_mem_cons.mpr ⟨lw_p20, List.forall_mem_cons.mpr ⟨lw_p21, List.forall_mem_cons.mpr ⟨lw_p22, List.forall_mem_cons.mpr ⟨lw_p23, List.forall_mem_cons.mpr ⟨lw_p24, List.forall_mem_cons.mpr ⟨lw_p25, List.forall_mem_cons.mpr ⟨lw_p26, List.forall_mem_cons.mpr ⟨lw_p27, List.forall_mem_cons.mpr ⟨lw_p28, List.forall_mem_cons.mpr ⟨lw_p29, List.forall_mem_cons.mpr ⟨lw_p30, List.forall_mem_cons.mpr ⟨lw_p31, fun _ h => absurd h List.not_mem_nil⟩⟩⟩⟩⟩⟩⟩⟩⟩⟩⟩⟩⟩⟩⟩⟩
theorem lw_p32 : lw_okq (⟨"GuideWalksLastModel", "isDigit", "()Z"⟩, 54) := ⟨⟨by decide +kernel, by decide +kernel⟩, List.mem_of_getElem? (i := 1086) (by decide +kernel), List.mem_of_getElem? (i := 1352) (by decide +kernel), List.mem_of_getElem? (i := 1353) (by decide +kernel)⟩
theorem lw_p33 : lw_okq (⟨"GuideWalksLastModel", "faultOf", "(IIZ)I"⟩, 54) := ⟨⟨by decide +kernel, by decide +kernel⟩, List.mem_of_getElem? (i := 1086) (by decide +kernel), List.mem_of_getElem? (i := 1358) (by decide +kernel), List.mem_of_getElem? (i := 1359) (by decide +kernel)⟩
theorem lw_p34 : lw_okq (⟨"GuideWalksLastModel", "isCell", "(I)Z"⟩, 54) := ⟨⟨by decide +kernel, by decide +kernel⟩, List.mem_of_getElem? (i := 1086) (by decide +kernel), List.mem_of_getElem? (i := 1366) (by decide +kernel), List.mem_of_getElem? (i := 1367) (by decide +kernel)⟩
theorem lw_p35 : lw_okq (⟨"GuideWalksLastModel", "cells", "()I"⟩, 54) := ⟨⟨by decide +kernel, by decide +kernel⟩, List.mem_of_getElem? (i := 1086) (by decide +kernel), List.mem_of_getElem? (i := 1370) (by decide +kernel), List.mem_of_getElem? (i := 1371) (by decide +kernel)⟩
theorem lw_p36 : lw_okq (⟨"GuideWalksLastModel", "isEnd", "(I)Z"⟩, 54) := ⟨⟨by decide +kernel, by decide +kernel⟩, List.mem_of_getElem? (i := 1086) (by decide +kernel), List.mem_of_getElem? (i := 1405) (by decide +kernel), List.mem_of_getElem? (i := 1406) (by decide +kernel)⟩
theorem lw_p37 : lw_okq (⟨"GuideWalksLastModel", "putsBy", "()V"⟩, 54) := ⟨⟨by decide +kernel, by decide +kernel⟩, List.mem_of_getElem? (i := 1086) (by decide +kernel), List.mem_of_getElem? (i := 1409) (by decide +kernel), List.mem_of_getElem? (i := 1410) (by decide +kernel)⟩
theorem lw_p38 : lw_okq (⟨"GuideWalksLastModel", "puts", "([II)V"⟩, 54) := ⟨⟨by decide +kernel, by decide +kernel⟩, List.mem_of_getElem? (i := 1086) (by decide +kernel), List.mem_of_getElem? (i := 1413) (by decide +kernel), List.mem_of_getElem? (i := 1414) (by decide +kernel)⟩
theorem lw_p39 : lw_okq (⟨"GuideWalksLastModel", "steps", "(I)I"⟩, 54) := ⟨⟨by decide +kernel, by decide +kernel⟩, List.mem_of_getElem? (i := 1086) (by decide +kernel), List.mem_of_getElem? (i := 1417) (by decide +kernel), List.mem_of_getElem? (i := 1418) (by decide +kernel)⟩
theorem lw_p40 : lw_okq (⟨"GuideWalksLastModel", "cellBy", "(II)I"⟩, 54) := ⟨⟨by decide +kernel, by decide +kernel⟩, List.mem_of_getElem? (i := 1086) (by decide +kernel), List.mem_of_getElem? (i := 1424) (by decide +kernel), List.mem_of_getElem? (i := 1425) (by decide +kernel)⟩
theorem lw_p41 : lw_okq (⟨"GuideWalksLastModel", "turnByWeights", "()I"⟩, 54) := ⟨⟨by decide +kernel, by decide +kernel⟩, List.mem_of_getElem? (i := 1086) (by decide +kernel), List.mem_of_getElem? (i := 1432) (by decide +kernel), List.mem_of_getElem? (i := 1433) (by decide +kernel)⟩
theorem lw_p42 : lw_okq (⟨"GuideWalksLastModel", "draws", "(I)I"⟩, 54) := ⟨⟨by decide +kernel, by decide +kernel⟩, List.mem_of_getElem? (i := 1086) (by decide +kernel), List.mem_of_getElem? (i := 1436) (by decide +kernel), List.mem_of_getElem? (i := 1437) (by decide +kernel)⟩
theorem lw_p43 : lw_okq (⟨"GuideWalksLastModel", "enters", "(J)V"⟩, 54) := ⟨⟨by decide +kernel, by decide +kernel⟩, List.mem_of_getElem? (i := 1086) (by decide +kernel), List.mem_of_getElem? (i := 1441) (by decide +kernel), List.mem_of_getElem? (i := 1442) (by decide +kernel)⟩
theorem lw_p44 : lw_okq (⟨"GuideWalksLastModel", "takesBack", "([II)V"⟩, 54) := ⟨⟨by decide +kernel, by decide +kernel⟩, List.mem_of_getElem? (i := 1086) (by decide +kernel), List.mem_of_getElem? (i := 1453) (by decide +kernel), List.mem_of_getElem? (i := 1454) (by decide +kernel)⟩
theorem lw_p45 : lw_okq (⟨"GuideWalksLastModel", "measures", "()V"⟩, 54) := ⟨⟨by decide +kernel, by decide +kernel⟩, List.mem_of_getElem? (i := 1086) (by decide +kernel), List.mem_of_getElem? (i := 1469) (by decide +kernel), List.mem_of_getElem? (i := 1470) (by decide +kernel)⟩
theorem lw_p46 : lw_okq (⟨"GuideWalksLastModel", "farBehind", "(III)I"⟩, 54) := ⟨⟨by decide +kernel, by decide +kernel⟩, List.mem_of_getElem? (i := 1086) (by decide +kernel), List.mem_of_getElem? (i := 1474) (by decide +kernel), List.mem_of_getElem? (i := 1475) (by decide +kernel)⟩
theorem lw_p47 : lw_okq (⟨"GuideWalksLastModel", "seesHere", "()V"⟩, 54) := ⟨⟨by decide +kernel, by decide +kernel⟩, List.mem_of_getElem? (i := 1086) (by decide +kernel), List.mem_of_getElem? (i := 1482) (by decide +kernel), List.mem_of_getElem? (i := 1483) (by decide +kernel)⟩
def lw_privs_3 : List (MethodName × Nat) := [(⟨"GuideWalksLastModel", "isDigit", "()Z"⟩, 54), (⟨"GuideWalksLastModel", "faultOf", "(IIZ)I"⟩, 54), (⟨"GuideWalksLastModel", "isCell", "(I)Z"⟩, 54), (⟨"GuideWalksLastModel", "cells", "()I"⟩, 54), (⟨"GuideWalksLastModel", "isEnd", "(I)Z"⟩, 54), (⟨"GuideWalksLastModel", "putsBy", "()V"⟩, 54), (⟨"GuideWalksLastModel", "puts", "([II)V"⟩, 54), (⟨"GuideWalksLastModel", "steps", "(I)I"⟩, 54), (⟨"GuideWalksLastModel", "cellBy", "(II)I"⟩, 54), (⟨"GuideWalksLastModel", "turnByWeights", "()I"⟩, 54), (⟨"GuideWalksLastModel", "draws", "(I)I"⟩, 54), (⟨"GuideWalksLastModel", "enters", "(J)V"⟩, 54), (⟨"GuideWalksLastModel", "takesBack", "([II)V"⟩, 54), (⟨"GuideWalksLastModel", "measures", "()V"⟩, 54), (⟨"GuideWalksLastModel", "farBehind", "(III)I"⟩, 54), (⟨"GuideWalksLastModel", "seesHere", "()V"⟩, 54)]
theorem lw_r3 : ∀ q ∈ lw_privs_3, lw_okq q := List.forall_mem_cons.mpr ⟨lw_p32, List.forall_mem_cons.mpr ⟨lw_p33, List.forall_mem_cons.mpr ⟨lw_p34, List.forall_mem_cons.mpr ⟨lw_p35, List.forall_mem_cons.mpr ⟨lw_p36, List.forall_mem_cons.mpr ⟨lw_p37, List.forall_mem_cons.mpr ⟨lw_p38, List.forall_mem_cons.mpr ⟨lw_p39, List.forall_mem_cons.mpr ⟨lw_p40, List.forall_mem_cons.mpr ⟨lw_p41, List.forall_mem_cons.mpr ⟨lw_p42, List.forall_mem_cons.mpr ⟨lw_p43, List.forall_mem_cons.mpr ⟨lw_p44, List.forall_mem_cons.mpr ⟨lw_p45, List.forall_mem_cons.mpr ⟨lw_p46, List.forall_mem_cons.mpr ⟨lw_p47, fun _ h => absurd h List.not_mem_nil⟩⟩⟩⟩⟩⟩⟩⟩⟩⟩⟩⟩⟩⟩⟩⟩
theorem lw_p48 : lw_okq (⟨"GuideWalksLastModel", "spreads", "(Z)Z"⟩, 54) := ⟨⟨by decide +kernel, by decide +kernel⟩, List.mem_of_getElem? (i := 1086) (by decide +kernel), List.mem_of_getElem? (i := 1486) (by decide +kernel), List.mem_of_getElem? (i := 1487) (by decide +kernel)⟩
theorem lw_p49 : lw_okq (⟨"GuideWalksLastModel", "tellsSeen", "(Z)I"⟩, 54) := ⟨⟨by decide +kernel, by decide +kernel⟩, List.mem_of_getElem? (i := 1086) (by decide +kernel), List.mem_of_getElem? (i := 1490) (by decide +kernel), List.mem_of_getElem? (i := 1491) (by decide +kernel)⟩
theorem lw_p50 : lw_okq (⟨"GuideWalksLastModel", "works", "(IZZ)V"⟩, 54) := ⟨⟨by decide +kernel, by decide +kernel⟩, List.mem_of_getElem? (i := 1086) (by decide +kernel), List.mem_of_getElem? (i := 1502) (by decide +kernel), List.mem_of_getElem? (i := 1503) (by decide +kernel)⟩
theorem lw_p51 : lw_okq (⟨"GuideWalksLastModel", "laysOut", "(Z)V"⟩, 54) := ⟨⟨by decide +kernel, by decide +kernel⟩, List.mem_of_getElem? (i := 1086) (by decide +kernel), List.mem_of_getElem? (i := 1506) (by decide +kernel), List.mem_of_getElem? (i := 1507) (by decide +kernel)⟩
theorem lw_p52 : lw_okq (⟨"GuideWalksLastModel", "stateOf", "(III)I"⟩, 54) := ⟨⟨by decide +kernel, by decide +kernel⟩, List.mem_of_getElem? (i := 1086) (by decide +kernel), List.mem_of_getElem? (i := 1510) (by decide +kernel), List.mem_of_getElem? (i := 1511) (by decide +kernel)⟩
theorem lw_p53 : lw_okq (⟨"GuideWalksLastModel", "goesBack", "(Z)V"⟩, 54) := ⟨⟨by decide +kernel, by decide +kernel⟩, List.mem_of_getElem? (i := 1086) (by decide +kernel), List.mem_of_getElem? (i := 1514) (by decide +kernel), List.mem_of_getElem? (i := 1515) (by decide +kernel)⟩
theorem lw_p54 : lw_okq (⟨"GuideWalksLastModel", "comesOf", "(IIII[J)J"⟩, 54) := ⟨⟨by decide +kernel, by decide +kernel⟩, List.mem_of_getElem? (i := 1086) (by decide +kernel), List.mem_of_getElem? (i := 1519) (by decide +kernel), List.mem_of_getElem? (i := 1520) (by decide +kernel)⟩
theorem lw_p55 : lw_okq (⟨"GuideWalksLastModel", "partOf", "(II)I"⟩, 54) := ⟨⟨by decide +kernel, by decide +kernel⟩, List.mem_of_getElem? (i := 1086) (by decide +kernel), List.mem_of_getElem? (i := 1523) (by decide +kernel), List.mem_of_getElem? (i := 1524) (by decide +kernel)⟩
theorem lw_p56 : lw_okq (⟨"GuideWalksLastModel", "chanceNow", "(I)J"⟩, 54) := ⟨⟨by decide +kernel, by decide +kernel⟩, List.mem_of_getElem? (i := 1086) (by decide +kernel), List.mem_of_getElem? (i := 1530) (by decide +kernel), List.mem_of_getElem? (i := 1531) (by decide +kernel)⟩
theorem lw_p57 : lw_okq (⟨"GuideWalksLastModel", "entersFraction", "(JJ)V"⟩, 54) := ⟨⟨by decide +kernel, by decide +kernel⟩, List.mem_of_getElem? (i := 1086) (by decide +kernel), List.mem_of_getElem? (i := 1537) (by decide +kernel), List.mem_of_getElem? (i := 1538) (by decide +kernel)⟩
theorem lw_p58 : lw_okq (⟨"GuideWalksLastModel", "massOn", "(I)J"⟩, 54) := ⟨⟨by decide +kernel, by decide +kernel⟩, List.mem_of_getElem? (i := 1086) (by decide +kernel), List.mem_of_getElem? (i := 1571) (by decide +kernel), List.mem_of_getElem? (i := 1572) (by decide +kernel)⟩
theorem lw_p59 : lw_okq (⟨"GuideWalksLastModel", "goesOn", "()V"⟩, 54) := ⟨⟨by decide +kernel, by decide +kernel⟩, List.mem_of_getElem? (i := 1086) (by decide +kernel), List.mem_of_getElem? (i := 1575) (by decide +kernel), List.mem_of_getElem? (i := 1576) (by decide +kernel)⟩
theorem lw_p60 : lw_okq (⟨"GuideWalksLastModel", "wants", "([II)V"⟩, 54) := ⟨⟨by decide +kernel, by decide +kernel⟩, List.mem_of_getElem? (i := 1086) (by decide +kernel), List.mem_of_getElem? (i := 1595) (by decide +kernel), List.mem_of_getElem? (i := 1596) (by decide +kernel)⟩
theorem lw_p61 : lw_okq (⟨"GuideWalksLastModel", "wantsBack", "([IJ)V"⟩, 54) := ⟨⟨by decide +kernel, by decide +kernel⟩, List.mem_of_getElem? (i := 1086) (by decide +kernel), List.mem_of_getElem? (i := 1599) (by decide +kernel), List.mem_of_getElem? (i := 1600) (by decide +kernel)⟩
theorem lw_p62 : lw_okq (⟨"GuideWalksLastModel", "wantsAt", "([IJIII)V"⟩, 54) := ⟨⟨by decide +kernel, by decide +kernel⟩, List.mem_of_getElem? (i := 1086) (by decide +kernel), List.mem_of_getElem? (i := 1603) (by decide +kernel), List.mem_of_getElem? (i := 1604) (by decide +kernel)⟩
theorem lw_p63 : lw_okq (⟨"GuideWalksLastModel", "followed", "(I)I"⟩, 54) := ⟨⟨by decide +kernel, by decide +kernel⟩, List.mem_of_getElem? (i := 1086) (by decide +kernel), List.mem_of_getElem? (i := 1631) (by decide +kernel), List.mem_of_getElem? (i := 1632) (by decide +kernel)⟩
def lw_privs_4 : List (MethodName × Nat) := [(⟨"GuideWalksLastModel", "spreads", "(Z)Z"⟩, 54), (⟨"GuideWalksLastModel", "tellsSeen", "(Z)I"⟩, 54), (⟨"GuideWalksLastModel", "works", "(IZZ)V"⟩, 54), (⟨"GuideWalksLastModel", "laysOut", "(Z)V"⟩, 54), (⟨"GuideWalksLastModel", "stateOf", "(III)I"⟩, 54), (⟨"GuideWalksLastModel", "goesBack", "(Z)V"⟩, 54), (⟨"GuideWalksLastModel", "comesOf", "(IIII[J)J"⟩, 54), (⟨"GuideWalksLastModel", "partOf", "(II)I"⟩, 54), (⟨"GuideWalksLastModel", "chanceNow", "(I)J"⟩, 54), (⟨"GuideWalksLastModel", "entersFraction", "(JJ)V"⟩, 54), (⟨"GuideWalksLastModel", "massOn", "(I)J"⟩, 54), (⟨"GuideWalksLastModel", "goesOn", "()V"⟩, 54), (⟨"GuideWalksLastModel", "wants", "([II)V"⟩, 54), (⟨"GuideWalksLastModel", "wantsBack", "([IJ)V"⟩, 54), (⟨"GuideWalksLastModel", "wantsAt", "([IJIII)V"⟩, 54), (⟨"GuideWalksLastModel", "followed", "(I)I"⟩, 54)]
theorem lw_r4 : ∀ q ∈ lw_privs_4, lw_okq q := List.forall_mem_cons.mpr ⟨lw_p48, List.forall_mem_cons.mpr ⟨lw_p49, List.forall_mem_cons.mpr ⟨lw_p50, List.forall_mem_cons.mpr ⟨lw_p51, List.forall_mem_cons.mpr ⟨lw_p52, List.forall_mem_cons.mpr ⟨lw_p53, List.forall_mem_cons.mpr ⟨lw_p54, List.forall_mem_cons.mpr ⟨lw_p55, List.forall_mem_cons.mpr ⟨lw_p56, List.forall_mem_cons.mpr ⟨lw_p57, List.forall_mem_cons.mpr ⟨lw_p58, List.forall_mem_cons.mpr ⟨lw_p59, List.forall_mem_cons.mpr ⟨lw_p60, List.forall_mem_cons.mpr ⟨lw_p61, List.forall_mem_cons.mpr ⟨lw_p62, List.forall_mem_cons.mpr ⟨lw_p63, fun _ h => absurd h List.not_mem_nil⟩⟩⟩⟩⟩⟩⟩⟩⟩⟩⟩⟩⟩⟩⟩⟩
theorem lw_p64 : lw_okq (⟨"GuideWalksLastModel", "chooses", "(III)V"⟩, 54) := ⟨⟨by decide +kernel, by decide +kernel⟩, List.mem_of_getElem? (i := 1086) (by decide +kernel), List.mem_of_getElem? (i := 1643) (by decide +kernel), List.mem_of_getElem? (i := 1644) (by decide +kernel)⟩
theorem lw_p65 : lw_okq (⟨"GuideWalksLastModel", "isBeside", "(II)Z"⟩, 54) := ⟨⟨by decide +kernel, by decide +kernel⟩, List.mem_of_getElem? (i := 1086) (by decide +kernel), List.mem_of_getElem? (i := 1667) (by decide +kernel), List.mem_of_getElem? (i := 1668) (by decide +kernel)⟩
theorem lw_p66 : lw_okq (⟨"GuideWalksLastModel", "looksBack", "()V"⟩, 54) := ⟨⟨by decide +kernel, by decide +kernel⟩, List.mem_of_getElem? (i := 1086) (by decide +kernel), List.mem_of_getElem? (i := 1683) (by decide +kernel), List.mem_of_getElem? (i := 1684) (by decide +kernel)⟩
theorem lw_p67 : lw_okq (⟨"GuideWalksLastModel", "leads", "(III)Z"⟩, 54) := ⟨⟨by decide +kernel, by decide +kernel⟩, List.mem_of_getElem? (i := 1086) (by decide +kernel), List.mem_of_getElem? (i := 1687) (by decide +kernel), List.mem_of_getElem? (i := 1688) (by decide +kernel)⟩
theorem lw_p68 : lw_okq (⟨"GuideWalksLastModel", "isLie", "(III)Z"⟩, 54) := ⟨⟨by decide +kernel, by decide +kernel⟩, List.mem_of_getElem? (i := 1086) (by decide +kernel), List.mem_of_getElem? (i := 1691) (by decide +kernel), List.mem_of_getElem? (i := 1692) (by decide +kernel)⟩
theorem lw_p69 : lw_okq (⟨"GuideWalksLastModel", "hiresBy", "(II)I"⟩, 54) := ⟨⟨by decide +kernel, by decide +kernel⟩, List.mem_of_getElem? (i := 1086) (by decide +kernel), List.mem_of_getElem? (i := 1709) (by decide +kernel), List.mem_of_getElem? (i := 1710) (by decide +kernel)⟩
theorem lw_p70 : lw_okq (⟨"GuideWalksLastModel", "hires", "(IIIII)V"⟩, 54) := ⟨⟨by decide +kernel, by decide +kernel⟩, List.mem_of_getElem? (i := 1086) (by decide +kernel), List.mem_of_getElem? (i := 1713) (by decide +kernel), List.mem_of_getElem? (i := 1714) (by decide +kernel)⟩
theorem lw_p71 : lw_okq (⟨"GuideWalksLastModel", "refuse", "()J"⟩, 54) := ⟨⟨by decide +kernel, by decide +kernel⟩, List.mem_of_getElem? (i := 1086) (by decide +kernel), List.mem_of_getElem? (i := 1741) (by decide +kernel), List.mem_of_getElem? (i := 1742) (by decide +kernel)⟩
def lw_privs_5 : List (MethodName × Nat) := [(⟨"GuideWalksLastModel", "chooses", "(III)V"⟩, 54), (⟨"GuideWalksLastModel", "isBeside", "(II)Z"⟩, 54), (⟨"GuideWalksLastModel", "looksBack", "()V"⟩, 54), (⟨"GuideWalksLastModel", "leads", "(III)Z"⟩, 54), (⟨"GuideWalksLastModel", "isLie", "(III)Z"⟩, 54), (⟨"GuideWalksLastModel", "hiresBy", "(II)I"⟩, 54), (⟨"GuideWalksLastModel", "hires", "(IIIII)V"⟩, 54), (⟨"GuideWalksLastModel", "refuse", "()J"⟩, 54)]
theorem lw_r5 : ∀ q ∈ lw_privs_5, lw_okq q := List.forall_mem_cons.mpr ⟨lw_p64, List.forall_mem_cons.mpr ⟨lw_p65, List.forall_mem_cons.mpr ⟨lw_p66, List.forall_mem_cons.mpr ⟨lw_p67, List.forall_mem_cons.mpr ⟨lw_p68, List.forall_mem_cons.mpr ⟨lw_p69, List.forall_mem_cons.mpr ⟨lw_p70, List.forall_mem_cons.mpr ⟨lw_p71, fun _ h => absurd h List.not_mem_nil⟩⟩⟩⟩⟩⟩⟩⟩
def lw_privs : List (MethodName × Nat) := lw_privs_1 ++ (lw_privs_2 ++ (lw_privs_3 ++ (lw_privs_4 ++ (lw_privs_5))))
def lw_tbl : List Cond := k2_sels lw_privs ++ tables_1
theorem lw_privs_ok : ∀ q ∈ lw_privs, lw_okq q := by
  show ∀ q ∈ lw_privs_1 ++ (lw_privs_2 ++ (lw_privs_3 ++ (lw_privs_4 ++ (lw_privs_5)))), lw_okq q
  exact List.forall_mem_append.mpr ⟨lw_r1, List.forall_mem_append.mpr ⟨lw_r2, List.forall_mem_append.mpr ⟨lw_r3, List.forall_mem_append.mpr ⟨lw_r4, lw_r5⟩⟩⟩⟩

def R0 : String := "GuideWalksLast$Fee"
def T0 : u_T := fun k => match k with
  | 0 => ("GuideWalksLast$Fee", "plain", "I", false)
  | 1 => ("GuideWalksLast$Fee", "home", "I", false)
  | 2 => ("GuideWalksLast$Fee", "sunk", "I", false)
  | 3 => ("GuideWalksLast$Fee", "steps", "I", false)
  | 4 => ("GuideWalksLast$Fee", "asks", "I", false)
  | _ => ("GuideWalksLast$Fee", "spot", "I", false)
def ty0 : Nat → FieldType := fun k => match k with
  | 0 => .int
  | 1 => .int
  | 2 => .int
  | 3 => .int
  | 4 => .int
  | _ => .int
theorem nm0 : ∀ a, a < 6 → ∀ b, b < 6 → a ≠ b → (T0 a).2.1 ≠ (T0 b).2.1 := by decide +kernel
theorem tyk0 : ∀ k, k < 6 → parseFieldDescriptor (T0 k).2.2.1 = some (ty0 k) := by decide +kernel
theorem dcl0 : ∀ k, k < 6 → (T0 k).1 = R0 := by decide +kernel
def R1 : String := "GuideWalksLast$Guide"
def T1 : u_T := fun k => match k with
  | 0 => ("GuideWalksLast$Guide", "land", "LGuideWalksLast$Land;", true)
  | 1 => ("GuideWalksLast$Guide", "weight", "[I", true)
  | 2 => ("GuideWalksLast$Guide", "spread", "LGuideWalksLast$Spread;", true)
  | 3 => ("GuideWalksLast$Guide", "pays", "[J", false)
  | 4 => ("GuideWalksLast$Guide", "paysBehind", "[J", false)
  | 5 => ("GuideWalksLast$Guide", "lucks", "[J", false)
  | 6 => ("GuideWalksLast$Guide", "lucksBehind", "[J", false)
  | 7 => ("GuideWalksLast$Guide", "fee", "LGuideWalksLast$Fee;", false)
  | 8 => ("GuideWalksLast$Guide", "heard", "I", false)
  | 9 => ("GuideWalksLast$Guide", "length", "I", false)
  | 10 => ("GuideWalksLast$Guide", "start", "I", false)
  | _ => ("GuideWalksLast$Guide", "choice", "I", false)
def ty1 : Nat → FieldType := fun k => match k with
  | 0 => (.object "GuideWalksLast$Land")
  | 1 => (.array .int)
  | 2 => (.object "GuideWalksLast$Spread")
  | 3 => (.array .long)
  | 4 => (.array .long)
  | 5 => (.array .long)
  | 6 => (.array .long)
  | 7 => (.object "GuideWalksLast$Fee")
  | 8 => .int
  | 9 => .int
  | 10 => .int
  | _ => .int
theorem nm1 : ∀ a, a < 12 → ∀ b, b < 12 → a ≠ b → (T1 a).2.1 ≠ (T1 b).2.1 := by decide +kernel
theorem tyk1 : ∀ k, k < 12 → parseFieldDescriptor (T1 k).2.2.1 = some (ty1 k) := by decide +kernel
theorem dcl1 : ∀ k, k < 12 → (T1 k).1 = R1 := by decide +kernel
def R2 : String := "GuideWalksLast$Land"
def T2 : u_T := fun k => match k with
  | 0 => ("GuideWalksLast$Land", "wide", "I", false)
  | 1 => ("GuideWalksLast$Land", "high", "I", false)
  | 2 => ("GuideWalksLast$Land", "kinds", "[I", true)
  | 3 => ("GuideWalksLast$Land", "ahead", "[I", true)
  | 4 => ("GuideWalksLast$Land", "homeward", "[I", true)
  | _ => ("GuideWalksLast$Land", "isMeasured", "Z", false)
def ty2 : Nat → FieldType := fun k => match k with
  | 0 => .int
  | 1 => .int
  | 2 => (.array .int)
  | 3 => (.array .int)
  | 4 => (.array .int)
  | _ => .boolean
theorem nm2 : ∀ a, a < 6 → ∀ b, b < 6 → a ≠ b → (T2 a).2.1 ≠ (T2 b).2.1 := by decide +kernel
theorem tyk2 : ∀ k, k < 6 → parseFieldDescriptor (T2 k).2.2.1 = some (ty2 k) := by decide +kernel
theorem dcl2 : ∀ k, k < 6 → (T2 k).1 = R2 := by decide +kernel
def R3 : String := "GuideWalksLast$Market"
def T3 : u_T := fun k => match k with
  | 0 => ("GuideWalksLast$Market", "worths", "[I", true)
  | 1 => ("GuideWalksLast$Market", "mosts", "[I", true)
  | 2 => ("GuideWalksLast$Market", "parties", "I", false)
  | _ => ("GuideWalksLast$Market", "mute", "I", false)
def ty3 : Nat → FieldType := fun k => match k with
  | 0 => (.array .int)
  | 1 => (.array .int)
  | 2 => .int
  | _ => .int
theorem nm3 : ∀ a, a < 4 → ∀ b, b < 4 → a ≠ b → (T3 a).2.1 ≠ (T3 b).2.1 := by decide +kernel
theorem tyk3 : ∀ k, k < 4 → parseFieldDescriptor (T3 k).2.2.1 = some (ty3 k) := by decide +kernel
theorem dcl3 : ∀ k, k < 4 → (T3 k).1 = R3 := by decide +kernel
def R4 : String := "GuideWalksLast$Numbers"
def T4 : u_T := fun k => match k with
  | 0 => ("GuideWalksLast$Numbers", "numbers", "[J", true)
  | _ => ("GuideWalksLast$Numbers", "size", "I", false)
def ty4 : Nat → FieldType := fun k => match k with
  | 0 => (.array .long)
  | _ => .int
theorem nm4 : ∀ a, a < 2 → ∀ b, b < 2 → a ≠ b → (T4 a).2.1 ≠ (T4 b).2.1 := by decide +kernel
theorem tyk4 : ∀ k, k < 2 → parseFieldDescriptor (T4 k).2.2.1 = some (ty4 k) := by decide +kernel
theorem dcl4 : ∀ k, k < 2 → (T4 k).1 = R4 := by decide +kernel
def R5 : String := "GuideWalksLast$Party"
def T5 : u_T := fun k => match k with
  | 0 => ("GuideWalksLast$Party", "where", "I", false)
  | 1 => ("GuideWalksLast$Party", "heading", "I", false)
  | 2 => ("GuideWalksLast$Party", "voice", "I", false)
  | 3 => ("GuideWalksLast$Party", "random", "I", false)
  | 4 => ("GuideWalksLast$Party", "steps", "I", false)
  | 5 => ("GuideWalksLast$Party", "asks", "I", false)
  | _ => ("GuideWalksLast$Party", "tracks", "[I", true)
def ty5 : Nat → FieldType := fun k => match k with
  | 0 => .int
  | 1 => .int
  | 2 => .int
  | 3 => .int
  | 4 => .int
  | 5 => .int
  | _ => (.array .int)
theorem nm5 : ∀ a, a < 7 → ∀ b, b < 7 → a ≠ b → (T5 a).2.1 ≠ (T5 b).2.1 := by decide +kernel
theorem tyk5 : ∀ k, k < 7 → parseFieldDescriptor (T5 k).2.2.1 = some (ty5 k) := by decide +kernel
theorem dcl5 : ∀ k, k < 7 → (T5 k).1 = R5 := by decide +kernel
def R6 : String := "GuideWalksLast$Past"
def T6 : u_T := fun k => match k with
  | 0 => ("GuideWalksLast$Past", "ring", "[LGuideWalksLast$Party;", true)
  | 1 => ("GuideWalksLast$Past", "next", "I", false)
  | _ => ("GuideWalksLast$Past", "size", "I", false)
def ty6 : Nat → FieldType := fun k => match k with
  | 0 => (.array (.object "GuideWalksLast$Party"))
  | 1 => .int
  | _ => .int
theorem nm6 : ∀ a, a < 3 → ∀ b, b < 3 → a ≠ b → (T6 a).2.1 ≠ (T6 b).2.1 := by decide +kernel
theorem tyk6 : ∀ k, k < 3 → parseFieldDescriptor (T6 k).2.2.1 = some (ty6 k) := by decide +kernel
theorem dcl6 : ∀ k, k < 3 → (T6 k).1 = R6 := by decide +kernel
def R7 : String := "GuideWalksLast$Prints"
def T7 : u_T := fun k => match k with
  | 0 => ("GuideWalksLast$Prints", "land", "LGuideWalksLast$Land;", true)
  | 1 => ("GuideWalksLast$Prints", "weight", "[I", true)
  | 2 => ("GuideWalksLast$Prints", "cells", "[I", true)
  | 3 => ("GuideWalksLast$Prints", "many", "[J", true)
  | 4 => ("GuideWalksLast$Prints", "falsest", "[I", true)
  | 5 => ("GuideWalksLast$Prints", "heading", "I", false)
  | 6 => ("GuideWalksLast$Prints", "size", "I", false)
  | _ => ("GuideWalksLast$Prints", "isJudged", "Z", false)
def ty7 : Nat → FieldType := fun k => match k with
  | 0 => (.object "GuideWalksLast$Land")
  | 1 => (.array .int)
  | 2 => (.array .int)
  | 3 => (.array .long)
  | 4 => (.array .int)
  | 5 => .int
  | 6 => .int
  | _ => .boolean
theorem nm7 : ∀ a, a < 8 → ∀ b, b < 8 → a ≠ b → (T7 a).2.1 ≠ (T7 b).2.1 := by decide +kernel
theorem tyk7 : ∀ k, k < 8 → parseFieldDescriptor (T7 k).2.2.1 = some (ty7 k) := by decide +kernel
theorem dcl7 : ∀ k, k < 8 → (T7 k).1 = R7 := by decide +kernel
def R8 : String := "GuideWalksLast$Signs"
def T8 : u_T := fun k => match k with
  | 0 => ("GuideWalksLast$Signs", "signs", "[I", true)
  | _ => ("GuideWalksLast$Signs", "size", "I", false)
def ty8 : Nat → FieldType := fun k => match k with
  | 0 => (.array .int)
  | _ => .int
theorem nm8 : ∀ a, a < 2 → ∀ b, b < 2 → a ≠ b → (T8 a).2.1 ≠ (T8 b).2.1 := by decide +kernel
theorem tyk8 : ∀ k, k < 2 → parseFieldDescriptor (T8 k).2.2.1 = some (ty8 k) := by decide +kernel
theorem dcl8 : ∀ k, k < 2 → (T8 k).1 = R8 := by decide +kernel
def R9 : String := "GuideWalksLast$Spread"
def T9 : u_T := fun k => match k with
  | 0 => ("GuideWalksLast$Spread", "order", "[I", true)
  | 1 => ("GuideWalksLast$Spread", "depth", "[I", true)
  | _ => ("GuideWalksLast$Spread", "size", "I", false)
def ty9 : Nat → FieldType := fun k => match k with
  | 0 => (.array .int)
  | 1 => (.array .int)
  | _ => .int
theorem nm9 : ∀ a, a < 3 → ∀ b, b < 3 → a ≠ b → (T9 a).2.1 ≠ (T9 b).2.1 := by decide +kernel
theorem tyk9 : ∀ k, k < 3 → parseFieldDescriptor (T9 k).2.2.1 = some (ty9 k) := by decide +kernel
theorem dcl9 : ∀ k, k < 3 → (T9 k).1 = R9 := by decide +kernel
def R10 : String := "GuideWalksLast$Trail"
def T10 : u_T := fun k => match k with
  | 0 => ("GuideWalksLast$Trail", "land", "LGuideWalksLast$Land;", true)
  | 1 => ("GuideWalksLast$Trail", "party", "LGuideWalksLast$Party;", true)
  | 2 => ("GuideWalksLast$Trail", "last", "I", false)
  | 3 => ("GuideWalksLast$Trail", "steps", "I", false)
  | _ => ("GuideWalksLast$Trail", "isRound", "Z", false)
def ty10 : Nat → FieldType := fun k => match k with
  | 0 => (.object "GuideWalksLast$Land")
  | 1 => (.object "GuideWalksLast$Party")
  | 2 => .int
  | 3 => .int
  | _ => .boolean
theorem nm10 : ∀ a, a < 5 → ∀ b, b < 5 → a ≠ b → (T10 a).2.1 ≠ (T10 b).2.1 := by decide +kernel
theorem tyk10 : ∀ k, k < 5 → parseFieldDescriptor (T10 k).2.2.1 = some (ty10 k) := by decide +kernel
theorem dcl10 : ∀ k, k < 5 → (T10 k).1 = R10 := by decide +kernel
def R11 : String := "GuideWalksLast"
def T11 : u_T := fun k => match k with
  | 0 => ("GuideWalksLast", "text", "LGuideWalksLast$Signs;", true)
  | 1 => ("GuideWalksLast", "told", "LGuideWalksLast$Numbers;", true)
  | 2 => ("GuideWalksLast", "land", "LGuideWalksLast$Land;", true)
  | 3 => ("GuideWalksLast", "party", "LGuideWalksLast$Party;", true)
  | 4 => ("GuideWalksLast", "past", "LGuideWalksLast$Past;", true)
  | 5 => ("GuideWalksLast", "weight", "[I", true)
  | 6 => ("GuideWalksLast", "heard", "I", false)
  | 7 => ("GuideWalksLast", "pay", "LGuideWalksLast$Fee;", true)
  | 8 => ("GuideWalksLast", "draft", "LGuideWalksLast$Fee;", true)
  | 9 => ("GuideWalksLast", "aim", "LGuideWalksLast$Fee;", true)
  | 10 => ("GuideWalksLast", "laid", "[LGuideWalksLast$Fee;", true)
  | 11 => ("GuideWalksLast", "isLaid", "[Z", true)
  | 12 => ("GuideWalksLast", "kept", "[LGuideWalksLast$Party;", true)
  | 13 => ("GuideWalksLast", "keptKind", "[I", true)
  | 14 => ("GuideWalksLast", "guide", "LGuideWalksLast$Guide;", true)
  | 15 => ("GuideWalksLast", "spread", "LGuideWalksLast$Spread;", true)
  | 16 => ("GuideWalksLast", "trail", "LGuideWalksLast$Trail;", true)
  | 17 => ("GuideWalksLast", "prints", "LGuideWalksLast$Prints;", true)
  | _ => ("GuideWalksLast", "market", "LGuideWalksLast$Market;", true)
def ty11 : Nat → FieldType := fun k => match k with
  | 0 => (.object "GuideWalksLast$Signs")
  | 1 => (.object "GuideWalksLast$Numbers")
  | 2 => (.object "GuideWalksLast$Land")
  | 3 => (.object "GuideWalksLast$Party")
  | 4 => (.object "GuideWalksLast$Past")
  | 5 => (.array .int)
  | 6 => .int
  | 7 => (.object "GuideWalksLast$Fee")
  | 8 => (.object "GuideWalksLast$Fee")
  | 9 => (.object "GuideWalksLast$Fee")
  | 10 => (.array (.object "GuideWalksLast$Fee"))
  | 11 => (.array .boolean)
  | 12 => (.array (.object "GuideWalksLast$Party"))
  | 13 => (.array .int)
  | 14 => (.object "GuideWalksLast$Guide")
  | 15 => (.object "GuideWalksLast$Spread")
  | 16 => (.object "GuideWalksLast$Trail")
  | 17 => (.object "GuideWalksLast$Prints")
  | _ => (.object "GuideWalksLast$Market")
theorem nm11 : ∀ a, a < 19 → ∀ b, b < 19 → a ≠ b → (T11 a).2.1 ≠ (T11 b).2.1 := by decide +kernel
theorem tyk11 : ∀ k, k < 19 → parseFieldDescriptor (T11 k).2.2.1 = some (ty11 k) := by decide +kernel
theorem dcl11 : ∀ k, k < 19 → (T11 k).1 = R11 := by decide +kernel
def R12 : String := "GuideWalksLastModel"
def T12 : u_T := fun k => match k with
  | 0 => ("GuideWalksLastModel", "thrown", "I", false)
  | 1 => ("GuideWalksLastModel", "rowLong", "I", false)
  | 2 => ("GuideWalksLastModel", "row", "[J", true)
  | 3 => ("GuideWalksLastModel", "wide", "I", false)
  | 4 => ("GuideWalksLastModel", "high", "I", false)
  | 5 => ("GuideWalksLastModel", "kind", "[I", true)
  | 6 => ("GuideWalksLastModel", "moors", "I", false)
  | 7 => ("GuideWalksLastModel", "here", "I", false)
  | 8 => ("GuideWalksLastModel", "heading", "I", false)
  | 9 => ("GuideWalksLastModel", "weight", "[I", true)
  | 10 => ("GuideWalksLastModel", "voice", "I", false)
  | 11 => ("GuideWalksLastModel", "heardTenths", "I", false)
  | 12 => ("GuideWalksLastModel", "random", "I", false)
  | 13 => ("GuideWalksLastModel", "stepsDone", "I", false)
  | 14 => ("GuideWalksLastModel", "asked", "I", false)
  | 15 => ("GuideWalksLastModel", "tracks", "[I", true)
  | 16 => ("GuideWalksLastModel", "tape", "[I", true)
  | 17 => ("GuideWalksLastModel", "taped", "I", false)
  | 18 => ("GuideWalksLastModel", "at", "I", false)
  | 19 => ("GuideWalksLastModel", "to", "I", false)
  | 20 => ("GuideWalksLastModel", "readKind", "[I", true)
  | 21 => ("GuideWalksLastModel", "fee", "[I", true)
  | 22 => ("GuideWalksLastModel", "readFee", "[I", true)
  | 23 => ("GuideWalksLastModel", "undos", "I", false)
  | 24 => ("GuideWalksLastModel", "undone", "[I", true)
  | 25 => ("GuideWalksLastModel", "far", "[I", true)
  | 26 => ("GuideWalksLastModel", "seen", "[Z", true)
  | 27 => ("GuideWalksLastModel", "seenThen", "[Z", true)
  | 28 => ("GuideWalksLastModel", "chance", "[J", true)
  | 29 => ("GuideWalksLastModel", "chanceThen", "[J", true)
  | 30 => ("GuideWalksLastModel", "mass", "[J", true)
  | 31 => ("GuideWalksLastModel", "massThen", "[J", true)
  | 32 => ("GuideWalksLastModel", "gain", "[J", true)
  | 33 => ("GuideWalksLastModel", "gainThen", "[J", true)
  | 34 => ("GuideWalksLastModel", "isLaid", "[Z", true)
  | 35 => ("GuideWalksLastModel", "laid", "[I", true)
  | 36 => ("GuideWalksLastModel", "laidFee", "[I", true)
  | 37 => ("GuideWalksLastModel", "followSteps", "I", false)
  | 38 => ("GuideWalksLastModel", "isRound", "Z", false)
  | 39 => ("GuideWalksLastModel", "taken", "[I", true)
  | 40 => ("GuideWalksLastModel", "bestTaken", "[I", true)
  | 41 => ("GuideWalksLastModel", "bestMany", "I", false)
  | 42 => ("GuideWalksLastModel", "prints", "I", false)
  | 43 => ("GuideWalksLastModel", "printHeading", "I", false)
  | 44 => ("GuideWalksLastModel", "printCell", "[I", true)
  | 45 => ("GuideWalksLastModel", "waysFrom", "[J", true)
  | 46 => ("GuideWalksLastModel", "liesFrom", "[I", true)
  | 47 => ("GuideWalksLastModel", "worths", "[I", true)
  | 48 => ("GuideWalksLastModel", "hired", "[I", true)
  | 49 => ("GuideWalksLastModel", "bestHired", "[I", true)
  | 50 => ("GuideWalksLastModel", "bestHire", "I", false)
  | 51 => ("GuideWalksLastModel", "kept", "[I", true)
  | 52 => ("GuideWalksLastModel", "keptMoor", "[I", true)
  | _ => ("GuideWalksLastModel", "keptKind", "[I", true)
def ty12 : Nat → FieldType := fun k => match k with
  | 0 => .int
  | 1 => .int
  | 2 => (.array .long)
  | 3 => .int
  | 4 => .int
  | 5 => (.array .int)
  | 6 => .int
  | 7 => .int
  | 8 => .int
  | 9 => (.array .int)
  | 10 => .int
  | 11 => .int
  | 12 => .int
  | 13 => .int
  | 14 => .int
  | 15 => (.array .int)
  | 16 => (.array .int)
  | 17 => .int
  | 18 => .int
  | 19 => .int
  | 20 => (.array .int)
  | 21 => (.array .int)
  | 22 => (.array .int)
  | 23 => .int
  | 24 => (.array .int)
  | 25 => (.array .int)
  | 26 => (.array .boolean)
  | 27 => (.array .boolean)
  | 28 => (.array .long)
  | 29 => (.array .long)
  | 30 => (.array .long)
  | 31 => (.array .long)
  | 32 => (.array .long)
  | 33 => (.array .long)
  | 34 => (.array .boolean)
  | 35 => (.array .int)
  | 36 => (.array .int)
  | 37 => .int
  | 38 => .boolean
  | 39 => (.array .int)
  | 40 => (.array .int)
  | 41 => .int
  | 42 => .int
  | 43 => .int
  | 44 => (.array .int)
  | 45 => (.array .long)
  | 46 => (.array .int)
  | 47 => (.array .int)
  | 48 => (.array .int)
  | 49 => (.array .int)
  | 50 => .int
  | 51 => (.array .int)
  | 52 => (.array .int)
  | _ => (.array .int)
theorem nm12 : ∀ a, a < 54 → ∀ b, b < 54 → a ≠ b → (T12 a).2.1 ≠ (T12 b).2.1 := by decide +kernel
theorem tyk12 : ∀ k, k < 54 → parseFieldDescriptor (T12 k).2.2.1 = some (ty12 k) := by decide +kernel
theorem dcl12 : ∀ k, k < 54 → (T12 k).1 = R12 := by decide +kernel
abbrev vwCl : List vw_C := [(R0, T0, 6), (R1, T1, 12), (R2, T2, 6), (R3, T3, 4), (R4, T4, 2), (R5, T5, 7), (R6, T6, 3), (R7, T7, 8), (R8, T8, 2), (R9, T9, 3), (R10, T10, 5), (R11, T11, 19), (R12, T12, 54)]
def cN (ci : Nat) : Nat := match ci with
  | 0 => 6
  | 1 => 12
  | 2 => 6
  | 3 => 4
  | 4 => 2
  | 5 => 7
  | 6 => 3
  | 7 => 8
  | 8 => 2
  | 9 => 3
  | 10 => 5
  | 11 => 19
  | 12 => 54
  | _ => 0
def clT (ci : Nat) : u_T := match ci with
  | 0 => T0
  | 1 => T1
  | 2 => T2
  | 3 => T3
  | 4 => T4
  | 5 => T5
  | 6 => T6
  | 7 => T7
  | 8 => T8
  | 9 => T9
  | 10 => T10
  | 11 => T11
  | 12 => T12
  | _ => T0
def clR (ci : Nat) : String := match ci with
  | 0 => R0
  | 1 => R1
  | 2 => R2
  | 3 => R3
  | 4 => R4
  | 5 => R5
  | 6 => R6
  | 7 => R7
  | 8 => R8
  | 9 => R9
  | 10 => R10
  | 11 => R11
  | 12 => R12
  | _ => R0
def cT (ci : Nat) : Nat → FieldType := match ci with
  | 0 => ty0
  | 1 => ty1
  | 2 => ty2
  | 3 => ty3
  | 4 => ty4
  | 5 => ty5
  | 6 => ty6
  | 7 => ty7
  | 8 => ty8
  | 9 => ty9
  | 10 => ty10
  | 11 => ty11
  | 12 => ty12
  | _ => ty0
theorem tb_at {w : Cond} (i : Nat) (h : tables_1[i]? = some w) : w ∈ lw_tbl := List.mem_append_right _ (List.mem_of_getElem? h)
theorem tb_all {ws : List Cond} (ps : List Nat) (h : ps.map (fun i => tables_1[i]?) = ws.map some) : ∀ w ∈ ws, w ∈ lw_tbl := by
  intro w hw
  have h1 : some w ∈ ps.map (fun i => tables_1[i]?) := by rw [h]; exact List.mem_map.mpr ⟨w, hw, rfl⟩
  obtain ⟨i, -, hi⟩ := List.mem_map.mp h1
  exact tb_at i hi
theorem inT0 : ∀ w ∈ u_ws R0 T0 6, w ∈ lw_tbl := tb_all [136, 138, 140, 142, 144, 146] (by decide +kernel)
theorem inT1 : ∀ w ∈ u_ws R1 T1 12, w ∈ lw_tbl := tb_all [238, 240, 242, 244, 246, 248, 250, 252, 254, 256, 258, 260] (by decide +kernel)
theorem inT2 : ∀ w ∈ u_ws R2 T2 6, w ∈ lw_tbl := tb_all [201, 203, 205, 207, 209, 211] (by decide +kernel)
theorem inT3 : ∀ w ∈ u_ws R3 T3 4, w ∈ lw_tbl := tb_all [178, 180, 182, 184] (by decide +kernel)
theorem inT4 : ∀ w ∈ u_ws R4 T4 2, w ∈ lw_tbl := tb_all [58, 60] (by decide +kernel)
theorem inT5 : ∀ w ∈ u_ws R5 T5 7, w ∈ lw_tbl := tb_all [93, 95, 97, 99, 101, 103, 105] (by decide +kernel)
theorem inT6 : ∀ w ∈ u_ws R6 T6 3, w ∈ lw_tbl := tb_all [112, 114, 116] (by decide +kernel)
theorem inT7 : ∀ w ∈ u_ws R7 T7 8, w ∈ lw_tbl := tb_all [303, 305, 307, 309, 311, 313, 315, 317] (by decide +kernel)
theorem inT8 : ∀ w ∈ u_ws R8 T8 2, w ∈ lw_tbl := tb_all [43, 45] (by decide +kernel)
theorem inT9 : ∀ w ∈ u_ws R9 T9 3, w ∈ lw_tbl := tb_all [160, 162, 164] (by decide +kernel)
theorem inT10 : ∀ w ∈ u_ws R10 T10 5, w ∈ lw_tbl := tb_all [277, 279, 281, 283, 285] (by decide +kernel)
theorem inT11 : ∀ w ∈ u_ws R11 T11 19, w ∈ lw_tbl := tb_all [339, 341, 343, 345, 347, 349, 351, 353, 355, 357, 359, 361, 363, 365, 367, 369, 371, 373, 375] (by decide +kernel)
theorem inT12 : ∀ w ∈ u_ws R12 T12 54, w ∈ lw_tbl := tb_all [1152, 1154, 1156, 1158, 1160, 1162, 1164, 1166, 1168, 1170, 1172, 1174, 1176, 1178, 1180, 1182, 1184, 1186, 1188, 1190, 1192, 1194, 1196, 1198, 1200, 1202, 1204, 1206, 1208, 1210, 1212, 1214, 1216, 1218, 1220, 1222, 1224, 1226, 1228, 1230, 1232, 1234, 1236, 1238, 1240, 1242, 1244, 1246, 1248, 1250, 1252, 1254, 1256, 1258] (by decide +kernel)
